/-! each call: the class's method, then the reference's, from one state that both hold *)-/
/-- both systems hold the same: what was said, what is learned, the draft -/
def Iv (σ : pw_Mem) (S : Nat → Int32) (cnt : Int32) (n : Nat) (sg ar : Nat → Int32) (d : Nat) (gd : Nat → Bool) (to : Nat → Nat) : Prop :=
  (cS σ S cnt ∧ mS σ S cnt ∧ okS S) ∧ (cL σ n sg ar ∧ mL σ n sg ar ∧ okL n ar) ∧ cDr σ d gd to ∧ mDr σ d gd to
def Inv (σ : pw_Mem) : Prop := ∃ S cnt n sg ar d gd to, Iv σ S cnt n sg ar d gd to
section OPF
variable {σ σ' : pw_Mem} {S : Nat → Int32} {cnt : Int32} {n : Nat} {sg ar : Nat → Int32} {d : Nat} {gd : Nat → Bool} {to : Nat → Nat} {l f : List Nat}
theorem cS.fr (h : cS σ S cnt) (hf : fr l σ σ') (h1 : 1 ∉ l) (h2 : 2 ∉ l) : cS σ' S cnt := by unfold cS; rw [hf 1 h1, hf 2 h2]; exact h
theorem mS.fr (h : mS σ S cnt) (hf : fr l σ σ') (h1 : 29 ∉ l) (h2 : 30 ∉ l) : mS σ' S cnt := by unfold mS; rw [hf 29 h1, hf 30 h2]; exact h
theorem cL.fr (h : cL σ n sg ar) (hf : fr l σ σ') (h1 : 13 ∉ l) (h2 : 14 ∉ l) (h3 : 15 ∉ l) : cL σ' n sg ar := by unfold cL; rw [hf 13 h1, hf 14 h2, hf 15 h3]; exact h
theorem mL.fr (h : mL σ n sg ar) (hf : fr l σ σ') (h1 : 29 ∉ l) (h2 : 39 ∉ l) (h3 : 40 ∉ l) : mL σ' n sg ar := by unfold mL; rw [hf 29 h1, hf 39 h2, hf 40 h3]; exact h
theorem cDr.fr (h : cDr σ d gd to) (hf : fr l σ σ') (h1 : ∀ k, 17 ≤ k → k ≤ 27 → k ≠ 24 → k ∉ l) : cDr σ' d gd to := by
  obtain ⟨a, b⟩ := h
  refine ⟨by rw [hf 17 (h1 17 (by decide) (by decide) (by decide))]; exact a, ?_⟩
  rcases b with b | ⟨b1, b2, b3⟩
  · exact Or.inl b
  · exact Or.inr ⟨b1, b2.fr hf (h1 17 (by decide) (by decide) (by decide)) (h1 18 (by decide) (by decide) (by decide)) (h1 19 (by decide) (by decide) (by decide)), b3.fr hf (fun k k1 k2 k3 => h1 k (by omega) k2 k3)⟩
theorem mDr.fr (h : mDr σ d gd to) (hf : fr l σ σ') (h1 : 29 ∉ l) (h2 : 41 ∉ l) (h3 : 42 ∉ l) : mDr σ' d gd to := by
  unfold mDr mD0
  rw [hf 29 h1, hf 41 h2, hf 42 h3]; exact h
/-- what the reference does leaves the class alone -/
theorem mfr.cl (hf : mfr l f σ σ') (h : ∀ k, k < 29 → k ∉ l) : fr ((List.range 46).filter (fun k => 29 ≤ k)) σ σ' ∨ ∀ k, k < 29 → σ' k = σ k := Or.inr (fun k hk => hf.1 k (by omega) (h k hk))
theorem cS.mf (h : cS σ S cnt) (hf : mfr l f σ σ') (h1 : 1 ∉ l) (h2 : 2 ∉ l) : cS σ' S cnt := by unfold cS; rw [hf.1 1 (by decide) h1, hf.1 2 (by decide) h2]; exact h
theorem cL.mf (h : cL σ n sg ar) (hf : mfr l f σ σ') (h1 : 13 ∉ l) (h2 : 14 ∉ l) (h3 : 15 ∉ l) : cL σ' n sg ar := by unfold cL; rw [hf.1 13 (by decide) h1, hf.1 14 (by decide) h2, hf.1 15 (by decide) h3]; exact h
theorem cDr.mf (h : cDr σ d gd to) (hf : mfr l f σ σ') (h1 : ∀ k, 17 ≤ k → k ≤ 27 → k ≠ 24 → k ∉ l) : cDr σ' d gd to := h.fr (l := 29 :: l) (fun a ha => hf.1 a (fun q => ha (by rw [q]; exact List.mem_cons_self)) (fun q => ha (List.mem_cons_of_mem _ q))) (fun k k1 k2 k3 q => by
  rcases List.mem_cons.mp q with z | z
  · omega
  · exact h1 k k1 k2 k3 z)
theorem mS.mf (h : mS σ S cnt) (hf : mfr l f σ σ') (h1 : 30 ∉ l) (h2 : 1 ∉ f) : mS σ' S cnt := by unfold mS; rw [hf.1 30 (by decide) h1, hf.2 1 h2]; exact h
theorem mL.mf (h : mL σ n sg ar) (hf : mfr l f σ σ') (h1 : 39 ∉ l) (h2 : 40 ∉ l) (h3 : 14 ∉ f) : mL σ' n sg ar := by unfold mL; rw [hf.1 39 (by decide) h1, hf.1 40 (by decide) h2, hf.2 14 h3]; exact h
theorem mDr.mf (h : mDr σ d gd to) (hf : mfr l f σ σ') (h1 : 41 ∉ l) (h2 : 42 ∉ l) (h3 : 17 ∉ f) : mDr σ' d gd to := by
  unfold mDr mD0
  rw [hf.1 41 (by decide) h1, hf.1 42 (by decide) h2, hf.2 17 h3]; exact h
theorem not_l (l : List Nat) (h : (l.all (fun k => decide (k < 17) || decide (27 < k) || decide (k = 24))) = true) : ∀ k, 17 ≤ k → k ≤ 27 → k ≠ 24 → k ∉ l := by
  intro k k1 k2 k3 q
  have := List.all_eq_true.mp h k q
  simp only [Bool.or_eq_true, decide_eq_true_eq] at this
  omega
/-- a call of the reference that changes none of what is held -/
theorem Iv.mf (h : Iv σ S cnt n sg ar d gd to) (hf : mfr l f σ σ') (h1 : (l.all (fun k => decide (42 < k))) = true) (h2 : (f.all (fun k => decide (k ≠ 1) && decide (k ≠ 14) && decide (k ≠ 17))) = true) : Iv σ' S cnt n sg ar d gd to := by
  have a : ∀ k, k ≤ 42 → k ∉ l := fun k hk q => by
    have := List.all_eq_true.mp h1 k q
    simp only [decide_eq_true_eq] at this
    omega
  have b : ∀ k, k = 1 ∨ k = 14 ∨ k = 17 → k ∉ f := fun k hk q => by
    have := List.all_eq_true.mp h2 k q
    simp only [Bool.and_eq_true, decide_eq_true_eq] at this
    omega
  obtain ⟨⟨a1, a2, a3⟩, ⟨b1, b2, b3⟩, c1, c2⟩ := h
  exact ⟨⟨a1.mf hf (a 1 (by decide)) (a 2 (by decide)), a2.mf hf (a 30 (by decide)) (b 1 (by decide)), a3⟩, ⟨b1.mf hf (a 13 (by decide)) (a 14 (by decide)) (a 15 (by decide)), b2.mf hf (a 39 (by decide)) (a 40 (by decide)) (b 14 (by decide)), b3⟩, c1.mf hf (fun k _ k2 _ => a k (by omega)), c2.mf hf (a 41 (by decide)) (a 42 (by decide)) (b 17 (by decide))⟩
theorem Iv.f0 (h : Iv σ S cnt n sg ar d gd to) (x : Int32) : Iv (pw_set σ 29 0 x) S cnt n sg ar d gd to := h.mf (l := []) (f := [0]) (mfr.rf.fld (by decide)) rfl rfl
theorem Iv.inv (h : Iv σ S cnt n sg ar d gd to) : Inv σ := ⟨S, cnt, n, sg, ar, d, gd, to, h⟩
end OPF
/-- what the reference's method M then answers -/
def Nx (M : pw_M) (As : List Value) (fault : Int32) (good : Int32 → Prop) (σ : pw_Mem) : Prop := ∀ g : pw_G, WP g M 0 (lv_args 0 (.ref (pw_ad g 29) :: As)) [] 0 σ (fun r => ∃ v σ', r = (.inl (some (.int v)), σ') ∧ σ' 29 0 = fault ∧ good v ∧ Inv σ')
def NxV (M : pw_M) (As : List Value) (fault : Int32) (σ : pw_Mem) : Prop := ∀ g : pw_G, WP g M 0 (lv_args 0 (.ref (pw_ad g 29) :: As)) [] 0 σ (fun r => ∃ σ', r = (.inl none, σ') ∧ σ' 29 0 = fault ∧ Inv σ')
/-- a call that doesn't throw -/
def dQ (Q0 : Int32 → pw_Mem → Prop) : pw_R → Prop := fun r => ∃ y σ, r = (.inl (some (.int y)), σ) ∧ Q0 y σ
def dV (Q0 : pw_Mem → Prop) : pw_R → Prop := fun r => ∃ σ, r = (.inl none, σ) ∧ Q0 σ
section OPT
variable {g : pw_G} {σ : pw_Mem} (hl9 : (pw_l g).stackTraces = false) (hI : Inv σ)
theorem mk_ok (x : Int32) : mk x = -1 ∨ mk x = 0 ∨ mk x = 1 := by
  unfold mk
  split
  · exact Or.inl rfl
  · exact Or.inr (Or.inr rfl)
theorem T_teach (hl9 : (pw_l g).stackTraces = false) (hI : Inv σ) {x1 x2 x3 : Int32} : WP g mX4_teach 0 [(0, .ref (pw_ad g 0)), (1, .int x1), (2, .int x2), (3, .int x3)] [] 0 σ (wQ E_I E_S (fun y => Nx mX5_teach [.int x1, .int x2, .int x3] 0 (fun v => v = y)) (Nx mX5_teach [.int x1, .int x2, .int x3] 1 (fun _ => True)) (Nx mX5_teach [.int x1, .int x2, .int x3] 2 (fun _ => True))) := by
  obtain ⟨S, cnt, n, sg, ar, d, gd, to, h⟩ := hI
  by_cases hw : isW x1 x2
  · obtain ⟨w, w1, w2, e1, e2⟩ := isW_word hw
    refine C_teach_ok hl9 hw w1 w2 e1 h.1.1 (fun ha => Or.inr ⟨rfl, fun g' => M_teach_ok hw w1 w2 e2 h.1.2.1 (fun _ σ2 f2 h0 => ⟨_, σ2, rfl, h0, trivial, (h.mf f2 rfl rfl).inv⟩) (fun hb => absurd ha hb)⟩) (fun hb σ1 hS1 f1 g' => ?_)
    refine M_teach_ok hw w1 w2 e2 (h.1.2.1.fr f1 (by decide) (by decide)) (fun ha => absurd ha hb) (fun _ σ2 hS2 f2 h0 => ⟨_, σ2, rfl, h0, rfl, ?_⟩)
    refine Iv.inv ⟨⟨hS1.mf f2 (by decide) (by decide), hS2, fun v => ?_⟩, ⟨(h.2.1.1.fr f1 (by decide) (by decide) (by decide)).mf f2 (by decide) (by decide) (by decide), (h.2.1.2.1.fr f1 (by decide) (by decide) (by decide)).mf f2 (by decide) (by decide) (by decide), h.2.1.2.2⟩, (h.2.2.1.fr f1 (not_l _ rfl)).mf f2 (not_l _ rfl), (h.2.2.2.fr f1 (by decide) (by decide) (by decide)).mf f2 (by decide) (by decide) (by decide)⟩
    unfold upd
    split
    · exact mk_ok x3
    · exact h.1.2.2 v
  · exact C_teach_bad hl9 hw (Or.inl ⟨rfl, fun g' => M_teach_bad hw ⟨_, _, rfl, ms_same _ _ _ _, trivial, (h.f0 1).inv⟩⟩)
theorem T_told (hl9 : (pw_l g).stackTraces = false) (hI : Inv σ) {x1 x2 : Int32} : WP g mX4_told 0 [(0, .ref (pw_ad g 0)), (1, .int x1), (2, .int x2)] [] 0 σ (wQ E_I "" (fun y => Nx mX5_told [.int x1, .int x2] 0 (fun v => v = y)) (Nx mX5_told [.int x1, .int x2] 1 (fun _ => True)) (fun _ => False)) := by
  obtain ⟨S, cnt, n, sg, ar, d, gd, to, h⟩ := hI
  by_cases hw : isW x1 x2
  · obtain ⟨w, w1, w2, e1, e2⟩ := isW_word hw
    exact C_told_ok hl9 hw w1 w2 e1 h.1.1 (fun g' => M_told_ok hw w1 w2 e2 h.1.2.1 ⟨_, _, rfl, ms_same _ _ _ _, rfl, (h.f0 0).inv⟩)
  · exact C_told_bad hl9 hw (Or.inl ⟨rfl, fun g' => M_told_bad hw ⟨_, _, rfl, ms_same _ _ _ _, trivial, (h.f0 1).inv⟩⟩)
theorem T_size (hI : Inv σ) : WP g mX4_size 0 [(0, .ref (pw_ad g 0))] [] 0 σ (dQ (fun y => Nx mX5_size [] 0 (fun v => v = y))) := by
  obtain ⟨S, cnt, n, sg, ar, d, gd, to, h⟩ := hI
  exact C_size h.1.1 ⟨_, _, rfl, fun g' => M_size h.1.2.1 ⟨_, _, rfl, ms_same _ _ _ _, rfl, (h.f0 0).inv⟩⟩
theorem T_forget (hI : Inv σ) : WP g mX4_forget 0 [(0, .ref (pw_ad g 0))] [] 0 σ (dV (fun σ1 => ∀ g' : pw_G, WP g' mX5_forget 0 [(0, .ref (pw_ad g' 29))] [] 0 σ1 (dV Inv))) := by
  obtain ⟨S, cnt, n, sg, ar, d, gd, to, h⟩ := hI
  refine C_forget (fun σ1 hS1 f1 => ⟨_, rfl, fun g' => M_forget (fun σ2 hS2 f2 => ⟨_, rfl, ?_⟩)⟩)
  exact Iv.inv ⟨⟨hS1.mf f2 (by decide) (by decide), hS2, fun v => Or.inr (Or.inl rfl)⟩, ⟨(h.2.1.1.fr f1 (by decide) (by decide) (by decide)).mf f2 (by decide) (by decide) (by decide), (h.2.1.2.1.fr f1 (by decide) (by decide) (by decide)).mf f2 (by decide) (by decide) (by decide), h.2.1.2.2⟩, (h.2.2.1.fr f1 (not_l _ rfl)).mf f2 (not_l _ rfl), (h.2.2.2.fr f1 (by decide) (by decide) (by decide)).mf f2 (by decide) (by decide) (by decide)⟩
theorem T_learn (hI : Inv σ) : WP g mX4_learn 0 [(0, .ref (pw_ad g 0))] [] 0 σ (dQ (fun y => Nx mX5_learn [] 0 (fun v => v = y))) := by
  obtain ⟨S, cnt, n, sg, ar, d, gd, to, h⟩ := hI
  refine C_learn h.1.2.2 h.1.1 (fun σ1 sg1 ar1 f1 hs hF1 hL1 => ⟨_, _, rfl, fun g' => M_learn (cnt := cnt) h.1.2.2 (h.1.2.1.fr f1 (by decide) (by decide)) hs (fun σ2 sg2 ar2 f2 h0 hF2 hL2 => ⟨_, _, rfl, h0, rfl, ?_⟩)⟩)
  obtain ⟨u1, u2⟩ := FA_uni S (it_end S hs) hF2 hF1
  have hai := AI_it S hs 512 (Nat.le_refl _)
  refine Iv.inv (sg := sg1) (ar := ar1) ⟨⟨(h.1.1.fr f1 (by decide) (by decide)).mf f2 (by decide) (by decide), (h.1.2.1.fr f1 (by decide) (by decide)).mf f2 (by decide) (by decide), h.1.2.2⟩, ⟨hL1.mf f2 (by decide) (by decide) (by decide), ⟨hL2.1, fun k hk => (hL2.2.1 k hk).trans (u1 k hk), fun k hk => (hL2.2.2 k hk).trans (u2 k hk)⟩, AI_n S hai (hs 512 (Nat.le_refl _)), fun k hk => ?_⟩, (h.2.2.1.fr f1 (not_l _ rfl)).mf f2 (not_l _ rfl), (h.2.2.2.fr f1 (by decide) (by decide) (by decide)).mf f2 (by decide) (by decide) (by decide)⟩
  have f := hF1.2 (k / 2) (k % 2) (by omega) (by omega)
  rw [show 2 * (k / 2) + k % 2 = k by omega] at f
  by_cases q : ∃ v, 1 ≤ v ∧ Nn S (2 * v + k % 2) ∧ (it S 512).1 v ((it S 512).2.2.1 (k / 2))
  · obtain ⟨v, q1, q2, q3⟩ := q
    have hr : isR (it S 512) (2 * v + k % 2) := Classical.byContradiction fun z => it_end S hs _ _ ⟨q2, by omega, z, k / 2, by omega, by rw [show (2 * v + k % 2) / 2 = v by omega]; exact q3, rfl⟩
    obtain ⟨j, hj, ej⟩ := hr
    exact Or.inr ⟨j, hj, f.1 v j q1 q2 q3 hj ej⟩
  · exact Or.inl (f.2 (fun v a b c => q ⟨v, a, b, c⟩))
theorem T_states (hI : Inv σ) : WP g mX4_states 0 [(0, .ref (pw_ad g 0))] [] 0 σ (dQ (fun y => Nx mX5_states [] 0 (fun v => v = y))) := by
  obtain ⟨S, cnt, n, sg, ar, d, gd, to, h⟩ := hI
  exact C_states h.2.1.1 ⟨_, _, rfl, fun g' => M_states h.2.1.2.1 ⟨_, _, rfl, ms_same _ _ _ _, rfl, (h.f0 0).inv⟩⟩
theorem T_next (hl9 : (pw_l g).stackTraces = false) (hI : Inv σ) {x1 x2 : Int32} : WP g mX4_next 0 [(0, .ref (pw_ad g 0)), (1, .int x1), (2, .int x2)] [] 0 σ (wQ E_I "" (fun y => Nx mX5_next [.int x1, .int x2] 0 (fun v => v = y)) (Nx mX5_next [.int x1, .int x2] 1 (fun _ => True)) (fun _ => False)) := by
  obtain ⟨S, cnt, n, sg, ar, d, gd, to, h⟩ := hI
  have hn := h.2.1.2.2.1
  refine C_next hl9 h.2.1.1 h.2.1.2.2 (fun j l hj hl e1 e2 g' => M_next h.2.1.2.1 h.2.1.2.2 (fun j' l' hj' hl' e1' e2' => ⟨_, _, rfl, ms_same _ _ _ _, ?_, (h.f0 0).inv⟩) (fun q => absurd ⟨j, l, hj, hl, e1, e2⟩ q)) (fun q => Or.inl ⟨rfl, fun g' => M_next h.2.1.2.1 h.2.1.2.2 (fun j' l' hj' hl' e1' e2' => absurd ⟨j', l', hj', hl', e1', e2'⟩ q) (fun _ => ⟨_, _, rfl, ms_same _ _ _ _, trivial, (h.f0 1).inv⟩)⟩)
  rw [(nI_eq (by omega) (by omega)).mp (e1.symm.trans e1'), (nI_eq (by omega) (by omega)).mp (e2.symm.trans e2')]
theorem T_sign (hl9 : (pw_l g).stackTraces = false) (hI : Inv σ) {x1 : Int32} : WP g mX4_sign 0 [(0, .ref (pw_ad g 0)), (1, .int x1)] [] 0 σ (wQ E_I "" (fun y => Nx mX5_sign [.int x1] 0 (fun v => v = y)) (Nx mX5_sign [.int x1] 1 (fun _ => True)) (fun _ => False)) := by
  obtain ⟨S, cnt, n, sg, ar, d, gd, to, h⟩ := hI
  have hn := h.2.1.2.2.1
  refine C_sign hl9 h.2.1.1 h.2.1.2.2 (fun j hj e1 g' => M_sign h.2.1.2.1 h.2.1.2.2 (fun j' hj' e1' => ⟨_, _, rfl, ms_same _ _ _ _, ?_, (h.f0 0).inv⟩) (fun q => absurd ⟨j, hj, e1⟩ q)) (fun q => Or.inl ⟨rfl, fun g' => M_sign h.2.1.2.1 h.2.1.2.2 (fun j' hj' e1' => absurd ⟨j', hj', e1'⟩ q) (fun _ => ⟨_, _, rfl, ms_same _ _ _ _, trivial, (h.f0 1).inv⟩)⟩)
  rw [(nI_eq (by omega) (by omega)).mp (e1.symm.trans e1')]
theorem T_accepts (hl9 : (pw_l g).stackTraces = false) (hI : Inv σ) {x1 x2 : Int32} : WP g mX4_accepts 0 [(0, .ref (pw_ad g 0)), (1, .int x1), (2, .int x2)] [] 0 σ (wQ E_I E_S (fun y => Nx mX5_accepts [.int x1, .int x2] 0 (fun v => v = y)) (Nx mX5_accepts [.int x1, .int x2] 1 (fun _ => True)) (Nx mX5_accepts [.int x1, .int x2] 2 (fun _ => True))) := by
  obtain ⟨S, cnt, n, sg, ar, d, gd, to, h⟩ := hI
  by_cases hw : isW x1 x2
  · obtain ⟨w, w1, w2, e1, e2⟩ := isW_word hw
    exact C_accepts_ok hl9 hw w1 w2 e1 h.2.1.1 h.2.1.2.2 (fun hn => Or.inr ⟨rfl, fun g' => M_accepts_ok hw w1 w2 e1 h.2.1.2.1 h.2.1.2.2 (fun _ σ2 f2 h0 => ⟨_, _, rfl, h0, trivial, (h.mf f2 rfl rfl).inv⟩) (fun hb => absurd hn hb)⟩) (fun hn g' => M_accepts_ok hw w1 w2 e1 h.2.1.2.1 h.2.1.2.2 (fun ha => absurd ha hn) (fun _ σ2 f2 h0 => ⟨_, _, rfl, h0, rfl, (h.mf f2 rfl rfl).inv⟩))
  · exact C_accepts_bad hl9 hw (Or.inl ⟨rfl, fun g' => M_accepts_bad hw ⟨_, _, rfl, ms_same _ _ _ _, trivial, (h.f0 1).inv⟩⟩)
theorem T_draft (hl9 : (pw_l g).stackTraces = false) (hI : Inv σ) {x1 : Int32} : WP g mX4_draft 0 [(0, .ref (pw_ad g 0)), (1, .int x1)] [] 0 σ (wV E_A "" (NxV mX5_draft [.int x1] 0) (NxV mX5_draft [.int x1] 1) (fun _ => False)) := by
  obtain ⟨S, cnt, n, sg, ar, d, gd, to, h⟩ := hI
  refine C_draft hl9 (fun q => Or.inl ⟨rfl, fun g' => M_draft (fun _ => ⟨_, rfl, ms_same _ _ _ _, (h.f0 1).inv⟩) (fun k k1 k2 e => absurd ⟨k, k1, k2, e⟩ q)⟩) (fun k k1 k2 e σ1 f1 hD1 g' => M_draft (fun q => absurd ⟨k, k1, k2, e⟩ q) (fun k' k1' k2' e' σ2 f2 h0 hD2 => ⟨_, rfl, h0, ?_⟩))
  have ek : k = k' := (nI_eq (by omega) (by omega)).mp (e.symm.trans e')
  subst ek
  exact Iv.inv ⟨⟨(h.1.1.fr f1 (by decide) (by decide)).mf f2 (by decide) (by decide), (h.1.2.1.fr f1 (by decide) (by decide)).mf f2 (by decide) (by decide), h.1.2.2⟩, ⟨(h.2.1.1.fr f1 (by decide) (by decide) (by decide)).mf f2 (by decide) (by decide) (by decide), (h.2.1.2.1.fr f1 (by decide) (by decide) (by decide)).mf f2 (by decide) (by decide) (by decide), h.2.1.2.2⟩, hD1.mf f2 (not_l _ rfl), hD2⟩
theorem T_define (hl9 : (pw_l g).stackTraces = false) (hI : Inv σ) {x1 x2 x3 x4 : Int32} (hx2 : pw_bool x2) : WP g mX4_define 0 [(0, .ref (pw_ad g 0)), (1, .int x1), (2, .int x2), (3, .int x3), (4, .int x4)] [] 0 σ (wV E_S E_I (NxV mX5_define [.int x1, .int x2, .int x3, .int x4] 0) (NxV mX5_define [.int x1, .int x2, .int x3, .int x4] 1) (NxV mX5_define [.int x1, .int x2, .int x3, .int x4] 2)) := by
  obtain ⟨S, cnt, n, sg, ar, d, gd, to, h⟩ := hI
  have hd := h.2.2.1.lt
  refine C_define hl9 h.2.2.1 (fun hd0 => Or.inl ⟨rfl, fun g' => M_define h.2.2.2 hx2 (fun _ σ2 f2 h0 => ⟨_, rfl, h0, (h.mf f2 rfl rfl).inv⟩) (fun q => absurd q (by omega)) (fun a b c ha => absurd ha (by omega))⟩) (fun hd0 q => Or.inr ⟨rfl, fun g' => M_define h.2.2.2 hx2 (fun z => absurd z (by omega)) (fun _ _ σ2 f2 h0 => ⟨_, rfl, h0, (h.mf f2 rfl rfl).inv⟩) (fun a b c ha hb hc e1 e2 e3 => absurd ⟨a, b, c, ha, hb, hc, e1, e2, e3⟩ q)⟩) (fun a b c ha hb hc e1 e2 e3 σ1 f1 hD1 g' => M_define (h.2.2.2.fr f1 (by decide) (by decide) (by decide)) hx2 (fun z => absurd z (by omega)) (fun _ q => absurd ⟨a, b, c, ha, hb, hc, e1, e2, e3⟩ q) (fun a' b' c' ha' hb' hc' e1' e2' e3' σ2 f2 h0 hD2 => ⟨_, rfl, h0, ?_⟩))
  have i1 : a = a' := (nI_eq (by omega) (by omega)).mp (e1.symm.trans e1')
  have i2 : b = b' := (nI_eq (by omega) (by omega)).mp (e2.symm.trans e2')
  have i3 : c = c' := (nI_eq (by omega) (by omega)).mp (e3.symm.trans e3')
  subst i1 i2 i3
  exact Iv.inv ⟨⟨(h.1.1.fr f1 (by decide) (by decide)).mf f2 (by decide) (by decide), (h.1.2.1.fr f1 (by decide) (by decide)).mf f2 (by decide) (by decide), h.1.2.2⟩, ⟨(h.2.1.1.fr f1 (by decide) (by decide) (by decide)).mf f2 (by decide) (by decide) (by decide), (h.2.1.2.1.fr f1 (by decide) (by decide) (by decide)).mf f2 (by decide) (by decide) (by decide), h.2.1.2.2⟩, hD1.mf f2 (not_l _ rfl), hD2⟩
theorem T_least (hl9 : (pw_l g).stackTraces = false) (hI : Inv σ) : WP g mX4_least 0 [(0, .ref (pw_ad g 0))] [] 0 σ (wQ E_S "" (fun y => Nx mX5_least [] 0 (fun v => v = y)) (Nx mX5_least [] 1 (fun _ => True)) (fun _ => False)) := by
  obtain ⟨S, cnt, n, sg, ar, d, gd, to, h⟩ := hI
  exact C_least hl9 h.2.2.1 (fun hd => Or.inl ⟨rfl, fun g' => M_least h.2.2.2 (fun _ σ2 f2 h0 => ⟨_, _, rfl, h0, trivial, (h.mf f2 rfl rfl).inv⟩) (fun q => absurd q (by omega))⟩) (fun hd g' => M_least h.2.2.2 (fun q => absurd q (by omega)) (fun _ σ2 f2 h0 => ⟨_, _, rfl, h0, rfl, (h.mf f2 rfl rfl).inv⟩))
theorem T_name (hl9 : (pw_l g).stackTraces = false) (hI : Inv σ) {x1 : Int32} : WP g mX4_name 0 [(0, .ref (pw_ad g 0)), (1, .int x1)] [] 0 σ (wQ E_S E_I (fun y => Nx mX5_name [.int x1] 0 (fun v => v = y)) (Nx mX5_name [.int x1] 1 (fun _ => True)) (Nx mX5_name [.int x1] 2 (fun _ => True))) := by
  obtain ⟨S, cnt, n, sg, ar, d, gd, to, h⟩ := hI
  have hk : 0 < d → kC gd to ≤ 5 := fun hd => by
    rcases h.2.2.1.2 with q | q
    · omega
    · have := (k_facts (gd := gd) q.1).1; have := q.1.2.1; omega
  refine C_name hl9 h.2.2.1 (fun hd => Or.inl ⟨rfl, fun g' => M_name h.2.2.2 (fun _ σ2 f2 h0 => ⟨_, _, rfl, h0, trivial, (h.mf f2 rfl rfl).inv⟩) (fun q => absurd q (by omega)) (fun q => absurd q (by omega))⟩) (fun hd q => Or.inr ⟨rfl, fun g' => M_name h.2.2.2 (fun z => absurd z (by omega)) (fun _ _ σ2 f2 h0 => ⟨_, _, rfl, h0, trivial, (h.mf f2 rfl rfl).inv⟩) (fun _ k hk e => absurd ⟨k, hk, e⟩ q)⟩) (fun hd k hk1 e g' => M_name h.2.2.2 (fun z => absurd z (by omega)) (fun _ q => absurd ⟨k, hk1, e⟩ q) (fun _ k' hk' e' σ2 f2 h0 => ⟨_, _, rfl, h0, ?_, (h.mf f2 rfl rfl).inv⟩))
  have := hk hd
  rw [(nI_eq (by omega) (by omega)).mp (e.symm.trans e')]
theorem T_apart (hl9 : (pw_l g).stackTraces = false) (hI : Inv σ) {x1 x2 : Int32} : WP g mX4_apart 0 [(0, .ref (pw_ad g 0)), (1, .int x1), (2, .int x2)] [] 0 σ (wQ E_S E_I (fun y => Nx mX5_apart [.int x1, .int x2] 0 (fun v => v = y)) (Nx mX5_apart [.int x1, .int x2] 1 (fun _ => True)) (Nx mX5_apart [.int x1, .int x2] 2 (fun _ => True))) := by
  obtain ⟨S, cnt, n, sg, ar, d, gd, to, h⟩ := hI
  have hk : 0 < d → kC gd to ≤ 5 := fun hd => by
    rcases h.2.2.1.2 with q | q
    · omega
    · have := (k_facts (gd := gd) q.1).1; have := q.1.2.1; omega
  refine C_apart hl9 h.2.2.1 (fun hd => Or.inl ⟨rfl, fun g' => M_apart h.2.2.2 (fun _ σ2 f2 h0 => ⟨_, _, rfl, h0, trivial, (h.mf f2 rfl rfl).inv⟩) (fun q => absurd q (by omega)) (fun q => absurd q (by omega))⟩) (fun hd q => Or.inr ⟨rfl, fun g' => M_apart h.2.2.2 (fun z => absurd z (by omega)) (fun _ _ σ2 f2 h0 => ⟨_, _, rfl, h0, trivial, (h.mf f2 rfl rfl).inv⟩) (fun _ a b ha hb e1 e2 => absurd ⟨a, b, ha, hb, e1, e2⟩ q)⟩) (fun hd a b ha hb e1 e2 g' => M_apart h.2.2.2 (fun z => absurd z (by omega)) (fun _ q => absurd ⟨a, b, ha, hb, e1, e2⟩ q) (fun _ a' b' ha' hb' e1' e2' σ2 f2 h0 => ⟨_, _, rfl, h0, ?_, (h.mf f2 rfl rfl).inv⟩))
  have := hk hd
  rw [(nI_eq (by omega) (by omega)).mp (e1.symm.trans e1'), (nI_eq (by omega) (by omega)).mp (e2.symm.trans e2')]
theorem T_exemplify (hl9 : (pw_l g).stackTraces = false) (hI : Inv σ) : WP g mX4_exemplify 0 [(0, .ref (pw_ad g 0))] [] 0 σ (wQ E_S E_A (fun y => Nx mX5_exemplify [] 0 (fun v => v = y)) (Nx mX5_exemplify [] 1 (fun _ => True)) (Nx mX5_exemplify [] 2 (fun _ => True))) := by
  obtain ⟨S, cnt, n, sg, ar, d, gd, to, h⟩ := hI
  refine C_exemplify hl9 h.2.2.1 h.1.1 h.1.2.2 (fun hd => Or.inl ⟨rfl, fun g' => M_exemplify h.2.2.2 h.1.2.1 h.1.2.2 (fun _ => ⟨_, _, rfl, ms_same _ _ _ _, trivial, (h.f0 1).inv⟩) (fun q => absurd q (by omega)) (fun q => absurd q (by omega))⟩) (fun hd hc σ1 f1 => Or.inr ⟨rfl, fun g' => M_exemplify (h.2.2.2.fr f1 (by decide) (by decide) (by decide)) (h.1.2.1.fr f1 (by decide) (by decide)) h.1.2.2 (fun q => absurd q (by omega)) (fun _ _ σ2 f2 h0 => ⟨_, _, rfl, h0, trivial, ?_⟩) (fun _ q => absurd hc q)⟩) (fun hd hc σ1 f1 hS1 g' => M_exemplify (h.2.2.2.fr f1 (by decide) (by decide) (by decide)) (h.1.2.1.fr f1 (by decide) (by decide)) h.1.2.2 (fun q => absurd q (by omega)) (fun _ q => absurd q hc) (fun _ _ σ2 f2 h0 hS2 => ⟨_, _, rfl, h0, rfl, ?_⟩))
  · have h1 : Iv σ1 S cnt n sg ar d gd to := ⟨⟨h.1.1.fr f1 (by decide) (by decide), h.1.2.1.fr f1 (by decide) (by decide), h.1.2.2⟩, ⟨h.2.1.1.fr f1 (by decide) (by decide) (by decide), h.2.1.2.1.fr f1 (by decide) (by decide) (by decide), h.2.1.2.2⟩, h.2.2.1.fr f1 (not_l _ rfl), h.2.2.2.fr f1 (by decide) (by decide) (by decide)⟩
    exact (h1.mf f2 rfl rfl).inv
  · exact Iv.inv ⟨⟨hS1.mf f2 (by decide) (by decide), hS2, exS_ok gd to S h.1.2.2⟩, ⟨(h.2.1.1.fr f1 (by decide) (by decide) (by decide)).mf f2 (by decide) (by decide) (by decide), (h.2.1.2.1.fr f1 (by decide) (by decide) (by decide)).mf f2 (by decide) (by decide) (by decide), h.2.1.2.2⟩, (h.2.2.1.fr f1 (not_l _ rfl)).mf f2 (not_l _ rfl), (h.2.2.2.fr f1 (by decide) (by decide) (by decide)).mf f2 (by decide) (by decide) (by decide)⟩
theorem T_same (hl9 : (pw_l g).stackTraces = false) (hI : Inv σ) : WP g mX4_same 0 [(0, .ref (pw_ad g 0))] [] 0 σ (wQ E_S "" (fun y => Nx mX5_same [] 0 (fun v => v = y)) (Nx mX5_same [] 1 (fun _ => True)) (fun _ => False)) := by
  obtain ⟨S, cnt, n, sg, ar, d, gd, to, h⟩ := hI
  refine C_same hl9 h.2.2.1 h.2.1.1 h.2.1.2.2 (fun hd => Or.inl ⟨rfl, fun g' => M_same h.2.2.2 h.2.1.2.1 h.2.1.2.2 (fun _ σ2 f2 h0 => ⟨_, _, rfl, h0, trivial, (h.mf f2 rfl rfl).inv⟩) (fun a b => absurd hd (by omega)) (fun a b => absurd hd (by omega))⟩) (fun hd hn hs g' => M_same h.2.2.2 h.2.1.2.1 h.2.1.2.2 (fun z => absurd z (by omega)) (fun _ _ _ σ2 f2 h0 => ⟨_, _, rfl, h0, rfl, (h.mf f2 rfl rfl).inv⟩) (fun _ _ q => absurd hs q)) (fun hd hn hs g' => M_same h.2.2.2 h.2.1.2.1 h.2.1.2.2 (fun z => absurd z (by omega)) (fun _ _ q => absurd q hs) (fun _ _ _ σ2 f2 h0 => ⟨_, _, rfl, h0, rfl, (h.mf f2 rfl rfl).inv⟩))
end OPT
