/-! frames; Arrays.fill; the sample, both sides -/
def fr (l : List Nat) (σ σ' : pw_Mem) : Prop := ∀ a, a ∉ l → σ' a = σ a
/-- the reference's object is cell 29: of it only the fields f change -/
def mfr (l f : List Nat) (σ σ' : pw_Mem) : Prop := (∀ a, a ≠ 29 → a ∉ l → σ' a = σ a) ∧ ∀ i, i ∉ f → σ' 29 i = σ 29 i
theorem fr.rf {l : List Nat} {σ : pw_Mem} : fr l σ σ := fun _ _ => rfl
theorem fr.tr {l : List Nat} {σ σ1 σ2 : pw_Mem} (h : fr l σ σ1) (k : fr l σ1 σ2) : fr l σ σ2 := fun a ha => (k a ha).trans (h a ha)
theorem fr.mono {l l' : List Nat} {σ σ1 : pw_Mem} (h : fr l σ σ1) (k : ∀ a, a ∈ l → a ∈ l') : fr l' σ σ1 := fun a ha => h a (fun q => ha (k a q))
theorem fr.set {l : List Nat} {σ σ1 : pw_Mem} (h : fr l σ σ1) {k i : Nat} {x : Int32} (hk : k ∈ l) : fr l σ (pw_set σ1 k i x) := fun a ha => (pw_set_ne _ _ _ _ (fun (q : a = k) => ha (by rw [q]; exact hk))).trans (h a ha)
theorem mfr.rf {l f : List Nat} {σ : pw_Mem} : mfr l f σ σ := ⟨fun _ _ _ => rfl, fun _ _ => rfl⟩
theorem mfr.tr {l f : List Nat} {σ σ1 σ2 : pw_Mem} (h : mfr l f σ σ1) (k : mfr l f σ1 σ2) : mfr l f σ σ2 := ⟨fun a h1 h2 => (k.1 a h1 h2).trans (h.1 a h1 h2), fun i hi => (k.2 i hi).trans (h.2 i hi)⟩
theorem mfr.mono {l f l' f' : List Nat} {σ σ1 : pw_Mem} (h : mfr l f σ σ1) (k : ∀ a, a ∈ l → a ∈ l') (k' : ∀ a, a ∈ f → a ∈ f') : mfr l' f' σ σ1 := ⟨fun a h1 h2 => h.1 a h1 (fun q => h2 (k a q)), fun i hi => h.2 i (fun q => hi (k' i q))⟩
theorem mfr.set {l f : List Nat} {σ σ1 : pw_Mem} (h : mfr l f σ σ1) {k i : Nat} {x : Int32} (hk : k ∈ l) (hk9 : k ≠ 29) : mfr l f σ (pw_set σ1 k i x) :=
  ⟨fun a h1 h2 => (pw_set_ne _ _ _ _ (fun (q : a = k) => h2 (by rw [q]; exact hk))).trans (h.1 a h1 h2), fun j hj => by rw [pw_set_ne _ _ _ _ (fun q => hk9 q.symm)]; exact h.2 j hj⟩
theorem mfr.fld {l f : List Nat} {σ σ1 : pw_Mem} (h : mfr l f σ σ1) {i : Nat} {x : Int32} (hi : i ∈ f) : mfr l f σ (pw_set σ1 29 i x) :=
  ⟨fun a h1 h2 => (pw_set_ne _ _ _ _ h1).trans (h.1 a h1 h2), fun j hj => by
    rw [pw_set_eq, upd, if_neg (fun (q : j = i) => hj (by rw [q]; exact hi))]
    exact h.2 j hj⟩
theorem ms_eq (σ : pw_Mem) (k i j : Nat) (x : Int32) : pw_set σ k i x k j = if j = i then x else σ k j := by simp [pw_set, upd]
theorem ms_same (σ : pw_Mem) (k i : Nat) (x : Int32) : pw_set σ k i x k i = x := by simp [pw_set, upd]
theorem ms_ne (σ : pw_Mem) (k i : Nat) (x : Int32) {a : Nat} (j : Nat) (h : a ≠ k) : pw_set σ k i x a j = σ a j := by rw [pw_set_ne _ _ _ _ h]
theorem ms_ne2 (σ : pw_Mem) (k i : Nat) (x : Int32) {a j : Nat} (h : j ≠ i) : pw_set σ k i x a j = σ a j := by
  by_cases e : a = k
  · subst e; rw [ms_eq, if_neg h]
  · exact ms_ne _ _ _ _ _ e
theorem pw_ln_46 : ∀ k, k < 46 → pw_ln k ≤ 1024 := by decide +kernel
theorem pw_ln_le {k c : Nat} (h : pw_kd k = c) (hc : c < 9) : pw_ln k ≤ 1024 := pw_ln_46 k (pw_kd_lt h hc)
section HSA
variable {g : pw_G} {σ : pw_Mem} {Q : pw_R → Prop}
theorem c_fill {k : Nat} (hk : pw_kd k = 6) {x : Int32} (h : ∀ σ', fr [k] σ σ' → (∀ j, j < pw_ln k → σ' k j = x) → Q (.inl none, σ')) : WP g mJ7_fill_53178 0 [(0, .ref (pw_ad g k)), (1, .int x)] [] 0 σ Q := by
  have hle := pw_ln_le hk (by decide)
  have loop : ∀ n i : Nat, i + n = pw_ln k → ∀ σ1, fr [k] σ σ1 → (∀ j, j < i → σ1 k j = x) → WP g mJ7_fill_53178 5 [(0, .ref (pw_ad g k)), (1, .int x), (2, .int (nI i)), (3, .int (nI (pw_ln k)))] [] 0 σ1 Q := by
    intro n
    induction n with
    | zero =>
      intro i hi σ1 hf hx
      refine bJ7_fill_53178_5 hk (fun _ => h σ1 hf (fun j hj => hx j (by omega))) (fun a => ?_) (fun a => ?_)
      · exact absurd (nI_le (by omega) (by omega)) a
      · exact absurd (nI_le (by omega) (by omega)) a
    | succ n ih =>
      intro i hi σ1 hf hx
      refine bJ7_fill_53178_5 hk (fun a => ?_) (fun a => vp_in_nI (by omega) (by omega)) (fun a => ?_)
      · exact absurd a (nI_ge (by omega) (by omega))
      · rw [show nI i + 1 = nI (i + 1) from nI_1 i, nI_clamp (by omega)]
        refine ih (i + 1) (by omega) _ (hf.set List.mem_cons_self) (fun j hj => ?_)
        rw [ms_eq]
        by_cases e : j = i
        · rw [if_pos e]
        · rw [if_neg e]; exact hx j (by omega)
  exact bJ7_fill_53178_0 hk (loop (pw_ln k) 0 (by omega) σ fr.rf (fun j hj => absurd hj (by omega)))
/-- the sample: marks by the words' numbers, how many -/
def cS (σ : pw_Mem) (S : Nat → Int32) (cnt : Int32) : Prop := (∀ w, 1 ≤ w → w < 512 → σ 2 w = S w) ∧ σ 1 1 = cnt
def mS (σ : pw_Mem) (S : Nat → Int32) (cnt : Int32) : Prop := (∀ w, 1 ≤ w → w < 512 → σ 30 (w - 1) = S w) ∧ σ 29 1 = cnt
def mk (x : Int32) : Int32 := if x = 0 then -1 else 1
abbrev E_I : String := "java/lang/IndexOutOfBoundsException"
abbrev E_S : String := "java/lang/IllegalStateException"
abbrev E_A : String := "java/lang/IllegalArgumentException"
theorem c_take {S : Nat → Int32} {cnt : Int32} {w : Nat} {x : Int32} (h1 : 1 ≤ w) (h2 : w < 512) (hS : cS σ S cnt)
    (h : ∀ σ', cS σ' (upd S w x) (if S w = 0 then cnt + 1 else cnt) → fr [1, 2] σ σ' → Q (.inl (some (.int (if S w = 0 then 1 else 0))), σ')) : WP g mX3_take 0 [(0, .ref (pw_ad g 1)), (1, .int (nI w)), (2, .int x)] [] 0 σ Q := by
  have hin : vp_in (nI w) 512 := vp_in_nI h2 (by decide)
  have hc : (nI w).toNatClampNeg = w := nI_clamp (by omega)
  refine bX3_take_0 hin (fun _ => hin) (fun a => ?_) (fun _ => hin) (fun a => ?_)
  · rw [hc, hS.1 w h1 h2] at a
    rw [if_neg a, if_neg a] at h
    rw [hc]
    refine h _ ⟨fun v hv1 hv2 => ?_, ?_⟩ (fr.rf.set (by decide))
    · rw [ms_eq, upd, hS.1 v hv1 hv2]
    · rw [ms_ne _ _ _ _ _ (by decide)]; exact hS.2
  · rw [hc, hS.1 w h1 h2] at a
    rw [if_pos a, if_pos a] at h
    rw [hc]
    refine h _ ⟨fun v hv1 hv2 => ?_, ?_⟩ ((fr.rf.set (by decide)).set (by decide))
    · rw [ms_ne _ _ _ _ _ (by decide), ms_eq, upd, hS.1 v hv1 hv2]
    · rw [ms_same, hS.2]
theorem C_teach_bad {x1 x2 x3 : Int32} (hl9 : (pw_l g).stackTraces = false) (hn : ¬ isW x1 x2) (h : Q (.inr E_I, σ)) : WP g mX4_teach 0 [(0, .ref (pw_ad g 0)), (1, .int x1), (2, .int x2), (3, .int x3)] [] 0 σ Q :=
  bX4_teach_0 (c_checkedWord hl9 (fun _ => h) (fun q => absurd q hn))
theorem C_teach_ok {x1 x2 x3 : Int32} (hl9 : (pw_l g).stackTraces = false) {S : Nat → Int32} {cnt : Int32} {w : Nat} (hw : isW x1 x2) (h1 : 1 ≤ w) (h2 : w < 512) (e : ((1 : Int32) <<< (x1 &&& 31)) + x2 = nI w) (hS : cS σ S cnt)
    (ha : S w = -mk x3 → Q (.inr E_S, σ)) (hb : ¬ S w = -mk x3 → ∀ σ', cS σ' (upd S w (mk x3)) (if S w = 0 then cnt + 1 else cnt) → fr [1, 2] σ σ' → Q (.inl (some (.int (if S w = 0 then 1 else 0))), σ')) : WP g mX4_teach 0 [(0, .ref (pw_ad g 0)), (1, .int x1), (2, .int x2), (3, .int x3)] [] 0 σ Q := by
  have hin : vp_in (nI w) 512 := vp_in_nI h2 (by decide)
  have hc : (nI w).toNatClampNeg = w := nI_clamp (by omega)
  refine bX4_teach_0 (c_checkedWord hl9 (fun q => absurd hw q) (fun _ => ?_))
  rw [e]
  have rest : ∀ y : Int32, y = mk x3 → WP g mX3_markOf 0 [(0, .ref (pw_ad g 1)), (1, .int (nI w))] [] 0 σ (pw_k g mX4_teach 27 [(0, .ref (pw_ad g 0)), (1, .int x1), (2, .int x2), (3, .int x3), (4, .int (nI w)), (5, .int y)] [] 1 Q) := by
    intro y hy
    refine bX3_markOf_0 hin ?_
    rw [hc, hS.1 w h1 h2]
    refine bX4_teach_27 hl9 (fun a => ?_) (fun a => ha (by rw [a, hy]))
    rw [hy]
    refine c_take h1 h2 hS (fun σ' k1 k2 => ?_)
    refine bX4_teach_54 ?_ (hb (by rw [← hy]; exact a) σ' k1 k2)
    by_cases q : S w = 0
    · rw [if_pos q]; exact Or.inr rfl
    · rw [if_neg q]; exact Or.inl rfl
  refine bX4_teach_5 (fun a => rest _ ?_) (fun a => rest _ ?_)
  · rw [mk, if_pos a]
  · rw [mk, if_neg a]
theorem C_told_bad {x1 x2 : Int32} (hl9 : (pw_l g).stackTraces = false) (hn : ¬ isW x1 x2) (h : Q (.inr E_I, σ)) : WP g mX4_told 0 [(0, .ref (pw_ad g 0)), (1, .int x1), (2, .int x2)] [] 0 σ Q :=
  bX4_told_0 (c_checkedWord hl9 (fun _ => h) (fun q => absurd q hn))
theorem C_told_ok {x1 x2 : Int32} (hl9 : (pw_l g).stackTraces = false) {S : Nat → Int32} {cnt : Int32} {w : Nat} (hw : isW x1 x2) (h1 : 1 ≤ w) (h2 : w < 512) (e : ((1 : Int32) <<< (x1 &&& 31)) + x2 = nI w) (hS : cS σ S cnt)
    (h : Q (.inl (some (.int (S w))), σ)) : WP g mX4_told 0 [(0, .ref (pw_ad g 0)), (1, .int x1), (2, .int x2)] [] 0 σ Q := by
  refine bX4_told_0 (c_checkedWord hl9 (fun q => absurd hw q) (fun _ => ?_))
  rw [e]
  refine bX4_told_9 (bX3_markOf_0 (vp_in_nI h2 (by decide)) ?_)
  rw [nI_clamp (by omega), hS.1 w h1 h2]
  exact bX4_told_12 h
theorem C_size {S : Nat → Int32} {cnt : Int32} (hS : cS σ S cnt) (h : Q (.inl (some (.int cnt)), σ)) : WP g mX4_size 0 [(0, .ref (pw_ad g 0))] [] 0 σ Q := by
  refine bX4_size_0 (bX3_count_0 ?_)
  rw [hS.2]
  exact bX4_size_7 h
theorem C_forget (h : ∀ σ', cS σ' (fun _ => 0) 0 → fr [1, 2] σ σ' → Q (.inl none, σ')) : WP g mX4_forget 0 [(0, .ref (pw_ad g 0))] [] 0 σ Q := by
  refine bX4_forget_0 (bX3_clear_0 (c_fill (k := 2) rfl (fun σ' hf hx => ?_)))
  refine bX3_clear_8 (bX4_forget_7 (h _ ⟨fun w h1 h2 => ?_, ms_same _ _ _ _⟩ ((hf.mono (by decide)).set (by decide))))
  rw [ms_ne _ _ _ _ _ (by decide)]
  exact hx w h2
/-- the reference's 'when' -/
theorem m_when {x2 : Int32} {b : Bool} (h : Q (.inl (some (.int (if b then 1 else 0))), pw_set σ 29 0 (if b then 0 else x2))) : WP g mX5_when 0 [(0, .ref (pw_ad g 29)), (1, .int (if b then 1 else 0)), (2, .int x2)] [] 0 σ Q := by
  cases b
  · exact bX5_when_0 (fun _ => Or.inl rfl) (fun _ => h) (fun a => absurd rfl a) (fun a => absurd rfl a)
  · exact bX5_when_0 (fun a => absurd a (by decide)) (fun a => absurd a (by decide)) (fun _ => Or.inr rfl) (fun _ => h)
theorem m_whenF {x2 : Int32} (h : Q (.inl (some (.int 0)), pw_set σ 29 0 x2)) : WP g mX5_when 0 [(0, .ref (pw_ad g 29)), (1, .int 0), (2, .int x2)] [] 0 σ Q := m_when (b := false) h
theorem m_whenT {x2 : Int32} (h : Q (.inl (some (.int 1)), pw_set σ 29 0 0)) : WP g mX5_when 0 [(0, .ref (pw_ad g 29)), (1, .int 1), (2, .int x2)] [] 0 σ Q := m_when (b := true) h
theorem M_teach_bad {x1 x2 x3 : Int32} (hn : ¬ isW x1 x2) (h : Q (.inl (some (.int 0)), pw_set σ 29 0 1)) : WP g mX5_teach 0 [(0, .ref (pw_ad g 29)), (1, .int x1), (2, .int x2), (3, .int x3)] [] 0 σ Q :=
  bX5_teach_0 (m_isWord (fun _ => bX5_teach_6 (m_whenF (bX5_teach_10 (fun a => absurd rfl a) (fun _ => h)))) (fun q => absurd q hn))
theorem M_teach_ok {x1 x2 x3 : Int32} {S : Nat → Int32} {cnt : Int32} {w : Nat} (hw : isW x1 x2) (h1 : 1 ≤ w) (h2 : w < 512) (e : (((1 : Int32) <<< (x1 &&& 31)) - (1 : Int32)) + x2 = nI (w - 1)) (hS : mS σ S cnt)
    (ha : S w = -mk x3 → ∀ σ', mfr [] [0] σ σ' → σ' 29 0 = 2 → Q (.inl (some (.int 0)), σ')) (hb : ¬ S w = -mk x3 → ∀ σ', mS σ' (upd S w (mk x3)) (if S w = 0 then cnt + 1 else cnt) → mfr [30] [0, 1] σ σ' → σ' 29 0 = 0 → Q (.inl (some (.int (if S w = 0 then 1 else 0))), σ')) : WP g mX5_teach 0 [(0, .ref (pw_ad g 29)), (1, .int x1), (2, .int x2), (3, .int x3)] [] 0 σ Q := by
  have hin : vp_in (nI (w - 1)) 511 := vp_in_nI (by omega) (by decide)
  have hc : (nI (w - 1)).toNatClampNeg = w - 1 := nI_clamp (by omega)
  refine bX5_teach_0 (m_isWord (fun q => absurd hw q) (fun _ => bX5_teach_6 (m_whenT (bX5_teach_10 (fun _ => bX5_number_0 ?_) (fun a => absurd a (by decide))))))
  rw [e]
  have e30 : ∀ y, pw_set (pw_set σ 29 0 0) 29 0 y 30 (w - 1) = S w := fun y => by
    rw [ms_ne _ _ _ _ _ (by decide), ms_ne _ _ _ _ _ (by decide)]; exact hS.1 w h1 h2
  have e30' : pw_set σ 29 0 0 30 (w - 1) = S w := by
    rw [ms_ne _ _ _ _ _ (by decide)]; exact hS.1 w h1 h2
  have no : ∀ y : Int32, y = mk x3 → S w = -y → WP g mX5_when 0 [(0, .ref (pw_ad g 29)), (1, .int (0 : Int32)), (2, .int (2 : Int32))] [] 0 (pw_set σ 29 0 0) (pw_k g mX5_teach 56 [(0, .ref (pw_ad g 29)), (1, .int x1), (2, .int x2), (3, .int x3), (4, .int (nI (w - 1))), (5, .int y)] [] 0 Q) := by
    intro y hy q
    refine m_whenF (bX5_teach_56 (fun a => absurd rfl a) (fun a => absurd rfl a) (fun a => absurd rfl a) (fun a => absurd rfl a) (fun a => absurd rfl a) (fun _ => ha (hy ▸ q) _ ((mfr.rf.fld (by decide)).fld (by decide)) (ms_same _ _ _ _)))
  have yes : ∀ y : Int32, y = mk x3 → ¬ S w = -y → WP g mX5_when 0 [(0, .ref (pw_ad g 29)), (1, .int (1 : Int32)), (2, .int (2 : Int32))] [] 0 (pw_set σ 29 0 0) (pw_k g mX5_teach 56 [(0, .ref (pw_ad g 29)), (1, .int x1), (2, .int x2), (3, .int x3), (4, .int (nI (w - 1))), (5, .int y)] [] 0 Q) := by
    intro y hy q
    have hS1 : ∀ v, 1 ≤ v → v < 512 → ∀ (z : Int32) (c : Int32), pw_set (pw_set (pw_set (pw_set σ 29 0 0) 29 0 0) 30 (w - 1) y) 29 1 c 30 (v - 1) = upd S w (mk x3) v := by
      intro v hv1 hv2 z c
      rw [ms_ne _ _ _ _ _ (by decide), ms_eq, ms_ne _ _ _ _ _ (by decide), ms_ne _ _ _ _ _ (by decide), hS.1 v hv1 hv2, upd, hy]
      by_cases ev : v = w
      · rw [if_pos (by omega), if_pos ev]
      · rw [if_neg (by omega), if_neg ev]
    have hfr : ∀ c : Int32, mfr [30] [0, 1] σ (pw_set (pw_set (pw_set (pw_set σ 29 0 0) 29 0 0) 30 (w - 1) y) 29 1 c) := fun c => (((mfr.rf.fld (by decide)).fld (by decide)).set (by decide) (by decide)).fld (by decide)
    have hft : ∀ c : Int32, pw_set (pw_set (pw_set (pw_set σ 29 0 0) 29 0 0) 30 (w - 1) y) 29 1 c 29 0 = 0 := fun c => by
      rw [ms_ne2 _ _ _ _ (by decide), ms_ne _ _ _ _ _ (by decide), ms_same]
    have hct : pw_set (pw_set σ 29 0 0) 29 0 0 29 1 = cnt := by
      rw [ms_ne2 _ _ _ _ (by decide), ms_ne2 _ _ _ _ (by decide)]; exact hS.2
    refine m_whenT (bX5_teach_56 (fun _ => hin) (fun _ _ => hin) (fun _ a => ?_) (fun _ _ => hin) (fun _ a => ?_) (fun a => absurd a (by decide)))
    · rw [hc, e30] at a
      have hb2 := hb (hy ▸ q)
      rw [if_neg a, if_neg a] at hb2
      rw [hc, hct]
      exact hb2 _ ⟨fun v hv1 hv2 => hS1 v hv1 hv2 0 _, ms_same _ _ _ _⟩ (hfr _) (hft _)
    · rw [hc, e30] at a
      have hb2 := hb (hy ▸ q)
      rw [if_pos a, if_pos a] at hb2
      rw [hc, hct]
      exact hb2 _ ⟨fun v hv1 hv2 => hS1 v hv1 hv2 0 _, ms_same _ _ _ _⟩ (hfr _) (hft _)
  refine bX5_teach_20 (fun _ => hin) (fun a b => no _ ?_ ?_) (fun a b => yes _ ?_ ?_) (fun _ => hin) (fun a b => no _ ?_ ?_) (fun a b => yes _ ?_ ?_)
  · rw [mk, if_pos a]
  · rw [hc, e30'] at b; exact b
  · rw [mk, if_pos a]
  · rw [hc, e30'] at b; exact b
  · rw [mk, if_neg a]
  · rw [hc, e30'] at b; exact b
  · rw [mk, if_neg a]
  · rw [hc, e30'] at b; exact b
theorem M_told_bad {x1 x2 : Int32} (hn : ¬ isW x1 x2) (h : Q (.inl (some (.int 0)), pw_set σ 29 0 1)) : WP g mX5_told 0 [(0, .ref (pw_ad g 29)), (1, .int x1), (2, .int x2)] [] 0 σ Q :=
  bX5_told_0 (m_isWord (fun _ => bX5_told_6 (m_whenF (bX5_told_10 (fun _ => h) (fun a => absurd rfl a)))) (fun q => absurd q hn))
theorem M_told_ok {x1 x2 : Int32} {S : Nat → Int32} {cnt : Int32} {w : Nat} (hw : isW x1 x2) (h1 : 1 ≤ w) (h2 : w < 512) (e : (((1 : Int32) <<< (x1 &&& 31)) - (1 : Int32)) + x2 = nI (w - 1)) (hS : mS σ S cnt)
    (h : Q (.inl (some (.int (S w))), pw_set σ 29 0 0)) : WP g mX5_told 0 [(0, .ref (pw_ad g 29)), (1, .int x1), (2, .int x2)] [] 0 σ Q := by
  refine bX5_told_0 (m_isWord (fun q => absurd hw q) (fun _ => bX5_told_6 (m_whenT (bX5_told_10 (fun a => absurd a (by decide)) (fun _ => bX5_number_0 ?_)))))
  rw [e]
  refine bX5_told_22 (vp_in_nI (by omega) (by decide)) ?_
  rw [nI_clamp (by omega), ms_ne _ _ _ _ _ (by decide), hS.1 w h1 h2]
  exact h
theorem M_size {S : Nat → Int32} {cnt : Int32} (hS : mS σ S cnt) (h : Q (.inl (some (.int cnt)), pw_set σ 29 0 0)) : WP g mX5_size 0 [(0, .ref (pw_ad g 29))] [] 0 σ Q := by
  refine bX5_size_0 ?_
  rw [hS.2]
  exact h
theorem M_forget (h : ∀ σ', mS σ' (fun _ => 0) 0 → mfr [30] [0, 1] σ σ' → Q (.inl none, σ')) : WP g mX5_forget 0 [(0, .ref (pw_ad g 29))] [] 0 σ Q := by
  have loop : ∀ n i : Nat, i + n = 511 → ∀ σ1, mfr [30] [0, 1] σ σ1 → (∀ j, j < i → σ1 30 j = 0) → WP g mX5_forget 7 [(0, .ref (pw_ad g 29)), (1, .int (nI i))] [] 0 σ1 Q := by
    intro n
    induction n with
    | zero =>
      intro i hi σ1 hf hx
      have hi : i = 511 := by omega
      subst hi
      refine bX5_forget_7 (fun _ => h _ ⟨fun w h1 h2 => ?_, ms_same _ _ _ _⟩ (hf.fld (by decide))) (fun a => absurd (by decide) a) (fun a => absurd (by decide) a)
      rw [ms_ne _ _ _ _ _ (by decide)]
      exact hx _ (by omega)
    | succ n ih =>
      intro i hi σ1 hf hx
      refine bX5_forget_7 (fun a => ?_) (fun a => vp_in_nI (by omega) (by omega)) (fun a => ?_)
      · exact absurd a (nI_ge (a := i) (b := 511) (by omega) (by omega))
      · rw [show nI i + 1 = nI (i + 1) from nI_1 i, nI_clamp (by omega)]
        refine ih (i + 1) (by omega) _ (hf.set (by decide) (by decide)) (fun j hj => ?_)
        rw [ms_eq]
        by_cases e : j = i
        · rw [if_pos e]
        · rw [if_neg e]; exact hx j (by omega)
  exact bX5_forget_0 (loop 511 0 rfl _ (mfr.rf.fld (by decide)) (fun j hj => absurd hj (by omega)))
end HSA
