/-! THE LOGIC OF THE METHODS. A memory 'pw_Mem' holds every int of every cell of the two systems (class and reference), by the cell's number and the place; 'pw_W' is the world of all cells; 'WP g M pc lv st u σ Q': method M, at pc, with locals lv, stack st and memory σ, ends, and its answer and the memory then have Q. -/
abbrev pw_Mem : Type := Nat → Nat → Int32
def pw_set (σ : pw_Mem) (k i : Nat) (x : Int32) : pw_Mem := fun a => if a = k then upd (σ k) i x else σ a
/-- launch; classes and slots; the classes of int[], boolean[], long[]; the cells' addresses; where new cells begin; what 'out' holds; the texts' addresses -/
abbrev pw_G : Type := Launch × va_G × (ClassId × ClassId × ClassId) × (Nat → Nat) × Nat × Int64 × (Nat → Nat)
abbrev pw_l (g : pw_G) : Launch := g.1
abbrev pw_D (g : pw_G) : va_G := g.2.1
abbrev pw_cI (g : pw_G) : ClassId := g.2.2.1.1
abbrev pw_cZ (g : pw_G) : ClassId := g.2.2.1.2.1
abbrev pw_cJ (g : pw_G) : ClassId := g.2.2.1.2.2
def pw_ad (g : pw_G) : Nat → Nat := g.2.2.2.1
abbrev pw_b (g : pw_G) : Nat := g.2.2.2.2.1
abbrev pw_o (g : pw_G) : Int64 := g.2.2.2.2.2.1
abbrev pw_sa (g : pw_G) : Nat → Nat := g.2.2.2.2.2.2
def pw_A (g : pw_G) : Nat → Prop := fun q => pw_b g ≤ q
abbrev pw_tys (g : pw_G) : List (ClassId × FieldType) := [(pw_cI g, .int), (pw_cZ g, .boolean), (pw_cJ g, .long)]
/-- the kind of each cell: 0 .. 5 an object of that class of vwCl, 6 an int[], 7 a boolean[] -/
def pw_kds : List Nat := [4, 3, 6, 2, 6, 6, 6, 6, 6, 6, 6, 6, 6, 0, 6, 6, 1, 0, 6, 6, 0, 6, 6, 6, 6, 6, 6, 6, 6, 5, 6, 7, 6, 6, 6, 6, 6, 6, 6, 6, 6, 7, 6, 6, 6, 7]
def pw_lns : List Nat := [0, 0, 512, 0, 512, 1024, 512, 512, 512, 512, 512, 512, 512, 0, 512, 1024, 0, 0, 5, 10, 0, 5, 10, 25, 5, 5, 5, 5, 512, 0, 511, 511, 511, 511, 511, 511, 1022, 511, 511, 1022, 511, 5, 10, 5, 5, 511]
def pw_kd (k : Nat) : Nat := pw_kds.getD k 9
def pw_ln (k : Nat) : Nat := pw_lns.getD k 0
/-- an object's fields: 0 an int, else how far behind the object the cell lies that the field refers to -/
def pw_off : Nat → List Nat
  | 0 => [1, 2, 0]
  | 1 => [1, 4, 7, 8, 9, 10, 11, 12]
  | 2 => [1, 2, 3, 4, 5, 0, 6, 7, 0, 8, 0, 9, 0]
  | 3 => [1, 0]
  | 4 => [1, 3, 13, 16]
  | 5 => [0, 0, 1, 2, 3, 4, 5, 6, 7, 0, 8, 9, 0, 0, 0, 10, 11, 0, 12, 13, 0, 14, 15, 16, 0, 0]
  | _ => []
def pw_fv (g : pw_G) (σ : pw_Mem) (k : Nat) (q : Nat × Nat) : Value := if q.1 = 0 then .int (σ k q.2) else .ref (pw_ad g (k + q.1))
def pw_fl (g : pw_G) (σ : pw_Mem) (k : Nat) : List Value := (pw_off (pw_kd k)).zipIdx.map (pw_fv g σ k)
def pw_en (g : pw_G) (σ : pw_Mem) (k : Nat) : Nat × va_E := (pw_ad g k, if pw_kd k = 6 then .inl (pw_cI g, pw_ln k, .inl (σ k)) else if pw_kd k = 7 then .inl (pw_cZ g, pw_ln k, .inl (σ k)) else .inr (pw_kd k, pw_fl g σ k))
def pw_W (g : pw_G) (σ : pw_Mem) : va_W := (List.range 46).map (pw_en g σ) ++ [(pw_ad g 46, .inl (pw_cJ g, 1, .inr (.inl (fun _ => pw_o g))))]
theorem pw_at (g : pw_G) (σ : pw_Mem) {k : Nat} (hk : k < 46) : (pw_W g σ)[k]? = some (pw_en g σ k) := by
  have h1 : k < ((List.range 46).map (pw_en g σ)).length := by simpa using hk
  rw [pw_W, List.getElem?_append_left h1]
  simp [hk]
theorem pw_setW (g : pw_G) (σ σ' : pw_Mem) {k : Nat} (hk : k < 46) (h : ∀ a, a ≠ k → σ' a = σ a) : (pw_W g σ).set k (pw_en g σ' k) = pw_W g σ' := by
  apply List.ext_getElem?
  intro i
  rw [List.getElem?_set]
  have hlen : (pw_W g σ).length = 47 := by simp [pw_W]
  by_cases hi : k = i
  · subst hi
    rw [if_pos rfl, if_pos (by rw [hlen]; omega), pw_at g σ' hk]
  · rw [if_neg hi]
    by_cases h46 : i < 46
    · rw [pw_at g σ h46, pw_at g σ' h46]
      have e : σ' i = σ i := h i (fun q => hi q.symm)
      simp only [pw_en, pw_fl, e]
      have e2 : pw_fv g σ i = pw_fv g σ' i := by
        funext q
        simp only [pw_fv, e]
      rw [e2]
    · have h1 : ((List.range 46).map (pw_en g σ)).length ≤ i := by simp; omega
      have h2 : ((List.range 46).map (pw_en g σ')).length ≤ i := by simp; omega
      rw [pw_W, pw_W, List.getElem?_append_right h1, List.getElem?_append_right h2]
      simp
/-- the words of all methods: the good ones of the law's tables -/
def pw_ws : List Cond := lw_tbl.filter goodWord
theorem pw_ws_good : GoodIn pw_ws pw_ws := fun w h => ⟨h, good_of_word (List.mem_filter.mp h).2⟩
/-- the texts of the exceptions: places in WordClassLearner's pool -/
def pw_strs : List (Nat × String) := [(148, "there is no such word"), (49, "the sample has the word with the other sign"), (146, "there is no such state"), (76, "there is no such letter"), (138, "nothing is learned"), (91, "a draft has 1 to 5 states"), (140, "there is no draft"), (128, "the sample has a word with the other sign")]
/-- words of a throw that bear no 'good' mark -/
def pw_xw : List Cond := [.declares (Bundle.initS "java/lang/RuntimeException"), .declares (Bundle.initS "java/lang/Exception"), .declares (Bundle.initS "java/lang/Throwable"), .castable "java/lang/IndexOutOfBoundsException" "java/lang/IndexOutOfBoundsException", .castable "java/lang/IllegalStateException" "java/lang/IllegalStateException", .castable "java/lang/IllegalArgumentException" "java/lang/IllegalArgumentException"]
def pw_X (g : pw_G) (U : State) (H : Heap) : Prop :=
  va_Nw (.methodLinkNest RX0 22 yX4_lengthOf RX4) U ∧ va_Nw (.methodLinkNest RX1 98 yX4_joined RX4) U ∧
  vx_Zq Bundle.tN "UNASSIGNED_STACK" Bundle.steD (pw_A g) U H ∧ vx_Zq Bundle.tN "SUPPRESSED_SENTINEL" Bundle.listD (pw_A g) U H ∧
  (∀ q ∈ pw_strs, vk_R RX4 q.1 q.2 (pw_sa g q.1) U) ∧ ∀ w ∈ pw_xw, va_Nw w U
def pw_K (g : pw_G) (U : State) : Prop := va_K (pw_D g) vwCl (pw_tys g) U ∧ pw_X g U U.heap ∧ pw_b g ≤ U.heap.size
/-- a method: its name, code, number of locals, answer; the frames, the locals' words and the cells that it may take -/
abbrev pw_M : Type := MethodName × ByteArray × Nat × Option FieldType × Nat × Nat × Nat
abbrev pw_y (M : pw_M) : MethodName := M.1
abbrev pw_cc (M : pw_M) : ByteArray := M.2.1
abbrev pw_mL (M : pw_M) : Nat := M.2.2.1
abbrev pw_rt (M : pw_M) : Option FieldType := M.2.2.2.1
abbrev pw_fr (M : pw_M) : Nat := M.2.2.2.2.1
abbrev pw_lo (M : pw_M) : Nat := M.2.2.2.2.2.1
abbrev pw_mc (M : pw_M) : Nat := M.2.2.2.2.2.2
def pw_rm (M : pw_M) : Room := { frames := pw_fr M, cells := pw_mc M, slots := 6 * pw_mc M, locals := pw_lo M }
def pw_wd (M : pw_M) : List Cond := .code (pw_y M) (pw_cc M) (pw_mL M) (pw_rt M) :: pw_ws
abbrev pw_R : Type := (Option Value ⊕ String) × pw_Mem
def pw_L (g : pw_G) (σ : pw_Mem) (H : Heap) : Prop := va_P (pw_D g) vwCl (pw_W g σ) H ∧ va_D (pw_A g) (pw_W g σ)
def pw_Q (g : pw_G) (Q : pw_R → Prop) : Array Value → State → Outcome → State → Prop := fun _ st o t => (∃ (rv : Option Value) (σ' : pw_Mem), Q (.inl rv, σ') ∧ o = .returned rv ∧ pw_L g σ' t.heap) ∧ va_F (pw_A g) st t
def pw_XC (g : pw_G) (Q : pw_R → Prop) : String → State → State → Prop := fun E st t => (∃ σ' : pw_Mem, Q (.inr E, σ') ∧ pw_L g σ' t.heap) ∧ va_F (pw_A g) st t
/-- what stands fast in a method's body -/
def pw_C (g : pw_G) (M : pw_M) (p : Program) (s : State) (m : MethodId) (meth : Method) (c : Code) (args : Array Value) : Prop :=
  p.tables.exec = Jvm.exec ∧ c.code = pw_cc M ∧ meth.sig.returnType = pw_rt M ∧ c.maxLocals = pw_mL M ∧ s.vm.findClass (pw_y M).cls = some m.cls ∧ (∀ w ∈ pw_ws, w.before args s = true) ∧ meth.locks = false ∧ (∀ x ∈ c.exceptionTable.toList, False) ∧ pw_K g s
def WP (g : pw_G) (M : pw_M) (pc : Nat) (lv : List (Nat × Value)) (st : List Value) (u : Nat) (σ : pw_Mem) (Q : pw_R → Prop) : Prop :=
  ∀ (p : Program) (e : Env) (s : State) (m : MethodId) (args : Array Value) (below : List Frame) (meth : Method) (c : Code), pw_C g M p s m meth c args →
  ∀ (H : Heap) (locs : List Loc) (ls : Array Slot), lv_has ls (pw_mL M) lv → pw_L g σ H → va_S (pw_A g) s.heap H locs →
  W p (pw_l g) e (pw_rm M) s m args below meth c H locs u (6 * u) (vx_MQ below (pw_Q g Q) (pw_XC g Q) args s (pw_mc M) (6 * pw_mc M) (pw_A g)) (F0 m pc ls st)
