/-! an exception is caught by a row of the method's own table: the rows ahead of it are passed, the classes that they name are noted on the way -/
section CX
variable {e : Env} {s₀ : State} {f : JFrame} {q : Addr} {ce : Cell}
/-- the table brings what is thrown at pc to the handler h -/
def cx_T (pl : Platform) (s₀ : State) (d : ClassId) (pc : Nat) (thrown : ClassId) : List ExceptionTableEntry → Nat → Prop
  | [], _ => False
  | x :: t, h => (covers x pc = false ∧ cx_T pl s₀ d pc thrown t h) ∨ (covers x pc = true ∧ x.catchType ≠ 0 ∧ ∃ k, s₀.vm.ClassLinks pl d x.catchType k ∧ ((s₀.vm.assignable thrown k = true ∧ x.handlerPc = h) ∨ (s₀.vm.assignable thrown k = false ∧ cx_T pl s₀ d pc thrown t h)))
/-- one row whose class is linked -/
theorem cx_row {S : State} {x : ExceptionTableEntry} {t : List ExceptionTableEntry} {k : ClassId} {Q : Handler → Pre} {E : CtlPost} {d : Bool} {acts : List Action} (hx : covers x f.pc = true) (h0 : x.catchType ≠ 0) (hl : S.vm.ClassLinks e.platform f.method.cls x.catchType k) (hcell : S.heap[q]? = some ce) (hobj : ∀ z, ce.vm ≠ .statics z) (h1 : ∃ z, S.vm.classes[ce.cls]? = some z) (h2 : ∃ z, S.vm.classes[k]? = some z) :
    wp (findHandler.go f q (x :: t)) Q E e d acts S ↔ if S.vm.assignable ce.cls k = true then Q (.found x.handlerPc) d acts (S.setVm (S.vm.noted f.method.cls x.catchType (.cls k))) else wp (findHandler.go f q t) Q E e d acts (S.setVm (S.vm.noted f.method.cls x.catchType (.cls k))) := by
  have hx' : (decide (x.startPc ≤ f.pc) && decide (f.pc < x.endPc)) = true := hx
  have hop := (resolveClass_links e.toSetting hl).op (op := VmOp.resolveClass f.method.cls x.catchType) rfl
  have hal : S.vm.Alike (S.vm.noted f.method.cls x.catchType (.cls k)) := (Vm.Alike.refl S.vm).noted _ _ _
  obtain ⟨z1, e1⟩ := h1
  obtain ⟨z2, e2⟩ := h2
  obtain ⟨y1, d1, -⟩ := hal.2.2 _ _ e1
  obtain ⟨y2, d2, -⟩ := hal.2.2 _ _ e2
  have hfit : (S.vm.noted f.method.cls x.catchType (.cls k)).assignable ce.cls k = S.vm.assignable ce.cls k := hal.assignable ce.cls k
  cases hc : S.vm.assignable ce.cls k with
  | true =>
    rw [hc] at hfit
    simp [findHandler.go, hx', h0, hop.1, hop.2, hcell, hobj, d1, d2, hfit, VmOp.dirties, VmOp.acts]
  | false =>
    rw [hc] at hfit
    simp [findHandler.go, hx', h0, hop.1, hop.2, hcell, hobj, d1, d2, hfit, VmOp.dirties, VmOp.acts]
theorem cx_go (hobj : ∀ z, ce.vm ≠ .statics z) (hk : ∃ z, s₀.vm.classes[ce.cls]? = some z) (h : Nat) : ∀ (t : List ExceptionTableEntry), cx_T e.platform s₀ f.method.cls f.pc ce.cls t h → ∀ S : State, s₀.WarmedH S.vm → S.heap[q]? = some ce →
    ∃ vm', s₀.WarmedH vm' ∧ ∀ (Q : Handler → Pre) (E : CtlPost) (d : Bool) (acts : List Action), wp (findHandler.go f q t) Q E e d acts S ↔ Q (.found h) d acts (S.setVm vm') := by
  obtain ⟨z0, hz0⟩ := hk
  intro t
  induction t with
  | nil => intro hT; exact hT.elim
  | cons x t ih =>
    intro hT S hW hcell
    rcases hT with ⟨hx, hT⟩ | ⟨hx, h0, k, hl, hT⟩
    · obtain ⟨vm', w1, w2⟩ := ih hT S hW hcell
      exact ⟨vm', w1, fun Q E d acts => (Jvm.W.findHandler_go_skip hx).trans (w2 Q E d acts)⟩
    · obtain ⟨dk, _, _, kt, hd, _, _, _, _, hkt, _, hopen⟩ := hl.here
      obtain ⟨y0, hy0, -⟩ := hW.alike.2.2 _ _ hz0
      obtain ⟨y1, hy1, -⟩ := hW.alike.2.2 _ _ hkt
      have hW2 := hW.noted hd hopen (State.rightAt_cls hl)
      have hfit : S.vm.assignable ce.cls k = s₀.vm.assignable ce.cls k := hW.alike.assignable ce.cls k
      rcases hT with ⟨ha, rfl⟩ | ⟨ha, hT⟩
      · refine ⟨_, hW2, fun Q E d acts => ?_⟩
        rw [cx_row hx h0 (hW.classLinks hl) hcell hobj ⟨y0, hy0⟩ ⟨y1, hy1⟩, if_pos (hfit.trans ha)]
      · obtain ⟨vm', w1, w2⟩ := ih hT (S.setVm (S.vm.noted f.method.cls x.catchType (.cls k))) hW2 hcell
        refine ⟨vm', w1, fun Q E d acts => ?_⟩
        rw [cx_row hx h0 (hW.classLinks hl) hcell hobj ⟨y0, hy0⟩ ⟨y1, hy1⟩, if_neg (by rw [hfit, ha]; decide)]
        exact w2 Q E d acts
/-- the machine's step -/
theorem cx_step {S : State} {vm' : Vm} {r : List Frame} {h : Nat} (hf : ∀ (Q : Handler → Pre) (E : CtlPost) (d : Bool) (acts : List Action), wp (findHandler f q) Q E e d acts S ↔ Q (.found h) d acts (S.setVm vm')) : (stepThrowing e S q (.java f :: r)).Is ((S.setVm vm').setFrames (.java { f with pc := h, stack := [.ref q] } :: r)) [] := by
  simp only [stepThrowing, searchFrame, vmDo]
  generalize hr : Sem.go _ e false [] S = res
  obtain ⟨as, rfl, ha⟩ := Sem.eq_ok_of hr (a := Handler.found h) (s' := S.setVm vm') (acts' := []) (by simp [hf _ _ _ _])
  exact ⟨rfl, ha⟩
end CX
section CY
variable {p : Program} {l : Launch} {e : Env} {R : Room} {s : State} {m : MethodId} {args : Array Value} {below : List Frame} {meth : Method} {c : Code} {H : Heap} {locs : List Loc} {cells slots : Nat} {Q : State → Prop}
/-- caught: the walk goes on at the handler, the exception alone on the stack -/
theorem cx_catch {E : String} {ce : Cell} {q : Addr} {pc h : Nat} {ls : Array Slot} {rest : List Value} (hT : ∀ pl : Platform, pl.magicAccessors = ({} : Platform).magicAccessors → cx_T pl s m.cls pc ce.cls c.exceptionTable.toList h) (hcell : H[q]? = some ce) (hv : ce.vm = .none) (hcl : s.vm.findClass E = some ce.cls)
    (kk : W p l e R s m args below meth c H locs cells slots Q (F0 m h ls [.ref q])) : vx_W p l e R s m args below meth c H locs cells slots Q (F0 m pc ls rest) q := by
  intro T hTH X
  have hpl : e.platform.magicAccessors = ({} : Platform).magicAccessors := by rw [X.admits.platform]
  have hcellT : T.heap[q]? = some ce := by rw [hTH]; exact hcell
  have hAt : At T (F0 m pc ls rest).method c below := X.here
  obtain ⟨vm', w1, w2⟩ := cx_go (e := e) (s₀ := s) (f := F0 m pc ls rest) (q := q) (ce := ce) (fun z => by rw [hv]; exact fun y => by cases y) (by obtain ⟨k9, h9, -⟩ := Vm.findClass_spec hcl; exact ⟨k9, h9⟩) h _ (hT e.platform hpl) ((T.setTop (F0 m pc ls rest)).pushFrame (.throwing q)) (by rw [Stand.throwing_vm]; exact X.warmed) (by rw [Stand.throwing_heap]; exact hcellT)
  have hfind : ∀ (Q : Handler → Pre) (E : CtlPost) (d : Bool) (acts : List Action), wp (findHandler (F0 m pc ls rest) q) Q E e d acts ((T.setTop (F0 m pc ls rest)).pushFrame (.throwing q)) ↔ Q (.found h) d acts (((T.setTop (F0 m pc ls rest)).pushFrame (.throwing q)).setVm vm') := fun Q E d acts =>
    (Jvm.W.findHandler_eq (by rw [Stand.throwing_vm]; exact X.method') X.code).trans (w2 Q E d acts)
  obtain ⟨t, a1, b1⟩ := kk (T.setVm vm') hTH (X.noted w1)
  refine ⟨t, ?_, b1⟩
  obtain ⟨hgo, hw⟩ := hAt.throwing q
  refine Steps.head hgo hw ?_
  rw [stepThread_throwing (frames_entered hAt.top _), (cx_step hfind).1]
  obtain ⟨g₀, hg⟩ := Option.isSome_iff_exists.mp hAt.top
  obtain ⟨r, hr⟩ := State.topJava?_eq_some.mp hg
  have hr2 : (T.setVm vm').frames = .java g₀ :: r := hr
  rw [State.setTop_of_frames _ hr2] at a1
  have hsw : ∀ (S : State) (fs : List Frame) (v : Vm), (S.setFrames fs).setVm v = (S.setVm v).setFrames fs := fun _ _ _ => rfl
  rw [State.pushFrame, State.setTop_of_frames _ hr, State.setFrames_setFrames, hsw, State.setFrames_setFrames, hr]
  exact a1
end CY
