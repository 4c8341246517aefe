/-! A CALL THAT THROWS, AND ITS CATCH -/
/-- one row of the table, its class perhaps still to be linked: taken or passed -/
theorem q_row {e : Env} {S : State} {f : JFrame} {a : Addr} {x : ExceptionTableEntry} {t : List ExceptionTableEntry} {cT : ClassId} {cell : Cell} {Q : Handler → Pre} {E : CtlPost} {d : Bool} {acts : List Action}
    (hx : covers x f.pc = true) (h0 : x.catchType ≠ 0) (hl : S.vm.ClassLinks e.platform f.method.cls x.catchType cT) (hcell : S.heap[a]? = some cell) (hobj : ∀ k, cell.vm ≠ .statics k) (hk : ∃ k, S.vm.classes[cell.cls]? = some k) (hc : ∃ k, S.vm.classes[cT]? = some k) :
    wp (findHandler.go f a (x :: t)) Q E e d acts S ↔ (if S.vm.assignable cell.cls cT = true then Q (.found x.handlerPc) d acts (S.setVm (S.vm.noted f.method.cls x.catchType (.cls cT))) else wp (findHandler.go f a t) Q E e d acts (S.setVm (S.vm.noted f.method.cls x.catchType (.cls cT)))) := by
  simp only [covers] at hx
  obtain ⟨ha, ht⟩ := (resolveClass_links e.toSetting hl).op (op := VmOp.resolveClass f.method.cls x.catchType) rfl
  have hal : S.vm.Alike (S.vm.noted f.method.cls x.catchType (.cls cT)) := (Vm.Alike.refl S.vm).noted _ _ _
  obtain ⟨k1, hk1⟩ := hk
  obtain ⟨k2, hk2⟩ := hc
  obtain ⟨k3, hk3, -⟩ := hal.2.2 _ _ hk1
  obtain ⟨k4, hk4, -⟩ := hal.2.2 _ _ hk2
  have hsame : (S.vm.noted f.method.cls x.catchType (.cls cT)).assignable cell.cls cT = S.vm.assignable cell.cls cT := by rw [hal.assignable]
  by_cases hf : S.vm.assignable cell.cls cT = true
  · rw [if_pos hf]
    rw [hf] at hsame
    simp [findHandler.go, hx, h0, ha, ht, hcell, hobj, hk3, hk4, hsame, VmOp.dirties, VmOp.acts]
  · rw [if_neg hf]
    have hf' : S.vm.assignable cell.cls cT = false := by simpa using hf
    rw [hf'] at hsame
    simp [findHandler.go, hx, h0, ha, ht, hcell, hobj, hk3, hk4, hsame, VmOp.dirties, VmOp.acts]
/-- the frame goes on at the handler, the tables a little warmer -/
theorem q_toHandler {tb : Tables} {e : Env} {T target : State} {g : JFrame} {c : Code} {below : List Frame} {a : Addr} (h : At T g.method c below) {pc : Nat} {vm' : Vm}
    (hfind : ∀ (Q : Handler → Pre) (E : CtlPost) (d : Bool) (acts : List Action), wp (findHandler g a) Q E e d acts ((T.setTop g).pushFrame (.throwing a)) ↔ Q (.found pc) d acts (((T.setTop g).pushFrame (.throwing a)).setVm vm'))
    (hrest : Steps tb e below ((T.setVm vm').setTop { g with pc := pc, stack := [.ref a] }) target) : Steps tb e below ((T.setTop g).pushFrame (.throwing a)) target := by
  obtain ⟨hgo, hw⟩ := h.throwing a
  refine Steps.head hgo hw ?_
  have key : ∀ (S : State) (r : List Frame), (∀ (Q : Handler → Pre) (E : CtlPost) (d : Bool) (acts : List Action), wp (findHandler g a) Q E e d acts S ↔ Q (.found pc) d acts (S.setVm vm')) → (stepThrowing e S a (.java g :: r)).Is ((S.setVm vm').setFrames (.java { g with pc := pc, stack := [.ref a] } :: r)) [] := by
    intro S r hS
    simp only [stepThrowing, searchFrame, vmDo]
    generalize hr : Sem.go _ e false [] S = res
    obtain ⟨as, rfl, ha⟩ := Sem.eq_ok_of hr (a := Handler.found pc) (s' := S.setVm vm') (acts' := []) (by simp [hS _ _ _ _])
    exact ⟨rfl, ha⟩
  rw [stepThread_throwing (frames_entered h.top _), (key _ _ hfind).1]
  obtain ⟨g₀, hg⟩ := Option.isSome_iff_exists.mp h.top
  obtain ⟨r, hr⟩ := State.topJava?_eq_some.mp hg
  have hr' : (T.setVm vm').frames = .java g₀ :: r := hr
  have two : ∀ (u : State) (F G : List Frame), ((u.setFrames F).setVm vm').setFrames G = (u.setVm vm').setFrames G := fun u F G => by
    rw [show (u.setFrames F).setVm vm' = (u.setVm vm').setFrames F from rfl, State.setFrames_setFrames]
  rw [State.setTop_of_frames _ hr'] at hrest
  rw [hr, List.tail_cons, State.pushFrame, two, State.setTop_of_frames _ hr, two]
  exact hrest
/-- the method's frame g, with the object q thrown over it -/
def q_WX (p : Program) (l : Launch) (e : Env) (R : Room) (s : State) (m : MethodId) (args : Array Value) (below : List Frame) (meth : Method) (c : Code) (H : Heap) (locs : List Loc) (cells slots : Nat) (Q : State → Prop) (g : JFrame) (q : Addr) : Prop :=
  ∀ T : State, T.heap = H → Stand p l e R s m args below meth c T locs cells slots → ∃ t, Steps p.tables e below ((T.setTop g).pushFrame (.throwing q)) t ∧ Q t
section QCATCH
variable {p : Program} {l : Launch} {e : Env} {R : Room} {s : State} {m : MethodId} {args : Array Value} {below : List Frame} {meth : Method} {c : Code} {H H0 : Heap} {locs : List Loc} {cells slots : Nat} {Q : State → Prop}
variable {cc : ByteArray} {pc : Nat} {ls : Array Slot} {rest st0 : List Value} {D : va_G} {cl : List vw_C} {A : Nat → Prop} {q : Addr} {ce : Cell} {own E : String}
/-- caught by the first row -/
theorem q_catch1 {name : String} {x : ExceptionTableEntry} {more : List ExceptionTableEntry} (hown : s.vm.findClass own = some m.cls) (htab : c.exceptionTable.toList = x :: more) (hx : covers x pc = true) (h0 : x.catchType ≠ 0)
    (hlink : (Cond.classLink own x.catchType name).before args s = true) (hcast : (Cond.castable E name).before args s = true) (hcell : H[q]? = some ce) (hv : ce.vm = .none) (hcl : s.vm.findClass E = some ce.cls)
    (kk : W p l e R s m args below meth c H locs cells slots Q (F0 m x.handlerPc ls [.ref q])) : q_WX p l e R s m args below meth c H locs cells slots Q (F0 m pc ls rest) q := by
  intro T hT X
  have hpl : e.platform.magicAccessors = ({} : Platform).magicAccessors := by rw [X.admits.platform]
  obtain ⟨c3, c4, hc3, hc4, hasg⟩ := Cond.castable_spec hcast
  cases Option.some.inj (hc3.symm.trans hcl)
  obtain ⟨c5, hc5, hcl5⟩ := Cond.classLink_spec hown hlink e.platform hpl
  cases Option.some.inj (hc4.symm.trans hc5)
  obtain ⟨dk, _, _, kt, hd, _, _, _, _, hkt, _, hopen⟩ := hcl5.here
  have hal := X.warmed.alike
  obtain ⟨k0, hk0, -⟩ := Vm.findClass_spec hcl
  obtain ⟨k0', hk0', -⟩ := hal.2.2 _ _ hk0
  obtain ⟨kt', hkt', -⟩ := hal.2.2 _ _ hkt
  have hW' := X.warmed.noted hd hopen (State.rightAt_cls hcl5)
  obtain ⟨t, a1, b1⟩ := kk _ (show (T.setVm (T.vm.noted m.cls x.catchType (.cls c4))).heap = H from hT) (X.noted hW')
  refine ⟨t, q_toHandler (g := F0 m pc ls rest) X.here (fun Q' E' d acts => ?_) a1, b1⟩
  rw [Jvm.W.findHandler_eq (meth := meth) (code := c) X.method' X.code, htab, q_row (S := (T.setTop (F0 m pc ls rest)).pushFrame (.throwing q)) (f := F0 m pc ls rest) (cT := c4) (cell := ce) hx h0 (X.warmed.classLinks hcl5) (by show T.heap[q]? = _; rw [hT]; exact hcell) (by rw [hv]; intro k z; cases z) ⟨k0', hk0'⟩ ⟨kt', hkt'⟩, if_pos (by show T.vm.assignable _ _ = true; rw [hal.assignable]; exact hasg)]
  exact Iff.rfl
/-- passed by the first row, caught by the second -/
theorem q_catch2 {ny name : String} {y x : ExceptionTableEntry} {more : List ExceptionTableEntry} (hown : s.vm.findClass own = some m.cls) (htab : c.exceptionTable.toList = y :: x :: more) (hy : covers y pc = true) (hx : covers x pc = true) (hy0 : y.catchType ≠ 0) (h0 : x.catchType ≠ 0)
    (hlinky : (Cond.classLink own y.catchType ny).before args s = true) (hno : va_Nc E ny s) (hlink : (Cond.classLink own x.catchType name).before args s = true) (hcast : (Cond.castable E name).before args s = true) (hcell : H[q]? = some ce) (hv : ce.vm = .none) (hcl : s.vm.findClass E = some ce.cls)
    (kk : W p l e R s m args below meth c H locs cells slots Q (F0 m x.handlerPc ls [.ref q])) : q_WX p l e R s m args below meth c H locs cells slots Q (F0 m pc ls rest) q := by
  intro T hT X
  have hpl : e.platform.magicAccessors = ({} : Platform).magicAccessors := by rw [X.admits.platform]
  obtain ⟨c3, c4, hc3, hc4, hasg⟩ := Cond.castable_spec hcast
  cases Option.some.inj (hc3.symm.trans hcl)
  obtain ⟨c5, hc5, hcl5⟩ := Cond.classLink_spec hown hlink e.platform hpl
  cases Option.some.inj (hc4.symm.trans hc5)
  obtain ⟨c6, hc6, hcl6⟩ := Cond.classLink_spec hown hlinky e.platform hpl
  obtain ⟨a8, b8, n1, n2, n3⟩ := hno
  cases Option.some.inj (n1.symm.trans hcl)
  cases Option.some.inj (n2.symm.trans hc6)
  obtain ⟨dk, _, _, kt, hd, _, _, _, _, hkt, _, hopen⟩ := hcl5.here
  obtain ⟨dk6, _, _, kt6, hd6, _, _, _, _, hkt6, _, hopen6⟩ := hcl6.here
  obtain ⟨k0, hk0, -⟩ := Vm.findClass_spec hcl
  have hW1 := X.warmed.noted hd6 hopen6 (State.rightAt_cls hcl6)
  have hW2 := hW1.noted hd hopen (State.rightAt_cls hcl5)
  obtain ⟨k0', hk0', -⟩ := X.warmed.alike.2.2 _ _ hk0
  obtain ⟨kt6', hkt6', -⟩ := X.warmed.alike.2.2 _ _ hkt6
  obtain ⟨k0'', hk0'', -⟩ := hW1.alike.2.2 _ _ hk0
  obtain ⟨kt', hkt', -⟩ := hW1.alike.2.2 _ _ hkt
  obtain ⟨t, a1, b1⟩ := kk _ (show (T.setVm ((T.vm.noted m.cls y.catchType (.cls c6)).noted m.cls x.catchType (.cls c4))).heap = H from hT) (X.noted hW2)
  refine ⟨t, q_toHandler (g := F0 m pc ls rest) X.here (fun Q' E' d acts => ?_) a1, b1⟩
  have hobj : ∀ k, ce.vm ≠ .statics k := by rw [hv]; intro k z; cases z
  rw [Jvm.W.findHandler_eq (meth := meth) (code := c) X.method' X.code, htab, q_row (S := (T.setTop (F0 m pc ls rest)).pushFrame (.throwing q)) (f := F0 m pc ls rest) (cT := c6) (cell := ce) hy hy0 (X.warmed.classLinks hcl6) (by show T.heap[q]? = _; rw [hT]; exact hcell) hobj ⟨k0', hk0'⟩ ⟨kt6', hkt6'⟩, if_neg (by show ¬ T.vm.assignable _ _ = true; rw [X.warmed.alike.assignable, n3]; decide)]
  refine Iff.trans (q_row (f := F0 m pc ls rest) (cT := c4) (cell := ce) (S := ((T.setTop (F0 m pc ls rest)).pushFrame (.throwing q)).setVm (T.vm.noted m.cls y.catchType (.cls c6))) hx h0 (hW1.classLinks hcl5) (by show T.heap[q]? = _; rw [hT]; exact hcell) hobj ⟨k0'', hk0''⟩ ⟨kt', hkt'⟩) ?_
  rw [if_pos (by show (T.vm.noted m.cls y.catchType (.cls c6)).assignable _ _ = true; rw [hW1.alike.assignable]; exact hasg)]
  exact Iff.rfl
/-- what was there beside the callee's world stays -/
theorem q_join {w1 w2 w1' : va_W} {H1 : Heap} (hA : ∀ q, H0.size ≤ q → A q) (I : q_I D cl A H0 (w1 ++ w2) H locs) (hP1 : va_P D cl w1' H1) (hD1 : va_D (va_A w1 H.size) w1') (hk : ∀ q : Nat, q < H.size → ¬ va_A w1 H.size q → H1[q]? = H[q]?) : va_P D cl (w1' ++ w2) H1 ∧ va_D A (w1' ++ w2) := by
  obtain ⟨hP, hD, hS⟩ := I
  have at1 : ∀ (i : Nat) (x : Nat × va_E), w1[i]? = some x → (w1 ++ w2)[i]? = some x := fun i x h => by
    rw [List.getElem?_append_left (List.getElem?_eq_some_iff.mp h).1]; exact h
  have at2 : ∀ (i : Nat) (x : Nat × va_E), w2[i]? = some x → (w1 ++ w2)[w1.length + i]? = some x := fun i x h => by
    rw [List.getElem?_append_right (by omega), Nat.add_sub_cancel_left]; exact h
  have apart : ∀ (j : Nat) (y : Nat × va_E), w2[j]? = some y → y.1 < H.size ∧ ¬ va_A w1 H.size y.1 := by
    intro j y hy
    have hl := (hP _ y (at2 j y hy)).lt
    refine ⟨hl, fun z => ?_⟩
    rcases z with ⟨k, e9, z⟩ | z
    · have hij := hD.1 k (w1.length + j) (y.1, e9) y (at1 k _ z) (at2 j y hy) rfl
      have := (List.getElem?_eq_some_iff.mp z).1
      omega
    · omega
  have hF : ∀ q, va_A w1 H.size q → A q := by
    intro q h
    rcases h with ⟨k, e9, h⟩ | h
    · exact hD.2 k (q, e9) (at1 k _ h)
    · exact hA q (Nat.le_trans hS.1 h)
  refine ⟨va_P.app hP1 (fun j y hy => (hP _ y (at2 j y hy)).kept (hk y.1 (apart j y hy).1 (apart j y hy).2)), va_D.app (hD1.weaken (fun k x _ h => hF x.1 h)) ⟨fun i j x y hx hy hxy => ?_, fun k x hx => hD.2 _ x (at2 k x hx)⟩ (fun i j x y hx hy hxy => (apart j y hy).2 (by rw [← hxy]; exact hD1.2 i x hx))⟩
  have := hD.1 _ _ x y (at2 i x hx) (at2 j y hy) hxy
  omega
theorem q_left {w1 w2 : va_W} (I : q_I D cl A H0 (w1 ++ w2) H locs) : va_P D cl w1 H ∧ va_D A w1 := by
  have at1 : ∀ (i : Nat) (x : Nat × va_E), w1[i]? = some x → (w1 ++ w2)[i]? = some x := fun i x h => by
    rw [List.getElem?_append_left (List.getElem?_eq_some_iff.mp h).1]; exact h
  exact ⟨fun i x h => I.1 i x (at1 i x h), fun i j x y hx hy hxy => I.2.1.1 i j x y (at1 i x hx) (at1 j y hy) hxy, fun i x h => I.2.1.2 i x (at1 i x h)⟩
theorem q_swap {w1 w2 : va_W} (I : q_I D cl A H0 (w1 ++ w2) H locs) : q_I D cl A H0 (w2 ++ w1) H locs := by
  obtain ⟨hP, hD, hS⟩ := I
  have go : ∀ (i : Nat) (x : Nat × va_E), (w2 ++ w1)[i]? = some x → (w1 ++ w2)[if i < w2.length then w1.length + i else i - w2.length]? = some x := by
    intro i x h
    by_cases hi : i < w2.length
    · rw [if_pos hi]
      rw [List.getElem?_append_left hi] at h
      rw [List.getElem?_append_right (by omega), Nat.add_sub_cancel_left]; exact h
    · rw [if_neg hi]
      rw [List.getElem?_append_right (by omega)] at h
      rw [List.getElem?_append_left (List.getElem?_eq_some_iff.mp h).1]; exact h
  refine ⟨fun i x h => hP _ x (go i x h), ⟨fun i j x y hx hy hxy => ?_, fun i x h => hD.2 _ x (go i x h)⟩, hS⟩
  have h1 := hD.1 _ _ x y (go i x hx) (go j y hy) hxy
  have l1 := (List.getElem?_eq_some_iff.mp hx).1
  have l2 := (List.getElem?_eq_some_iff.mp hy).1
  rw [List.length_append] at l1 l2
  by_cases hi : i < w2.length <;> by_cases hj : j < w2.length <;> simp only [hi, hj, if_true, if_false] at h1 <;> omega
/-- a call on a part of the world -/
theorem q_kiF {mc ms : Nat} {r0 : Int32} {w1 w2 w1' : va_W} {a : Array Value} (hA : ∀ q, H0.size ≤ q → A q) (I : q_I D cl A H0 (w1 ++ w2) H locs) (hr : va_Run p l e R s m args below meth c H locs cells slots mc ms (F0 m pc ls st0) rest (q_Qi D cl r0 w1' (va_A w1 H.size) a) (va_A w1 H.size))
    (kk : ∀ (H1 : Heap) (locs1 : List Loc), q_I D cl A H0 (w1' ++ w2) H1 locs1 → W p l e R s m args below meth c H1 locs1 (cells + mc) (slots + ms) Q (F0 m (pc + 3) ls (.int r0 :: rest))) : W p l e R s m args below meth c H locs cells slots Q (F0 m pc ls st0) := by
  obtain ⟨lP, lD⟩ := q_left I
  have hF : ∀ q, va_A w1 H.size q → A q := by
    intro q h
    rcases h with ⟨k, e9, h⟩ | h
    · exact lD.2 k (q, e9) h
    · exact hA q (Nat.le_trans I.2.2.1 h)
  refine va_calli hr I.2.2 (fun q _ h => hF q h) hF (fun r u t H1 locs1 ht hvm hw hB hz1 hk1 hS1 => ?_)
  obtain ⟨hP1, hD1⟩ := hB
  rw [ht] at hP1
  subst hw
  obtain ⟨j1, j2⟩ := q_join hA I hP1 hD1 hk1
  exact kk H1 locs1 ⟨j1, j2, hS1⟩
end QCATCH
