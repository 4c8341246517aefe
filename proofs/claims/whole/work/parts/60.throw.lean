/-! THROWING: a method that ends by 'throw new E(text)' -/
def xUp : List String := ["java/lang/RuntimeException", "java/lang/Exception"]
/-- words that the tables alone decide -/
def xNo : Cond → Bool
  | .isRef _ => false
  | .laysStatic .. => false
  | _ => true
def q_xw (own : String) (ik ic : Nat) (E : String) : List Cond := .classLink own ik E :: .initialized E :: (Bundle.ownAtoms own ic E xUp).filter xNo
/-- a static of Throwable: where it lies, and that it holds a reference or null; its cell isn't one of A -/
def q_Sl (n d : String) (A : Nat → Prop) (U : State) (H : Heap) : Prop := ∃ (c : ClassId) (k : Class) (i : Nat) (f : Field) (a : Nat) (cell : Cell) (v : Value), (U.vm.findClass Bundle.tN = some c ∧ U.fieldFound? Bundle.tN n d = some (c, k, i, f)) ∧ (f.isStatic = true ∧ k.statics = some a ∧ k.staticTypes[f.slot]? = some f.type) ∧ (H[a]? = some cell ∧ ¬ A a) ∧ cell.vm.isStatics = true ∧ cell.cls = c ∧ f.slot < cell.slots.size ∧ k.init = .initialized ∧ cell.slots[f.slot]? = some v ∧ v.isRef = true
theorem q_Sl_vm {n d : String} {A : Nat → Prop} {u U : State} {H : Heap} (hvm : u.vm.Alike U.vm) (h : q_Sl n d A u H) : q_Sl n d A U H := by
  obtain ⟨c, k, i, f, a, cell, v, ⟨h1, h2⟩, ⟨h3, h4, h5⟩, h6, h7, h8, h9, h10, h11⟩ := h
  obtain ⟨k', hi', he⟩ := State.fieldFound?_setVm hvm h2
  exact ⟨c, k', i, f, a, cell, v, ⟨by rw [hvm.findClass]; exact h1, hi'⟩, ⟨h3, by rw [he]; exact h4, by rw [he]; exact h5⟩, h6, h7, h8, h9, by rw [he]; exact h10, h11⟩
theorem q_Sl_keep {n d : String} {A B : Nat → Prop} {U : State} {H H1 : Heap} (h : q_Sl n d A U H) (hAB : ∀ q, q < H.size → B q → A q) (hq : ∀ a : Nat, a < H.size → ¬ A a → H1[a]? = H[a]?) : q_Sl n d B U H1 := by
  obtain ⟨c, k, i, f, a, cell, v, h1, h2, ⟨h3, h4⟩, h5⟩ := h
  have hlt := (Array.getElem?_eq_some_iff.mp h3).1
  exact ⟨c, k, i, f, a, cell, v, h1, h2, ⟨by rw [hq a hlt h4]; exact h3, fun z => h4 (hAB a hlt z)⟩, h5⟩
theorem q_Sl_lays {n d : String} {A : Nat → Prop} {s : State} {args : Array Value} (h : q_Sl n d A s s.heap) : (Cond.laysStatic Bundle.tN n d).before args s = true := by
  obtain ⟨c, k, i, f, a, cell, v, ⟨h1, h2⟩, ⟨h3, h4, h5⟩, ⟨h6, -⟩, h7, h8, h9, -⟩ := h
  show (Cond.laysStatic Bundle.tN n d).holds args s none s [] = true
  exact Cond.laysStatic_of h1 h2 h3 h4 h6 h7 h8 h9 h5
theorem q_Sl_ref {n d : String} {A : Nat → Prop} {s : State} {args : Array Value} (h : q_Sl n d A s s.heap) : (Cond.isRef (.static Bundle.tN n d)).before args s = true := by
  obtain ⟨c, k, i, f, a, cell, v, ⟨h1, h2⟩, ⟨h3, h4, h5⟩, ⟨h6, -⟩, h7, h8, h9, h10, h11, h12⟩ := h
  have he : (Term.static Bundle.tN n d).eval args s none [] s = some v := by
    simp [Term.eval, State.fieldNamed?, h2, h3, h4, h6, h7, h11]
  simp only [Cond.before, Cond.holds, Cond.value, he]
  cases v <;> simp_all [Value.isRef]
theorem q_Sl_of {n d : String} {A : Nat → Prop} {s : State} {args : Array Value} (hl : (Cond.laysStatic Bundle.tN n d).before args s = true) (hini : (Cond.initialized Bundle.tN).before args s = true) (hr : (Cond.isRef (.static Bundle.tN n d)).before args s = true) (hA : ∀ a : Nat, a < s.heap.size → ¬ A a) : q_Sl n d A s s.heap := by
  obtain ⟨c, k, i, f, a, cell, h1, h2, h3, h4, h5, h6, h7, h8, h9⟩ := Cond.laysStatic_spec hl
  have hk : s.vm.classes[c]? = some k := (State.fieldFound?_spec h2).1
  have hi : k.init = .initialized := Cond.initialized_spec h1 hk hini
  obtain ⟨v, hv⟩ : ∃ v, cell.slots[f.slot]? = some v := ⟨_, Array.getElem?_eq_getElem h8⟩
  have he : (Term.static Bundle.tN n d).eval args s none [] s = some v := by
    simp [Term.eval, State.fieldNamed?, h2, h3, h4, h5, h6, hv]
  refine ⟨c, k, i, f, a, cell, v, ⟨h1, h2⟩, ⟨h3, h4, h9⟩, ⟨h5, hA a (Array.getElem?_eq_some_iff.mp h5).1⟩, h6, h7, h8, hi, hv, ?_⟩
  simp only [Cond.before, Cond.holds, Cond.value, he] at hr
  cases v <;> simp_all [Value.isRef]
/-- the end by a throw: the new object's class, the world as it was -/
def q_XQ (D : va_G) (cl : List vw_C) (E : String) (ws' : va_W) (A : Nat → Prop) : Array Value → State → Outcome → State → Prop := fun _ st o t =>
  ∃ (q : Addr) (ce : Cell) (L : List Loc), o = .threw q ∧ (t.heap[q]? = some ce ∧ ce.vm = .none ∧ st.vm.findClass E = some ce.cls) ∧ (va_P D cl ws' t.heap ∧ va_D A ws' ∧ va_F A st t) ∧ st.WarmedH t.vm ∧ st.sameButNew ({ t with vm := st.vm } : State) L 1 6 ∧ ∀ z ∈ L, A z.base
def q_MQX (below : List Frame) (D : va_G) (cl : List vw_C) (E : String) (ws' : va_W) (args : Array Value) (s : State) (A : Nat → Prop) : State → Prop := fun t => ∃ o, t.status = .running ∧ Ended t below o ∧ q_XQ D cl E ws' A args s o t
def q_MetX (l : Launch) (y : MethodName) (ws : List Cond) (rm : Room) (Pc : Array Value → State → Prop) (D : va_G) (cl : List vw_C) (E : String) (ws' : va_W) (A : Nat → Prop) : Prop :=
  MetFree l y (headSpec ws rm) Pc (fun _ _ _ _ _ => True) (q_XQ D cl E ws' A)
theorem q_MetX_ofW {l : Launch} {y : MethodName} {ws ws2 : List Cond} {rm : Room} {Pc : Array Value → State → Prop} {D : va_G} {cl : List vw_C} {E : String} {ws' : va_W} {A : Nat → Prop} {cc : ByteArray} {maxL : Nat} {ret : Option FieldType}
    (hy : plainName y.cls = true) (hw : ws = Cond.code y cc maxL ret :: ws2)
    (body : ∀ p e s m args below meth c s₁, BodyLoose p l y (headSpec ws rm) cc maxL ret e s m args below meth c s₁ → c.maxLocals = maxL → Pc args s →
      W p l e (headSpec ws rm).room s m args below meth c s.heap [] 0 0 (q_MQX below D cl E ws' args s A) (entryFrame m args maxL)) : q_MetX l y ws rm Pc D cl E ws' A := by
  refine MetFree.of_bodyS (code := cc) (maxLocals := maxL) (ret := ret) hy ?_ ?_
  · intro args s m h hn
    obtain ⟨meth, c, h1, h2, h3, h4, h5, h6, -, -⟩ := Cond.code_spec hn (atoms_spec (ws := ws) h _ (by rw [hw]; exact List.mem_cons_self))
    exact ⟨meth, c, h1, h2, h3, h4, h5, h6⟩
  · intro p e s m args below meth c s₁ B hml hP _
    obtain ⟨t, a1, o, b1, b2, b3⟩ := body p e s m args below meth c s₁ B hml hP s₁ (by rw [B.state]; rfl) (Stand.of_body B)
    exact ⟨t, o, a1, b1, b2, b3⟩
section QTHR
variable {p : Program} {l : Launch} {e : Env} {R : Room} {s : State} {m : MethodId} {args : Array Value} {below : List Frame} {meth : Method} {c : Code} {H : Heap} {locs : List Loc} {cells slots : Nat}
variable {cc : ByteArray} {pc : Nat} {ls : Array Slot} {rest : List Value} {D : va_G} {cl : List vw_C} {A : Nat → Prop} {ws' : va_W}
/-- a walk, seen as if it began in the heap that stands now -/
theorem q_again {T : State} (X : Stand p l e R s m args below meth c T locs cells slots) (hc : cells + 1 ≤ R.cells) (hs : slots + 6 ≤ R.slots) :
    Stand p l e { frames := R.frames, locals := R.locals, cells := 1, slots := 6 } ((T.setVm s.vm).setFrames (.invoking m args :: below)) m args below meth c T [] 0 0 := by
  have htop : (T.setVm s.vm).topJava?.isSome := X.here.top
  have hF : ((T.setVm s.vm).setFrames (.invoking m args :: below)).frames = .invoking m args :: below := State.frames_setFrames _ (State.cur_lt_of_top htop)
  obtain ⟨g₀, hg0⟩ := Option.isSome_iff_exists.mp htop
  obtain ⟨r, hr⟩ := State.topJava?_eq_some.mp hg0
  have hl9 : e.platform.stackLimits (T.setVm s.vm).me = e.platform.stackLimits s.me := X.limits
  have hb9 : (T.setVm s.vm).me.stackBytes = s.me.stackBytes := X.bytes
  have hU : ((T.setVm s.vm).setFrames (.invoking m args :: below)).localsInUse = s.localsInUse := by
    rw [State.localsInUse_invoking hF (meth := meth) (c := c) X.method X.code, State.localsInUse_invoking X.frames X.method X.code]
  have hroom : State.hasRoom ((T.setVm s.vm).setFrames (.invoking m args :: below)) e.platform { frames := R.frames, locals := R.locals, cells := 1, slots := 6 } = true := by
    have h := X.room
    have q1 := X.heapSize
    have q2 := X.used
    simp only [State.hasRoom, Bool.and_eq_true, decide_eq_true_eq] at h ⊢
    obtain ⟨⟨⟨⟨h1, h2, h3, h4, h5, h6⟩, h7⟩, h8⟩, h9⟩ := h
    rw [X.frames, List.length_cons] at h2 h3
    simp only [hF, hU, List.length_cons, State.stackLimits_setFrames, State.stackBytes_setFrames, hl9, hb9]
    refine ⟨⟨⟨⟨by omega, by omega, by omega, by omega, by omega, h6⟩, ?_⟩, ?_⟩, X.book⟩
    · show T.heap.size + 1 ≤ e.platform.maxCells
      omega
    · show T.slotsUsed + 6 ≤ e.platform.maxSlots
      omega
  have hnil : (T.heap.toList.drop T.heap.size) = [] := List.drop_eq_nil_of_le (Nat.le_of_eq Array.length_toList)
  refine ⟨X.admits, X.cas, X.clock, hF, hroom, X.hears, X.method, X.code, X.here, X.tail, X.warmed, by rw [State.stackLimits_setFrames]; rfl, by rw [State.stackBytes_setFrames]; rfl, ?_, Nat.le_refl _, Nat.le_refl _, ?_, ?_, fun a c9 h9 => ⟨c9, h9, rfl, rfl, fun _ _ => rfl⟩⟩
  · obtain ⟨t, ht, -⟩ := State.frames_cons hr
    show T.setVm s.vm = { ((T.setVm s.vm).setFrames (.invoking m args :: below)).setFrames (T.setVm s.vm).frames with heap := T.heap, slotsUsed := T.slotsUsed }
    rw [State.setFrames_setFrames, State.setFrames_self ht]
    rfl
  · show T.slotsUsed = T.slotsUsed + ((T.heap.toList.drop T.heap.size).map (·.slots.size)).sum
    rw [hnil]; rfl
  · show ((T.heap.toList.drop T.heap.size).map (·.slots.size)).sum ≤ 0
    rw [hnil]; exact Nat.le_refl _
/-- throw new E(text) -/
theorem q_thr (hx : p.tables.exec = Jvm.exec) (hb : c.code = cc) (hl : l.stackTraces = false) {own E text : String} {ik is ic sa : Nat}
    (hown : s.vm.findClass own = some m.cls) (hE : Bundle.fit E = true) (hot : ∀ w ∈ q_xw own ik ic E, w.onTables = true) (hw : ∀ w ∈ q_xw own ik ic E, va_Nw w s) (hstr : vk_R own is text sa s)
    (hU : q_Sl "UNASSIGNED_STACK" Bundle.steD A s s.heap) (hN : q_Sl "SUPPRESSED_SENTINEL" Bundle.listD A s s.heap) (I : q_I D cl A s.heap ws' H locs) (hA : ∀ q, s.heap.size ≤ q → A q) (hsize : ls.size = c.maxLocals)
    (d0 : decode cc pc = .ok (.new ik, 3)) (d3 : decode cc (pc + 3) = .ok (.dup, 1)) (d4 : decode cc (pc + 4) = .ok (.ldc is, 2)) (d6 : decode cc (pc + 6) = .ok (.invokespecial ic, 3)) (d9 : decode cc (pc + 9) = .ok (.athrow, 1))
    (hout : ∀ x ∈ c.exceptionTable.toList, covers x (pc + 9) = false) (hRf : 5 < R.frames) (hRl : 82 ≤ R.locals) (hRc : 1 ≤ R.cells) (hRs : 6 ≤ R.slots) (hlocks : meth.locks = false) :
    W p l e R s m args below meth c H locs 0 0 (q_MQX below D cl E ws' args s A) (F0 m pc ls []) := by
  intro T hT X
  have htr : e.platform.stackTraces = false := (show e.platform.stackTraces = l.stackTraces by rw [X.admits.platform]).trans hl
  have Y := q_again X (by omega) (by omega)
  obtain ⟨s', hs'⟩ : ∃ z, z = (T.setVm s.vm).setFrames (.invoking m args :: below) := ⟨_, rfl⟩
  rw [← hs'] at Y
  have hvm : s.vm = s'.vm := by rw [hs']; rfl
  have hhp : s'.heap = H := by rw [hs']; exact hT
  have hW0 : s.WarmedH s'.vm := by rw [← hvm]; exact State.WarmedH.refl s
  have hw' : ∀ w ∈ q_xw own ik ic E, w.before args s' = true := fun w h => va_tabs (hot w h) hvm (hw w h)
  have sU : q_Sl "UNASSIGNED_STACK" Bundle.steD A s' s'.heap := by rw [hhp]; exact q_Sl_vm hW0.alike (q_Sl_keep hU (fun _ _ h => h) I.2.2.2.1)
  have sN : q_Sl "SUPPRESSED_SENTINEL" Bundle.listD A s' s'.heap := by rw [hhp]; exact q_Sl_vm hW0.alike (q_Sl_keep hN (fun _ _ h => h) I.2.2.2.1)
  have h : ∀ w ∈ Bundle.ownAtoms own ic E xUp, w.before args s' = true := by
    intro w hm
    by_cases hn : xNo w = true
    · exact hw' w (List.mem_cons_of_mem _ (List.mem_cons_of_mem _ (List.mem_filter.mpr ⟨hm, hn⟩)))
    · simp only [Bundle.ownAtoms, Bundle.throwableAtoms, Bundle.throwableSAtoms, xUp, Bundle.chainSAtoms, Bundle.passSAtoms, List.cons_append, List.nil_append, List.append_assoc, List.mem_cons, List.mem_append, List.not_mem_nil, or_false] at hm
      rcases hm with rfl | rfl | rfl | rfl | rfl | rfl | rfl | rfl | rfl | rfl | rfl | rfl | rfl | rfl | rfl | rfl | rfl | rfl | rfl | rfl | rfl | rfl | rfl | rfl | rfl | rfl | rfl | rfl | rfl | rfl | rfl | rfl | rfl | rfl | rfl | rfl | rfl | rfl | rfl | rfl | rfl | rfl | rfl | rfl | rfl | rfl | rfl | rfl | rfl | rfl | rfl | rfl | rfl | rfl | rfl | rfl | rfl <;> first | exact absurd rfl hn | exact q_Sl_lays sU | exact q_Sl_lays sN | exact q_Sl_ref sU | exact q_Sl_ref sN
  have hown' : s'.vm.findClass own = some m.cls := by rw [← hvm]; exact hown
  obtain ⟨vm₁, cX, kX, hfX, hkX, -, -, X₁, st1⟩ := Y.newCold hx (own := own) (C := E) (index := ik) (n := 6) hown' (hw' _ List.mem_cons_self) (h _ (by simp [Bundle.ownAtoms])) (hw' _ (List.mem_cons_of_mem _ List.mem_cons_self))
    (g := F0 m pc ls []) rfl (by rw [hb]; exact d0) (Nat.le_refl _) (Nat.le_refl _)
  generalize hT1 : (T.setVm vm₁).pushCell { cls := cX, slots := kX.instanceTypes.map defaultValue, vm := .none } = T1 at X₁ st1
  have hcellA : T1.heap[T.heap.size]? = some (freshCell cX kX) := by rw [← hT1]; exact State.heap_pushCell_size _ _
  have d3' : decode c.code (pc + 3) = .ok (.dup, 1) := by rw [hb]; exact d3
  have hstr' : vk_R own is text sa s' := vk_R.warm hW0 hstr
  obtain ⟨U, hsteps, hrun, hend, hW, hsame, ce, hce, hO⟩ := X₁.ctorThrowS hx htr (own := own) (cls := E) (names := xUp) (ic := ic) hown' hE (by decide +kernel) h (fun x hx => nomatch hx) hfX hkX hcellA (by rw [hhp, hT]; exact Nat.le_refl _) (msg := .ref sa) rfl
    (g := { method := m, pc := pc + 6, locals := ls, stack := [.ref sa, .ref T.heap.size, .ref T.heap.size], locked := none }) rfl hsize rfl rfl (rest := []) rfl
    (by rw [hb]; exact d6) (by rw [hb]; exact d9) hout hRf (by show 2 * 0 + (1 + 0) + (13 * 3 + 42) ≤ R.locals; omega) hlocks
  have hold : ∀ q : Nat, q < H.size → U.heap[q]? = H[q]? := by
    intro q hq
    obtain ⟨-, -, -, -, -, h6⟩ := hsame
    obtain ⟨c9, e1, e2, e3, e4⟩ := h6 q _ (Array.getElem?_eq_getElem (show q < s'.heap.size by rw [hhp]; exact hq))
    have hs : c9.slots = (s'.heap[q]'(by rw [hhp]; exact hq)).slots := Array.ext_getElem? fun i => e4 i fun hm => nomatch hm
    have h9 : c9 = s'.heap[q]'(by rw [hhp]; exact hq) := by
      rw [hs] at e2
      exact e2
    have e5 : U.heap[q]? = some c9 := e1
    rw [e5, h9, ← Array.getElem?_eq_getElem, hhp]
  have hsz : H.size ≤ U.heap.size := by
    obtain ⟨-, h2, -⟩ := hsame
    rw [hhp] at h2
    exact h2
  have hall : s.sameButNew ({ U with vm := s.vm } : State) locs 1 6 := by
    subst hs'
    obtain ⟨e1, e2⟩ := hsame
    rw [State.setFrames_setFrames] at e1
    have h2 : (T.setVm s.vm).sameButNew ({ U with vm := s.vm } : State) [] (0 + 1) (0 + 6) := ⟨e1, e2⟩
    have h3 := X.same.trans h2
    rw [List.append_nil] at h3
    exact h3.mono (by omega) (by omega)
  have hP : va_P D cl ws' U.heap := fun i q hi => (I.1 i q hi).kept (hold q.1 (I.1 i q hi).lt)
  have hF : va_F A s U := ⟨Nat.le_trans I.2.2.1 hsz, fun q hq hn => by rw [hold q (Nat.lt_of_lt_of_le hq I.2.2.1)]; exact I.2.2.2.1 q hq hn⟩
  refine ⟨U, ?_, .threw T.heap.size, hrun, hend, T.heap.size, ce, locs, rfl, ⟨hce, hO.vm, by rw [hvm]; exact hO.cls⟩, ⟨hP, I.2.1, hF⟩, State.WarmedH.trans hW0 hW, hall, I.2.2.2.2⟩
  refine st1 _ ?_
  show Steps p.tables e below (T1.setTop { method := m, pc := pc + 3, locals := ls, stack := [.ref T.heap.size], locked := none }) _
  jvm_step X₁.here [X₁.here.top, hx, d3', Value.category]
  exact X₁.ldcString hx (own := own) (text := text) (index := is) (a := sa) hown' hstr'.1 hstr'.2
    (g := { method := m, pc := pc + 4, locals := ls, stack := [.ref T.heap.size, .ref T.heap.size], locked := none }) rfl (by rw [hb]; exact d4) _ hsteps
end QTHR
/-! THIS CLASS's THROWS -/
def xIA : String := "java/lang/IllegalArgumentException"
def xIS : String := "java/lang/IllegalStateException"
def xE (b : Bool) : String := if b then xIA else xIS
def XW : List Cond := q_xw "JobTerminal" 80 84 xIA ++ q_xw "JobTerminal" 87 91 xIS
def XS : List (Nat × String) := [(82, "no such program"), (89, "another job is in the foreground"), (100, "there are four jobs"), (102, "not enough free slots"), (118, "no such job"), (124, "the job is done"), (130, "no such signal")]
def q_xk : Cond → Bool
  | .declares _ => true
  | .castable .. => true
  | w => goodWord w
theorem XW_k : ∀ w ∈ XW, w.onTables = true ∧ q_xk w = true := by decide +kernel
/-- what a throw stands on, of the tables -/
def q_Xt (s : State) : Prop := (∀ w ∈ XW, va_Nw w s) ∧ ∀ q ∈ XS, ∃ sa, vk_R "JobTerminal" q.1 q.2 sa s
theorem q_Xt_warm {s U : State} (hW : s.WarmedH U.vm) (h : q_Xt s) : q_Xt U := by
  refine ⟨fun w hw => ?_, fun q hq => ?_⟩
  · have h1 := h.1 w hw
    obtain ⟨k1, k2⟩ := XW_k w hw
    cases w with
    | declares x => exact va_Nw.warmD hW h1
    | castable a b => exact va_Nw.warmC hW h1
    | _ => exact va_Nw.of k1 (A := #[]) (word_at hW (good_of_word k2) h1)
  · obtain ⟨sa, h1⟩ := h.2 q hq
    exact ⟨sa, vk_R.warm hW h1⟩
theorem q_Xt_same {s U : State} (hv : s.vm = U.vm) (h : q_Xt s) : q_Xt U := q_Xt_warm (by rw [← hv]; exact State.WarmedH.refl s) h
/-- .. and of the heap -/
def q_Xz (A : Nat → Prop) (s : State) (H : Heap) : Prop := q_Sl "UNASSIGNED_STACK" Bundle.steD A s H ∧ q_Sl "SUPPRESSED_SENTINEL" Bundle.listD A s H
abbrev q_X0 (l : Launch) (A : Nat → Prop) (s : State) (c : Code) : Prop := l.stackTraces = false ∧ (∀ w ∈ XW, va_Nw w s) ∧ (∀ q ∈ XS, ∃ sa, vk_R "JobTerminal" q.1 q.2 sa s) ∧ q_Sl "UNASSIGNED_STACK" Bundle.steD A s s.heap ∧ q_Sl "SUPPRESSED_SENTINEL" Bundle.listD A s s.heap ∧ c.exceptionTable.isEmpty = true
def q_PreX (D : va_G) (cl : List vw_C) (tys : List (ClassId × FieldType)) (nw : List Cond) (av : List Value) (ws : va_W) (sz : Nat) : Array Value → State → Prop := fun a s => q_Pre D cl tys nw av ws sz a s ∧ (∀ w ∈ XW, va_Nw w s) ∧ (∀ q ∈ XS, ∃ sa, vk_R "JobTerminal" q.1 q.2 sa s) ∧ q_Sl "UNASSIGNED_STACK" Bundle.steD (va_A ws s.heap.size) s s.heap ∧ q_Sl "SUPPRESSED_SENTINEL" Bundle.listD (va_A ws s.heap.size) s s.heap
theorem q_PreX_blind {D : va_G} {cl : List vw_C} {tys : List (ClassId × FieldType)} {nw : List Cond} {av : List Value} {ws : va_W} {sz : Nat} (hnw : q_nwOk nw) : FrameBlind (q_PreX D cl tys nw av ws sz) := by
  intro a U g mk h
  obtain ⟨h0, h1, h2, h3, h4⟩ := h
  have hx := q_Xt_same (s := U) (U := U.calling g mk a) rfl ⟨h1, h2⟩
  exact ⟨q_Pre_blind hnw a U g mk h0, hx.1, hx.2, q_Sl_vm (u := U) (U := U.calling g mk a) (Vm.Alike.refl U.vm) h3, q_Sl_vm (u := U) (U := U.calling g mk a) (Vm.Alike.refl U.vm) h4⟩
section QTHR2
variable {p : Program} {l : Launch} {e : Env} {R : Room} {s : State} {m : MethodId} {args : Array Value} {below : List Frame} {meth : Method} {c : Code} {H : Heap} {locs : List Loc}
variable {cc : ByteArray} {pc : Nat} {ls : Array Slot} {D : va_G} {cl : List vw_C} {A : Nat → Prop} {ws' : va_W}
theorem q_thrA {is : Nat} {text : String} (hx : p.tables.exec = Jvm.exec) (hb : c.code = cc) (X0 : q_X0 l A s c) (hown : s.vm.findClass "JobTerminal" = some m.cls) (hm : (is, text) ∈ XS) (I : q_I D cl A s.heap ws' H locs) (hA : ∀ q, s.heap.size ≤ q → A q) (hsize : ls.size = c.maxLocals)
    (d0 : decode cc pc = .ok (.new 80, 3)) (d3 : decode cc (pc + 3) = .ok (.dup, 1)) (d4 : decode cc (pc + 4) = .ok (.ldc is, 2)) (d6 : decode cc (pc + 6) = .ok (.invokespecial 84, 3)) (d9 : decode cc (pc + 9) = .ok (.athrow, 1))
    (hRf : 5 < R.frames) (hRl : 82 ≤ R.locals) (hRc : 1 ≤ R.cells) (hRs : 6 ≤ R.slots) (hlocks : meth.locks = false) : W p l e R s m args below meth c H locs 0 0 (q_MQX below D cl (xE true) ws' args s A) (F0 m pc ls []) := by
  obtain ⟨hl, hw, hs, hU, hN, he⟩ := X0
  obtain ⟨sa, hstr⟩ := hs _ hm
  exact q_thr hx hb hl hown (by decide +kernel) (fun w h => (XW_k w (List.mem_append_left _ h)).1) (fun w h => hw w (List.mem_append_left _ h)) hstr hU hN I hA hsize d0 d3 d4 d6 d9 (covers_of_empty he _) hRf hRl hRc hRs hlocks
theorem q_thrS {is : Nat} {text : String} (hx : p.tables.exec = Jvm.exec) (hb : c.code = cc) (X0 : q_X0 l A s c) (hown : s.vm.findClass "JobTerminal" = some m.cls) (hm : (is, text) ∈ XS) (I : q_I D cl A s.heap ws' H locs) (hA : ∀ q, s.heap.size ≤ q → A q) (hsize : ls.size = c.maxLocals)
    (d0 : decode cc pc = .ok (.new 87, 3)) (d3 : decode cc (pc + 3) = .ok (.dup, 1)) (d4 : decode cc (pc + 4) = .ok (.ldc is, 2)) (d6 : decode cc (pc + 6) = .ok (.invokespecial 91, 3)) (d9 : decode cc (pc + 9) = .ok (.athrow, 1))
    (hRf : 5 < R.frames) (hRl : 82 ≤ R.locals) (hRc : 1 ≤ R.cells) (hRs : 6 ≤ R.slots) (hlocks : meth.locks = false) : W p l e R s m args below meth c H locs 0 0 (q_MQX below D cl (xE false) ws' args s A) (F0 m pc ls []) := by
  obtain ⟨hl, hw, hs, hU, hN, he⟩ := X0
  obtain ⟨sa, hstr⟩ := hs _ hm
  exact q_thr hx hb hl hown (by decide +kernel) (fun w h => (XW_k w (List.mem_append_right _ h)).1) (fun w h => hw w (List.mem_append_right _ h)) hstr hU hN I hA hsize d0 d3 d4 d6 d9 (covers_of_empty he _) hRf hRl hRc hRs hlocks
end QTHR2

