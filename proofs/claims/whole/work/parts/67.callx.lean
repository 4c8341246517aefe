/-! CALLS: of a method that throws; of a static one that has a table -/
section QCALLX
variable {p : Program} {l : Launch} {e : Env} {R : Room} {s : State} {m : MethodId} {args : Array Value} {below : List Frame} {meth : Method} {c : Code} {H H0 : Heap} {locs : List Loc} {cells slots : Nat} {Q : State → Prop}
variable {cc : ByteArray} {pc : Nat} {ls : Array Slot} {rest st0 : List Value} {D : va_G} {cl : List vw_C} {A : Nat → Prop} {tys : List (ClassId × FieldType)} {nw : List Cond}
variable {y : MethodName} {bytes : ByteArray} {maxL nL n index : Nat} {ret : Option FieldType} {wy : List Cond} {rm : Room} {Ts : List Cond} {own C E : String} {b : Addr} {As : List Value} {w1 w2 w1' : va_W}
theorem q_callX (S : CallFix p m c cc nL s args Ts own) (hM : q_MetX l y wy rm (q_PreX D cl tys nw (.ref b :: As) w1 H.size) D cl E w1' (va_A w1 H.size)) (cw : CallW R s args own C index y bytes maxL ret wy rm 1 6 n) (hnw : q_nwOk nw) (hK : va_K D cl tys s) (hN : ∀ w ∈ nw, va_Nw w s) (hXt : q_Xt s) (hXz : q_Xz A s H0)
    (hA : ∀ q, H0.size ≤ q → A q) (I : q_I D cl A H0 (w1 ++ w2) H locs) {q0 ci : Nat} {T0 : u_T} {N : Nat} {fs : List Value} (hc : cl[ci]? = some (C, T0, N)) (he : w1[q0]? = some (b, .inr (ci, fs)))
    (hn : As.length = n) (hsize : ls.size = nL) (hstack : st0 = As.reverse ++ .ref b :: rest) (hW : (rest.map fun v => v.category).sum ≤ 8) (hdg : decode cc pc = .ok (.invokevirtual index, 3)) (hf : cells + 1 ≤ R.cells ∧ slots + 6 ≤ R.slots)
    (kk : ∀ (q : Addr) (ce : Cell) (H1 : Heap) (locs1 : List Loc), q_I D cl A H0 (w1' ++ w2) H1 locs1 → H1[q]? = some ce → ce.vm = .none → s.vm.findClass E = some ce.cls → q_WX p l e R s m args below meth c H1 locs1 (cells + 1) (slots + 6) Q (F0 m pc ls rest) q) : W p l e R s m args below meth c H locs cells slots Q (F0 m pc ls st0) := by
  obtain ⟨lP, lD⟩ := q_left I
  have hF : ∀ q, va_A w1 H.size q → A q := by
    intro q h
    rcases h with ⟨k, e9, h⟩ | h
    · exact lD.2 k (q, e9) h
    · exact hA q (Nat.le_trans I.2.2.1 h)
  obtain ⟨⟨hrc, hrs, hfr, hlo, hws, hcw, hcode, hini, hy, hlen, hl⟩, hin, hse⟩ := cw
  obtain ⟨hx, hb, hml, ho, -⟩ := S
  obtain ⟨cellB, hcB, hoB, hclB⟩ := va_recv hK lP hc he
  intro T hT X
  obtain ⟨mk, methM, hnamed, hmethM, hstM, habM⟩ := Cond.instanceMethod_spec hin
  obtain ⟨methM', cM, hmethM', hcM, -, hlM, -, -, -, hsigM⟩ := Cond.code_spec hnamed hcode
  cases hmethM.symm.trans hmethM'
  obtain ⟨c2, r2, m2, q1, q2, q3, q4, kP, hkP, hkPi⟩ := Cond.selects_spec hse
  cases hclB.symm.trans q1
  cases (State.methodFound?_of_named hnamed hy).symm.trans q2
  cases hnamed.symm.trans q3
  have hselP : selectMethod e.platform s.vm cellB.cls mk = .method mk := by rw [Launch.admits_selectMethod X.admits]; exact q4
  obtain ⟨vm₁, X₁, hstep₁⟩ := X.invokevirtual hx ho hl hnamed hmethM hstM hkP hkPi hy (a := b) (cell := cellB) (by rw [hT]; exact hcB) (fun z h => by rw [h] at hoB; cases hoB) hselP hmethM habM hkP hkPi (g := F0 m pc ls st0) rfl (argsL := As) (rest := rest) (hn.trans (hlen _ hsigM)) hstack (by rw [hb]; exact hdg)
  obtain ⟨a, ha⟩ : ∃ z, z = (Value.ref b :: As).toArray := ⟨_, rfl⟩
  obtain ⟨g1, hg1⟩ : ∃ z, z = ({ (F0 m pc ls st0) with stack := rest } : JFrame) := ⟨_, rfl⟩
  have hgm : g1.method = m := by rw [hg1]
  have hpre1 : (headSpec wy rm).pre.before a (T.setVm vm₁) = true := atoms_intro fun w hw => hws w hw _ _ X₁.warmed
  have hini1 : (Cond.initialized y.cls).before a (T.setVm vm₁) = true := word_at X₁.warmed (Or.inl (by first | rfl | simp [Cond.onTables, Cond.keeps, Cond.steady])) hini
  have hcode1 : (Cond.code y bytes maxL ret).before a (T.setVm vm₁) = true := hws _ hcw _ _ X₁.warmed
  have hn1 := X₁.named hnamed
  obtain ⟨methY, cY, hmY, hcY, -, hlY, -, -, -, -⟩ := Cond.code_spec hn1 hcode1
  obtain ⟨kY, hkY, -⟩ := className_of_methodNamed hn1
  have hinitY : kY.init = .initialized := Cond.initialized_spec (findClass_of_methodNamed hn1) hkY hini1
  have hat : At (T.setVm vm₁) g1.method c below := by rw [hgm]; exact X₁.here
  have hsz : g1.locals.size = c.maxLocals := by rw [hg1]; exact hsize.trans hml.symm
  have hdg1 : decode c.code g1.pc = .ok (.invokevirtual index, 3) := by rw [hg1, hb]; exact hdg
  have hroomW : 2 * g1.monitorRoom + (g1.stack.map fun v => v.category).sum ≤ 8 := by rw [hg1]; exact lv_room hW
  have happ : (headSpec wy rm).appliesLoose y e.platform ((T.setVm vm₁).calling g1 mk a) = true :=
    Spec.appliesLoose_calling (g := g1) hat hdg1 hn1 hkY hinitY
      (X₁.room_calling (g := g1) (R' := (headSpec wy rm).room) hsz hmY hcY hfr (by rw [hlY]; show _ + _ + rm.locals ≤ _; omega) (by show cells + rm.cells ≤ _; rw [hrc]; exact hf.1) (by show slots + rm.slots ≤ _; rw [hrs]; exact hf.2)) hpre1
  obtain ⟨mid, hmid⟩ := hat.above
  have hfrm : ((T.setVm vm₁).setTop g1).frames = (.java g1 :: mid) ++ below := by rw [State.frames_setTop' g1 hat.top, hmid]; rfl
  have hhp : (T.setVm vm₁).heap = H := hT
  have hPc : q_PreX D cl tys nw (.ref b :: As) w1 H.size a ((T.setVm vm₁).calling g1 mk a) := by
    refine q_PreX_blind hnw a (T.setVm vm₁) g1 mk ?_
    have xt := q_Xt_warm (U := T.setVm vm₁) X₁.warmed hXt
    have sl : ∀ {nm d : String}, q_Sl nm d A s H0 → q_Sl nm d (va_A w1 (T.setVm vm₁).heap.size) (T.setVm vm₁) (T.setVm vm₁).heap := fun h => by
      rw [hhp]
      exact q_Sl_vm X₁.warmed.alike (q_Sl_keep (q_Sl_keep h (fun _ _ z => z) I.2.2.2.1) (fun q _ z => hF q z) (fun _ _ _ => rfl))
    exact ⟨by rw [ha]; exact q_Pre_at hnw hK hN lP lD hhp X₁.warmed, xt.1, xt.2, sl hXz.1, sl hXz.2⟩
  obtain ⟨o, s₂, hsteps, -, hend, hq⟩ := Steps.callFree hM p X.admits X.cas X.clock (acts := []) hfrm happ hPc trivial
  obtain ⟨q, ce, L, rfl, ⟨hce, hcv, hcl⟩, ⟨wP, wD, wF⟩, hW2, hsm, hL⟩ := hq
  rw [State.frames_setTop' g1 hat.top] at hend
  have htail : (T.setVm vm₁).frames.tail = below := X₁.tail
  rw [htail] at hend
  obtain ⟨T', X', hW3, hsame, ht⟩ := X₁.outOfThrown (g := g1) hgm hend hW2 hsm
  have hh' : T'.heap = s₂.heap := by rw [ht, Stand.throwing_heap]
  have hcl' : s.vm.findClass E = some ce.cls := by
    have h9 : (T.setVm vm₁).vm.findClass E = some ce.cls := hcl
    rw [X₁.warmed.alike.findClass] at h9
    exact h9
  have hFs : ∀ q : Nat, q < H.size → ¬ va_A w1 H.size q → T'.heap[q]? = H[q]? := fun q h1 h2 => by
    have h3 := wF.2 q (by show q < (T.setVm vm₁).heap.size; rw [hhp]; exact h1) h2
    have h4 : s₂.heap[q]? = (T.setVm vm₁).heap[q]? := h3
    rw [hh', h4, hhp]
  have hszz : H.size ≤ T'.heap.size := by
    have h3 : (T.setVm vm₁).heap.size ≤ s₂.heap.size := wF.1
    rw [hh', ← hhp]; exact h3
  obtain ⟨j1, j2⟩ := q_join hA I (by rw [hh']; exact wP) wD hFs
  have hS1 : va_S A H0 T'.heap (locs ++ L) := by
    refine ⟨Nat.le_trans I.2.2.1 hszz, fun q h1 h2 => ?_, fun z hz => ?_⟩
    · rw [hFs q (Nat.lt_of_lt_of_le h1 I.2.2.1) (fun z => h2 (hF q z))]; exact I.2.2.2.1 q h1 h2
    · rcases List.mem_append.mp hz with h | h
      · exact I.2.2.2.2 z h
      · exact hF _ (hL z h)
  obtain ⟨t, a1, b1⟩ := kk q ce T'.heap (locs ++ L) ⟨j1, j2, hS1⟩ (by rw [hh']; exact hce) hcv hcl' T' rfl X'
  refine ⟨t, ?_, b1⟩
  refine hstep₁ _ fun acts => ?_
  rw [doInvoke_state, ← ha, show ({ (F0 m pc ls st0) with stack := rest } : JFrame) = g1 from hg1.symm]
  refine hsteps.trans ?_
  rw [ht, hg1]
  exact a1
abbrev q_CSW (R : Room) (s : State) (args : Array Value) (own : String) (index : Nat) (y : MethodName) (bytes : ByteArray) (maxL : Nat) (ret : Option FieldType) (hh : List (Nat × Nat × Nat × Nat)) (ws : List Cond) (rm : Room) (mc ms n : Nat) : Prop :=
  (rm.cells = mc ∧ rm.slots = ms ∧ rm.frames + 1 ≤ R.frames ∧ 8 + (maxL + 11) + rm.locals ≤ R.locals) ∧ ((∀ w ∈ ws, ∀ (a' : Array Value) (U : State), s.WarmedH U.vm → w.before a' U = true) ∧ Cond.codeWith y bytes maxL ret hh ∈ ws ∧ (Cond.codeWith y bytes maxL ret hh).before args s = true) ∧ (Cond.initialized y.cls).before args s = true ∧ (y.cls ≠ "java/lang/invoke/MethodHandle" ∧ y.cls ≠ "java/lang/invoke/VarHandle") ∧ (∀ sig, parseMethodDescriptor y.desc = some sig → n = sig.parameters.length) ∧ (Cond.methodLink own index y).before args s = true ∧ (Cond.static y).before args s = true
/-- a static method that has a table -/
theorem q_runSW {hh : List (Nat × Nat × Nat × Nat)} {mc ms : Nat} {Pc : Array Value → State → Prop} {Qc : Array Value → State → Outcome → State → Prop} {free : Addr → Prop} (S : CallFix p m c cc nL s args Ts own) (hM : Met l y wy rm Pc Qc mc ms free) (cw : q_CSW R s args own index y bytes maxL ret hh wy rm mc ms n) (hp : PreS s H Pc As)
    (hn : As.length = n) (hsize : ls.size = nL) (hstack : st0 = As.reverse ++ rest) (hW : (rest.map fun v => v.category).sum ≤ 8) (hdg : decode cc pc = .ok (.invokestatic index, 3)) (hf : cells + mc ≤ R.cells ∧ slots + ms ≤ R.slots) :
    va_Run p l e R s m args below meth c H locs cells slots mc ms (F0 m pc ls st0) rest (Qc As.toArray) free := by
  obtain ⟨⟨hrc, hrs, hfr, hlo⟩, ⟨hws, hcw, hcode⟩, hini, hy, hlen, hl, hst⟩ := cw
  have hK : Back l R p e below s args y 3 8 (PreOf R mc ms Pc) (PostOf Qc mc ms free) := va_backW (hh := hh) (bytes := bytes) (maxL := maxL) (ret := ret) hM hp.1 hrc hrs hfr hlo hws hcw (fun a' U hW => word_at hW (Or.inl (by first | rfl | simp [Cond.onTables, Cond.keeps, Cond.steady])) hini)
  obtain ⟨hx, hb, hml, ho, -⟩ := S
  intro T hT X
  obtain ⟨mk, methM, cM, hnamed, hmethM, -, -, -, -, -, -, hsigM⟩ := Cond.codeWith_spec hcode
  have hstatic : methM.isStatic = true := Cond.static_spec hnamed hmethM hst
  obtain ⟨kP, hkP, -⟩ := className_of_methodNamed hnamed
  have hinitP : kP.init = .initialized := Cond.initialized_spec (findClass_of_methodNamed hnamed) hkP hini
  obtain ⟨vm₁, X₁, hstep₁⟩ := X.invokestatic hx ho hl hnamed hmethM hstatic hkP hinitP hy (g := F0 m pc ls st0) rfl (argsL := As) (rest := rest) (hn.trans (hlen _ hsigM)) hstack (by rw [hb]; exact hdg)
  obtain ⟨v, ⟨U', l2, c2, s2⟩, X', hpost, hsteps⟩ := hK m meth c ⟨T.setVm vm₁, locs, cells, slots⟩ { (F0 m pc ls st0) with stack := rest } (.invokestatic index) mk As.toArray X₁ rfl (hsize.trans hml.symm) (by rw [hb]; exact hdg) (lv_room hW) (X₁.named hnamed) ⟨hf.1, hf.2, hp.2 (T.setVm vm₁) hT X₁.warmed⟩
  obtain ⟨g', mk', t, L, e1, e2, hq, h1, hL, h2, h3⟩ := hpost
  dsimp only [Pt.U, Pt.locs, Pt.cells, Pt.slots] at X' e1 e2 h1 h2 h3 hsteps
  subst h1; subst h2; subst h3
  exact ⟨v, (T.setVm vm₁).calling g' mk' As.toArray, t, U', L, hT, X', hL, e1, e2, hq, fun target h => hstep₁ _ fun acts => by rw [doInvoke_state]; exact hsteps.trans h⟩
end QCALLX
