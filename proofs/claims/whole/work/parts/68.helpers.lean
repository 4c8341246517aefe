/-! THE LAW's HELPERS -/
def q_PreY (D : va_G) (cl : List vw_C) (tys : List (ClassId × FieldType)) (nw : List Cond) (av : List Value) (ws : va_W) (sz : Nat) : Array Value → State → Prop := fun a s => q_PreX D cl tys nw av ws sz a s ∧ va_Nc xIS xIA s
theorem q_PreY_blind {D : va_G} {cl : List vw_C} {tys : List (ClassId × FieldType)} {nw : List Cond} {av : List Value} {ws : va_W} {sz : Nat} (hnw : q_nwOk nw) : FrameBlind (q_PreY D cl tys nw av ws sz) := fun a U g mk h => ⟨q_PreX_blind hnw a U g mk h.1, va_Nc.moved (u := U) (U := U.calling g mk a) (Vm.Alike.refl U.vm) h.2⟩
theorem q_table {p : Program} {l : Launch} {y : MethodName} {S : Spec} {cc bytes : ByteArray} {maxL maxL' : Nat} {ret ret' : Option FieldType} {e : Env} {s s₁ : State} {m : MethodId} {args : Array Value} {below : List Frame} {meth : Method} {c : Code} {hh : List (Nat × Nat × Nat × Nat)} (B : BodyLoose p l y S cc maxL ret e s m args below meth c s₁) (h : (Cond.codeWith y bytes maxL' ret' hh).before args s = true) : c.exceptionTable.toList = hh.map (fun q => (⟨q.1, q.2.1, q.2.2.1, q.2.2.2⟩ : ExceptionTableEntry)) := by
  obtain ⟨m9, meth9, c9, hn9, h1, h2, -, -, h6, -⟩ := Cond.codeWith_spec h
  cases Option.some.inj (hn9.symm.trans B.named)
  cases Option.some.inj (h1.symm.trans B.method)
  cases Option.some.inj (h2.symm.trans (Stand.of_body B).code)
  rw [← h6, List.map_map]
  exact (List.map_id' _).symm
theorem q_wsl (N : Nat) (ad : Nat → Nat) (cel : Nat → va_E) : (q_ws N ad cel).length = N := by simp [q_ws]
section QHELP
variable {p : Program} {l : Launch} {e : Env} {R : Room} {s : State} {m : MethodId} {args : Array Value} {below : List Frame} {meth : Method} {c : Code} {H H0 : Heap} {locs : List Loc} {cells slots : Nat} {Q : State → Prop}
variable {cc : ByteArray} {pc : Nat} {ls : Array Slot} {rest st0 : List Value} {D : va_G} {cl : List vw_C} {A : Nat → Prop} {tys : List (ClassId × FieldType)} {nw : List Cond}
variable {y : MethodName} {bytes : ByteArray} {maxL nL n index : Nat} {ret : Option FieldType} {wy : List Cond} {rm : Room} {Qc : Array Value → State → Outcome → State → Prop} {free : Addr → Prop} {Ts : List Cond} {own C : String} {b : Addr} {As : List Value} {w1 w2 : va_W}
/-- a call on the first part of the world -/
theorem q_runVF (S : CallFix p m c cc nL s args Ts own) (hM : Met l y wy rm (q_Pre D cl tys nw (.ref b :: As) w1 H.size) Qc 0 0 free) (cw : CallW R s args own C index y bytes maxL ret wy rm 0 0 n) (hnw : q_nwOk nw) (hK : va_K D cl tys s) (hN : ∀ w ∈ nw, va_Nw w s) (I : q_I D cl A H0 (w1 ++ w2) H locs) {q0 ci : Nat} {T : u_T} {N : Nat} {fs : List Value} (hc : cl[ci]? = some (C, T, N)) (he : w1[q0]? = some (b, .inr (ci, fs)))
    (hn : As.length = n) (hsize : ls.size = nL) (hstack : st0 = As.reverse ++ .ref b :: rest) (hW : (rest.map fun v => v.category).sum ≤ 8) (hdg : decode cc pc = .ok (.invokevirtual index, 3)) (hf : cells ≤ R.cells ∧ slots ≤ R.slots) :
    va_Run p l e R s m args below meth c H locs cells slots 0 0 (F0 m pc ls st0) rest (Qc (Value.ref b :: As).toArray) free :=
  va_runV (g := F0 m pc ls st0) S hM cw ⟨q_Pre_blind hnw, va_recv hK (q_left I).1 hc he, fun U hU hW => q_Pre_at hnw hK hN (q_left I).1 (q_left I).2 hU hW⟩ rfl hn hsize hstack (lv_room hW) hdg hf
/-- out[0] = x: the row of one long behind the class's world -/
theorem q_last1 {cs : Nat → ClassId} {ad : Nat → Nat} {cel : Nat → va_E} {oa : Nat} {g : Nat → Int64} {x : Int64} (hx : p.tables.exec = Jvm.exec) (hb : c.code = cc) (hK : va_K D cl (tyL cs) s) (I : q_I D cl A H0 (q_ws 33 ad cel ++ [(oa, .inl (cs 4, 1, .inr (.inl g)))]) H locs) (hdg : decode cc pc = .ok (.lastore, 1))
    (kk : ∀ (H : Heap) (locs : List Loc), q_I D cl A H0 (q_ws 33 ad cel ++ [(oa, .inl (cs 4, 1, .inr (.inl (vp_updL g 0 x))))]) H locs → W p l e R s m args below meth c H locs cells slots Q (F0 m (pc + 1) ls rest)) : W p l e R s m args below meth c H locs cells slots Q (F0 m pc ls (.long x :: .int 0 :: .ref oa :: rest)) := by
  have hat : (q_ws 33 ad cel ++ [(oa, (.inl (cs 4, 1, .inr (.inl g)) : va_E))])[33]? = some (oa, .inl (cs 4, 1, .inr (.inl g))) := by
    rw [List.getElem?_append_right (by rw [q_wsl]; exact Nat.le_refl _), q_wsl]; rfl
  have hset : ∀ z : Nat × va_E, (q_ws 33 ad cel ++ [(oa, (.inl (cs 4, 1, .inr (.inl g)) : va_E))]).set 33 z = q_ws 33 ad cel ++ [z] := fun z => by
    rw [List.set_append_right _ _ (by rw [q_wsl]; exact Nat.le_refl _), q_wsl]; rfl
  refine va_last hx hb hK I.1 I.2.1 I.2.2 33 4 hat rfl (i := 0) (q_in_vp (show q_in 0 1 = true by decide)) hdg (fun H1 locs1 hP hD hS => ?_)
  rw [hset] at hP hD
  exact kk H1 locs1 ⟨hP, hD, hS⟩
end QHELP

set_option maxRecDepth 20000 in
theorem mw568 : (Jvm.Cond.codeWith ({ cls := "JobTerminalLaw", name := "launch", desc := "(LJobTerminal;IIZ[J)I" } : Jvm.MethodName) method_3_code (6 : Nat) (Option.some Jvm.ClassFile.FieldType.int) [((0 : Nat), (12 : Nat), (15 : Nat), (13 : Nat)), ((0 : Nat), (12 : Nat), (19 : Nat), (15 : Nat))]) ∈ GW := q_mem 558 rfl rfl
set_option maxRecDepth 20000 in
theorem mw569 : (Jvm.Cond.code ({ cls := "JobTerminal", name := "launch", desc := "(IIZ)I" } : Jvm.MethodName) prog_1_method_5_code (8 : Nat) (Option.some Jvm.ClassFile.FieldType.int)) ∈ GW := q_mem 564 rfl rfl
set_option maxRecDepth 20000 in
theorem mw570 : (Jvm.Cond.methodLink "JobTerminalLaw" (7 : Nat) ({ cls := "JobTerminal", name := "launch", desc := "(IIZ)I" } : Jvm.MethodName)) ∈ GW := q_mem 561 rfl rfl
set_option maxRecDepth 20000 in
theorem mw571 : (Jvm.Cond.instanceMethod ({ cls := "JobTerminal", name := "launch", desc := "(IIZ)I" } : Jvm.MethodName)) ∈ GW := q_mem 562 rfl rfl
set_option maxRecDepth 20000 in
theorem mw572 : (Jvm.Cond.selects "JobTerminal" ({ cls := "JobTerminal", name := "launch", desc := "(IIZ)I" } : Jvm.MethodName) ({ cls := "JobTerminal", name := "launch", desc := "(IIZ)I" } : Jvm.MethodName)) ∈ GW := q_mem 563 rfl rfl
set_option maxRecDepth 20000 in
theorem mw573 : (Jvm.Cond.classLink "JobTerminalLaw" (13 : Nat) "java/lang/IllegalArgumentException") ∈ GW := q_mem 559 rfl rfl
set_option maxRecDepth 20000 in
theorem mw574 : (Jvm.Cond.classLink "JobTerminalLaw" (15 : Nat) "java/lang/IllegalStateException") ∈ GW := q_mem 560 rfl rfl
set_option maxRecDepth 20000 in
theorem mw575 : (Jvm.Cond.codeWith ({ cls := "JobTerminalLaw", name := "front", desc := "(LJobTerminal;I[J)I" } : Jvm.MethodName) method_4_code (4 : Nat) (Option.some Jvm.ClassFile.FieldType.int) [((0 : Nat), (9 : Nat), (12 : Nat), (13 : Nat)), ((0 : Nat), (9 : Nat), (15 : Nat), (15 : Nat))]) ∈ GW := q_mem 669 rfl rfl
set_option maxRecDepth 20000 in
theorem mw576 : (Jvm.Cond.code ({ cls := "JobTerminal", name := "front", desc := "(I)I" } : Jvm.MethodName) prog_1_method_6_code (3 : Nat) (Option.some Jvm.ClassFile.FieldType.int)) ∈ GW := q_mem 673 rfl rfl
set_option maxRecDepth 20000 in
theorem mw577 : (Jvm.Cond.methodLink "JobTerminalLaw" (17 : Nat) ({ cls := "JobTerminal", name := "front", desc := "(I)I" } : Jvm.MethodName)) ∈ GW := q_mem 670 rfl rfl
set_option maxRecDepth 20000 in
theorem mw578 : (Jvm.Cond.instanceMethod ({ cls := "JobTerminal", name := "front", desc := "(I)I" } : Jvm.MethodName)) ∈ GW := q_mem 671 rfl rfl
set_option maxRecDepth 20000 in
theorem mw579 : (Jvm.Cond.selects "JobTerminal" ({ cls := "JobTerminal", name := "front", desc := "(I)I" } : Jvm.MethodName) ({ cls := "JobTerminal", name := "front", desc := "(I)I" } : Jvm.MethodName)) ∈ GW := q_mem 672 rfl rfl
set_option maxRecDepth 20000 in
theorem mw580 : (Jvm.Cond.codeWith ({ cls := "JobTerminalLaw", name := "back", desc := "(LJobTerminal;I[J)I" } : Jvm.MethodName) method_5_code (4 : Nat) (Option.some Jvm.ClassFile.FieldType.int) [((0 : Nat), (9 : Nat), (12 : Nat), (13 : Nat)), ((0 : Nat), (9 : Nat), (15 : Nat), (15 : Nat))]) ∈ GW := q_mem 682 rfl rfl
set_option maxRecDepth 20000 in
theorem mw581 : (Jvm.Cond.code ({ cls := "JobTerminal", name := "back", desc := "(I)I" } : Jvm.MethodName) prog_1_method_7_code (3 : Nat) (Option.some Jvm.ClassFile.FieldType.int)) ∈ GW := q_mem 686 rfl rfl
set_option maxRecDepth 20000 in
theorem mw582 : (Jvm.Cond.methodLink "JobTerminalLaw" (21 : Nat) ({ cls := "JobTerminal", name := "back", desc := "(I)I" } : Jvm.MethodName)) ∈ GW := q_mem 683 rfl rfl
set_option maxRecDepth 20000 in
theorem mw583 : (Jvm.Cond.instanceMethod ({ cls := "JobTerminal", name := "back", desc := "(I)I" } : Jvm.MethodName)) ∈ GW := q_mem 684 rfl rfl
set_option maxRecDepth 20000 in
theorem mw584 : (Jvm.Cond.selects "JobTerminal" ({ cls := "JobTerminal", name := "back", desc := "(I)I" } : Jvm.MethodName) ({ cls := "JobTerminal", name := "back", desc := "(I)I" } : Jvm.MethodName)) ∈ GW := q_mem 685 rfl rfl
set_option maxRecDepth 20000 in
theorem mw585 : (Jvm.Cond.codeWith ({ cls := "JobTerminalLaw", name := "send", desc := "(LJobTerminal;II[J)I" } : Jvm.MethodName) method_6_code (5 : Nat) (Option.some Jvm.ClassFile.FieldType.int) [((0 : Nat), (10 : Nat), (13 : Nat), (13 : Nat))]) ∈ GW := q_mem 689 rfl rfl
set_option maxRecDepth 20000 in
theorem mw586 : (Jvm.Cond.code ({ cls := "JobTerminal", name := "send", desc := "(II)I" } : Jvm.MethodName) prog_1_method_8_code (4 : Nat) (Option.some Jvm.ClassFile.FieldType.int)) ∈ GW := q_mem 693 rfl rfl
set_option maxRecDepth 20000 in
theorem mw587 : (Jvm.Cond.methodLink "JobTerminalLaw" (24 : Nat) ({ cls := "JobTerminal", name := "send", desc := "(II)I" } : Jvm.MethodName)) ∈ GW := q_mem 690 rfl rfl
set_option maxRecDepth 20000 in
theorem mw588 : (Jvm.Cond.instanceMethod ({ cls := "JobTerminal", name := "send", desc := "(II)I" } : Jvm.MethodName)) ∈ GW := q_mem 691 rfl rfl
set_option maxRecDepth 20000 in
theorem mw589 : (Jvm.Cond.selects "JobTerminal" ({ cls := "JobTerminal", name := "send", desc := "(II)I" } : Jvm.MethodName) ({ cls := "JobTerminal", name := "send", desc := "(II)I" } : Jvm.MethodName)) ∈ GW := q_mem 692 rfl rfl
abbrev b_La_launch : ByteArray := method_3_code
def y_La_launch : MethodName := ({ cls := "JobTerminalLaw", name := "launch", desc := "(LJobTerminal;IIZ[J)I" } : Jvm.MethodName)
abbrev w_La_launch : List Cond := .codeWith y_La_launch b_La_launch 6 (some .int) [(0, 12, 15, 13), (0, 12, 19, 15)] :: GW
theorem d_La_launch_0 : decode b_La_launch 0 = .ok (.aload 4, 2) := by decide +kernel
theorem d_La_launch_2 : decode b_La_launch 2 = .ok (.iconst 0, 1) := by decide +kernel
theorem d_La_launch_3 : decode b_La_launch 3 = .ok (.aload_n 0, 1) := by decide +kernel
theorem d_La_launch_4 : decode b_La_launch 4 = .ok (.iload_n 1, 1) := by decide +kernel
theorem d_La_launch_5 : decode b_La_launch 5 = .ok (.iload_n 2, 1) := by decide +kernel
theorem d_La_launch_6 : decode b_La_launch 6 = .ok (.iload_n 3, 1) := by decide +kernel
theorem d_La_launch_7 : decode b_La_launch 7 = .ok (.invokevirtual 7, 3) := by decide +kernel
theorem d_La_launch_10 : decode b_La_launch 10 = .ok (.i2l, 1) := by decide +kernel
theorem d_La_launch_11 : decode b_La_launch 11 = .ok (.lastore, 1) := by decide +kernel
theorem d_La_launch_12 : decode b_La_launch 12 = .ok (.goto 11, 3) := by decide +kernel
theorem d_La_launch_15 : decode b_La_launch 15 = .ok (.astore 5, 2) := by decide +kernel
theorem d_La_launch_17 : decode b_La_launch 17 = .ok (.iconst 1, 1) := by decide +kernel
theorem d_La_launch_18 : decode b_La_launch 18 = .ok (.ireturn, 1) := by decide +kernel
theorem d_La_launch_19 : decode b_La_launch 19 = .ok (.astore 5, 2) := by decide +kernel
theorem d_La_launch_21 : decode b_La_launch 21 = .ok (.iconst 2, 1) := by decide +kernel
theorem d_La_launch_22 : decode b_La_launch 22 = .ok (.ireturn, 1) := by decide +kernel
theorem d_La_launch_23 : decode b_La_launch 23 = .ok (.iconst 0, 1) := by decide +kernel
theorem d_La_launch_24 : decode b_La_launch 24 = .ok (.ireturn, 1) := by decide +kernel
set_option maxHeartbeats 4000000 in
set_option maxRecDepth 100000 in
theorem h_launch {l : Launch} {D : va_G} {ad : Nat → Nat} {cs : Nat → ClassId} {sz oa : Nat} {g : Nat → Int64} {σ : q_St} {p1 : Int32} {p2 : Int32} {p3 : Int32} {res : (Int32 × q_St)} (hf : f_JT_launch σ p1 p2 p3 = some res) : Met l y_La_launch w_La_launch ({ frames := 3, cells := 0, slots := 0, locals := 69 } : Room) (q_Pre D vwCl (tyL cs) NW [.ref (ad 0), .int p1, .int p2, .int p3, .ref oa] (q_ws 33 ad (cC ad cs σ) ++ [(oa, .inl (cs 4, 1, .inr (.inl g)))]) sz) (q_Qi D vwCl 0 (q_ws 33 ad (cC ad cs res.2) ++ [(oa, .inl (cs 4, 1, .inr (.inl (vp_updL g 0 res.1.toInt64))))]) (va_A (q_ws 33 ad (cC ad cs σ) ++ [(oa, .inl (cs 4, 1, .inr (.inl g)))]) sz)) 0 0 (va_A (q_ws 33 ad (cC ad cs σ) ++ [(oa, .inl (cs 4, 1, .inr (.inl g)))]) sz) := by
  refine va_MetW (cc := b_La_launch) (maxL := 6) (ret := some .int) (hh := [(0, 12, 15, 13), (0, 12, 19, 15)]) (by decide) rfl ?_
  intro p e s m args below meth c s₁ B hml hv
  obtain ⟨hargs, hsz, hP, hK, hD0, hN⟩ := hv
  have hx := B.exec
  have hb := B.bytes
  have hr := B.returns
  have hts := atoms_spec (ws := w_La_launch) B.pre
  have hown : s.vm.findClass "JobTerminalLaw" = some m.cls := findClass_of_methodNamed B.named
  have hlocks := B.notSynchronized
  have htg : ∀ w ∈ GW, w.before args s = true := fun w h => hts w (List.mem_cons_of_mem _ h)
  subst hsz
  have hD := hD0.self (sz := s.heap.size)
  generalize hAe : va_A (q_ws 33 ad (cC ad cs σ) ++ [(oa, .inl (cs 4, 1, .inr (.inl g)))]) s.heap.size = A at hD ⊢
  have hA : ∀ q : Nat, s.heap.size ≤ q → A q := fun q h => by rw [← hAe]; exact Or.inr h
  have I : q_I D vwCl A s.heap (q_ws 33 ad (cC ad cs σ) ++ [(oa, .inl (cs 4, 1, .inr (.inl g)))]) s.heap [] := ⟨hP, hD, va_S.rf⟩
  obtain ⟨ls, hen, hl⟩ := q_entry (vs := [.ref (ad 0), .int p1, .int p2, .int p3, .ref oa]) (n := 6) (lv := [(0, .ref (ad 0)), (1, .int p1), (2, .int p2), (3, .int p3), (4, .ref oa)]) (by intro v hv; simp only [List.mem_cons, List.not_mem_nil, or_false] at hv; rcases hv with rfl | rfl | rfl | rfl | rfl <;> first | rfl | exact q_cat) (Nat.le_of_ble_eq_true rfl) rfl
  rw [show entryFrame m args 6 = F0 m 0 ls [] from by rw [hargs]; exact hen m]
  refine lv_aload hx hb d_La_launch_0 (q_at hl 4 rfl) ?_
  refine lv_iconst (v := 0) hx hb d_La_launch_2 (by decide) ?_
  refine lv_aload_n hx hb d_La_launch_3 rfl (q_at hl 0 rfl) ?_
  refine lv_iload_n hx hb d_La_launch_4 rfl (q_at hl 1 rfl) ?_
  refine lv_iload_n hx hb d_La_launch_5 rfl (q_at hl 2 rfl) ?_
  refine lv_iload_n hx hb d_La_launch_6 rfl (q_at hl 3 rfl) ?_
  refine q_kiF hA I (q_runVF (C := "JobTerminal") (As := [.int p1, .int p2, .int p3]) (rest := [.int 0, .ref oa]) ⟨hx, hb, hml, hown, hts⟩ (c_JT_launch (sz := s.heap.size) hf) (cwV 3 hts (q_goodV mw569 mw570 mw571 mw572 mw184) rfl rfl rfl (by decide +kernel) ⟨(Nat.le_of_ble_eq_true rfl), (Nat.le_of_ble_eq_true rfl)⟩) NW_ok hK hN I rfl (q_wsE (by decide) a_C_JT) rfl (q_sz hl) rfl (Nat.le_of_ble_eq_true rfl) d_La_launch_7 ⟨Nat.zero_le _, Nat.zero_le _⟩) (fun H locs I => ?_)
  refine lv_i2l (v := res.1.toInt64) hx hb d_La_launch_10 rfl ?_
  refine q_last1 hx hb hK I d_La_launch_11 (fun H locs I => ?_)
  refine lv_goto (tgt := 23) hx hb d_La_launch_12 (by decide) ?_
  refine lv_iconst (v := 0) hx hb d_La_launch_23 (by decide) ?_
  exact q_iret hx hb hr hlocks I d_La_launch_24
set_option maxHeartbeats 4000000 in
set_option maxRecDepth 100000 in
theorem e_launch {l : Launch} (hls : l.stackTraces = false) {D : va_G} {ad : Nat → Nat} {cs : Nat → ClassId} {sz oa : Nat} {g : Nat → Int64} {σ : q_St} {p1 : Int32} {p2 : Int32} {p3 : Int32} {res : (Bool × q_St)} (hf : f_JT_launchX σ p1 p2 p3 = some res) : Met l y_La_launch w_La_launch ({ frames := 7, cells := 1, slots := 6, locals := 109 } : Room) (q_PreY D vwCl (tyL cs) NW [.ref (ad 0), .int p1, .int p2, .int p3, .ref oa] (q_ws 33 ad (cC ad cs σ) ++ [(oa, .inl (cs 4, 1, .inr (.inl g)))]) sz) (q_Qi D vwCl (if res.1 then 1 else 2) (q_ws 33 ad (cC ad cs res.2) ++ [(oa, .inl (cs 4, 1, .inr (.inl g)))]) (va_A (q_ws 33 ad (cC ad cs σ) ++ [(oa, .inl (cs 4, 1, .inr (.inl g)))]) sz)) 1 6 (va_A (q_ws 33 ad (cC ad cs σ) ++ [(oa, .inl (cs 4, 1, .inr (.inl g)))]) sz) := by
  refine va_MetW (cc := b_La_launch) (maxL := 6) (ret := some .int) (hh := [(0, 12, 15, 13), (0, 12, 19, 15)]) (by decide) rfl ?_
  intro p e s m args below meth c s₁ B hml hv
  obtain ⟨⟨⟨hargs, hsz, hP, hK, hD0, hN⟩, hX1, hX2, hX3, hX4⟩, hnc⟩ := hv
  have hx := B.exec
  have hb := B.bytes
  have hr := B.returns
  have hts := atoms_spec (ws := w_La_launch) B.pre
  have hown : s.vm.findClass "JobTerminalLaw" = some m.cls := findClass_of_methodNamed B.named
  have hlocks := B.notSynchronized
  have htg : ∀ w ∈ GW, w.before args s = true := fun w h => hts w (List.mem_cons_of_mem _ h)
  subst hsz
  have hD := hD0.self (sz := s.heap.size)
  have htab := q_table B (hts _ List.mem_cons_self)
  generalize hAe : va_A (q_ws 33 ad (cC ad cs σ) ++ [(oa, .inl (cs 4, 1, .inr (.inl g)))]) s.heap.size = A at hD hX3 hX4 ⊢
  have hA : ∀ q : Nat, s.heap.size ≤ q → A q := fun q h => by rw [← hAe]; exact Or.inr h
  have I : q_I D vwCl A s.heap (q_ws 33 ad (cC ad cs σ) ++ [(oa, .inl (cs 4, 1, .inr (.inl g)))]) s.heap [] := ⟨hP, hD, va_S.rf⟩
  obtain ⟨ls, hen, hl⟩ := q_entry (vs := [.ref (ad 0), .int p1, .int p2, .int p3, .ref oa]) (n := 6) (lv := [(0, .ref (ad 0)), (1, .int p1), (2, .int p2), (3, .int p3), (4, .ref oa)]) (by intro v hv; simp only [List.mem_cons, List.not_mem_nil, or_false] at hv; rcases hv with rfl | rfl | rfl | rfl | rfl <;> first | rfl | exact q_cat) (Nat.le_of_ble_eq_true rfl) rfl
  rw [show entryFrame m args 6 = F0 m 0 ls [] from by rw [hargs]; exact hen m]
  refine lv_aload hx hb d_La_launch_0 (q_at hl 4 rfl) ?_
  refine lv_iconst (v := 0) hx hb d_La_launch_2 (by decide) ?_
  refine lv_aload_n hx hb d_La_launch_3 rfl (q_at hl 0 rfl) ?_
  refine lv_iload_n hx hb d_La_launch_4 rfl (q_at hl 1 rfl) ?_
  refine lv_iload_n hx hb d_La_launch_5 rfl (q_at hl 2 rfl) ?_
  refine lv_iload_n hx hb d_La_launch_6 rfl (q_at hl 3 rfl) ?_
  refine q_callX (C := "JobTerminal") (As := [.int p1, .int p2, .int p3]) (rest := [.int 0, .ref oa]) ⟨hx, hb, hml, hown, hts⟩ (x_JT_launch hls (sz := s.heap.size) hf) (cwV 3 hts (q_goodV mw569 mw570 mw571 mw572 mw184) rfl rfl rfl (by decide +kernel) ⟨(Nat.le_of_ble_eq_true rfl), (Nat.le_of_ble_eq_true rfl)⟩) NW_ok hK hN ⟨hX1, hX2⟩ ⟨hX3, hX4⟩ hA I rfl (q_wsE (by decide) a_C_JT) rfl (q_sz hl) rfl (Nat.le_of_ble_eq_true rfl) d_La_launch_7 ⟨(Nat.le_of_ble_eq_true rfl), (Nat.le_of_ble_eq_true rfl)⟩ (fun q ce H locs I hce hcv hcl => ?_)
  obtain ⟨bb, σ2⟩ := res
  cases bb with
  | true =>
    refine q_catch1 (own := "JobTerminalLaw") (E := xIA) (name := xIA) (x := (⟨0, 12, 15, 13⟩ : ExceptionTableEntry)) hown htab (by decide) (by decide) (htg _ mw573) (va_Nw.use rfl (hX1 (.castable xIA xIA) (by decide +kernel))) hce hcv hcl ?_
    refine q_astoreR (lv' := [(5, .ref q), (0, .ref (ad 0)), (1, .int p1), (2, .int p2), (3, .int p3), (4, .ref oa)]) hx hb d_La_launch_15 hl (by decide) rfl (fun ls hl => ?_)
    refine lv_iconst (v := 1) hx hb d_La_launch_17 (by decide) ?_
    exact q_iret hx hb hr hlocks I d_La_launch_18
  | false =>
    refine q_catch2 (own := "JobTerminalLaw") (E := xIS) (ny := xIA) (name := xIS) (y := (⟨0, 12, 15, 13⟩ : ExceptionTableEntry)) (x := (⟨0, 12, 19, 15⟩ : ExceptionTableEntry)) hown htab (by decide) (by decide) (by decide) (by decide) (htg _ mw573) hnc (htg _ mw574) (va_Nw.use rfl (hX1 (.castable xIS xIS) (by decide +kernel))) hce hcv hcl ?_
    refine q_astoreR (lv' := [(5, .ref q), (0, .ref (ad 0)), (1, .int p1), (2, .int p2), (3, .int p3), (4, .ref oa)]) hx hb d_La_launch_19 hl (by decide) rfl (fun ls hl => ?_)
    refine lv_iconst (v := 2) hx hb d_La_launch_21 (by decide) ?_
    exact q_iret hx hb hr hlocks I d_La_launch_22
abbrev b_La_front : ByteArray := method_4_code
def y_La_front : MethodName := ({ cls := "JobTerminalLaw", name := "front", desc := "(LJobTerminal;I[J)I" } : Jvm.MethodName)
abbrev w_La_front : List Cond := .codeWith y_La_front b_La_front 4 (some .int) [(0, 9, 12, 13), (0, 9, 15, 15)] :: GW
theorem d_La_front_0 : decode b_La_front 0 = .ok (.aload_n 2, 1) := by decide +kernel
theorem d_La_front_1 : decode b_La_front 1 = .ok (.iconst 0, 1) := by decide +kernel
theorem d_La_front_2 : decode b_La_front 2 = .ok (.aload_n 0, 1) := by decide +kernel
theorem d_La_front_3 : decode b_La_front 3 = .ok (.iload_n 1, 1) := by decide +kernel
theorem d_La_front_4 : decode b_La_front 4 = .ok (.invokevirtual 17, 3) := by decide +kernel
theorem d_La_front_7 : decode b_La_front 7 = .ok (.i2l, 1) := by decide +kernel
theorem d_La_front_8 : decode b_La_front 8 = .ok (.lastore, 1) := by decide +kernel
theorem d_La_front_9 : decode b_La_front 9 = .ok (.goto 9, 3) := by decide +kernel
theorem d_La_front_12 : decode b_La_front 12 = .ok (.astore_n 3, 1) := by decide +kernel
theorem d_La_front_13 : decode b_La_front 13 = .ok (.iconst 1, 1) := by decide +kernel
theorem d_La_front_14 : decode b_La_front 14 = .ok (.ireturn, 1) := by decide +kernel
theorem d_La_front_15 : decode b_La_front 15 = .ok (.astore_n 3, 1) := by decide +kernel
theorem d_La_front_16 : decode b_La_front 16 = .ok (.iconst 2, 1) := by decide +kernel
theorem d_La_front_17 : decode b_La_front 17 = .ok (.ireturn, 1) := by decide +kernel
theorem d_La_front_18 : decode b_La_front 18 = .ok (.iconst 0, 1) := by decide +kernel
theorem d_La_front_19 : decode b_La_front 19 = .ok (.ireturn, 1) := by decide +kernel
set_option maxHeartbeats 4000000 in
set_option maxRecDepth 100000 in
theorem h_front {l : Launch} {D : va_G} {ad : Nat → Nat} {cs : Nat → ClassId} {sz oa : Nat} {g : Nat → Int64} {σ : q_St} {p1 : Int32} {res : (Int32 × q_St)} (hf : f_JT_front σ p1 = some res) : Met l y_La_front w_La_front ({ frames := 6, cells := 0, slots := 0, locals := 129 } : Room) (q_Pre D vwCl (tyL cs) NW [.ref (ad 0), .int p1, .ref oa] (q_ws 33 ad (cC ad cs σ) ++ [(oa, .inl (cs 4, 1, .inr (.inl g)))]) sz) (q_Qi D vwCl 0 (q_ws 33 ad (cC ad cs res.2) ++ [(oa, .inl (cs 4, 1, .inr (.inl (vp_updL g 0 res.1.toInt64))))]) (va_A (q_ws 33 ad (cC ad cs σ) ++ [(oa, .inl (cs 4, 1, .inr (.inl g)))]) sz)) 0 0 (va_A (q_ws 33 ad (cC ad cs σ) ++ [(oa, .inl (cs 4, 1, .inr (.inl g)))]) sz) := by
  refine va_MetW (cc := b_La_front) (maxL := 4) (ret := some .int) (hh := [(0, 9, 12, 13), (0, 9, 15, 15)]) (by decide) rfl ?_
  intro p e s m args below meth c s₁ B hml hv
  obtain ⟨hargs, hsz, hP, hK, hD0, hN⟩ := hv
  have hx := B.exec
  have hb := B.bytes
  have hr := B.returns
  have hts := atoms_spec (ws := w_La_front) B.pre
  have hown : s.vm.findClass "JobTerminalLaw" = some m.cls := findClass_of_methodNamed B.named
  have hlocks := B.notSynchronized
  have htg : ∀ w ∈ GW, w.before args s = true := fun w h => hts w (List.mem_cons_of_mem _ h)
  subst hsz
  have hD := hD0.self (sz := s.heap.size)
  generalize hAe : va_A (q_ws 33 ad (cC ad cs σ) ++ [(oa, .inl (cs 4, 1, .inr (.inl g)))]) s.heap.size = A at hD ⊢
  have hA : ∀ q : Nat, s.heap.size ≤ q → A q := fun q h => by rw [← hAe]; exact Or.inr h
  have I : q_I D vwCl A s.heap (q_ws 33 ad (cC ad cs σ) ++ [(oa, .inl (cs 4, 1, .inr (.inl g)))]) s.heap [] := ⟨hP, hD, va_S.rf⟩
  obtain ⟨ls, hen, hl⟩ := q_entry (vs := [.ref (ad 0), .int p1, .ref oa]) (n := 4) (lv := [(0, .ref (ad 0)), (1, .int p1), (2, .ref oa)]) (by intro v hv; simp only [List.mem_cons, List.not_mem_nil, or_false] at hv; rcases hv with rfl | rfl | rfl <;> first | rfl | exact q_cat) (Nat.le_of_ble_eq_true rfl) rfl
  rw [show entryFrame m args 4 = F0 m 0 ls [] from by rw [hargs]; exact hen m]
  refine lv_aload_n hx hb d_La_front_0 rfl (q_at hl 2 rfl) ?_
  refine lv_iconst (v := 0) hx hb d_La_front_1 (by decide) ?_
  refine lv_aload_n hx hb d_La_front_2 rfl (q_at hl 0 rfl) ?_
  refine lv_iload_n hx hb d_La_front_3 rfl (q_at hl 1 rfl) ?_
  refine q_kiF hA I (q_runVF (C := "JobTerminal") (As := [.int p1]) (rest := [.int 0, .ref oa]) ⟨hx, hb, hml, hown, hts⟩ (c_JT_front (sz := s.heap.size) hf) (cwV 1 hts (q_goodV mw576 mw577 mw578 mw579 mw184) rfl rfl rfl (by decide +kernel) ⟨(Nat.le_of_ble_eq_true rfl), (Nat.le_of_ble_eq_true rfl)⟩) NW_ok hK hN I rfl (q_wsE (by decide) a_C_JT) rfl (q_sz hl) rfl (Nat.le_of_ble_eq_true rfl) d_La_front_4 ⟨Nat.zero_le _, Nat.zero_le _⟩) (fun H locs I => ?_)
  refine lv_i2l (v := res.1.toInt64) hx hb d_La_front_7 rfl ?_
  refine q_last1 hx hb hK I d_La_front_8 (fun H locs I => ?_)
  refine lv_goto (tgt := 18) hx hb d_La_front_9 (by decide) ?_
  refine lv_iconst (v := 0) hx hb d_La_front_18 (by decide) ?_
  exact q_iret hx hb hr hlocks I d_La_front_19
set_option maxHeartbeats 4000000 in
set_option maxRecDepth 100000 in
theorem e_front {l : Launch} (hls : l.stackTraces = false) {D : va_G} {ad : Nat → Nat} {cs : Nat → ClassId} {sz oa : Nat} {g : Nat → Int64} {σ : q_St} {p1 : Int32} {res : (Bool × q_St)} (hf : f_JT_frontX σ p1 = some res) : Met l y_La_front w_La_front ({ frames := 7, cells := 1, slots := 6, locals := 129 } : Room) (q_PreY D vwCl (tyL cs) NW [.ref (ad 0), .int p1, .ref oa] (q_ws 33 ad (cC ad cs σ) ++ [(oa, .inl (cs 4, 1, .inr (.inl g)))]) sz) (q_Qi D vwCl (if res.1 then 1 else 2) (q_ws 33 ad (cC ad cs res.2) ++ [(oa, .inl (cs 4, 1, .inr (.inl g)))]) (va_A (q_ws 33 ad (cC ad cs σ) ++ [(oa, .inl (cs 4, 1, .inr (.inl g)))]) sz)) 1 6 (va_A (q_ws 33 ad (cC ad cs σ) ++ [(oa, .inl (cs 4, 1, .inr (.inl g)))]) sz) := by
  refine va_MetW (cc := b_La_front) (maxL := 4) (ret := some .int) (hh := [(0, 9, 12, 13), (0, 9, 15, 15)]) (by decide) rfl ?_
  intro p e s m args below meth c s₁ B hml hv
  obtain ⟨⟨⟨hargs, hsz, hP, hK, hD0, hN⟩, hX1, hX2, hX3, hX4⟩, hnc⟩ := hv
  have hx := B.exec
  have hb := B.bytes
  have hr := B.returns
  have hts := atoms_spec (ws := w_La_front) B.pre
  have hown : s.vm.findClass "JobTerminalLaw" = some m.cls := findClass_of_methodNamed B.named
  have hlocks := B.notSynchronized
  have htg : ∀ w ∈ GW, w.before args s = true := fun w h => hts w (List.mem_cons_of_mem _ h)
  subst hsz
  have hD := hD0.self (sz := s.heap.size)
  have htab := q_table B (hts _ List.mem_cons_self)
  generalize hAe : va_A (q_ws 33 ad (cC ad cs σ) ++ [(oa, .inl (cs 4, 1, .inr (.inl g)))]) s.heap.size = A at hD hX3 hX4 ⊢
  have hA : ∀ q : Nat, s.heap.size ≤ q → A q := fun q h => by rw [← hAe]; exact Or.inr h
  have I : q_I D vwCl A s.heap (q_ws 33 ad (cC ad cs σ) ++ [(oa, .inl (cs 4, 1, .inr (.inl g)))]) s.heap [] := ⟨hP, hD, va_S.rf⟩
  obtain ⟨ls, hen, hl⟩ := q_entry (vs := [.ref (ad 0), .int p1, .ref oa]) (n := 4) (lv := [(0, .ref (ad 0)), (1, .int p1), (2, .ref oa)]) (by intro v hv; simp only [List.mem_cons, List.not_mem_nil, or_false] at hv; rcases hv with rfl | rfl | rfl <;> first | rfl | exact q_cat) (Nat.le_of_ble_eq_true rfl) rfl
  rw [show entryFrame m args 4 = F0 m 0 ls [] from by rw [hargs]; exact hen m]
  refine lv_aload_n hx hb d_La_front_0 rfl (q_at hl 2 rfl) ?_
  refine lv_iconst (v := 0) hx hb d_La_front_1 (by decide) ?_
  refine lv_aload_n hx hb d_La_front_2 rfl (q_at hl 0 rfl) ?_
  refine lv_iload_n hx hb d_La_front_3 rfl (q_at hl 1 rfl) ?_
  refine q_callX (C := "JobTerminal") (As := [.int p1]) (rest := [.int 0, .ref oa]) ⟨hx, hb, hml, hown, hts⟩ (x_JT_front hls (sz := s.heap.size) hf) (cwV 1 hts (q_goodV mw576 mw577 mw578 mw579 mw184) rfl rfl rfl (by decide +kernel) ⟨(Nat.le_of_ble_eq_true rfl), (Nat.le_of_ble_eq_true rfl)⟩) NW_ok hK hN ⟨hX1, hX2⟩ ⟨hX3, hX4⟩ hA I rfl (q_wsE (by decide) a_C_JT) rfl (q_sz hl) rfl (Nat.le_of_ble_eq_true rfl) d_La_front_4 ⟨(Nat.le_of_ble_eq_true rfl), (Nat.le_of_ble_eq_true rfl)⟩ (fun q ce H locs I hce hcv hcl => ?_)
  obtain ⟨bb, σ2⟩ := res
  cases bb with
  | true =>
    refine q_catch1 (own := "JobTerminalLaw") (E := xIA) (name := xIA) (x := (⟨0, 9, 12, 13⟩ : ExceptionTableEntry)) hown htab (by decide) (by decide) (htg _ mw573) (va_Nw.use rfl (hX1 (.castable xIA xIA) (by decide +kernel))) hce hcv hcl ?_
    refine q_astoreR_n (lv' := [(3, .ref q), (0, .ref (ad 0)), (1, .int p1), (2, .ref oa)]) hx hb d_La_front_12 rfl hl (by decide) rfl (fun ls hl => ?_)
    refine lv_iconst (v := 1) hx hb d_La_front_13 (by decide) ?_
    exact q_iret hx hb hr hlocks I d_La_front_14
  | false =>
    refine q_catch2 (own := "JobTerminalLaw") (E := xIS) (ny := xIA) (name := xIS) (y := (⟨0, 9, 12, 13⟩ : ExceptionTableEntry)) (x := (⟨0, 9, 15, 15⟩ : ExceptionTableEntry)) hown htab (by decide) (by decide) (by decide) (by decide) (htg _ mw573) hnc (htg _ mw574) (va_Nw.use rfl (hX1 (.castable xIS xIS) (by decide +kernel))) hce hcv hcl ?_
    refine q_astoreR_n (lv' := [(3, .ref q), (0, .ref (ad 0)), (1, .int p1), (2, .ref oa)]) hx hb d_La_front_15 rfl hl (by decide) rfl (fun ls hl => ?_)
    refine lv_iconst (v := 2) hx hb d_La_front_16 (by decide) ?_
    exact q_iret hx hb hr hlocks I d_La_front_17
abbrev b_La_back : ByteArray := method_5_code
def y_La_back : MethodName := ({ cls := "JobTerminalLaw", name := "back", desc := "(LJobTerminal;I[J)I" } : Jvm.MethodName)
abbrev w_La_back : List Cond := .codeWith y_La_back b_La_back 4 (some .int) [(0, 9, 12, 13), (0, 9, 15, 15)] :: GW
theorem d_La_back_0 : decode b_La_back 0 = .ok (.aload_n 2, 1) := by decide +kernel
theorem d_La_back_1 : decode b_La_back 1 = .ok (.iconst 0, 1) := by decide +kernel
theorem d_La_back_2 : decode b_La_back 2 = .ok (.aload_n 0, 1) := by decide +kernel
theorem d_La_back_3 : decode b_La_back 3 = .ok (.iload_n 1, 1) := by decide +kernel
theorem d_La_back_4 : decode b_La_back 4 = .ok (.invokevirtual 21, 3) := by decide +kernel
theorem d_La_back_7 : decode b_La_back 7 = .ok (.i2l, 1) := by decide +kernel
theorem d_La_back_8 : decode b_La_back 8 = .ok (.lastore, 1) := by decide +kernel
theorem d_La_back_9 : decode b_La_back 9 = .ok (.goto 9, 3) := by decide +kernel
theorem d_La_back_12 : decode b_La_back 12 = .ok (.astore_n 3, 1) := by decide +kernel
theorem d_La_back_13 : decode b_La_back 13 = .ok (.iconst 1, 1) := by decide +kernel
theorem d_La_back_14 : decode b_La_back 14 = .ok (.ireturn, 1) := by decide +kernel
theorem d_La_back_15 : decode b_La_back 15 = .ok (.astore_n 3, 1) := by decide +kernel
theorem d_La_back_16 : decode b_La_back 16 = .ok (.iconst 2, 1) := by decide +kernel
theorem d_La_back_17 : decode b_La_back 17 = .ok (.ireturn, 1) := by decide +kernel
theorem d_La_back_18 : decode b_La_back 18 = .ok (.iconst 0, 1) := by decide +kernel
theorem d_La_back_19 : decode b_La_back 19 = .ok (.ireturn, 1) := by decide +kernel
set_option maxHeartbeats 4000000 in
set_option maxRecDepth 100000 in
theorem h_back {l : Launch} {D : va_G} {ad : Nat → Nat} {cs : Nat → ClassId} {sz oa : Nat} {g : Nat → Int64} {σ : q_St} {p1 : Int32} {res : (Int32 × q_St)} (hf : f_JT_back σ p1 = some res) : Met l y_La_back w_La_back ({ frames := 6, cells := 0, slots := 0, locals := 129 } : Room) (q_Pre D vwCl (tyL cs) NW [.ref (ad 0), .int p1, .ref oa] (q_ws 33 ad (cC ad cs σ) ++ [(oa, .inl (cs 4, 1, .inr (.inl g)))]) sz) (q_Qi D vwCl 0 (q_ws 33 ad (cC ad cs res.2) ++ [(oa, .inl (cs 4, 1, .inr (.inl (vp_updL g 0 res.1.toInt64))))]) (va_A (q_ws 33 ad (cC ad cs σ) ++ [(oa, .inl (cs 4, 1, .inr (.inl g)))]) sz)) 0 0 (va_A (q_ws 33 ad (cC ad cs σ) ++ [(oa, .inl (cs 4, 1, .inr (.inl g)))]) sz) := by
  refine va_MetW (cc := b_La_back) (maxL := 4) (ret := some .int) (hh := [(0, 9, 12, 13), (0, 9, 15, 15)]) (by decide) rfl ?_
  intro p e s m args below meth c s₁ B hml hv
  obtain ⟨hargs, hsz, hP, hK, hD0, hN⟩ := hv
  have hx := B.exec
  have hb := B.bytes
  have hr := B.returns
  have hts := atoms_spec (ws := w_La_back) B.pre
  have hown : s.vm.findClass "JobTerminalLaw" = some m.cls := findClass_of_methodNamed B.named
  have hlocks := B.notSynchronized
  have htg : ∀ w ∈ GW, w.before args s = true := fun w h => hts w (List.mem_cons_of_mem _ h)
  subst hsz
  have hD := hD0.self (sz := s.heap.size)
  generalize hAe : va_A (q_ws 33 ad (cC ad cs σ) ++ [(oa, .inl (cs 4, 1, .inr (.inl g)))]) s.heap.size = A at hD ⊢
  have hA : ∀ q : Nat, s.heap.size ≤ q → A q := fun q h => by rw [← hAe]; exact Or.inr h
  have I : q_I D vwCl A s.heap (q_ws 33 ad (cC ad cs σ) ++ [(oa, .inl (cs 4, 1, .inr (.inl g)))]) s.heap [] := ⟨hP, hD, va_S.rf⟩
  obtain ⟨ls, hen, hl⟩ := q_entry (vs := [.ref (ad 0), .int p1, .ref oa]) (n := 4) (lv := [(0, .ref (ad 0)), (1, .int p1), (2, .ref oa)]) (by intro v hv; simp only [List.mem_cons, List.not_mem_nil, or_false] at hv; rcases hv with rfl | rfl | rfl <;> first | rfl | exact q_cat) (Nat.le_of_ble_eq_true rfl) rfl
  rw [show entryFrame m args 4 = F0 m 0 ls [] from by rw [hargs]; exact hen m]
  refine lv_aload_n hx hb d_La_back_0 rfl (q_at hl 2 rfl) ?_
  refine lv_iconst (v := 0) hx hb d_La_back_1 (by decide) ?_
  refine lv_aload_n hx hb d_La_back_2 rfl (q_at hl 0 rfl) ?_
  refine lv_iload_n hx hb d_La_back_3 rfl (q_at hl 1 rfl) ?_
  refine q_kiF hA I (q_runVF (C := "JobTerminal") (As := [.int p1]) (rest := [.int 0, .ref oa]) ⟨hx, hb, hml, hown, hts⟩ (c_JT_back (sz := s.heap.size) hf) (cwV 1 hts (q_goodV mw581 mw582 mw583 mw584 mw184) rfl rfl rfl (by decide +kernel) ⟨(Nat.le_of_ble_eq_true rfl), (Nat.le_of_ble_eq_true rfl)⟩) NW_ok hK hN I rfl (q_wsE (by decide) a_C_JT) rfl (q_sz hl) rfl (Nat.le_of_ble_eq_true rfl) d_La_back_4 ⟨Nat.zero_le _, Nat.zero_le _⟩) (fun H locs I => ?_)
  refine lv_i2l (v := res.1.toInt64) hx hb d_La_back_7 rfl ?_
  refine q_last1 hx hb hK I d_La_back_8 (fun H locs I => ?_)
  refine lv_goto (tgt := 18) hx hb d_La_back_9 (by decide) ?_
  refine lv_iconst (v := 0) hx hb d_La_back_18 (by decide) ?_
  exact q_iret hx hb hr hlocks I d_La_back_19
set_option maxHeartbeats 4000000 in
set_option maxRecDepth 100000 in
theorem e_back {l : Launch} (hls : l.stackTraces = false) {D : va_G} {ad : Nat → Nat} {cs : Nat → ClassId} {sz oa : Nat} {g : Nat → Int64} {σ : q_St} {p1 : Int32} {res : (Bool × q_St)} (hf : f_JT_backX σ p1 = some res) : Met l y_La_back w_La_back ({ frames := 7, cells := 1, slots := 6, locals := 129 } : Room) (q_PreY D vwCl (tyL cs) NW [.ref (ad 0), .int p1, .ref oa] (q_ws 33 ad (cC ad cs σ) ++ [(oa, .inl (cs 4, 1, .inr (.inl g)))]) sz) (q_Qi D vwCl (if res.1 then 1 else 2) (q_ws 33 ad (cC ad cs res.2) ++ [(oa, .inl (cs 4, 1, .inr (.inl g)))]) (va_A (q_ws 33 ad (cC ad cs σ) ++ [(oa, .inl (cs 4, 1, .inr (.inl g)))]) sz)) 1 6 (va_A (q_ws 33 ad (cC ad cs σ) ++ [(oa, .inl (cs 4, 1, .inr (.inl g)))]) sz) := by
  refine va_MetW (cc := b_La_back) (maxL := 4) (ret := some .int) (hh := [(0, 9, 12, 13), (0, 9, 15, 15)]) (by decide) rfl ?_
  intro p e s m args below meth c s₁ B hml hv
  obtain ⟨⟨⟨hargs, hsz, hP, hK, hD0, hN⟩, hX1, hX2, hX3, hX4⟩, hnc⟩ := hv
  have hx := B.exec
  have hb := B.bytes
  have hr := B.returns
  have hts := atoms_spec (ws := w_La_back) B.pre
  have hown : s.vm.findClass "JobTerminalLaw" = some m.cls := findClass_of_methodNamed B.named
  have hlocks := B.notSynchronized
  have htg : ∀ w ∈ GW, w.before args s = true := fun w h => hts w (List.mem_cons_of_mem _ h)
  subst hsz
  have hD := hD0.self (sz := s.heap.size)
  have htab := q_table B (hts _ List.mem_cons_self)
  generalize hAe : va_A (q_ws 33 ad (cC ad cs σ) ++ [(oa, .inl (cs 4, 1, .inr (.inl g)))]) s.heap.size = A at hD hX3 hX4 ⊢
  have hA : ∀ q : Nat, s.heap.size ≤ q → A q := fun q h => by rw [← hAe]; exact Or.inr h
  have I : q_I D vwCl A s.heap (q_ws 33 ad (cC ad cs σ) ++ [(oa, .inl (cs 4, 1, .inr (.inl g)))]) s.heap [] := ⟨hP, hD, va_S.rf⟩
  obtain ⟨ls, hen, hl⟩ := q_entry (vs := [.ref (ad 0), .int p1, .ref oa]) (n := 4) (lv := [(0, .ref (ad 0)), (1, .int p1), (2, .ref oa)]) (by intro v hv; simp only [List.mem_cons, List.not_mem_nil, or_false] at hv; rcases hv with rfl | rfl | rfl <;> first | rfl | exact q_cat) (Nat.le_of_ble_eq_true rfl) rfl
  rw [show entryFrame m args 4 = F0 m 0 ls [] from by rw [hargs]; exact hen m]
  refine lv_aload_n hx hb d_La_back_0 rfl (q_at hl 2 rfl) ?_
  refine lv_iconst (v := 0) hx hb d_La_back_1 (by decide) ?_
  refine lv_aload_n hx hb d_La_back_2 rfl (q_at hl 0 rfl) ?_
  refine lv_iload_n hx hb d_La_back_3 rfl (q_at hl 1 rfl) ?_
  refine q_callX (C := "JobTerminal") (As := [.int p1]) (rest := [.int 0, .ref oa]) ⟨hx, hb, hml, hown, hts⟩ (x_JT_back hls (sz := s.heap.size) hf) (cwV 1 hts (q_goodV mw581 mw582 mw583 mw584 mw184) rfl rfl rfl (by decide +kernel) ⟨(Nat.le_of_ble_eq_true rfl), (Nat.le_of_ble_eq_true rfl)⟩) NW_ok hK hN ⟨hX1, hX2⟩ ⟨hX3, hX4⟩ hA I rfl (q_wsE (by decide) a_C_JT) rfl (q_sz hl) rfl (Nat.le_of_ble_eq_true rfl) d_La_back_4 ⟨(Nat.le_of_ble_eq_true rfl), (Nat.le_of_ble_eq_true rfl)⟩ (fun q ce H locs I hce hcv hcl => ?_)
  obtain ⟨bb, σ2⟩ := res
  cases bb with
  | true =>
    refine q_catch1 (own := "JobTerminalLaw") (E := xIA) (name := xIA) (x := (⟨0, 9, 12, 13⟩ : ExceptionTableEntry)) hown htab (by decide) (by decide) (htg _ mw573) (va_Nw.use rfl (hX1 (.castable xIA xIA) (by decide +kernel))) hce hcv hcl ?_
    refine q_astoreR_n (lv' := [(3, .ref q), (0, .ref (ad 0)), (1, .int p1), (2, .ref oa)]) hx hb d_La_back_12 rfl hl (by decide) rfl (fun ls hl => ?_)
    refine lv_iconst (v := 1) hx hb d_La_back_13 (by decide) ?_
    exact q_iret hx hb hr hlocks I d_La_back_14
  | false =>
    refine q_catch2 (own := "JobTerminalLaw") (E := xIS) (ny := xIA) (name := xIS) (y := (⟨0, 9, 12, 13⟩ : ExceptionTableEntry)) (x := (⟨0, 9, 15, 15⟩ : ExceptionTableEntry)) hown htab (by decide) (by decide) (by decide) (by decide) (htg _ mw573) hnc (htg _ mw574) (va_Nw.use rfl (hX1 (.castable xIS xIS) (by decide +kernel))) hce hcv hcl ?_
    refine q_astoreR_n (lv' := [(3, .ref q), (0, .ref (ad 0)), (1, .int p1), (2, .ref oa)]) hx hb d_La_back_15 rfl hl (by decide) rfl (fun ls hl => ?_)
    refine lv_iconst (v := 2) hx hb d_La_back_16 (by decide) ?_
    exact q_iret hx hb hr hlocks I d_La_back_17
abbrev b_La_send : ByteArray := method_6_code
def y_La_send : MethodName := ({ cls := "JobTerminalLaw", name := "send", desc := "(LJobTerminal;II[J)I" } : Jvm.MethodName)
abbrev w_La_send : List Cond := .codeWith y_La_send b_La_send 5 (some .int) [(0, 10, 13, 13)] :: GW
theorem d_La_send_0 : decode b_La_send 0 = .ok (.aload_n 3, 1) := by decide +kernel
theorem d_La_send_1 : decode b_La_send 1 = .ok (.iconst 0, 1) := by decide +kernel
theorem d_La_send_2 : decode b_La_send 2 = .ok (.aload_n 0, 1) := by decide +kernel
theorem d_La_send_3 : decode b_La_send 3 = .ok (.iload_n 1, 1) := by decide +kernel
theorem d_La_send_4 : decode b_La_send 4 = .ok (.iload_n 2, 1) := by decide +kernel
theorem d_La_send_5 : decode b_La_send 5 = .ok (.invokevirtual 24, 3) := by decide +kernel
theorem d_La_send_8 : decode b_La_send 8 = .ok (.i2l, 1) := by decide +kernel
theorem d_La_send_9 : decode b_La_send 9 = .ok (.lastore, 1) := by decide +kernel
theorem d_La_send_10 : decode b_La_send 10 = .ok (.goto 7, 3) := by decide +kernel
theorem d_La_send_13 : decode b_La_send 13 = .ok (.astore 4, 2) := by decide +kernel
theorem d_La_send_15 : decode b_La_send 15 = .ok (.iconst 1, 1) := by decide +kernel
theorem d_La_send_16 : decode b_La_send 16 = .ok (.ireturn, 1) := by decide +kernel
theorem d_La_send_17 : decode b_La_send 17 = .ok (.iconst 0, 1) := by decide +kernel
theorem d_La_send_18 : decode b_La_send 18 = .ok (.ireturn, 1) := by decide +kernel
set_option maxHeartbeats 4000000 in
set_option maxRecDepth 100000 in
theorem h_send {l : Launch} {D : va_G} {ad : Nat → Nat} {cs : Nat → ClassId} {sz oa : Nat} {g : Nat → Int64} {σ : q_St} {p1 : Int32} {p2 : Int32} {res : (Int32 × q_St)} (hf : f_JT_send σ p1 p2 = some res) : Met l y_La_send w_La_send ({ frames := 6, cells := 0, slots := 0, locals := 130 } : Room) (q_Pre D vwCl (tyL cs) NW [.ref (ad 0), .int p1, .int p2, .ref oa] (q_ws 33 ad (cC ad cs σ) ++ [(oa, .inl (cs 4, 1, .inr (.inl g)))]) sz) (q_Qi D vwCl 0 (q_ws 33 ad (cC ad cs res.2) ++ [(oa, .inl (cs 4, 1, .inr (.inl (vp_updL g 0 res.1.toInt64))))]) (va_A (q_ws 33 ad (cC ad cs σ) ++ [(oa, .inl (cs 4, 1, .inr (.inl g)))]) sz)) 0 0 (va_A (q_ws 33 ad (cC ad cs σ) ++ [(oa, .inl (cs 4, 1, .inr (.inl g)))]) sz) := by
  refine va_MetW (cc := b_La_send) (maxL := 5) (ret := some .int) (hh := [(0, 10, 13, 13)]) (by decide) rfl ?_
  intro p e s m args below meth c s₁ B hml hv
  obtain ⟨hargs, hsz, hP, hK, hD0, hN⟩ := hv
  have hx := B.exec
  have hb := B.bytes
  have hr := B.returns
  have hts := atoms_spec (ws := w_La_send) B.pre
  have hown : s.vm.findClass "JobTerminalLaw" = some m.cls := findClass_of_methodNamed B.named
  have hlocks := B.notSynchronized
  have htg : ∀ w ∈ GW, w.before args s = true := fun w h => hts w (List.mem_cons_of_mem _ h)
  subst hsz
  have hD := hD0.self (sz := s.heap.size)
  generalize hAe : va_A (q_ws 33 ad (cC ad cs σ) ++ [(oa, .inl (cs 4, 1, .inr (.inl g)))]) s.heap.size = A at hD ⊢
  have hA : ∀ q : Nat, s.heap.size ≤ q → A q := fun q h => by rw [← hAe]; exact Or.inr h
  have I : q_I D vwCl A s.heap (q_ws 33 ad (cC ad cs σ) ++ [(oa, .inl (cs 4, 1, .inr (.inl g)))]) s.heap [] := ⟨hP, hD, va_S.rf⟩
  obtain ⟨ls, hen, hl⟩ := q_entry (vs := [.ref (ad 0), .int p1, .int p2, .ref oa]) (n := 5) (lv := [(0, .ref (ad 0)), (1, .int p1), (2, .int p2), (3, .ref oa)]) (by intro v hv; simp only [List.mem_cons, List.not_mem_nil, or_false] at hv; rcases hv with rfl | rfl | rfl | rfl <;> first | rfl | exact q_cat) (Nat.le_of_ble_eq_true rfl) rfl
  rw [show entryFrame m args 5 = F0 m 0 ls [] from by rw [hargs]; exact hen m]
  refine lv_aload_n hx hb d_La_send_0 rfl (q_at hl 3 rfl) ?_
  refine lv_iconst (v := 0) hx hb d_La_send_1 (by decide) ?_
  refine lv_aload_n hx hb d_La_send_2 rfl (q_at hl 0 rfl) ?_
  refine lv_iload_n hx hb d_La_send_3 rfl (q_at hl 1 rfl) ?_
  refine lv_iload_n hx hb d_La_send_4 rfl (q_at hl 2 rfl) ?_
  refine q_kiF hA I (q_runVF (C := "JobTerminal") (As := [.int p1, .int p2]) (rest := [.int 0, .ref oa]) ⟨hx, hb, hml, hown, hts⟩ (c_JT_send (sz := s.heap.size) hf) (cwV 2 hts (q_goodV mw586 mw587 mw588 mw589 mw184) rfl rfl rfl (by decide +kernel) ⟨(Nat.le_of_ble_eq_true rfl), (Nat.le_of_ble_eq_true rfl)⟩) NW_ok hK hN I rfl (q_wsE (by decide) a_C_JT) rfl (q_sz hl) rfl (Nat.le_of_ble_eq_true rfl) d_La_send_5 ⟨Nat.zero_le _, Nat.zero_le _⟩) (fun H locs I => ?_)
  refine lv_i2l (v := res.1.toInt64) hx hb d_La_send_8 rfl ?_
  refine q_last1 hx hb hK I d_La_send_9 (fun H locs I => ?_)
  refine lv_goto (tgt := 17) hx hb d_La_send_10 (by decide) ?_
  refine lv_iconst (v := 0) hx hb d_La_send_17 (by decide) ?_
  exact q_iret hx hb hr hlocks I d_La_send_18
set_option maxHeartbeats 4000000 in
set_option maxRecDepth 100000 in
theorem e_send {l : Launch} (hls : l.stackTraces = false) {D : va_G} {ad : Nat → Nat} {cs : Nat → ClassId} {sz oa : Nat} {g : Nat → Int64} {σ : q_St} {p1 : Int32} {p2 : Int32} {res : (Bool × q_St)} (hf : f_JT_sendX σ p1 p2 = some res) (hT : res.1 = true) : Met l y_La_send w_La_send ({ frames := 7, cells := 1, slots := 6, locals := 130 } : Room) (q_PreY D vwCl (tyL cs) NW [.ref (ad 0), .int p1, .int p2, .ref oa] (q_ws 33 ad (cC ad cs σ) ++ [(oa, .inl (cs 4, 1, .inr (.inl g)))]) sz) (q_Qi D vwCl (if res.1 then 1 else 2) (q_ws 33 ad (cC ad cs res.2) ++ [(oa, .inl (cs 4, 1, .inr (.inl g)))]) (va_A (q_ws 33 ad (cC ad cs σ) ++ [(oa, .inl (cs 4, 1, .inr (.inl g)))]) sz)) 1 6 (va_A (q_ws 33 ad (cC ad cs σ) ++ [(oa, .inl (cs 4, 1, .inr (.inl g)))]) sz) := by
  refine va_MetW (cc := b_La_send) (maxL := 5) (ret := some .int) (hh := [(0, 10, 13, 13)]) (by decide) rfl ?_
  intro p e s m args below meth c s₁ B hml hv
  obtain ⟨⟨⟨hargs, hsz, hP, hK, hD0, hN⟩, hX1, hX2, hX3, hX4⟩, hnc⟩ := hv
  have hx := B.exec
  have hb := B.bytes
  have hr := B.returns
  have hts := atoms_spec (ws := w_La_send) B.pre
  have hown : s.vm.findClass "JobTerminalLaw" = some m.cls := findClass_of_methodNamed B.named
  have hlocks := B.notSynchronized
  have htg : ∀ w ∈ GW, w.before args s = true := fun w h => hts w (List.mem_cons_of_mem _ h)
  subst hsz
  have hD := hD0.self (sz := s.heap.size)
  have htab := q_table B (hts _ List.mem_cons_self)
  generalize hAe : va_A (q_ws 33 ad (cC ad cs σ) ++ [(oa, .inl (cs 4, 1, .inr (.inl g)))]) s.heap.size = A at hD hX3 hX4 ⊢
  have hA : ∀ q : Nat, s.heap.size ≤ q → A q := fun q h => by rw [← hAe]; exact Or.inr h
  have I : q_I D vwCl A s.heap (q_ws 33 ad (cC ad cs σ) ++ [(oa, .inl (cs 4, 1, .inr (.inl g)))]) s.heap [] := ⟨hP, hD, va_S.rf⟩
  obtain ⟨ls, hen, hl⟩ := q_entry (vs := [.ref (ad 0), .int p1, .int p2, .ref oa]) (n := 5) (lv := [(0, .ref (ad 0)), (1, .int p1), (2, .int p2), (3, .ref oa)]) (by intro v hv; simp only [List.mem_cons, List.not_mem_nil, or_false] at hv; rcases hv with rfl | rfl | rfl | rfl <;> first | rfl | exact q_cat) (Nat.le_of_ble_eq_true rfl) rfl
  rw [show entryFrame m args 5 = F0 m 0 ls [] from by rw [hargs]; exact hen m]
  refine lv_aload_n hx hb d_La_send_0 rfl (q_at hl 3 rfl) ?_
  refine lv_iconst (v := 0) hx hb d_La_send_1 (by decide) ?_
  refine lv_aload_n hx hb d_La_send_2 rfl (q_at hl 0 rfl) ?_
  refine lv_iload_n hx hb d_La_send_3 rfl (q_at hl 1 rfl) ?_
  refine lv_iload_n hx hb d_La_send_4 rfl (q_at hl 2 rfl) ?_
  refine q_callX (C := "JobTerminal") (As := [.int p1, .int p2]) (rest := [.int 0, .ref oa]) ⟨hx, hb, hml, hown, hts⟩ (x_JT_send hls (sz := s.heap.size) hf) (cwV 2 hts (q_goodV mw586 mw587 mw588 mw589 mw184) rfl rfl rfl (by decide +kernel) ⟨(Nat.le_of_ble_eq_true rfl), (Nat.le_of_ble_eq_true rfl)⟩) NW_ok hK hN ⟨hX1, hX2⟩ ⟨hX3, hX4⟩ hA I rfl (q_wsE (by decide) a_C_JT) rfl (q_sz hl) rfl (Nat.le_of_ble_eq_true rfl) d_La_send_5 ⟨(Nat.le_of_ble_eq_true rfl), (Nat.le_of_ble_eq_true rfl)⟩ (fun q ce H locs I hce hcv hcl => ?_)
  obtain ⟨bb, σ2⟩ := res
  cases hT
  refine q_catch1 (own := "JobTerminalLaw") (E := xIA) (name := xIA) (x := (⟨0, 10, 13, 13⟩ : ExceptionTableEntry)) hown htab (by decide) (by decide) (htg _ mw573) (va_Nw.use rfl (hX1 (.castable xIA xIA) (by decide +kernel))) hce hcv hcl ?_
  refine q_astoreR (lv' := [(4, .ref q), (0, .ref (ad 0)), (1, .int p1), (2, .int p2), (3, .ref oa)]) hx hb d_La_send_13 hl (by decide) rfl (fun ls hl => ?_)
  refine lv_iconst (v := 1) hx hb d_La_send_15 (by decide) ?_
  exact q_iret hx hb hr hlocks I d_La_send_16
