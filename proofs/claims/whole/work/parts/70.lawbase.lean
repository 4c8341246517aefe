/-! THE LAW's LOOP: what each case stands on -/
theorem q_goodVL {b : Cond} {own C : String} {idx : Nat} {y : MethodName} (hb : b ∈ GW) (h1 : Cond.methodLink own idx y ∈ GW) (h2 : Cond.instanceMethod y ∈ GW) (h3 : Cond.selects C y y ∈ GW) (h4 : Cond.initialized C ∈ GW) : GoodIn GW (wsV own idx C y (b :: GW)) := by
  intro w hw
  have k : w ∈ GW := by
    simp only [wsV, List.mem_append, List.mem_cons, List.not_mem_nil, or_false] at hw
    rcases hw with (rfl | rfl | rfl | rfl) | rfl | hw <;> assumption
  exact ⟨k, (q_gw k).2⟩
theorem q_cwSW {R : Room} {s : State} {args : Array Value} {own : String} {index : Nat} {y : MethodName} {bytes : ByteArray} {maxL : Nat} {ret : Option FieldType} {hh : List (Nat × Nat × Nat × Nat)} {rm : Room} {mc ms : Nat} (n : Nat) (htg : ∀ w ∈ GW, w.before args s = true) (h0 : Cond.codeWith y bytes maxL ret hh ∈ GW) (h1 : Cond.methodLink own index y ∈ GW) (h2 : Cond.static y ∈ GW) (h3 : Cond.initialized y.cls ∈ GW) (hrc : rm.cells = mc) (hrs : rm.slots = ms)
    (hd : y.cls ≠ "java/lang/invoke/MethodHandle" ∧ y.cls ≠ "java/lang/invoke/VarHandle" ∧ (parseMethodDescriptor y.desc).map (fun d => d.parameters.length) = some n) (hR : rm.frames + 1 ≤ R.frames ∧ 8 + (maxL + 11) + rm.locals ≤ R.locals) : q_CSW R s args own index y bytes maxL ret hh (.codeWith y bytes maxL ret hh :: GW) rm mc ms n := by
  refine ⟨⟨hrc, hrs, hR.1, hR.2⟩, ⟨fun w hw a' U hW => ?_, List.mem_cons_self, htg _ h0⟩, htg _ h3, ⟨hd.1, hd.2.1⟩, fun sig h => ?_, htg _ h1, htg _ h2⟩
  · have k : w ∈ GW := by
      rcases List.mem_cons.mp hw with rfl | hw <;> assumption
    exact word_at hW (q_gw k).2 (htg w k)
  · have h9 := hd.2.2
    rw [h] at h9
    exact (Option.some.inj h9).symm
theorem q_PreY_at {D : va_G} {cl : List vw_C} {tys : List (ClassId × FieldType)} {nw : List Cond} {av : List Value} {ws : va_W} {s U : State} {H H0 : Heap} {A : Nat → Prop} {locs : List Loc} (hA : ∀ q, H0.size ≤ q → A q) (hnw : q_nwOk nw) (hK : va_K D cl tys s) (hN : ∀ w ∈ nw, va_Nw w s) (hP : va_P D cl ws H) (hD : va_D A ws) (hS : va_S A H0 H locs) (hXt : q_Xt s) (hXz : q_Xz A s H0) (hnc : va_Nc xIS xIA s) (hU : U.heap = H) (hW : s.WarmedH U.vm) : q_PreY D cl tys nw av ws H.size av.toArray U := by
  have xt := q_Xt_warm hW hXt
  have hF : ∀ q, va_A ws H.size q → A q := by
    intro q h
    rcases h with ⟨k, e9, h⟩ | h
    · exact hD.2 k (q, e9) h
    · exact hA q (Nat.le_trans hS.1 h)
  have sl : ∀ {nm d : String}, q_Sl nm d A s H0 → q_Sl nm d (va_A ws U.heap.size) U U.heap := fun h => by
    rw [hU]
    exact q_Sl_vm hW.alike (q_Sl_keep (q_Sl_keep h (fun _ _ z => z) hS.2.1) (fun q _ z => hF q z) (fun _ _ _ => rfl))
  exact ⟨⟨q_Pre_at hnw hK hN hP hD hU hW, xt.1, xt.2, sl hXz.1, sl hXz.2⟩, va_Nc.moved hW.alike hnc⟩
theorem q_as {D : va_G} {cl : List vw_C} {A : Nat → Prop} {H0 H : Heap} {locs : List Loc} {a b c : va_W} (I : q_I D cl A H0 ((a ++ b) ++ c) H locs) : q_I D cl A H0 (a ++ (b ++ c)) H locs := by rw [← List.append_assoc]; exact I
theorem q_sa {D : va_G} {cl : List vw_C} {A : Nat → Prop} {H0 H : Heap} {locs : List Loc} {a b c : va_W} (I : q_I D cl A H0 (a ++ (b ++ c)) H locs) : q_I D cl A H0 ((a ++ b) ++ c) H locs := by rw [List.append_assoc]; exact I
theorem q_ix {j L k : Nat} (hj : j + 5 ≤ L) (hL : L ≤ 2560) (hk : k < 5) : vp_in (nI j + nI k) L := by
  rw [nI_add]
  exact q_in_vp (q_inT (show j + k < L by omega) (by omega))
theorem q_cmp0 (x : Int64) : lg_cmp x x = 0 := by simp [lg_cmp]
theorem q_bz (bb : Bool) : ¬ (if bb then (1 : Int32) else 2) = 0 := by cases bb <;> decide
theorem sendX_true {σ σ' : q_St} {p w : Int32} {bb : Bool} (h : f_JT_sendX σ p w = some (bb, σ')) : bb = true := by
  unfold f_JT_sendX f_JT_sendX_30 at h
  obtain ⟨r1, -, h⟩ := q_bnd_some h
  by_cases h1 : r1.1 < 0
  · rw [if_pos h1] at h; cases h; rfl
  · rw [if_neg h1] at h
    by_cases h2 : w < 0
    · rw [if_pos h2] at h; cases h; rfl
    · rw [if_neg h2] at h
      by_cases h3 : w ≤ 9
      · rw [if_pos h3] at h
        obtain ⟨r2, -, h⟩ := q_bnd_some h
        cases h
      · rw [if_neg h3] at h; cases h; rfl
/-- what the law's walk stands on -/
abbrev q_L0 (p : Program) (l : Launch) (s : State) (m : MethodId) (c : Code) (b L : Nat) (xs : Nat → Int32) (D : va_G) (cs : Nat → ClassId) (A : Nat → Prop) : Prop :=
  p.tables.exec = Jvm.exec ∧ c.code = code ∧ c.maxLocals = 7 ∧ s.vm.findClass "JobTerminalLaw" = some m.cls ∧ (∀ w ∈ GW, w.before #[Value.ref b] s = true) ∧ va_X b L xs s s.heap ∧ b < s.heap.size ∧ va_K D vwCl (tyL cs) s ∧ (∀ w ∈ NW, va_Nw w s) ∧ l.stackTraces = false ∧ q_Xt s ∧ q_Xz A s s.heap ∧ va_Nc xIS xIA s ∧ (∀ q, s.heap.size ≤ q → A q) ∧ ¬ A b
section QLD
variable {p : Program} {l : Launch} {e : Env} {R : Room} {s : State} {m : MethodId} {args : Array Value} {below : List Frame} {meth : Method} {c : Code} {H H0 : Heap} {locs : List Loc} {cells slots : Nat} {Q : State → Prop}
variable {cc : ByteArray} {pc : Nat} {ls : Array Slot} {rest : List Value} {D : va_G} {cl : List vw_C} {A : Nat → Prop}
theorem q_lald1 {cs : Nat → ClassId} {ad : Nat → Nat} {cel : Nat → va_E} {oa : Nat} {g : Nat → Int64} {w2 : va_W} (hx : p.tables.exec = Jvm.exec) (hb : c.code = cc) (hK : va_K D cl (tyL cs) s) (I : q_I D cl A H0 ((q_ws 33 ad cel ++ [(oa, .inl (cs 4, 1, .inr (.inl g)))]) ++ w2) H locs) (hdg : decode cc pc = .ok (.laload, 1))
    (kk : W p l e R s m args below meth c H locs cells slots Q (F0 m (pc + 1) ls (.long (g 0) :: rest))) : W p l e R s m args below meth c H locs cells slots Q (F0 m pc ls (.int 0 :: .ref oa :: rest)) := by
  have hat : (q_ws 33 ad cel ++ [(oa, (.inl (cs 4, 1, .inr (.inl g)) : va_E))])[33]? = some (oa, .inl (cs 4, 1, .inr (.inl g))) := by
    rw [List.getElem?_append_right (by rw [q_wsl]; exact Nat.le_refl _), q_wsl]; rfl
  exact va_lald hx hb hK (q_left I).1 33 4 hat rfl (i := 0) (q_in_vp (show q_in 0 1 = true by decide)) hdg kk
end QLD

theorem mw590 : (Jvm.Cond.code ({ cls := "JobTerminal", name := "program", desc := "(IIII)Z" } : Jvm.MethodName) prog_1_method_2_code (5 : Nat) (Option.some Jvm.ClassFile.FieldType.boolean)) ∈ GW := q_mem 258 rfl rfl
theorem mw591 : (Jvm.Cond.methodLink "JobTerminalLaw" (32 : Nat) ({ cls := "JobTerminal", name := "program", desc := "(IIII)Z" } : Jvm.MethodName)) ∈ GW := q_mem 255 rfl rfl
theorem mw592 : (Jvm.Cond.instanceMethod ({ cls := "JobTerminal", name := "program", desc := "(IIII)Z" } : Jvm.MethodName)) ∈ GW := q_mem 256 rfl rfl
theorem mw593 : (Jvm.Cond.selects "JobTerminal" ({ cls := "JobTerminal", name := "program", desc := "(IIII)Z" } : Jvm.MethodName) ({ cls := "JobTerminal", name := "program", desc := "(IIII)Z" } : Jvm.MethodName)) ∈ GW := q_mem 257 rfl rfl
set_option maxRecDepth 20000 in
theorem mw594 : (Jvm.Cond.code ({ cls := "JobTerminalModel", name := "program", desc := "(IIII)Z" } : Jvm.MethodName) prog_9_method_20_code (5 : Nat) (Option.some Jvm.ClassFile.FieldType.boolean)) ∈ GW := q_mem 866 rfl rfl
set_option maxRecDepth 20000 in
theorem mw595 : (Jvm.Cond.methodLink "JobTerminalLaw" (36 : Nat) ({ cls := "JobTerminalModel", name := "program", desc := "(IIII)Z" } : Jvm.MethodName)) ∈ GW := q_mem 863 rfl rfl
set_option maxRecDepth 20000 in
theorem mw596 : (Jvm.Cond.instanceMethod ({ cls := "JobTerminalModel", name := "program", desc := "(IIII)Z" } : Jvm.MethodName)) ∈ GW := q_mem 864 rfl rfl
set_option maxRecDepth 20000 in
theorem mw597 : (Jvm.Cond.selects "JobTerminalModel" ({ cls := "JobTerminalModel", name := "program", desc := "(IIII)Z" } : Jvm.MethodName) ({ cls := "JobTerminalModel", name := "program", desc := "(IIII)Z" } : Jvm.MethodName)) ∈ GW := q_mem 865 rfl rfl
theorem mw598 : (Jvm.Cond.code ({ cls := "JobTerminal", name := "flags", desc := "(I)I" } : Jvm.MethodName) prog_1_method_3_code (3 : Nat) (Option.some Jvm.ClassFile.FieldType.int)) ∈ GW := q_mem 274 rfl rfl
theorem mw599 : (Jvm.Cond.methodLink "JobTerminalLaw" (37 : Nat) ({ cls := "JobTerminal", name := "flags", desc := "(I)I" } : Jvm.MethodName)) ∈ GW := q_mem 271 rfl rfl
theorem mw600 : (Jvm.Cond.instanceMethod ({ cls := "JobTerminal", name := "flags", desc := "(I)I" } : Jvm.MethodName)) ∈ GW := q_mem 272 rfl rfl
theorem mw601 : (Jvm.Cond.selects "JobTerminal" ({ cls := "JobTerminal", name := "flags", desc := "(I)I" } : Jvm.MethodName) ({ cls := "JobTerminal", name := "flags", desc := "(I)I" } : Jvm.MethodName)) ∈ GW := q_mem 273 rfl rfl
set_option maxRecDepth 20000 in
theorem mw602 : (Jvm.Cond.code ({ cls := "JobTerminalModel", name := "flags", desc := "(I)I" } : Jvm.MethodName) prog_9_method_19_code (3 : Nat) (Option.some Jvm.ClassFile.FieldType.int)) ∈ GW := q_mem 862 rfl rfl
set_option maxRecDepth 20000 in
theorem mw603 : (Jvm.Cond.methodLink "JobTerminalLaw" (40 : Nat) ({ cls := "JobTerminalModel", name := "flags", desc := "(I)I" } : Jvm.MethodName)) ∈ GW := q_mem 859 rfl rfl
set_option maxRecDepth 20000 in
theorem mw604 : (Jvm.Cond.instanceMethod ({ cls := "JobTerminalModel", name := "flags", desc := "(I)I" } : Jvm.MethodName)) ∈ GW := q_mem 860 rfl rfl
set_option maxRecDepth 20000 in
theorem mw605 : (Jvm.Cond.selects "JobTerminalModel" ({ cls := "JobTerminalModel", name := "flags", desc := "(I)I" } : Jvm.MethodName) ({ cls := "JobTerminalModel", name := "flags", desc := "(I)I" } : Jvm.MethodName)) ∈ GW := q_mem 861 rfl rfl
theorem mw606 : (Jvm.Cond.code ({ cls := "JobTerminal", name := "key", desc := "(C)Z" } : Jvm.MethodName) prog_1_method_4_code (4 : Nat) (Option.some Jvm.ClassFile.FieldType.boolean)) ∈ GW := q_mem 278 rfl rfl
theorem mw607 : (Jvm.Cond.methodLink "JobTerminalLaw" (41 : Nat) ({ cls := "JobTerminal", name := "key", desc := "(C)Z" } : Jvm.MethodName)) ∈ GW := q_mem 275 rfl rfl
theorem mw608 : (Jvm.Cond.instanceMethod ({ cls := "JobTerminal", name := "key", desc := "(C)Z" } : Jvm.MethodName)) ∈ GW := q_mem 276 rfl rfl
theorem mw609 : (Jvm.Cond.selects "JobTerminal" ({ cls := "JobTerminal", name := "key", desc := "(C)Z" } : Jvm.MethodName) ({ cls := "JobTerminal", name := "key", desc := "(C)Z" } : Jvm.MethodName)) ∈ GW := q_mem 277 rfl rfl
set_option maxRecDepth 20000 in
theorem mw610 : (Jvm.Cond.code ({ cls := "JobTerminalModel", name := "key", desc := "(C)Z" } : Jvm.MethodName) prog_9_method_17_code (4 : Nat) (Option.some Jvm.ClassFile.FieldType.boolean)) ∈ GW := q_mem 803 rfl rfl
set_option maxRecDepth 20000 in
theorem mw611 : (Jvm.Cond.methodLink "JobTerminalLaw" (45 : Nat) ({ cls := "JobTerminalModel", name := "key", desc := "(C)Z" } : Jvm.MethodName)) ∈ GW := q_mem 800 rfl rfl
set_option maxRecDepth 20000 in
theorem mw612 : (Jvm.Cond.instanceMethod ({ cls := "JobTerminalModel", name := "key", desc := "(C)Z" } : Jvm.MethodName)) ∈ GW := q_mem 801 rfl rfl
set_option maxRecDepth 20000 in
theorem mw613 : (Jvm.Cond.selects "JobTerminalModel" ({ cls := "JobTerminalModel", name := "key", desc := "(C)Z" } : Jvm.MethodName) ({ cls := "JobTerminalModel", name := "key", desc := "(C)Z" } : Jvm.MethodName)) ∈ GW := q_mem 802 rfl rfl
set_option maxRecDepth 20000 in
theorem mw614 : (Jvm.Cond.methodLink "JobTerminalLaw" (46 : Nat) ({ cls := "JobTerminalLaw", name := "launch", desc := "(LJobTerminal;IIZ[J)I" } : Jvm.MethodName)) ∈ GW := q_mem 556 rfl rfl
set_option maxRecDepth 20000 in
theorem mw615 : (Jvm.Cond.static ({ cls := "JobTerminalLaw", name := "launch", desc := "(LJobTerminal;IIZ[J)I" } : Jvm.MethodName)) ∈ GW := q_mem 557 rfl rfl
theorem mw616 : (Jvm.Cond.initialized "JobTerminalLaw") ∈ GW := q_mem 55 rfl rfl
set_option maxRecDepth 20000 in
theorem mw617 : (Jvm.Cond.code ({ cls := "JobTerminalModel", name := "launch", desc := "(IIZ)I" } : Jvm.MethodName) prog_9_method_22_code (6 : Nat) (Option.some Jvm.ClassFile.FieldType.int)) ∈ GW := q_mem 870 rfl rfl
set_option maxRecDepth 20000 in
theorem mw618 : (Jvm.Cond.methodLink "JobTerminalLaw" (51 : Nat) ({ cls := "JobTerminalModel", name := "launch", desc := "(IIZ)I" } : Jvm.MethodName)) ∈ GW := q_mem 867 rfl rfl
set_option maxRecDepth 20000 in
theorem mw619 : (Jvm.Cond.instanceMethod ({ cls := "JobTerminalModel", name := "launch", desc := "(IIZ)I" } : Jvm.MethodName)) ∈ GW := q_mem 868 rfl rfl
set_option maxRecDepth 20000 in
theorem mw620 : (Jvm.Cond.selects "JobTerminalModel" ({ cls := "JobTerminalModel", name := "launch", desc := "(IIZ)I" } : Jvm.MethodName) ({ cls := "JobTerminalModel", name := "launch", desc := "(IIZ)I" } : Jvm.MethodName)) ∈ GW := q_mem 869 rfl rfl
set_option maxRecDepth 20000 in
theorem mw621 : (Jvm.Cond.code ({ cls := "JobTerminalModel", name := "thrown", desc := "()I" } : Jvm.MethodName) prog_9_method_2_code (1 : Nat) (Option.some Jvm.ClassFile.FieldType.int)) ∈ GW := q_mem 799 rfl rfl
set_option maxRecDepth 20000 in
theorem mw622 : (Jvm.Cond.methodLink "JobTerminalLaw" (52 : Nat) ({ cls := "JobTerminalModel", name := "thrown", desc := "()I" } : Jvm.MethodName)) ∈ GW := q_mem 796 rfl rfl
set_option maxRecDepth 20000 in
theorem mw623 : (Jvm.Cond.instanceMethod ({ cls := "JobTerminalModel", name := "thrown", desc := "()I" } : Jvm.MethodName)) ∈ GW := q_mem 797 rfl rfl
set_option maxRecDepth 20000 in
theorem mw624 : (Jvm.Cond.selects "JobTerminalModel" ({ cls := "JobTerminalModel", name := "thrown", desc := "()I" } : Jvm.MethodName) ({ cls := "JobTerminalModel", name := "thrown", desc := "()I" } : Jvm.MethodName)) ∈ GW := q_mem 798 rfl rfl
set_option maxRecDepth 20000 in
theorem mw625 : (Jvm.Cond.methodLink "JobTerminalLaw" (56 : Nat) ({ cls := "JobTerminalLaw", name := "front", desc := "(LJobTerminal;I[J)I" } : Jvm.MethodName)) ∈ GW := q_mem 667 rfl rfl
set_option maxRecDepth 20000 in
theorem mw626 : (Jvm.Cond.static ({ cls := "JobTerminalLaw", name := "front", desc := "(LJobTerminal;I[J)I" } : Jvm.MethodName)) ∈ GW := q_mem 668 rfl rfl
set_option maxRecDepth 20000 in
theorem mw627 : (Jvm.Cond.code ({ cls := "JobTerminalModel", name := "front", desc := "(I)I" } : Jvm.MethodName) prog_9_method_24_code (2 : Nat) (Option.some Jvm.ClassFile.FieldType.int)) ∈ GW := q_mem 878 rfl rfl
set_option maxRecDepth 20000 in
theorem mw628 : (Jvm.Cond.methodLink "JobTerminalLaw" (59 : Nat) ({ cls := "JobTerminalModel", name := "front", desc := "(I)I" } : Jvm.MethodName)) ∈ GW := q_mem 875 rfl rfl
set_option maxRecDepth 20000 in
theorem mw629 : (Jvm.Cond.instanceMethod ({ cls := "JobTerminalModel", name := "front", desc := "(I)I" } : Jvm.MethodName)) ∈ GW := q_mem 876 rfl rfl
set_option maxRecDepth 20000 in
theorem mw630 : (Jvm.Cond.selects "JobTerminalModel" ({ cls := "JobTerminalModel", name := "front", desc := "(I)I" } : Jvm.MethodName) ({ cls := "JobTerminalModel", name := "front", desc := "(I)I" } : Jvm.MethodName)) ∈ GW := q_mem 877 rfl rfl
set_option maxRecDepth 20000 in
theorem mw631 : (Jvm.Cond.methodLink "JobTerminalLaw" (60 : Nat) ({ cls := "JobTerminalLaw", name := "back", desc := "(LJobTerminal;I[J)I" } : Jvm.MethodName)) ∈ GW := q_mem 680 rfl rfl
set_option maxRecDepth 20000 in
theorem mw632 : (Jvm.Cond.static ({ cls := "JobTerminalLaw", name := "back", desc := "(LJobTerminal;I[J)I" } : Jvm.MethodName)) ∈ GW := q_mem 681 rfl rfl
set_option maxRecDepth 20000 in
theorem mw633 : (Jvm.Cond.code ({ cls := "JobTerminalModel", name := "back", desc := "(I)I" } : Jvm.MethodName) prog_9_method_25_code (2 : Nat) (Option.some Jvm.ClassFile.FieldType.int)) ∈ GW := q_mem 890 rfl rfl
set_option maxRecDepth 20000 in
theorem mw634 : (Jvm.Cond.methodLink "JobTerminalLaw" (62 : Nat) ({ cls := "JobTerminalModel", name := "back", desc := "(I)I" } : Jvm.MethodName)) ∈ GW := q_mem 887 rfl rfl
set_option maxRecDepth 20000 in
theorem mw635 : (Jvm.Cond.instanceMethod ({ cls := "JobTerminalModel", name := "back", desc := "(I)I" } : Jvm.MethodName)) ∈ GW := q_mem 888 rfl rfl
set_option maxRecDepth 20000 in
theorem mw636 : (Jvm.Cond.selects "JobTerminalModel" ({ cls := "JobTerminalModel", name := "back", desc := "(I)I" } : Jvm.MethodName) ({ cls := "JobTerminalModel", name := "back", desc := "(I)I" } : Jvm.MethodName)) ∈ GW := q_mem 889 rfl rfl
set_option maxRecDepth 20000 in
theorem mw637 : (Jvm.Cond.methodLink "JobTerminalLaw" (63 : Nat) ({ cls := "JobTerminalLaw", name := "send", desc := "(LJobTerminal;II[J)I" } : Jvm.MethodName)) ∈ GW := q_mem 687 rfl rfl
set_option maxRecDepth 20000 in
theorem mw638 : (Jvm.Cond.static ({ cls := "JobTerminalLaw", name := "send", desc := "(LJobTerminal;II[J)I" } : Jvm.MethodName)) ∈ GW := q_mem 688 rfl rfl
set_option maxRecDepth 20000 in
theorem mw639 : (Jvm.Cond.code ({ cls := "JobTerminalModel", name := "send", desc := "(II)I" } : Jvm.MethodName) prog_9_method_26_code (3 : Nat) (Option.some Jvm.ClassFile.FieldType.int)) ∈ GW := q_mem 894 rfl rfl
set_option maxRecDepth 20000 in
theorem mw640 : (Jvm.Cond.methodLink "JobTerminalLaw" (66 : Nat) ({ cls := "JobTerminalModel", name := "send", desc := "(II)I" } : Jvm.MethodName)) ∈ GW := q_mem 891 rfl rfl
set_option maxRecDepth 20000 in
theorem mw641 : (Jvm.Cond.instanceMethod ({ cls := "JobTerminalModel", name := "send", desc := "(II)I" } : Jvm.MethodName)) ∈ GW := q_mem 892 rfl rfl
set_option maxRecDepth 20000 in
theorem mw642 : (Jvm.Cond.selects "JobTerminalModel" ({ cls := "JobTerminalModel", name := "send", desc := "(II)I" } : Jvm.MethodName) ({ cls := "JobTerminalModel", name := "send", desc := "(II)I" } : Jvm.MethodName)) ∈ GW := q_mem 893 rfl rfl
set_option maxRecDepth 20000 in
theorem mw643 : (Jvm.Cond.code ({ cls := "JobTerminal", name := "report", desc := "()I" } : Jvm.MethodName) prog_1_method_9_code (3 : Nat) (Option.some Jvm.ClassFile.FieldType.int)) ∈ GW := q_mem 405 rfl rfl
set_option maxRecDepth 20000 in
theorem mw644 : (Jvm.Cond.methodLink "JobTerminalLaw" (67 : Nat) ({ cls := "JobTerminal", name := "report", desc := "()I" } : Jvm.MethodName)) ∈ GW := q_mem 402 rfl rfl
set_option maxRecDepth 20000 in
theorem mw645 : (Jvm.Cond.instanceMethod ({ cls := "JobTerminal", name := "report", desc := "()I" } : Jvm.MethodName)) ∈ GW := q_mem 403 rfl rfl
set_option maxRecDepth 20000 in
theorem mw646 : (Jvm.Cond.selects "JobTerminal" ({ cls := "JobTerminal", name := "report", desc := "()I" } : Jvm.MethodName) ({ cls := "JobTerminal", name := "report", desc := "()I" } : Jvm.MethodName)) ∈ GW := q_mem 404 rfl rfl
set_option maxRecDepth 20000 in
theorem mw647 : (Jvm.Cond.code ({ cls := "JobTerminalModel", name := "report", desc := "()I" } : Jvm.MethodName) prog_9_method_27_code (3 : Nat) (Option.some Jvm.ClassFile.FieldType.int)) ∈ GW := q_mem 898 rfl rfl
set_option maxRecDepth 20000 in
theorem mw648 : (Jvm.Cond.methodLink "JobTerminalLaw" (70 : Nat) ({ cls := "JobTerminalModel", name := "report", desc := "()I" } : Jvm.MethodName)) ∈ GW := q_mem 895 rfl rfl
set_option maxRecDepth 20000 in
theorem mw649 : (Jvm.Cond.instanceMethod ({ cls := "JobTerminalModel", name := "report", desc := "()I" } : Jvm.MethodName)) ∈ GW := q_mem 896 rfl rfl
set_option maxRecDepth 20000 in
theorem mw650 : (Jvm.Cond.selects "JobTerminalModel" ({ cls := "JobTerminalModel", name := "report", desc := "()I" } : Jvm.MethodName) ({ cls := "JobTerminalModel", name := "report", desc := "()I" } : Jvm.MethodName)) ∈ GW := q_mem 897 rfl rfl
set_option maxRecDepth 20000 in
theorem mw651 : (Jvm.Cond.code ({ cls := "JobTerminal", name := "step", desc := "(I)I" } : Jvm.MethodName) prog_1_method_10_code (5 : Nat) (Option.some Jvm.ClassFile.FieldType.int)) ∈ GW := q_mem 425 rfl rfl
set_option maxRecDepth 20000 in
theorem mw652 : (Jvm.Cond.methodLink "JobTerminalLaw" (71 : Nat) ({ cls := "JobTerminal", name := "step", desc := "(I)I" } : Jvm.MethodName)) ∈ GW := q_mem 422 rfl rfl
set_option maxRecDepth 20000 in
theorem mw653 : (Jvm.Cond.instanceMethod ({ cls := "JobTerminal", name := "step", desc := "(I)I" } : Jvm.MethodName)) ∈ GW := q_mem 423 rfl rfl
set_option maxRecDepth 20000 in
theorem mw654 : (Jvm.Cond.selects "JobTerminal" ({ cls := "JobTerminal", name := "step", desc := "(I)I" } : Jvm.MethodName) ({ cls := "JobTerminal", name := "step", desc := "(I)I" } : Jvm.MethodName)) ∈ GW := q_mem 424 rfl rfl
set_option maxRecDepth 20000 in
theorem mw655 : (Jvm.Cond.code ({ cls := "JobTerminalModel", name := "step", desc := "(I)I" } : Jvm.MethodName) prog_9_method_40_code (6 : Nat) (Option.some Jvm.ClassFile.FieldType.int)) ∈ GW := q_mem 906 rfl rfl
set_option maxRecDepth 20000 in
theorem mw656 : (Jvm.Cond.methodLink "JobTerminalLaw" (74 : Nat) ({ cls := "JobTerminalModel", name := "step", desc := "(I)I" } : Jvm.MethodName)) ∈ GW := q_mem 903 rfl rfl
set_option maxRecDepth 20000 in
theorem mw657 : (Jvm.Cond.instanceMethod ({ cls := "JobTerminalModel", name := "step", desc := "(I)I" } : Jvm.MethodName)) ∈ GW := q_mem 904 rfl rfl
set_option maxRecDepth 20000 in
theorem mw658 : (Jvm.Cond.selects "JobTerminalModel" ({ cls := "JobTerminalModel", name := "step", desc := "(I)I" } : Jvm.MethodName) ({ cls := "JobTerminalModel", name := "step", desc := "(I)I" } : Jvm.MethodName)) ∈ GW := q_mem 905 rfl rfl
set_option maxRecDepth 20000 in
theorem mw659 : (Jvm.Cond.code ({ cls := "JobTerminal", name := "tick", desc := "()I" } : Jvm.MethodName) prog_1_method_11_code (4 : Nat) (Option.some Jvm.ClassFile.FieldType.int)) ∈ GW := q_mem 506 rfl rfl
set_option maxRecDepth 20000 in
theorem mw660 : (Jvm.Cond.methodLink "JobTerminalLaw" (75 : Nat) ({ cls := "JobTerminal", name := "tick", desc := "()I" } : Jvm.MethodName)) ∈ GW := q_mem 503 rfl rfl
set_option maxRecDepth 20000 in
theorem mw661 : (Jvm.Cond.instanceMethod ({ cls := "JobTerminal", name := "tick", desc := "()I" } : Jvm.MethodName)) ∈ GW := q_mem 504 rfl rfl
set_option maxRecDepth 20000 in
theorem mw662 : (Jvm.Cond.selects "JobTerminal" ({ cls := "JobTerminal", name := "tick", desc := "()I" } : Jvm.MethodName) ({ cls := "JobTerminal", name := "tick", desc := "()I" } : Jvm.MethodName)) ∈ GW := q_mem 505 rfl rfl
set_option maxRecDepth 20000 in
theorem mw663 : (Jvm.Cond.code ({ cls := "JobTerminalModel", name := "tick", desc := "()I" } : Jvm.MethodName) prog_9_method_41_code (3 : Nat) (Option.some Jvm.ClassFile.FieldType.int)) ∈ GW := q_mem 954 rfl rfl
set_option maxRecDepth 20000 in
theorem mw664 : (Jvm.Cond.methodLink "JobTerminalLaw" (78 : Nat) ({ cls := "JobTerminalModel", name := "tick", desc := "()I" } : Jvm.MethodName)) ∈ GW := q_mem 951 rfl rfl
set_option maxRecDepth 20000 in
theorem mw665 : (Jvm.Cond.instanceMethod ({ cls := "JobTerminalModel", name := "tick", desc := "()I" } : Jvm.MethodName)) ∈ GW := q_mem 952 rfl rfl
set_option maxRecDepth 20000 in
theorem mw666 : (Jvm.Cond.selects "JobTerminalModel" ({ cls := "JobTerminalModel", name := "tick", desc := "()I" } : Jvm.MethodName) ({ cls := "JobTerminalModel", name := "tick", desc := "()I" } : Jvm.MethodName)) ∈ GW := q_mem 953 rfl rfl
set_option maxRecDepth 20000 in
theorem mw667 : (Jvm.Cond.code ({ cls := "JobTerminal", name := "hang", desc := "()Z" } : Jvm.MethodName) prog_1_method_12_code (3 : Nat) (Option.some Jvm.ClassFile.FieldType.boolean)) ∈ GW := q_mem 510 rfl rfl
set_option maxRecDepth 20000 in
theorem mw668 : (Jvm.Cond.methodLink "JobTerminalLaw" (79 : Nat) ({ cls := "JobTerminal", name := "hang", desc := "()Z" } : Jvm.MethodName)) ∈ GW := q_mem 507 rfl rfl
set_option maxRecDepth 20000 in
theorem mw669 : (Jvm.Cond.instanceMethod ({ cls := "JobTerminal", name := "hang", desc := "()Z" } : Jvm.MethodName)) ∈ GW := q_mem 508 rfl rfl
set_option maxRecDepth 20000 in
theorem mw670 : (Jvm.Cond.selects "JobTerminal" ({ cls := "JobTerminal", name := "hang", desc := "()Z" } : Jvm.MethodName) ({ cls := "JobTerminal", name := "hang", desc := "()Z" } : Jvm.MethodName)) ∈ GW := q_mem 509 rfl rfl
set_option maxRecDepth 20000 in
theorem mw671 : (Jvm.Cond.code ({ cls := "JobTerminalModel", name := "hang", desc := "()Z" } : Jvm.MethodName) prog_9_method_28_code (3 : Nat) (Option.some Jvm.ClassFile.FieldType.boolean)) ∈ GW := q_mem 902 rfl rfl
set_option maxRecDepth 20000 in
theorem mw672 : (Jvm.Cond.methodLink "JobTerminalLaw" (83 : Nat) ({ cls := "JobTerminalModel", name := "hang", desc := "()Z" } : Jvm.MethodName)) ∈ GW := q_mem 899 rfl rfl
set_option maxRecDepth 20000 in
theorem mw673 : (Jvm.Cond.instanceMethod ({ cls := "JobTerminalModel", name := "hang", desc := "()Z" } : Jvm.MethodName)) ∈ GW := q_mem 900 rfl rfl
set_option maxRecDepth 20000 in
theorem mw674 : (Jvm.Cond.selects "JobTerminalModel" ({ cls := "JobTerminalModel", name := "hang", desc := "()Z" } : Jvm.MethodName) ({ cls := "JobTerminalModel", name := "hang", desc := "()Z" } : Jvm.MethodName)) ∈ GW := q_mem 901 rfl rfl
set_option maxRecDepth 20000 in
theorem mw675 : (Jvm.Cond.code ({ cls := "JobTerminal", name := "foreground", desc := "()I" } : Jvm.MethodName) prog_1_method_13_code (1 : Nat) (Option.some Jvm.ClassFile.FieldType.int)) ∈ GW := q_mem 523 rfl rfl
set_option maxRecDepth 20000 in
theorem mw676 : (Jvm.Cond.methodLink "JobTerminalLaw" (84 : Nat) ({ cls := "JobTerminal", name := "foreground", desc := "()I" } : Jvm.MethodName)) ∈ GW := q_mem 520 rfl rfl
set_option maxRecDepth 20000 in
theorem mw677 : (Jvm.Cond.instanceMethod ({ cls := "JobTerminal", name := "foreground", desc := "()I" } : Jvm.MethodName)) ∈ GW := q_mem 521 rfl rfl
set_option maxRecDepth 20000 in
theorem mw678 : (Jvm.Cond.selects "JobTerminal" ({ cls := "JobTerminal", name := "foreground", desc := "()I" } : Jvm.MethodName) ({ cls := "JobTerminal", name := "foreground", desc := "()I" } : Jvm.MethodName)) ∈ GW := q_mem 522 rfl rfl
set_option maxRecDepth 20000 in
theorem mw679 : (Jvm.Cond.code ({ cls := "JobTerminalModel", name := "foreground", desc := "()I" } : Jvm.MethodName) prog_9_method_42_code (1 : Nat) (Option.some Jvm.ClassFile.FieldType.int)) ∈ GW := q_mem 958 rfl rfl
set_option maxRecDepth 20000 in
theorem mw680 : (Jvm.Cond.methodLink "JobTerminalLaw" (87 : Nat) ({ cls := "JobTerminalModel", name := "foreground", desc := "()I" } : Jvm.MethodName)) ∈ GW := q_mem 955 rfl rfl
set_option maxRecDepth 20000 in
theorem mw681 : (Jvm.Cond.instanceMethod ({ cls := "JobTerminalModel", name := "foreground", desc := "()I" } : Jvm.MethodName)) ∈ GW := q_mem 956 rfl rfl
set_option maxRecDepth 20000 in
theorem mw682 : (Jvm.Cond.selects "JobTerminalModel" ({ cls := "JobTerminalModel", name := "foreground", desc := "()I" } : Jvm.MethodName) ({ cls := "JobTerminalModel", name := "foreground", desc := "()I" } : Jvm.MethodName)) ∈ GW := q_mem 957 rfl rfl
set_option maxRecDepth 20000 in
theorem mw683 : (Jvm.Cond.code ({ cls := "JobTerminal", name := "job", desc := "(I)I" } : Jvm.MethodName) prog_1_method_14_code (3 : Nat) (Option.some Jvm.ClassFile.FieldType.int)) ∈ GW := q_mem 527 rfl rfl
set_option maxRecDepth 20000 in
theorem mw684 : (Jvm.Cond.methodLink "JobTerminalLaw" (88 : Nat) ({ cls := "JobTerminal", name := "job", desc := "(I)I" } : Jvm.MethodName)) ∈ GW := q_mem 524 rfl rfl
set_option maxRecDepth 20000 in
theorem mw685 : (Jvm.Cond.instanceMethod ({ cls := "JobTerminal", name := "job", desc := "(I)I" } : Jvm.MethodName)) ∈ GW := q_mem 525 rfl rfl
set_option maxRecDepth 20000 in
theorem mw686 : (Jvm.Cond.selects "JobTerminal" ({ cls := "JobTerminal", name := "job", desc := "(I)I" } : Jvm.MethodName) ({ cls := "JobTerminal", name := "job", desc := "(I)I" } : Jvm.MethodName)) ∈ GW := q_mem 526 rfl rfl
set_option maxRecDepth 20000 in
theorem mw687 : (Jvm.Cond.code ({ cls := "JobTerminalModel", name := "job", desc := "(I)I" } : Jvm.MethodName) prog_9_method_43_code (2 : Nat) (Option.some Jvm.ClassFile.FieldType.int)) ∈ GW := q_mem 962 rfl rfl
set_option maxRecDepth 20000 in
theorem mw688 : (Jvm.Cond.methodLink "JobTerminalLaw" (91 : Nat) ({ cls := "JobTerminalModel", name := "job", desc := "(I)I" } : Jvm.MethodName)) ∈ GW := q_mem 959 rfl rfl
set_option maxRecDepth 20000 in
theorem mw689 : (Jvm.Cond.instanceMethod ({ cls := "JobTerminalModel", name := "job", desc := "(I)I" } : Jvm.MethodName)) ∈ GW := q_mem 960 rfl rfl
set_option maxRecDepth 20000 in
theorem mw690 : (Jvm.Cond.selects "JobTerminalModel" ({ cls := "JobTerminalModel", name := "job", desc := "(I)I" } : Jvm.MethodName) ({ cls := "JobTerminalModel", name := "job", desc := "(I)I" } : Jvm.MethodName)) ∈ GW := q_mem 961 rfl rfl
set_option maxRecDepth 20000 in
theorem mw691 : (Jvm.Cond.code ({ cls := "JobTerminal", name := "process", desc := "(II)I" } : Jvm.MethodName) prog_1_method_15_code (3 : Nat) (Option.some Jvm.ClassFile.FieldType.int)) ∈ GW := q_mem 535 rfl rfl
set_option maxRecDepth 20000 in
theorem mw692 : (Jvm.Cond.methodLink "JobTerminalLaw" (92 : Nat) ({ cls := "JobTerminal", name := "process", desc := "(II)I" } : Jvm.MethodName)) ∈ GW := q_mem 532 rfl rfl
set_option maxRecDepth 20000 in
theorem mw693 : (Jvm.Cond.instanceMethod ({ cls := "JobTerminal", name := "process", desc := "(II)I" } : Jvm.MethodName)) ∈ GW := q_mem 533 rfl rfl
set_option maxRecDepth 20000 in
theorem mw694 : (Jvm.Cond.selects "JobTerminal" ({ cls := "JobTerminal", name := "process", desc := "(II)I" } : Jvm.MethodName) ({ cls := "JobTerminal", name := "process", desc := "(II)I" } : Jvm.MethodName)) ∈ GW := q_mem 534 rfl rfl
set_option maxRecDepth 20000 in
theorem mw695 : (Jvm.Cond.code ({ cls := "JobTerminalModel", name := "process", desc := "(II)I" } : Jvm.MethodName) prog_9_method_44_code (3 : Nat) (Option.some Jvm.ClassFile.FieldType.int)) ∈ GW := q_mem 966 rfl rfl
set_option maxRecDepth 20000 in
theorem mw696 : (Jvm.Cond.methodLink "JobTerminalLaw" (95 : Nat) ({ cls := "JobTerminalModel", name := "process", desc := "(II)I" } : Jvm.MethodName)) ∈ GW := q_mem 963 rfl rfl
set_option maxRecDepth 20000 in
theorem mw697 : (Jvm.Cond.instanceMethod ({ cls := "JobTerminalModel", name := "process", desc := "(II)I" } : Jvm.MethodName)) ∈ GW := q_mem 964 rfl rfl
set_option maxRecDepth 20000 in
theorem mw698 : (Jvm.Cond.selects "JobTerminalModel" ({ cls := "JobTerminalModel", name := "process", desc := "(II)I" } : Jvm.MethodName) ({ cls := "JobTerminalModel", name := "process", desc := "(II)I" } : Jvm.MethodName)) ∈ GW := q_mem 965 rfl rfl
set_option maxRecDepth 20000 in
theorem mw699 : (Jvm.Cond.code ({ cls := "JobTerminal", name := "shown", desc := "()I" } : Jvm.MethodName) prog_1_method_16_code (1 : Nat) (Option.some Jvm.ClassFile.FieldType.int)) ∈ GW := q_mem 543 rfl rfl
set_option maxRecDepth 20000 in
theorem mw700 : (Jvm.Cond.methodLink "JobTerminalLaw" (96 : Nat) ({ cls := "JobTerminal", name := "shown", desc := "()I" } : Jvm.MethodName)) ∈ GW := q_mem 540 rfl rfl
set_option maxRecDepth 20000 in
theorem mw701 : (Jvm.Cond.instanceMethod ({ cls := "JobTerminal", name := "shown", desc := "()I" } : Jvm.MethodName)) ∈ GW := q_mem 541 rfl rfl
set_option maxRecDepth 20000 in
theorem mw702 : (Jvm.Cond.selects "JobTerminal" ({ cls := "JobTerminal", name := "shown", desc := "()I" } : Jvm.MethodName) ({ cls := "JobTerminal", name := "shown", desc := "()I" } : Jvm.MethodName)) ∈ GW := q_mem 542 rfl rfl
set_option maxRecDepth 20000 in
theorem mw703 : (Jvm.Cond.code ({ cls := "JobTerminalModel", name := "shown", desc := "()I" } : Jvm.MethodName) prog_9_method_45_code (1 : Nat) (Option.some Jvm.ClassFile.FieldType.int)) ∈ GW := q_mem 970 rfl rfl
set_option maxRecDepth 20000 in
theorem mw704 : (Jvm.Cond.methodLink "JobTerminalLaw" (99 : Nat) ({ cls := "JobTerminalModel", name := "shown", desc := "()I" } : Jvm.MethodName)) ∈ GW := q_mem 967 rfl rfl
set_option maxRecDepth 20000 in
theorem mw705 : (Jvm.Cond.instanceMethod ({ cls := "JobTerminalModel", name := "shown", desc := "()I" } : Jvm.MethodName)) ∈ GW := q_mem 968 rfl rfl
set_option maxRecDepth 20000 in
theorem mw706 : (Jvm.Cond.selects "JobTerminalModel" ({ cls := "JobTerminalModel", name := "shown", desc := "()I" } : Jvm.MethodName) ({ cls := "JobTerminalModel", name := "shown", desc := "()I" } : Jvm.MethodName)) ∈ GW := q_mem 969 rfl rfl
set_option maxRecDepth 20000 in
theorem mw707 : (Jvm.Cond.code ({ cls := "JobTerminal", name := "screen", desc := "(I)I" } : Jvm.MethodName) prog_1_method_17_code (2 : Nat) (Option.some Jvm.ClassFile.FieldType.int)) ∈ GW := q_mem 547 rfl rfl
set_option maxRecDepth 20000 in
theorem mw708 : (Jvm.Cond.methodLink "JobTerminalLaw" (100 : Nat) ({ cls := "JobTerminal", name := "screen", desc := "(I)I" } : Jvm.MethodName)) ∈ GW := q_mem 544 rfl rfl
set_option maxRecDepth 20000 in
theorem mw709 : (Jvm.Cond.instanceMethod ({ cls := "JobTerminal", name := "screen", desc := "(I)I" } : Jvm.MethodName)) ∈ GW := q_mem 545 rfl rfl
set_option maxRecDepth 20000 in
theorem mw710 : (Jvm.Cond.selects "JobTerminal" ({ cls := "JobTerminal", name := "screen", desc := "(I)I" } : Jvm.MethodName) ({ cls := "JobTerminal", name := "screen", desc := "(I)I" } : Jvm.MethodName)) ∈ GW := q_mem 546 rfl rfl
set_option maxRecDepth 20000 in
theorem mw711 : (Jvm.Cond.code ({ cls := "JobTerminalModel", name := "screen", desc := "(I)I" } : Jvm.MethodName) prog_9_method_46_code (2 : Nat) (Option.some Jvm.ClassFile.FieldType.int)) ∈ GW := q_mem 974 rfl rfl
set_option maxRecDepth 20000 in
theorem mw712 : (Jvm.Cond.methodLink "JobTerminalLaw" (103 : Nat) ({ cls := "JobTerminalModel", name := "screen", desc := "(I)I" } : Jvm.MethodName)) ∈ GW := q_mem 971 rfl rfl
set_option maxRecDepth 20000 in
theorem mw713 : (Jvm.Cond.instanceMethod ({ cls := "JobTerminalModel", name := "screen", desc := "(I)I" } : Jvm.MethodName)) ∈ GW := q_mem 972 rfl rfl
set_option maxRecDepth 20000 in
theorem mw714 : (Jvm.Cond.selects "JobTerminalModel" ({ cls := "JobTerminalModel", name := "screen", desc := "(I)I" } : Jvm.MethodName) ({ cls := "JobTerminalModel", name := "screen", desc := "(I)I" } : Jvm.MethodName)) ∈ GW := q_mem 973 rfl rfl
set_option maxRecDepth 20000 in
theorem mw715 : (Jvm.Cond.code ({ cls := "JobTerminal", name := "held", desc := "(I)I" } : Jvm.MethodName) prog_1_method_18_code (3 : Nat) (Option.some Jvm.ClassFile.FieldType.int)) ∈ GW := q_mem 555 rfl rfl
set_option maxRecDepth 20000 in
theorem mw716 : (Jvm.Cond.methodLink "JobTerminalLaw" (104 : Nat) ({ cls := "JobTerminal", name := "held", desc := "(I)I" } : Jvm.MethodName)) ∈ GW := q_mem 552 rfl rfl
set_option maxRecDepth 20000 in
theorem mw717 : (Jvm.Cond.instanceMethod ({ cls := "JobTerminal", name := "held", desc := "(I)I" } : Jvm.MethodName)) ∈ GW := q_mem 553 rfl rfl
set_option maxRecDepth 20000 in
theorem mw718 : (Jvm.Cond.selects "JobTerminal" ({ cls := "JobTerminal", name := "held", desc := "(I)I" } : Jvm.MethodName) ({ cls := "JobTerminal", name := "held", desc := "(I)I" } : Jvm.MethodName)) ∈ GW := q_mem 554 rfl rfl
set_option maxRecDepth 20000 in
theorem mw719 : (Jvm.Cond.code ({ cls := "JobTerminalModel", name := "held", desc := "(I)I" } : Jvm.MethodName) prog_9_method_47_code (3 : Nat) (Option.some Jvm.ClassFile.FieldType.int)) ∈ GW := q_mem 978 rfl rfl
set_option maxRecDepth 20000 in
theorem mw720 : (Jvm.Cond.methodLink "JobTerminalLaw" (107 : Nat) ({ cls := "JobTerminalModel", name := "held", desc := "(I)I" } : Jvm.MethodName)) ∈ GW := q_mem 975 rfl rfl
set_option maxRecDepth 20000 in
theorem mw721 : (Jvm.Cond.instanceMethod ({ cls := "JobTerminalModel", name := "held", desc := "(I)I" } : Jvm.MethodName)) ∈ GW := q_mem 976 rfl rfl
set_option maxRecDepth 20000 in
theorem mw722 : (Jvm.Cond.selects "JobTerminalModel" ({ cls := "JobTerminalModel", name := "held", desc := "(I)I" } : Jvm.MethodName) ({ cls := "JobTerminalModel", name := "held", desc := "(I)I" } : Jvm.MethodName)) ∈ GW := q_mem 977 rfl rfl
theorem q_go {L i : Nat} (hL : L < 2 ^ 30) (hi : 5 * i < 2 ^ 30) (h : ¬ (Int32.ofNat L - 5 < nI (5 * i))) : 5 * i + 5 ≤ L := by
  have h1 : (nI L - nI 5).toInt = (L : Int) - 5 := pk_sub_toInt hL (by decide)
  have h2 : ¬ (nI L - nI 5 < nI (5 * i)) := h
  rw [Int32.lt_iff_toInt_lt, h1, nI_toInt (by omega)] at h2
  omega
theorem d_La_law_0 : decode code 0 = .ok (.new 8, 3) := by decide +kernel
theorem d_La_law_3 : decode code 3 = .ok (.dup, 1) := by decide +kernel
theorem d_La_law_4 : decode code 4 = .ok (.invokespecial 28, 3) := by decide +kernel
theorem d_La_law_7 : decode code 7 = .ok (.astore_n 1, 1) := by decide +kernel
theorem d_La_law_8 : decode code 8 = .ok (.new 29, 3) := by decide +kernel
theorem d_La_law_11 : decode code 11 = .ok (.dup, 1) := by decide +kernel
theorem d_La_law_12 : decode code 12 = .ok (.invokespecial 31, 3) := by decide +kernel
theorem d_La_law_15 : decode code 15 = .ok (.astore_n 2, 1) := by decide +kernel
theorem d_La_law_16 : decode code 16 = .ok (.iconst 1, 1) := by decide +kernel
theorem d_La_law_17 : decode code 17 = .ok (.newarray .long, 2) := by decide +kernel
theorem d_La_law_19 : decode code 19 = .ok (.astore_n 3, 1) := by decide +kernel
theorem d_La_law_20 : decode code 20 = .ok (.iconst 0, 1) := by decide +kernel
theorem d_La_law_21 : decode code 21 = .ok (.istore 4, 2) := by decide +kernel
theorem d_La_law_23 : decode code 23 = .ok (.iload 4, 2) := by decide +kernel
theorem d_La_law_25 : decode code 25 = .ok (.aload_n 0, 1) := by decide +kernel
theorem d_La_law_26 : decode code 26 = .ok (.arraylength, 1) := by decide +kernel
theorem d_La_law_27 : decode code 27 = .ok (.iconst 5, 1) := by decide +kernel
theorem d_La_law_28 : decode code 28 = .ok (.isub, 1) := by decide +kernel
theorem d_La_law_29 : decode code 29 = .ok (.if_icmp .gt 688, 3) := by decide +kernel
theorem d_La_law_32 : decode code 32 = .ok (.aload_n 0, 1) := by decide +kernel
theorem d_La_law_33 : decode code 33 = .ok (.iload 4, 2) := by decide +kernel
theorem d_La_law_35 : decode code 35 = .ok (.iaload, 1) := by decide +kernel
theorem d_La_law_36 : decode code 36 = .ok (.bipush 31, 2) := by decide +kernel
theorem d_La_law_38 : decode code 38 = .ok (.iand, 1) := by decide +kernel
theorem d_La_law_39 : decode code 39 = .ok (.tableswitch 672 0 16 #[81, 142, 167, 194, 290, 346, 402, 470, 483, 508, 521, 534, 547, 572, 609, 622, 647], 81) := by decide +kernel
theorem d_La_law_120 : decode code 120 = .ok (.aload_n 1, 1) := by decide +kernel
theorem d_La_law_121 : decode code 121 = .ok (.aload_n 0, 1) := by decide +kernel
theorem d_La_law_122 : decode code 122 = .ok (.iload 4, 2) := by decide +kernel
theorem d_La_law_124 : decode code 124 = .ok (.iconst 1, 1) := by decide +kernel
theorem d_La_law_125 : decode code 125 = .ok (.iadd, 1) := by decide +kernel
theorem d_La_law_126 : decode code 126 = .ok (.iaload, 1) := by decide +kernel
theorem d_La_law_127 : decode code 127 = .ok (.aload_n 0, 1) := by decide +kernel
theorem d_La_law_128 : decode code 128 = .ok (.iload 4, 2) := by decide +kernel
theorem d_La_law_130 : decode code 130 = .ok (.iconst 2, 1) := by decide +kernel
theorem d_La_law_131 : decode code 131 = .ok (.iadd, 1) := by decide +kernel
theorem d_La_law_132 : decode code 132 = .ok (.iaload, 1) := by decide +kernel
theorem d_La_law_133 : decode code 133 = .ok (.aload_n 0, 1) := by decide +kernel
theorem d_La_law_134 : decode code 134 = .ok (.iload 4, 2) := by decide +kernel
theorem d_La_law_136 : decode code 136 = .ok (.iconst 3, 1) := by decide +kernel
theorem d_La_law_137 : decode code 137 = .ok (.iadd, 1) := by decide +kernel
theorem d_La_law_138 : decode code 138 = .ok (.iaload, 1) := by decide +kernel
theorem d_La_law_139 : decode code 139 = .ok (.aload_n 0, 1) := by decide +kernel
theorem d_La_law_140 : decode code 140 = .ok (.iload 4, 2) := by decide +kernel
theorem d_La_law_142 : decode code 142 = .ok (.iconst 4, 1) := by decide +kernel
theorem d_La_law_143 : decode code 143 = .ok (.iadd, 1) := by decide +kernel
theorem d_La_law_144 : decode code 144 = .ok (.iaload, 1) := by decide +kernel
theorem d_La_law_145 : decode code 145 = .ok (.invokevirtual 32, 3) := by decide +kernel
theorem d_La_law_148 : decode code 148 = .ok (.aload_n 2, 1) := by decide +kernel
theorem d_La_law_149 : decode code 149 = .ok (.aload_n 0, 1) := by decide +kernel
theorem d_La_law_150 : decode code 150 = .ok (.iload 4, 2) := by decide +kernel
theorem d_La_law_152 : decode code 152 = .ok (.iconst 1, 1) := by decide +kernel
theorem d_La_law_153 : decode code 153 = .ok (.iadd, 1) := by decide +kernel
theorem d_La_law_154 : decode code 154 = .ok (.iaload, 1) := by decide +kernel
theorem d_La_law_155 : decode code 155 = .ok (.aload_n 0, 1) := by decide +kernel
theorem d_La_law_156 : decode code 156 = .ok (.iload 4, 2) := by decide +kernel
theorem d_La_law_158 : decode code 158 = .ok (.iconst 2, 1) := by decide +kernel
theorem d_La_law_159 : decode code 159 = .ok (.iadd, 1) := by decide +kernel
theorem d_La_law_160 : decode code 160 = .ok (.iaload, 1) := by decide +kernel
theorem d_La_law_161 : decode code 161 = .ok (.aload_n 0, 1) := by decide +kernel
theorem d_La_law_162 : decode code 162 = .ok (.iload 4, 2) := by decide +kernel
theorem d_La_law_164 : decode code 164 = .ok (.iconst 3, 1) := by decide +kernel
theorem d_La_law_165 : decode code 165 = .ok (.iadd, 1) := by decide +kernel
theorem d_La_law_166 : decode code 166 = .ok (.iaload, 1) := by decide +kernel
theorem d_La_law_167 : decode code 167 = .ok (.aload_n 0, 1) := by decide +kernel
theorem d_La_law_168 : decode code 168 = .ok (.iload 4, 2) := by decide +kernel
theorem d_La_law_170 : decode code 170 = .ok (.iconst 4, 1) := by decide +kernel
theorem d_La_law_171 : decode code 171 = .ok (.iadd, 1) := by decide +kernel
theorem d_La_law_172 : decode code 172 = .ok (.iaload, 1) := by decide +kernel
theorem d_La_law_173 : decode code 173 = .ok (.invokevirtual 36, 3) := by decide +kernel
theorem d_La_law_176 : decode code 176 = .ok (.if_icmp .eq 535, 3) := by decide +kernel
theorem d_La_law_179 : decode code 179 = .ok (.iconst 0, 1) := by decide +kernel
theorem d_La_law_180 : decode code 180 = .ok (.ireturn, 1) := by decide +kernel
theorem d_La_law_181 : decode code 181 = .ok (.aload_n 1, 1) := by decide +kernel
theorem d_La_law_182 : decode code 182 = .ok (.aload_n 0, 1) := by decide +kernel
theorem d_La_law_183 : decode code 183 = .ok (.iload 4, 2) := by decide +kernel
theorem d_La_law_185 : decode code 185 = .ok (.iconst 1, 1) := by decide +kernel
theorem d_La_law_186 : decode code 186 = .ok (.iadd, 1) := by decide +kernel
theorem d_La_law_187 : decode code 187 = .ok (.iaload, 1) := by decide +kernel
theorem d_La_law_188 : decode code 188 = .ok (.invokevirtual 37, 3) := by decide +kernel
theorem d_La_law_191 : decode code 191 = .ok (.aload_n 2, 1) := by decide +kernel
theorem d_La_law_192 : decode code 192 = .ok (.aload_n 0, 1) := by decide +kernel
theorem d_La_law_193 : decode code 193 = .ok (.iload 4, 2) := by decide +kernel
theorem d_La_law_195 : decode code 195 = .ok (.iconst 1, 1) := by decide +kernel
theorem d_La_law_196 : decode code 196 = .ok (.iadd, 1) := by decide +kernel
theorem d_La_law_197 : decode code 197 = .ok (.iaload, 1) := by decide +kernel
theorem d_La_law_198 : decode code 198 = .ok (.invokevirtual 40, 3) := by decide +kernel
theorem d_La_law_201 : decode code 201 = .ok (.if_icmp .eq 510, 3) := by decide +kernel
theorem d_La_law_204 : decode code 204 = .ok (.iconst 0, 1) := by decide +kernel
theorem d_La_law_205 : decode code 205 = .ok (.ireturn, 1) := by decide +kernel
theorem d_La_law_206 : decode code 206 = .ok (.aload_n 1, 1) := by decide +kernel
theorem d_La_law_207 : decode code 207 = .ok (.aload_n 0, 1) := by decide +kernel
theorem d_La_law_208 : decode code 208 = .ok (.iload 4, 2) := by decide +kernel
theorem d_La_law_210 : decode code 210 = .ok (.iconst 1, 1) := by decide +kernel
theorem d_La_law_211 : decode code 211 = .ok (.iadd, 1) := by decide +kernel
theorem d_La_law_212 : decode code 212 = .ok (.iaload, 1) := by decide +kernel
theorem d_La_law_213 : decode code 213 = .ok (.i2c, 1) := by decide +kernel
theorem d_La_law_214 : decode code 214 = .ok (.invokevirtual 41, 3) := by decide +kernel
theorem d_La_law_217 : decode code 217 = .ok (.aload_n 2, 1) := by decide +kernel
theorem d_La_law_218 : decode code 218 = .ok (.aload_n 0, 1) := by decide +kernel
theorem d_La_law_219 : decode code 219 = .ok (.iload 4, 2) := by decide +kernel
theorem d_La_law_221 : decode code 221 = .ok (.iconst 1, 1) := by decide +kernel
theorem d_La_law_222 : decode code 222 = .ok (.iadd, 1) := by decide +kernel
theorem d_La_law_223 : decode code 223 = .ok (.iaload, 1) := by decide +kernel
theorem d_La_law_224 : decode code 224 = .ok (.i2c, 1) := by decide +kernel
theorem d_La_law_225 : decode code 225 = .ok (.invokevirtual 45, 3) := by decide +kernel
theorem d_La_law_228 : decode code 228 = .ok (.if_icmp .eq 483, 3) := by decide +kernel
theorem d_La_law_231 : decode code 231 = .ok (.iconst 0, 1) := by decide +kernel
theorem d_La_law_232 : decode code 232 = .ok (.ireturn, 1) := by decide +kernel
theorem d_La_law_233 : decode code 233 = .ok (.aload_n 1, 1) := by decide +kernel
theorem d_La_law_234 : decode code 234 = .ok (.aload_n 0, 1) := by decide +kernel
theorem d_La_law_235 : decode code 235 = .ok (.iload 4, 2) := by decide +kernel
theorem d_La_law_237 : decode code 237 = .ok (.iconst 1, 1) := by decide +kernel
theorem d_La_law_238 : decode code 238 = .ok (.iadd, 1) := by decide +kernel
theorem d_La_law_239 : decode code 239 = .ok (.iaload, 1) := by decide +kernel
theorem d_La_law_240 : decode code 240 = .ok (.aload_n 0, 1) := by decide +kernel
theorem d_La_law_241 : decode code 241 = .ok (.iload 4, 2) := by decide +kernel
theorem d_La_law_243 : decode code 243 = .ok (.iconst 2, 1) := by decide +kernel
theorem d_La_law_244 : decode code 244 = .ok (.iadd, 1) := by decide +kernel
theorem d_La_law_245 : decode code 245 = .ok (.iaload, 1) := by decide +kernel
theorem d_La_law_246 : decode code 246 = .ok (.aload_n 0, 1) := by decide +kernel
theorem d_La_law_247 : decode code 247 = .ok (.iload 4, 2) := by decide +kernel
theorem d_La_law_249 : decode code 249 = .ok (.iconst 3, 1) := by decide +kernel
theorem d_La_law_250 : decode code 250 = .ok (.iadd, 1) := by decide +kernel
theorem d_La_law_251 : decode code 251 = .ok (.iaload, 1) := by decide +kernel
theorem d_La_law_252 : decode code 252 = .ok (.ifCond .eq 7, 3) := by decide +kernel
theorem d_La_law_255 : decode code 255 = .ok (.iconst 1, 1) := by decide +kernel
theorem d_La_law_256 : decode code 256 = .ok (.goto 4, 3) := by decide +kernel
theorem d_La_law_259 : decode code 259 = .ok (.iconst 0, 1) := by decide +kernel
theorem d_La_law_260 : decode code 260 = .ok (.aload_n 3, 1) := by decide +kernel
theorem d_La_law_261 : decode code 261 = .ok (.invokestatic 46, 3) := by decide +kernel
theorem d_La_law_264 : decode code 264 = .ok (.istore 5, 2) := by decide +kernel
theorem d_La_law_266 : decode code 266 = .ok (.aload_n 2, 1) := by decide +kernel
theorem d_La_law_267 : decode code 267 = .ok (.aload_n 0, 1) := by decide +kernel
theorem d_La_law_268 : decode code 268 = .ok (.iload 4, 2) := by decide +kernel
theorem d_La_law_270 : decode code 270 = .ok (.iconst 1, 1) := by decide +kernel
theorem d_La_law_271 : decode code 271 = .ok (.iadd, 1) := by decide +kernel
theorem d_La_law_272 : decode code 272 = .ok (.iaload, 1) := by decide +kernel
theorem d_La_law_273 : decode code 273 = .ok (.aload_n 0, 1) := by decide +kernel
theorem d_La_law_274 : decode code 274 = .ok (.iload 4, 2) := by decide +kernel
theorem d_La_law_276 : decode code 276 = .ok (.iconst 2, 1) := by decide +kernel
theorem d_La_law_277 : decode code 277 = .ok (.iadd, 1) := by decide +kernel
theorem d_La_law_278 : decode code 278 = .ok (.iaload, 1) := by decide +kernel
theorem d_La_law_279 : decode code 279 = .ok (.aload_n 0, 1) := by decide +kernel
theorem d_La_law_280 : decode code 280 = .ok (.iload 4, 2) := by decide +kernel
theorem d_La_law_282 : decode code 282 = .ok (.iconst 3, 1) := by decide +kernel
theorem d_La_law_283 : decode code 283 = .ok (.iadd, 1) := by decide +kernel
theorem d_La_law_284 : decode code 284 = .ok (.iaload, 1) := by decide +kernel
theorem d_La_law_285 : decode code 285 = .ok (.ifCond .eq 7, 3) := by decide +kernel
theorem d_La_law_288 : decode code 288 = .ok (.iconst 1, 1) := by decide +kernel
theorem d_La_law_289 : decode code 289 = .ok (.goto 4, 3) := by decide +kernel
theorem d_La_law_292 : decode code 292 = .ok (.iconst 0, 1) := by decide +kernel
theorem d_La_law_293 : decode code 293 = .ok (.invokevirtual 51, 3) := by decide +kernel
theorem d_La_law_296 : decode code 296 = .ok (.istore 6, 2) := by decide +kernel
theorem d_La_law_298 : decode code 298 = .ok (.aload_n 2, 1) := by decide +kernel
theorem d_La_law_299 : decode code 299 = .ok (.invokevirtual 52, 3) := by decide +kernel
theorem d_La_law_302 : decode code 302 = .ok (.iload 5, 2) := by decide +kernel
theorem d_La_law_304 : decode code 304 = .ok (.if_icmp .eq 5, 3) := by decide +kernel
theorem d_La_law_307 : decode code 307 = .ok (.iconst 0, 1) := by decide +kernel
theorem d_La_law_308 : decode code 308 = .ok (.ireturn, 1) := by decide +kernel
theorem d_La_law_309 : decode code 309 = .ok (.iload 5, 2) := by decide +kernel
theorem d_La_law_311 : decode code 311 = .ok (.ifCond .ne 15, 3) := by decide +kernel
theorem d_La_law_314 : decode code 314 = .ok (.aload_n 3, 1) := by decide +kernel
theorem d_La_law_315 : decode code 315 = .ok (.iconst 0, 1) := by decide +kernel
theorem d_La_law_316 : decode code 316 = .ok (.laload, 1) := by decide +kernel
theorem d_La_law_317 : decode code 317 = .ok (.iload 6, 2) := by decide +kernel
theorem d_La_law_319 : decode code 319 = .ok (.i2l, 1) := by decide +kernel
theorem d_La_law_320 : decode code 320 = .ok (.lcmp, 1) := by decide +kernel
theorem d_La_law_321 : decode code 321 = .ok (.ifCond .eq 5, 3) := by decide +kernel
theorem d_La_law_324 : decode code 324 = .ok (.iconst 0, 1) := by decide +kernel
theorem d_La_law_325 : decode code 325 = .ok (.ireturn, 1) := by decide +kernel
theorem d_La_law_326 : decode code 326 = .ok (.goto 385, 3) := by decide +kernel
theorem d_La_law_329 : decode code 329 = .ok (.aload_n 1, 1) := by decide +kernel
theorem d_La_law_330 : decode code 330 = .ok (.aload_n 0, 1) := by decide +kernel
theorem d_La_law_331 : decode code 331 = .ok (.iload 4, 2) := by decide +kernel
theorem d_La_law_333 : decode code 333 = .ok (.iconst 1, 1) := by decide +kernel
theorem d_La_law_334 : decode code 334 = .ok (.iadd, 1) := by decide +kernel
theorem d_La_law_335 : decode code 335 = .ok (.iaload, 1) := by decide +kernel
theorem d_La_law_336 : decode code 336 = .ok (.aload_n 3, 1) := by decide +kernel
theorem d_La_law_337 : decode code 337 = .ok (.invokestatic 56, 3) := by decide +kernel
theorem d_La_law_340 : decode code 340 = .ok (.istore 5, 2) := by decide +kernel
theorem d_La_law_342 : decode code 342 = .ok (.aload_n 2, 1) := by decide +kernel
theorem d_La_law_343 : decode code 343 = .ok (.aload_n 0, 1) := by decide +kernel
theorem d_La_law_344 : decode code 344 = .ok (.iload 4, 2) := by decide +kernel
theorem d_La_law_346 : decode code 346 = .ok (.iconst 1, 1) := by decide +kernel
theorem d_La_law_347 : decode code 347 = .ok (.iadd, 1) := by decide +kernel
theorem d_La_law_348 : decode code 348 = .ok (.iaload, 1) := by decide +kernel
theorem d_La_law_349 : decode code 349 = .ok (.invokevirtual 59, 3) := by decide +kernel
theorem d_La_law_352 : decode code 352 = .ok (.istore 6, 2) := by decide +kernel
theorem d_La_law_354 : decode code 354 = .ok (.aload_n 2, 1) := by decide +kernel
theorem d_La_law_355 : decode code 355 = .ok (.invokevirtual 52, 3) := by decide +kernel
theorem d_La_law_358 : decode code 358 = .ok (.iload 5, 2) := by decide +kernel
theorem d_La_law_360 : decode code 360 = .ok (.if_icmp .eq 5, 3) := by decide +kernel
theorem d_La_law_363 : decode code 363 = .ok (.iconst 0, 1) := by decide +kernel
theorem d_La_law_364 : decode code 364 = .ok (.ireturn, 1) := by decide +kernel
theorem d_La_law_365 : decode code 365 = .ok (.iload 5, 2) := by decide +kernel
theorem d_La_law_367 : decode code 367 = .ok (.ifCond .ne 15, 3) := by decide +kernel
theorem d_La_law_370 : decode code 370 = .ok (.aload_n 3, 1) := by decide +kernel
theorem d_La_law_371 : decode code 371 = .ok (.iconst 0, 1) := by decide +kernel
theorem d_La_law_372 : decode code 372 = .ok (.laload, 1) := by decide +kernel
theorem d_La_law_373 : decode code 373 = .ok (.iload 6, 2) := by decide +kernel
theorem d_La_law_375 : decode code 375 = .ok (.i2l, 1) := by decide +kernel
theorem d_La_law_376 : decode code 376 = .ok (.lcmp, 1) := by decide +kernel
theorem d_La_law_377 : decode code 377 = .ok (.ifCond .eq 5, 3) := by decide +kernel
theorem d_La_law_380 : decode code 380 = .ok (.iconst 0, 1) := by decide +kernel
theorem d_La_law_381 : decode code 381 = .ok (.ireturn, 1) := by decide +kernel
theorem d_La_law_382 : decode code 382 = .ok (.goto 329, 3) := by decide +kernel
theorem d_La_law_385 : decode code 385 = .ok (.aload_n 1, 1) := by decide +kernel
theorem d_La_law_386 : decode code 386 = .ok (.aload_n 0, 1) := by decide +kernel
theorem d_La_law_387 : decode code 387 = .ok (.iload 4, 2) := by decide +kernel
theorem d_La_law_389 : decode code 389 = .ok (.iconst 1, 1) := by decide +kernel
theorem d_La_law_390 : decode code 390 = .ok (.iadd, 1) := by decide +kernel
theorem d_La_law_391 : decode code 391 = .ok (.iaload, 1) := by decide +kernel
theorem d_La_law_392 : decode code 392 = .ok (.aload_n 3, 1) := by decide +kernel
theorem d_La_law_393 : decode code 393 = .ok (.invokestatic 60, 3) := by decide +kernel
theorem d_La_law_396 : decode code 396 = .ok (.istore 5, 2) := by decide +kernel
theorem d_La_law_398 : decode code 398 = .ok (.aload_n 2, 1) := by decide +kernel
theorem d_La_law_399 : decode code 399 = .ok (.aload_n 0, 1) := by decide +kernel
theorem d_La_law_400 : decode code 400 = .ok (.iload 4, 2) := by decide +kernel
theorem d_La_law_402 : decode code 402 = .ok (.iconst 1, 1) := by decide +kernel
theorem d_La_law_403 : decode code 403 = .ok (.iadd, 1) := by decide +kernel
theorem d_La_law_404 : decode code 404 = .ok (.iaload, 1) := by decide +kernel
theorem d_La_law_405 : decode code 405 = .ok (.invokevirtual 62, 3) := by decide +kernel
theorem d_La_law_408 : decode code 408 = .ok (.istore 6, 2) := by decide +kernel
theorem d_La_law_410 : decode code 410 = .ok (.aload_n 2, 1) := by decide +kernel
theorem d_La_law_411 : decode code 411 = .ok (.invokevirtual 52, 3) := by decide +kernel
theorem d_La_law_414 : decode code 414 = .ok (.iload 5, 2) := by decide +kernel
theorem d_La_law_416 : decode code 416 = .ok (.if_icmp .eq 5, 3) := by decide +kernel
theorem d_La_law_419 : decode code 419 = .ok (.iconst 0, 1) := by decide +kernel
theorem d_La_law_420 : decode code 420 = .ok (.ireturn, 1) := by decide +kernel
theorem d_La_law_421 : decode code 421 = .ok (.iload 5, 2) := by decide +kernel
theorem d_La_law_423 : decode code 423 = .ok (.ifCond .ne 15, 3) := by decide +kernel
theorem d_La_law_426 : decode code 426 = .ok (.aload_n 3, 1) := by decide +kernel
theorem d_La_law_427 : decode code 427 = .ok (.iconst 0, 1) := by decide +kernel
theorem d_La_law_428 : decode code 428 = .ok (.laload, 1) := by decide +kernel
theorem d_La_law_429 : decode code 429 = .ok (.iload 6, 2) := by decide +kernel
theorem d_La_law_431 : decode code 431 = .ok (.i2l, 1) := by decide +kernel
theorem d_La_law_432 : decode code 432 = .ok (.lcmp, 1) := by decide +kernel
theorem d_La_law_433 : decode code 433 = .ok (.ifCond .eq 5, 3) := by decide +kernel
theorem d_La_law_436 : decode code 436 = .ok (.iconst 0, 1) := by decide +kernel
theorem d_La_law_437 : decode code 437 = .ok (.ireturn, 1) := by decide +kernel
theorem d_La_law_438 : decode code 438 = .ok (.goto 273, 3) := by decide +kernel
theorem d_La_law_441 : decode code 441 = .ok (.aload_n 1, 1) := by decide +kernel
theorem d_La_law_442 : decode code 442 = .ok (.aload_n 0, 1) := by decide +kernel
theorem d_La_law_443 : decode code 443 = .ok (.iload 4, 2) := by decide +kernel
theorem d_La_law_445 : decode code 445 = .ok (.iconst 1, 1) := by decide +kernel
theorem d_La_law_446 : decode code 446 = .ok (.iadd, 1) := by decide +kernel
theorem d_La_law_447 : decode code 447 = .ok (.iaload, 1) := by decide +kernel
theorem d_La_law_448 : decode code 448 = .ok (.aload_n 0, 1) := by decide +kernel
theorem d_La_law_449 : decode code 449 = .ok (.iload 4, 2) := by decide +kernel
theorem d_La_law_451 : decode code 451 = .ok (.iconst 2, 1) := by decide +kernel
theorem d_La_law_452 : decode code 452 = .ok (.iadd, 1) := by decide +kernel
theorem d_La_law_453 : decode code 453 = .ok (.iaload, 1) := by decide +kernel
theorem d_La_law_454 : decode code 454 = .ok (.aload_n 3, 1) := by decide +kernel
theorem d_La_law_455 : decode code 455 = .ok (.invokestatic 63, 3) := by decide +kernel
theorem d_La_law_458 : decode code 458 = .ok (.istore 5, 2) := by decide +kernel
theorem d_La_law_460 : decode code 460 = .ok (.aload_n 2, 1) := by decide +kernel
theorem d_La_law_461 : decode code 461 = .ok (.aload_n 0, 1) := by decide +kernel
theorem d_La_law_462 : decode code 462 = .ok (.iload 4, 2) := by decide +kernel
theorem d_La_law_464 : decode code 464 = .ok (.iconst 1, 1) := by decide +kernel
theorem d_La_law_465 : decode code 465 = .ok (.iadd, 1) := by decide +kernel
theorem d_La_law_466 : decode code 466 = .ok (.iaload, 1) := by decide +kernel
theorem d_La_law_467 : decode code 467 = .ok (.aload_n 0, 1) := by decide +kernel
theorem d_La_law_468 : decode code 468 = .ok (.iload 4, 2) := by decide +kernel
theorem d_La_law_470 : decode code 470 = .ok (.iconst 2, 1) := by decide +kernel
theorem d_La_law_471 : decode code 471 = .ok (.iadd, 1) := by decide +kernel
theorem d_La_law_472 : decode code 472 = .ok (.iaload, 1) := by decide +kernel
theorem d_La_law_473 : decode code 473 = .ok (.invokevirtual 66, 3) := by decide +kernel
theorem d_La_law_476 : decode code 476 = .ok (.istore 6, 2) := by decide +kernel
theorem d_La_law_478 : decode code 478 = .ok (.aload_n 2, 1) := by decide +kernel
theorem d_La_law_479 : decode code 479 = .ok (.invokevirtual 52, 3) := by decide +kernel
theorem d_La_law_482 : decode code 482 = .ok (.iload 5, 2) := by decide +kernel
theorem d_La_law_484 : decode code 484 = .ok (.if_icmp .eq 5, 3) := by decide +kernel
theorem d_La_law_487 : decode code 487 = .ok (.iconst 0, 1) := by decide +kernel
theorem d_La_law_488 : decode code 488 = .ok (.ireturn, 1) := by decide +kernel
theorem d_La_law_489 : decode code 489 = .ok (.iload 5, 2) := by decide +kernel
theorem d_La_law_491 : decode code 491 = .ok (.ifCond .ne 15, 3) := by decide +kernel
theorem d_La_law_494 : decode code 494 = .ok (.aload_n 3, 1) := by decide +kernel
theorem d_La_law_495 : decode code 495 = .ok (.iconst 0, 1) := by decide +kernel
theorem d_La_law_496 : decode code 496 = .ok (.laload, 1) := by decide +kernel
theorem d_La_law_497 : decode code 497 = .ok (.iload 6, 2) := by decide +kernel
theorem d_La_law_499 : decode code 499 = .ok (.i2l, 1) := by decide +kernel
theorem d_La_law_500 : decode code 500 = .ok (.lcmp, 1) := by decide +kernel
theorem d_La_law_501 : decode code 501 = .ok (.ifCond .eq 5, 3) := by decide +kernel
theorem d_La_law_504 : decode code 504 = .ok (.iconst 0, 1) := by decide +kernel
theorem d_La_law_505 : decode code 505 = .ok (.ireturn, 1) := by decide +kernel
theorem d_La_law_506 : decode code 506 = .ok (.goto 205, 3) := by decide +kernel
theorem d_La_law_509 : decode code 509 = .ok (.aload_n 1, 1) := by decide +kernel
theorem d_La_law_510 : decode code 510 = .ok (.invokevirtual 67, 3) := by decide +kernel
theorem d_La_law_513 : decode code 513 = .ok (.aload_n 2, 1) := by decide +kernel
theorem d_La_law_514 : decode code 514 = .ok (.invokevirtual 70, 3) := by decide +kernel
theorem d_La_law_517 : decode code 517 = .ok (.if_icmp .eq 194, 3) := by decide +kernel
theorem d_La_law_520 : decode code 520 = .ok (.iconst 0, 1) := by decide +kernel
theorem d_La_law_521 : decode code 521 = .ok (.ireturn, 1) := by decide +kernel
theorem d_La_law_522 : decode code 522 = .ok (.aload_n 1, 1) := by decide +kernel
theorem d_La_law_523 : decode code 523 = .ok (.aload_n 0, 1) := by decide +kernel
theorem d_La_law_524 : decode code 524 = .ok (.iload 4, 2) := by decide +kernel
theorem d_La_law_526 : decode code 526 = .ok (.iconst 1, 1) := by decide +kernel
theorem d_La_law_527 : decode code 527 = .ok (.iadd, 1) := by decide +kernel
theorem d_La_law_528 : decode code 528 = .ok (.iaload, 1) := by decide +kernel
theorem d_La_law_529 : decode code 529 = .ok (.invokevirtual 71, 3) := by decide +kernel
theorem d_La_law_532 : decode code 532 = .ok (.aload_n 2, 1) := by decide +kernel
theorem d_La_law_533 : decode code 533 = .ok (.aload_n 0, 1) := by decide +kernel
theorem d_La_law_534 : decode code 534 = .ok (.iload 4, 2) := by decide +kernel
theorem d_La_law_536 : decode code 536 = .ok (.iconst 1, 1) := by decide +kernel
theorem d_La_law_537 : decode code 537 = .ok (.iadd, 1) := by decide +kernel
theorem d_La_law_538 : decode code 538 = .ok (.iaload, 1) := by decide +kernel
theorem d_La_law_539 : decode code 539 = .ok (.invokevirtual 74, 3) := by decide +kernel
theorem d_La_law_542 : decode code 542 = .ok (.if_icmp .eq 169, 3) := by decide +kernel
theorem d_La_law_545 : decode code 545 = .ok (.iconst 0, 1) := by decide +kernel
theorem d_La_law_546 : decode code 546 = .ok (.ireturn, 1) := by decide +kernel
theorem d_La_law_547 : decode code 547 = .ok (.aload_n 1, 1) := by decide +kernel
theorem d_La_law_548 : decode code 548 = .ok (.invokevirtual 75, 3) := by decide +kernel
theorem d_La_law_551 : decode code 551 = .ok (.aload_n 2, 1) := by decide +kernel
theorem d_La_law_552 : decode code 552 = .ok (.invokevirtual 78, 3) := by decide +kernel
theorem d_La_law_555 : decode code 555 = .ok (.if_icmp .eq 156, 3) := by decide +kernel
theorem d_La_law_558 : decode code 558 = .ok (.iconst 0, 1) := by decide +kernel
theorem d_La_law_559 : decode code 559 = .ok (.ireturn, 1) := by decide +kernel
theorem d_La_law_560 : decode code 560 = .ok (.aload_n 1, 1) := by decide +kernel
theorem d_La_law_561 : decode code 561 = .ok (.invokevirtual 79, 3) := by decide +kernel
theorem d_La_law_564 : decode code 564 = .ok (.aload_n 2, 1) := by decide +kernel
theorem d_La_law_565 : decode code 565 = .ok (.invokevirtual 83, 3) := by decide +kernel
theorem d_La_law_568 : decode code 568 = .ok (.if_icmp .eq 143, 3) := by decide +kernel
theorem d_La_law_571 : decode code 571 = .ok (.iconst 0, 1) := by decide +kernel
theorem d_La_law_572 : decode code 572 = .ok (.ireturn, 1) := by decide +kernel
theorem d_La_law_573 : decode code 573 = .ok (.aload_n 1, 1) := by decide +kernel
theorem d_La_law_574 : decode code 574 = .ok (.invokevirtual 84, 3) := by decide +kernel
theorem d_La_law_577 : decode code 577 = .ok (.aload_n 2, 1) := by decide +kernel
theorem d_La_law_578 : decode code 578 = .ok (.invokevirtual 87, 3) := by decide +kernel
theorem d_La_law_581 : decode code 581 = .ok (.if_icmp .eq 130, 3) := by decide +kernel
theorem d_La_law_584 : decode code 584 = .ok (.iconst 0, 1) := by decide +kernel
theorem d_La_law_585 : decode code 585 = .ok (.ireturn, 1) := by decide +kernel
theorem d_La_law_586 : decode code 586 = .ok (.aload_n 1, 1) := by decide +kernel
theorem d_La_law_587 : decode code 587 = .ok (.aload_n 0, 1) := by decide +kernel
theorem d_La_law_588 : decode code 588 = .ok (.iload 4, 2) := by decide +kernel
theorem d_La_law_590 : decode code 590 = .ok (.iconst 1, 1) := by decide +kernel
theorem d_La_law_591 : decode code 591 = .ok (.iadd, 1) := by decide +kernel
theorem d_La_law_592 : decode code 592 = .ok (.iaload, 1) := by decide +kernel
theorem d_La_law_593 : decode code 593 = .ok (.invokevirtual 88, 3) := by decide +kernel
theorem d_La_law_596 : decode code 596 = .ok (.aload_n 2, 1) := by decide +kernel
theorem d_La_law_597 : decode code 597 = .ok (.aload_n 0, 1) := by decide +kernel
theorem d_La_law_598 : decode code 598 = .ok (.iload 4, 2) := by decide +kernel
theorem d_La_law_600 : decode code 600 = .ok (.iconst 1, 1) := by decide +kernel
theorem d_La_law_601 : decode code 601 = .ok (.iadd, 1) := by decide +kernel
theorem d_La_law_602 : decode code 602 = .ok (.iaload, 1) := by decide +kernel
theorem d_La_law_603 : decode code 603 = .ok (.invokevirtual 91, 3) := by decide +kernel
theorem d_La_law_606 : decode code 606 = .ok (.if_icmp .eq 105, 3) := by decide +kernel
theorem d_La_law_609 : decode code 609 = .ok (.iconst 0, 1) := by decide +kernel
theorem d_La_law_610 : decode code 610 = .ok (.ireturn, 1) := by decide +kernel
theorem d_La_law_611 : decode code 611 = .ok (.aload_n 1, 1) := by decide +kernel
theorem d_La_law_612 : decode code 612 = .ok (.aload_n 0, 1) := by decide +kernel
theorem d_La_law_613 : decode code 613 = .ok (.iload 4, 2) := by decide +kernel
theorem d_La_law_615 : decode code 615 = .ok (.iconst 1, 1) := by decide +kernel
theorem d_La_law_616 : decode code 616 = .ok (.iadd, 1) := by decide +kernel
theorem d_La_law_617 : decode code 617 = .ok (.iaload, 1) := by decide +kernel
theorem d_La_law_618 : decode code 618 = .ok (.aload_n 0, 1) := by decide +kernel
theorem d_La_law_619 : decode code 619 = .ok (.iload 4, 2) := by decide +kernel
theorem d_La_law_621 : decode code 621 = .ok (.iconst 2, 1) := by decide +kernel
theorem d_La_law_622 : decode code 622 = .ok (.iadd, 1) := by decide +kernel
theorem d_La_law_623 : decode code 623 = .ok (.iaload, 1) := by decide +kernel
theorem d_La_law_624 : decode code 624 = .ok (.invokevirtual 92, 3) := by decide +kernel
theorem d_La_law_627 : decode code 627 = .ok (.aload_n 2, 1) := by decide +kernel
theorem d_La_law_628 : decode code 628 = .ok (.aload_n 0, 1) := by decide +kernel
theorem d_La_law_629 : decode code 629 = .ok (.iload 4, 2) := by decide +kernel
theorem d_La_law_631 : decode code 631 = .ok (.iconst 1, 1) := by decide +kernel
theorem d_La_law_632 : decode code 632 = .ok (.iadd, 1) := by decide +kernel
theorem d_La_law_633 : decode code 633 = .ok (.iaload, 1) := by decide +kernel
theorem d_La_law_634 : decode code 634 = .ok (.aload_n 0, 1) := by decide +kernel
theorem d_La_law_635 : decode code 635 = .ok (.iload 4, 2) := by decide +kernel
theorem d_La_law_637 : decode code 637 = .ok (.iconst 2, 1) := by decide +kernel
theorem d_La_law_638 : decode code 638 = .ok (.iadd, 1) := by decide +kernel
theorem d_La_law_639 : decode code 639 = .ok (.iaload, 1) := by decide +kernel
theorem d_La_law_640 : decode code 640 = .ok (.invokevirtual 95, 3) := by decide +kernel
theorem d_La_law_643 : decode code 643 = .ok (.if_icmp .eq 68, 3) := by decide +kernel
theorem d_La_law_646 : decode code 646 = .ok (.iconst 0, 1) := by decide +kernel
theorem d_La_law_647 : decode code 647 = .ok (.ireturn, 1) := by decide +kernel
theorem d_La_law_648 : decode code 648 = .ok (.aload_n 1, 1) := by decide +kernel
theorem d_La_law_649 : decode code 649 = .ok (.invokevirtual 96, 3) := by decide +kernel
theorem d_La_law_652 : decode code 652 = .ok (.aload_n 2, 1) := by decide +kernel
theorem d_La_law_653 : decode code 653 = .ok (.invokevirtual 99, 3) := by decide +kernel
theorem d_La_law_656 : decode code 656 = .ok (.if_icmp .eq 55, 3) := by decide +kernel
theorem d_La_law_659 : decode code 659 = .ok (.iconst 0, 1) := by decide +kernel
theorem d_La_law_660 : decode code 660 = .ok (.ireturn, 1) := by decide +kernel
theorem d_La_law_661 : decode code 661 = .ok (.aload_n 1, 1) := by decide +kernel
theorem d_La_law_662 : decode code 662 = .ok (.aload_n 0, 1) := by decide +kernel
theorem d_La_law_663 : decode code 663 = .ok (.iload 4, 2) := by decide +kernel
theorem d_La_law_665 : decode code 665 = .ok (.iconst 1, 1) := by decide +kernel
theorem d_La_law_666 : decode code 666 = .ok (.iadd, 1) := by decide +kernel
theorem d_La_law_667 : decode code 667 = .ok (.iaload, 1) := by decide +kernel
theorem d_La_law_668 : decode code 668 = .ok (.invokevirtual 100, 3) := by decide +kernel
theorem d_La_law_671 : decode code 671 = .ok (.aload_n 2, 1) := by decide +kernel
theorem d_La_law_672 : decode code 672 = .ok (.aload_n 0, 1) := by decide +kernel
theorem d_La_law_673 : decode code 673 = .ok (.iload 4, 2) := by decide +kernel
theorem d_La_law_675 : decode code 675 = .ok (.iconst 1, 1) := by decide +kernel
theorem d_La_law_676 : decode code 676 = .ok (.iadd, 1) := by decide +kernel
theorem d_La_law_677 : decode code 677 = .ok (.iaload, 1) := by decide +kernel
theorem d_La_law_678 : decode code 678 = .ok (.invokevirtual 103, 3) := by decide +kernel
theorem d_La_law_681 : decode code 681 = .ok (.if_icmp .eq 30, 3) := by decide +kernel
theorem d_La_law_684 : decode code 684 = .ok (.iconst 0, 1) := by decide +kernel
theorem d_La_law_685 : decode code 685 = .ok (.ireturn, 1) := by decide +kernel
theorem d_La_law_686 : decode code 686 = .ok (.aload_n 1, 1) := by decide +kernel
theorem d_La_law_687 : decode code 687 = .ok (.aload_n 0, 1) := by decide +kernel
theorem d_La_law_688 : decode code 688 = .ok (.iload 4, 2) := by decide +kernel
theorem d_La_law_690 : decode code 690 = .ok (.iconst 1, 1) := by decide +kernel
theorem d_La_law_691 : decode code 691 = .ok (.iadd, 1) := by decide +kernel
theorem d_La_law_692 : decode code 692 = .ok (.iaload, 1) := by decide +kernel
theorem d_La_law_693 : decode code 693 = .ok (.invokevirtual 104, 3) := by decide +kernel
theorem d_La_law_696 : decode code 696 = .ok (.aload_n 2, 1) := by decide +kernel
theorem d_La_law_697 : decode code 697 = .ok (.aload_n 0, 1) := by decide +kernel
theorem d_La_law_698 : decode code 698 = .ok (.iload 4, 2) := by decide +kernel
theorem d_La_law_700 : decode code 700 = .ok (.iconst 1, 1) := by decide +kernel
theorem d_La_law_701 : decode code 701 = .ok (.iadd, 1) := by decide +kernel
theorem d_La_law_702 : decode code 702 = .ok (.iaload, 1) := by decide +kernel
theorem d_La_law_703 : decode code 703 = .ok (.invokevirtual 107, 3) := by decide +kernel
theorem d_La_law_706 : decode code 706 = .ok (.if_icmp .eq 5, 3) := by decide +kernel
theorem d_La_law_709 : decode code 709 = .ok (.iconst 0, 1) := by decide +kernel
theorem d_La_law_710 : decode code 710 = .ok (.ireturn, 1) := by decide +kernel
theorem d_La_law_711 : decode code 711 = .ok (.iinc 4 5, 3) := by decide +kernel
theorem d_La_law_714 : decode code 714 = .ok (.goto (-691), 3) := by decide +kernel
theorem d_La_law_717 : decode code 717 = .ok (.iconst 1, 1) := by decide +kernel
theorem d_La_law_718 : decode code 718 = .ok (.ireturn, 1) := by decide +kernel
