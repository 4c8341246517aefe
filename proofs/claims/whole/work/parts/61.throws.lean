set_option maxRecDepth 20000 in
theorem mw552 : (Jvm.Cond.code ({ cls := "JobTerminal", name := "unusedJob", desc := "()LJobTerminal$Job;" } : Jvm.MethodName) prog_1_method_20_code (2 : Nat) (Option.some (Jvm.ClassFile.FieldType.object "JobTerminal$Job"))) ∈ GW := q_mem 651 rfl rfl
set_option maxRecDepth 20000 in
theorem mw553 : (Jvm.Cond.methodLink "JobTerminal" (92 : Nat) ({ cls := "JobTerminal", name := "unusedJob", desc := "()LJobTerminal$Job;" } : Jvm.MethodName)) ∈ GW := q_mem 648 rfl rfl
set_option maxRecDepth 20000 in
theorem mw554 : (Jvm.Cond.instanceMethod ({ cls := "JobTerminal", name := "unusedJob", desc := "()LJobTerminal$Job;" } : Jvm.MethodName)) ∈ GW := q_mem 650 rfl rfl
theorem mw555 : (Jvm.Cond.selects "JobTerminal" ({ cls := "JobTerminal", name := "unusedJob", desc := "()LJobTerminal$Job;" } : Jvm.MethodName) ({ cls := "JobTerminal", name := "unusedJob", desc := "()LJobTerminal$Job;" } : Jvm.MethodName)) ∈ GW := q_mem 25 rfl rfl
set_option maxRecDepth 20000 in
theorem mw556 : (Jvm.Cond.code ({ cls := "JobTerminal", name := "freeProcess", desc := "(I)LJobTerminal$JobProcess;" } : Jvm.MethodName) prog_1_method_21_code (4 : Nat) (Option.some (Jvm.ClassFile.FieldType.object "JobTerminal$JobProcess"))) ∈ GW := q_mem 655 rfl rfl
set_option maxRecDepth 20000 in
theorem mw557 : (Jvm.Cond.methodLink "JobTerminal" (96 : Nat) ({ cls := "JobTerminal", name := "freeProcess", desc := "(I)LJobTerminal$JobProcess;" } : Jvm.MethodName)) ∈ GW := q_mem 652 rfl rfl
set_option maxRecDepth 20000 in
theorem mw558 : (Jvm.Cond.instanceMethod ({ cls := "JobTerminal", name := "freeProcess", desc := "(I)LJobTerminal$JobProcess;" } : Jvm.MethodName)) ∈ GW := q_mem 654 rfl rfl
theorem mw559 : (Jvm.Cond.selects "JobTerminal" ({ cls := "JobTerminal", name := "freeProcess", desc := "(I)LJobTerminal$JobProcess;" } : Jvm.MethodName) ({ cls := "JobTerminal", name := "freeProcess", desc := "(I)LJobTerminal$JobProcess;" } : Jvm.MethodName)) ∈ GW := q_mem 26 rfl rfl
set_option maxRecDepth 20000 in
theorem mw560 : (Jvm.Cond.code ({ cls := "JobTerminal$JobProcess", name := "begin", desc := "(LJobTerminal$Job;I)V" } : Jvm.MethodName) prog_4_method_2_code (3 : Nat) (Option.none : Option Jvm.ClassFile.FieldType)) ∈ GW := q_mem 661 rfl rfl
set_option maxRecDepth 20000 in
theorem mw561 : (Jvm.Cond.methodLink "JobTerminal" (104 : Nat) ({ cls := "JobTerminal$JobProcess", name := "begin", desc := "(LJobTerminal$Job;I)V" } : Jvm.MethodName)) ∈ GW := q_mem 658 rfl rfl
set_option maxRecDepth 20000 in
theorem mw562 : (Jvm.Cond.instanceMethod ({ cls := "JobTerminal$JobProcess", name := "begin", desc := "(LJobTerminal$Job;I)V" } : Jvm.MethodName)) ∈ GW := q_mem 659 rfl rfl
set_option maxRecDepth 20000 in
theorem mw563 : (Jvm.Cond.selects "JobTerminal$JobProcess" ({ cls := "JobTerminal$JobProcess", name := "begin", desc := "(LJobTerminal$Job;I)V" } : Jvm.MethodName) ({ cls := "JobTerminal$JobProcess", name := "begin", desc := "(LJobTerminal$Job;I)V" } : Jvm.MethodName)) ∈ GW := q_mem 660 rfl rfl
set_option maxRecDepth 20000 in
theorem mw564 : (Jvm.Cond.code ({ cls := "JobTerminal$Job", name := "begin", desc := "(LJobTerminal$JobProcess;LJobTerminal$JobProcess;)V" } : Jvm.MethodName) prog_3_method_3_code (3 : Nat) (Option.none : Option Jvm.ClassFile.FieldType)) ∈ GW := q_mem 665 rfl rfl
set_option maxRecDepth 20000 in
theorem mw565 : (Jvm.Cond.methodLink "JobTerminal" (108 : Nat) ({ cls := "JobTerminal$Job", name := "begin", desc := "(LJobTerminal$JobProcess;LJobTerminal$JobProcess;)V" } : Jvm.MethodName)) ∈ GW := q_mem 662 rfl rfl
set_option maxRecDepth 20000 in
theorem mw566 : (Jvm.Cond.instanceMethod ({ cls := "JobTerminal$Job", name := "begin", desc := "(LJobTerminal$JobProcess;LJobTerminal$JobProcess;)V" } : Jvm.MethodName)) ∈ GW := q_mem 663 rfl rfl
set_option maxRecDepth 20000 in
theorem mw567 : (Jvm.Cond.selects "JobTerminal$Job" ({ cls := "JobTerminal$Job", name := "begin", desc := "(LJobTerminal$JobProcess;LJobTerminal$JobProcess;)V" } : Jvm.MethodName) ({ cls := "JobTerminal$Job", name := "begin", desc := "(LJobTerminal$JobProcess;LJobTerminal$JobProcess;)V" } : Jvm.MethodName)) ∈ GW := q_mem 664 rfl rfl
section ROWSC
variable {p : Program} {l : Launch} {e : Env} {R : Room} {s : State} {m : MethodId} {args : Array Value} {below : List Frame} {meth : Method} {c : Code} {H H0 : Heap} {locs : List Loc} {cells slots : Nat} {Q : State → Prop}
variable {cc : ByteArray} {pc : Nat} {ls : Array Slot} {rest : List Value} {D : va_G} {A : Nat → Prop} {ad : Nat → Nat} {cs : Nat → ClassId} {σ : q_St}
end ROWSC
-- JobTerminal launch
def f_JT_launch_171 (σ : q_St) (x5 : Int32) : Option (Int32 × q_St) := q_grd (q_in x5 4) (some (nI x5.toNatClampNeg, σ))
set_option maxHeartbeats 4000000 in
set_option maxRecDepth 100000 in
theorem k_JT_launch_171 {p : Program} {l : Launch} {e : Env} {s : State} {m : MethodId} {args : Array Value} {below : List Frame} {meth : Method} {c : Code} {D : va_G} {A : Nat → Prop} {ad : Nat → Nat} {cs : Nat → ClassId} (C0 : q_Cx "JobTerminal" b_JT_launch 8 (some .int) w_JT_launch D vwCl (tyL cs) NW p s m args meth c) (hA : ∀ q, s.heap.size ≤ q → A q) (res : (Int32 × q_St)) : ∀ (σ : q_St) (x5 : Int32) , f_JT_launch_171 σ x5 = some res → ∀ (H : Heap) (locs : List Loc), q_I D vwCl A s.heap (q_ws 33 ad (cC ad cs σ)) H locs → ∀ ls : Array Slot, q_has ls 8 [(5, q_rv ad 17 x5)] → W p l e ({ frames := 2, cells := 0, slots := 0, locals := 42 } : Room) s m args below meth c H locs 0 0 (MQ below (q_Qi D vwCl res.1 (q_ws 33 ad (cC ad cs res.2)) A) args s 0 0 A) (F0 m 171 ls []) := by
  intro σ x5 hf H locs I ls hl
  unfold f_JT_launch_171 at hf
  obtain ⟨hx, hb, hr, hml, hown, hts, hlocks, hK, hN⟩ := id C0
  have htg : ∀ w ∈ GW, w.before args s = true := fun w h => hts w (List.mem_cons_of_mem _ h)
  refine q_aload hx hb d_JT_launch_171 (q_at hl 0 rfl) ?_
  obtain ⟨o33, hf⟩ := q_grd_some hf
  rw [q_rv_ref (q_in_pos o33)]
  refine G_JT_Job_number hx hb htg hown hK hN I (q_in_lt o33) d_JT_launch_173 ?_
  cases hf
  exact q_iret hx hb hr hlocks I d_JT_launch_176
def f_JT_launch_152 (σ : q_St) (x3 : Int32) (x5 : Int32) (x6 : Int32) (x7 : Int32) : Option (Int32 × q_St) := q_grd (q_in x5 4) (q_bnd (f_Job_begin σ x5.toNatClampNeg x6 x7) (fun r30 => if x3 = 0 then (f_JT_launch_171 (q_up r30 20 0 x5) x5) else (f_JT_launch_171 r30 x5)))
set_option maxHeartbeats 4000000 in
set_option maxRecDepth 100000 in
theorem k_JT_launch_152 {p : Program} {l : Launch} {e : Env} {s : State} {m : MethodId} {args : Array Value} {below : List Frame} {meth : Method} {c : Code} {D : va_G} {A : Nat → Prop} {ad : Nat → Nat} {cs : Nat → ClassId} (C0 : q_Cx "JobTerminal" b_JT_launch 8 (some .int) w_JT_launch D vwCl (tyL cs) NW p s m args meth c) (hA : ∀ q, s.heap.size ≤ q → A q) (res : (Int32 × q_St)) : ∀ (σ : q_St) (x3 : Int32) (x5 : Int32) (x6 : Int32) (x7 : Int32) , f_JT_launch_152 σ x3 x5 x6 x7 = some res → ∀ (H : Heap) (locs : List Loc), q_I D vwCl A s.heap (q_ws 33 ad (cC ad cs σ)) H locs → ∀ ls : Array Slot, q_has ls 8 [(0, .ref (ad 0)), (3, .int x3), (5, q_rv ad 17 x5), (6, q_rv ad 9 x6), (7, q_rv ad 9 x7)] → W p l e ({ frames := 2, cells := 0, slots := 0, locals := 42 } : Room) s m args below meth c H locs 0 0 (MQ below (q_Qi D vwCl res.1 (q_ws 33 ad (cC ad cs res.2)) A) args s 0 0 A) (F0 m 152 ls []) := by
  intro σ x3 x5 x6 x7 hf H locs I ls hl
  unfold f_JT_launch_152 at hf
  obtain ⟨hx, hb, hr, hml, hown, hts, hlocks, hK, hN⟩ := id C0
  have htg : ∀ w ∈ GW, w.before args s = true := fun w h => hts w (List.mem_cons_of_mem _ h)
  refine q_aload hx hb d_JT_launch_152 (q_at hl 2 rfl) ?_
  refine q_aload hx hb d_JT_launch_154 (q_at hl 3 rfl) ?_
  refine q_aload hx hb d_JT_launch_156 (q_at hl 4 rfl) ?_
  obtain ⟨o29, hf⟩ := q_grd_some hf
  rw [q_rv_ref (q_in_pos o29)]
  obtain ⟨r30, e31, hf⟩ := q_bnd_some hf
  refine q_kv hA I (q_runV (C := "JobTerminal$Job") (As := [q_rv ad 9 x6, q_rv ad 9 x7]) (rest := []) ⟨hx, hb, hml, hown, hts⟩ (c_Job_begin (sz := H.size) (q_in_lt o29) e31) (cwV 2 hts (q_goodV mw564 mw565 mw566 mw567 mw179) rfl rfl rfl (by decide +kernel) ⟨Nat.le_of_ble_eq_true rfl, Nat.le_of_ble_eq_true rfl⟩) NW_ok hK hN I rfl (q_wsE (Nat.lt_of_lt_of_le (Nat.add_lt_add_left (q_in_lt o29) _) (by decide)) (a_C_Job (q_in_lt o29))) rfl (q_sz hl) rfl (Nat.le_of_ble_eq_true rfl) d_JT_launch_158 ⟨Nat.zero_le _, Nat.zero_le _⟩) (fun H locs I => ?_)
  refine lv_iload_n hx hb d_JT_launch_161 rfl (q_at hl 1 rfl) ?_
  refine lv_if_ne (tgt := 171) hx hb d_JT_launch_162 (by decide) (fun c32 => ?_) (fun c32 => ?_)
  · rw [if_neg c32] at hf
    exact k_JT_launch_171 C0 hA res r30 x5 hf H locs I ls (q_hsub hl [2] rfl)
  · rw [if_pos c32] at hf
    refine lv_aload_n hx hb d_JT_launch_165 rfl (q_at hl 0 rfl) ?_
    refine q_aload hx hb d_JT_launch_166 (q_at hl 2 rfl) ?_
    refine P_JT_JT_foregroundJob hx hb htg hown hK hN I d_JT_launch_168 (fun H locs I => ?_)
    exact k_JT_launch_171 C0 hA res (q_up r30 20 0 x5) x5 hf H locs I ls (q_hsub hl [2] rfl)
def f_JT_launch_131 (σ : q_St) (x1 : Int32) (x2 : Int32) (x3 : Int32) (x5 : Int32) (x6 : Int32) (x7 : Int32) : Option (Int32 × q_St) := q_grd (q_in x6 8) (q_bnd (f_JobProcess_begin σ x6.toNatClampNeg x5 x1) (fun r23 => if x7 < 0 then (f_JT_launch_152 r23 x3 x5 x6 x7) else (q_grd (q_in x7 8) (q_bnd (f_JobProcess_begin r23 x7.toNatClampNeg x5 x2) (fun r27 => f_JT_launch_152 r27 x3 x5 x6 x7)))))
set_option maxHeartbeats 4000000 in
set_option maxRecDepth 100000 in
theorem k_JT_launch_131 {p : Program} {l : Launch} {e : Env} {s : State} {m : MethodId} {args : Array Value} {below : List Frame} {meth : Method} {c : Code} {D : va_G} {A : Nat → Prop} {ad : Nat → Nat} {cs : Nat → ClassId} (C0 : q_Cx "JobTerminal" b_JT_launch 8 (some .int) w_JT_launch D vwCl (tyL cs) NW p s m args meth c) (hA : ∀ q, s.heap.size ≤ q → A q) (res : (Int32 × q_St)) : ∀ (σ : q_St) (x1 : Int32) (x2 : Int32) (x3 : Int32) (x5 : Int32) (x6 : Int32) (x7 : Int32) , f_JT_launch_131 σ x1 x2 x3 x5 x6 x7 = some res → ∀ (H : Heap) (locs : List Loc), q_I D vwCl A s.heap (q_ws 33 ad (cC ad cs σ)) H locs → ∀ ls : Array Slot, q_has ls 8 [(0, .ref (ad 0)), (1, .int x1), (2, .int x2), (3, .int x3), (5, q_rv ad 17 x5), (6, q_rv ad 9 x6), (7, q_rv ad 9 x7)] → W p l e ({ frames := 2, cells := 0, slots := 0, locals := 42 } : Room) s m args below meth c H locs 0 0 (MQ below (q_Qi D vwCl res.1 (q_ws 33 ad (cC ad cs res.2)) A) args s 0 0 A) (F0 m 131 ls []) := by
  intro σ x1 x2 x3 x5 x6 x7 hf H locs I ls hl
  unfold f_JT_launch_131 at hf
  obtain ⟨hx, hb, hr, hml, hown, hts, hlocks, hK, hN⟩ := id C0
  have htg : ∀ w ∈ GW, w.before args s = true := fun w h => hts w (List.mem_cons_of_mem _ h)
  refine q_aload hx hb d_JT_launch_131 (q_at hl 5 rfl) ?_
  refine q_aload hx hb d_JT_launch_133 (q_at hl 4 rfl) ?_
  refine lv_iload_n hx hb d_JT_launch_135 rfl (q_at hl 1 rfl) ?_
  obtain ⟨o22, hf⟩ := q_grd_some hf
  rw [q_rv_ref (q_in_pos o22)]
  obtain ⟨r23, e24, hf⟩ := q_bnd_some hf
  refine q_kv hA I (q_runV (C := "JobTerminal$JobProcess") (As := [q_rv ad 17 x5, .int x1]) (rest := []) ⟨hx, hb, hml, hown, hts⟩ (c_JobProcess_begin (sz := H.size) (q_in_lt o22) e24) (cwV 2 hts (q_goodV mw560 mw561 mw562 mw563 mw158) rfl rfl rfl (by decide +kernel) ⟨Nat.le_of_ble_eq_true rfl, Nat.le_of_ble_eq_true rfl⟩) NW_ok hK hN I rfl (q_wsE (Nat.lt_of_lt_of_le (Nat.add_lt_add_left (q_in_lt o22) _) (by decide)) (a_C_JobProcess (q_in_lt o22))) rfl (q_sz hl) rfl (Nat.le_of_ble_eq_true rfl) d_JT_launch_136 ⟨Nat.zero_le _, Nat.zero_le _⟩) (fun H locs I => ?_)
  refine q_aload hx hb d_JT_launch_139 (q_at hl 6 rfl) ?_
  refine q_ifnull (tgt := 152) hx hb d_JT_launch_141 (by decide) (fun c25 => ?_) (fun c25 => ?_)
  · rw [if_pos c25] at hf
    exact k_JT_launch_152 C0 hA res r23 x3 x5 x6 x7 hf H locs I ls (q_hsub hl [0, 3, 4, 5, 6] rfl)
  · rw [if_neg c25] at hf
    refine q_aload hx hb d_JT_launch_144 (q_at hl 6 rfl) ?_
    refine q_aload hx hb d_JT_launch_146 (q_at hl 4 rfl) ?_
    refine lv_iload_n hx hb d_JT_launch_148 rfl (q_at hl 2 rfl) ?_
    obtain ⟨o26, hf⟩ := q_grd_some hf
    rw [q_rv_ref (q_in_pos o26)]
    obtain ⟨r27, e28, hf⟩ := q_bnd_some hf
    refine q_kv hA I (q_runV (C := "JobTerminal$JobProcess") (As := [q_rv ad 17 x5, .int x2]) (rest := []) ⟨hx, hb, hml, hown, hts⟩ (c_JobProcess_begin (sz := H.size) (q_in_lt o26) e28) (cwV 2 hts (q_goodV mw560 mw561 mw562 mw563 mw158) rfl rfl rfl (by decide +kernel) ⟨Nat.le_of_ble_eq_true rfl, Nat.le_of_ble_eq_true rfl⟩) NW_ok hK hN I rfl (q_wsE (Nat.lt_of_lt_of_le (Nat.add_lt_add_left (q_in_lt o26) _) (by decide)) (a_C_JobProcess (q_in_lt o26))) rfl (q_sz hl) rfl (Nat.le_of_ble_eq_true rfl) d_JT_launch_149 ⟨Nat.zero_le _, Nat.zero_le _⟩) (fun H locs I => ?_)
    exact k_JT_launch_152 C0 hA res r27 x3 x5 x6 x7 hf H locs I ls (q_hsub hl [0, 3, 4, 5, 6] rfl)
def f_JT_launch_121 (σ : q_St) : Option (Int32 × q_St) := none
set_option maxHeartbeats 4000000 in
set_option maxRecDepth 100000 in
theorem k_JT_launch_121 {p : Program} {l : Launch} {e : Env} {s : State} {m : MethodId} {args : Array Value} {below : List Frame} {meth : Method} {c : Code} {D : va_G} {A : Nat → Prop} {ad : Nat → Nat} {cs : Nat → ClassId} (C0 : q_Cx "JobTerminal" b_JT_launch 8 (some .int) w_JT_launch D vwCl (tyL cs) NW p s m args meth c) (hA : ∀ q, s.heap.size ≤ q → A q) (res : (Int32 × q_St)) : ∀ (σ : q_St) , f_JT_launch_121 σ  = some res → ∀ (H : Heap) (locs : List Loc), q_I D vwCl A s.heap (q_ws 33 ad (cC ad cs σ)) H locs → ∀ ls : Array Slot, q_has ls 8 [] → W p l e ({ frames := 2, cells := 0, slots := 0, locals := 42 } : Room) s m args below meth c H locs 0 0 (MQ below (q_Qi D vwCl res.1 (q_ws 33 ad (cC ad cs res.2)) A) args s 0 0 A) (F0 m 121 ls []) := by
  intro σ  hf H locs I ls hl
  unfold f_JT_launch_121 at hf
  obtain ⟨hx, hb, hr, hml, hown, hts, hlocks, hK, hN⟩ := id C0
  have htg : ∀ w ∈ GW, w.before args s = true := fun w h => hts w (List.mem_cons_of_mem _ h)
  cases hf
def f_JT_launch_89 (σ : q_St) (x1 : Int32) (x2 : Int32) (x3 : Int32) (x4 : Int32) (x5 : Int32) (x6 : Int32) (y0 : Int32) : Option (Int32 × q_St) := if x5 < 0 then (none) else (if x6 < 0 then (f_JT_launch_121 σ) else (if x4 = 0 then (f_JT_launch_131 σ x1 x2 x3 x5 x6 y0) else (if y0 < 0 then (f_JT_launch_121 σ) else (f_JT_launch_131 σ x1 x2 x3 x5 x6 y0))))
set_option maxHeartbeats 4000000 in
set_option maxRecDepth 100000 in
theorem k_JT_launch_89 {p : Program} {l : Launch} {e : Env} {s : State} {m : MethodId} {args : Array Value} {below : List Frame} {meth : Method} {c : Code} {D : va_G} {A : Nat → Prop} {ad : Nat → Nat} {cs : Nat → ClassId} (C0 : q_Cx "JobTerminal" b_JT_launch 8 (some .int) w_JT_launch D vwCl (tyL cs) NW p s m args meth c) (hA : ∀ q, s.heap.size ≤ q → A q) (res : (Int32 × q_St)) : ∀ (σ : q_St) (x1 : Int32) (x2 : Int32) (x3 : Int32) (x4 : Int32) (x5 : Int32) (x6 : Int32) (y0 : Int32) , f_JT_launch_89 σ x1 x2 x3 x4 x5 x6 y0 = some res → ∀ (H : Heap) (locs : List Loc), q_I D vwCl A s.heap (q_ws 33 ad (cC ad cs σ)) H locs → ∀ ls : Array Slot, q_has ls 8 [(0, .ref (ad 0)), (1, .int x1), (2, .int x2), (3, .int x3), (4, .int x4), (5, q_rv ad 17 x5), (6, q_rv ad 9 x6)] → W p l e ({ frames := 2, cells := 0, slots := 0, locals := 42 } : Room) s m args below meth c H locs 0 0 (MQ below (q_Qi D vwCl res.1 (q_ws 33 ad (cC ad cs res.2)) A) args s 0 0 A) (F0 m 89 ls [q_rv ad 9 y0]) := by
  intro σ x1 x2 x3 x4 x5 x6 y0 hf H locs I ls hl
  unfold f_JT_launch_89 at hf
  obtain ⟨hx, hb, hr, hml, hown, hts, hlocks, hK, hN⟩ := id C0
  have htg : ∀ w ∈ GW, w.before args s = true := fun w h => hts w (List.mem_cons_of_mem _ h)
  refine q_astoreV (lv' := [(7, q_rv ad 9 y0), (0, .ref (ad 0)), (1, .int x1), (2, .int x2), (3, .int x3), (4, .int x4), (5, q_rv ad 17 x5), (6, q_rv ad 9 x6)]) hx hb d_JT_launch_89 hl (by decide) rfl (fun ls hl => ?_)
  refine q_aload hx hb d_JT_launch_91 (q_at hl 6 rfl) ?_
  refine q_ifnonnull (tgt := 106) hx hb d_JT_launch_93 (by decide) (fun c18 => ?_) (fun c18 => ?_)
  · rw [if_neg c18] at hf
    refine q_aload hx hb d_JT_launch_106 (q_at hl 7 rfl) ?_
    refine q_ifnull (tgt := 121) hx hb d_JT_launch_108 (by decide) (fun c19 => ?_) (fun c19 => ?_)
    · rw [if_pos c19] at hf
      exact k_JT_launch_121 C0 hA res σ hf H locs I ls (q_hsub hl [] rfl)
    · rw [if_neg c19] at hf
      refine lv_iload hx hb d_JT_launch_111 (q_at hl 5 rfl) ?_
      refine lv_if_eq (tgt := 131) hx hb d_JT_launch_113 (by decide) (fun c20 => ?_) (fun c20 => ?_)
      · rw [if_pos c20] at hf
        exact k_JT_launch_131 C0 hA res σ x1 x2 x3 x5 x6 y0 hf H locs I ls (q_hsub hl [1, 2, 3, 4, 6, 7, 0] rfl)
      · rw [if_neg c20] at hf
        refine q_aload hx hb d_JT_launch_116 (q_at hl 0 rfl) ?_
        refine q_ifnonnull (tgt := 131) hx hb d_JT_launch_118 (by decide) (fun c21 => ?_) (fun c21 => ?_)
        · rw [if_neg c21] at hf
          exact k_JT_launch_131 C0 hA res σ x1 x2 x3 x5 x6 y0 hf H locs I ls (q_hsub hl [1, 2, 3, 4, 6, 7, 0] rfl)
        · rw [if_pos c21] at hf
          exact k_JT_launch_121 C0 hA res σ hf H locs I ls (q_hsub hl [] rfl)
  · rw [if_pos c18] at hf
    cases hf
def f_JT_launch_62 (σ : q_St) (x1 : Int32) (x2 : Int32) (x3 : Int32) (x4 : Int32) : Option (Int32 × q_St) := q_bnd (f_JT_unusedJob σ) (fun r11 => q_bnd (f_JT_freeProcess r11.2 0) (fun r13 => if x4 = 0 then (f_JT_launch_89 r13.2 x1 x2 x3 x4 r11.1 r13.1 (-1)) else (q_bnd (f_JT_freeProcess r13.2 1) (fun r16 => f_JT_launch_89 r16.2 x1 x2 x3 x4 r11.1 r13.1 r16.1))))
set_option maxHeartbeats 4000000 in
set_option maxRecDepth 100000 in
theorem k_JT_launch_62 {p : Program} {l : Launch} {e : Env} {s : State} {m : MethodId} {args : Array Value} {below : List Frame} {meth : Method} {c : Code} {D : va_G} {A : Nat → Prop} {ad : Nat → Nat} {cs : Nat → ClassId} (C0 : q_Cx "JobTerminal" b_JT_launch 8 (some .int) w_JT_launch D vwCl (tyL cs) NW p s m args meth c) (hA : ∀ q, s.heap.size ≤ q → A q) (res : (Int32 × q_St)) : ∀ (σ : q_St) (x1 : Int32) (x2 : Int32) (x3 : Int32) (x4 : Int32) , f_JT_launch_62 σ x1 x2 x3 x4 = some res → ∀ (H : Heap) (locs : List Loc), q_I D vwCl A s.heap (q_ws 33 ad (cC ad cs σ)) H locs → ∀ ls : Array Slot, q_has ls 8 [(0, .ref (ad 0)), (1, .int x1), (2, .int x2), (3, .int x3), (4, .int x4)] → W p l e ({ frames := 2, cells := 0, slots := 0, locals := 42 } : Room) s m args below meth c H locs 0 0 (MQ below (q_Qi D vwCl res.1 (q_ws 33 ad (cC ad cs res.2)) A) args s 0 0 A) (F0 m 62 ls []) := by
  intro σ x1 x2 x3 x4 hf H locs I ls hl
  unfold f_JT_launch_62 at hf
  obtain ⟨hx, hb, hr, hml, hown, hts, hlocks, hK, hN⟩ := id C0
  have htg : ∀ w ∈ GW, w.before args s = true := fun w h => hts w (List.mem_cons_of_mem _ h)
  refine lv_aload_n hx hb d_JT_launch_62 rfl (q_at hl 0 rfl) ?_
  obtain ⟨r11, e12, hf⟩ := q_bnd_some hf
  refine q_kq hA I (q_runV (C := "JobTerminal") (As := []) (rest := []) ⟨hx, hb, hml, hown, hts⟩ (c_JT_unusedJob (sz := H.size) e12) (cwV 0 hts (q_goodV mw552 mw553 mw554 mw555 mw184) rfl rfl rfl (by decide +kernel) ⟨Nat.le_of_ble_eq_true rfl, Nat.le_of_ble_eq_true rfl⟩) NW_ok hK hN I rfl (q_wsE (by decide) (a_C_JT)) rfl (q_sz hl) rfl (Nat.le_of_ble_eq_true rfl) d_JT_launch_63 ⟨Nat.zero_le _, Nat.zero_le _⟩) (fun H locs I => ?_)
  refine q_astoreV (lv' := [(5, q_rv ad 17 r11.1), (0, .ref (ad 0)), (1, .int x1), (2, .int x2), (3, .int x3), (4, .int x4)]) hx hb d_JT_launch_66 hl (by decide) rfl (fun ls hl => ?_)
  refine lv_aload_n hx hb d_JT_launch_68 rfl (q_at hl 1 rfl) ?_
  refine lv_iconst (v := 0) hx hb d_JT_launch_69 (by decide) ?_
  obtain ⟨r13, e14, hf⟩ := q_bnd_some hf
  refine q_kq hA I (q_runV (C := "JobTerminal") (As := [.int 0]) (rest := []) ⟨hx, hb, hml, hown, hts⟩ (c_JT_freeProcess (sz := H.size) e14) (cwV 1 hts (q_goodV mw556 mw557 mw558 mw559 mw184) rfl rfl rfl (by decide +kernel) ⟨Nat.le_of_ble_eq_true rfl, Nat.le_of_ble_eq_true rfl⟩) NW_ok hK hN I rfl (q_wsE (by decide) (a_C_JT)) rfl (q_sz hl) rfl (Nat.le_of_ble_eq_true rfl) d_JT_launch_70 ⟨Nat.zero_le _, Nat.zero_le _⟩) (fun H locs I => ?_)
  refine q_astoreV (lv' := [(6, q_rv ad 9 r13.1), (5, q_rv ad 17 r11.1), (0, .ref (ad 0)), (1, .int x1), (2, .int x2), (3, .int x3), (4, .int x4)]) hx hb d_JT_launch_73 hl (by decide) rfl (fun ls hl => ?_)
  refine lv_iload hx hb d_JT_launch_75 (q_at hl 6 rfl) ?_
  refine lv_if_eq (tgt := 88) hx hb d_JT_launch_77 (by decide) (fun c15 => ?_) (fun c15 => ?_)
  · rw [if_pos c15] at hf
    refine q_null (ad := ad) hx hb 9 d_JT_launch_88 ?_
    exact k_JT_launch_89 C0 hA res r13.2 x1 x2 x3 x4 r11.1 r13.1 (-1) hf H locs I ls (q_hsub hl [2, 3, 4, 5, 6, 1, 0] rfl)
  · rw [if_neg c15] at hf
    refine lv_aload_n hx hb d_JT_launch_80 rfl (q_at hl 2 rfl) ?_
    refine lv_iconst (v := 1) hx hb d_JT_launch_81 (by decide) ?_
    obtain ⟨r16, e17, hf⟩ := q_bnd_some hf
    refine q_kq hA I (q_runV (C := "JobTerminal") (As := [.int 1]) (rest := []) ⟨hx, hb, hml, hown, hts⟩ (c_JT_freeProcess (sz := H.size) e17) (cwV 1 hts (q_goodV mw556 mw557 mw558 mw559 mw184) rfl rfl rfl (by decide +kernel) ⟨Nat.le_of_ble_eq_true rfl, Nat.le_of_ble_eq_true rfl⟩) NW_ok hK hN I rfl (q_wsE (by decide) (a_C_JT)) rfl (q_sz hl) rfl (Nat.le_of_ble_eq_true rfl) d_JT_launch_82 ⟨Nat.zero_le _, Nat.zero_le _⟩) (fun H locs I => ?_)
    refine lv_goto (tgt := 89) hx hb d_JT_launch_85 (by decide) ?_
    exact k_JT_launch_89 C0 hA res r16.2 x1 x2 x3 x4 r11.1 r13.1 r16.1 hf H locs I ls (q_hsub hl [2, 3, 4, 5, 6, 1, 0] rfl)
def f_JT_launch_41 (σ : q_St) (x1 : Int32) (x2 : Int32) (x3 : Int32) (x4 : Int32) : Option (Int32 × q_St) := if x3 = 0 then (if (σ 20 0) < 0 then (f_JT_launch_62 σ x1 x2 x3 x4) else (none)) else (f_JT_launch_62 σ x1 x2 x3 x4)
set_option maxHeartbeats 4000000 in
set_option maxRecDepth 100000 in
theorem k_JT_launch_41 {p : Program} {l : Launch} {e : Env} {s : State} {m : MethodId} {args : Array Value} {below : List Frame} {meth : Method} {c : Code} {D : va_G} {A : Nat → Prop} {ad : Nat → Nat} {cs : Nat → ClassId} (C0 : q_Cx "JobTerminal" b_JT_launch 8 (some .int) w_JT_launch D vwCl (tyL cs) NW p s m args meth c) (hA : ∀ q, s.heap.size ≤ q → A q) (res : (Int32 × q_St)) : ∀ (σ : q_St) (x1 : Int32) (x2 : Int32) (x3 : Int32) (x4 : Int32) , f_JT_launch_41 σ x1 x2 x3 x4 = some res → ∀ (H : Heap) (locs : List Loc), q_I D vwCl A s.heap (q_ws 33 ad (cC ad cs σ)) H locs → ∀ ls : Array Slot, q_has ls 8 [(0, .ref (ad 0)), (1, .int x1), (2, .int x2), (3, .int x3), (4, .int x4)] → W p l e ({ frames := 2, cells := 0, slots := 0, locals := 42 } : Room) s m args below meth c H locs 0 0 (MQ below (q_Qi D vwCl res.1 (q_ws 33 ad (cC ad cs res.2)) A) args s 0 0 A) (F0 m 41 ls []) := by
  intro σ x1 x2 x3 x4 hf H locs I ls hl
  unfold f_JT_launch_41 at hf
  obtain ⟨hx, hb, hr, hml, hown, hts, hlocks, hK, hN⟩ := id C0
  have htg : ∀ w ∈ GW, w.before args s = true := fun w h => hts w (List.mem_cons_of_mem _ h)
  refine lv_iload_n hx hb d_JT_launch_41 rfl (q_at hl 3 rfl) ?_
  refine lv_if_ne (tgt := 62) hx hb d_JT_launch_42 (by decide) (fun c9 => ?_) (fun c9 => ?_)
  · rw [if_neg c9] at hf
    exact k_JT_launch_62 C0 hA res σ x1 x2 x3 x4 hf H locs I ls (q_hsub hl [0, 1, 2, 3, 4] rfl)
  · rw [if_pos c9] at hf
    refine lv_aload_n hx hb d_JT_launch_45 rfl (q_at hl 0 rfl) ?_
    refine G_JT_JT_foregroundJob hx hb htg hown hK hN I d_JT_launch_46 ?_
    refine q_ifnull (tgt := 62) hx hb d_JT_launch_49 (by decide) (fun c10 => ?_) (fun c10 => ?_)
    · rw [if_pos c10] at hf
      exact k_JT_launch_62 C0 hA res σ x1 x2 x3 x4 hf H locs I ls (q_hsub hl [0, 1, 2, 3, 4] rfl)
    · rw [if_neg c10] at hf
      cases hf
def f_JT_launch_31 (σ : q_St) : Option (Int32 × q_St) := none
set_option maxHeartbeats 4000000 in
set_option maxRecDepth 100000 in
theorem k_JT_launch_31 {p : Program} {l : Launch} {e : Env} {s : State} {m : MethodId} {args : Array Value} {below : List Frame} {meth : Method} {c : Code} {D : va_G} {A : Nat → Prop} {ad : Nat → Nat} {cs : Nat → ClassId} (C0 : q_Cx "JobTerminal" b_JT_launch 8 (some .int) w_JT_launch D vwCl (tyL cs) NW p s m args meth c) (hA : ∀ q, s.heap.size ≤ q → A q) (res : (Int32 × q_St)) : ∀ (σ : q_St) , f_JT_launch_31 σ  = some res → ∀ (H : Heap) (locs : List Loc), q_I D vwCl A s.heap (q_ws 33 ad (cC ad cs σ)) H locs → ∀ ls : Array Slot, q_has ls 8 [] → W p l e ({ frames := 2, cells := 0, slots := 0, locals := 42 } : Room) s m args below meth c H locs 0 0 (MQ below (q_Qi D vwCl res.1 (q_ws 33 ad (cC ad cs res.2)) A) args s 0 0 A) (F0 m 31 ls []) := by
  intro σ  hf H locs I ls hl
  unfold f_JT_launch_31 at hf
  obtain ⟨hx, hb, hr, hml, hown, hts, hlocks, hK, hN⟩ := id C0
  have htg : ∀ w ∈ GW, w.before args s = true := fun w h => hts w (List.mem_cons_of_mem _ h)
  cases hf
def f_JT_launch_10 (σ : q_St) (x1 : Int32) (x2 : Int32) (x3 : Int32) (y0 : Int32) : Option (Int32 × q_St) := q_bnd (f_Programs_hasProgram σ x1) (fun r2 => if r2.1 = 0 then (f_JT_launch_31 r2.2) else (if y0 = 0 then (f_JT_launch_41 r2.2 x1 x2 x3 y0) else (q_bnd (f_Programs_hasProgram r2.2 x2) (fun r6 => if r6.1 = 0 then (f_JT_launch_31 r6.2) else (f_JT_launch_41 r6.2 x1 x2 x3 y0)))))
set_option maxHeartbeats 4000000 in
set_option maxRecDepth 100000 in
theorem k_JT_launch_10 {p : Program} {l : Launch} {e : Env} {s : State} {m : MethodId} {args : Array Value} {below : List Frame} {meth : Method} {c : Code} {D : va_G} {A : Nat → Prop} {ad : Nat → Nat} {cs : Nat → ClassId} (C0 : q_Cx "JobTerminal" b_JT_launch 8 (some .int) w_JT_launch D vwCl (tyL cs) NW p s m args meth c) (hA : ∀ q, s.heap.size ≤ q → A q) (res : (Int32 × q_St)) : ∀ (σ : q_St) (x1 : Int32) (x2 : Int32) (x3 : Int32) (y0 : Int32) , f_JT_launch_10 σ x1 x2 x3 y0 = some res → ∀ (H : Heap) (locs : List Loc), q_I D vwCl A s.heap (q_ws 33 ad (cC ad cs σ)) H locs → ∀ ls : Array Slot, q_has ls 8 [(0, .ref (ad 0)), (1, .int x1), (2, .int x2), (3, .int x3)] → W p l e ({ frames := 2, cells := 0, slots := 0, locals := 42 } : Room) s m args below meth c H locs 0 0 (MQ below (q_Qi D vwCl res.1 (q_ws 33 ad (cC ad cs res.2)) A) args s 0 0 A) (F0 m 10 ls [.int y0]) := by
  intro σ x1 x2 x3 y0 hf H locs I ls hl
  unfold f_JT_launch_10 at hf
  obtain ⟨hx, hb, hr, hml, hown, hts, hlocks, hK, hN⟩ := id C0
  have htg : ∀ w ∈ GW, w.before args s = true := fun w h => hts w (List.mem_cons_of_mem _ h)
  refine q_istore (lv' := [(4, .int y0), (0, .ref (ad 0)), (1, .int x1), (2, .int x2), (3, .int x3)]) hx hb d_JT_launch_10 hl (by decide) rfl (fun ls hl => ?_)
  refine lv_iload_n hx hb d_JT_launch_12 rfl (q_at hl 2 rfl) ?_
  obtain ⟨r2, e3, hf⟩ := q_bnd_some hf
  refine q_ki hA I (q_runS (As := [.int x1]) (rest := []) ⟨hx, hb, hml, hown, hts⟩ (c_Programs_hasProgram (sz := H.size) e3) (va_cwS 1 hts (q_goodS mw66 mw73 mw68 mw69) rfl rfl rfl (by decide +kernel) ⟨Nat.le_of_ble_eq_true rfl, Nat.le_of_ble_eq_true rfl⟩) NW_ok hK hN I rfl (q_sz hl) rfl (Nat.le_of_ble_eq_true rfl) d_JT_launch_13 ⟨Nat.zero_le _, Nat.zero_le _⟩) (fun H locs I => ?_)
  refine lv_if_eq (tgt := 31) hx hb d_JT_launch_16 (by decide) (fun c4 => ?_) (fun c4 => ?_)
  · rw [if_pos c4] at hf
    exact k_JT_launch_31 C0 hA res r2.2 hf H locs I ls (q_hsub hl [] rfl)
  · rw [if_neg c4] at hf
    refine lv_iload hx hb d_JT_launch_19 (q_at hl 0 rfl) ?_
    refine lv_if_eq (tgt := 41) hx hb d_JT_launch_21 (by decide) (fun c5 => ?_) (fun c5 => ?_)
    · rw [if_pos c5] at hf
      exact k_JT_launch_41 C0 hA res r2.2 x1 x2 x3 y0 hf H locs I ls (q_hsub hl [1, 2, 3, 4, 0] rfl)
    · rw [if_neg c5] at hf
      refine lv_iload_n hx hb d_JT_launch_24 rfl (q_at hl 3 rfl) ?_
      obtain ⟨r6, e7, hf⟩ := q_bnd_some hf
      refine q_ki hA I (q_runS (As := [.int x2]) (rest := []) ⟨hx, hb, hml, hown, hts⟩ (c_Programs_hasProgram (sz := H.size) e7) (va_cwS 1 hts (q_goodS mw66 mw73 mw68 mw69) rfl rfl rfl (by decide +kernel) ⟨Nat.le_of_ble_eq_true rfl, Nat.le_of_ble_eq_true rfl⟩) NW_ok hK hN I rfl (q_sz hl) rfl (Nat.le_of_ble_eq_true rfl) d_JT_launch_25 ⟨Nat.zero_le _, Nat.zero_le _⟩) (fun H locs I => ?_)
      refine lv_if_ne (tgt := 41) hx hb d_JT_launch_28 (by decide) (fun c8 => ?_) (fun c8 => ?_)
      · rw [if_neg c8] at hf
        exact k_JT_launch_41 C0 hA res r6.2 x1 x2 x3 y0 hf H locs I ls (q_hsub hl [1, 2, 3, 4, 0] rfl)
      · rw [if_pos c8] at hf
        exact k_JT_launch_31 C0 hA res r6.2 hf H locs I ls (q_hsub hl [] rfl)
def f_JT_launch (σ : q_St) (p1 : Int32) (p2 : Int32) (p3 : Int32) : Option (Int32 × q_St) := if p2 = (-1) then (f_JT_launch_10 σ p1 p2 p3 0) else (f_JT_launch_10 σ p1 p2 p3 1)
set_option maxHeartbeats 4000000 in
set_option maxRecDepth 100000 in
theorem c_JT_launch {l : Launch} {D : va_G} {ad : Nat → Nat} {cs : Nat → ClassId} {sz : Nat} {σ : q_St} {p1 : Int32} {p2 : Int32} {p3 : Int32} {res : (Int32 × q_St)} (hf : f_JT_launch σ p1 p2 p3 = some res) : Met l y_JT_launch w_JT_launch ({ frames := 2, cells := 0, slots := 0, locals := 42 } : Room) (q_Pre D vwCl (tyL cs) NW [.ref (ad 0), .int p1, .int p2, .int p3] (q_ws 33 ad (cC ad cs σ)) sz) (q_Qi D vwCl res.1 (q_ws 33 ad (cC ad cs res.2)) (va_A (q_ws 33 ad (cC ad cs σ)) sz)) 0 0 (va_A (q_ws 33 ad (cC ad cs σ)) sz) := by
  refine Met.ofW (cc := b_JT_launch) (maxL := 8) (ret := (some .int)) (by decide) rfl ?_
  intro p e s m args below meth c s₁ B hml hv
  obtain ⟨hargs, hsz, hP, hK, hD0, hN⟩ := hv
  have hx := B.exec
  have hb := B.bytes
  have hr := B.returns
  have hts := atoms_spec (ws := w_JT_launch) B.pre
  have hown : s.vm.findClass "JobTerminal" = some m.cls := findClass_of_methodNamed B.named
  have hlocks := B.notSynchronized
  have htg : ∀ w ∈ GW, w.before args s = true := fun w h => hts w (List.mem_cons_of_mem _ h)
  subst hsz
  have hD := hD0.self (sz := s.heap.size)
  generalize hAe : va_A (q_ws 33 ad (cC ad cs σ)) s.heap.size = A at hD ⊢
  have hA : ∀ q : Nat, s.heap.size ≤ q → A q := fun q h => by rw [← hAe]; exact Or.inr h
  have I : q_I D vwCl A s.heap (q_ws 33 ad (cC ad cs σ)) s.heap [] := ⟨hP, hD, va_S.rf⟩
  obtain ⟨ls, hen, hl⟩ := q_entry (vs := [.ref (ad 0), .int p1, .int p2, .int p3]) (n := 8) (lv := [(0, .ref (ad 0)), (1, .int p1), (2, .int p2), (3, .int p3)]) (by intro v hv; simp only [List.mem_cons, List.not_mem_nil, or_false] at hv; rcases hv with rfl | rfl | rfl | rfl <;> first | rfl | exact q_cat) (Nat.le_of_ble_eq_true rfl) rfl
  rw [show entryFrame m args 8 = F0 m 0 ls [] from by rw [hargs]; exact hen m]
  have C0 : q_Cx "JobTerminal" b_JT_launch 8 (some .int) w_JT_launch D vwCl (tyL cs) NW p s m args meth c := ⟨hx, hb, hr, hml, hown, hts, hlocks, hK, hN⟩
  unfold f_JT_launch at hf
  have hgo : ∀ (H : Heap) (locs : List Loc), q_I D vwCl A s.heap (q_ws 33 ad (cC ad cs σ)) H locs → W p l e ({ frames := 2, cells := 0, slots := 0, locals := 42 } : Room) s m args below meth c H locs 0 0 (MQ below (q_Qi D vwCl res.1 (q_ws 33 ad (cC ad cs res.2)) A) args s 0 0 A) (F0 m 0 ls []) := by
    intro H locs I
    refine lv_iload_n hx hb d_JT_launch_0 rfl (q_at hl 2 rfl) ?_
    refine lv_iconst (v := -1) hx hb d_JT_launch_1 (by decide) ?_
    refine lv_icmp_eq (tgt := 9) hx hb d_JT_launch_2 (by decide) (fun c1 => ?_) (fun c1 => ?_)
    · rw [if_pos c1] at hf
      refine lv_iconst (v := 0) hx hb d_JT_launch_9 (by decide) ?_
      exact k_JT_launch_10 C0 hA res σ p1 p2 p3 0 hf H locs I ls (q_hsub hl [0, 1, 2, 3] rfl)
    · rw [if_neg c1] at hf
      refine lv_iconst (v := 1) hx hb d_JT_launch_5 (by decide) ?_
      refine lv_goto (tgt := 10) hx hb d_JT_launch_6 (by decide) ?_
      exact k_JT_launch_10 C0 hA res σ p1 p2 p3 1 hf H locs I ls (q_hsub hl [0, 1, 2, 3] rfl)
  exact hgo _ _ I
-- JobTerminal launch
def f_JT_launchX_171 (σ : q_St) (x5 : Int32) : Option (Bool × q_St) := q_grd (q_in x5 4) (none)
set_option maxHeartbeats 4000000 in
set_option maxRecDepth 100000 in
theorem k_JT_launchX_171 {p : Program} {l : Launch} {e : Env} {s : State} {m : MethodId} {args : Array Value} {below : List Frame} {meth : Method} {c : Code} {D : va_G} {A : Nat → Prop} {ad : Nat → Nat} {cs : Nat → ClassId} (C0 : q_Cx "JobTerminal" b_JT_launch 8 (some .int) w_JT_launch D vwCl (tyL cs) NW p s m args meth c) (hA : ∀ q, s.heap.size ≤ q → A q) (X0 : q_X0 l A s c) (res : (Bool × q_St)) : ∀ (σ : q_St) (x5 : Int32) , f_JT_launchX_171 σ x5 = some res → ∀ (H : Heap) (locs : List Loc), q_I D vwCl A s.heap (q_ws 33 ad (cC ad cs σ)) H locs → ∀ ls : Array Slot, q_has ls 8 [(5, q_rv ad 17 x5)] → W p l e ({ frames := 6, cells := 1, slots := 6, locals := 82 } : Room) s m args below meth c H locs 0 0 (q_MQX below D vwCl (xE res.1) (q_ws 33 ad (cC ad cs res.2)) args s A) (F0 m 171 ls []) := by
  intro σ x5 hf H locs I ls hl
  unfold f_JT_launchX_171 at hf
  obtain ⟨hx, hb, hr, hml, hown, hts, hlocks, hK, hN⟩ := id C0
  have htg : ∀ w ∈ GW, w.before args s = true := fun w h => hts w (List.mem_cons_of_mem _ h)
  refine q_aload hx hb d_JT_launch_171 (q_at hl 0 rfl) ?_
  obtain ⟨o33, hf⟩ := q_grd_some hf
  rw [q_rv_ref (q_in_pos o33)]
  refine G_JT_Job_number hx hb htg hown hK hN I (q_in_lt o33) d_JT_launch_173 ?_
  cases hf
def f_JT_launchX_152 (σ : q_St) (x3 : Int32) (x5 : Int32) (x6 : Int32) (x7 : Int32) : Option (Bool × q_St) := q_grd (q_in x5 4) (q_bnd (f_Job_begin σ x5.toNatClampNeg x6 x7) (fun r30 => if x3 = 0 then (f_JT_launchX_171 (q_up r30 20 0 x5) x5) else (f_JT_launchX_171 r30 x5)))
set_option maxHeartbeats 4000000 in
set_option maxRecDepth 100000 in
theorem k_JT_launchX_152 {p : Program} {l : Launch} {e : Env} {s : State} {m : MethodId} {args : Array Value} {below : List Frame} {meth : Method} {c : Code} {D : va_G} {A : Nat → Prop} {ad : Nat → Nat} {cs : Nat → ClassId} (C0 : q_Cx "JobTerminal" b_JT_launch 8 (some .int) w_JT_launch D vwCl (tyL cs) NW p s m args meth c) (hA : ∀ q, s.heap.size ≤ q → A q) (X0 : q_X0 l A s c) (res : (Bool × q_St)) : ∀ (σ : q_St) (x3 : Int32) (x5 : Int32) (x6 : Int32) (x7 : Int32) , f_JT_launchX_152 σ x3 x5 x6 x7 = some res → ∀ (H : Heap) (locs : List Loc), q_I D vwCl A s.heap (q_ws 33 ad (cC ad cs σ)) H locs → ∀ ls : Array Slot, q_has ls 8 [(0, .ref (ad 0)), (3, .int x3), (5, q_rv ad 17 x5), (6, q_rv ad 9 x6), (7, q_rv ad 9 x7)] → W p l e ({ frames := 6, cells := 1, slots := 6, locals := 82 } : Room) s m args below meth c H locs 0 0 (q_MQX below D vwCl (xE res.1) (q_ws 33 ad (cC ad cs res.2)) args s A) (F0 m 152 ls []) := by
  intro σ x3 x5 x6 x7 hf H locs I ls hl
  unfold f_JT_launchX_152 at hf
  obtain ⟨hx, hb, hr, hml, hown, hts, hlocks, hK, hN⟩ := id C0
  have htg : ∀ w ∈ GW, w.before args s = true := fun w h => hts w (List.mem_cons_of_mem _ h)
  refine q_aload hx hb d_JT_launch_152 (q_at hl 2 rfl) ?_
  refine q_aload hx hb d_JT_launch_154 (q_at hl 3 rfl) ?_
  refine q_aload hx hb d_JT_launch_156 (q_at hl 4 rfl) ?_
  obtain ⟨o29, hf⟩ := q_grd_some hf
  rw [q_rv_ref (q_in_pos o29)]
  obtain ⟨r30, e31, hf⟩ := q_bnd_some hf
  refine q_kv hA I (q_runV (C := "JobTerminal$Job") (As := [q_rv ad 9 x6, q_rv ad 9 x7]) (rest := []) ⟨hx, hb, hml, hown, hts⟩ (c_Job_begin (sz := H.size) (q_in_lt o29) e31) (cwV 2 hts (q_goodV mw564 mw565 mw566 mw567 mw179) rfl rfl rfl (by decide +kernel) ⟨Nat.le_of_ble_eq_true rfl, Nat.le_of_ble_eq_true rfl⟩) NW_ok hK hN I rfl (q_wsE (Nat.lt_of_lt_of_le (Nat.add_lt_add_left (q_in_lt o29) _) (by decide)) (a_C_Job (q_in_lt o29))) rfl (q_sz hl) rfl (Nat.le_of_ble_eq_true rfl) d_JT_launch_158 ⟨Nat.zero_le _, Nat.zero_le _⟩) (fun H locs I => ?_)
  refine lv_iload_n hx hb d_JT_launch_161 rfl (q_at hl 1 rfl) ?_
  refine lv_if_ne (tgt := 171) hx hb d_JT_launch_162 (by decide) (fun c32 => ?_) (fun c32 => ?_)
  · rw [if_neg c32] at hf
    exact k_JT_launchX_171 C0 hA X0 res r30 x5 hf H locs I ls (q_hsub hl [2] rfl)
  · rw [if_pos c32] at hf
    refine lv_aload_n hx hb d_JT_launch_165 rfl (q_at hl 0 rfl) ?_
    refine q_aload hx hb d_JT_launch_166 (q_at hl 2 rfl) ?_
    refine P_JT_JT_foregroundJob hx hb htg hown hK hN I d_JT_launch_168 (fun H locs I => ?_)
    exact k_JT_launchX_171 C0 hA X0 res (q_up r30 20 0 x5) x5 hf H locs I ls (q_hsub hl [2] rfl)
def f_JT_launchX_131 (σ : q_St) (x1 : Int32) (x2 : Int32) (x3 : Int32) (x5 : Int32) (x6 : Int32) (x7 : Int32) : Option (Bool × q_St) := q_grd (q_in x6 8) (q_bnd (f_JobProcess_begin σ x6.toNatClampNeg x5 x1) (fun r23 => if x7 < 0 then (f_JT_launchX_152 r23 x3 x5 x6 x7) else (q_grd (q_in x7 8) (q_bnd (f_JobProcess_begin r23 x7.toNatClampNeg x5 x2) (fun r27 => f_JT_launchX_152 r27 x3 x5 x6 x7)))))
set_option maxHeartbeats 4000000 in
set_option maxRecDepth 100000 in
theorem k_JT_launchX_131 {p : Program} {l : Launch} {e : Env} {s : State} {m : MethodId} {args : Array Value} {below : List Frame} {meth : Method} {c : Code} {D : va_G} {A : Nat → Prop} {ad : Nat → Nat} {cs : Nat → ClassId} (C0 : q_Cx "JobTerminal" b_JT_launch 8 (some .int) w_JT_launch D vwCl (tyL cs) NW p s m args meth c) (hA : ∀ q, s.heap.size ≤ q → A q) (X0 : q_X0 l A s c) (res : (Bool × q_St)) : ∀ (σ : q_St) (x1 : Int32) (x2 : Int32) (x3 : Int32) (x5 : Int32) (x6 : Int32) (x7 : Int32) , f_JT_launchX_131 σ x1 x2 x3 x5 x6 x7 = some res → ∀ (H : Heap) (locs : List Loc), q_I D vwCl A s.heap (q_ws 33 ad (cC ad cs σ)) H locs → ∀ ls : Array Slot, q_has ls 8 [(0, .ref (ad 0)), (1, .int x1), (2, .int x2), (3, .int x3), (5, q_rv ad 17 x5), (6, q_rv ad 9 x6), (7, q_rv ad 9 x7)] → W p l e ({ frames := 6, cells := 1, slots := 6, locals := 82 } : Room) s m args below meth c H locs 0 0 (q_MQX below D vwCl (xE res.1) (q_ws 33 ad (cC ad cs res.2)) args s A) (F0 m 131 ls []) := by
  intro σ x1 x2 x3 x5 x6 x7 hf H locs I ls hl
  unfold f_JT_launchX_131 at hf
  obtain ⟨hx, hb, hr, hml, hown, hts, hlocks, hK, hN⟩ := id C0
  have htg : ∀ w ∈ GW, w.before args s = true := fun w h => hts w (List.mem_cons_of_mem _ h)
  refine q_aload hx hb d_JT_launch_131 (q_at hl 5 rfl) ?_
  refine q_aload hx hb d_JT_launch_133 (q_at hl 4 rfl) ?_
  refine lv_iload_n hx hb d_JT_launch_135 rfl (q_at hl 1 rfl) ?_
  obtain ⟨o22, hf⟩ := q_grd_some hf
  rw [q_rv_ref (q_in_pos o22)]
  obtain ⟨r23, e24, hf⟩ := q_bnd_some hf
  refine q_kv hA I (q_runV (C := "JobTerminal$JobProcess") (As := [q_rv ad 17 x5, .int x1]) (rest := []) ⟨hx, hb, hml, hown, hts⟩ (c_JobProcess_begin (sz := H.size) (q_in_lt o22) e24) (cwV 2 hts (q_goodV mw560 mw561 mw562 mw563 mw158) rfl rfl rfl (by decide +kernel) ⟨Nat.le_of_ble_eq_true rfl, Nat.le_of_ble_eq_true rfl⟩) NW_ok hK hN I rfl (q_wsE (Nat.lt_of_lt_of_le (Nat.add_lt_add_left (q_in_lt o22) _) (by decide)) (a_C_JobProcess (q_in_lt o22))) rfl (q_sz hl) rfl (Nat.le_of_ble_eq_true rfl) d_JT_launch_136 ⟨Nat.zero_le _, Nat.zero_le _⟩) (fun H locs I => ?_)
  refine q_aload hx hb d_JT_launch_139 (q_at hl 6 rfl) ?_
  refine q_ifnull (tgt := 152) hx hb d_JT_launch_141 (by decide) (fun c25 => ?_) (fun c25 => ?_)
  · rw [if_pos c25] at hf
    exact k_JT_launchX_152 C0 hA X0 res r23 x3 x5 x6 x7 hf H locs I ls (q_hsub hl [0, 3, 4, 5, 6] rfl)
  · rw [if_neg c25] at hf
    refine q_aload hx hb d_JT_launch_144 (q_at hl 6 rfl) ?_
    refine q_aload hx hb d_JT_launch_146 (q_at hl 4 rfl) ?_
    refine lv_iload_n hx hb d_JT_launch_148 rfl (q_at hl 2 rfl) ?_
    obtain ⟨o26, hf⟩ := q_grd_some hf
    rw [q_rv_ref (q_in_pos o26)]
    obtain ⟨r27, e28, hf⟩ := q_bnd_some hf
    refine q_kv hA I (q_runV (C := "JobTerminal$JobProcess") (As := [q_rv ad 17 x5, .int x2]) (rest := []) ⟨hx, hb, hml, hown, hts⟩ (c_JobProcess_begin (sz := H.size) (q_in_lt o26) e28) (cwV 2 hts (q_goodV mw560 mw561 mw562 mw563 mw158) rfl rfl rfl (by decide +kernel) ⟨Nat.le_of_ble_eq_true rfl, Nat.le_of_ble_eq_true rfl⟩) NW_ok hK hN I rfl (q_wsE (Nat.lt_of_lt_of_le (Nat.add_lt_add_left (q_in_lt o26) _) (by decide)) (a_C_JobProcess (q_in_lt o26))) rfl (q_sz hl) rfl (Nat.le_of_ble_eq_true rfl) d_JT_launch_149 ⟨Nat.zero_le _, Nat.zero_le _⟩) (fun H locs I => ?_)
    exact k_JT_launchX_152 C0 hA X0 res r27 x3 x5 x6 x7 hf H locs I ls (q_hsub hl [0, 3, 4, 5, 6] rfl)
def f_JT_launchX_121 (σ : q_St) : Option (Bool × q_St) := some (false, σ)
set_option maxHeartbeats 4000000 in
set_option maxRecDepth 100000 in
theorem k_JT_launchX_121 {p : Program} {l : Launch} {e : Env} {s : State} {m : MethodId} {args : Array Value} {below : List Frame} {meth : Method} {c : Code} {D : va_G} {A : Nat → Prop} {ad : Nat → Nat} {cs : Nat → ClassId} (C0 : q_Cx "JobTerminal" b_JT_launch 8 (some .int) w_JT_launch D vwCl (tyL cs) NW p s m args meth c) (hA : ∀ q, s.heap.size ≤ q → A q) (X0 : q_X0 l A s c) (res : (Bool × q_St)) : ∀ (σ : q_St) , f_JT_launchX_121 σ  = some res → ∀ (H : Heap) (locs : List Loc), q_I D vwCl A s.heap (q_ws 33 ad (cC ad cs σ)) H locs → ∀ ls : Array Slot, q_has ls 8 [] → W p l e ({ frames := 6, cells := 1, slots := 6, locals := 82 } : Room) s m args below meth c H locs 0 0 (q_MQX below D vwCl (xE res.1) (q_ws 33 ad (cC ad cs res.2)) args s A) (F0 m 121 ls []) := by
  intro σ  hf H locs I ls hl
  unfold f_JT_launchX_121 at hf
  obtain ⟨hx, hb, hr, hml, hown, hts, hlocks, hK, hN⟩ := id C0
  have htg : ∀ w ∈ GW, w.before args s = true := fun w h => hts w (List.mem_cons_of_mem _ h)
  cases hf
  exact q_thrS (is := 102) (text := "not enough free slots") hx hb X0 hown (by decide) I hA ((q_sz hl).trans hml.symm) d_JT_launch_121 d_JT_launch_124 d_JT_launch_125 d_JT_launch_127 d_JT_launch_130 (Nat.le_of_ble_eq_true rfl) (Nat.le_of_ble_eq_true rfl) (Nat.le_of_ble_eq_true rfl) (Nat.le_of_ble_eq_true rfl) hlocks
def f_JT_launchX_89 (σ : q_St) (x1 : Int32) (x2 : Int32) (x3 : Int32) (x4 : Int32) (x5 : Int32) (x6 : Int32) (y0 : Int32) : Option (Bool × q_St) := if x5 < 0 then (some (false, σ)) else (if x6 < 0 then (f_JT_launchX_121 σ) else (if x4 = 0 then (f_JT_launchX_131 σ x1 x2 x3 x5 x6 y0) else (if y0 < 0 then (f_JT_launchX_121 σ) else (f_JT_launchX_131 σ x1 x2 x3 x5 x6 y0))))
set_option maxHeartbeats 4000000 in
set_option maxRecDepth 100000 in
theorem k_JT_launchX_89 {p : Program} {l : Launch} {e : Env} {s : State} {m : MethodId} {args : Array Value} {below : List Frame} {meth : Method} {c : Code} {D : va_G} {A : Nat → Prop} {ad : Nat → Nat} {cs : Nat → ClassId} (C0 : q_Cx "JobTerminal" b_JT_launch 8 (some .int) w_JT_launch D vwCl (tyL cs) NW p s m args meth c) (hA : ∀ q, s.heap.size ≤ q → A q) (X0 : q_X0 l A s c) (res : (Bool × q_St)) : ∀ (σ : q_St) (x1 : Int32) (x2 : Int32) (x3 : Int32) (x4 : Int32) (x5 : Int32) (x6 : Int32) (y0 : Int32) , f_JT_launchX_89 σ x1 x2 x3 x4 x5 x6 y0 = some res → ∀ (H : Heap) (locs : List Loc), q_I D vwCl A s.heap (q_ws 33 ad (cC ad cs σ)) H locs → ∀ ls : Array Slot, q_has ls 8 [(0, .ref (ad 0)), (1, .int x1), (2, .int x2), (3, .int x3), (4, .int x4), (5, q_rv ad 17 x5), (6, q_rv ad 9 x6)] → W p l e ({ frames := 6, cells := 1, slots := 6, locals := 82 } : Room) s m args below meth c H locs 0 0 (q_MQX below D vwCl (xE res.1) (q_ws 33 ad (cC ad cs res.2)) args s A) (F0 m 89 ls [q_rv ad 9 y0]) := by
  intro σ x1 x2 x3 x4 x5 x6 y0 hf H locs I ls hl
  unfold f_JT_launchX_89 at hf
  obtain ⟨hx, hb, hr, hml, hown, hts, hlocks, hK, hN⟩ := id C0
  have htg : ∀ w ∈ GW, w.before args s = true := fun w h => hts w (List.mem_cons_of_mem _ h)
  refine q_astoreV (lv' := [(7, q_rv ad 9 y0), (0, .ref (ad 0)), (1, .int x1), (2, .int x2), (3, .int x3), (4, .int x4), (5, q_rv ad 17 x5), (6, q_rv ad 9 x6)]) hx hb d_JT_launch_89 hl (by decide) rfl (fun ls hl => ?_)
  refine q_aload hx hb d_JT_launch_91 (q_at hl 6 rfl) ?_
  refine q_ifnonnull (tgt := 106) hx hb d_JT_launch_93 (by decide) (fun c18 => ?_) (fun c18 => ?_)
  · rw [if_neg c18] at hf
    refine q_aload hx hb d_JT_launch_106 (q_at hl 7 rfl) ?_
    refine q_ifnull (tgt := 121) hx hb d_JT_launch_108 (by decide) (fun c19 => ?_) (fun c19 => ?_)
    · rw [if_pos c19] at hf
      exact k_JT_launchX_121 C0 hA X0 res σ hf H locs I ls (q_hsub hl [] rfl)
    · rw [if_neg c19] at hf
      refine lv_iload hx hb d_JT_launch_111 (q_at hl 5 rfl) ?_
      refine lv_if_eq (tgt := 131) hx hb d_JT_launch_113 (by decide) (fun c20 => ?_) (fun c20 => ?_)
      · rw [if_pos c20] at hf
        exact k_JT_launchX_131 C0 hA X0 res σ x1 x2 x3 x5 x6 y0 hf H locs I ls (q_hsub hl [1, 2, 3, 4, 6, 7, 0] rfl)
      · rw [if_neg c20] at hf
        refine q_aload hx hb d_JT_launch_116 (q_at hl 0 rfl) ?_
        refine q_ifnonnull (tgt := 131) hx hb d_JT_launch_118 (by decide) (fun c21 => ?_) (fun c21 => ?_)
        · rw [if_neg c21] at hf
          exact k_JT_launchX_131 C0 hA X0 res σ x1 x2 x3 x5 x6 y0 hf H locs I ls (q_hsub hl [1, 2, 3, 4, 6, 7, 0] rfl)
        · rw [if_pos c21] at hf
          exact k_JT_launchX_121 C0 hA X0 res σ hf H locs I ls (q_hsub hl [] rfl)
  · rw [if_pos c18] at hf
    cases hf
    exact q_thrS (is := 100) (text := "there are four jobs") hx hb X0 hown (by decide) I hA ((q_sz hl).trans hml.symm) d_JT_launch_96 d_JT_launch_99 d_JT_launch_100 d_JT_launch_102 d_JT_launch_105 (Nat.le_of_ble_eq_true rfl) (Nat.le_of_ble_eq_true rfl) (Nat.le_of_ble_eq_true rfl) (Nat.le_of_ble_eq_true rfl) hlocks
def f_JT_launchX_62 (σ : q_St) (x1 : Int32) (x2 : Int32) (x3 : Int32) (x4 : Int32) : Option (Bool × q_St) := q_bnd (f_JT_unusedJob σ) (fun r11 => q_bnd (f_JT_freeProcess r11.2 0) (fun r13 => if x4 = 0 then (f_JT_launchX_89 r13.2 x1 x2 x3 x4 r11.1 r13.1 (-1)) else (q_bnd (f_JT_freeProcess r13.2 1) (fun r16 => f_JT_launchX_89 r16.2 x1 x2 x3 x4 r11.1 r13.1 r16.1))))
set_option maxHeartbeats 4000000 in
set_option maxRecDepth 100000 in
theorem k_JT_launchX_62 {p : Program} {l : Launch} {e : Env} {s : State} {m : MethodId} {args : Array Value} {below : List Frame} {meth : Method} {c : Code} {D : va_G} {A : Nat → Prop} {ad : Nat → Nat} {cs : Nat → ClassId} (C0 : q_Cx "JobTerminal" b_JT_launch 8 (some .int) w_JT_launch D vwCl (tyL cs) NW p s m args meth c) (hA : ∀ q, s.heap.size ≤ q → A q) (X0 : q_X0 l A s c) (res : (Bool × q_St)) : ∀ (σ : q_St) (x1 : Int32) (x2 : Int32) (x3 : Int32) (x4 : Int32) , f_JT_launchX_62 σ x1 x2 x3 x4 = some res → ∀ (H : Heap) (locs : List Loc), q_I D vwCl A s.heap (q_ws 33 ad (cC ad cs σ)) H locs → ∀ ls : Array Slot, q_has ls 8 [(0, .ref (ad 0)), (1, .int x1), (2, .int x2), (3, .int x3), (4, .int x4)] → W p l e ({ frames := 6, cells := 1, slots := 6, locals := 82 } : Room) s m args below meth c H locs 0 0 (q_MQX below D vwCl (xE res.1) (q_ws 33 ad (cC ad cs res.2)) args s A) (F0 m 62 ls []) := by
  intro σ x1 x2 x3 x4 hf H locs I ls hl
  unfold f_JT_launchX_62 at hf
  obtain ⟨hx, hb, hr, hml, hown, hts, hlocks, hK, hN⟩ := id C0
  have htg : ∀ w ∈ GW, w.before args s = true := fun w h => hts w (List.mem_cons_of_mem _ h)
  refine lv_aload_n hx hb d_JT_launch_62 rfl (q_at hl 0 rfl) ?_
  obtain ⟨r11, e12, hf⟩ := q_bnd_some hf
  refine q_kq hA I (q_runV (C := "JobTerminal") (As := []) (rest := []) ⟨hx, hb, hml, hown, hts⟩ (c_JT_unusedJob (sz := H.size) e12) (cwV 0 hts (q_goodV mw552 mw553 mw554 mw555 mw184) rfl rfl rfl (by decide +kernel) ⟨Nat.le_of_ble_eq_true rfl, Nat.le_of_ble_eq_true rfl⟩) NW_ok hK hN I rfl (q_wsE (by decide) (a_C_JT)) rfl (q_sz hl) rfl (Nat.le_of_ble_eq_true rfl) d_JT_launch_63 ⟨Nat.zero_le _, Nat.zero_le _⟩) (fun H locs I => ?_)
  refine q_astoreV (lv' := [(5, q_rv ad 17 r11.1), (0, .ref (ad 0)), (1, .int x1), (2, .int x2), (3, .int x3), (4, .int x4)]) hx hb d_JT_launch_66 hl (by decide) rfl (fun ls hl => ?_)
  refine lv_aload_n hx hb d_JT_launch_68 rfl (q_at hl 1 rfl) ?_
  refine lv_iconst (v := 0) hx hb d_JT_launch_69 (by decide) ?_
  obtain ⟨r13, e14, hf⟩ := q_bnd_some hf
  refine q_kq hA I (q_runV (C := "JobTerminal") (As := [.int 0]) (rest := []) ⟨hx, hb, hml, hown, hts⟩ (c_JT_freeProcess (sz := H.size) e14) (cwV 1 hts (q_goodV mw556 mw557 mw558 mw559 mw184) rfl rfl rfl (by decide +kernel) ⟨Nat.le_of_ble_eq_true rfl, Nat.le_of_ble_eq_true rfl⟩) NW_ok hK hN I rfl (q_wsE (by decide) (a_C_JT)) rfl (q_sz hl) rfl (Nat.le_of_ble_eq_true rfl) d_JT_launch_70 ⟨Nat.zero_le _, Nat.zero_le _⟩) (fun H locs I => ?_)
  refine q_astoreV (lv' := [(6, q_rv ad 9 r13.1), (5, q_rv ad 17 r11.1), (0, .ref (ad 0)), (1, .int x1), (2, .int x2), (3, .int x3), (4, .int x4)]) hx hb d_JT_launch_73 hl (by decide) rfl (fun ls hl => ?_)
  refine lv_iload hx hb d_JT_launch_75 (q_at hl 6 rfl) ?_
  refine lv_if_eq (tgt := 88) hx hb d_JT_launch_77 (by decide) (fun c15 => ?_) (fun c15 => ?_)
  · rw [if_pos c15] at hf
    refine q_null (ad := ad) hx hb 9 d_JT_launch_88 ?_
    exact k_JT_launchX_89 C0 hA X0 res r13.2 x1 x2 x3 x4 r11.1 r13.1 (-1) hf H locs I ls (q_hsub hl [2, 3, 4, 5, 6, 1, 0] rfl)
  · rw [if_neg c15] at hf
    refine lv_aload_n hx hb d_JT_launch_80 rfl (q_at hl 2 rfl) ?_
    refine lv_iconst (v := 1) hx hb d_JT_launch_81 (by decide) ?_
    obtain ⟨r16, e17, hf⟩ := q_bnd_some hf
    refine q_kq hA I (q_runV (C := "JobTerminal") (As := [.int 1]) (rest := []) ⟨hx, hb, hml, hown, hts⟩ (c_JT_freeProcess (sz := H.size) e17) (cwV 1 hts (q_goodV mw556 mw557 mw558 mw559 mw184) rfl rfl rfl (by decide +kernel) ⟨Nat.le_of_ble_eq_true rfl, Nat.le_of_ble_eq_true rfl⟩) NW_ok hK hN I rfl (q_wsE (by decide) (a_C_JT)) rfl (q_sz hl) rfl (Nat.le_of_ble_eq_true rfl) d_JT_launch_82 ⟨Nat.zero_le _, Nat.zero_le _⟩) (fun H locs I => ?_)
    refine lv_goto (tgt := 89) hx hb d_JT_launch_85 (by decide) ?_
    exact k_JT_launchX_89 C0 hA X0 res r16.2 x1 x2 x3 x4 r11.1 r13.1 r16.1 hf H locs I ls (q_hsub hl [2, 3, 4, 5, 6, 1, 0] rfl)
def f_JT_launchX_41 (σ : q_St) (x1 : Int32) (x2 : Int32) (x3 : Int32) (x4 : Int32) : Option (Bool × q_St) := if x3 = 0 then (if (σ 20 0) < 0 then (f_JT_launchX_62 σ x1 x2 x3 x4) else (some (false, σ))) else (f_JT_launchX_62 σ x1 x2 x3 x4)
set_option maxHeartbeats 4000000 in
set_option maxRecDepth 100000 in
theorem k_JT_launchX_41 {p : Program} {l : Launch} {e : Env} {s : State} {m : MethodId} {args : Array Value} {below : List Frame} {meth : Method} {c : Code} {D : va_G} {A : Nat → Prop} {ad : Nat → Nat} {cs : Nat → ClassId} (C0 : q_Cx "JobTerminal" b_JT_launch 8 (some .int) w_JT_launch D vwCl (tyL cs) NW p s m args meth c) (hA : ∀ q, s.heap.size ≤ q → A q) (X0 : q_X0 l A s c) (res : (Bool × q_St)) : ∀ (σ : q_St) (x1 : Int32) (x2 : Int32) (x3 : Int32) (x4 : Int32) , f_JT_launchX_41 σ x1 x2 x3 x4 = some res → ∀ (H : Heap) (locs : List Loc), q_I D vwCl A s.heap (q_ws 33 ad (cC ad cs σ)) H locs → ∀ ls : Array Slot, q_has ls 8 [(0, .ref (ad 0)), (1, .int x1), (2, .int x2), (3, .int x3), (4, .int x4)] → W p l e ({ frames := 6, cells := 1, slots := 6, locals := 82 } : Room) s m args below meth c H locs 0 0 (q_MQX below D vwCl (xE res.1) (q_ws 33 ad (cC ad cs res.2)) args s A) (F0 m 41 ls []) := by
  intro σ x1 x2 x3 x4 hf H locs I ls hl
  unfold f_JT_launchX_41 at hf
  obtain ⟨hx, hb, hr, hml, hown, hts, hlocks, hK, hN⟩ := id C0
  have htg : ∀ w ∈ GW, w.before args s = true := fun w h => hts w (List.mem_cons_of_mem _ h)
  refine lv_iload_n hx hb d_JT_launch_41 rfl (q_at hl 3 rfl) ?_
  refine lv_if_ne (tgt := 62) hx hb d_JT_launch_42 (by decide) (fun c9 => ?_) (fun c9 => ?_)
  · rw [if_neg c9] at hf
    exact k_JT_launchX_62 C0 hA X0 res σ x1 x2 x3 x4 hf H locs I ls (q_hsub hl [0, 1, 2, 3, 4] rfl)
  · rw [if_pos c9] at hf
    refine lv_aload_n hx hb d_JT_launch_45 rfl (q_at hl 0 rfl) ?_
    refine G_JT_JT_foregroundJob hx hb htg hown hK hN I d_JT_launch_46 ?_
    refine q_ifnull (tgt := 62) hx hb d_JT_launch_49 (by decide) (fun c10 => ?_) (fun c10 => ?_)
    · rw [if_pos c10] at hf
      exact k_JT_launchX_62 C0 hA X0 res σ x1 x2 x3 x4 hf H locs I ls (q_hsub hl [0, 1, 2, 3, 4] rfl)
    · rw [if_neg c10] at hf
      cases hf
      exact q_thrS (is := 89) (text := "another job is in the foreground") hx hb X0 hown (by decide) I hA ((q_sz hl).trans hml.symm) d_JT_launch_52 d_JT_launch_55 d_JT_launch_56 d_JT_launch_58 d_JT_launch_61 (Nat.le_of_ble_eq_true rfl) (Nat.le_of_ble_eq_true rfl) (Nat.le_of_ble_eq_true rfl) (Nat.le_of_ble_eq_true rfl) hlocks
def f_JT_launchX_31 (σ : q_St) : Option (Bool × q_St) := some (true, σ)
set_option maxHeartbeats 4000000 in
set_option maxRecDepth 100000 in
theorem k_JT_launchX_31 {p : Program} {l : Launch} {e : Env} {s : State} {m : MethodId} {args : Array Value} {below : List Frame} {meth : Method} {c : Code} {D : va_G} {A : Nat → Prop} {ad : Nat → Nat} {cs : Nat → ClassId} (C0 : q_Cx "JobTerminal" b_JT_launch 8 (some .int) w_JT_launch D vwCl (tyL cs) NW p s m args meth c) (hA : ∀ q, s.heap.size ≤ q → A q) (X0 : q_X0 l A s c) (res : (Bool × q_St)) : ∀ (σ : q_St) , f_JT_launchX_31 σ  = some res → ∀ (H : Heap) (locs : List Loc), q_I D vwCl A s.heap (q_ws 33 ad (cC ad cs σ)) H locs → ∀ ls : Array Slot, q_has ls 8 [] → W p l e ({ frames := 6, cells := 1, slots := 6, locals := 82 } : Room) s m args below meth c H locs 0 0 (q_MQX below D vwCl (xE res.1) (q_ws 33 ad (cC ad cs res.2)) args s A) (F0 m 31 ls []) := by
  intro σ  hf H locs I ls hl
  unfold f_JT_launchX_31 at hf
  obtain ⟨hx, hb, hr, hml, hown, hts, hlocks, hK, hN⟩ := id C0
  have htg : ∀ w ∈ GW, w.before args s = true := fun w h => hts w (List.mem_cons_of_mem _ h)
  cases hf
  exact q_thrA (is := 82) (text := "no such program") hx hb X0 hown (by decide) I hA ((q_sz hl).trans hml.symm) d_JT_launch_31 d_JT_launch_34 d_JT_launch_35 d_JT_launch_37 d_JT_launch_40 (Nat.le_of_ble_eq_true rfl) (Nat.le_of_ble_eq_true rfl) (Nat.le_of_ble_eq_true rfl) (Nat.le_of_ble_eq_true rfl) hlocks
def f_JT_launchX_10 (σ : q_St) (x1 : Int32) (x2 : Int32) (x3 : Int32) (y0 : Int32) : Option (Bool × q_St) := q_bnd (f_Programs_hasProgram σ x1) (fun r2 => if r2.1 = 0 then (f_JT_launchX_31 r2.2) else (if y0 = 0 then (f_JT_launchX_41 r2.2 x1 x2 x3 y0) else (q_bnd (f_Programs_hasProgram r2.2 x2) (fun r6 => if r6.1 = 0 then (f_JT_launchX_31 r6.2) else (f_JT_launchX_41 r6.2 x1 x2 x3 y0)))))
set_option maxHeartbeats 4000000 in
set_option maxRecDepth 100000 in
theorem k_JT_launchX_10 {p : Program} {l : Launch} {e : Env} {s : State} {m : MethodId} {args : Array Value} {below : List Frame} {meth : Method} {c : Code} {D : va_G} {A : Nat → Prop} {ad : Nat → Nat} {cs : Nat → ClassId} (C0 : q_Cx "JobTerminal" b_JT_launch 8 (some .int) w_JT_launch D vwCl (tyL cs) NW p s m args meth c) (hA : ∀ q, s.heap.size ≤ q → A q) (X0 : q_X0 l A s c) (res : (Bool × q_St)) : ∀ (σ : q_St) (x1 : Int32) (x2 : Int32) (x3 : Int32) (y0 : Int32) , f_JT_launchX_10 σ x1 x2 x3 y0 = some res → ∀ (H : Heap) (locs : List Loc), q_I D vwCl A s.heap (q_ws 33 ad (cC ad cs σ)) H locs → ∀ ls : Array Slot, q_has ls 8 [(0, .ref (ad 0)), (1, .int x1), (2, .int x2), (3, .int x3)] → W p l e ({ frames := 6, cells := 1, slots := 6, locals := 82 } : Room) s m args below meth c H locs 0 0 (q_MQX below D vwCl (xE res.1) (q_ws 33 ad (cC ad cs res.2)) args s A) (F0 m 10 ls [.int y0]) := by
  intro σ x1 x2 x3 y0 hf H locs I ls hl
  unfold f_JT_launchX_10 at hf
  obtain ⟨hx, hb, hr, hml, hown, hts, hlocks, hK, hN⟩ := id C0
  have htg : ∀ w ∈ GW, w.before args s = true := fun w h => hts w (List.mem_cons_of_mem _ h)
  refine q_istore (lv' := [(4, .int y0), (0, .ref (ad 0)), (1, .int x1), (2, .int x2), (3, .int x3)]) hx hb d_JT_launch_10 hl (by decide) rfl (fun ls hl => ?_)
  refine lv_iload_n hx hb d_JT_launch_12 rfl (q_at hl 2 rfl) ?_
  obtain ⟨r2, e3, hf⟩ := q_bnd_some hf
  refine q_ki hA I (q_runS (As := [.int x1]) (rest := []) ⟨hx, hb, hml, hown, hts⟩ (c_Programs_hasProgram (sz := H.size) e3) (va_cwS 1 hts (q_goodS mw66 mw73 mw68 mw69) rfl rfl rfl (by decide +kernel) ⟨Nat.le_of_ble_eq_true rfl, Nat.le_of_ble_eq_true rfl⟩) NW_ok hK hN I rfl (q_sz hl) rfl (Nat.le_of_ble_eq_true rfl) d_JT_launch_13 ⟨Nat.zero_le _, Nat.zero_le _⟩) (fun H locs I => ?_)
  refine lv_if_eq (tgt := 31) hx hb d_JT_launch_16 (by decide) (fun c4 => ?_) (fun c4 => ?_)
  · rw [if_pos c4] at hf
    exact k_JT_launchX_31 C0 hA X0 res r2.2 hf H locs I ls (q_hsub hl [] rfl)
  · rw [if_neg c4] at hf
    refine lv_iload hx hb d_JT_launch_19 (q_at hl 0 rfl) ?_
    refine lv_if_eq (tgt := 41) hx hb d_JT_launch_21 (by decide) (fun c5 => ?_) (fun c5 => ?_)
    · rw [if_pos c5] at hf
      exact k_JT_launchX_41 C0 hA X0 res r2.2 x1 x2 x3 y0 hf H locs I ls (q_hsub hl [1, 2, 3, 4, 0] rfl)
    · rw [if_neg c5] at hf
      refine lv_iload_n hx hb d_JT_launch_24 rfl (q_at hl 3 rfl) ?_
      obtain ⟨r6, e7, hf⟩ := q_bnd_some hf
      refine q_ki hA I (q_runS (As := [.int x2]) (rest := []) ⟨hx, hb, hml, hown, hts⟩ (c_Programs_hasProgram (sz := H.size) e7) (va_cwS 1 hts (q_goodS mw66 mw73 mw68 mw69) rfl rfl rfl (by decide +kernel) ⟨Nat.le_of_ble_eq_true rfl, Nat.le_of_ble_eq_true rfl⟩) NW_ok hK hN I rfl (q_sz hl) rfl (Nat.le_of_ble_eq_true rfl) d_JT_launch_25 ⟨Nat.zero_le _, Nat.zero_le _⟩) (fun H locs I => ?_)
      refine lv_if_ne (tgt := 41) hx hb d_JT_launch_28 (by decide) (fun c8 => ?_) (fun c8 => ?_)
      · rw [if_neg c8] at hf
        exact k_JT_launchX_41 C0 hA X0 res r6.2 x1 x2 x3 y0 hf H locs I ls (q_hsub hl [1, 2, 3, 4, 0] rfl)
      · rw [if_pos c8] at hf
        exact k_JT_launchX_31 C0 hA X0 res r6.2 hf H locs I ls (q_hsub hl [] rfl)
def f_JT_launchX (σ : q_St) (p1 : Int32) (p2 : Int32) (p3 : Int32) : Option (Bool × q_St) := if p2 = (-1) then (f_JT_launchX_10 σ p1 p2 p3 0) else (f_JT_launchX_10 σ p1 p2 p3 1)
set_option maxHeartbeats 4000000 in
set_option maxRecDepth 100000 in
theorem x_JT_launch {l : Launch} (hls : l.stackTraces = false) {D : va_G} {ad : Nat → Nat} {cs : Nat → ClassId} {sz : Nat} {σ : q_St} {p1 : Int32} {p2 : Int32} {p3 : Int32} {res : (Bool × q_St)} (hf : f_JT_launchX σ p1 p2 p3 = some res) : q_MetX l y_JT_launch w_JT_launch ({ frames := 6, cells := 1, slots := 6, locals := 82 } : Room) (q_PreX D vwCl (tyL cs) NW [.ref (ad 0), .int p1, .int p2, .int p3] (q_ws 33 ad (cC ad cs σ)) sz) D vwCl (xE res.1) (q_ws 33 ad (cC ad cs res.2)) (va_A (q_ws 33 ad (cC ad cs σ)) sz) := by
  refine q_MetX_ofW (cc := b_JT_launch) (maxL := 8) (ret := (some .int)) (by decide) rfl ?_
  intro p e s m args below meth c s₁ B hml hv
  obtain ⟨⟨hargs, hsz, hP, hK, hD0, hN⟩, hX1, hX2, hX3, hX4⟩ := hv
  have hx := B.exec
  have hb := B.bytes
  have hr := B.returns
  have hts := atoms_spec (ws := w_JT_launch) B.pre
  have hown : s.vm.findClass "JobTerminal" = some m.cls := findClass_of_methodNamed B.named
  have hlocks := B.notSynchronized
  have htg : ∀ w ∈ GW, w.before args s = true := fun w h => hts w (List.mem_cons_of_mem _ h)
  subst hsz
  have hD := hD0.self (sz := s.heap.size)
  have X0 : q_X0 l (va_A (q_ws 33 ad (cC ad cs σ)) s.heap.size) s c := ⟨hls, hX1, hX2, hX3, hX4, B.noHandlers (hts _ List.mem_cons_self)⟩
  generalize hAe : va_A (q_ws 33 ad (cC ad cs σ)) s.heap.size = A at hD X0 ⊢
  have hA : ∀ q : Nat, s.heap.size ≤ q → A q := fun q h => by rw [← hAe]; exact Or.inr h
  have I : q_I D vwCl A s.heap (q_ws 33 ad (cC ad cs σ)) s.heap [] := ⟨hP, hD, va_S.rf⟩
  obtain ⟨ls, hen, hl⟩ := q_entry (vs := [.ref (ad 0), .int p1, .int p2, .int p3]) (n := 8) (lv := [(0, .ref (ad 0)), (1, .int p1), (2, .int p2), (3, .int p3)]) (by intro v hv; simp only [List.mem_cons, List.not_mem_nil, or_false] at hv; rcases hv with rfl | rfl | rfl | rfl <;> first | rfl | exact q_cat) (Nat.le_of_ble_eq_true rfl) rfl
  rw [show entryFrame m args 8 = F0 m 0 ls [] from by rw [hargs]; exact hen m]
  have C0 : q_Cx "JobTerminal" b_JT_launch 8 (some .int) w_JT_launch D vwCl (tyL cs) NW p s m args meth c := ⟨hx, hb, hr, hml, hown, hts, hlocks, hK, hN⟩
  unfold f_JT_launchX at hf
  have hgo : ∀ (H : Heap) (locs : List Loc), q_I D vwCl A s.heap (q_ws 33 ad (cC ad cs σ)) H locs → W p l e ({ frames := 6, cells := 1, slots := 6, locals := 82 } : Room) s m args below meth c H locs 0 0 (q_MQX below D vwCl (xE res.1) (q_ws 33 ad (cC ad cs res.2)) args s A) (F0 m 0 ls []) := by
    intro H locs I
    refine lv_iload_n hx hb d_JT_launch_0 rfl (q_at hl 2 rfl) ?_
    refine lv_iconst (v := -1) hx hb d_JT_launch_1 (by decide) ?_
    refine lv_icmp_eq (tgt := 9) hx hb d_JT_launch_2 (by decide) (fun c1 => ?_) (fun c1 => ?_)
    · rw [if_pos c1] at hf
      refine lv_iconst (v := 0) hx hb d_JT_launch_9 (by decide) ?_
      exact k_JT_launchX_10 C0 hA X0 res σ p1 p2 p3 0 hf H locs I ls (q_hsub hl [0, 1, 2, 3] rfl)
    · rw [if_neg c1] at hf
      refine lv_iconst (v := 1) hx hb d_JT_launch_5 (by decide) ?_
      refine lv_goto (tgt := 10) hx hb d_JT_launch_6 (by decide) ?_
      exact k_JT_launchX_10 C0 hA X0 res σ p1 p2 p3 1 hf H locs I ls (q_hsub hl [0, 1, 2, 3] rfl)
  exact hgo _ _ I
-- JobTerminal front
def f_JT_front_45 (σ : q_St) (x2 : Int32) : Option (Int32 × q_St) := q_grd (q_in x2 4) (q_bnd (f_Job_state σ x2.toNatClampNeg) (fun r9 => if r9.1 = 3 then (none) else (q_bnd (f_JT_sendAndSettle (q_up r9.2 20 0 x2) x2 5) (fun r12 => some (r12.1, r12.2)))))
set_option maxHeartbeats 4000000 in
set_option maxRecDepth 100000 in
theorem k_JT_front_45 {p : Program} {l : Launch} {e : Env} {s : State} {m : MethodId} {args : Array Value} {below : List Frame} {meth : Method} {c : Code} {D : va_G} {A : Nat → Prop} {ad : Nat → Nat} {cs : Nat → ClassId} (C0 : q_Cx "JobTerminal" b_JT_front 3 (some .int) w_JT_front D vwCl (tyL cs) NW p s m args meth c) (hA : ∀ q, s.heap.size ≤ q → A q) (res : (Int32 × q_St)) : ∀ (σ : q_St) (x2 : Int32) , f_JT_front_45 σ x2 = some res → ∀ (H : Heap) (locs : List Loc), q_I D vwCl A s.heap (q_ws 33 ad (cC ad cs σ)) H locs → ∀ ls : Array Slot, q_has ls 3 [(0, .ref (ad 0)), (2, q_rv ad 17 x2)] → W p l e ({ frames := 5, cells := 0, slots := 0, locals := 107 } : Room) s m args below meth c H locs 0 0 (MQ below (q_Qi D vwCl res.1 (q_ws 33 ad (cC ad cs res.2)) A) args s 0 0 A) (F0 m 45 ls []) := by
  intro σ x2 hf H locs I ls hl
  unfold f_JT_front_45 at hf
  obtain ⟨hx, hb, hr, hml, hown, hts, hlocks, hK, hN⟩ := id C0
  have htg : ∀ w ∈ GW, w.before args s = true := fun w h => hts w (List.mem_cons_of_mem _ h)
  refine q_aload_n hx hb d_JT_front_45 rfl (q_at hl 1 rfl) ?_
  obtain ⟨o8, hf⟩ := q_grd_some hf
  rw [q_rv_ref (q_in_pos o8)]
  obtain ⟨r9, e10, hf⟩ := q_bnd_some hf
  refine q_ki hA I (q_runV (C := "JobTerminal$Job") (As := []) (rest := []) ⟨hx, hb, hml, hown, hts⟩ (c_Job_state (sz := H.size) (q_in_lt o8) e10) (cwV 0 hts (q_goodV mw175 mw176 mw177 mw178 mw179) rfl rfl rfl (by decide +kernel) ⟨Nat.le_of_ble_eq_true rfl, Nat.le_of_ble_eq_true rfl⟩) NW_ok hK hN I rfl (q_wsE (Nat.lt_of_lt_of_le (Nat.add_lt_add_left (q_in_lt o8) _) (by decide)) (a_C_Job (q_in_lt o8))) rfl (q_sz hl) rfl (Nat.le_of_ble_eq_true rfl) d_JT_front_46 ⟨Nat.zero_le _, Nat.zero_le _⟩) (fun H locs I => ?_)
  refine lv_iconst (v := 3) hx hb d_JT_front_49 (by decide) ?_
  refine lv_icmp_ne (tgt := 63) hx hb d_JT_front_50 (by decide) (fun c11 => ?_) (fun c11 => ?_)
  · rw [if_neg c11] at hf
    refine lv_aload_n hx hb d_JT_front_63 rfl (q_at hl 0 rfl) ?_
    refine q_aload_n hx hb d_JT_front_64 rfl (q_at hl 1 rfl) ?_
    refine P_JT_JT_foregroundJob hx hb htg hown hK hN I d_JT_front_65 (fun H locs I => ?_)
    refine lv_aload_n hx hb d_JT_front_68 rfl (q_at hl 0 rfl) ?_
    refine q_aload_n hx hb d_JT_front_69 rfl (q_at hl 1 rfl) ?_
    refine lv_iconst (v := 5) hx hb d_JT_front_70 (by decide) ?_
    obtain ⟨r12, e13, hf⟩ := q_bnd_some hf
    refine q_ki hA I (q_runV (C := "JobTerminal") (As := [q_rv ad 17 x2, .int 5]) (rest := []) ⟨hx, hb, hml, hown, hts⟩ (c_JT_sendAndSettle (sz := H.size) e13) (cwV 2 hts (q_goodV mw218 mw219 mw220 mw221 mw184) rfl rfl rfl (by decide +kernel) ⟨Nat.le_of_ble_eq_true rfl, Nat.le_of_ble_eq_true rfl⟩) NW_ok hK hN I rfl (q_wsE (by decide) (a_C_JT)) rfl (q_sz hl) rfl (Nat.le_of_ble_eq_true rfl) d_JT_front_71 ⟨Nat.zero_le _, Nat.zero_le _⟩) (fun H locs I => ?_)
    cases hf
    exact q_iret hx hb hr hlocks I d_JT_front_74
  · rw [if_pos c11] at hf
    cases hf
def f_JT_front (σ : q_St) (p1 : Int32) : Option (Int32 × q_St) := q_bnd (f_JT_findJob σ p1) (fun r1 => if r1.1 < 0 then (none) else (if (r1.2 20 0) < 0 then (f_JT_front_45 r1.2 r1.1) else (q_grd (q_okn (r1.2 20 0) 4) (q_grd (q_okn r1.1 4) (if (r1.2 20 0) = r1.1 then (f_JT_front_45 r1.2 r1.1) else (none))))))
set_option maxHeartbeats 4000000 in
set_option maxRecDepth 100000 in
theorem c_JT_front {l : Launch} {D : va_G} {ad : Nat → Nat} {cs : Nat → ClassId} {sz : Nat} {σ : q_St} {p1 : Int32} {res : (Int32 × q_St)} (hf : f_JT_front σ p1 = some res) : Met l y_JT_front w_JT_front ({ frames := 5, cells := 0, slots := 0, locals := 107 } : Room) (q_Pre D vwCl (tyL cs) NW [.ref (ad 0), .int p1] (q_ws 33 ad (cC ad cs σ)) sz) (q_Qi D vwCl res.1 (q_ws 33 ad (cC ad cs res.2)) (va_A (q_ws 33 ad (cC ad cs σ)) sz)) 0 0 (va_A (q_ws 33 ad (cC ad cs σ)) sz) := by
  refine Met.ofW (cc := b_JT_front) (maxL := 3) (ret := (some .int)) (by decide) rfl ?_
  intro p e s m args below meth c s₁ B hml hv
  obtain ⟨hargs, hsz, hP, hK, hD0, hN⟩ := hv
  have hx := B.exec
  have hb := B.bytes
  have hr := B.returns
  have hts := atoms_spec (ws := w_JT_front) B.pre
  have hown : s.vm.findClass "JobTerminal" = some m.cls := findClass_of_methodNamed B.named
  have hlocks := B.notSynchronized
  have htg : ∀ w ∈ GW, w.before args s = true := fun w h => hts w (List.mem_cons_of_mem _ h)
  subst hsz
  have hD := hD0.self (sz := s.heap.size)
  generalize hAe : va_A (q_ws 33 ad (cC ad cs σ)) s.heap.size = A at hD ⊢
  have hA : ∀ q : Nat, s.heap.size ≤ q → A q := fun q h => by rw [← hAe]; exact Or.inr h
  have I : q_I D vwCl A s.heap (q_ws 33 ad (cC ad cs σ)) s.heap [] := ⟨hP, hD, va_S.rf⟩
  obtain ⟨ls, hen, hl⟩ := q_entry (vs := [.ref (ad 0), .int p1]) (n := 3) (lv := [(0, .ref (ad 0)), (1, .int p1)]) (by intro v hv; simp only [List.mem_cons, List.not_mem_nil, or_false] at hv; rcases hv with rfl | rfl <;> first | rfl | exact q_cat) (Nat.le_of_ble_eq_true rfl) rfl
  rw [show entryFrame m args 3 = F0 m 0 ls [] from by rw [hargs]; exact hen m]
  have C0 : q_Cx "JobTerminal" b_JT_front 3 (some .int) w_JT_front D vwCl (tyL cs) NW p s m args meth c := ⟨hx, hb, hr, hml, hown, hts, hlocks, hK, hN⟩
  unfold f_JT_front at hf
  have hgo : ∀ (H : Heap) (locs : List Loc), q_I D vwCl A s.heap (q_ws 33 ad (cC ad cs σ)) H locs → W p l e ({ frames := 5, cells := 0, slots := 0, locals := 107 } : Room) s m args below meth c H locs 0 0 (MQ below (q_Qi D vwCl res.1 (q_ws 33 ad (cC ad cs res.2)) A) args s 0 0 A) (F0 m 0 ls []) := by
    intro H locs I
    refine lv_aload_n hx hb d_JT_front_0 rfl (q_at hl 0 rfl) ?_
    refine lv_iload_n hx hb d_JT_front_1 rfl (q_at hl 1 rfl) ?_
    obtain ⟨r1, e2, hf⟩ := q_bnd_some hf
    refine q_kq hA I (q_runV (C := "JobTerminal") (As := [.int p1]) (rest := []) ⟨hx, hb, hml, hown, hts⟩ (c_JT_findJob (sz := H.size) e2) (cwV 1 hts (q_goodV mw214 mw215 mw216 mw217 mw184) rfl rfl rfl (by decide +kernel) ⟨Nat.le_of_ble_eq_true rfl, Nat.le_of_ble_eq_true rfl⟩) NW_ok hK hN I rfl (q_wsE (by decide) (a_C_JT)) rfl (q_sz hl) rfl (Nat.le_of_ble_eq_true rfl) d_JT_front_2 ⟨Nat.zero_le _, Nat.zero_le _⟩) (fun H locs I => ?_)
    refine q_astoreV_n (lv' := [(2, q_rv ad 17 r1.1), (0, .ref (ad 0)), (1, .int p1)]) hx hb d_JT_front_5 rfl hl (by decide) rfl (fun ls hl => ?_)
    refine q_aload_n hx hb d_JT_front_6 rfl (q_at hl 0 rfl) ?_
    refine q_ifnonnull (tgt := 20) hx hb d_JT_front_7 (by decide) (fun c3 => ?_) (fun c3 => ?_)
    · rw [if_neg c3] at hf
      refine lv_aload_n hx hb d_JT_front_20 rfl (q_at hl 1 rfl) ?_
      refine G_JT_JT_foregroundJob hx hb htg hown hK hN I d_JT_front_21 ?_
      refine q_ifnull (tgt := 45) hx hb d_JT_front_24 (by decide) (fun c4 => ?_) (fun c4 => ?_)
      · rw [if_pos c4] at hf
        exact k_JT_front_45 C0 hA res r1.2 r1.1 hf H locs I ls (q_hsub hl [1, 0] rfl)
      · rw [if_neg c4] at hf
        refine lv_aload_n hx hb d_JT_front_27 rfl (q_at hl 1 rfl) ?_
        refine G_JT_JT_foregroundJob hx hb htg hown hK hN I d_JT_front_28 ?_
        refine q_aload_n hx hb d_JT_front_31 rfl (q_at hl 0 rfl) ?_
        obtain ⟨o6, hf⟩ := q_grd_some hf
        obtain ⟨o7, hf⟩ := q_grd_some hf
        refine q_acmp_eq (b := 17) (n := 4) (tgt := 45) hx hb I.2.1 (by decide) (by decide) o6 o7 d_JT_front_32 (by decide) (fun c5 => ?_) (fun c5 => ?_)
        · rw [if_pos c5] at hf
          exact k_JT_front_45 C0 hA res r1.2 r1.1 hf H locs I ls (q_hsub hl [1, 0] rfl)
        · rw [if_neg c5] at hf
          cases hf
    · rw [if_pos c3] at hf
      cases hf
  exact hgo _ _ I
-- JobTerminal front
def f_JT_frontX_45 (σ : q_St) (x2 : Int32) : Option (Bool × q_St) := q_grd (q_in x2 4) (q_bnd (f_Job_state σ x2.toNatClampNeg) (fun r9 => if r9.1 = 3 then (some (false, r9.2)) else (q_bnd (f_JT_sendAndSettle (q_up r9.2 20 0 x2) x2 5) (fun r12 => none))))
set_option maxHeartbeats 4000000 in
set_option maxRecDepth 100000 in
theorem k_JT_frontX_45 {p : Program} {l : Launch} {e : Env} {s : State} {m : MethodId} {args : Array Value} {below : List Frame} {meth : Method} {c : Code} {D : va_G} {A : Nat → Prop} {ad : Nat → Nat} {cs : Nat → ClassId} (C0 : q_Cx "JobTerminal" b_JT_front 3 (some .int) w_JT_front D vwCl (tyL cs) NW p s m args meth c) (hA : ∀ q, s.heap.size ≤ q → A q) (X0 : q_X0 l A s c) (res : (Bool × q_St)) : ∀ (σ : q_St) (x2 : Int32) , f_JT_frontX_45 σ x2 = some res → ∀ (H : Heap) (locs : List Loc), q_I D vwCl A s.heap (q_ws 33 ad (cC ad cs σ)) H locs → ∀ ls : Array Slot, q_has ls 3 [(0, .ref (ad 0)), (2, q_rv ad 17 x2)] → W p l e ({ frames := 6, cells := 1, slots := 6, locals := 107 } : Room) s m args below meth c H locs 0 0 (q_MQX below D vwCl (xE res.1) (q_ws 33 ad (cC ad cs res.2)) args s A) (F0 m 45 ls []) := by
  intro σ x2 hf H locs I ls hl
  unfold f_JT_frontX_45 at hf
  obtain ⟨hx, hb, hr, hml, hown, hts, hlocks, hK, hN⟩ := id C0
  have htg : ∀ w ∈ GW, w.before args s = true := fun w h => hts w (List.mem_cons_of_mem _ h)
  refine q_aload_n hx hb d_JT_front_45 rfl (q_at hl 1 rfl) ?_
  obtain ⟨o8, hf⟩ := q_grd_some hf
  rw [q_rv_ref (q_in_pos o8)]
  obtain ⟨r9, e10, hf⟩ := q_bnd_some hf
  refine q_ki hA I (q_runV (C := "JobTerminal$Job") (As := []) (rest := []) ⟨hx, hb, hml, hown, hts⟩ (c_Job_state (sz := H.size) (q_in_lt o8) e10) (cwV 0 hts (q_goodV mw175 mw176 mw177 mw178 mw179) rfl rfl rfl (by decide +kernel) ⟨Nat.le_of_ble_eq_true rfl, Nat.le_of_ble_eq_true rfl⟩) NW_ok hK hN I rfl (q_wsE (Nat.lt_of_lt_of_le (Nat.add_lt_add_left (q_in_lt o8) _) (by decide)) (a_C_Job (q_in_lt o8))) rfl (q_sz hl) rfl (Nat.le_of_ble_eq_true rfl) d_JT_front_46 ⟨Nat.zero_le _, Nat.zero_le _⟩) (fun H locs I => ?_)
  refine lv_iconst (v := 3) hx hb d_JT_front_49 (by decide) ?_
  refine lv_icmp_ne (tgt := 63) hx hb d_JT_front_50 (by decide) (fun c11 => ?_) (fun c11 => ?_)
  · rw [if_neg c11] at hf
    refine lv_aload_n hx hb d_JT_front_63 rfl (q_at hl 0 rfl) ?_
    refine q_aload_n hx hb d_JT_front_64 rfl (q_at hl 1 rfl) ?_
    refine P_JT_JT_foregroundJob hx hb htg hown hK hN I d_JT_front_65 (fun H locs I => ?_)
    refine lv_aload_n hx hb d_JT_front_68 rfl (q_at hl 0 rfl) ?_
    refine q_aload_n hx hb d_JT_front_69 rfl (q_at hl 1 rfl) ?_
    refine lv_iconst (v := 5) hx hb d_JT_front_70 (by decide) ?_
    obtain ⟨r12, e13, hf⟩ := q_bnd_some hf
    refine q_ki hA I (q_runV (C := "JobTerminal") (As := [q_rv ad 17 x2, .int 5]) (rest := []) ⟨hx, hb, hml, hown, hts⟩ (c_JT_sendAndSettle (sz := H.size) e13) (cwV 2 hts (q_goodV mw218 mw219 mw220 mw221 mw184) rfl rfl rfl (by decide +kernel) ⟨Nat.le_of_ble_eq_true rfl, Nat.le_of_ble_eq_true rfl⟩) NW_ok hK hN I rfl (q_wsE (by decide) (a_C_JT)) rfl (q_sz hl) rfl (Nat.le_of_ble_eq_true rfl) d_JT_front_71 ⟨Nat.zero_le _, Nat.zero_le _⟩) (fun H locs I => ?_)
    cases hf
  · rw [if_pos c11] at hf
    cases hf
    exact q_thrS (is := 124) (text := "the job is done") hx hb X0 hown (by decide) I hA ((q_sz hl).trans hml.symm) d_JT_front_53 d_JT_front_56 d_JT_front_57 d_JT_front_59 d_JT_front_62 (Nat.le_of_ble_eq_true rfl) (Nat.le_of_ble_eq_true rfl) (Nat.le_of_ble_eq_true rfl) (Nat.le_of_ble_eq_true rfl) hlocks
def f_JT_frontX (σ : q_St) (p1 : Int32) : Option (Bool × q_St) := q_bnd (f_JT_findJob σ p1) (fun r1 => if r1.1 < 0 then (some (true, r1.2)) else (if (r1.2 20 0) < 0 then (f_JT_frontX_45 r1.2 r1.1) else (q_grd (q_okn (r1.2 20 0) 4) (q_grd (q_okn r1.1 4) (if (r1.2 20 0) = r1.1 then (f_JT_frontX_45 r1.2 r1.1) else (some (false, r1.2)))))))
set_option maxHeartbeats 4000000 in
set_option maxRecDepth 100000 in
theorem x_JT_front {l : Launch} (hls : l.stackTraces = false) {D : va_G} {ad : Nat → Nat} {cs : Nat → ClassId} {sz : Nat} {σ : q_St} {p1 : Int32} {res : (Bool × q_St)} (hf : f_JT_frontX σ p1 = some res) : q_MetX l y_JT_front w_JT_front ({ frames := 6, cells := 1, slots := 6, locals := 107 } : Room) (q_PreX D vwCl (tyL cs) NW [.ref (ad 0), .int p1] (q_ws 33 ad (cC ad cs σ)) sz) D vwCl (xE res.1) (q_ws 33 ad (cC ad cs res.2)) (va_A (q_ws 33 ad (cC ad cs σ)) sz) := by
  refine q_MetX_ofW (cc := b_JT_front) (maxL := 3) (ret := (some .int)) (by decide) rfl ?_
  intro p e s m args below meth c s₁ B hml hv
  obtain ⟨⟨hargs, hsz, hP, hK, hD0, hN⟩, hX1, hX2, hX3, hX4⟩ := hv
  have hx := B.exec
  have hb := B.bytes
  have hr := B.returns
  have hts := atoms_spec (ws := w_JT_front) B.pre
  have hown : s.vm.findClass "JobTerminal" = some m.cls := findClass_of_methodNamed B.named
  have hlocks := B.notSynchronized
  have htg : ∀ w ∈ GW, w.before args s = true := fun w h => hts w (List.mem_cons_of_mem _ h)
  subst hsz
  have hD := hD0.self (sz := s.heap.size)
  have X0 : q_X0 l (va_A (q_ws 33 ad (cC ad cs σ)) s.heap.size) s c := ⟨hls, hX1, hX2, hX3, hX4, B.noHandlers (hts _ List.mem_cons_self)⟩
  generalize hAe : va_A (q_ws 33 ad (cC ad cs σ)) s.heap.size = A at hD X0 ⊢
  have hA : ∀ q : Nat, s.heap.size ≤ q → A q := fun q h => by rw [← hAe]; exact Or.inr h
  have I : q_I D vwCl A s.heap (q_ws 33 ad (cC ad cs σ)) s.heap [] := ⟨hP, hD, va_S.rf⟩
  obtain ⟨ls, hen, hl⟩ := q_entry (vs := [.ref (ad 0), .int p1]) (n := 3) (lv := [(0, .ref (ad 0)), (1, .int p1)]) (by intro v hv; simp only [List.mem_cons, List.not_mem_nil, or_false] at hv; rcases hv with rfl | rfl <;> first | rfl | exact q_cat) (Nat.le_of_ble_eq_true rfl) rfl
  rw [show entryFrame m args 3 = F0 m 0 ls [] from by rw [hargs]; exact hen m]
  have C0 : q_Cx "JobTerminal" b_JT_front 3 (some .int) w_JT_front D vwCl (tyL cs) NW p s m args meth c := ⟨hx, hb, hr, hml, hown, hts, hlocks, hK, hN⟩
  unfold f_JT_frontX at hf
  have hgo : ∀ (H : Heap) (locs : List Loc), q_I D vwCl A s.heap (q_ws 33 ad (cC ad cs σ)) H locs → W p l e ({ frames := 6, cells := 1, slots := 6, locals := 107 } : Room) s m args below meth c H locs 0 0 (q_MQX below D vwCl (xE res.1) (q_ws 33 ad (cC ad cs res.2)) args s A) (F0 m 0 ls []) := by
    intro H locs I
    refine lv_aload_n hx hb d_JT_front_0 rfl (q_at hl 0 rfl) ?_
    refine lv_iload_n hx hb d_JT_front_1 rfl (q_at hl 1 rfl) ?_
    obtain ⟨r1, e2, hf⟩ := q_bnd_some hf
    refine q_kq hA I (q_runV (C := "JobTerminal") (As := [.int p1]) (rest := []) ⟨hx, hb, hml, hown, hts⟩ (c_JT_findJob (sz := H.size) e2) (cwV 1 hts (q_goodV mw214 mw215 mw216 mw217 mw184) rfl rfl rfl (by decide +kernel) ⟨Nat.le_of_ble_eq_true rfl, Nat.le_of_ble_eq_true rfl⟩) NW_ok hK hN I rfl (q_wsE (by decide) (a_C_JT)) rfl (q_sz hl) rfl (Nat.le_of_ble_eq_true rfl) d_JT_front_2 ⟨Nat.zero_le _, Nat.zero_le _⟩) (fun H locs I => ?_)
    refine q_astoreV_n (lv' := [(2, q_rv ad 17 r1.1), (0, .ref (ad 0)), (1, .int p1)]) hx hb d_JT_front_5 rfl hl (by decide) rfl (fun ls hl => ?_)
    refine q_aload_n hx hb d_JT_front_6 rfl (q_at hl 0 rfl) ?_
    refine q_ifnonnull (tgt := 20) hx hb d_JT_front_7 (by decide) (fun c3 => ?_) (fun c3 => ?_)
    · rw [if_neg c3] at hf
      refine lv_aload_n hx hb d_JT_front_20 rfl (q_at hl 1 rfl) ?_
      refine G_JT_JT_foregroundJob hx hb htg hown hK hN I d_JT_front_21 ?_
      refine q_ifnull (tgt := 45) hx hb d_JT_front_24 (by decide) (fun c4 => ?_) (fun c4 => ?_)
      · rw [if_pos c4] at hf
        exact k_JT_frontX_45 C0 hA X0 res r1.2 r1.1 hf H locs I ls (q_hsub hl [1, 0] rfl)
      · rw [if_neg c4] at hf
        refine lv_aload_n hx hb d_JT_front_27 rfl (q_at hl 1 rfl) ?_
        refine G_JT_JT_foregroundJob hx hb htg hown hK hN I d_JT_front_28 ?_
        refine q_aload_n hx hb d_JT_front_31 rfl (q_at hl 0 rfl) ?_
        obtain ⟨o6, hf⟩ := q_grd_some hf
        obtain ⟨o7, hf⟩ := q_grd_some hf
        refine q_acmp_eq (b := 17) (n := 4) (tgt := 45) hx hb I.2.1 (by decide) (by decide) o6 o7 d_JT_front_32 (by decide) (fun c5 => ?_) (fun c5 => ?_)
        · rw [if_pos c5] at hf
          exact k_JT_frontX_45 C0 hA X0 res r1.2 r1.1 hf H locs I ls (q_hsub hl [1, 0] rfl)
        · rw [if_neg c5] at hf
          cases hf
          exact q_thrS (is := 89) (text := "another job is in the foreground") hx hb X0 hown (by decide) I hA ((q_sz hl).trans hml.symm) d_JT_front_35 d_JT_front_38 d_JT_front_39 d_JT_front_41 d_JT_front_44 (Nat.le_of_ble_eq_true rfl) (Nat.le_of_ble_eq_true rfl) (Nat.le_of_ble_eq_true rfl) (Nat.le_of_ble_eq_true rfl) hlocks
    · rw [if_pos c3] at hf
      cases hf
      exact q_thrA (is := 118) (text := "no such job") hx hb X0 hown (by decide) I hA ((q_sz hl).trans hml.symm) d_JT_front_10 d_JT_front_13 d_JT_front_14 d_JT_front_16 d_JT_front_19 (Nat.le_of_ble_eq_true rfl) (Nat.le_of_ble_eq_true rfl) (Nat.le_of_ble_eq_true rfl) (Nat.le_of_ble_eq_true rfl) hlocks
  exact hgo _ _ I
-- JobTerminal back
def f_JT_back_51 (σ : q_St) (x2 : Int32) : Option (Int32 × q_St) := q_bnd (f_JT_sendAndSettle σ x2 5) (fun r11 => some (r11.1, r11.2))
set_option maxHeartbeats 4000000 in
set_option maxRecDepth 100000 in
theorem k_JT_back_51 {p : Program} {l : Launch} {e : Env} {s : State} {m : MethodId} {args : Array Value} {below : List Frame} {meth : Method} {c : Code} {D : va_G} {A : Nat → Prop} {ad : Nat → Nat} {cs : Nat → ClassId} (C0 : q_Cx "JobTerminal" b_JT_back 3 (some .int) w_JT_back D vwCl (tyL cs) NW p s m args meth c) (hA : ∀ q, s.heap.size ≤ q → A q) (res : (Int32 × q_St)) : ∀ (σ : q_St) (x2 : Int32) , f_JT_back_51 σ x2 = some res → ∀ (H : Heap) (locs : List Loc), q_I D vwCl A s.heap (q_ws 33 ad (cC ad cs σ)) H locs → ∀ ls : Array Slot, q_has ls 3 [(0, .ref (ad 0)), (2, q_rv ad 17 x2)] → W p l e ({ frames := 5, cells := 0, slots := 0, locals := 107 } : Room) s m args below meth c H locs 0 0 (MQ below (q_Qi D vwCl res.1 (q_ws 33 ad (cC ad cs res.2)) A) args s 0 0 A) (F0 m 51 ls []) := by
  intro σ x2 hf H locs I ls hl
  unfold f_JT_back_51 at hf
  obtain ⟨hx, hb, hr, hml, hown, hts, hlocks, hK, hN⟩ := id C0
  have htg : ∀ w ∈ GW, w.before args s = true := fun w h => hts w (List.mem_cons_of_mem _ h)
  refine lv_aload_n hx hb d_JT_back_51 rfl (q_at hl 0 rfl) ?_
  refine q_aload_n hx hb d_JT_back_52 rfl (q_at hl 1 rfl) ?_
  refine lv_iconst (v := 5) hx hb d_JT_back_53 (by decide) ?_
  obtain ⟨r11, e12, hf⟩ := q_bnd_some hf
  refine q_ki hA I (q_runV (C := "JobTerminal") (As := [q_rv ad 17 x2, .int 5]) (rest := []) ⟨hx, hb, hml, hown, hts⟩ (c_JT_sendAndSettle (sz := H.size) e12) (cwV 2 hts (q_goodV mw218 mw219 mw220 mw221 mw184) rfl rfl rfl (by decide +kernel) ⟨Nat.le_of_ble_eq_true rfl, Nat.le_of_ble_eq_true rfl⟩) NW_ok hK hN I rfl (q_wsE (by decide) (a_C_JT)) rfl (q_sz hl) rfl (Nat.le_of_ble_eq_true rfl) d_JT_back_54 ⟨Nat.zero_le _, Nat.zero_le _⟩) (fun H locs I => ?_)
  cases hf
  exact q_iret hx hb hr hlocks I d_JT_back_57
def f_JT_back (σ : q_St) (p1 : Int32) : Option (Int32 × q_St) := q_bnd (f_JT_findJob σ p1) (fun r1 => if r1.1 < 0 then (none) else (q_grd (q_in r1.1 4) (q_bnd (f_Job_state r1.2 r1.1.toNatClampNeg) (fun r5 => if r5.1 = 3 then (none) else (q_grd (q_okn (r5.2 20 0) 4) (q_grd (q_okn r1.1 4) (if (r5.2 20 0) = r1.1 then (f_JT_back_51 (q_up r5.2 20 0 (-1)) r1.1) else (f_JT_back_51 r5.2 r1.1))))))))
set_option maxHeartbeats 4000000 in
set_option maxRecDepth 100000 in
theorem c_JT_back {l : Launch} {D : va_G} {ad : Nat → Nat} {cs : Nat → ClassId} {sz : Nat} {σ : q_St} {p1 : Int32} {res : (Int32 × q_St)} (hf : f_JT_back σ p1 = some res) : Met l y_JT_back w_JT_back ({ frames := 5, cells := 0, slots := 0, locals := 107 } : Room) (q_Pre D vwCl (tyL cs) NW [.ref (ad 0), .int p1] (q_ws 33 ad (cC ad cs σ)) sz) (q_Qi D vwCl res.1 (q_ws 33 ad (cC ad cs res.2)) (va_A (q_ws 33 ad (cC ad cs σ)) sz)) 0 0 (va_A (q_ws 33 ad (cC ad cs σ)) sz) := by
  refine Met.ofW (cc := b_JT_back) (maxL := 3) (ret := (some .int)) (by decide) rfl ?_
  intro p e s m args below meth c s₁ B hml hv
  obtain ⟨hargs, hsz, hP, hK, hD0, hN⟩ := hv
  have hx := B.exec
  have hb := B.bytes
  have hr := B.returns
  have hts := atoms_spec (ws := w_JT_back) B.pre
  have hown : s.vm.findClass "JobTerminal" = some m.cls := findClass_of_methodNamed B.named
  have hlocks := B.notSynchronized
  have htg : ∀ w ∈ GW, w.before args s = true := fun w h => hts w (List.mem_cons_of_mem _ h)
  subst hsz
  have hD := hD0.self (sz := s.heap.size)
  generalize hAe : va_A (q_ws 33 ad (cC ad cs σ)) s.heap.size = A at hD ⊢
  have hA : ∀ q : Nat, s.heap.size ≤ q → A q := fun q h => by rw [← hAe]; exact Or.inr h
  have I : q_I D vwCl A s.heap (q_ws 33 ad (cC ad cs σ)) s.heap [] := ⟨hP, hD, va_S.rf⟩
  obtain ⟨ls, hen, hl⟩ := q_entry (vs := [.ref (ad 0), .int p1]) (n := 3) (lv := [(0, .ref (ad 0)), (1, .int p1)]) (by intro v hv; simp only [List.mem_cons, List.not_mem_nil, or_false] at hv; rcases hv with rfl | rfl <;> first | rfl | exact q_cat) (Nat.le_of_ble_eq_true rfl) rfl
  rw [show entryFrame m args 3 = F0 m 0 ls [] from by rw [hargs]; exact hen m]
  have C0 : q_Cx "JobTerminal" b_JT_back 3 (some .int) w_JT_back D vwCl (tyL cs) NW p s m args meth c := ⟨hx, hb, hr, hml, hown, hts, hlocks, hK, hN⟩
  unfold f_JT_back at hf
  have hgo : ∀ (H : Heap) (locs : List Loc), q_I D vwCl A s.heap (q_ws 33 ad (cC ad cs σ)) H locs → W p l e ({ frames := 5, cells := 0, slots := 0, locals := 107 } : Room) s m args below meth c H locs 0 0 (MQ below (q_Qi D vwCl res.1 (q_ws 33 ad (cC ad cs res.2)) A) args s 0 0 A) (F0 m 0 ls []) := by
    intro H locs I
    refine lv_aload_n hx hb d_JT_back_0 rfl (q_at hl 0 rfl) ?_
    refine lv_iload_n hx hb d_JT_back_1 rfl (q_at hl 1 rfl) ?_
    obtain ⟨r1, e2, hf⟩ := q_bnd_some hf
    refine q_kq hA I (q_runV (C := "JobTerminal") (As := [.int p1]) (rest := []) ⟨hx, hb, hml, hown, hts⟩ (c_JT_findJob (sz := H.size) e2) (cwV 1 hts (q_goodV mw214 mw215 mw216 mw217 mw184) rfl rfl rfl (by decide +kernel) ⟨Nat.le_of_ble_eq_true rfl, Nat.le_of_ble_eq_true rfl⟩) NW_ok hK hN I rfl (q_wsE (by decide) (a_C_JT)) rfl (q_sz hl) rfl (Nat.le_of_ble_eq_true rfl) d_JT_back_2 ⟨Nat.zero_le _, Nat.zero_le _⟩) (fun H locs I => ?_)
    refine q_astoreV_n (lv' := [(2, q_rv ad 17 r1.1), (0, .ref (ad 0)), (1, .int p1)]) hx hb d_JT_back_5 rfl hl (by decide) rfl (fun ls hl => ?_)
    refine q_aload_n hx hb d_JT_back_6 rfl (q_at hl 0 rfl) ?_
    refine q_ifnonnull (tgt := 20) hx hb d_JT_back_7 (by decide) (fun c3 => ?_) (fun c3 => ?_)
    · rw [if_neg c3] at hf
      refine q_aload_n hx hb d_JT_back_20 rfl (q_at hl 0 rfl) ?_
      obtain ⟨o4, hf⟩ := q_grd_some hf
      rw [q_rv_ref (q_in_pos o4)]
      obtain ⟨r5, e6, hf⟩ := q_bnd_some hf
      refine q_ki hA I (q_runV (C := "JobTerminal$Job") (As := []) (rest := []) ⟨hx, hb, hml, hown, hts⟩ (c_Job_state (sz := H.size) (q_in_lt o4) e6) (cwV 0 hts (q_goodV mw175 mw176 mw177 mw178 mw179) rfl rfl rfl (by decide +kernel) ⟨Nat.le_of_ble_eq_true rfl, Nat.le_of_ble_eq_true rfl⟩) NW_ok hK hN I rfl (q_wsE (Nat.lt_of_lt_of_le (Nat.add_lt_add_left (q_in_lt o4) _) (by decide)) (a_C_Job (q_in_lt o4))) rfl (q_sz hl) rfl (Nat.le_of_ble_eq_true rfl) d_JT_back_21 ⟨Nat.zero_le _, Nat.zero_le _⟩) (fun H locs I => ?_)
      refine lv_iconst (v := 3) hx hb d_JT_back_24 (by decide) ?_
      refine lv_icmp_ne (tgt := 38) hx hb d_JT_back_25 (by decide) (fun c7 => ?_) (fun c7 => ?_)
      · rw [if_neg c7] at hf
        refine lv_aload_n hx hb d_JT_back_38 rfl (q_at hl 1 rfl) ?_
        refine G_JT_JT_foregroundJob hx hb htg hown hK hN I d_JT_back_39 ?_
        refine q_aload_n hx hb d_JT_back_42 rfl (q_at hl 0 rfl) ?_
        obtain ⟨o9, hf⟩ := q_grd_some hf
        obtain ⟨o10, hf⟩ := q_grd_some hf
        refine q_acmp_ne (b := 17) (n := 4) (tgt := 51) hx hb I.2.1 (by decide) (by decide) o9 o10 d_JT_back_43 (by decide) (fun c8 => ?_) (fun c8 => ?_)
        · rw [if_neg c8] at hf
          exact k_JT_back_51 C0 hA res r5.2 r1.1 hf H locs I ls (q_hsub hl [1, 0] rfl)
        · rw [if_pos c8] at hf
          refine lv_aload_n hx hb d_JT_back_46 rfl (q_at hl 1 rfl) ?_
          refine q_null (ad := ad) hx hb 17 d_JT_back_47 ?_
          refine P_JT_JT_foregroundJob hx hb htg hown hK hN I d_JT_back_48 (fun H locs I => ?_)
          exact k_JT_back_51 C0 hA res (q_up r5.2 20 0 (-1)) r1.1 hf H locs I ls (q_hsub hl [1, 0] rfl)
      · rw [if_pos c7] at hf
        cases hf
    · rw [if_pos c3] at hf
      cases hf
  exact hgo _ _ I
-- JobTerminal back
def f_JT_backX_51 (σ : q_St) (x2 : Int32) : Option (Bool × q_St) := q_bnd (f_JT_sendAndSettle σ x2 5) (fun r11 => none)
set_option maxHeartbeats 4000000 in
set_option maxRecDepth 100000 in
theorem k_JT_backX_51 {p : Program} {l : Launch} {e : Env} {s : State} {m : MethodId} {args : Array Value} {below : List Frame} {meth : Method} {c : Code} {D : va_G} {A : Nat → Prop} {ad : Nat → Nat} {cs : Nat → ClassId} (C0 : q_Cx "JobTerminal" b_JT_back 3 (some .int) w_JT_back D vwCl (tyL cs) NW p s m args meth c) (hA : ∀ q, s.heap.size ≤ q → A q) (X0 : q_X0 l A s c) (res : (Bool × q_St)) : ∀ (σ : q_St) (x2 : Int32) , f_JT_backX_51 σ x2 = some res → ∀ (H : Heap) (locs : List Loc), q_I D vwCl A s.heap (q_ws 33 ad (cC ad cs σ)) H locs → ∀ ls : Array Slot, q_has ls 3 [(0, .ref (ad 0)), (2, q_rv ad 17 x2)] → W p l e ({ frames := 6, cells := 1, slots := 6, locals := 107 } : Room) s m args below meth c H locs 0 0 (q_MQX below D vwCl (xE res.1) (q_ws 33 ad (cC ad cs res.2)) args s A) (F0 m 51 ls []) := by
  intro σ x2 hf H locs I ls hl
  unfold f_JT_backX_51 at hf
  obtain ⟨hx, hb, hr, hml, hown, hts, hlocks, hK, hN⟩ := id C0
  have htg : ∀ w ∈ GW, w.before args s = true := fun w h => hts w (List.mem_cons_of_mem _ h)
  refine lv_aload_n hx hb d_JT_back_51 rfl (q_at hl 0 rfl) ?_
  refine q_aload_n hx hb d_JT_back_52 rfl (q_at hl 1 rfl) ?_
  refine lv_iconst (v := 5) hx hb d_JT_back_53 (by decide) ?_
  obtain ⟨r11, e12, hf⟩ := q_bnd_some hf
  refine q_ki hA I (q_runV (C := "JobTerminal") (As := [q_rv ad 17 x2, .int 5]) (rest := []) ⟨hx, hb, hml, hown, hts⟩ (c_JT_sendAndSettle (sz := H.size) e12) (cwV 2 hts (q_goodV mw218 mw219 mw220 mw221 mw184) rfl rfl rfl (by decide +kernel) ⟨Nat.le_of_ble_eq_true rfl, Nat.le_of_ble_eq_true rfl⟩) NW_ok hK hN I rfl (q_wsE (by decide) (a_C_JT)) rfl (q_sz hl) rfl (Nat.le_of_ble_eq_true rfl) d_JT_back_54 ⟨Nat.zero_le _, Nat.zero_le _⟩) (fun H locs I => ?_)
  cases hf
def f_JT_backX (σ : q_St) (p1 : Int32) : Option (Bool × q_St) := q_bnd (f_JT_findJob σ p1) (fun r1 => if r1.1 < 0 then (some (true, r1.2)) else (q_grd (q_in r1.1 4) (q_bnd (f_Job_state r1.2 r1.1.toNatClampNeg) (fun r5 => if r5.1 = 3 then (some (false, r5.2)) else (q_grd (q_okn (r5.2 20 0) 4) (q_grd (q_okn r1.1 4) (if (r5.2 20 0) = r1.1 then (f_JT_backX_51 (q_up r5.2 20 0 (-1)) r1.1) else (f_JT_backX_51 r5.2 r1.1))))))))
set_option maxHeartbeats 4000000 in
set_option maxRecDepth 100000 in
theorem x_JT_back {l : Launch} (hls : l.stackTraces = false) {D : va_G} {ad : Nat → Nat} {cs : Nat → ClassId} {sz : Nat} {σ : q_St} {p1 : Int32} {res : (Bool × q_St)} (hf : f_JT_backX σ p1 = some res) : q_MetX l y_JT_back w_JT_back ({ frames := 6, cells := 1, slots := 6, locals := 107 } : Room) (q_PreX D vwCl (tyL cs) NW [.ref (ad 0), .int p1] (q_ws 33 ad (cC ad cs σ)) sz) D vwCl (xE res.1) (q_ws 33 ad (cC ad cs res.2)) (va_A (q_ws 33 ad (cC ad cs σ)) sz) := by
  refine q_MetX_ofW (cc := b_JT_back) (maxL := 3) (ret := (some .int)) (by decide) rfl ?_
  intro p e s m args below meth c s₁ B hml hv
  obtain ⟨⟨hargs, hsz, hP, hK, hD0, hN⟩, hX1, hX2, hX3, hX4⟩ := hv
  have hx := B.exec
  have hb := B.bytes
  have hr := B.returns
  have hts := atoms_spec (ws := w_JT_back) B.pre
  have hown : s.vm.findClass "JobTerminal" = some m.cls := findClass_of_methodNamed B.named
  have hlocks := B.notSynchronized
  have htg : ∀ w ∈ GW, w.before args s = true := fun w h => hts w (List.mem_cons_of_mem _ h)
  subst hsz
  have hD := hD0.self (sz := s.heap.size)
  have X0 : q_X0 l (va_A (q_ws 33 ad (cC ad cs σ)) s.heap.size) s c := ⟨hls, hX1, hX2, hX3, hX4, B.noHandlers (hts _ List.mem_cons_self)⟩
  generalize hAe : va_A (q_ws 33 ad (cC ad cs σ)) s.heap.size = A at hD X0 ⊢
  have hA : ∀ q : Nat, s.heap.size ≤ q → A q := fun q h => by rw [← hAe]; exact Or.inr h
  have I : q_I D vwCl A s.heap (q_ws 33 ad (cC ad cs σ)) s.heap [] := ⟨hP, hD, va_S.rf⟩
  obtain ⟨ls, hen, hl⟩ := q_entry (vs := [.ref (ad 0), .int p1]) (n := 3) (lv := [(0, .ref (ad 0)), (1, .int p1)]) (by intro v hv; simp only [List.mem_cons, List.not_mem_nil, or_false] at hv; rcases hv with rfl | rfl <;> first | rfl | exact q_cat) (Nat.le_of_ble_eq_true rfl) rfl
  rw [show entryFrame m args 3 = F0 m 0 ls [] from by rw [hargs]; exact hen m]
  have C0 : q_Cx "JobTerminal" b_JT_back 3 (some .int) w_JT_back D vwCl (tyL cs) NW p s m args meth c := ⟨hx, hb, hr, hml, hown, hts, hlocks, hK, hN⟩
  unfold f_JT_backX at hf
  have hgo : ∀ (H : Heap) (locs : List Loc), q_I D vwCl A s.heap (q_ws 33 ad (cC ad cs σ)) H locs → W p l e ({ frames := 6, cells := 1, slots := 6, locals := 107 } : Room) s m args below meth c H locs 0 0 (q_MQX below D vwCl (xE res.1) (q_ws 33 ad (cC ad cs res.2)) args s A) (F0 m 0 ls []) := by
    intro H locs I
    refine lv_aload_n hx hb d_JT_back_0 rfl (q_at hl 0 rfl) ?_
    refine lv_iload_n hx hb d_JT_back_1 rfl (q_at hl 1 rfl) ?_
    obtain ⟨r1, e2, hf⟩ := q_bnd_some hf
    refine q_kq hA I (q_runV (C := "JobTerminal") (As := [.int p1]) (rest := []) ⟨hx, hb, hml, hown, hts⟩ (c_JT_findJob (sz := H.size) e2) (cwV 1 hts (q_goodV mw214 mw215 mw216 mw217 mw184) rfl rfl rfl (by decide +kernel) ⟨Nat.le_of_ble_eq_true rfl, Nat.le_of_ble_eq_true rfl⟩) NW_ok hK hN I rfl (q_wsE (by decide) (a_C_JT)) rfl (q_sz hl) rfl (Nat.le_of_ble_eq_true rfl) d_JT_back_2 ⟨Nat.zero_le _, Nat.zero_le _⟩) (fun H locs I => ?_)
    refine q_astoreV_n (lv' := [(2, q_rv ad 17 r1.1), (0, .ref (ad 0)), (1, .int p1)]) hx hb d_JT_back_5 rfl hl (by decide) rfl (fun ls hl => ?_)
    refine q_aload_n hx hb d_JT_back_6 rfl (q_at hl 0 rfl) ?_
    refine q_ifnonnull (tgt := 20) hx hb d_JT_back_7 (by decide) (fun c3 => ?_) (fun c3 => ?_)
    · rw [if_neg c3] at hf
      refine q_aload_n hx hb d_JT_back_20 rfl (q_at hl 0 rfl) ?_
      obtain ⟨o4, hf⟩ := q_grd_some hf
      rw [q_rv_ref (q_in_pos o4)]
      obtain ⟨r5, e6, hf⟩ := q_bnd_some hf
      refine q_ki hA I (q_runV (C := "JobTerminal$Job") (As := []) (rest := []) ⟨hx, hb, hml, hown, hts⟩ (c_Job_state (sz := H.size) (q_in_lt o4) e6) (cwV 0 hts (q_goodV mw175 mw176 mw177 mw178 mw179) rfl rfl rfl (by decide +kernel) ⟨Nat.le_of_ble_eq_true rfl, Nat.le_of_ble_eq_true rfl⟩) NW_ok hK hN I rfl (q_wsE (Nat.lt_of_lt_of_le (Nat.add_lt_add_left (q_in_lt o4) _) (by decide)) (a_C_Job (q_in_lt o4))) rfl (q_sz hl) rfl (Nat.le_of_ble_eq_true rfl) d_JT_back_21 ⟨Nat.zero_le _, Nat.zero_le _⟩) (fun H locs I => ?_)
      refine lv_iconst (v := 3) hx hb d_JT_back_24 (by decide) ?_
      refine lv_icmp_ne (tgt := 38) hx hb d_JT_back_25 (by decide) (fun c7 => ?_) (fun c7 => ?_)
      · rw [if_neg c7] at hf
        refine lv_aload_n hx hb d_JT_back_38 rfl (q_at hl 1 rfl) ?_
        refine G_JT_JT_foregroundJob hx hb htg hown hK hN I d_JT_back_39 ?_
        refine q_aload_n hx hb d_JT_back_42 rfl (q_at hl 0 rfl) ?_
        obtain ⟨o9, hf⟩ := q_grd_some hf
        obtain ⟨o10, hf⟩ := q_grd_some hf
        refine q_acmp_ne (b := 17) (n := 4) (tgt := 51) hx hb I.2.1 (by decide) (by decide) o9 o10 d_JT_back_43 (by decide) (fun c8 => ?_) (fun c8 => ?_)
        · rw [if_neg c8] at hf
          exact k_JT_backX_51 C0 hA X0 res r5.2 r1.1 hf H locs I ls (q_hsub hl [1, 0] rfl)
        · rw [if_pos c8] at hf
          refine lv_aload_n hx hb d_JT_back_46 rfl (q_at hl 1 rfl) ?_
          refine q_null (ad := ad) hx hb 17 d_JT_back_47 ?_
          refine P_JT_JT_foregroundJob hx hb htg hown hK hN I d_JT_back_48 (fun H locs I => ?_)
          exact k_JT_backX_51 C0 hA X0 res (q_up r5.2 20 0 (-1)) r1.1 hf H locs I ls (q_hsub hl [1, 0] rfl)
      · rw [if_pos c7] at hf
        cases hf
        exact q_thrS (is := 124) (text := "the job is done") hx hb X0 hown (by decide) I hA ((q_sz hl).trans hml.symm) d_JT_back_28 d_JT_back_31 d_JT_back_32 d_JT_back_34 d_JT_back_37 (Nat.le_of_ble_eq_true rfl) (Nat.le_of_ble_eq_true rfl) (Nat.le_of_ble_eq_true rfl) (Nat.le_of_ble_eq_true rfl) hlocks
    · rw [if_pos c3] at hf
      cases hf
      exact q_thrA (is := 118) (text := "no such job") hx hb X0 hown (by decide) I hA ((q_sz hl).trans hml.symm) d_JT_back_10 d_JT_back_13 d_JT_back_14 d_JT_back_16 d_JT_back_19 (Nat.le_of_ble_eq_true rfl) (Nat.le_of_ble_eq_true rfl) (Nat.le_of_ble_eq_true rfl) (Nat.le_of_ble_eq_true rfl) hlocks
  exact hgo _ _ I
-- JobTerminal send
def f_JT_send_30 (σ : q_St) : Option (Int32 × q_St) := none
set_option maxHeartbeats 4000000 in
set_option maxRecDepth 100000 in
theorem k_JT_send_30 {p : Program} {l : Launch} {e : Env} {s : State} {m : MethodId} {args : Array Value} {below : List Frame} {meth : Method} {c : Code} {D : va_G} {A : Nat → Prop} {ad : Nat → Nat} {cs : Nat → ClassId} (C0 : q_Cx "JobTerminal" b_JT_send 4 (some .int) w_JT_send D vwCl (tyL cs) NW p s m args meth c) (hA : ∀ q, s.heap.size ≤ q → A q) (res : (Int32 × q_St)) : ∀ (σ : q_St) , f_JT_send_30 σ  = some res → ∀ (H : Heap) (locs : List Loc), q_I D vwCl A s.heap (q_ws 33 ad (cC ad cs σ)) H locs → ∀ ls : Array Slot, q_has ls 4 [] → W p l e ({ frames := 5, cells := 0, slots := 0, locals := 107 } : Room) s m args below meth c H locs 0 0 (MQ below (q_Qi D vwCl res.1 (q_ws 33 ad (cC ad cs res.2)) A) args s 0 0 A) (F0 m 30 ls []) := by
  intro σ  hf H locs I ls hl
  unfold f_JT_send_30 at hf
  obtain ⟨hx, hb, hr, hml, hown, hts, hlocks, hK, hN⟩ := id C0
  have htg : ∀ w ∈ GW, w.before args s = true := fun w h => hts w (List.mem_cons_of_mem _ h)
  cases hf
def f_JT_send (σ : q_St) (p1 : Int32) (p2 : Int32) : Option (Int32 × q_St) := q_bnd (f_JT_findJob σ p1) (fun r1 => if r1.1 < 0 then (none) else (if p2 < 0 then (f_JT_send_30 r1.2) else (if p2 ≤ 9 then (q_bnd (f_JT_sendAndSettle r1.2 r1.1 p2) (fun r6 => some (r6.1, r6.2))) else (f_JT_send_30 r1.2))))
set_option maxHeartbeats 4000000 in
set_option maxRecDepth 100000 in
theorem c_JT_send {l : Launch} {D : va_G} {ad : Nat → Nat} {cs : Nat → ClassId} {sz : Nat} {σ : q_St} {p1 : Int32} {p2 : Int32} {res : (Int32 × q_St)} (hf : f_JT_send σ p1 p2 = some res) : Met l y_JT_send w_JT_send ({ frames := 5, cells := 0, slots := 0, locals := 107 } : Room) (q_Pre D vwCl (tyL cs) NW [.ref (ad 0), .int p1, .int p2] (q_ws 33 ad (cC ad cs σ)) sz) (q_Qi D vwCl res.1 (q_ws 33 ad (cC ad cs res.2)) (va_A (q_ws 33 ad (cC ad cs σ)) sz)) 0 0 (va_A (q_ws 33 ad (cC ad cs σ)) sz) := by
  refine Met.ofW (cc := b_JT_send) (maxL := 4) (ret := (some .int)) (by decide) rfl ?_
  intro p e s m args below meth c s₁ B hml hv
  obtain ⟨hargs, hsz, hP, hK, hD0, hN⟩ := hv
  have hx := B.exec
  have hb := B.bytes
  have hr := B.returns
  have hts := atoms_spec (ws := w_JT_send) B.pre
  have hown : s.vm.findClass "JobTerminal" = some m.cls := findClass_of_methodNamed B.named
  have hlocks := B.notSynchronized
  have htg : ∀ w ∈ GW, w.before args s = true := fun w h => hts w (List.mem_cons_of_mem _ h)
  subst hsz
  have hD := hD0.self (sz := s.heap.size)
  generalize hAe : va_A (q_ws 33 ad (cC ad cs σ)) s.heap.size = A at hD ⊢
  have hA : ∀ q : Nat, s.heap.size ≤ q → A q := fun q h => by rw [← hAe]; exact Or.inr h
  have I : q_I D vwCl A s.heap (q_ws 33 ad (cC ad cs σ)) s.heap [] := ⟨hP, hD, va_S.rf⟩
  obtain ⟨ls, hen, hl⟩ := q_entry (vs := [.ref (ad 0), .int p1, .int p2]) (n := 4) (lv := [(0, .ref (ad 0)), (1, .int p1), (2, .int p2)]) (by intro v hv; simp only [List.mem_cons, List.not_mem_nil, or_false] at hv; rcases hv with rfl | rfl | rfl <;> first | rfl | exact q_cat) (Nat.le_of_ble_eq_true rfl) rfl
  rw [show entryFrame m args 4 = F0 m 0 ls [] from by rw [hargs]; exact hen m]
  have C0 : q_Cx "JobTerminal" b_JT_send 4 (some .int) w_JT_send D vwCl (tyL cs) NW p s m args meth c := ⟨hx, hb, hr, hml, hown, hts, hlocks, hK, hN⟩
  unfold f_JT_send at hf
  have hgo : ∀ (H : Heap) (locs : List Loc), q_I D vwCl A s.heap (q_ws 33 ad (cC ad cs σ)) H locs → W p l e ({ frames := 5, cells := 0, slots := 0, locals := 107 } : Room) s m args below meth c H locs 0 0 (MQ below (q_Qi D vwCl res.1 (q_ws 33 ad (cC ad cs res.2)) A) args s 0 0 A) (F0 m 0 ls []) := by
    intro H locs I
    refine lv_aload_n hx hb d_JT_send_0 rfl (q_at hl 0 rfl) ?_
    refine lv_iload_n hx hb d_JT_send_1 rfl (q_at hl 1 rfl) ?_
    obtain ⟨r1, e2, hf⟩ := q_bnd_some hf
    refine q_kq hA I (q_runV (C := "JobTerminal") (As := [.int p1]) (rest := []) ⟨hx, hb, hml, hown, hts⟩ (c_JT_findJob (sz := H.size) e2) (cwV 1 hts (q_goodV mw214 mw215 mw216 mw217 mw184) rfl rfl rfl (by decide +kernel) ⟨Nat.le_of_ble_eq_true rfl, Nat.le_of_ble_eq_true rfl⟩) NW_ok hK hN I rfl (q_wsE (by decide) (a_C_JT)) rfl (q_sz hl) rfl (Nat.le_of_ble_eq_true rfl) d_JT_send_2 ⟨Nat.zero_le _, Nat.zero_le _⟩) (fun H locs I => ?_)
    refine q_astoreV_n (lv' := [(3, q_rv ad 17 r1.1), (0, .ref (ad 0)), (1, .int p1), (2, .int p2)]) hx hb d_JT_send_5 rfl hl (by decide) rfl (fun ls hl => ?_)
    refine q_aload_n hx hb d_JT_send_6 rfl (q_at hl 0 rfl) ?_
    refine q_ifnonnull (tgt := 20) hx hb d_JT_send_7 (by decide) (fun c3 => ?_) (fun c3 => ?_)
    · rw [if_neg c3] at hf
      refine lv_iload_n hx hb d_JT_send_20 rfl (q_at hl 3 rfl) ?_
      refine lv_if_lt (tgt := 30) hx hb d_JT_send_21 (by decide) (fun c4 => ?_) (fun c4 => ?_)
      · rw [if_pos c4] at hf
        exact k_JT_send_30 C0 hA res r1.2 hf H locs I ls (q_hsub hl [] rfl)
      · rw [if_neg c4] at hf
        refine lv_iload_n hx hb d_JT_send_24 rfl (q_at hl 3 rfl) ?_
        refine lv_bipush (v := 9) hx hb d_JT_send_25 (by decide) ?_
        refine lv_icmp_le (tgt := 40) hx hb d_JT_send_27 (by decide) (fun c5 => ?_) (fun c5 => ?_)
        · rw [if_pos c5] at hf
          refine lv_aload_n hx hb d_JT_send_40 rfl (q_at hl 1 rfl) ?_
          refine q_aload_n hx hb d_JT_send_41 rfl (q_at hl 0 rfl) ?_
          refine lv_iload_n hx hb d_JT_send_42 rfl (q_at hl 3 rfl) ?_
          obtain ⟨r6, e7, hf⟩ := q_bnd_some hf
          refine q_ki hA I (q_runV (C := "JobTerminal") (As := [q_rv ad 17 r1.1, .int p2]) (rest := []) ⟨hx, hb, hml, hown, hts⟩ (c_JT_sendAndSettle (sz := H.size) e7) (cwV 2 hts (q_goodV mw218 mw219 mw220 mw221 mw184) rfl rfl rfl (by decide +kernel) ⟨Nat.le_of_ble_eq_true rfl, Nat.le_of_ble_eq_true rfl⟩) NW_ok hK hN I rfl (q_wsE (by decide) (a_C_JT)) rfl (q_sz hl) rfl (Nat.le_of_ble_eq_true rfl) d_JT_send_43 ⟨Nat.zero_le _, Nat.zero_le _⟩) (fun H locs I => ?_)
          cases hf
          exact q_iret hx hb hr hlocks I d_JT_send_46
        · rw [if_neg c5] at hf
          exact k_JT_send_30 C0 hA res r1.2 hf H locs I ls (q_hsub hl [] rfl)
    · rw [if_pos c3] at hf
      cases hf
  exact hgo _ _ I
-- JobTerminal send
def f_JT_sendX_30 (σ : q_St) : Option (Bool × q_St) := some (true, σ)
set_option maxHeartbeats 4000000 in
set_option maxRecDepth 100000 in
theorem k_JT_sendX_30 {p : Program} {l : Launch} {e : Env} {s : State} {m : MethodId} {args : Array Value} {below : List Frame} {meth : Method} {c : Code} {D : va_G} {A : Nat → Prop} {ad : Nat → Nat} {cs : Nat → ClassId} (C0 : q_Cx "JobTerminal" b_JT_send 4 (some .int) w_JT_send D vwCl (tyL cs) NW p s m args meth c) (hA : ∀ q, s.heap.size ≤ q → A q) (X0 : q_X0 l A s c) (res : (Bool × q_St)) : ∀ (σ : q_St) , f_JT_sendX_30 σ  = some res → ∀ (H : Heap) (locs : List Loc), q_I D vwCl A s.heap (q_ws 33 ad (cC ad cs σ)) H locs → ∀ ls : Array Slot, q_has ls 4 [] → W p l e ({ frames := 6, cells := 1, slots := 6, locals := 107 } : Room) s m args below meth c H locs 0 0 (q_MQX below D vwCl (xE res.1) (q_ws 33 ad (cC ad cs res.2)) args s A) (F0 m 30 ls []) := by
  intro σ  hf H locs I ls hl
  unfold f_JT_sendX_30 at hf
  obtain ⟨hx, hb, hr, hml, hown, hts, hlocks, hK, hN⟩ := id C0
  have htg : ∀ w ∈ GW, w.before args s = true := fun w h => hts w (List.mem_cons_of_mem _ h)
  cases hf
  exact q_thrA (is := 130) (text := "no such signal") hx hb X0 hown (by decide) I hA ((q_sz hl).trans hml.symm) d_JT_send_30 d_JT_send_33 d_JT_send_34 d_JT_send_36 d_JT_send_39 (Nat.le_of_ble_eq_true rfl) (Nat.le_of_ble_eq_true rfl) (Nat.le_of_ble_eq_true rfl) (Nat.le_of_ble_eq_true rfl) hlocks
def f_JT_sendX (σ : q_St) (p1 : Int32) (p2 : Int32) : Option (Bool × q_St) := q_bnd (f_JT_findJob σ p1) (fun r1 => if r1.1 < 0 then (some (true, r1.2)) else (if p2 < 0 then (f_JT_sendX_30 r1.2) else (if p2 ≤ 9 then (q_bnd (f_JT_sendAndSettle r1.2 r1.1 p2) (fun r6 => none)) else (f_JT_sendX_30 r1.2))))
set_option maxHeartbeats 4000000 in
set_option maxRecDepth 100000 in
theorem x_JT_send {l : Launch} (hls : l.stackTraces = false) {D : va_G} {ad : Nat → Nat} {cs : Nat → ClassId} {sz : Nat} {σ : q_St} {p1 : Int32} {p2 : Int32} {res : (Bool × q_St)} (hf : f_JT_sendX σ p1 p2 = some res) : q_MetX l y_JT_send w_JT_send ({ frames := 6, cells := 1, slots := 6, locals := 107 } : Room) (q_PreX D vwCl (tyL cs) NW [.ref (ad 0), .int p1, .int p2] (q_ws 33 ad (cC ad cs σ)) sz) D vwCl (xE res.1) (q_ws 33 ad (cC ad cs res.2)) (va_A (q_ws 33 ad (cC ad cs σ)) sz) := by
  refine q_MetX_ofW (cc := b_JT_send) (maxL := 4) (ret := (some .int)) (by decide) rfl ?_
  intro p e s m args below meth c s₁ B hml hv
  obtain ⟨⟨hargs, hsz, hP, hK, hD0, hN⟩, hX1, hX2, hX3, hX4⟩ := hv
  have hx := B.exec
  have hb := B.bytes
  have hr := B.returns
  have hts := atoms_spec (ws := w_JT_send) B.pre
  have hown : s.vm.findClass "JobTerminal" = some m.cls := findClass_of_methodNamed B.named
  have hlocks := B.notSynchronized
  have htg : ∀ w ∈ GW, w.before args s = true := fun w h => hts w (List.mem_cons_of_mem _ h)
  subst hsz
  have hD := hD0.self (sz := s.heap.size)
  have X0 : q_X0 l (va_A (q_ws 33 ad (cC ad cs σ)) s.heap.size) s c := ⟨hls, hX1, hX2, hX3, hX4, B.noHandlers (hts _ List.mem_cons_self)⟩
  generalize hAe : va_A (q_ws 33 ad (cC ad cs σ)) s.heap.size = A at hD X0 ⊢
  have hA : ∀ q : Nat, s.heap.size ≤ q → A q := fun q h => by rw [← hAe]; exact Or.inr h
  have I : q_I D vwCl A s.heap (q_ws 33 ad (cC ad cs σ)) s.heap [] := ⟨hP, hD, va_S.rf⟩
  obtain ⟨ls, hen, hl⟩ := q_entry (vs := [.ref (ad 0), .int p1, .int p2]) (n := 4) (lv := [(0, .ref (ad 0)), (1, .int p1), (2, .int p2)]) (by intro v hv; simp only [List.mem_cons, List.not_mem_nil, or_false] at hv; rcases hv with rfl | rfl | rfl <;> first | rfl | exact q_cat) (Nat.le_of_ble_eq_true rfl) rfl
  rw [show entryFrame m args 4 = F0 m 0 ls [] from by rw [hargs]; exact hen m]
  have C0 : q_Cx "JobTerminal" b_JT_send 4 (some .int) w_JT_send D vwCl (tyL cs) NW p s m args meth c := ⟨hx, hb, hr, hml, hown, hts, hlocks, hK, hN⟩
  unfold f_JT_sendX at hf
  have hgo : ∀ (H : Heap) (locs : List Loc), q_I D vwCl A s.heap (q_ws 33 ad (cC ad cs σ)) H locs → W p l e ({ frames := 6, cells := 1, slots := 6, locals := 107 } : Room) s m args below meth c H locs 0 0 (q_MQX below D vwCl (xE res.1) (q_ws 33 ad (cC ad cs res.2)) args s A) (F0 m 0 ls []) := by
    intro H locs I
    refine lv_aload_n hx hb d_JT_send_0 rfl (q_at hl 0 rfl) ?_
    refine lv_iload_n hx hb d_JT_send_1 rfl (q_at hl 1 rfl) ?_
    obtain ⟨r1, e2, hf⟩ := q_bnd_some hf
    refine q_kq hA I (q_runV (C := "JobTerminal") (As := [.int p1]) (rest := []) ⟨hx, hb, hml, hown, hts⟩ (c_JT_findJob (sz := H.size) e2) (cwV 1 hts (q_goodV mw214 mw215 mw216 mw217 mw184) rfl rfl rfl (by decide +kernel) ⟨Nat.le_of_ble_eq_true rfl, Nat.le_of_ble_eq_true rfl⟩) NW_ok hK hN I rfl (q_wsE (by decide) (a_C_JT)) rfl (q_sz hl) rfl (Nat.le_of_ble_eq_true rfl) d_JT_send_2 ⟨Nat.zero_le _, Nat.zero_le _⟩) (fun H locs I => ?_)
    refine q_astoreV_n (lv' := [(3, q_rv ad 17 r1.1), (0, .ref (ad 0)), (1, .int p1), (2, .int p2)]) hx hb d_JT_send_5 rfl hl (by decide) rfl (fun ls hl => ?_)
    refine q_aload_n hx hb d_JT_send_6 rfl (q_at hl 0 rfl) ?_
    refine q_ifnonnull (tgt := 20) hx hb d_JT_send_7 (by decide) (fun c3 => ?_) (fun c3 => ?_)
    · rw [if_neg c3] at hf
      refine lv_iload_n hx hb d_JT_send_20 rfl (q_at hl 3 rfl) ?_
      refine lv_if_lt (tgt := 30) hx hb d_JT_send_21 (by decide) (fun c4 => ?_) (fun c4 => ?_)
      · rw [if_pos c4] at hf
        exact k_JT_sendX_30 C0 hA X0 res r1.2 hf H locs I ls (q_hsub hl [] rfl)
      · rw [if_neg c4] at hf
        refine lv_iload_n hx hb d_JT_send_24 rfl (q_at hl 3 rfl) ?_
        refine lv_bipush (v := 9) hx hb d_JT_send_25 (by decide) ?_
        refine lv_icmp_le (tgt := 40) hx hb d_JT_send_27 (by decide) (fun c5 => ?_) (fun c5 => ?_)
        · rw [if_pos c5] at hf
          refine lv_aload_n hx hb d_JT_send_40 rfl (q_at hl 1 rfl) ?_
          refine q_aload_n hx hb d_JT_send_41 rfl (q_at hl 0 rfl) ?_
          refine lv_iload_n hx hb d_JT_send_42 rfl (q_at hl 3 rfl) ?_
          obtain ⟨r6, e7, hf⟩ := q_bnd_some hf
          refine q_ki hA I (q_runV (C := "JobTerminal") (As := [q_rv ad 17 r1.1, .int p2]) (rest := []) ⟨hx, hb, hml, hown, hts⟩ (c_JT_sendAndSettle (sz := H.size) e7) (cwV 2 hts (q_goodV mw218 mw219 mw220 mw221 mw184) rfl rfl rfl (by decide +kernel) ⟨Nat.le_of_ble_eq_true rfl, Nat.le_of_ble_eq_true rfl⟩) NW_ok hK hN I rfl (q_wsE (by decide) (a_C_JT)) rfl (q_sz hl) rfl (Nat.le_of_ble_eq_true rfl) d_JT_send_43 ⟨Nat.zero_le _, Nat.zero_le _⟩) (fun H locs I => ?_)
          cases hf
        · rw [if_neg c5] at hf
          exact k_JT_sendX_30 C0 hA X0 res r1.2 hf H locs I ls (q_hsub hl [] rfl)
    · rw [if_pos c3] at hf
      cases hf
      exact q_thrA (is := 118) (text := "no such job") hx hb X0 hown (by decide) I hA ((q_sz hl).trans hml.symm) d_JT_send_10 d_JT_send_13 d_JT_send_14 d_JT_send_16 d_JT_send_19 (Nat.le_of_ble_eq_true rfl) (Nat.le_of_ble_eq_true rfl) (Nat.le_of_ble_eq_true rfl) (Nat.le_of_ble_eq_true rfl) hlocks
  exact hgo _ _ I
