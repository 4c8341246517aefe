/-! CONSTRUCTORS -/
def q_Qc (D : va_G) (cl : List vw_C) (post : (Nat → Nat) → va_W) (A : Nat → Prop) : Array Value → State → Outcome → State → Prop := va_Qv (fun (_ : Nat → Nat) => True) (fun u t => va_P D cl (post u) t.heap ∧ va_D A (post u)) A
theorem q_goodI {a b : Cond} (hb : b ∈ GW) : GoodIn (a :: GW) (b :: GW) := by
  intro w hw
  have k : w ∈ GW := by
    rcases List.mem_cons.mp hw with rfl | hw <;> assumption
  exact ⟨List.mem_cons_of_mem _ k, (q_gw k).2⟩
theorem q_cA_int {D : va_G} {cs : Nat → ClassId} {cA : ClassId} {s : State} (h : va_K D vwCl (tyL cs ++ [(cA, .int)]) s) : cA = cs 0 := by
  have h1 := (h.2 5 (cA, .int) rfl).2
  have h2 := (h.2 0 (cs 0, .int) rfl).2
  exact Option.some.inj ((show s.vm.findClass _ = some cA from h1).symm.trans h2)
theorem q_cA_boolean {D : va_G} {cs : Nat → ClassId} {cA : ClassId} {s : State} (h : va_K D vwCl (tyL cs ++ [(cA, .boolean)]) s) : cA = cs 1 := by
  have h1 := (h.2 5 (cA, .boolean) rfl).2
  have h2 := (h.2 1 (cs 1, .boolean) rfl).2
  exact Option.some.inj ((show s.vm.findClass _ = some cA from h1).symm.trans h2)
theorem q_cA_2 {D : va_G} {cs : Nat → ClassId} {cA : ClassId} {s : State} (h : va_K D vwCl (tyL cs ++ [(cA, .object "JobTerminal$JobProcess")]) s) : cA = cs 2 := by
  obtain ⟨_, _, _, _, _, h1⟩ := (h.2 5 _ rfl).2
  obtain ⟨_, _, _, _, _, h2⟩ := (h.2 2 _ rfl).2
  exact Option.some.inj (h1.symm.trans h2)
theorem q_cA_3 {D : va_G} {cs : Nat → ClassId} {cA : ClassId} {s : State} (h : va_K D vwCl (tyL cs ++ [(cA, .object "JobTerminal$Job")]) s) : cA = cs 3 := by
  obtain ⟨_, _, _, _, _, h1⟩ := (h.2 5 _ rfl).2
  obtain ⟨_, _, _, _, _, h2⟩ := (h.2 3 _ rfl).2
  exact Option.some.inj (h1.symm.trans h2)
-- JobTerminal$Programs <init>
set_option maxHeartbeats 4000000 in
set_option maxRecDepth 100000 in
theorem c_Programs_init {l : Launch} {D : va_G} {cs : Nat → ClassId} {sz h0 : Nat} : Met l y_Programs_init w_Programs_init ({ frames := 1, cells := 2, slots := 128, locals := 12 } : Room) (q_Pre D vwCl (tyL cs) NW [.ref h0] [(h0, .inr (4, [.null, .null]))] sz) (q_Qc D vwCl (fun u => [(h0, .inr (4, [.ref (u 0), .ref (u 1)])), (u 0, .inl (cs 0, 64, .inl (fun _ => 0))), (u 1, .inl (cs 0, 64, .inl (fun _ => 0)))]) (va_A [(h0, .inr (4, [.null, .null]))] sz)) 2 128 (va_A [(h0, .inr (4, [.null, .null]))] sz) := by
  refine Met.ofW (cc := b_Programs_init) (maxL := 1) (ret := none) (by decide) rfl ?_
  intro p e s m args below meth c s₁ B hml hv
  obtain ⟨hargs, hsz, hP, hK, hD0, hN⟩ := hv
  have hx := B.exec
  have hb := B.bytes
  have hr := B.returns
  have hts := atoms_spec (ws := w_Programs_init) B.pre
  have hown : s.vm.findClass "JobTerminal$Programs" = some m.cls := findClass_of_methodNamed B.named
  have hlocks := B.notSynchronized
  have hin : meth.name = "<init>" := (name_of_methodNamed B.named B.method).1
  have htg : ∀ w ∈ GW, w.before args s = true := fun w h => hts w (List.mem_cons_of_mem _ h)
  subst hsz
  have hD := hD0.self (sz := s.heap.size)
  generalize hAe : va_A [(h0, .inr (4, [.null, .null]))] s.heap.size = A at hD ⊢
  have hA : ∀ q : Nat, s.heap.size ≤ q → A q := fun q h => by rw [← hAe]; exact Or.inr h
  have hS : va_S A s.heap s.heap [] := va_S.rf
  obtain ⟨ls, hen, hl⟩ := q_entry (vs := [.ref h0]) (n := 1) (lv := [(0, .ref h0)]) (by intro v hv; simp only [List.mem_cons, List.not_mem_nil, or_false] at hv; rcases hv with rfl <;> first | rfl | exact q_cat) (Nat.le_of_ble_eq_true rfl) rfl
  rw [show entryFrame m args 1 = F0 m 0 ls [] from by rw [hargs]; exact hen m]
  refine lv_aload_n hx hb d_Programs_init_0 rfl (q_at hl 0 rfl) ?_
  refine W.objInit hx hb hown (htg _ mw505) (htg _ mw506) (htg _ mw507) rfl (by rw [hml]; exact q_sz hl) rfl d_Programs_init_1 (Nat.le_of_ble_eq_true rfl) (Nat.le_of_ble_eq_true rfl) ?_
  refine W.eq (g2 := F0 m 4 ls []) rfl ?_
  refine lv_aload_n hx hb d_Programs_init_4 rfl (q_at hl 0 rfl) ?_
  refine lv_bipush (v := 64) hx hb d_Programs_init_5 (by decide) ?_
  refine va_newa (atype := .int) (ty := .int) (N' := 64) (a0 := (64, .inl (fun _ => 0))) hx hb (htg _ mw508) rfl hK hP hD hS hA (fun _ => rfl) (by decide) (by decide) (by decide) (Nat.le_of_ble_eq_true rfl) (Nat.le_of_ble_eq_true rfl) d_Programs_init_7 (fun q1 cA H hK9 hP hD hS => ?_)
  obtain rfl : cA = cs 0 := q_cA_int hK9
  have hP : va_P D vwCl [(h0, .inr (4, [.null, .null])), (q1, .inl (cs 0, 64, .inl (fun _ => 0)))] H := hP
  have hD : va_D A [(h0, .inr (4, [.null, .null])), (q1, .inl (cs 0, 64, .inl (fun _ => 0)))] := hD
  refine va_putF (D := D) (ci := 4) (v := .ref q1) (ty := .array .int) (C := R_Programs) (T := F_Programs) (N := 2) hx hb htg i_Programs t_Programs t_Programs_ok n_Programs hown hK hP hD hS 0 rfl rfl 0 (by decide) (htg _ mw353) (fun _ h9 => h9) rfl hin rfl (by decide +kernel) rfl rfl (Nat.le_of_ble_eq_true rfl) d_Programs_init_9 (fun H locs hP hD hS => ?_)
  have hP : va_P D vwCl [(h0, .inr (4, [.ref q1, .null])), (q1, .inl (cs 0, 64, .inl (fun _ => 0)))] H := hP
  have hD : va_D A [(h0, .inr (4, [.ref q1, .null])), (q1, .inl (cs 0, 64, .inl (fun _ => 0)))] := hD
  refine lv_aload_n hx hb d_Programs_init_12 rfl (q_at hl 0 rfl) ?_
  refine lv_bipush (v := 64) hx hb d_Programs_init_13 (by decide) ?_
  refine va_newa (atype := .int) (ty := .int) (N' := 64) (a0 := (64, .inl (fun _ => 0))) hx hb (htg _ mw508) rfl hK hP hD hS hA (fun _ => rfl) (by decide) (by decide) (by decide) (Nat.le_of_ble_eq_true rfl) (Nat.le_of_ble_eq_true rfl) d_Programs_init_15 (fun q2 cA H hK9 hP hD hS => ?_)
  obtain rfl : cA = cs 0 := q_cA_int hK9
  have hP : va_P D vwCl [(h0, .inr (4, [.ref q1, .null])), (q1, .inl (cs 0, 64, .inl (fun _ => 0))), (q2, .inl (cs 0, 64, .inl (fun _ => 0)))] H := hP
  have hD : va_D A [(h0, .inr (4, [.ref q1, .null])), (q1, .inl (cs 0, 64, .inl (fun _ => 0))), (q2, .inl (cs 0, 64, .inl (fun _ => 0)))] := hD
  refine va_putF (D := D) (ci := 4) (v := .ref q2) (ty := .array .int) (C := R_Programs) (T := F_Programs) (N := 2) hx hb htg i_Programs t_Programs t_Programs_ok n_Programs hown hK hP hD hS 0 rfl rfl 1 (by decide) (htg _ mw352) (fun _ h9 => h9) rfl hin rfl (by decide +kernel) rfl rfl (Nat.le_of_ble_eq_true rfl) d_Programs_init_17 (fun H locs hP hD hS => ?_)
  have hP : va_P D vwCl [(h0, .inr (4, [.ref q1, .ref q2])), (q1, .inl (cs 0, 64, .inl (fun _ => 0))), (q2, .inl (cs 0, 64, .inl (fun _ => 0)))] H := hP
  have hD : va_D A [(h0, .inr (4, [.ref q1, .ref q2])), (q1, .inl (cs 0, 64, .inl (fun _ => 0))), (q2, .inl (cs 0, 64, .inl (fun _ => 0)))] := hD
  refine W.widen (k := 2) (n := 128) (Nat.le_of_ble_eq_true rfl) (Nat.le_of_ble_eq_true rfl) ?_
  exact W.vret hx hb hr (fun t ht hW => ⟨⟨(fun k => [q1, q2].getD k 0), rfl, trivial, by rw [ht]; exact hP, hD⟩, hS.F ht⟩) hS.2.2 d_Programs_init_20
-- JobTerminal$Display <init>
set_option maxHeartbeats 4000000 in
set_option maxRecDepth 100000 in
theorem c_Display_init {l : Launch} {D : va_G} {cs : Nat → ClassId} {sz h0 : Nat} : Met l y_Display_init w_Display_init ({ frames := 1, cells := 1, slots := 100, locals := 12 } : Room) (q_Pre D vwCl (tyL cs) NW [.ref h0] [(h0, .inr (0, [.null, .int 0, .int 0]))] sz) (q_Qc D vwCl (fun u => [(h0, .inr (0, [.ref (u 0), .int 0, .int 0])), (u 0, .inl (cs 0, 100, .inl (fun _ => 0)))]) (va_A [(h0, .inr (0, [.null, .int 0, .int 0]))] sz)) 1 100 (va_A [(h0, .inr (0, [.null, .int 0, .int 0]))] sz) := by
  refine Met.ofW (cc := b_Display_init) (maxL := 1) (ret := none) (by decide) rfl ?_
  intro p e s m args below meth c s₁ B hml hv
  obtain ⟨hargs, hsz, hP, hK, hD0, hN⟩ := hv
  have hx := B.exec
  have hb := B.bytes
  have hr := B.returns
  have hts := atoms_spec (ws := w_Display_init) B.pre
  have hown : s.vm.findClass "JobTerminal$Display" = some m.cls := findClass_of_methodNamed B.named
  have hlocks := B.notSynchronized
  have hin : meth.name = "<init>" := (name_of_methodNamed B.named B.method).1
  have htg : ∀ w ∈ GW, w.before args s = true := fun w h => hts w (List.mem_cons_of_mem _ h)
  subst hsz
  have hD := hD0.self (sz := s.heap.size)
  generalize hAe : va_A [(h0, .inr (0, [.null, .int 0, .int 0]))] s.heap.size = A at hD ⊢
  have hA : ∀ q : Nat, s.heap.size ≤ q → A q := fun q h => by rw [← hAe]; exact Or.inr h
  have hS : va_S A s.heap s.heap [] := va_S.rf
  obtain ⟨ls, hen, hl⟩ := q_entry (vs := [.ref h0]) (n := 1) (lv := [(0, .ref h0)]) (by intro v hv; simp only [List.mem_cons, List.not_mem_nil, or_false] at hv; rcases hv with rfl <;> first | rfl | exact q_cat) (Nat.le_of_ble_eq_true rfl) rfl
  rw [show entryFrame m args 1 = F0 m 0 ls [] from by rw [hargs]; exact hen m]
  refine lv_aload_n hx hb d_Display_init_0 rfl (q_at hl 0 rfl) ?_
  refine W.objInit hx hb hown (htg _ mw509) (htg _ mw506) (htg _ mw507) rfl (by rw [hml]; exact q_sz hl) rfl d_Display_init_1 (Nat.le_of_ble_eq_true rfl) (Nat.le_of_ble_eq_true rfl) ?_
  refine W.eq (g2 := F0 m 4 ls []) rfl ?_
  refine lv_aload_n hx hb d_Display_init_4 rfl (q_at hl 0 rfl) ?_
  refine lv_bipush (v := 100) hx hb d_Display_init_5 (by decide) ?_
  refine va_newa (atype := .int) (ty := .int) (N' := 100) (a0 := (100, .inl (fun _ => 0))) hx hb (htg _ mw508) rfl hK hP hD hS hA (fun _ => rfl) (by decide) (by decide) (by decide) (Nat.le_of_ble_eq_true rfl) (Nat.le_of_ble_eq_true rfl) d_Display_init_7 (fun q1 cA H hK9 hP hD hS => ?_)
  obtain rfl : cA = cs 0 := q_cA_int hK9
  have hP : va_P D vwCl [(h0, .inr (0, [.null, .int 0, .int 0])), (q1, .inl (cs 0, 100, .inl (fun _ => 0)))] H := hP
  have hD : va_D A [(h0, .inr (0, [.null, .int 0, .int 0])), (q1, .inl (cs 0, 100, .inl (fun _ => 0)))] := hD
  refine va_putF (D := D) (ci := 0) (v := .ref q1) (ty := .array .int) (C := R_Display) (T := F_Display) (N := 3) hx hb htg i_Display t_Display t_Display_ok n_Display hown hK hP hD hS 0 rfl rfl 0 (by decide) (htg _ mw334) (fun _ h9 => h9) rfl hin rfl (by decide +kernel) rfl rfl (Nat.le_of_ble_eq_true rfl) d_Display_init_9 (fun H locs hP hD hS => ?_)
  have hP : va_P D vwCl [(h0, .inr (0, [.ref q1, .int 0, .int 0])), (q1, .inl (cs 0, 100, .inl (fun _ => 0)))] H := hP
  have hD : va_D A [(h0, .inr (0, [.ref q1, .int 0, .int 0])), (q1, .inl (cs 0, 100, .inl (fun _ => 0)))] := hD
  refine W.widen (k := 1) (n := 100) (Nat.le_of_ble_eq_true rfl) (Nat.le_of_ble_eq_true rfl) ?_
  exact W.vret hx hb hr (fun t ht hW => ⟨⟨(fun k => [q1].getD k 0), rfl, trivial, by rw [ht]; exact hP, hD⟩, hS.F ht⟩) hS.2.2 d_Display_init_12
-- JobTerminal$JobProcess <init>
set_option maxHeartbeats 4000000 in
set_option maxRecDepth 100000 in
theorem c_JobProcess_init {l : Launch} {D : va_G} {cs : Nat → ClassId} {sz h0 : Nat} : Met l y_JobProcess_init w_JobProcess_init ({ frames := 1, cells := 0, slots := 0, locals := 12 } : Room) (q_Pre D vwCl (tyL cs) NW [.ref h0] [(h0, .inr (2, [.null, .int 0, .int 0, .int 0, .int 0, .int 0, .int 0, .int 0, .int 0, .int 0]))] sz) (q_Qc D vwCl (fun u => [(h0, .inr (2, [.null, .int 0, .int 0, .int 0, .int 0, .int 0, .int 0, .int 0, .int 0, .int 0]))]) (va_A [(h0, .inr (2, [.null, .int 0, .int 0, .int 0, .int 0, .int 0, .int 0, .int 0, .int 0, .int 0]))] sz)) 0 0 (va_A [(h0, .inr (2, [.null, .int 0, .int 0, .int 0, .int 0, .int 0, .int 0, .int 0, .int 0, .int 0]))] sz) := by
  refine Met.ofW (cc := b_JobProcess_init) (maxL := 1) (ret := none) (by decide) rfl ?_
  intro p e s m args below meth c s₁ B hml hv
  obtain ⟨hargs, hsz, hP, hK, hD0, hN⟩ := hv
  have hx := B.exec
  have hb := B.bytes
  have hr := B.returns
  have hts := atoms_spec (ws := w_JobProcess_init) B.pre
  have hown : s.vm.findClass "JobTerminal$JobProcess" = some m.cls := findClass_of_methodNamed B.named
  have hlocks := B.notSynchronized
  have hin : meth.name = "<init>" := (name_of_methodNamed B.named B.method).1
  have htg : ∀ w ∈ GW, w.before args s = true := fun w h => hts w (List.mem_cons_of_mem _ h)
  subst hsz
  have hD := hD0.self (sz := s.heap.size)
  generalize hAe : va_A [(h0, .inr (2, [.null, .int 0, .int 0, .int 0, .int 0, .int 0, .int 0, .int 0, .int 0, .int 0]))] s.heap.size = A at hD ⊢
  have hA : ∀ q : Nat, s.heap.size ≤ q → A q := fun q h => by rw [← hAe]; exact Or.inr h
  have hS : va_S A s.heap s.heap [] := va_S.rf
  obtain ⟨ls, hen, hl⟩ := q_entry (vs := [.ref h0]) (n := 1) (lv := [(0, .ref h0)]) (by intro v hv; simp only [List.mem_cons, List.not_mem_nil, or_false] at hv; rcases hv with rfl <;> first | rfl | exact q_cat) (Nat.le_of_ble_eq_true rfl) rfl
  rw [show entryFrame m args 1 = F0 m 0 ls [] from by rw [hargs]; exact hen m]
  refine lv_aload_n hx hb d_JobProcess_init_0 rfl (q_at hl 0 rfl) ?_
  refine W.objInit hx hb hown (htg _ mw510) (htg _ mw506) (htg _ mw507) rfl (by rw [hml]; exact q_sz hl) rfl d_JobProcess_init_1 (Nat.le_of_ble_eq_true rfl) (Nat.le_of_ble_eq_true rfl) ?_
  refine W.eq (g2 := F0 m 4 ls []) rfl ?_
  refine W.widen (k := 0) (n := 0) (Nat.le_of_ble_eq_true rfl) (Nat.le_of_ble_eq_true rfl) ?_
  exact W.vret hx hb hr (fun t ht hW => ⟨⟨(fun k => [].getD k 0), rfl, trivial, by rw [ht]; exact hP, hD⟩, hS.F ht⟩) hS.2.2 d_JobProcess_init_4
-- JobTerminal$NumberRow <init>
set_option maxHeartbeats 4000000 in
set_option maxRecDepth 100000 in
theorem c_NumberRow_init {l : Launch} {D : va_G} {cs : Nat → ClassId} {sz h0 : Nat} {N : Nat} (hN0 : N ≤ 40) : Met l y_NumberRow_init w_NumberRow_init ({ frames := 1, cells := 1, slots := 40, locals := 21 } : Room) (q_Pre D vwCl (tyL cs) NW [.ref h0, .int (nI N)] [(h0, .inr (3, [.null, .int 0, .int 0]))] sz) (q_Qc D vwCl (fun u => [(h0, .inr (3, [.ref (u 0), .int 0, .int 0])), (u 0, .inl (cs 0, N, .inl (fun _ => 0)))]) (va_A [(h0, .inr (3, [.null, .int 0, .int 0]))] sz)) 1 40 (va_A [(h0, .inr (3, [.null, .int 0, .int 0]))] sz) := by
  refine Met.ofW (cc := b_NumberRow_init) (maxL := 2) (ret := none) (by decide) rfl ?_
  intro p e s m args below meth c s₁ B hml hv
  obtain ⟨hargs, hsz, hP, hK, hD0, hN⟩ := hv
  have hx := B.exec
  have hb := B.bytes
  have hr := B.returns
  have hts := atoms_spec (ws := w_NumberRow_init) B.pre
  have hown : s.vm.findClass "JobTerminal$NumberRow" = some m.cls := findClass_of_methodNamed B.named
  have hlocks := B.notSynchronized
  have hin : meth.name = "<init>" := (name_of_methodNamed B.named B.method).1
  have htg : ∀ w ∈ GW, w.before args s = true := fun w h => hts w (List.mem_cons_of_mem _ h)
  subst hsz
  have hD := hD0.self (sz := s.heap.size)
  generalize hAe : va_A [(h0, .inr (3, [.null, .int 0, .int 0]))] s.heap.size = A at hD ⊢
  have hA : ∀ q : Nat, s.heap.size ≤ q → A q := fun q h => by rw [← hAe]; exact Or.inr h
  have hS : va_S A s.heap s.heap [] := va_S.rf
  obtain ⟨ls, hen, hl⟩ := q_entry (vs := [.ref h0, .int (nI N)]) (n := 2) (lv := [(0, .ref h0), (1, .int (nI N))]) (by intro v hv; simp only [List.mem_cons, List.not_mem_nil, or_false] at hv; rcases hv with rfl | rfl <;> first | rfl | exact q_cat) (Nat.le_of_ble_eq_true rfl) rfl
  rw [show entryFrame m args 2 = F0 m 0 ls [] from by rw [hargs]; exact hen m]
  refine lv_aload_n hx hb d_NumberRow_init_0 rfl (q_at hl 0 rfl) ?_
  refine W.objInit hx hb hown (htg _ mw511) (htg _ mw506) (htg _ mw507) rfl (by rw [hml]; exact q_sz hl) rfl d_NumberRow_init_1 (Nat.le_of_ble_eq_true rfl) (Nat.le_of_ble_eq_true rfl) ?_
  refine W.eq (g2 := F0 m 4 ls []) rfl ?_
  refine lv_aload_n hx hb d_NumberRow_init_4 rfl (q_at hl 0 rfl) ?_
  refine lv_iload_n hx hb d_NumberRow_init_5 rfl (q_at hl 1 rfl) ?_
  refine lv_iconst (v := 0) hx hb d_NumberRow_init_6 (by decide) ?_
  refine va_mmax hx hb (hml.trans (q_sz hl).symm) hown (htg _ mw512) (htg _ mw513) (htg _ mw173) (htg _ mw514) (Nat.le_of_ble_eq_true rfl) (Nat.le_of_ble_eq_true rfl) (Nat.le_of_ble_eq_true rfl) (Nat.le_of_ble_eq_true rfl) d_NumberRow_init_7 ?_
  rw [if_neg (nI_pos (show N < 2 ^ 31 by omega))]
  refine va_newa (atype := .int) (ty := .int) (N' := N) (a0 := (N, .inl (fun _ => 0))) hx hb (htg _ mw508) rfl hK hP hD hS hA (fun _ => rfl) (nI_pos (show N < 2 ^ 31 by omega)) (nI_clamp (show N < 2 ^ 31 by omega)) (show N * 4 ≤ 536870912 by omega) (Nat.le_of_ble_eq_true rfl) (show 0 + N ≤ 40 by omega) d_NumberRow_init_10 (fun q1 cA H hK9 hP hD hS => ?_)
  obtain rfl : cA = cs 0 := q_cA_int hK9
  have hP : va_P D vwCl [(h0, .inr (3, [.null, .int 0, .int 0])), (q1, .inl (cs 0, N, .inl (fun _ => 0)))] H := hP
  have hD : va_D A [(h0, .inr (3, [.null, .int 0, .int 0])), (q1, .inl (cs 0, N, .inl (fun _ => 0)))] := hD
  refine W.widen (k := 1) (n := 40) (by omega) (by omega) ?_
  refine va_putF (D := D) (ci := 3) (v := .ref q1) (ty := .array .int) (C := R_NumberRow) (T := F_NumberRow) (N := 3) hx hb htg i_NumberRow t_NumberRow t_NumberRow_ok n_NumberRow hown hK hP hD hS 0 rfl rfl 0 (by decide) (htg _ mw350) (fun _ h9 => h9) rfl hin rfl (by decide +kernel) rfl rfl (Nat.le_of_ble_eq_true rfl) d_NumberRow_init_12 (fun H locs hP hD hS => ?_)
  have hP : va_P D vwCl [(h0, .inr (3, [.ref q1, .int 0, .int 0])), (q1, .inl (cs 0, N, .inl (fun _ => 0)))] H := hP
  have hD : va_D A [(h0, .inr (3, [.ref q1, .int 0, .int 0])), (q1, .inl (cs 0, N, .inl (fun _ => 0)))] := hD
  refine W.widen (k := 1) (n := 40) (Nat.le_of_ble_eq_true rfl) (Nat.le_of_ble_eq_true rfl) ?_
  exact W.vret hx hb hr (fun t ht hW => ⟨⟨(fun k => [q1].getD k 0), rfl, trivial, by rw [ht]; exact hP, hD⟩, hS.F ht⟩) hS.2.2 d_NumberRow_init_15
-- JobTerminal$Job <init>
set_option maxHeartbeats 4000000 in
set_option maxRecDepth 100000 in
theorem c_Job_init {l : Launch} {D : va_G} {cs : Nat → ClassId} {sz h0 : Nat} {p1 : Int32} : Met l y_Job_init w_Job_init ({ frames := 2, cells := 2, slots := 43, locals := 42 } : Room) (q_Pre D vwCl (tyL cs) NW [.ref h0, .int p1] [(h0, .inr (1, [.int 0, .null, .null, .null, .int 0, .int 0]))] sz) (q_Qc D vwCl (fun u => [(h0, .inr (1, [.int p1, .ref (u 0), .null, .null, .int 0, .int (-1)])), (u 0, .inr (3, [.ref (u 1), .int 0, .int 0])), (u 1, .inl (cs 0, 4, .inl (fun _ => 0)))]) (va_A [(h0, .inr (1, [.int 0, .null, .null, .null, .int 0, .int 0]))] sz)) 2 43 (va_A [(h0, .inr (1, [.int 0, .null, .null, .null, .int 0, .int 0]))] sz) := by
  refine Met.ofW (cc := b_Job_init) (maxL := 2) (ret := none) (by decide) rfl ?_
  intro p e s m args below meth c s₁ B hml hv
  obtain ⟨hargs, hsz, hP, hK, hD0, hN⟩ := hv
  have hx := B.exec
  have hb := B.bytes
  have hr := B.returns
  have hts := atoms_spec (ws := w_Job_init) B.pre
  have hown : s.vm.findClass "JobTerminal$Job" = some m.cls := findClass_of_methodNamed B.named
  have hlocks := B.notSynchronized
  have hin : meth.name = "<init>" := (name_of_methodNamed B.named B.method).1
  have htg : ∀ w ∈ GW, w.before args s = true := fun w h => hts w (List.mem_cons_of_mem _ h)
  subst hsz
  have hD := hD0.self (sz := s.heap.size)
  generalize hAe : va_A [(h0, .inr (1, [.int 0, .null, .null, .null, .int 0, .int 0]))] s.heap.size = A at hD ⊢
  have hA : ∀ q : Nat, s.heap.size ≤ q → A q := fun q h => by rw [← hAe]; exact Or.inr h
  have hS : va_S A s.heap s.heap [] := va_S.rf
  obtain ⟨ls, hen, hl⟩ := q_entry (vs := [.ref h0, .int p1]) (n := 2) (lv := [(0, .ref h0), (1, .int p1)]) (by intro v hv; simp only [List.mem_cons, List.not_mem_nil, or_false] at hv; rcases hv with rfl | rfl <;> first | rfl | exact q_cat) (Nat.le_of_ble_eq_true rfl) rfl
  rw [show entryFrame m args 2 = F0 m 0 ls [] from by rw [hargs]; exact hen m]
  refine lv_aload_n hx hb d_Job_init_0 rfl (q_at hl 0 rfl) ?_
  refine W.objInit hx hb hown (htg _ mw515) (htg _ mw506) (htg _ mw507) rfl (by rw [hml]; exact q_sz hl) rfl d_Job_init_1 (Nat.le_of_ble_eq_true rfl) (Nat.le_of_ble_eq_true rfl) ?_
  refine W.eq (g2 := F0 m 4 ls []) rfl ?_
  refine lv_aload_n hx hb d_Job_init_4 rfl (q_at hl 0 rfl) ?_
  refine lv_iload_n hx hb d_Job_init_5 rfl (q_at hl 1 rfl) ?_
  refine va_putF (D := D) (ci := 1) (v := .int p1) (ty := .int) (C := R_Job) (T := F_Job) (N := 6) hx hb htg i_Job t_Job t_Job_ok n_Job hown hK hP hD hS 0 rfl rfl 0 (by decide) (htg _ mw516) (fun _ h9 => h9) rfl hin rfl (by decide +kernel) rfl rfl (Nat.le_of_ble_eq_true rfl) d_Job_init_6 (fun H locs hP hD hS => ?_)
  have hP : va_P D vwCl [(h0, .inr (1, [.int p1, .null, .null, .null, .int 0, .int 0]))] H := hP
  have hD : va_D A [(h0, .inr (1, [.int p1, .null, .null, .null, .int 0, .int 0]))] := hD
  refine lv_aload_n hx hb d_Job_init_9 rfl (q_at hl 0 rfl) ?_
  refine va_new (ci := 3) (fs := [.null, .int 0, .int 0]) (C := R_NumberRow) (T := F_NumberRow) (N := 3) hx hb htg i_NumberRow t_NumberRow t_NumberRow_ok hown (htg _ mw517) (htg _ mw518) (htg _ mw88) hK hP hD hS hA rfl (fun j hj => by match j, hj with | 0, _ => rfl | 1, _ => rfl | 2, _ => rfl | j + 3, hj => exact absurd hj (by omega)) (Nat.le_of_ble_eq_true rfl) (Nat.le_of_ble_eq_true rfl) d_Job_init_10 (fun q1 H hP hD hS => ?_)
  have hP : va_P D vwCl [(h0, .inr (1, [.int p1, .null, .null, .null, .int 0, .int 0])), (q1, .inr (3, [.null, .int 0, .int 0]))] H := hP
  have hD : va_D A [(h0, .inr (1, [.int p1, .null, .null, .null, .int 0, .int 0])), (q1, .inr (3, [.null, .int 0, .int 0]))] := hD
  refine lv_dup hx hb d_Job_init_13 rfl ?_
  refine lv_iconst (v := 4) hx hb d_Job_init_14 (by decide) ?_
  have hPc := hP.sub (ws' := [(q1, .inr (3, [.null, .int 0, .int 0]))]) [1] rfl
  have hDc := hD.sub (ws' := [(q1, .inr (3, [.null, .int 0, .int 0]))]) [1] (by decide) rfl
  have hFc := va_free (wc := [(q1, .inr (3, [.null, .int 0, .int 0]))]) hD hS hA [1] rfl
  refine va_callv (va_runI (As := [.int 4]) (rest := [.ref q1, .ref h0]) ⟨hx, hb, hml, hown, hts⟩ (c_NumberRow_init (l := l) (D := D) (cs := cs) (h0 := q1) (sz := H.size) (N := 4) (by decide)) (cwI 1 hts (q_goodI mw519) rfl rfl rfl (htg _ mw88) (htg _ mw520) (htg _ mw521) rfl (by decide +kernel) ⟨(Nat.le_of_ble_eq_true rfl), (Nat.le_of_ble_eq_true rfl)⟩) ⟨q_Pre_blind NW_ok, fun U hU hW => q_Pre_at NW_ok hK hN hPc hDc hU hW⟩ rfl rfl (q_sz hl) rfl (lv_room (Nat.le_of_ble_eq_true rfl)) d_Job_init_15 ⟨(Nat.le_of_ble_eq_true rfl), (Nat.le_of_ble_eq_true rfl)⟩) hS (fun q _ h => hFc q h) hFc (fun u2 t H1 locs ht hvm hw hB hz1 hk1 hS => ?_)
  obtain ⟨hP1, hD1⟩ := hB
  rw [ht] at hP1
  obtain ⟨hP, hD⟩ := va_join (wr := [(h0, .inr (1, [.int p1, .null, .null, .null, .int 0, .int 0]))]) (w1 := [(q1, .inr (3, [.ref (u2 0), .int 0, .int 0])), (u2 0, .inl (cs 0, 4, .inl (fun _ => 0)))]) hP hD [1] [0] rfl rfl (by decide) (by decide) hk1 hFc hP1 hD1
  clear hPc hDc hFc hk1 hP1 hD1 ht hvm hw hz1
  generalize H1 = H at hP hS ⊢
  have hP : va_P D vwCl [(h0, .inr (1, [.int p1, .null, .null, .null, .int 0, .int 0])), (q1, .inr (3, [.ref (u2 0), .int 0, .int 0])), (u2 0, .inl (cs 0, 4, .inl (fun _ => 0)))] H := hP
  have hD : va_D A [(h0, .inr (1, [.int p1, .null, .null, .null, .int 0, .int 0])), (q1, .inr (3, [.ref (u2 0), .int 0, .int 0])), (u2 0, .inl (cs 0, 4, .inl (fun _ => 0)))] := hD
  refine va_putF (D := D) (ci := 1) (v := .ref q1) (ty := .object "JobTerminal$NumberRow") (C := R_Job) (T := F_Job) (N := 6) hx hb htg i_Job t_Job t_Job_ok n_Job hown hK hP hD hS 0 rfl rfl 1 (by decide) (htg _ mw338) (fun _ h9 => h9) rfl hin rfl (by decide +kernel) rfl rfl (Nat.le_of_ble_eq_true rfl) d_Job_init_18 (fun H locs hP hD hS => ?_)
  have hP : va_P D vwCl [(h0, .inr (1, [.int p1, .ref q1, .null, .null, .int 0, .int 0])), (q1, .inr (3, [.ref (u2 0), .int 0, .int 0])), (u2 0, .inl (cs 0, 4, .inl (fun _ => 0)))] H := hP
  have hD : va_D A [(h0, .inr (1, [.int p1, .ref q1, .null, .null, .int 0, .int 0])), (q1, .inr (3, [.ref (u2 0), .int 0, .int 0])), (u2 0, .inl (cs 0, 4, .inl (fun _ => 0)))] := hD
  refine lv_aload_n hx hb d_Job_init_21 rfl (q_at hl 0 rfl) ?_
  refine lv_iconst (v := -1) hx hb d_Job_init_22 (by decide) ?_
  refine va_put (D := D) (ci := 1) (v := .int (-1)) (ty := .int) (C := R_Job) (T := F_Job) (N := 6) hx hb htg i_Job t_Job t_Job_ok n_Job hown hK hP hD hS 0 rfl rfl 5 (by decide) (htg _ mw358) (fun _ h9 => h9) rfl (by decide +kernel) rfl rfl (Nat.le_of_ble_eq_true rfl) d_Job_init_23 (fun H locs hP hD hS => ?_)
  have hP : va_P D vwCl [(h0, .inr (1, [.int p1, .ref q1, .null, .null, .int 0, .int (-1)])), (q1, .inr (3, [.ref (u2 0), .int 0, .int 0])), (u2 0, .inl (cs 0, 4, .inl (fun _ => 0)))] H := hP
  have hD : va_D A [(h0, .inr (1, [.int p1, .ref q1, .null, .null, .int 0, .int (-1)])), (q1, .inr (3, [.ref (u2 0), .int 0, .int 0])), (u2 0, .inl (cs 0, 4, .inl (fun _ => 0)))] := hD
  refine W.widen (k := 2) (n := 43) (Nat.le_of_ble_eq_true rfl) (Nat.le_of_ble_eq_true rfl) ?_
  exact W.vret hx hb hr (fun t ht hW => ⟨⟨(fun k => [q1, u2 0].getD k 0), rfl, trivial, by rw [ht]; exact hP, hD⟩, hS.F ht⟩) hS.2.2 d_Job_init_26
-- JobTerminal$Terminal <init>
set_option maxHeartbeats 4000000 in
set_option maxRecDepth 100000 in
theorem c_Terminal_init {l : Launch} {D : va_G} {cs : Nat → ClassId} {sz h0 : Nat} : Met l y_Terminal_init w_Terminal_init ({ frames := 2, cells := 6, slots := 189, locals := 42 } : Room) (q_Pre D vwCl (tyL cs) NW [.ref h0] [(h0, .inr (5, [.null, .null, .null, .int 0, .int 0]))] sz) (q_Qc D vwCl (fun u => [(h0, .inr (5, [.ref (u 0), .ref (u 2), .ref (u 4), .int 47, .int 0])), (u 0, .inr (3, [.ref (u 1), .int 0, .int 0])), (u 1, .inl (cs 0, 20, .inl (fun _ => 0))), (u 2, .inr (3, [.ref (u 3), .int 0, .int 0])), (u 3, .inl (cs 0, 40, .inl (fun _ => 0))), (u 4, .inr (0, [.ref (u 5), .int 0, .int 0])), (u 5, .inl (cs 0, 100, .inl (fun _ => 0)))]) (va_A [(h0, .inr (5, [.null, .null, .null, .int 0, .int 0]))] sz)) 6 189 (va_A [(h0, .inr (5, [.null, .null, .null, .int 0, .int 0]))] sz) := by
  refine Met.ofW (cc := b_Terminal_init) (maxL := 1) (ret := none) (by decide) rfl ?_
  intro p e s m args below meth c s₁ B hml hv
  obtain ⟨hargs, hsz, hP, hK, hD0, hN⟩ := hv
  have hx := B.exec
  have hb := B.bytes
  have hr := B.returns
  have hts := atoms_spec (ws := w_Terminal_init) B.pre
  have hown : s.vm.findClass "JobTerminal$Terminal" = some m.cls := findClass_of_methodNamed B.named
  have hlocks := B.notSynchronized
  have hin : meth.name = "<init>" := (name_of_methodNamed B.named B.method).1
  have htg : ∀ w ∈ GW, w.before args s = true := fun w h => hts w (List.mem_cons_of_mem _ h)
  subst hsz
  have hD := hD0.self (sz := s.heap.size)
  generalize hAe : va_A [(h0, .inr (5, [.null, .null, .null, .int 0, .int 0]))] s.heap.size = A at hD ⊢
  have hA : ∀ q : Nat, s.heap.size ≤ q → A q := fun q h => by rw [← hAe]; exact Or.inr h
  have hS : va_S A s.heap s.heap [] := va_S.rf
  obtain ⟨ls, hen, hl⟩ := q_entry (vs := [.ref h0]) (n := 1) (lv := [(0, .ref h0)]) (by intro v hv; simp only [List.mem_cons, List.not_mem_nil, or_false] at hv; rcases hv with rfl <;> first | rfl | exact q_cat) (Nat.le_of_ble_eq_true rfl) rfl
  rw [show entryFrame m args 1 = F0 m 0 ls [] from by rw [hargs]; exact hen m]
  refine lv_aload_n hx hb d_Terminal_init_0 rfl (q_at hl 0 rfl) ?_
  refine W.objInit hx hb hown (htg _ mw522) (htg _ mw506) (htg _ mw507) rfl (by rw [hml]; exact q_sz hl) rfl d_Terminal_init_1 (Nat.le_of_ble_eq_true rfl) (Nat.le_of_ble_eq_true rfl) ?_
  refine W.eq (g2 := F0 m 4 ls []) rfl ?_
  refine lv_aload_n hx hb d_Terminal_init_4 rfl (q_at hl 0 rfl) ?_
  refine va_new (ci := 3) (fs := [.null, .int 0, .int 0]) (C := R_NumberRow) (T := F_NumberRow) (N := 3) hx hb htg i_NumberRow t_NumberRow t_NumberRow_ok hown (htg _ mw523) (htg _ mw518) (htg _ mw88) hK hP hD hS hA rfl (fun j hj => by match j, hj with | 0, _ => rfl | 1, _ => rfl | 2, _ => rfl | j + 3, hj => exact absurd hj (by omega)) (Nat.le_of_ble_eq_true rfl) (Nat.le_of_ble_eq_true rfl) d_Terminal_init_5 (fun q1 H hP hD hS => ?_)
  have hP : va_P D vwCl [(h0, .inr (5, [.null, .null, .null, .int 0, .int 0])), (q1, .inr (3, [.null, .int 0, .int 0]))] H := hP
  have hD : va_D A [(h0, .inr (5, [.null, .null, .null, .int 0, .int 0])), (q1, .inr (3, [.null, .int 0, .int 0]))] := hD
  refine lv_dup hx hb d_Terminal_init_8 rfl ?_
  refine lv_bipush (v := 20) hx hb d_Terminal_init_9 (by decide) ?_
  have hPc := hP.sub (ws' := [(q1, .inr (3, [.null, .int 0, .int 0]))]) [1] rfl
  have hDc := hD.sub (ws' := [(q1, .inr (3, [.null, .int 0, .int 0]))]) [1] (by decide) rfl
  have hFc := va_free (wc := [(q1, .inr (3, [.null, .int 0, .int 0]))]) hD hS hA [1] rfl
  refine va_callv (va_runI (As := [.int 20]) (rest := [.ref q1, .ref h0]) ⟨hx, hb, hml, hown, hts⟩ (c_NumberRow_init (l := l) (D := D) (cs := cs) (h0 := q1) (sz := H.size) (N := 20) (by decide)) (cwI 1 hts (q_goodI mw519) rfl rfl rfl (htg _ mw88) (htg _ mw524) (htg _ mw521) rfl (by decide +kernel) ⟨(Nat.le_of_ble_eq_true rfl), (Nat.le_of_ble_eq_true rfl)⟩) ⟨q_Pre_blind NW_ok, fun U hU hW => q_Pre_at NW_ok hK hN hPc hDc hU hW⟩ rfl rfl (q_sz hl) rfl (lv_room (Nat.le_of_ble_eq_true rfl)) d_Terminal_init_11 ⟨(Nat.le_of_ble_eq_true rfl), (Nat.le_of_ble_eq_true rfl)⟩) hS (fun q _ h => hFc q h) hFc (fun u2 t H1 locs ht hvm hw hB hz1 hk1 hS => ?_)
  obtain ⟨hP1, hD1⟩ := hB
  rw [ht] at hP1
  obtain ⟨hP, hD⟩ := va_join (wr := [(h0, .inr (5, [.null, .null, .null, .int 0, .int 0]))]) (w1 := [(q1, .inr (3, [.ref (u2 0), .int 0, .int 0])), (u2 0, .inl (cs 0, 20, .inl (fun _ => 0)))]) hP hD [1] [0] rfl rfl (by decide) (by decide) hk1 hFc hP1 hD1
  clear hPc hDc hFc hk1 hP1 hD1 ht hvm hw hz1
  generalize H1 = H at hP hS ⊢
  have hP : va_P D vwCl [(h0, .inr (5, [.null, .null, .null, .int 0, .int 0])), (q1, .inr (3, [.ref (u2 0), .int 0, .int 0])), (u2 0, .inl (cs 0, 20, .inl (fun _ => 0)))] H := hP
  have hD : va_D A [(h0, .inr (5, [.null, .null, .null, .int 0, .int 0])), (q1, .inr (3, [.ref (u2 0), .int 0, .int 0])), (u2 0, .inl (cs 0, 20, .inl (fun _ => 0)))] := hD
  refine va_putF (D := D) (ci := 5) (v := .ref q1) (ty := .object "JobTerminal$NumberRow") (C := R_Terminal) (T := F_Terminal) (N := 5) hx hb htg i_Terminal t_Terminal t_Terminal_ok n_Terminal hown hK hP hD hS 0 rfl rfl 0 (by decide) (htg _ mw355) (fun _ h9 => h9) rfl hin rfl (by decide +kernel) rfl rfl (Nat.le_of_ble_eq_true rfl) d_Terminal_init_14 (fun H locs hP hD hS => ?_)
  have hP : va_P D vwCl [(h0, .inr (5, [.ref q1, .null, .null, .int 0, .int 0])), (q1, .inr (3, [.ref (u2 0), .int 0, .int 0])), (u2 0, .inl (cs 0, 20, .inl (fun _ => 0)))] H := hP
  have hD : va_D A [(h0, .inr (5, [.ref q1, .null, .null, .int 0, .int 0])), (q1, .inr (3, [.ref (u2 0), .int 0, .int 0])), (u2 0, .inl (cs 0, 20, .inl (fun _ => 0)))] := hD
  refine lv_aload_n hx hb d_Terminal_init_17 rfl (q_at hl 0 rfl) ?_
  refine va_new (ci := 3) (fs := [.null, .int 0, .int 0]) (C := R_NumberRow) (T := F_NumberRow) (N := 3) hx hb htg i_NumberRow t_NumberRow t_NumberRow_ok hown (htg _ mw523) (htg _ mw518) (htg _ mw88) hK hP hD hS hA rfl (fun j hj => by match j, hj with | 0, _ => rfl | 1, _ => rfl | 2, _ => rfl | j + 3, hj => exact absurd hj (by omega)) (Nat.le_of_ble_eq_true rfl) (Nat.le_of_ble_eq_true rfl) d_Terminal_init_18 (fun q3 H hP hD hS => ?_)
  have hP : va_P D vwCl [(h0, .inr (5, [.ref q1, .null, .null, .int 0, .int 0])), (q1, .inr (3, [.ref (u2 0), .int 0, .int 0])), (u2 0, .inl (cs 0, 20, .inl (fun _ => 0))), (q3, .inr (3, [.null, .int 0, .int 0]))] H := hP
  have hD : va_D A [(h0, .inr (5, [.ref q1, .null, .null, .int 0, .int 0])), (q1, .inr (3, [.ref (u2 0), .int 0, .int 0])), (u2 0, .inl (cs 0, 20, .inl (fun _ => 0))), (q3, .inr (3, [.null, .int 0, .int 0]))] := hD
  refine lv_dup hx hb d_Terminal_init_21 rfl ?_
  refine lv_bipush (v := 40) hx hb d_Terminal_init_22 (by decide) ?_
  have hPc := hP.sub (ws' := [(q3, .inr (3, [.null, .int 0, .int 0]))]) [3] rfl
  have hDc := hD.sub (ws' := [(q3, .inr (3, [.null, .int 0, .int 0]))]) [3] (by decide) rfl
  have hFc := va_free (wc := [(q3, .inr (3, [.null, .int 0, .int 0]))]) hD hS hA [3] rfl
  refine va_callv (va_runI (As := [.int 40]) (rest := [.ref q3, .ref h0]) ⟨hx, hb, hml, hown, hts⟩ (c_NumberRow_init (l := l) (D := D) (cs := cs) (h0 := q3) (sz := H.size) (N := 40) (by decide)) (cwI 1 hts (q_goodI mw519) rfl rfl rfl (htg _ mw88) (htg _ mw524) (htg _ mw521) rfl (by decide +kernel) ⟨(Nat.le_of_ble_eq_true rfl), (Nat.le_of_ble_eq_true rfl)⟩) ⟨q_Pre_blind NW_ok, fun U hU hW => q_Pre_at NW_ok hK hN hPc hDc hU hW⟩ rfl rfl (q_sz hl) rfl (lv_room (Nat.le_of_ble_eq_true rfl)) d_Terminal_init_24 ⟨(Nat.le_of_ble_eq_true rfl), (Nat.le_of_ble_eq_true rfl)⟩) hS (fun q _ h => hFc q h) hFc (fun u4 t H1 locs ht hvm hw hB hz1 hk1 hS => ?_)
  obtain ⟨hP1, hD1⟩ := hB
  rw [ht] at hP1
  obtain ⟨hP, hD⟩ := va_join (wr := [(h0, .inr (5, [.ref q1, .null, .null, .int 0, .int 0])), (q1, .inr (3, [.ref (u2 0), .int 0, .int 0])), (u2 0, .inl (cs 0, 20, .inl (fun _ => 0)))]) (w1 := [(q3, .inr (3, [.ref (u4 0), .int 0, .int 0])), (u4 0, .inl (cs 0, 40, .inl (fun _ => 0)))]) hP hD [3] [0, 1, 2] rfl rfl (by decide) (by decide) hk1 hFc hP1 hD1
  clear hPc hDc hFc hk1 hP1 hD1 ht hvm hw hz1
  generalize H1 = H at hP hS ⊢
  have hP : va_P D vwCl [(h0, .inr (5, [.ref q1, .null, .null, .int 0, .int 0])), (q1, .inr (3, [.ref (u2 0), .int 0, .int 0])), (u2 0, .inl (cs 0, 20, .inl (fun _ => 0))), (q3, .inr (3, [.ref (u4 0), .int 0, .int 0])), (u4 0, .inl (cs 0, 40, .inl (fun _ => 0)))] H := hP
  have hD : va_D A [(h0, .inr (5, [.ref q1, .null, .null, .int 0, .int 0])), (q1, .inr (3, [.ref (u2 0), .int 0, .int 0])), (u2 0, .inl (cs 0, 20, .inl (fun _ => 0))), (q3, .inr (3, [.ref (u4 0), .int 0, .int 0])), (u4 0, .inl (cs 0, 40, .inl (fun _ => 0)))] := hD
  refine va_putF (D := D) (ci := 5) (v := .ref q3) (ty := .object "JobTerminal$NumberRow") (C := R_Terminal) (T := F_Terminal) (N := 5) hx hb htg i_Terminal t_Terminal t_Terminal_ok n_Terminal hown hK hP hD hS 0 rfl rfl 1 (by decide) (htg _ mw357) (fun _ h9 => h9) rfl hin rfl (by decide +kernel) rfl rfl (Nat.le_of_ble_eq_true rfl) d_Terminal_init_27 (fun H locs hP hD hS => ?_)
  have hP : va_P D vwCl [(h0, .inr (5, [.ref q1, .ref q3, .null, .int 0, .int 0])), (q1, .inr (3, [.ref (u2 0), .int 0, .int 0])), (u2 0, .inl (cs 0, 20, .inl (fun _ => 0))), (q3, .inr (3, [.ref (u4 0), .int 0, .int 0])), (u4 0, .inl (cs 0, 40, .inl (fun _ => 0)))] H := hP
  have hD : va_D A [(h0, .inr (5, [.ref q1, .ref q3, .null, .int 0, .int 0])), (q1, .inr (3, [.ref (u2 0), .int 0, .int 0])), (u2 0, .inl (cs 0, 20, .inl (fun _ => 0))), (q3, .inr (3, [.ref (u4 0), .int 0, .int 0])), (u4 0, .inl (cs 0, 40, .inl (fun _ => 0)))] := hD
  refine lv_aload_n hx hb d_Terminal_init_30 rfl (q_at hl 0 rfl) ?_
  refine va_new (ci := 0) (fs := [.null, .int 0, .int 0]) (C := R_Display) (T := F_Display) (N := 3) hx hb htg i_Display t_Display t_Display_ok hown (htg _ mw525) (htg _ mw526) (htg _ mw97) hK hP hD hS hA rfl (fun j hj => by match j, hj with | 0, _ => rfl | 1, _ => rfl | 2, _ => rfl | j + 3, hj => exact absurd hj (by omega)) (Nat.le_of_ble_eq_true rfl) (Nat.le_of_ble_eq_true rfl) d_Terminal_init_31 (fun q5 H hP hD hS => ?_)
  have hP : va_P D vwCl [(h0, .inr (5, [.ref q1, .ref q3, .null, .int 0, .int 0])), (q1, .inr (3, [.ref (u2 0), .int 0, .int 0])), (u2 0, .inl (cs 0, 20, .inl (fun _ => 0))), (q3, .inr (3, [.ref (u4 0), .int 0, .int 0])), (u4 0, .inl (cs 0, 40, .inl (fun _ => 0))), (q5, .inr (0, [.null, .int 0, .int 0]))] H := hP
  have hD : va_D A [(h0, .inr (5, [.ref q1, .ref q3, .null, .int 0, .int 0])), (q1, .inr (3, [.ref (u2 0), .int 0, .int 0])), (u2 0, .inl (cs 0, 20, .inl (fun _ => 0))), (q3, .inr (3, [.ref (u4 0), .int 0, .int 0])), (u4 0, .inl (cs 0, 40, .inl (fun _ => 0))), (q5, .inr (0, [.null, .int 0, .int 0]))] := hD
  refine lv_dup hx hb d_Terminal_init_34 rfl ?_
  have hPc := hP.sub (ws' := [(q5, .inr (0, [.null, .int 0, .int 0]))]) [5] rfl
  have hDc := hD.sub (ws' := [(q5, .inr (0, [.null, .int 0, .int 0]))]) [5] (by decide) rfl
  have hFc := va_free (wc := [(q5, .inr (0, [.null, .int 0, .int 0]))]) hD hS hA [5] rfl
  refine va_callv (va_runI (As := []) (rest := [.ref q5, .ref h0]) ⟨hx, hb, hml, hown, hts⟩ (c_Display_init (l := l) (D := D) (cs := cs) (h0 := q5) (sz := H.size)) (cwI 0 hts (q_goodI mw527) rfl rfl rfl (htg _ mw97) (htg _ mw528) (htg _ mw529) rfl (by decide +kernel) ⟨(Nat.le_of_ble_eq_true rfl), (Nat.le_of_ble_eq_true rfl)⟩) ⟨q_Pre_blind NW_ok, fun U hU hW => q_Pre_at NW_ok hK hN hPc hDc hU hW⟩ rfl rfl (q_sz hl) rfl (lv_room (Nat.le_of_ble_eq_true rfl)) d_Terminal_init_35 ⟨(Nat.le_of_ble_eq_true rfl), (Nat.le_of_ble_eq_true rfl)⟩) hS (fun q _ h => hFc q h) hFc (fun u6 t H1 locs ht hvm hw hB hz1 hk1 hS => ?_)
  obtain ⟨hP1, hD1⟩ := hB
  rw [ht] at hP1
  obtain ⟨hP, hD⟩ := va_join (wr := [(h0, .inr (5, [.ref q1, .ref q3, .null, .int 0, .int 0])), (q1, .inr (3, [.ref (u2 0), .int 0, .int 0])), (u2 0, .inl (cs 0, 20, .inl (fun _ => 0))), (q3, .inr (3, [.ref (u4 0), .int 0, .int 0])), (u4 0, .inl (cs 0, 40, .inl (fun _ => 0)))]) (w1 := [(q5, .inr (0, [.ref (u6 0), .int 0, .int 0])), (u6 0, .inl (cs 0, 100, .inl (fun _ => 0)))]) hP hD [5] [0, 1, 2, 3, 4] rfl rfl (by decide) (by decide) hk1 hFc hP1 hD1
  clear hPc hDc hFc hk1 hP1 hD1 ht hvm hw hz1
  generalize H1 = H at hP hS ⊢
  have hP : va_P D vwCl [(h0, .inr (5, [.ref q1, .ref q3, .null, .int 0, .int 0])), (q1, .inr (3, [.ref (u2 0), .int 0, .int 0])), (u2 0, .inl (cs 0, 20, .inl (fun _ => 0))), (q3, .inr (3, [.ref (u4 0), .int 0, .int 0])), (u4 0, .inl (cs 0, 40, .inl (fun _ => 0))), (q5, .inr (0, [.ref (u6 0), .int 0, .int 0])), (u6 0, .inl (cs 0, 100, .inl (fun _ => 0)))] H := hP
  have hD : va_D A [(h0, .inr (5, [.ref q1, .ref q3, .null, .int 0, .int 0])), (q1, .inr (3, [.ref (u2 0), .int 0, .int 0])), (u2 0, .inl (cs 0, 20, .inl (fun _ => 0))), (q3, .inr (3, [.ref (u4 0), .int 0, .int 0])), (u4 0, .inl (cs 0, 40, .inl (fun _ => 0))), (q5, .inr (0, [.ref (u6 0), .int 0, .int 0])), (u6 0, .inl (cs 0, 100, .inl (fun _ => 0)))] := hD
  refine va_putF (D := D) (ci := 5) (v := .ref q5) (ty := .object "JobTerminal$Display") (C := R_Terminal) (T := F_Terminal) (N := 5) hx hb htg i_Terminal t_Terminal t_Terminal_ok n_Terminal hown hK hP hD hS 0 rfl rfl 2 (by decide) (htg _ mw354) (fun _ h9 => h9) rfl hin rfl (by decide +kernel) rfl rfl (Nat.le_of_ble_eq_true rfl) d_Terminal_init_38 (fun H locs hP hD hS => ?_)
  have hP : va_P D vwCl [(h0, .inr (5, [.ref q1, .ref q3, .ref q5, .int 0, .int 0])), (q1, .inr (3, [.ref (u2 0), .int 0, .int 0])), (u2 0, .inl (cs 0, 20, .inl (fun _ => 0))), (q3, .inr (3, [.ref (u4 0), .int 0, .int 0])), (u4 0, .inl (cs 0, 40, .inl (fun _ => 0))), (q5, .inr (0, [.ref (u6 0), .int 0, .int 0])), (u6 0, .inl (cs 0, 100, .inl (fun _ => 0)))] H := hP
  have hD : va_D A [(h0, .inr (5, [.ref q1, .ref q3, .ref q5, .int 0, .int 0])), (q1, .inr (3, [.ref (u2 0), .int 0, .int 0])), (u2 0, .inl (cs 0, 20, .inl (fun _ => 0))), (q3, .inr (3, [.ref (u4 0), .int 0, .int 0])), (u4 0, .inl (cs 0, 40, .inl (fun _ => 0))), (q5, .inr (0, [.ref (u6 0), .int 0, .int 0])), (u6 0, .inl (cs 0, 100, .inl (fun _ => 0)))] := hD
  refine lv_aload_n hx hb d_Terminal_init_41 rfl (q_at hl 0 rfl) ?_
  refine lv_bipush (v := 47) hx hb d_Terminal_init_42 (by decide) ?_
  refine va_put (D := D) (ci := 5) (v := .int 47) (ty := .int) (C := R_Terminal) (T := F_Terminal) (N := 5) hx hb htg i_Terminal t_Terminal t_Terminal_ok n_Terminal hown hK hP hD hS 0 rfl rfl 3 (by decide) (htg _ mw356) (fun _ h9 => h9) rfl (by decide +kernel) rfl rfl (Nat.le_of_ble_eq_true rfl) d_Terminal_init_44 (fun H locs hP hD hS => ?_)
  have hP : va_P D vwCl [(h0, .inr (5, [.ref q1, .ref q3, .ref q5, .int 47, .int 0])), (q1, .inr (3, [.ref (u2 0), .int 0, .int 0])), (u2 0, .inl (cs 0, 20, .inl (fun _ => 0))), (q3, .inr (3, [.ref (u4 0), .int 0, .int 0])), (u4 0, .inl (cs 0, 40, .inl (fun _ => 0))), (q5, .inr (0, [.ref (u6 0), .int 0, .int 0])), (u6 0, .inl (cs 0, 100, .inl (fun _ => 0)))] H := hP
  have hD : va_D A [(h0, .inr (5, [.ref q1, .ref q3, .ref q5, .int 47, .int 0])), (q1, .inr (3, [.ref (u2 0), .int 0, .int 0])), (u2 0, .inl (cs 0, 20, .inl (fun _ => 0))), (q3, .inr (3, [.ref (u4 0), .int 0, .int 0])), (u4 0, .inl (cs 0, 40, .inl (fun _ => 0))), (q5, .inr (0, [.ref (u6 0), .int 0, .int 0])), (u6 0, .inl (cs 0, 100, .inl (fun _ => 0)))] := hD
  refine lv_aload_n hx hb d_Terminal_init_47 rfl (q_at hl 0 rfl) ?_
  refine lv_iconst (v := 0) hx hb d_Terminal_init_48 (by decide) ?_
  refine va_put (D := D) (ci := 5) (v := .int 0) (ty := .boolean) (C := R_Terminal) (T := F_Terminal) (N := 5) hx hb htg i_Terminal t_Terminal t_Terminal_ok n_Terminal hown hK hP hD hS 0 rfl rfl 4 (by decide) (htg _ mw361) (fun _ h9 => h9) rfl (by decide +kernel) rfl rfl (Nat.le_of_ble_eq_true rfl) d_Terminal_init_49 (fun H locs hP hD hS => ?_)
  have hP : va_P D vwCl [(h0, .inr (5, [.ref q1, .ref q3, .ref q5, .int 47, .int 0])), (q1, .inr (3, [.ref (u2 0), .int 0, .int 0])), (u2 0, .inl (cs 0, 20, .inl (fun _ => 0))), (q3, .inr (3, [.ref (u4 0), .int 0, .int 0])), (u4 0, .inl (cs 0, 40, .inl (fun _ => 0))), (q5, .inr (0, [.ref (u6 0), .int 0, .int 0])), (u6 0, .inl (cs 0, 100, .inl (fun _ => 0)))] H := hP
  have hD : va_D A [(h0, .inr (5, [.ref q1, .ref q3, .ref q5, .int 47, .int 0])), (q1, .inr (3, [.ref (u2 0), .int 0, .int 0])), (u2 0, .inl (cs 0, 20, .inl (fun _ => 0))), (q3, .inr (3, [.ref (u4 0), .int 0, .int 0])), (u4 0, .inl (cs 0, 40, .inl (fun _ => 0))), (q5, .inr (0, [.ref (u6 0), .int 0, .int 0])), (u6 0, .inl (cs 0, 100, .inl (fun _ => 0)))] := hD
  refine W.widen (k := 6) (n := 189) (Nat.le_of_ble_eq_true rfl) (Nat.le_of_ble_eq_true rfl) ?_
  exact W.vret hx hb hr (fun t ht hW => ⟨⟨(fun k => [q1, u2 0, q3, u4 0, q5, u6 0].getD k 0), rfl, trivial, by rw [ht]; exact hP, hD⟩, hS.F ht⟩) hS.2.2 d_Terminal_init_52
