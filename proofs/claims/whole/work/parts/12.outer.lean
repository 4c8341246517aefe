-- JobTerminal program
def f_JT_program_14 (σ : q_St) : Option (Int32 × q_St) := some (0, σ)
set_option maxHeartbeats 4000000 in
set_option maxRecDepth 100000 in
theorem k_JT_program_14 {p : Program} {l : Launch} {e : Env} {s : State} {m : MethodId} {args : Array Value} {below : List Frame} {meth : Method} {c : Code} {D : va_G} {A : Nat → Prop} {ad : Nat → Nat} {cs : Nat → ClassId} (C0 : q_Cx "JobTerminal" b_JT_program 5 (some .boolean) w_JT_program D vwCl (tyL cs) NW p s m args meth c) (hA : ∀ q, s.heap.size ≤ q → A q) (res : (Int32 × q_St)) : ∀ (σ : q_St) , f_JT_program_14 σ  = some res → ∀ (H : Heap) (locs : List Loc), q_I D vwCl A s.heap (q_ws 33 ad (cC ad cs σ)) H locs → ∀ ls : Array Slot, q_has ls 5 [] → W p l e ({ frames := 2, cells := 0, slots := 0, locals := 44 } : Room) s m args below meth c H locs 0 0 (MQ below (q_Qi D vwCl res.1 (q_ws 33 ad (cC ad cs res.2)) A) args s 0 0 A) (F0 m 14 ls []) := by
  intro σ  hf H locs I ls hl
  unfold f_JT_program_14 at hf
  obtain ⟨hx, hb, hr, hml, hown, hts, hlocks, hK, hN⟩ := id C0
  have htg : ∀ w ∈ GW, w.before args s = true := fun w h => hts w (List.mem_cons_of_mem _ h)
  refine lv_iconst (v := 0) hx hb d_JT_program_14 (by decide) ?_
  cases hf
  exact q_zret (r0 := 0) hx hb hr hlocks (by decide) I d_JT_program_15
def f_JT_program (σ : q_St) (p1 : Int32) (p2 : Int32) (p3 : Int32) (p4 : Int32) : Option (Int32 × q_St) := q_bnd (f_Programs_hasProgram σ p1) (fun r1 => if r1.1 = 0 then (f_JT_program_14 r1.2) else (q_bnd (f_Programs_hasLine r1.2 p2) (fun r4 => if r4.1 = 0 then (f_JT_program_14 r4.2) else (q_bnd (f_Programs_setLine r4.2 p1 p2 p3 p4) (fun r7 => some (1, r7))))))
set_option maxHeartbeats 4000000 in
set_option maxRecDepth 100000 in
theorem c_JT_program {l : Launch} {D : va_G} {ad : Nat → Nat} {cs : Nat → ClassId} {sz : Nat} {σ : q_St} {p1 : Int32} {p2 : Int32} {p3 : Int32} {p4 : Int32} {res : (Int32 × q_St)} (hf : f_JT_program σ p1 p2 p3 p4 = some res) : Met l y_JT_program w_JT_program ({ frames := 2, cells := 0, slots := 0, locals := 44 } : Room) (q_Pre D vwCl (tyL cs) NW [.ref (ad 0), .int p1, .int p2, .int p3, .int p4] (q_ws 33 ad (cC ad cs σ)) sz) (q_Qi D vwCl res.1 (q_ws 33 ad (cC ad cs res.2)) (va_A (q_ws 33 ad (cC ad cs σ)) sz)) 0 0 (va_A (q_ws 33 ad (cC ad cs σ)) sz) := by
  refine Met.ofW (cc := b_JT_program) (maxL := 5) (ret := (some .boolean)) (by decide) rfl ?_
  intro p e s m args below meth c s₁ B hml hv
  obtain ⟨hargs, hsz, hP, hK, hD0, hN⟩ := hv
  have hx := B.exec
  have hb := B.bytes
  have hr := B.returns
  have hts := atoms_spec (ws := w_JT_program) B.pre
  have hown : s.vm.findClass "JobTerminal" = some m.cls := findClass_of_methodNamed B.named
  have hlocks := B.notSynchronized
  have htg : ∀ w ∈ GW, w.before args s = true := fun w h => hts w (List.mem_cons_of_mem _ h)
  subst hsz
  have hD := hD0.self (sz := s.heap.size)
  generalize hAe : va_A (q_ws 33 ad (cC ad cs σ)) s.heap.size = A at hD ⊢
  have hA : ∀ q : Nat, s.heap.size ≤ q → A q := fun q h => by rw [← hAe]; exact Or.inr h
  have I : q_I D vwCl A s.heap (q_ws 33 ad (cC ad cs σ)) s.heap [] := ⟨hP, hD, va_S.rf⟩
  obtain ⟨ls, hen, hl⟩ := q_entry (vs := [.ref (ad 0), .int p1, .int p2, .int p3, .int p4]) (n := 5) (lv := [(0, .ref (ad 0)), (1, .int p1), (2, .int p2), (3, .int p3), (4, .int p4)]) (by intro v hv; simp only [List.mem_cons, List.not_mem_nil, or_false] at hv; rcases hv with rfl | rfl | rfl | rfl | rfl <;> first | rfl | exact q_cat) (Nat.le_of_ble_eq_true rfl) rfl
  rw [show entryFrame m args 5 = F0 m 0 ls [] from by rw [hargs]; exact hen m]
  have C0 : q_Cx "JobTerminal" b_JT_program 5 (some .boolean) w_JT_program D vwCl (tyL cs) NW p s m args meth c := ⟨hx, hb, hr, hml, hown, hts, hlocks, hK, hN⟩
  unfold f_JT_program at hf
  have hgo : ∀ (H : Heap) (locs : List Loc), q_I D vwCl A s.heap (q_ws 33 ad (cC ad cs σ)) H locs → W p l e ({ frames := 2, cells := 0, slots := 0, locals := 44 } : Room) s m args below meth c H locs 0 0 (MQ below (q_Qi D vwCl res.1 (q_ws 33 ad (cC ad cs res.2)) A) args s 0 0 A) (F0 m 0 ls []) := by
    intro H locs I
    refine lv_iload_n hx hb d_JT_program_0 rfl (q_at hl 1 rfl) ?_
    obtain ⟨r1, e2, hf⟩ := q_bnd_some hf
    refine q_ki hA I (q_runS (As := [.int p1]) (rest := []) ⟨hx, hb, hml, hown, hts⟩ (c_Programs_hasProgram (sz := H.size) e2) (va_cwS 1 hts (q_goodS mw66 mw73 mw68 mw69) rfl rfl rfl (by decide +kernel) ⟨Nat.le_of_ble_eq_true rfl, Nat.le_of_ble_eq_true rfl⟩) NW_ok hK hN I rfl (q_sz hl) rfl (Nat.le_of_ble_eq_true rfl) d_JT_program_1 ⟨Nat.zero_le _, Nat.zero_le _⟩) (fun H locs I => ?_)
    refine lv_if_eq (tgt := 14) hx hb d_JT_program_4 (by decide) (fun c3 => ?_) (fun c3 => ?_)
    · rw [if_pos c3] at hf
      exact k_JT_program_14 C0 hA res r1.2 hf H locs I ls (q_hsub hl [] rfl)
    · rw [if_neg c3] at hf
      refine lv_iload_n hx hb d_JT_program_7 rfl (q_at hl 2 rfl) ?_
      obtain ⟨r4, e5, hf⟩ := q_bnd_some hf
      refine q_ki hA I (q_runS (As := [.int p2]) (rest := []) ⟨hx, hb, hml, hown, hts⟩ (c_Programs_hasLine (sz := H.size) e5) (va_cwS 1 hts (q_goodS mw70 mw74 mw72 mw69) rfl rfl rfl (by decide +kernel) ⟨Nat.le_of_ble_eq_true rfl, Nat.le_of_ble_eq_true rfl⟩) NW_ok hK hN I rfl (q_sz hl) rfl (Nat.le_of_ble_eq_true rfl) d_JT_program_8 ⟨Nat.zero_le _, Nat.zero_le _⟩) (fun H locs I => ?_)
      refine lv_if_ne (tgt := 16) hx hb d_JT_program_11 (by decide) (fun c6 => ?_) (fun c6 => ?_)
      · rw [if_neg c6] at hf
        refine lv_aload_n hx hb d_JT_program_16 rfl (q_at hl 0 rfl) ?_
        refine G_JT_JT_programs hx hb htg hown hK hN I d_JT_program_17 ?_
        refine lv_iload_n hx hb d_JT_program_20 rfl (q_at hl 1 rfl) ?_
        refine lv_iload_n hx hb d_JT_program_21 rfl (q_at hl 2 rfl) ?_
        refine lv_iload_n hx hb d_JT_program_22 rfl (q_at hl 3 rfl) ?_
        refine lv_iload hx hb d_JT_program_23 (q_at hl 4 rfl) ?_
        obtain ⟨r7, e8, hf⟩ := q_bnd_some hf
        refine q_kv hA I (q_runV (C := "JobTerminal$Programs") (As := [.int p1, .int p2, .int p3, .int p4]) (rest := []) ⟨hx, hb, hml, hown, hts⟩ (c_Programs_setLine (sz := H.size) e8) (cwV 4 hts (q_goodV mw75 mw76 mw77 mw78 mw69) rfl rfl rfl (by decide +kernel) ⟨Nat.le_of_ble_eq_true rfl, Nat.le_of_ble_eq_true rfl⟩) NW_ok hK hN I rfl (q_wsE (by decide) (a_C_Programs)) rfl (q_sz hl) rfl (Nat.le_of_ble_eq_true rfl) d_JT_program_25 ⟨Nat.zero_le _, Nat.zero_le _⟩) (fun H locs I => ?_)
        refine lv_iconst (v := 1) hx hb d_JT_program_28 (by decide) ?_
        cases hf
        exact q_zret (r0 := 1) hx hb hr hlocks (by decide) I d_JT_program_29
      · rw [if_pos c6] at hf
        exact k_JT_program_14 C0 hA res r4.2 hf H locs I ls (q_hsub hl [] rfl)
  exact hgo _ _ I
-- JobTerminal flags
def f_JT_flags_10 (σ : q_St) : Option (Int32 × q_St) := some (-1, σ)
set_option maxHeartbeats 4000000 in
set_option maxRecDepth 100000 in
theorem k_JT_flags_10 {p : Program} {l : Launch} {e : Env} {s : State} {m : MethodId} {args : Array Value} {below : List Frame} {meth : Method} {c : Code} {D : va_G} {A : Nat → Prop} {ad : Nat → Nat} {cs : Nat → ClassId} (C0 : q_Cx "JobTerminal" b_JT_flags 3 (some .int) w_JT_flags D vwCl (tyL cs) NW p s m args meth c) (hA : ∀ q, s.heap.size ≤ q → A q) (res : (Int32 × q_St)) : ∀ (σ : q_St) , f_JT_flags_10 σ  = some res → ∀ (H : Heap) (locs : List Loc), q_I D vwCl A s.heap (q_ws 33 ad (cC ad cs σ)) H locs → ∀ ls : Array Slot, q_has ls 3 [] → W p l e ({ frames := 0, cells := 0, slots := 0, locals := 0 } : Room) s m args below meth c H locs 0 0 (MQ below (q_Qi D vwCl res.1 (q_ws 33 ad (cC ad cs res.2)) A) args s 0 0 A) (F0 m 10 ls []) := by
  intro σ  hf H locs I ls hl
  unfold f_JT_flags_10 at hf
  obtain ⟨hx, hb, hr, hml, hown, hts, hlocks, hK, hN⟩ := id C0
  have htg : ∀ w ∈ GW, w.before args s = true := fun w h => hts w (List.mem_cons_of_mem _ h)
  refine lv_iconst (v := -1) hx hb d_JT_flags_10 (by decide) ?_
  cases hf
  exact q_iret hx hb hr hlocks I d_JT_flags_11
def f_JT_flags (σ : q_St) (p1 : Int32) : Option (Int32 × q_St) := if p1 < 0 then (f_JT_flags_10 σ) else (if p1 ≤ 63 then (some (σ 22 0, q_up σ 22 0 p1)) else (f_JT_flags_10 σ))
set_option maxHeartbeats 4000000 in
set_option maxRecDepth 100000 in
theorem c_JT_flags {l : Launch} {D : va_G} {ad : Nat → Nat} {cs : Nat → ClassId} {sz : Nat} {σ : q_St} {p1 : Int32} {res : (Int32 × q_St)} (hf : f_JT_flags σ p1 = some res) : Met l y_JT_flags w_JT_flags ({ frames := 0, cells := 0, slots := 0, locals := 0 } : Room) (q_Pre D vwCl (tyL cs) NW [.ref (ad 0), .int p1] (q_ws 33 ad (cC ad cs σ)) sz) (q_Qi D vwCl res.1 (q_ws 33 ad (cC ad cs res.2)) (va_A (q_ws 33 ad (cC ad cs σ)) sz)) 0 0 (va_A (q_ws 33 ad (cC ad cs σ)) sz) := by
  refine Met.ofW (cc := b_JT_flags) (maxL := 3) (ret := (some .int)) (by decide) rfl ?_
  intro p e s m args below meth c s₁ B hml hv
  obtain ⟨hargs, hsz, hP, hK, hD0, hN⟩ := hv
  have hx := B.exec
  have hb := B.bytes
  have hr := B.returns
  have hts := atoms_spec (ws := w_JT_flags) B.pre
  have hown : s.vm.findClass "JobTerminal" = some m.cls := findClass_of_methodNamed B.named
  have hlocks := B.notSynchronized
  have htg : ∀ w ∈ GW, w.before args s = true := fun w h => hts w (List.mem_cons_of_mem _ h)
  subst hsz
  have hD := hD0.self (sz := s.heap.size)
  generalize hAe : va_A (q_ws 33 ad (cC ad cs σ)) s.heap.size = A at hD ⊢
  have hA : ∀ q : Nat, s.heap.size ≤ q → A q := fun q h => by rw [← hAe]; exact Or.inr h
  have I : q_I D vwCl A s.heap (q_ws 33 ad (cC ad cs σ)) s.heap [] := ⟨hP, hD, va_S.rf⟩
  obtain ⟨ls, hen, hl⟩ := q_entry (vs := [.ref (ad 0), .int p1]) (n := 3) (lv := [(0, .ref (ad 0)), (1, .int p1)]) (by intro v hv; simp only [List.mem_cons, List.not_mem_nil, or_false] at hv; rcases hv with rfl | rfl <;> first | rfl | exact q_cat) (Nat.le_of_ble_eq_true rfl) rfl
  rw [show entryFrame m args 3 = F0 m 0 ls [] from by rw [hargs]; exact hen m]
  have C0 : q_Cx "JobTerminal" b_JT_flags 3 (some .int) w_JT_flags D vwCl (tyL cs) NW p s m args meth c := ⟨hx, hb, hr, hml, hown, hts, hlocks, hK, hN⟩
  unfold f_JT_flags at hf
  have hgo : ∀ (H : Heap) (locs : List Loc), q_I D vwCl A s.heap (q_ws 33 ad (cC ad cs σ)) H locs → W p l e ({ frames := 0, cells := 0, slots := 0, locals := 0 } : Room) s m args below meth c H locs 0 0 (MQ below (q_Qi D vwCl res.1 (q_ws 33 ad (cC ad cs res.2)) A) args s 0 0 A) (F0 m 0 ls []) := by
    intro H locs I
    refine lv_iload_n hx hb d_JT_flags_0 rfl (q_at hl 1 rfl) ?_
    refine lv_if_lt (tgt := 10) hx hb d_JT_flags_1 (by decide) (fun c1 => ?_) (fun c1 => ?_)
    · rw [if_pos c1] at hf
      exact k_JT_flags_10 C0 hA res σ hf H locs I ls (q_hsub hl [] rfl)
    · rw [if_neg c1] at hf
      refine lv_iload_n hx hb d_JT_flags_4 rfl (q_at hl 1 rfl) ?_
      refine lv_bipush (v := 63) hx hb d_JT_flags_5 (by decide) ?_
      refine lv_icmp_le (tgt := 12) hx hb d_JT_flags_7 (by decide) (fun c2 => ?_) (fun c2 => ?_)
      · rw [if_pos c2] at hf
        refine lv_aload_n hx hb d_JT_flags_12 rfl (q_at hl 0 rfl) ?_
        refine G_JT_JT_terminal hx hb htg hown hK hN I d_JT_flags_13 ?_
        refine G_JT_Terminal_modes hx hb htg hown hK hN I d_JT_flags_16 ?_
        refine q_istore_n (lv' := [(2, .int (σ 22 0)), (0, .ref (ad 0)), (1, .int p1)]) hx hb d_JT_flags_19 rfl hl (by decide) rfl (fun ls hl => ?_)
        refine lv_aload_n hx hb d_JT_flags_20 rfl (q_at hl 1 rfl) ?_
        refine G_JT_JT_terminal hx hb htg hown hK hN I d_JT_flags_21 ?_
        refine lv_iload_n hx hb d_JT_flags_24 rfl (q_at hl 2 rfl) ?_
        refine P_JT_Terminal_modes hx hb htg hown hK hN I d_JT_flags_25 (fun H locs I => ?_)
        refine lv_iload_n hx hb d_JT_flags_28 rfl (q_at hl 0 rfl) ?_
        cases hf
        exact q_iret hx hb hr hlocks I d_JT_flags_29
      · rw [if_neg c2] at hf
        exact k_JT_flags_10 C0 hA res σ hf H locs I ls (q_hsub hl [] rfl)
  exact hgo _ _ I
-- JobTerminal settle
def f_JT_settle_50 (σ : q_St) : Option q_St := some σ
set_option maxHeartbeats 4000000 in
set_option maxRecDepth 100000 in
theorem k_JT_settle_50 {p : Program} {l : Launch} {e : Env} {s : State} {m : MethodId} {args : Array Value} {below : List Frame} {meth : Method} {c : Code} {D : va_G} {A : Nat → Prop} {ad : Nat → Nat} {cs : Nat → ClassId} (C0 : q_Cx "JobTerminal" b_JT_settle 2 none w_JT_settle D vwCl (tyL cs) NW p s m args meth c) (hA : ∀ q, s.heap.size ≤ q → A q) (res : q_St) : ∀ (σ : q_St) , f_JT_settle_50 σ  = some res → ∀ (H : Heap) (locs : List Loc), q_I D vwCl A s.heap (q_ws 33 ad (cC ad cs σ)) H locs → ∀ ls : Array Slot, q_has ls 2 [] → W p l e ({ frames := 2, cells := 0, slots := 0, locals := 41 } : Room) s m args below meth c H locs 0 0 (MQ below (q_Qv D vwCl (q_ws 33 ad (cC ad cs res)) A) args s 0 0 A) (F0 m 50 ls []) := by
  intro σ  hf H locs I ls hl
  unfold f_JT_settle_50 at hf
  obtain ⟨hx, hb, hr, hml, hown, hts, hlocks, hK, hN⟩ := id C0
  have htg : ∀ w ∈ GW, w.before args s = true := fun w h => hts w (List.mem_cons_of_mem _ h)
  cases hf
  exact q_vret hx hb hr hlocks I d_JT_settle_50
def f_JT_settle_15 (σ : q_St) : Option q_St := some σ
set_option maxHeartbeats 4000000 in
set_option maxRecDepth 100000 in
theorem k_JT_settle_15 {p : Program} {l : Launch} {e : Env} {s : State} {m : MethodId} {args : Array Value} {below : List Frame} {meth : Method} {c : Code} {D : va_G} {A : Nat → Prop} {ad : Nat → Nat} {cs : Nat → ClassId} (C0 : q_Cx "JobTerminal" b_JT_settle 2 none w_JT_settle D vwCl (tyL cs) NW p s m args meth c) (hA : ∀ q, s.heap.size ≤ q → A q) (res : q_St) : ∀ (σ : q_St) , f_JT_settle_15 σ  = some res → ∀ (H : Heap) (locs : List Loc), q_I D vwCl A s.heap (q_ws 33 ad (cC ad cs σ)) H locs → ∀ ls : Array Slot, q_has ls 2 [] → W p l e ({ frames := 2, cells := 0, slots := 0, locals := 41 } : Room) s m args below meth c H locs 0 0 (MQ below (q_Qv D vwCl (q_ws 33 ad (cC ad cs res)) A) args s 0 0 A) (F0 m 15 ls []) := by
  intro σ  hf H locs I ls hl
  unfold f_JT_settle_15 at hf
  obtain ⟨hx, hb, hr, hml, hown, hts, hlocks, hK, hN⟩ := id C0
  have htg : ∀ w ∈ GW, w.before args s = true := fun w h => hts w (List.mem_cons_of_mem _ h)
  cases hf
  exact q_vret hx hb hr hlocks I d_JT_settle_15
def f_JT_settle (σ : q_St) (p1 : Int32) : Option q_St := if p1 < 0 then (f_JT_settle_15 σ) else (q_grd (q_in p1 4) (q_bnd (f_Job_state σ p1.toNatClampNeg) (fun r3 => if r3.1 = (r3.2 31 p1.toNatClampNeg) then (f_JT_settle_15 r3.2) else (q_bnd (f_Job_state r3.2 p1.toNatClampNeg) (fun r6 => if ((q_up (q_up r6.2 31 p1.toNatClampNeg r6.1) 30 p1.toNatClampNeg 1) 31 p1.toNatClampNeg) = 1 then (f_JT_settle_50 (q_up (q_up r6.2 31 p1.toNatClampNeg r6.1) 30 p1.toNatClampNeg 1)) else (q_grd (q_okn ((q_up (q_up r6.2 31 p1.toNatClampNeg r6.1) 30 p1.toNatClampNeg 1) 20 0) 4) (q_grd (q_okn p1 4) (if ((q_up (q_up r6.2 31 p1.toNatClampNeg r6.1) 30 p1.toNatClampNeg 1) 20 0) = p1 then (f_JT_settle_50 (q_up (q_up (q_up r6.2 31 p1.toNatClampNeg r6.1) 30 p1.toNatClampNeg 1) 20 0 (-1))) else (f_JT_settle_50 (q_up (q_up r6.2 31 p1.toNatClampNeg r6.1) 30 p1.toNatClampNeg 1))))))))))
set_option maxHeartbeats 4000000 in
set_option maxRecDepth 100000 in
theorem c_JT_settle {l : Launch} {D : va_G} {ad : Nat → Nat} {cs : Nat → ClassId} {sz : Nat} {σ : q_St} {p1 : Int32} {res : q_St} (hf : f_JT_settle σ p1 = some res) : Met l y_JT_settle w_JT_settle ({ frames := 2, cells := 0, slots := 0, locals := 41 } : Room) (q_Pre D vwCl (tyL cs) NW [.ref (ad 0), q_rv ad 17 p1] (q_ws 33 ad (cC ad cs σ)) sz) (q_Qv D vwCl (q_ws 33 ad (cC ad cs res)) (va_A (q_ws 33 ad (cC ad cs σ)) sz)) 0 0 (va_A (q_ws 33 ad (cC ad cs σ)) sz) := by
  refine Met.ofW (cc := b_JT_settle) (maxL := 2) (ret := none) (by decide) rfl ?_
  intro p e s m args below meth c s₁ B hml hv
  obtain ⟨hargs, hsz, hP, hK, hD0, hN⟩ := hv
  have hx := B.exec
  have hb := B.bytes
  have hr := B.returns
  have hts := atoms_spec (ws := w_JT_settle) B.pre
  have hown : s.vm.findClass "JobTerminal" = some m.cls := findClass_of_methodNamed B.named
  have hlocks := B.notSynchronized
  have htg : ∀ w ∈ GW, w.before args s = true := fun w h => hts w (List.mem_cons_of_mem _ h)
  subst hsz
  have hD := hD0.self (sz := s.heap.size)
  generalize hAe : va_A (q_ws 33 ad (cC ad cs σ)) s.heap.size = A at hD ⊢
  have hA : ∀ q : Nat, s.heap.size ≤ q → A q := fun q h => by rw [← hAe]; exact Or.inr h
  have I : q_I D vwCl A s.heap (q_ws 33 ad (cC ad cs σ)) s.heap [] := ⟨hP, hD, va_S.rf⟩
  obtain ⟨ls, hen, hl⟩ := q_entry (vs := [.ref (ad 0), q_rv ad 17 p1]) (n := 2) (lv := [(0, .ref (ad 0)), (1, q_rv ad 17 p1)]) (by intro v hv; simp only [List.mem_cons, List.not_mem_nil, or_false] at hv; rcases hv with rfl | rfl <;> first | rfl | exact q_cat) (Nat.le_of_ble_eq_true rfl) rfl
  rw [show entryFrame m args 2 = F0 m 0 ls [] from by rw [hargs]; exact hen m]
  have C0 : q_Cx "JobTerminal" b_JT_settle 2 none w_JT_settle D vwCl (tyL cs) NW p s m args meth c := ⟨hx, hb, hr, hml, hown, hts, hlocks, hK, hN⟩
  unfold f_JT_settle at hf
  have hgo : ∀ (H : Heap) (locs : List Loc), q_I D vwCl A s.heap (q_ws 33 ad (cC ad cs σ)) H locs → W p l e ({ frames := 2, cells := 0, slots := 0, locals := 41 } : Room) s m args below meth c H locs 0 0 (MQ below (q_Qv D vwCl (q_ws 33 ad (cC ad cs res)) A) args s 0 0 A) (F0 m 0 ls []) := by
    intro H locs I
    refine q_aload_n hx hb d_JT_settle_0 rfl (q_at hl 1 rfl) ?_
    refine q_ifnull (tgt := 15) hx hb d_JT_settle_1 (by decide) (fun c1 => ?_) (fun c1 => ?_)
    · rw [if_pos c1] at hf
      exact k_JT_settle_15 C0 hA res σ hf H locs I ls (q_hsub hl [] rfl)
    · rw [if_neg c1] at hf
      refine q_aload_n hx hb d_JT_settle_4 rfl (q_at hl 1 rfl) ?_
      obtain ⟨o2, hf⟩ := q_grd_some hf
      rw [q_rv_ref (q_in_pos o2)]
      obtain ⟨r3, e4, hf⟩ := q_bnd_some hf
      refine q_ki hA I (q_runV (C := "JobTerminal$Job") (As := []) (rest := []) ⟨hx, hb, hml, hown, hts⟩ (c_Job_state (sz := H.size) (q_in_lt o2) e4) (cwV 0 hts (q_goodV mw175 mw176 mw177 mw178 mw179) rfl rfl rfl (by decide +kernel) ⟨Nat.le_of_ble_eq_true rfl, Nat.le_of_ble_eq_true rfl⟩) NW_ok hK hN I rfl (q_wsE (Nat.lt_of_lt_of_le (Nat.add_lt_add_left (q_in_lt o2) _) (by decide)) (a_C_Job (q_in_lt o2))) rfl (q_sz hl) rfl (Nat.le_of_ble_eq_true rfl) d_JT_settle_5 ⟨Nat.zero_le _, Nat.zero_le _⟩) (fun H locs I => ?_)
      refine q_aload_n hx hb d_JT_settle_8 rfl (q_at hl 1 rfl) ?_
      rw [q_rv_ref (q_in_pos o2)]
      refine G_JT_Job_settledState hx hb htg hown hK hN I (q_in_lt o2) d_JT_settle_9 ?_
      refine lv_icmp_ne (tgt := 16) hx hb d_JT_settle_12 (by decide) (fun c5 => ?_) (fun c5 => ?_)
      · rw [if_neg c5] at hf
        refine q_aload_n hx hb d_JT_settle_16 rfl (q_at hl 1 rfl) ?_
        refine q_aload_n hx hb d_JT_settle_17 rfl (q_at hl 1 rfl) ?_
        rw [q_rv_ref (q_in_pos o2)]
        obtain ⟨r6, e7, hf⟩ := q_bnd_some hf
        refine q_ki hA I (q_runV (C := "JobTerminal$Job") (As := []) (rest := [.ref (ad (17 + p1.toNatClampNeg))]) ⟨hx, hb, hml, hown, hts⟩ (c_Job_state (sz := H.size) (q_in_lt o2) e7) (cwV 0 hts (q_goodV mw175 mw176 mw177 mw178 mw179) rfl rfl rfl (by decide +kernel) ⟨Nat.le_of_ble_eq_true rfl, Nat.le_of_ble_eq_true rfl⟩) NW_ok hK hN I rfl (q_wsE (Nat.lt_of_lt_of_le (Nat.add_lt_add_left (q_in_lt o2) _) (by decide)) (a_C_Job (q_in_lt o2))) rfl (q_sz hl) rfl (Nat.le_of_ble_eq_true rfl) d_JT_settle_18 ⟨Nat.zero_le _, Nat.zero_le _⟩) (fun H locs I => ?_)
        refine P_JT_Job_settledState hx hb htg hown hK hN I (q_in_lt o2) d_JT_settle_21 (fun H locs I => ?_)
        refine q_aload_n hx hb d_JT_settle_24 rfl (q_at hl 1 rfl) ?_
        refine lv_iconst (v := 1) hx hb d_JT_settle_25 (by decide) ?_
        rw [q_rv_ref (q_in_pos o2)]
        refine P_JT_Job_untold hx hb htg hown hK hN I (q_in_lt o2) (by decide) d_JT_settle_26 (fun H locs I => ?_)
        refine q_aload_n hx hb d_JT_settle_29 rfl (q_at hl 1 rfl) ?_
        rw [q_rv_ref (q_in_pos o2)]
        refine G_JT_Job_settledState hx hb htg hown hK hN I (q_in_lt o2) d_JT_settle_30 ?_
        refine lv_iconst (v := 1) hx hb d_JT_settle_33 (by decide) ?_
        refine lv_icmp_eq (tgt := 50) hx hb d_JT_settle_34 (by decide) (fun c8 => ?_) (fun c8 => ?_)
        · rw [if_pos c8] at hf
          exact k_JT_settle_50 C0 hA res (q_up (q_up r6.2 31 p1.toNatClampNeg r6.1) 30 p1.toNatClampNeg 1) hf H locs I ls (q_hsub hl [] rfl)
        · rw [if_neg c8] at hf
          refine lv_aload_n hx hb d_JT_settle_37 rfl (q_at hl 0 rfl) ?_
          refine G_JT_JT_foregroundJob hx hb htg hown hK hN I d_JT_settle_38 ?_
          refine q_aload_n hx hb d_JT_settle_41 rfl (q_at hl 1 rfl) ?_
          obtain ⟨o10, hf⟩ := q_grd_some hf
          obtain ⟨o11, hf⟩ := q_grd_some hf
          refine q_acmp_ne (b := 17) (n := 4) (tgt := 50) hx hb I.2.1 (by decide) (by decide) o10 o11 d_JT_settle_42 (by decide) (fun c9 => ?_) (fun c9 => ?_)
          · rw [if_neg c9] at hf
            exact k_JT_settle_50 C0 hA res (q_up (q_up r6.2 31 p1.toNatClampNeg r6.1) 30 p1.toNatClampNeg 1) hf H locs I ls (q_hsub hl [] rfl)
          · rw [if_pos c9] at hf
            refine lv_aload_n hx hb d_JT_settle_45 rfl (q_at hl 0 rfl) ?_
            refine q_null (ad := ad) hx hb 17 d_JT_settle_46 ?_
            refine P_JT_JT_foregroundJob hx hb htg hown hK hN I d_JT_settle_47 (fun H locs I => ?_)
            exact k_JT_settle_50 C0 hA res (q_up (q_up (q_up r6.2 31 p1.toNatClampNeg r6.1) 30 p1.toNatClampNeg 1) 20 0 (-1)) hf H locs I ls (q_hsub hl [] rfl)
      · rw [if_pos c5] at hf
        exact k_JT_settle_15 C0 hA res r3.2 hf H locs I ls (q_hsub hl [] rfl)
  exact hgo _ _ I
-- JobTerminal settleAll
def f_JT_settleAll_2 : Nat → q_St → Int32 → Option q_St
  | 0, _, _ => none
  | n + 1, σ, x1 => if 4 ≤ x1 then (some σ) else (q_grd (q_in x1 4) (q_bnd (f_JT_settle σ x1) (fun r3 => f_JT_settleAll_2 n r3 (x1 + 1))))
set_option maxHeartbeats 4000000 in
set_option maxRecDepth 100000 in
theorem k_JT_settleAll_2 {p : Program} {l : Launch} {e : Env} {s : State} {m : MethodId} {args : Array Value} {below : List Frame} {meth : Method} {c : Code} {D : va_G} {A : Nat → Prop} {ad : Nat → Nat} {cs : Nat → ClassId} (C0 : q_Cx "JobTerminal" b_JT_settleAll 2 none w_JT_settleAll D vwCl (tyL cs) NW p s m args meth c) (hA : ∀ q, s.heap.size ≤ q → A q) (res : q_St) : ∀ (n : Nat) (σ : q_St) (x1 : Int32) , f_JT_settleAll_2 n σ x1 = some res → ∀ (H : Heap) (locs : List Loc), q_I D vwCl A s.heap (q_ws 33 ad (cC ad cs σ)) H locs → ∀ ls : Array Slot, q_has ls 2 [(0, .ref (ad 0)), (1, .int x1)] → W p l e ({ frames := 3, cells := 0, slots := 0, locals := 62 } : Room) s m args below meth c H locs 0 0 (MQ below (q_Qv D vwCl (q_ws 33 ad (cC ad cs res)) A) args s 0 0 A) (F0 m 2 ls []) := by
  intro n
  induction n with
  | zero => intro σ x1 hf; cases hf
  | succ n ih =>
    intro σ x1 hf H locs I ls hl
    have ih := ih
    rw [f_JT_settleAll_2] at hf
    have C0 := C0
    obtain ⟨hx, hb, hr, hml, hown, hts, hlocks, hK, hN⟩ := id C0
    have htg : ∀ w ∈ GW, w.before args s = true := fun w h => hts w (List.mem_cons_of_mem _ h)
    refine lv_iload_n hx hb d_JT_settleAll_2 rfl (q_at hl 1 rfl) ?_
    refine lv_iconst (v := 4) hx hb d_JT_settleAll_3 (by decide) ?_
    refine lv_icmp_ge (tgt := 23) hx hb d_JT_settleAll_4 (by decide) (fun c1 => ?_) (fun c1 => ?_)
    · rw [if_pos c1] at hf
      cases hf
      exact q_vret hx hb hr hlocks I d_JT_settleAll_23
    · rw [if_neg c1] at hf
      refine lv_aload_n hx hb d_JT_settleAll_7 rfl (q_at hl 0 rfl) ?_
      refine lv_aload_n hx hb d_JT_settleAll_8 rfl (q_at hl 0 rfl) ?_
      refine G_JT_JT_jobs hx hb htg hown hK hN I d_JT_settleAll_9 ?_
      refine lv_iload_n hx hb d_JT_settleAll_12 rfl (q_at hl 1 rfl) ?_
      obtain ⟨o2, hf⟩ := q_grd_some hf
      refine A_C_jobs hx hb hK I o2 d_JT_settleAll_13 ?_
      obtain ⟨r3, e4, hf⟩ := q_bnd_some hf
      refine q_kv hA I (q_runV (C := "JobTerminal") (As := [q_rv ad 17 x1]) (rest := []) ⟨hx, hb, hml, hown, hts⟩ (c_JT_settle (sz := H.size) e4) (cwV 1 hts (q_goodV mw180 mw181 mw182 mw183 mw184) rfl rfl rfl (by decide +kernel) ⟨Nat.le_of_ble_eq_true rfl, Nat.le_of_ble_eq_true rfl⟩) NW_ok hK hN I rfl (q_wsE (by decide) (a_C_JT)) rfl (q_sz hl) rfl (Nat.le_of_ble_eq_true rfl) d_JT_settleAll_14 ⟨Nat.zero_le _, Nat.zero_le _⟩) (fun H locs I => ?_)
      refine q_iinc (v := x1 + 1) (lv' := [(1, .int (x1 + 1)), (0, .ref (ad 0))]) hx hb d_JT_settleAll_17 hl (k := 1) rfl rfl (by decide) rfl (fun ls hl => ?_)
      refine lv_goto (tgt := 2) hx hb d_JT_settleAll_20 (by decide) ?_
      exact ih r3 (x1 + 1) hf H locs I ls (q_hsub hl [1, 0] rfl)
def f_JT_settleAll (σ : q_St) : Option q_St := f_JT_settleAll_2 200 σ 0
set_option maxHeartbeats 4000000 in
set_option maxRecDepth 100000 in
theorem c_JT_settleAll {l : Launch} {D : va_G} {ad : Nat → Nat} {cs : Nat → ClassId} {sz : Nat} {σ : q_St} {res : q_St} (hf : f_JT_settleAll σ  = some res) : Met l y_JT_settleAll w_JT_settleAll ({ frames := 3, cells := 0, slots := 0, locals := 62 } : Room) (q_Pre D vwCl (tyL cs) NW [.ref (ad 0)] (q_ws 33 ad (cC ad cs σ)) sz) (q_Qv D vwCl (q_ws 33 ad (cC ad cs res)) (va_A (q_ws 33 ad (cC ad cs σ)) sz)) 0 0 (va_A (q_ws 33 ad (cC ad cs σ)) sz) := by
  refine Met.ofW (cc := b_JT_settleAll) (maxL := 2) (ret := none) (by decide) rfl ?_
  intro p e s m args below meth c s₁ B hml hv
  obtain ⟨hargs, hsz, hP, hK, hD0, hN⟩ := hv
  have hx := B.exec
  have hb := B.bytes
  have hr := B.returns
  have hts := atoms_spec (ws := w_JT_settleAll) B.pre
  have hown : s.vm.findClass "JobTerminal" = some m.cls := findClass_of_methodNamed B.named
  have hlocks := B.notSynchronized
  have htg : ∀ w ∈ GW, w.before args s = true := fun w h => hts w (List.mem_cons_of_mem _ h)
  subst hsz
  have hD := hD0.self (sz := s.heap.size)
  generalize hAe : va_A (q_ws 33 ad (cC ad cs σ)) s.heap.size = A at hD ⊢
  have hA : ∀ q : Nat, s.heap.size ≤ q → A q := fun q h => by rw [← hAe]; exact Or.inr h
  have I : q_I D vwCl A s.heap (q_ws 33 ad (cC ad cs σ)) s.heap [] := ⟨hP, hD, va_S.rf⟩
  obtain ⟨ls, hen, hl⟩ := q_entry (vs := [.ref (ad 0)]) (n := 2) (lv := [(0, .ref (ad 0))]) (by intro v hv; simp only [List.mem_cons, List.not_mem_nil, or_false] at hv; rcases hv with rfl <;> first | rfl | exact q_cat) (Nat.le_of_ble_eq_true rfl) rfl
  rw [show entryFrame m args 2 = F0 m 0 ls [] from by rw [hargs]; exact hen m]
  have C0 : q_Cx "JobTerminal" b_JT_settleAll 2 none w_JT_settleAll D vwCl (tyL cs) NW p s m args meth c := ⟨hx, hb, hr, hml, hown, hts, hlocks, hK, hN⟩
  unfold f_JT_settleAll at hf
  have hgo : ∀ (H : Heap) (locs : List Loc), q_I D vwCl A s.heap (q_ws 33 ad (cC ad cs σ)) H locs → W p l e ({ frames := 3, cells := 0, slots := 0, locals := 62 } : Room) s m args below meth c H locs 0 0 (MQ below (q_Qv D vwCl (q_ws 33 ad (cC ad cs res)) A) args s 0 0 A) (F0 m 0 ls []) := by
    intro H locs I
    refine lv_iconst (v := 0) hx hb d_JT_settleAll_0 (by decide) ?_
    refine q_istore_n (lv' := [(1, .int 0), (0, .ref (ad 0))]) hx hb d_JT_settleAll_1 rfl hl (by decide) rfl (fun ls hl => ?_)
    exact k_JT_settleAll_2 C0 hA res 200 σ 0 hf H locs I ls (q_hsub hl [1, 0] rfl)
  exact hgo _ _ I
-- JobTerminal key
def f_JT_key_55 (σ : q_St) (x2 : Int32) : Option (Int32 × q_St) := q_bnd (f_Terminal_dropEdit σ x2) (fun r14 => q_bnd (f_JT_settleAll r14) (fun r16 => some (1, r16)))
set_option maxHeartbeats 4000000 in
set_option maxRecDepth 100000 in
theorem k_JT_key_55 {p : Program} {l : Launch} {e : Env} {s : State} {m : MethodId} {args : Array Value} {below : List Frame} {meth : Method} {c : Code} {D : va_G} {A : Nat → Prop} {ad : Nat → Nat} {cs : Nat → ClassId} (C0 : q_Cx "JobTerminal" b_JT_key 4 (some .boolean) w_JT_key D vwCl (tyL cs) NW p s m args meth c) (hA : ∀ q, s.heap.size ≤ q → A q) (res : (Int32 × q_St)) : ∀ (σ : q_St) (x2 : Int32) , f_JT_key_55 σ x2 = some res → ∀ (H : Heap) (locs : List Loc), q_I D vwCl A s.heap (q_ws 33 ad (cC ad cs σ)) H locs → ∀ ls : Array Slot, q_has ls 4 [(0, .ref (ad 0)), (2, .int x2)] → W p l e ({ frames := 6, cells := 0, slots := 0, locals := 126 } : Room) s m args below meth c H locs 0 0 (MQ below (q_Qi D vwCl res.1 (q_ws 33 ad (cC ad cs res.2)) A) args s 0 0 A) (F0 m 55 ls []) := by
  intro σ x2 hf H locs I ls hl
  unfold f_JT_key_55 at hf
  obtain ⟨hx, hb, hr, hml, hown, hts, hlocks, hK, hN⟩ := id C0
  have htg : ∀ w ∈ GW, w.before args s = true := fun w h => hts w (List.mem_cons_of_mem _ h)
  refine lv_aload_n hx hb d_JT_key_55 rfl (q_at hl 0 rfl) ?_
  refine G_JT_JT_terminal hx hb htg hown hK hN I d_JT_key_56 ?_
  refine lv_iload_n hx hb d_JT_key_59 rfl (q_at hl 1 rfl) ?_
  obtain ⟨r14, e15, hf⟩ := q_bnd_some hf
  refine q_kv hA I (q_runV (C := "JobTerminal$Terminal") (As := [.int x2]) (rest := []) ⟨hx, hb, hml, hown, hts⟩ (c_Terminal_dropEdit (sz := H.size) e15) (cwV 1 hts (q_goodV mw201 mw202 mw203 mw204 mw83) rfl rfl rfl (by decide +kernel) ⟨Nat.le_of_ble_eq_true rfl, Nat.le_of_ble_eq_true rfl⟩) NW_ok hK hN I rfl (q_wsE (by decide) (a_C_Terminal)) rfl (q_sz hl) rfl (Nat.le_of_ble_eq_true rfl) d_JT_key_60 ⟨Nat.zero_le _, Nat.zero_le _⟩) (fun H locs I => ?_)
  refine lv_aload_n hx hb d_JT_key_63 rfl (q_at hl 0 rfl) ?_
  obtain ⟨r16, e17, hf⟩ := q_bnd_some hf
  refine q_kv hA I (q_runV (C := "JobTerminal") (As := []) (rest := []) ⟨hx, hb, hml, hown, hts⟩ (c_JT_settleAll (sz := H.size) e17) (cwV 0 hts (q_goodV mw205 mw206 mw207 mw208 mw184) rfl rfl rfl (by decide +kernel) ⟨Nat.le_of_ble_eq_true rfl, Nat.le_of_ble_eq_true rfl⟩) NW_ok hK hN I rfl (q_wsE (by decide) (a_C_JT)) rfl (q_sz hl) rfl (Nat.le_of_ble_eq_true rfl) d_JT_key_64 ⟨Nat.zero_le _, Nat.zero_le _⟩) (fun H locs I => ?_)
  refine lv_iconst (v := 1) hx hb d_JT_key_67 (by decide) ?_
  cases hf
  exact q_zret (r0 := 1) hx hb hr hlocks (by decide) I d_JT_key_68
def f_JT_key (σ : q_St) (p1 : Int32) : Option (Int32 × q_St) := if p1 ≤ 127 then (q_bnd (f_Terminal_translate σ p1) (fun r2 => q_bnd (f_Terminal_signalFor r2.2 r2.1) (fun r4 => if r4.1 = (-1) then (q_bnd (f_Terminal_type r4.2 r2.1) (fun r11 => q_grd (q_isB r11.1) (some (r11.1, r11.2)))) else (if (r4.2 20 0) < 0 then (f_JT_key_55 r4.2 r2.1) else (q_grd (q_in (r4.2 20 0) 4) (q_bnd (f_Job_receive r4.2 ((r4.2 20 0).toNatClampNeg) r4.1) (fun r9 => f_JT_key_55 r9 r2.1))))))) else (some (0, σ))
set_option maxHeartbeats 4000000 in
set_option maxRecDepth 100000 in
theorem c_JT_key {l : Launch} {D : va_G} {ad : Nat → Nat} {cs : Nat → ClassId} {sz : Nat} {σ : q_St} {p1 : Int32} {res : (Int32 × q_St)} (hf : f_JT_key σ p1 = some res) : Met l y_JT_key w_JT_key ({ frames := 6, cells := 0, slots := 0, locals := 126 } : Room) (q_Pre D vwCl (tyL cs) NW [.ref (ad 0), .int p1] (q_ws 33 ad (cC ad cs σ)) sz) (q_Qi D vwCl res.1 (q_ws 33 ad (cC ad cs res.2)) (va_A (q_ws 33 ad (cC ad cs σ)) sz)) 0 0 (va_A (q_ws 33 ad (cC ad cs σ)) sz) := by
  refine Met.ofW (cc := b_JT_key) (maxL := 4) (ret := (some .boolean)) (by decide) rfl ?_
  intro p e s m args below meth c s₁ B hml hv
  obtain ⟨hargs, hsz, hP, hK, hD0, hN⟩ := hv
  have hx := B.exec
  have hb := B.bytes
  have hr := B.returns
  have hts := atoms_spec (ws := w_JT_key) B.pre
  have hown : s.vm.findClass "JobTerminal" = some m.cls := findClass_of_methodNamed B.named
  have hlocks := B.notSynchronized
  have htg : ∀ w ∈ GW, w.before args s = true := fun w h => hts w (List.mem_cons_of_mem _ h)
  subst hsz
  have hD := hD0.self (sz := s.heap.size)
  generalize hAe : va_A (q_ws 33 ad (cC ad cs σ)) s.heap.size = A at hD ⊢
  have hA : ∀ q : Nat, s.heap.size ≤ q → A q := fun q h => by rw [← hAe]; exact Or.inr h
  have I : q_I D vwCl A s.heap (q_ws 33 ad (cC ad cs σ)) s.heap [] := ⟨hP, hD, va_S.rf⟩
  obtain ⟨ls, hen, hl⟩ := q_entry (vs := [.ref (ad 0), .int p1]) (n := 4) (lv := [(0, .ref (ad 0)), (1, .int p1)]) (by intro v hv; simp only [List.mem_cons, List.not_mem_nil, or_false] at hv; rcases hv with rfl | rfl <;> first | rfl | exact q_cat) (Nat.le_of_ble_eq_true rfl) rfl
  rw [show entryFrame m args 4 = F0 m 0 ls [] from by rw [hargs]; exact hen m]
  have C0 : q_Cx "JobTerminal" b_JT_key 4 (some .boolean) w_JT_key D vwCl (tyL cs) NW p s m args meth c := ⟨hx, hb, hr, hml, hown, hts, hlocks, hK, hN⟩
  unfold f_JT_key at hf
  have hgo : ∀ (H : Heap) (locs : List Loc), q_I D vwCl A s.heap (q_ws 33 ad (cC ad cs σ)) H locs → W p l e ({ frames := 6, cells := 0, slots := 0, locals := 126 } : Room) s m args below meth c H locs 0 0 (MQ below (q_Qi D vwCl res.1 (q_ws 33 ad (cC ad cs res.2)) A) args s 0 0 A) (F0 m 0 ls []) := by
    intro H locs I
    refine lv_iload_n hx hb d_JT_key_0 rfl (q_at hl 1 rfl) ?_
    refine lv_bipush (v := 127) hx hb d_JT_key_1 (by decide) ?_
    refine lv_icmp_le (tgt := 8) hx hb d_JT_key_3 (by decide) (fun c1 => ?_) (fun c1 => ?_)
    · rw [if_pos c1] at hf
      refine lv_aload_n hx hb d_JT_key_8 rfl (q_at hl 0 rfl) ?_
      refine G_JT_JT_terminal hx hb htg hown hK hN I d_JT_key_9 ?_
      refine lv_iload_n hx hb d_JT_key_12 rfl (q_at hl 1 rfl) ?_
      obtain ⟨r2, e3, hf⟩ := q_bnd_some hf
      refine q_ki hA I (q_runV (C := "JobTerminal$Terminal") (As := [.int p1]) (rest := []) ⟨hx, hb, hml, hown, hts⟩ (c_Terminal_translate (sz := H.size) e3) (cwV 1 hts (q_goodV mw185 mw186 mw187 mw188 mw83) rfl rfl rfl (by decide +kernel) ⟨Nat.le_of_ble_eq_true rfl, Nat.le_of_ble_eq_true rfl⟩) NW_ok hK hN I rfl (q_wsE (by decide) (a_C_Terminal)) rfl (q_sz hl) rfl (Nat.le_of_ble_eq_true rfl) d_JT_key_13 ⟨Nat.zero_le _, Nat.zero_le _⟩) (fun H locs I => ?_)
      refine q_istore_n (lv' := [(2, .int r2.1), (0, .ref (ad 0)), (1, .int p1)]) hx hb d_JT_key_16 rfl hl (by decide) rfl (fun ls hl => ?_)
      refine lv_aload_n hx hb d_JT_key_17 rfl (q_at hl 1 rfl) ?_
      refine G_JT_JT_terminal hx hb htg hown hK hN I d_JT_key_18 ?_
      refine lv_iload_n hx hb d_JT_key_21 rfl (q_at hl 0 rfl) ?_
      obtain ⟨r4, e5, hf⟩ := q_bnd_some hf
      refine q_ki hA I (q_runV (C := "JobTerminal$Terminal") (As := [.int r2.1]) (rest := []) ⟨hx, hb, hml, hown, hts⟩ (c_Terminal_signalFor (sz := H.size) e5) (cwV 1 hts (q_goodV mw189 mw190 mw191 mw192 mw83) rfl rfl rfl (by decide +kernel) ⟨Nat.le_of_ble_eq_true rfl, Nat.le_of_ble_eq_true rfl⟩) NW_ok hK hN I rfl (q_wsE (by decide) (a_C_Terminal)) rfl (q_sz hl) rfl (Nat.le_of_ble_eq_true rfl) d_JT_key_22 ⟨Nat.zero_le _, Nat.zero_le _⟩) (fun H locs I => ?_)
      refine q_istore_n (lv' := [(3, .int r4.1), (2, .int r2.1), (0, .ref (ad 0)), (1, .int p1)]) hx hb d_JT_key_25 rfl hl (by decide) rfl (fun ls hl => ?_)
      refine lv_iload_n hx hb d_JT_key_26 rfl (q_at hl 0 rfl) ?_
      refine lv_iconst (v := -1) hx hb d_JT_key_27 (by decide) ?_
      refine lv_icmp_ne (tgt := 40) hx hb d_JT_key_28 (by decide) (fun c6 => ?_) (fun c6 => ?_)
      · rw [if_neg c6] at hf
        refine lv_aload_n hx hb d_JT_key_40 rfl (q_at hl 2 rfl) ?_
        refine G_JT_JT_foregroundJob hx hb htg hown hK hN I d_JT_key_41 ?_
        refine q_ifnull (tgt := 55) hx hb d_JT_key_44 (by decide) (fun c7 => ?_) (fun c7 => ?_)
        · rw [if_pos c7] at hf
          exact k_JT_key_55 C0 hA res r4.2 r2.1 hf H locs I ls (q_hsub hl [2, 1] rfl)
        · rw [if_neg c7] at hf
          refine lv_aload_n hx hb d_JT_key_47 rfl (q_at hl 2 rfl) ?_
          refine G_JT_JT_foregroundJob hx hb htg hown hK hN I d_JT_key_48 ?_
          refine lv_iload_n hx hb d_JT_key_51 rfl (q_at hl 0 rfl) ?_
          obtain ⟨o8, hf⟩ := q_grd_some hf
          rw [q_rv_ref (q_in_pos o8)]
          obtain ⟨r9, e10, hf⟩ := q_bnd_some hf
          refine q_kv hA I (q_runV (C := "JobTerminal$Job") (As := [.int r4.1]) (rest := []) ⟨hx, hb, hml, hown, hts⟩ (c_Job_receive (sz := H.size) (q_in_lt o8) e10) (cwV 1 hts (q_goodV mw193 mw194 mw195 mw196 mw179) rfl rfl rfl (by decide +kernel) ⟨Nat.le_of_ble_eq_true rfl, Nat.le_of_ble_eq_true rfl⟩) NW_ok hK hN I rfl (q_wsE (Nat.lt_of_lt_of_le (Nat.add_lt_add_left (q_in_lt o8) _) (by decide)) (a_C_Job (q_in_lt o8))) rfl (q_sz hl) rfl (Nat.le_of_ble_eq_true rfl) d_JT_key_52 ⟨Nat.zero_le _, Nat.zero_le _⟩) (fun H locs I => ?_)
          exact k_JT_key_55 C0 hA res r9 r2.1 hf H locs I ls (q_hsub hl [2, 1] rfl)
      · rw [if_pos c6] at hf
        refine lv_aload_n hx hb d_JT_key_31 rfl (q_at hl 2 rfl) ?_
        refine G_JT_JT_terminal hx hb htg hown hK hN I d_JT_key_32 ?_
        refine lv_iload_n hx hb d_JT_key_35 rfl (q_at hl 1 rfl) ?_
        obtain ⟨r11, e12, hf⟩ := q_bnd_some hf
        refine q_ki hA I (q_runV (C := "JobTerminal$Terminal") (As := [.int r2.1]) (rest := []) ⟨hx, hb, hml, hown, hts⟩ (c_Terminal_type (sz := H.size) e12) (cwV 1 hts (q_goodV mw197 mw198 mw199 mw200 mw83) rfl rfl rfl (by decide +kernel) ⟨Nat.le_of_ble_eq_true rfl, Nat.le_of_ble_eq_true rfl⟩) NW_ok hK hN I rfl (q_wsE (by decide) (a_C_Terminal)) rfl (q_sz hl) rfl (Nat.le_of_ble_eq_true rfl) d_JT_key_36 ⟨Nat.zero_le _, Nat.zero_le _⟩) (fun H locs I => ?_)
        obtain ⟨o13, hf⟩ := q_grd_some hf
        cases hf
        exact q_zret hx hb hr hlocks o13 I d_JT_key_39
    · rw [if_neg c1] at hf
      refine lv_iconst (v := 0) hx hb d_JT_key_6 (by decide) ?_
      cases hf
      exact q_zret (r0 := 0) hx hb hr hlocks (by decide) I d_JT_key_7
  exact hgo _ _ I
-- JobTerminal unusedJob
def f_JT_unusedJob_2 : Nat → q_St → Int32 → Option (Int32 × q_St)
  | 0, _, _ => none
  | n + 1, σ, x1 => if 4 ≤ x1 then (some (-1, σ)) else (q_grd (q_in x1 4) (q_bnd (f_Job_exists σ x1.toNatClampNeg) (fun r3 => if r3.1 = 0 then (q_grd (q_in x1 4) (some (x1, r3.2))) else (f_JT_unusedJob_2 n r3.2 (x1 + 1)))))
set_option maxHeartbeats 4000000 in
set_option maxRecDepth 100000 in
theorem k_JT_unusedJob_2 {p : Program} {l : Launch} {e : Env} {s : State} {m : MethodId} {args : Array Value} {below : List Frame} {meth : Method} {c : Code} {D : va_G} {A : Nat → Prop} {ad : Nat → Nat} {cs : Nat → ClassId} (C0 : q_Cx "JobTerminal" b_JT_unusedJob 2 (some (.object "JobTerminal$Job")) w_JT_unusedJob D vwCl (tyL cs) NW p s m args meth c) (hA : ∀ q, s.heap.size ≤ q → A q) (res : (Int32 × q_St)) : ∀ (n : Nat) (σ : q_St) (x1 : Int32) , f_JT_unusedJob_2 n σ x1 = some res → ∀ (H : Heap) (locs : List Loc), q_I D vwCl A s.heap (q_ws 33 ad (cC ad cs σ)) H locs → ∀ ls : Array Slot, q_has ls 2 [(0, .ref (ad 0)), (1, .int x1)] → W p l e ({ frames := 1, cells := 0, slots := 0, locals := 20 } : Room) s m args below meth c H locs 0 0 (MQ below (q_Qq D vwCl (q_rfo ad 17 res.1) (q_ws 33 ad (cC ad cs res.2)) A) args s 0 0 A) (F0 m 2 ls []) := by
  intro n
  induction n with
  | zero => intro σ x1 hf; cases hf
  | succ n ih =>
    intro σ x1 hf H locs I ls hl
    have ih := ih
    rw [f_JT_unusedJob_2] at hf
    have C0 := C0
    obtain ⟨hx, hb, hr, hml, hown, hts, hlocks, hK, hN⟩ := id C0
    have htg : ∀ w ∈ GW, w.before args s = true := fun w h => hts w (List.mem_cons_of_mem _ h)
    refine lv_iload_n hx hb d_JT_unusedJob_2 rfl (q_at hl 1 rfl) ?_
    refine lv_iconst (v := 4) hx hb d_JT_unusedJob_3 (by decide) ?_
    refine lv_icmp_ge (tgt := 32) hx hb d_JT_unusedJob_4 (by decide) (fun c1 => ?_) (fun c1 => ?_)
    · rw [if_pos c1] at hf
      refine q_null (ad := ad) hx hb 17 d_JT_unusedJob_32 ?_
      cases hf
      exact q_aret (ad := ad) hx hb hr hlocks I d_JT_unusedJob_33
    · rw [if_neg c1] at hf
      refine lv_aload_n hx hb d_JT_unusedJob_7 rfl (q_at hl 0 rfl) ?_
      refine G_JT_JT_jobs hx hb htg hown hK hN I d_JT_unusedJob_8 ?_
      refine lv_iload_n hx hb d_JT_unusedJob_11 rfl (q_at hl 1 rfl) ?_
      obtain ⟨o2, hf⟩ := q_grd_some hf
      refine A_C_jobs hx hb hK I o2 d_JT_unusedJob_12 ?_
      rw [q_rv_ref (q_in_pos o2)]
      obtain ⟨r3, e4, hf⟩ := q_bnd_some hf
      refine q_ki hA I (q_runV (C := "JobTerminal$Job") (As := []) (rest := []) ⟨hx, hb, hml, hown, hts⟩ (c_Job_exists (sz := H.size) (q_in_lt o2) e4) (cwV 0 hts (q_goodV mw209 mw210 mw211 mw212 mw179) rfl rfl rfl (by decide +kernel) ⟨Nat.le_of_ble_eq_true rfl, Nat.le_of_ble_eq_true rfl⟩) NW_ok hK hN I rfl (q_wsE (Nat.lt_of_lt_of_le (Nat.add_lt_add_left (q_in_lt o2) _) (by decide)) (a_C_Job (q_in_lt o2))) rfl (q_sz hl) rfl (Nat.le_of_ble_eq_true rfl) d_JT_unusedJob_13 ⟨Nat.zero_le _, Nat.zero_le _⟩) (fun H locs I => ?_)
      refine lv_if_ne (tgt := 26) hx hb d_JT_unusedJob_16 (by decide) (fun c5 => ?_) (fun c5 => ?_)
      · rw [if_neg c5] at hf
        refine q_iinc (v := x1 + 1) (lv' := [(1, .int (x1 + 1)), (0, .ref (ad 0))]) hx hb d_JT_unusedJob_26 hl (k := 1) rfl rfl (by decide) rfl (fun ls hl => ?_)
        refine lv_goto (tgt := 2) hx hb d_JT_unusedJob_29 (by decide) ?_
        exact ih r3.2 (x1 + 1) hf H locs I ls (q_hsub hl [1, 0] rfl)
      · rw [if_pos c5] at hf
        refine lv_aload_n hx hb d_JT_unusedJob_19 rfl (q_at hl 0 rfl) ?_
        refine G_JT_JT_jobs hx hb htg hown hK hN I d_JT_unusedJob_20 ?_
        refine lv_iload_n hx hb d_JT_unusedJob_23 rfl (q_at hl 1 rfl) ?_
        obtain ⟨o6, hf⟩ := q_grd_some hf
        refine A_C_jobs hx hb hK I o6 d_JT_unusedJob_24 ?_
        cases hf
        exact q_aret (ad := ad) hx hb hr hlocks I d_JT_unusedJob_25
def f_JT_unusedJob (σ : q_St) : Option (Int32 × q_St) := f_JT_unusedJob_2 200 σ 0
set_option maxHeartbeats 4000000 in
set_option maxRecDepth 100000 in
theorem c_JT_unusedJob {l : Launch} {D : va_G} {ad : Nat → Nat} {cs : Nat → ClassId} {sz : Nat} {σ : q_St} {res : (Int32 × q_St)} (hf : f_JT_unusedJob σ  = some res) : Met l y_JT_unusedJob w_JT_unusedJob ({ frames := 1, cells := 0, slots := 0, locals := 20 } : Room) (q_Pre D vwCl (tyL cs) NW [.ref (ad 0)] (q_ws 33 ad (cC ad cs σ)) sz) (q_Qq D vwCl (q_rfo ad 17 res.1) (q_ws 33 ad (cC ad cs res.2)) (va_A (q_ws 33 ad (cC ad cs σ)) sz)) 0 0 (va_A (q_ws 33 ad (cC ad cs σ)) sz) := by
  refine Met.ofW (cc := b_JT_unusedJob) (maxL := 2) (ret := (some (.object "JobTerminal$Job"))) (by decide) rfl ?_
  intro p e s m args below meth c s₁ B hml hv
  obtain ⟨hargs, hsz, hP, hK, hD0, hN⟩ := hv
  have hx := B.exec
  have hb := B.bytes
  have hr := B.returns
  have hts := atoms_spec (ws := w_JT_unusedJob) B.pre
  have hown : s.vm.findClass "JobTerminal" = some m.cls := findClass_of_methodNamed B.named
  have hlocks := B.notSynchronized
  have htg : ∀ w ∈ GW, w.before args s = true := fun w h => hts w (List.mem_cons_of_mem _ h)
  subst hsz
  have hD := hD0.self (sz := s.heap.size)
  generalize hAe : va_A (q_ws 33 ad (cC ad cs σ)) s.heap.size = A at hD ⊢
  have hA : ∀ q : Nat, s.heap.size ≤ q → A q := fun q h => by rw [← hAe]; exact Or.inr h
  have I : q_I D vwCl A s.heap (q_ws 33 ad (cC ad cs σ)) s.heap [] := ⟨hP, hD, va_S.rf⟩
  obtain ⟨ls, hen, hl⟩ := q_entry (vs := [.ref (ad 0)]) (n := 2) (lv := [(0, .ref (ad 0))]) (by intro v hv; simp only [List.mem_cons, List.not_mem_nil, or_false] at hv; rcases hv with rfl <;> first | rfl | exact q_cat) (Nat.le_of_ble_eq_true rfl) rfl
  rw [show entryFrame m args 2 = F0 m 0 ls [] from by rw [hargs]; exact hen m]
  have C0 : q_Cx "JobTerminal" b_JT_unusedJob 2 (some (.object "JobTerminal$Job")) w_JT_unusedJob D vwCl (tyL cs) NW p s m args meth c := ⟨hx, hb, hr, hml, hown, hts, hlocks, hK, hN⟩
  unfold f_JT_unusedJob at hf
  have hgo : ∀ (H : Heap) (locs : List Loc), q_I D vwCl A s.heap (q_ws 33 ad (cC ad cs σ)) H locs → W p l e ({ frames := 1, cells := 0, slots := 0, locals := 20 } : Room) s m args below meth c H locs 0 0 (MQ below (q_Qq D vwCl (q_rfo ad 17 res.1) (q_ws 33 ad (cC ad cs res.2)) A) args s 0 0 A) (F0 m 0 ls []) := by
    intro H locs I
    refine lv_iconst (v := 0) hx hb d_JT_unusedJob_0 (by decide) ?_
    refine q_istore_n (lv' := [(1, .int 0), (0, .ref (ad 0))]) hx hb d_JT_unusedJob_1 rfl hl (by decide) rfl (fun ls hl => ?_)
    exact k_JT_unusedJob_2 C0 hA res 200 σ 0 hf H locs I ls (q_hsub hl [1, 0] rfl)
  exact hgo _ _ I
-- JobTerminal freeProcess
def f_JT_freeProcess_36 (K4 : q_St → Int32 → Int32 → Option (Int32 × q_St)) (σ : q_St) (x2 : Int32) (x3 : Int32) : Option (Int32 × q_St) := K4 σ x2 (x3 + 1)
set_option maxHeartbeats 4000000 in
set_option maxRecDepth 100000 in
theorem k_JT_freeProcess_36 {p : Program} {l : Launch} {e : Env} {s : State} {m : MethodId} {args : Array Value} {below : List Frame} {meth : Method} {c : Code} {D : va_G} {A : Nat → Prop} {ad : Nat → Nat} {cs : Nat → ClassId} (C0 : q_Cx "JobTerminal" b_JT_freeProcess 4 (some (.object "JobTerminal$JobProcess")) w_JT_freeProcess D vwCl (tyL cs) NW p s m args meth c) (hA : ∀ q, s.heap.size ≤ q → A q) (res : (Int32 × q_St)) {K4 : q_St → Int32 → Int32 → Option (Int32 × q_St)} (hk4 : ∀ (σ : q_St) (x2 : Int32) (x3 : Int32) , K4 σ x2 x3 = some res → ∀ (H : Heap) (locs : List Loc), q_I D vwCl A s.heap (q_ws 33 ad (cC ad cs σ)) H locs → ∀ ls : Array Slot, q_has ls 4 [(0, .ref (ad 0)), (2, .int x2), (3, .int x3)] → W p l e ({ frames := 0, cells := 0, slots := 0, locals := 0 } : Room) s m args below meth c H locs 0 0 (MQ below (q_Qq D vwCl (q_rfo ad 9 res.1) (q_ws 33 ad (cC ad cs res.2)) A) args s 0 0 A) (F0 m 4 ls [])) : ∀ (σ : q_St) (x2 : Int32) (x3 : Int32) , f_JT_freeProcess_36 K4 σ x2 x3 = some res → ∀ (H : Heap) (locs : List Loc), q_I D vwCl A s.heap (q_ws 33 ad (cC ad cs σ)) H locs → ∀ ls : Array Slot, q_has ls 4 [(0, .ref (ad 0)), (2, .int x2), (3, .int x3)] → W p l e ({ frames := 0, cells := 0, slots := 0, locals := 0 } : Room) s m args below meth c H locs 0 0 (MQ below (q_Qq D vwCl (q_rfo ad 9 res.1) (q_ws 33 ad (cC ad cs res.2)) A) args s 0 0 A) (F0 m 36 ls []) := by
  intro σ x2 x3 hf H locs I ls hl
  unfold f_JT_freeProcess_36 at hf
  obtain ⟨hx, hb, hr, hml, hown, hts, hlocks, hK, hN⟩ := id C0
  have htg : ∀ w ∈ GW, w.before args s = true := fun w h => hts w (List.mem_cons_of_mem _ h)
  refine q_iinc (v := x3 + 1) (lv' := [(3, .int (x3 + 1)), (0, .ref (ad 0)), (2, .int x2)]) hx hb d_JT_freeProcess_36 hl (k := 2) rfl rfl (by decide) rfl (fun ls hl => ?_)
  refine lv_goto (tgt := 4) hx hb d_JT_freeProcess_39 (by decide) ?_
  exact hk4 σ x2 (x3 + 1) hf H locs I ls (q_hsub hl [1, 2, 0] rfl)
def f_JT_freeProcess_4 : Nat → q_St → Int32 → Int32 → Option (Int32 × q_St)
  | 0, _, _, _ => none
  | n + 1, σ, x2, x3 => if 8 ≤ x3 then (some (-1, σ)) else (q_grd (q_in x3 8) (if (σ 32 x3.toNatClampNeg) < 0 then (if x2 = 0 then (q_grd (q_in x3 8) (some (x3, σ))) else (f_JT_freeProcess_36 (f_JT_freeProcess_4 n) σ (x2 + (-1)) x3)) else (f_JT_freeProcess_36 (f_JT_freeProcess_4 n) σ x2 x3)))
set_option maxHeartbeats 4000000 in
set_option maxRecDepth 100000 in
theorem k_JT_freeProcess_4 {p : Program} {l : Launch} {e : Env} {s : State} {m : MethodId} {args : Array Value} {below : List Frame} {meth : Method} {c : Code} {D : va_G} {A : Nat → Prop} {ad : Nat → Nat} {cs : Nat → ClassId} (C0 : q_Cx "JobTerminal" b_JT_freeProcess 4 (some (.object "JobTerminal$JobProcess")) w_JT_freeProcess D vwCl (tyL cs) NW p s m args meth c) (hA : ∀ q, s.heap.size ≤ q → A q) (res : (Int32 × q_St)) : ∀ (n : Nat) (σ : q_St) (x2 : Int32) (x3 : Int32) , f_JT_freeProcess_4 n σ x2 x3 = some res → ∀ (H : Heap) (locs : List Loc), q_I D vwCl A s.heap (q_ws 33 ad (cC ad cs σ)) H locs → ∀ ls : Array Slot, q_has ls 4 [(0, .ref (ad 0)), (2, .int x2), (3, .int x3)] → W p l e ({ frames := 0, cells := 0, slots := 0, locals := 0 } : Room) s m args below meth c H locs 0 0 (MQ below (q_Qq D vwCl (q_rfo ad 9 res.1) (q_ws 33 ad (cC ad cs res.2)) A) args s 0 0 A) (F0 m 4 ls []) := by
  intro n
  induction n with
  | zero => intro σ x2 x3 hf; cases hf
  | succ n ih =>
    intro σ x2 x3 hf H locs I ls hl
    have ih := ih
    rw [f_JT_freeProcess_4] at hf
    have C0 := C0
    obtain ⟨hx, hb, hr, hml, hown, hts, hlocks, hK, hN⟩ := id C0
    have htg : ∀ w ∈ GW, w.before args s = true := fun w h => hts w (List.mem_cons_of_mem _ h)
    refine lv_iload_n hx hb d_JT_freeProcess_4 rfl (q_at hl 2 rfl) ?_
    refine lv_bipush (v := 8) hx hb d_JT_freeProcess_5 (by decide) ?_
    refine lv_icmp_ge (tgt := 42) hx hb d_JT_freeProcess_7 (by decide) (fun c1 => ?_) (fun c1 => ?_)
    · rw [if_pos c1] at hf
      refine q_null (ad := ad) hx hb 9 d_JT_freeProcess_42 ?_
      cases hf
      exact q_aret (ad := ad) hx hb hr hlocks I d_JT_freeProcess_43
    · rw [if_neg c1] at hf
      refine lv_aload_n hx hb d_JT_freeProcess_10 rfl (q_at hl 0 rfl) ?_
      refine G_JT_JT_processes hx hb htg hown hK hN I d_JT_freeProcess_11 ?_
      refine lv_iload_n hx hb d_JT_freeProcess_14 rfl (q_at hl 2 rfl) ?_
      obtain ⟨o2, hf⟩ := q_grd_some hf
      refine A_C_procs hx hb hK I o2 d_JT_freeProcess_15 ?_
      rw [q_rv_ref (q_in_pos o2)]
      refine G_JT_JobProcess_owner hx hb htg hown hK hN I (q_in_lt o2) d_JT_freeProcess_16 ?_
      refine q_ifnonnull (tgt := 36) hx hb d_JT_freeProcess_19 (by decide) (fun c3 => ?_) (fun c3 => ?_)
      · rw [if_neg c3] at hf
        exact k_JT_freeProcess_36 C0 hA res (K4 := f_JT_freeProcess_4 n) ih σ x2 x3 hf H locs I ls (q_hsub hl [0, 1, 2] rfl)
      · rw [if_pos c3] at hf
        refine lv_iload_n hx hb d_JT_freeProcess_22 rfl (q_at hl 1 rfl) ?_
        refine lv_if_ne (tgt := 33) hx hb d_JT_freeProcess_23 (by decide) (fun c4 => ?_) (fun c4 => ?_)
        · rw [if_neg c4] at hf
          refine q_iinc (v := x2 + (-1)) (lv' := [(2, .int (x2 + (-1))), (0, .ref (ad 0)), (3, .int x3)]) hx hb d_JT_freeProcess_33 hl (k := 1) rfl rfl (by decide) rfl (fun ls hl => ?_)
          exact k_JT_freeProcess_36 C0 hA res (K4 := f_JT_freeProcess_4 n) ih σ (x2 + (-1)) x3 hf H locs I ls (q_hsub hl [1, 0, 2] rfl)
        · rw [if_pos c4] at hf
          refine lv_aload_n hx hb d_JT_freeProcess_26 rfl (q_at hl 0 rfl) ?_
          refine G_JT_JT_processes hx hb htg hown hK hN I d_JT_freeProcess_27 ?_
          refine lv_iload_n hx hb d_JT_freeProcess_30 rfl (q_at hl 2 rfl) ?_
          obtain ⟨o5, hf⟩ := q_grd_some hf
          refine A_C_procs hx hb hK I o5 d_JT_freeProcess_31 ?_
          cases hf
          exact q_aret (ad := ad) hx hb hr hlocks I d_JT_freeProcess_32
def f_JT_freeProcess (σ : q_St) (p1 : Int32) : Option (Int32 × q_St) := f_JT_freeProcess_4 200 σ p1 0
set_option maxHeartbeats 4000000 in
set_option maxRecDepth 100000 in
theorem c_JT_freeProcess {l : Launch} {D : va_G} {ad : Nat → Nat} {cs : Nat → ClassId} {sz : Nat} {σ : q_St} {p1 : Int32} {res : (Int32 × q_St)} (hf : f_JT_freeProcess σ p1 = some res) : Met l y_JT_freeProcess w_JT_freeProcess ({ frames := 0, cells := 0, slots := 0, locals := 0 } : Room) (q_Pre D vwCl (tyL cs) NW [.ref (ad 0), .int p1] (q_ws 33 ad (cC ad cs σ)) sz) (q_Qq D vwCl (q_rfo ad 9 res.1) (q_ws 33 ad (cC ad cs res.2)) (va_A (q_ws 33 ad (cC ad cs σ)) sz)) 0 0 (va_A (q_ws 33 ad (cC ad cs σ)) sz) := by
  refine Met.ofW (cc := b_JT_freeProcess) (maxL := 4) (ret := (some (.object "JobTerminal$JobProcess"))) (by decide) rfl ?_
  intro p e s m args below meth c s₁ B hml hv
  obtain ⟨hargs, hsz, hP, hK, hD0, hN⟩ := hv
  have hx := B.exec
  have hb := B.bytes
  have hr := B.returns
  have hts := atoms_spec (ws := w_JT_freeProcess) B.pre
  have hown : s.vm.findClass "JobTerminal" = some m.cls := findClass_of_methodNamed B.named
  have hlocks := B.notSynchronized
  have htg : ∀ w ∈ GW, w.before args s = true := fun w h => hts w (List.mem_cons_of_mem _ h)
  subst hsz
  have hD := hD0.self (sz := s.heap.size)
  generalize hAe : va_A (q_ws 33 ad (cC ad cs σ)) s.heap.size = A at hD ⊢
  have hA : ∀ q : Nat, s.heap.size ≤ q → A q := fun q h => by rw [← hAe]; exact Or.inr h
  have I : q_I D vwCl A s.heap (q_ws 33 ad (cC ad cs σ)) s.heap [] := ⟨hP, hD, va_S.rf⟩
  obtain ⟨ls, hen, hl⟩ := q_entry (vs := [.ref (ad 0), .int p1]) (n := 4) (lv := [(0, .ref (ad 0)), (1, .int p1)]) (by intro v hv; simp only [List.mem_cons, List.not_mem_nil, or_false] at hv; rcases hv with rfl | rfl <;> first | rfl | exact q_cat) (Nat.le_of_ble_eq_true rfl) rfl
  rw [show entryFrame m args 4 = F0 m 0 ls [] from by rw [hargs]; exact hen m]
  have C0 : q_Cx "JobTerminal" b_JT_freeProcess 4 (some (.object "JobTerminal$JobProcess")) w_JT_freeProcess D vwCl (tyL cs) NW p s m args meth c := ⟨hx, hb, hr, hml, hown, hts, hlocks, hK, hN⟩
  unfold f_JT_freeProcess at hf
  have hgo : ∀ (H : Heap) (locs : List Loc), q_I D vwCl A s.heap (q_ws 33 ad (cC ad cs σ)) H locs → W p l e ({ frames := 0, cells := 0, slots := 0, locals := 0 } : Room) s m args below meth c H locs 0 0 (MQ below (q_Qq D vwCl (q_rfo ad 9 res.1) (q_ws 33 ad (cC ad cs res.2)) A) args s 0 0 A) (F0 m 0 ls []) := by
    intro H locs I
    refine lv_iload_n hx hb d_JT_freeProcess_0 rfl (q_at hl 1 rfl) ?_
    refine q_istore_n (lv' := [(2, .int p1), (0, .ref (ad 0)), (1, .int p1)]) hx hb d_JT_freeProcess_1 rfl hl (by decide) rfl (fun ls hl => ?_)
    refine lv_iconst (v := 0) hx hb d_JT_freeProcess_2 (by decide) ?_
    refine q_istore_n (lv' := [(3, .int 0), (2, .int p1), (0, .ref (ad 0)), (1, .int p1)]) hx hb d_JT_freeProcess_3 rfl hl (by decide) rfl (fun ls hl => ?_)
    exact k_JT_freeProcess_4 C0 hA res 200 σ p1 0 hf H locs I ls (q_hsub hl [2, 1, 0] rfl)
  exact hgo _ _ I
-- JobTerminal findJob
def f_JT_findJob_30 (σ : q_St) (y0 : Int32) : Option (Int32 × q_St) := some (y0, σ)
set_option maxHeartbeats 4000000 in
set_option maxRecDepth 100000 in
theorem k_JT_findJob_30 {p : Program} {l : Launch} {e : Env} {s : State} {m : MethodId} {args : Array Value} {below : List Frame} {meth : Method} {c : Code} {D : va_G} {A : Nat → Prop} {ad : Nat → Nat} {cs : Nat → ClassId} (C0 : q_Cx "JobTerminal" b_JT_findJob 3 (some (.object "JobTerminal$Job")) w_JT_findJob D vwCl (tyL cs) NW p s m args meth c) (hA : ∀ q, s.heap.size ≤ q → A q) (res : (Int32 × q_St)) : ∀ (σ : q_St) (y0 : Int32) , f_JT_findJob_30 σ y0 = some res → ∀ (H : Heap) (locs : List Loc), q_I D vwCl A s.heap (q_ws 33 ad (cC ad cs σ)) H locs → ∀ ls : Array Slot, q_has ls 3 [] → W p l e ({ frames := 1, cells := 0, slots := 0, locals := 20 } : Room) s m args below meth c H locs 0 0 (MQ below (q_Qq D vwCl (q_rfo ad 17 res.1) (q_ws 33 ad (cC ad cs res.2)) A) args s 0 0 A) (F0 m 30 ls [q_rv ad 17 y0]) := by
  intro σ y0 hf H locs I ls hl
  unfold f_JT_findJob_30 at hf
  obtain ⟨hx, hb, hr, hml, hown, hts, hlocks, hK, hN⟩ := id C0
  have htg : ∀ w ∈ GW, w.before args s = true := fun w h => hts w (List.mem_cons_of_mem _ h)
  cases hf
  exact q_aret (ad := ad) hx hb hr hlocks I d_JT_findJob_30
def f_JT_findJob_9 (σ : q_St) : Option (Int32 × q_St) := some (-1, σ)
set_option maxHeartbeats 4000000 in
set_option maxRecDepth 100000 in
theorem k_JT_findJob_9 {p : Program} {l : Launch} {e : Env} {s : State} {m : MethodId} {args : Array Value} {below : List Frame} {meth : Method} {c : Code} {D : va_G} {A : Nat → Prop} {ad : Nat → Nat} {cs : Nat → ClassId} (C0 : q_Cx "JobTerminal" b_JT_findJob 3 (some (.object "JobTerminal$Job")) w_JT_findJob D vwCl (tyL cs) NW p s m args meth c) (hA : ∀ q, s.heap.size ≤ q → A q) (res : (Int32 × q_St)) : ∀ (σ : q_St) , f_JT_findJob_9 σ  = some res → ∀ (H : Heap) (locs : List Loc), q_I D vwCl A s.heap (q_ws 33 ad (cC ad cs σ)) H locs → ∀ ls : Array Slot, q_has ls 3 [] → W p l e ({ frames := 1, cells := 0, slots := 0, locals := 20 } : Room) s m args below meth c H locs 0 0 (MQ below (q_Qq D vwCl (q_rfo ad 17 res.1) (q_ws 33 ad (cC ad cs res.2)) A) args s 0 0 A) (F0 m 9 ls []) := by
  intro σ  hf H locs I ls hl
  unfold f_JT_findJob_9 at hf
  obtain ⟨hx, hb, hr, hml, hown, hts, hlocks, hK, hN⟩ := id C0
  have htg : ∀ w ∈ GW, w.before args s = true := fun w h => hts w (List.mem_cons_of_mem _ h)
  refine q_null (ad := ad) hx hb 17 d_JT_findJob_9 ?_
  cases hf
  exact q_aret (ad := ad) hx hb hr hlocks I d_JT_findJob_10
def f_JT_findJob (σ : q_St) (p1 : Int32) : Option (Int32 × q_St) := if p1 < 0 then (f_JT_findJob_9 σ) else (if p1 < 4 then (q_grd (q_in p1 4) (q_bnd (f_Job_exists σ p1.toNatClampNeg) (fun r4 => if r4.1 = 0 then (f_JT_findJob_30 r4.2 (-1)) else (f_JT_findJob_30 r4.2 p1)))) else (f_JT_findJob_9 σ))
set_option maxHeartbeats 4000000 in
set_option maxRecDepth 100000 in
theorem c_JT_findJob {l : Launch} {D : va_G} {ad : Nat → Nat} {cs : Nat → ClassId} {sz : Nat} {σ : q_St} {p1 : Int32} {res : (Int32 × q_St)} (hf : f_JT_findJob σ p1 = some res) : Met l y_JT_findJob w_JT_findJob ({ frames := 1, cells := 0, slots := 0, locals := 20 } : Room) (q_Pre D vwCl (tyL cs) NW [.ref (ad 0), .int p1] (q_ws 33 ad (cC ad cs σ)) sz) (q_Qq D vwCl (q_rfo ad 17 res.1) (q_ws 33 ad (cC ad cs res.2)) (va_A (q_ws 33 ad (cC ad cs σ)) sz)) 0 0 (va_A (q_ws 33 ad (cC ad cs σ)) sz) := by
  refine Met.ofW (cc := b_JT_findJob) (maxL := 3) (ret := (some (.object "JobTerminal$Job"))) (by decide) rfl ?_
  intro p e s m args below meth c s₁ B hml hv
  obtain ⟨hargs, hsz, hP, hK, hD0, hN⟩ := hv
  have hx := B.exec
  have hb := B.bytes
  have hr := B.returns
  have hts := atoms_spec (ws := w_JT_findJob) B.pre
  have hown : s.vm.findClass "JobTerminal" = some m.cls := findClass_of_methodNamed B.named
  have hlocks := B.notSynchronized
  have htg : ∀ w ∈ GW, w.before args s = true := fun w h => hts w (List.mem_cons_of_mem _ h)
  subst hsz
  have hD := hD0.self (sz := s.heap.size)
  generalize hAe : va_A (q_ws 33 ad (cC ad cs σ)) s.heap.size = A at hD ⊢
  have hA : ∀ q : Nat, s.heap.size ≤ q → A q := fun q h => by rw [← hAe]; exact Or.inr h
  have I : q_I D vwCl A s.heap (q_ws 33 ad (cC ad cs σ)) s.heap [] := ⟨hP, hD, va_S.rf⟩
  obtain ⟨ls, hen, hl⟩ := q_entry (vs := [.ref (ad 0), .int p1]) (n := 3) (lv := [(0, .ref (ad 0)), (1, .int p1)]) (by intro v hv; simp only [List.mem_cons, List.not_mem_nil, or_false] at hv; rcases hv with rfl | rfl <;> first | rfl | exact q_cat) (Nat.le_of_ble_eq_true rfl) rfl
  rw [show entryFrame m args 3 = F0 m 0 ls [] from by rw [hargs]; exact hen m]
  have C0 : q_Cx "JobTerminal" b_JT_findJob 3 (some (.object "JobTerminal$Job")) w_JT_findJob D vwCl (tyL cs) NW p s m args meth c := ⟨hx, hb, hr, hml, hown, hts, hlocks, hK, hN⟩
  unfold f_JT_findJob at hf
  have hgo : ∀ (H : Heap) (locs : List Loc), q_I D vwCl A s.heap (q_ws 33 ad (cC ad cs σ)) H locs → W p l e ({ frames := 1, cells := 0, slots := 0, locals := 20 } : Room) s m args below meth c H locs 0 0 (MQ below (q_Qq D vwCl (q_rfo ad 17 res.1) (q_ws 33 ad (cC ad cs res.2)) A) args s 0 0 A) (F0 m 0 ls []) := by
    intro H locs I
    refine lv_iload_n hx hb d_JT_findJob_0 rfl (q_at hl 1 rfl) ?_
    refine lv_if_lt (tgt := 9) hx hb d_JT_findJob_1 (by decide) (fun c1 => ?_) (fun c1 => ?_)
    · rw [if_pos c1] at hf
      exact k_JT_findJob_9 C0 hA res σ hf H locs I ls (q_hsub hl [] rfl)
    · rw [if_neg c1] at hf
      refine lv_iload_n hx hb d_JT_findJob_4 rfl (q_at hl 1 rfl) ?_
      refine lv_iconst (v := 4) hx hb d_JT_findJob_5 (by decide) ?_
      refine lv_icmp_lt (tgt := 11) hx hb d_JT_findJob_6 (by decide) (fun c2 => ?_) (fun c2 => ?_)
      · rw [if_pos c2] at hf
        refine lv_aload_n hx hb d_JT_findJob_11 rfl (q_at hl 0 rfl) ?_
        refine G_JT_JT_jobs hx hb htg hown hK hN I d_JT_findJob_12 ?_
        refine lv_iload_n hx hb d_JT_findJob_15 rfl (q_at hl 1 rfl) ?_
        obtain ⟨o3, hf⟩ := q_grd_some hf
        refine A_C_jobs hx hb hK I o3 d_JT_findJob_16 ?_
        refine q_astoreV_n (lv' := [(2, q_rv ad 17 p1), (0, .ref (ad 0)), (1, .int p1)]) hx hb d_JT_findJob_17 rfl hl (by decide) rfl (fun ls hl => ?_)
        refine q_aload_n hx hb d_JT_findJob_18 rfl (q_at hl 0 rfl) ?_
        rw [q_rv_ref (q_in_pos o3)]
        obtain ⟨r4, e5, hf⟩ := q_bnd_some hf
        refine q_ki hA I (q_runV (C := "JobTerminal$Job") (As := []) (rest := []) ⟨hx, hb, hml, hown, hts⟩ (c_Job_exists (sz := H.size) (q_in_lt o3) e5) (cwV 0 hts (q_goodV mw209 mw210 mw211 mw212 mw179) rfl rfl rfl (by decide +kernel) ⟨Nat.le_of_ble_eq_true rfl, Nat.le_of_ble_eq_true rfl⟩) NW_ok hK hN I rfl (q_wsE (Nat.lt_of_lt_of_le (Nat.add_lt_add_left (q_in_lt o3) _) (by decide)) (a_C_Job (q_in_lt o3))) rfl (q_sz hl) rfl (Nat.le_of_ble_eq_true rfl) d_JT_findJob_19 ⟨Nat.zero_le _, Nat.zero_le _⟩) (fun H locs I => ?_)
        refine lv_if_eq (tgt := 29) hx hb d_JT_findJob_22 (by decide) (fun c6 => ?_) (fun c6 => ?_)
        · rw [if_pos c6] at hf
          refine q_null (ad := ad) hx hb 17 d_JT_findJob_29 ?_
          exact k_JT_findJob_30 C0 hA res r4.2 (-1) hf H locs I ls (q_hsub hl [] rfl)
        · rw [if_neg c6] at hf
          refine q_aload_n hx hb d_JT_findJob_25 rfl (q_at hl 0 rfl) ?_
          refine lv_goto (tgt := 30) hx hb d_JT_findJob_26 (by decide) ?_
          exact k_JT_findJob_30 C0 hA res r4.2 p1 hf H locs I ls (q_hsub hl [] rfl)
      · rw [if_neg c2] at hf
        exact k_JT_findJob_9 C0 hA res σ hf H locs I ls (q_hsub hl [] rfl)
  exact hgo _ _ I
-- JobTerminal sendAndSettle
def f_JT_sendAndSettle (σ : q_St) (p1 : Int32) (p2 : Int32) : Option (Int32 × q_St) := q_grd (q_in p1 4) (q_bnd (f_Job_receive σ p1.toNatClampNeg p2) (fun r2 => q_bnd (f_JT_settle r2 p1) (fun r4 => q_bnd (f_Job_state r4 p1.toNatClampNeg) (fun r6 => some (r6.1, r6.2)))))
set_option maxHeartbeats 4000000 in
set_option maxRecDepth 100000 in
theorem c_JT_sendAndSettle {l : Launch} {D : va_G} {ad : Nat → Nat} {cs : Nat → ClassId} {sz : Nat} {σ : q_St} {p1 : Int32} {p2 : Int32} {res : (Int32 × q_St)} (hf : f_JT_sendAndSettle σ p1 p2 = some res) : Met l y_JT_sendAndSettle w_JT_sendAndSettle ({ frames := 4, cells := 0, slots := 0, locals := 85 } : Room) (q_Pre D vwCl (tyL cs) NW [.ref (ad 0), q_rv ad 17 p1, .int p2] (q_ws 33 ad (cC ad cs σ)) sz) (q_Qi D vwCl res.1 (q_ws 33 ad (cC ad cs res.2)) (va_A (q_ws 33 ad (cC ad cs σ)) sz)) 0 0 (va_A (q_ws 33 ad (cC ad cs σ)) sz) := by
  refine Met.ofW (cc := b_JT_sendAndSettle) (maxL := 3) (ret := (some .int)) (by decide) rfl ?_
  intro p e s m args below meth c s₁ B hml hv
  obtain ⟨hargs, hsz, hP, hK, hD0, hN⟩ := hv
  have hx := B.exec
  have hb := B.bytes
  have hr := B.returns
  have hts := atoms_spec (ws := w_JT_sendAndSettle) B.pre
  have hown : s.vm.findClass "JobTerminal" = some m.cls := findClass_of_methodNamed B.named
  have hlocks := B.notSynchronized
  have htg : ∀ w ∈ GW, w.before args s = true := fun w h => hts w (List.mem_cons_of_mem _ h)
  subst hsz
  have hD := hD0.self (sz := s.heap.size)
  generalize hAe : va_A (q_ws 33 ad (cC ad cs σ)) s.heap.size = A at hD ⊢
  have hA : ∀ q : Nat, s.heap.size ≤ q → A q := fun q h => by rw [← hAe]; exact Or.inr h
  have I : q_I D vwCl A s.heap (q_ws 33 ad (cC ad cs σ)) s.heap [] := ⟨hP, hD, va_S.rf⟩
  obtain ⟨ls, hen, hl⟩ := q_entry (vs := [.ref (ad 0), q_rv ad 17 p1, .int p2]) (n := 3) (lv := [(0, .ref (ad 0)), (1, q_rv ad 17 p1), (2, .int p2)]) (by intro v hv; simp only [List.mem_cons, List.not_mem_nil, or_false] at hv; rcases hv with rfl | rfl | rfl <;> first | rfl | exact q_cat) (Nat.le_of_ble_eq_true rfl) rfl
  rw [show entryFrame m args 3 = F0 m 0 ls [] from by rw [hargs]; exact hen m]
  have C0 : q_Cx "JobTerminal" b_JT_sendAndSettle 3 (some .int) w_JT_sendAndSettle D vwCl (tyL cs) NW p s m args meth c := ⟨hx, hb, hr, hml, hown, hts, hlocks, hK, hN⟩
  unfold f_JT_sendAndSettle at hf
  have hgo : ∀ (H : Heap) (locs : List Loc), q_I D vwCl A s.heap (q_ws 33 ad (cC ad cs σ)) H locs → W p l e ({ frames := 4, cells := 0, slots := 0, locals := 85 } : Room) s m args below meth c H locs 0 0 (MQ below (q_Qi D vwCl res.1 (q_ws 33 ad (cC ad cs res.2)) A) args s 0 0 A) (F0 m 0 ls []) := by
    intro H locs I
    refine q_aload_n hx hb d_JT_sendAndSettle_0 rfl (q_at hl 1 rfl) ?_
    refine lv_iload_n hx hb d_JT_sendAndSettle_1 rfl (q_at hl 2 rfl) ?_
    obtain ⟨o1, hf⟩ := q_grd_some hf
    rw [q_rv_ref (q_in_pos o1)]
    obtain ⟨r2, e3, hf⟩ := q_bnd_some hf
    refine q_kv hA I (q_runV (C := "JobTerminal$Job") (As := [.int p2]) (rest := []) ⟨hx, hb, hml, hown, hts⟩ (c_Job_receive (sz := H.size) (q_in_lt o1) e3) (cwV 1 hts (q_goodV mw193 mw194 mw195 mw196 mw179) rfl rfl rfl (by decide +kernel) ⟨Nat.le_of_ble_eq_true rfl, Nat.le_of_ble_eq_true rfl⟩) NW_ok hK hN I rfl (q_wsE (Nat.lt_of_lt_of_le (Nat.add_lt_add_left (q_in_lt o1) _) (by decide)) (a_C_Job (q_in_lt o1))) rfl (q_sz hl) rfl (Nat.le_of_ble_eq_true rfl) d_JT_sendAndSettle_2 ⟨Nat.zero_le _, Nat.zero_le _⟩) (fun H locs I => ?_)
    refine lv_aload_n hx hb d_JT_sendAndSettle_5 rfl (q_at hl 0 rfl) ?_
    refine q_aload_n hx hb d_JT_sendAndSettle_6 rfl (q_at hl 1 rfl) ?_
    obtain ⟨r4, e5, hf⟩ := q_bnd_some hf
    refine q_kv hA I (q_runV (C := "JobTerminal") (As := [q_rv ad 17 p1]) (rest := []) ⟨hx, hb, hml, hown, hts⟩ (c_JT_settle (sz := H.size) e5) (cwV 1 hts (q_goodV mw180 mw181 mw182 mw183 mw184) rfl rfl rfl (by decide +kernel) ⟨Nat.le_of_ble_eq_true rfl, Nat.le_of_ble_eq_true rfl⟩) NW_ok hK hN I rfl (q_wsE (by decide) (a_C_JT)) rfl (q_sz hl) rfl (Nat.le_of_ble_eq_true rfl) d_JT_sendAndSettle_7 ⟨Nat.zero_le _, Nat.zero_le _⟩) (fun H locs I => ?_)
    refine q_aload_n hx hb d_JT_sendAndSettle_10 rfl (q_at hl 1 rfl) ?_
    rw [q_rv_ref (q_in_pos o1)]
    obtain ⟨r6, e7, hf⟩ := q_bnd_some hf
    refine q_ki hA I (q_runV (C := "JobTerminal$Job") (As := []) (rest := []) ⟨hx, hb, hml, hown, hts⟩ (c_Job_state (sz := H.size) (q_in_lt o1) e7) (cwV 0 hts (q_goodV mw175 mw176 mw177 mw178 mw179) rfl rfl rfl (by decide +kernel) ⟨Nat.le_of_ble_eq_true rfl, Nat.le_of_ble_eq_true rfl⟩) NW_ok hK hN I rfl (q_wsE (Nat.lt_of_lt_of_le (Nat.add_lt_add_left (q_in_lt o1) _) (by decide)) (a_C_Job (q_in_lt o1))) rfl (q_sz hl) rfl (Nat.le_of_ble_eq_true rfl) d_JT_sendAndSettle_11 ⟨Nat.zero_le _, Nat.zero_le _⟩) (fun H locs I => ?_)
    cases hf
    exact q_iret hx hb hr hlocks I d_JT_sendAndSettle_14
  exact hgo _ _ I
-- JobTerminal tell
def f_JT_tell_19 (σ : q_St) (x1 : Int32) (x2 : Int32) : Option (Int32 × q_St) := q_grd (q_in x1 4) (some ((4 * (nI x1.toNatClampNeg)) + x2, σ))
set_option maxHeartbeats 4000000 in
set_option maxRecDepth 100000 in
theorem k_JT_tell_19 {p : Program} {l : Launch} {e : Env} {s : State} {m : MethodId} {args : Array Value} {below : List Frame} {meth : Method} {c : Code} {D : va_G} {A : Nat → Prop} {ad : Nat → Nat} {cs : Nat → ClassId} (C0 : q_Cx "JobTerminal" b_JT_tell 3 (some .int) w_JT_tell D vwCl (tyL cs) NW p s m args meth c) (hA : ∀ q, s.heap.size ≤ q → A q) (res : (Int32 × q_St)) : ∀ (σ : q_St) (x1 : Int32) (x2 : Int32) , f_JT_tell_19 σ x1 x2 = some res → ∀ (H : Heap) (locs : List Loc), q_I D vwCl A s.heap (q_ws 33 ad (cC ad cs σ)) H locs → ∀ ls : Array Slot, q_has ls 3 [(1, q_rv ad 17 x1), (2, .int x2)] → W p l e ({ frames := 2, cells := 0, slots := 0, locals := 41 } : Room) s m args below meth c H locs 0 0 (MQ below (q_Qi D vwCl res.1 (q_ws 33 ad (cC ad cs res.2)) A) args s 0 0 A) (F0 m 19 ls []) := by
  intro σ x1 x2 hf H locs I ls hl
  unfold f_JT_tell_19 at hf
  obtain ⟨hx, hb, hr, hml, hown, hts, hlocks, hK, hN⟩ := id C0
  have htg : ∀ w ∈ GW, w.before args s = true := fun w h => hts w (List.mem_cons_of_mem _ h)
  refine lv_iconst (v := 4) hx hb d_JT_tell_19 (by decide) ?_
  refine q_aload_n hx hb d_JT_tell_20 rfl (q_at hl 0 rfl) ?_
  obtain ⟨o7, hf⟩ := q_grd_some hf
  rw [q_rv_ref (q_in_pos o7)]
  refine G_JT_Job_number hx hb htg hown hK hN I (q_in_lt o7) d_JT_tell_21 ?_
  refine lv_imul hx hb d_JT_tell_24 ?_
  refine lv_iload_n hx hb d_JT_tell_25 rfl (q_at hl 1 rfl) ?_
  refine lv_iadd hx hb d_JT_tell_26 ?_
  cases hf
  exact q_iret hx hb hr hlocks I d_JT_tell_27
def f_JT_tell (σ : q_St) (p1 : Int32) : Option (Int32 × q_St) := q_grd (q_in p1 4) (q_bnd (f_Job_state σ p1.toNatClampNeg) (fun r2 => if r2.1 = 3 then (q_bnd (f_Job_vanish (q_up r2.2 30 p1.toNatClampNeg 0) p1.toNatClampNeg) (fun r5 => f_JT_tell_19 r5 p1 r2.1)) else (f_JT_tell_19 (q_up r2.2 30 p1.toNatClampNeg 0) p1 r2.1)))
set_option maxHeartbeats 4000000 in
set_option maxRecDepth 100000 in
theorem c_JT_tell {l : Launch} {D : va_G} {ad : Nat → Nat} {cs : Nat → ClassId} {sz : Nat} {σ : q_St} {p1 : Int32} {res : (Int32 × q_St)} (hf : f_JT_tell σ p1 = some res) : Met l y_JT_tell w_JT_tell ({ frames := 2, cells := 0, slots := 0, locals := 41 } : Room) (q_Pre D vwCl (tyL cs) NW [.ref (ad 0), q_rv ad 17 p1] (q_ws 33 ad (cC ad cs σ)) sz) (q_Qi D vwCl res.1 (q_ws 33 ad (cC ad cs res.2)) (va_A (q_ws 33 ad (cC ad cs σ)) sz)) 0 0 (va_A (q_ws 33 ad (cC ad cs σ)) sz) := by
  refine Met.ofW (cc := b_JT_tell) (maxL := 3) (ret := (some .int)) (by decide) rfl ?_
  intro p e s m args below meth c s₁ B hml hv
  obtain ⟨hargs, hsz, hP, hK, hD0, hN⟩ := hv
  have hx := B.exec
  have hb := B.bytes
  have hr := B.returns
  have hts := atoms_spec (ws := w_JT_tell) B.pre
  have hown : s.vm.findClass "JobTerminal" = some m.cls := findClass_of_methodNamed B.named
  have hlocks := B.notSynchronized
  have htg : ∀ w ∈ GW, w.before args s = true := fun w h => hts w (List.mem_cons_of_mem _ h)
  subst hsz
  have hD := hD0.self (sz := s.heap.size)
  generalize hAe : va_A (q_ws 33 ad (cC ad cs σ)) s.heap.size = A at hD ⊢
  have hA : ∀ q : Nat, s.heap.size ≤ q → A q := fun q h => by rw [← hAe]; exact Or.inr h
  have I : q_I D vwCl A s.heap (q_ws 33 ad (cC ad cs σ)) s.heap [] := ⟨hP, hD, va_S.rf⟩
  obtain ⟨ls, hen, hl⟩ := q_entry (vs := [.ref (ad 0), q_rv ad 17 p1]) (n := 3) (lv := [(0, .ref (ad 0)), (1, q_rv ad 17 p1)]) (by intro v hv; simp only [List.mem_cons, List.not_mem_nil, or_false] at hv; rcases hv with rfl | rfl <;> first | rfl | exact q_cat) (Nat.le_of_ble_eq_true rfl) rfl
  rw [show entryFrame m args 3 = F0 m 0 ls [] from by rw [hargs]; exact hen m]
  have C0 : q_Cx "JobTerminal" b_JT_tell 3 (some .int) w_JT_tell D vwCl (tyL cs) NW p s m args meth c := ⟨hx, hb, hr, hml, hown, hts, hlocks, hK, hN⟩
  unfold f_JT_tell at hf
  have hgo : ∀ (H : Heap) (locs : List Loc), q_I D vwCl A s.heap (q_ws 33 ad (cC ad cs σ)) H locs → W p l e ({ frames := 2, cells := 0, slots := 0, locals := 41 } : Room) s m args below meth c H locs 0 0 (MQ below (q_Qi D vwCl res.1 (q_ws 33 ad (cC ad cs res.2)) A) args s 0 0 A) (F0 m 0 ls []) := by
    intro H locs I
    refine q_aload_n hx hb d_JT_tell_0 rfl (q_at hl 1 rfl) ?_
    obtain ⟨o1, hf⟩ := q_grd_some hf
    rw [q_rv_ref (q_in_pos o1)]
    obtain ⟨r2, e3, hf⟩ := q_bnd_some hf
    refine q_ki hA I (q_runV (C := "JobTerminal$Job") (As := []) (rest := []) ⟨hx, hb, hml, hown, hts⟩ (c_Job_state (sz := H.size) (q_in_lt o1) e3) (cwV 0 hts (q_goodV mw175 mw176 mw177 mw178 mw179) rfl rfl rfl (by decide +kernel) ⟨Nat.le_of_ble_eq_true rfl, Nat.le_of_ble_eq_true rfl⟩) NW_ok hK hN I rfl (q_wsE (Nat.lt_of_lt_of_le (Nat.add_lt_add_left (q_in_lt o1) _) (by decide)) (a_C_Job (q_in_lt o1))) rfl (q_sz hl) rfl (Nat.le_of_ble_eq_true rfl) d_JT_tell_1 ⟨Nat.zero_le _, Nat.zero_le _⟩) (fun H locs I => ?_)
    refine q_istore_n (lv' := [(2, .int r2.1), (0, .ref (ad 0)), (1, q_rv ad 17 p1)]) hx hb d_JT_tell_4 rfl hl (by decide) rfl (fun ls hl => ?_)
    refine q_aload_n hx hb d_JT_tell_5 rfl (q_at hl 2 rfl) ?_
    refine lv_iconst (v := 0) hx hb d_JT_tell_6 (by decide) ?_
    rw [q_rv_ref (q_in_pos o1)]
    refine P_JT_Job_untold hx hb htg hown hK hN I (q_in_lt o1) (by decide) d_JT_tell_7 (fun H locs I => ?_)
    refine lv_iload_n hx hb d_JT_tell_10 rfl (q_at hl 0 rfl) ?_
    refine lv_iconst (v := 3) hx hb d_JT_tell_11 (by decide) ?_
    refine lv_icmp_ne (tgt := 19) hx hb d_JT_tell_12 (by decide) (fun c4 => ?_) (fun c4 => ?_)
    · rw [if_neg c4] at hf
      exact k_JT_tell_19 C0 hA res (q_up r2.2 30 p1.toNatClampNeg 0) p1 r2.1 hf H locs I ls (q_hsub hl [2, 0] rfl)
    · rw [if_pos c4] at hf
      refine q_aload_n hx hb d_JT_tell_15 rfl (q_at hl 2 rfl) ?_
      rw [q_rv_ref (q_in_pos o1)]
      obtain ⟨r5, e6, hf⟩ := q_bnd_some hf
      refine q_kv hA I (q_runV (C := "JobTerminal$Job") (As := []) (rest := []) ⟨hx, hb, hml, hown, hts⟩ (c_Job_vanish (sz := H.size) (q_in_lt o1) e6) (cwV 0 hts (q_goodV mw226 mw227 mw228 mw229 mw179) rfl rfl rfl (by decide +kernel) ⟨Nat.le_of_ble_eq_true rfl, Nat.le_of_ble_eq_true rfl⟩) NW_ok hK hN I rfl (q_wsE (Nat.lt_of_lt_of_le (Nat.add_lt_add_left (q_in_lt o1) _) (by decide)) (a_C_Job (q_in_lt o1))) rfl (q_sz hl) rfl (Nat.le_of_ble_eq_true rfl) d_JT_tell_16 ⟨Nat.zero_le _, Nat.zero_le _⟩) (fun H locs I => ?_)
      exact k_JT_tell_19 C0 hA res r5 p1 r2.1 hf H locs I ls (q_hsub hl [2, 0] rfl)
  exact hgo _ _ I
-- JobTerminal report
def f_JT_report_34 (K2 : q_St → Int32 → Option (Int32 × q_St)) (σ : q_St) (x1 : Int32) : Option (Int32 × q_St) := K2 σ (x1 + 1)
set_option maxHeartbeats 4000000 in
set_option maxRecDepth 100000 in
theorem k_JT_report_34 {p : Program} {l : Launch} {e : Env} {s : State} {m : MethodId} {args : Array Value} {below : List Frame} {meth : Method} {c : Code} {D : va_G} {A : Nat → Prop} {ad : Nat → Nat} {cs : Nat → ClassId} (C0 : q_Cx "JobTerminal" b_JT_report 3 (some .int) w_JT_report D vwCl (tyL cs) NW p s m args meth c) (hA : ∀ q, s.heap.size ≤ q → A q) (res : (Int32 × q_St)) {K2 : q_St → Int32 → Option (Int32 × q_St)} (hk2 : ∀ (σ : q_St) (x1 : Int32) , K2 σ x1 = some res → ∀ (H : Heap) (locs : List Loc), q_I D vwCl A s.heap (q_ws 33 ad (cC ad cs σ)) H locs → ∀ ls : Array Slot, q_has ls 3 [(0, .ref (ad 0)), (1, .int x1)] → W p l e ({ frames := 3, cells := 0, slots := 0, locals := 63 } : Room) s m args below meth c H locs 0 0 (MQ below (q_Qi D vwCl res.1 (q_ws 33 ad (cC ad cs res.2)) A) args s 0 0 A) (F0 m 2 ls [])) : ∀ (σ : q_St) (x1 : Int32) , f_JT_report_34 K2 σ x1 = some res → ∀ (H : Heap) (locs : List Loc), q_I D vwCl A s.heap (q_ws 33 ad (cC ad cs σ)) H locs → ∀ ls : Array Slot, q_has ls 3 [(0, .ref (ad 0)), (1, .int x1)] → W p l e ({ frames := 3, cells := 0, slots := 0, locals := 63 } : Room) s m args below meth c H locs 0 0 (MQ below (q_Qi D vwCl res.1 (q_ws 33 ad (cC ad cs res.2)) A) args s 0 0 A) (F0 m 34 ls []) := by
  intro σ x1 hf H locs I ls hl
  unfold f_JT_report_34 at hf
  obtain ⟨hx, hb, hr, hml, hown, hts, hlocks, hK, hN⟩ := id C0
  have htg : ∀ w ∈ GW, w.before args s = true := fun w h => hts w (List.mem_cons_of_mem _ h)
  refine q_iinc (v := x1 + 1) (lv' := [(1, .int (x1 + 1)), (0, .ref (ad 0))]) hx hb d_JT_report_34 hl (k := 1) rfl rfl (by decide) rfl (fun ls hl => ?_)
  refine lv_goto (tgt := 2) hx hb d_JT_report_37 (by decide) ?_
  exact hk2 σ (x1 + 1) hf H locs I ls (q_hsub hl [1, 0] rfl)
def f_JT_report_2 : Nat → q_St → Int32 → Option (Int32 × q_St)
  | 0, _, _ => none
  | n + 1, σ, x1 => if 4 ≤ x1 then (some (-1, σ)) else (q_grd (q_in x1 4) (q_bnd (f_Job_exists σ x1.toNatClampNeg) (fun r3 => if r3.1 = 0 then (f_JT_report_34 (f_JT_report_2 n) r3.2 x1) else (if (r3.2 30 x1.toNatClampNeg) = 0 then (f_JT_report_34 (f_JT_report_2 n) r3.2 x1) else (q_bnd (f_JT_tell r3.2 x1) (fun r7 => some (r7.1, r7.2)))))))
set_option maxHeartbeats 4000000 in
set_option maxRecDepth 100000 in
theorem k_JT_report_2 {p : Program} {l : Launch} {e : Env} {s : State} {m : MethodId} {args : Array Value} {below : List Frame} {meth : Method} {c : Code} {D : va_G} {A : Nat → Prop} {ad : Nat → Nat} {cs : Nat → ClassId} (C0 : q_Cx "JobTerminal" b_JT_report 3 (some .int) w_JT_report D vwCl (tyL cs) NW p s m args meth c) (hA : ∀ q, s.heap.size ≤ q → A q) (res : (Int32 × q_St)) : ∀ (n : Nat) (σ : q_St) (x1 : Int32) , f_JT_report_2 n σ x1 = some res → ∀ (H : Heap) (locs : List Loc), q_I D vwCl A s.heap (q_ws 33 ad (cC ad cs σ)) H locs → ∀ ls : Array Slot, q_has ls 3 [(0, .ref (ad 0)), (1, .int x1)] → W p l e ({ frames := 3, cells := 0, slots := 0, locals := 63 } : Room) s m args below meth c H locs 0 0 (MQ below (q_Qi D vwCl res.1 (q_ws 33 ad (cC ad cs res.2)) A) args s 0 0 A) (F0 m 2 ls []) := by
  intro n
  induction n with
  | zero => intro σ x1 hf; cases hf
  | succ n ih =>
    intro σ x1 hf H locs I ls hl
    have ih := ih
    rw [f_JT_report_2] at hf
    have C0 := C0
    obtain ⟨hx, hb, hr, hml, hown, hts, hlocks, hK, hN⟩ := id C0
    have htg : ∀ w ∈ GW, w.before args s = true := fun w h => hts w (List.mem_cons_of_mem _ h)
    refine lv_iload_n hx hb d_JT_report_2 rfl (q_at hl 1 rfl) ?_
    refine lv_iconst (v := 4) hx hb d_JT_report_3 (by decide) ?_
    refine lv_icmp_ge (tgt := 40) hx hb d_JT_report_4 (by decide) (fun c1 => ?_) (fun c1 => ?_)
    · rw [if_pos c1] at hf
      refine lv_iconst (v := -1) hx hb d_JT_report_40 (by decide) ?_
      cases hf
      exact q_iret hx hb hr hlocks I d_JT_report_41
    · rw [if_neg c1] at hf
      refine lv_aload_n hx hb d_JT_report_7 rfl (q_at hl 0 rfl) ?_
      refine G_JT_JT_jobs hx hb htg hown hK hN I d_JT_report_8 ?_
      refine lv_iload_n hx hb d_JT_report_11 rfl (q_at hl 1 rfl) ?_
      obtain ⟨o2, hf⟩ := q_grd_some hf
      refine A_C_jobs hx hb hK I o2 d_JT_report_12 ?_
      refine q_astoreV_n (lv' := [(2, q_rv ad 17 x1), (0, .ref (ad 0)), (1, .int x1)]) hx hb d_JT_report_13 rfl hl (by decide) rfl (fun ls hl => ?_)
      refine q_aload_n hx hb d_JT_report_14 rfl (q_at hl 0 rfl) ?_
      rw [q_rv_ref (q_in_pos o2)]
      obtain ⟨r3, e4, hf⟩ := q_bnd_some hf
      refine q_ki hA I (q_runV (C := "JobTerminal$Job") (As := []) (rest := []) ⟨hx, hb, hml, hown, hts⟩ (c_Job_exists (sz := H.size) (q_in_lt o2) e4) (cwV 0 hts (q_goodV mw209 mw210 mw211 mw212 mw179) rfl rfl rfl (by decide +kernel) ⟨Nat.le_of_ble_eq_true rfl, Nat.le_of_ble_eq_true rfl⟩) NW_ok hK hN I rfl (q_wsE (Nat.lt_of_lt_of_le (Nat.add_lt_add_left (q_in_lt o2) _) (by decide)) (a_C_Job (q_in_lt o2))) rfl (q_sz hl) rfl (Nat.le_of_ble_eq_true rfl) d_JT_report_15 ⟨Nat.zero_le _, Nat.zero_le _⟩) (fun H locs I => ?_)
      refine lv_if_eq (tgt := 34) hx hb d_JT_report_18 (by decide) (fun c5 => ?_) (fun c5 => ?_)
      · rw [if_pos c5] at hf
        exact k_JT_report_34 C0 hA res (K2 := f_JT_report_2 n) ih r3.2 x1 hf H locs I ls (q_hsub hl [1, 2] rfl)
      · rw [if_neg c5] at hf
        refine q_aload_n hx hb d_JT_report_21 rfl (q_at hl 0 rfl) ?_
        rw [q_rv_ref (q_in_pos o2)]
        refine G_JT_Job_untold hx hb htg hown hK hN I (q_in_lt o2) d_JT_report_22 ?_
        refine lv_if_eq (tgt := 34) hx hb d_JT_report_25 (by decide) (fun c6 => ?_) (fun c6 => ?_)
        · rw [if_pos c6] at hf
          exact k_JT_report_34 C0 hA res (K2 := f_JT_report_2 n) ih r3.2 x1 hf H locs I ls (q_hsub hl [1, 2] rfl)
        · rw [if_neg c6] at hf
          refine lv_aload_n hx hb d_JT_report_28 rfl (q_at hl 1 rfl) ?_
          refine q_aload_n hx hb d_JT_report_29 rfl (q_at hl 0 rfl) ?_
          obtain ⟨r7, e8, hf⟩ := q_bnd_some hf
          refine q_ki hA I (q_runV (C := "JobTerminal") (As := [q_rv ad 17 x1]) (rest := []) ⟨hx, hb, hml, hown, hts⟩ (c_JT_tell (sz := H.size) e8) (cwV 1 hts (q_goodV mw230 mw231 mw232 mw233 mw184) rfl rfl rfl (by decide +kernel) ⟨Nat.le_of_ble_eq_true rfl, Nat.le_of_ble_eq_true rfl⟩) NW_ok hK hN I rfl (q_wsE (by decide) (a_C_JT)) rfl (q_sz hl) rfl (Nat.le_of_ble_eq_true rfl) d_JT_report_30 ⟨Nat.zero_le _, Nat.zero_le _⟩) (fun H locs I => ?_)
          cases hf
          exact q_iret hx hb hr hlocks I d_JT_report_33
def f_JT_report (σ : q_St) : Option (Int32 × q_St) := f_JT_report_2 200 σ 0
set_option maxHeartbeats 4000000 in
set_option maxRecDepth 100000 in
theorem c_JT_report {l : Launch} {D : va_G} {ad : Nat → Nat} {cs : Nat → ClassId} {sz : Nat} {σ : q_St} {res : (Int32 × q_St)} (hf : f_JT_report σ  = some res) : Met l y_JT_report w_JT_report ({ frames := 3, cells := 0, slots := 0, locals := 63 } : Room) (q_Pre D vwCl (tyL cs) NW [.ref (ad 0)] (q_ws 33 ad (cC ad cs σ)) sz) (q_Qi D vwCl res.1 (q_ws 33 ad (cC ad cs res.2)) (va_A (q_ws 33 ad (cC ad cs σ)) sz)) 0 0 (va_A (q_ws 33 ad (cC ad cs σ)) sz) := by
  refine Met.ofW (cc := b_JT_report) (maxL := 3) (ret := (some .int)) (by decide) rfl ?_
  intro p e s m args below meth c s₁ B hml hv
  obtain ⟨hargs, hsz, hP, hK, hD0, hN⟩ := hv
  have hx := B.exec
  have hb := B.bytes
  have hr := B.returns
  have hts := atoms_spec (ws := w_JT_report) B.pre
  have hown : s.vm.findClass "JobTerminal" = some m.cls := findClass_of_methodNamed B.named
  have hlocks := B.notSynchronized
  have htg : ∀ w ∈ GW, w.before args s = true := fun w h => hts w (List.mem_cons_of_mem _ h)
  subst hsz
  have hD := hD0.self (sz := s.heap.size)
  generalize hAe : va_A (q_ws 33 ad (cC ad cs σ)) s.heap.size = A at hD ⊢
  have hA : ∀ q : Nat, s.heap.size ≤ q → A q := fun q h => by rw [← hAe]; exact Or.inr h
  have I : q_I D vwCl A s.heap (q_ws 33 ad (cC ad cs σ)) s.heap [] := ⟨hP, hD, va_S.rf⟩
  obtain ⟨ls, hen, hl⟩ := q_entry (vs := [.ref (ad 0)]) (n := 3) (lv := [(0, .ref (ad 0))]) (by intro v hv; simp only [List.mem_cons, List.not_mem_nil, or_false] at hv; rcases hv with rfl <;> first | rfl | exact q_cat) (Nat.le_of_ble_eq_true rfl) rfl
  rw [show entryFrame m args 3 = F0 m 0 ls [] from by rw [hargs]; exact hen m]
  have C0 : q_Cx "JobTerminal" b_JT_report 3 (some .int) w_JT_report D vwCl (tyL cs) NW p s m args meth c := ⟨hx, hb, hr, hml, hown, hts, hlocks, hK, hN⟩
  unfold f_JT_report at hf
  have hgo : ∀ (H : Heap) (locs : List Loc), q_I D vwCl A s.heap (q_ws 33 ad (cC ad cs σ)) H locs → W p l e ({ frames := 3, cells := 0, slots := 0, locals := 63 } : Room) s m args below meth c H locs 0 0 (MQ below (q_Qi D vwCl res.1 (q_ws 33 ad (cC ad cs res.2)) A) args s 0 0 A) (F0 m 0 ls []) := by
    intro H locs I
    refine lv_iconst (v := 0) hx hb d_JT_report_0 (by decide) ?_
    refine q_istore_n (lv' := [(1, .int 0), (0, .ref (ad 0))]) hx hb d_JT_report_1 rfl hl (by decide) rfl (fun ls hl => ?_)
    exact k_JT_report_2 C0 hA res 200 σ 0 hf H locs I ls (q_hsub hl [1, 0] rfl)
  exact hgo _ _ I
-- JobTerminal canRead
def f_JT_canRead_76 (σ : q_St) (y0 : Int32) : Option (Int32 × q_St) := q_grd (q_isB y0) (some (y0, σ))
set_option maxHeartbeats 4000000 in
set_option maxRecDepth 100000 in
theorem k_JT_canRead_76 {p : Program} {l : Launch} {e : Env} {s : State} {m : MethodId} {args : Array Value} {below : List Frame} {meth : Method} {c : Code} {D : va_G} {A : Nat → Prop} {ad : Nat → Nat} {cs : Nat → ClassId} (C0 : q_Cx "JobTerminal" b_JT_canRead 3 (some .boolean) w_JT_canRead D vwCl (tyL cs) NW p s m args meth c) (hA : ∀ q, s.heap.size ≤ q → A q) (res : (Int32 × q_St)) : ∀ (σ : q_St) (y0 : Int32) , f_JT_canRead_76 σ y0 = some res → ∀ (H : Heap) (locs : List Loc), q_I D vwCl A s.heap (q_ws 33 ad (cC ad cs σ)) H locs → ∀ ls : Array Slot, q_has ls 3 [] → W p l e ({ frames := 1, cells := 0, slots := 0, locals := 21 } : Room) s m args below meth c H locs 0 0 (MQ below (q_Qi D vwCl res.1 (q_ws 33 ad (cC ad cs res.2)) A) args s 0 0 A) (F0 m 76 ls [.int y0]) := by
  intro σ y0 hf H locs I ls hl
  unfold f_JT_canRead_76 at hf
  obtain ⟨hx, hb, hr, hml, hown, hts, hlocks, hK, hN⟩ := id C0
  have htg : ∀ w ∈ GW, w.before args s = true := fun w h => hts w (List.mem_cons_of_mem _ h)
  obtain ⟨o17, hf⟩ := q_grd_some hf
  cases hf
  exact q_zret hx hb hr hlocks o17 I d_JT_canRead_76
def f_JT_canRead_71 (σ : q_St) : Option (Int32 × q_St) := f_JT_canRead_76 σ 1
set_option maxHeartbeats 4000000 in
set_option maxRecDepth 100000 in
theorem k_JT_canRead_71 {p : Program} {l : Launch} {e : Env} {s : State} {m : MethodId} {args : Array Value} {below : List Frame} {meth : Method} {c : Code} {D : va_G} {A : Nat → Prop} {ad : Nat → Nat} {cs : Nat → ClassId} (C0 : q_Cx "JobTerminal" b_JT_canRead 3 (some .boolean) w_JT_canRead D vwCl (tyL cs) NW p s m args meth c) (hA : ∀ q, s.heap.size ≤ q → A q) (res : (Int32 × q_St)) : ∀ (σ : q_St) , f_JT_canRead_71 σ  = some res → ∀ (H : Heap) (locs : List Loc), q_I D vwCl A s.heap (q_ws 33 ad (cC ad cs σ)) H locs → ∀ ls : Array Slot, q_has ls 3 [] → W p l e ({ frames := 1, cells := 0, slots := 0, locals := 21 } : Room) s m args below meth c H locs 0 0 (MQ below (q_Qi D vwCl res.1 (q_ws 33 ad (cC ad cs res.2)) A) args s 0 0 A) (F0 m 71 ls []) := by
  intro σ  hf H locs I ls hl
  unfold f_JT_canRead_71 at hf
  obtain ⟨hx, hb, hr, hml, hown, hts, hlocks, hK, hN⟩ := id C0
  have htg : ∀ w ∈ GW, w.before args s = true := fun w h => hts w (List.mem_cons_of_mem _ h)
  refine lv_iconst (v := 1) hx hb d_JT_canRead_71 (by decide) ?_
  refine lv_goto (tgt := 76) hx hb d_JT_canRead_72 (by decide) ?_
  exact k_JT_canRead_76 C0 hA res σ 1 hf H locs I ls (q_hsub hl [] rfl)
def f_JT_canRead_40 (σ : q_St) (x2 : Int32) : Option (Int32 × q_St) := if (σ 23 0) = 0 then (q_grd (q_okn x2 4) (q_grd (q_okn (σ 20 0) 4) (if x2 = (σ 20 0) then (if (σ 27 1) ≤ 0 then (f_JT_canRead_76 σ 0) else (f_JT_canRead_71 σ)) else (f_JT_canRead_71 σ)))) else (f_JT_canRead_71 σ)
set_option maxHeartbeats 4000000 in
set_option maxRecDepth 100000 in
theorem k_JT_canRead_40 {p : Program} {l : Launch} {e : Env} {s : State} {m : MethodId} {args : Array Value} {below : List Frame} {meth : Method} {c : Code} {D : va_G} {A : Nat → Prop} {ad : Nat → Nat} {cs : Nat → ClassId} (C0 : q_Cx "JobTerminal" b_JT_canRead 3 (some .boolean) w_JT_canRead D vwCl (tyL cs) NW p s m args meth c) (hA : ∀ q, s.heap.size ≤ q → A q) (res : (Int32 × q_St)) : ∀ (σ : q_St) (x2 : Int32) , f_JT_canRead_40 σ x2 = some res → ∀ (H : Heap) (locs : List Loc), q_I D vwCl A s.heap (q_ws 33 ad (cC ad cs σ)) H locs → ∀ ls : Array Slot, q_has ls 3 [(0, .ref (ad 0)), (2, q_rv ad 17 x2)] → W p l e ({ frames := 1, cells := 0, slots := 0, locals := 21 } : Room) s m args below meth c H locs 0 0 (MQ below (q_Qi D vwCl res.1 (q_ws 33 ad (cC ad cs res.2)) A) args s 0 0 A) (F0 m 40 ls []) := by
  intro σ x2 hf H locs I ls hl
  unfold f_JT_canRead_40 at hf
  obtain ⟨hx, hb, hr, hml, hown, hts, hlocks, hK, hN⟩ := id C0
  have htg : ∀ w ∈ GW, w.before args s = true := fun w h => hts w (List.mem_cons_of_mem _ h)
  refine lv_aload_n hx hb d_JT_canRead_40 rfl (q_at hl 0 rfl) ?_
  refine G_JT_JT_terminal hx hb htg hown hK hN I d_JT_canRead_41 ?_
  refine G_JT_Terminal_hangs hx hb htg hown hK hN I d_JT_canRead_44 ?_
  refine lv_if_ne (tgt := 71) hx hb d_JT_canRead_47 (by decide) (fun c12 => ?_) (fun c12 => ?_)
  · rw [if_neg c12] at hf
    exact k_JT_canRead_71 C0 hA res σ hf H locs I ls (q_hsub hl [] rfl)
  · rw [if_pos c12] at hf
    refine q_aload_n hx hb d_JT_canRead_50 rfl (q_at hl 1 rfl) ?_
    refine lv_aload_n hx hb d_JT_canRead_51 rfl (q_at hl 0 rfl) ?_
    refine G_JT_JT_foregroundJob hx hb htg hown hK hN I d_JT_canRead_52 ?_
    obtain ⟨o14, hf⟩ := q_grd_some hf
    obtain ⟨o15, hf⟩ := q_grd_some hf
    refine q_acmp_ne (b := 17) (n := 4) (tgt := 71) hx hb I.2.1 (by decide) (by decide) o14 o15 d_JT_canRead_55 (by decide) (fun c13 => ?_) (fun c13 => ?_)
    · rw [if_neg c13] at hf
      exact k_JT_canRead_71 C0 hA res σ hf H locs I ls (q_hsub hl [] rfl)
    · rw [if_pos c13] at hf
      refine lv_aload_n hx hb d_JT_canRead_58 rfl (q_at hl 0 rfl) ?_
      refine G_JT_JT_terminal hx hb htg hown hK hN I d_JT_canRead_59 ?_
      refine G_JT_Terminal_queue hx hb htg hown hK hN I d_JT_canRead_62 ?_
      refine G_JT_NumberRow_count hx hb htg hown hK hN I (show (1 : Nat) < 6 by skip; omega) d_JT_canRead_65 ?_
      refine lv_if_le (tgt := 75) hx hb d_JT_canRead_68 (by decide) (fun c16 => ?_) (fun c16 => ?_)
      · rw [if_pos c16] at hf
        refine lv_iconst (v := 0) hx hb d_JT_canRead_75 (by decide) ?_
        exact k_JT_canRead_76 C0 hA res σ 0 hf H locs I ls (q_hsub hl [] rfl)
      · rw [if_neg c16] at hf
        exact k_JT_canRead_71 C0 hA res σ hf H locs I ls (q_hsub hl [] rfl)
def f_JT_canRead_39 (σ : q_St) (y0 : Int32) : Option (Int32 × q_St) := q_grd (q_isB y0) (some (y0, σ))
set_option maxHeartbeats 4000000 in
set_option maxRecDepth 100000 in
theorem k_JT_canRead_39 {p : Program} {l : Launch} {e : Env} {s : State} {m : MethodId} {args : Array Value} {below : List Frame} {meth : Method} {c : Code} {D : va_G} {A : Nat → Prop} {ad : Nat → Nat} {cs : Nat → ClassId} (C0 : q_Cx "JobTerminal" b_JT_canRead 3 (some .boolean) w_JT_canRead D vwCl (tyL cs) NW p s m args meth c) (hA : ∀ q, s.heap.size ≤ q → A q) (res : (Int32 × q_St)) : ∀ (σ : q_St) (y0 : Int32) , f_JT_canRead_39 σ y0 = some res → ∀ (H : Heap) (locs : List Loc), q_I D vwCl A s.heap (q_ws 33 ad (cC ad cs σ)) H locs → ∀ ls : Array Slot, q_has ls 3 [] → W p l e ({ frames := 1, cells := 0, slots := 0, locals := 21 } : Room) s m args below meth c H locs 0 0 (MQ below (q_Qi D vwCl res.1 (q_ws 33 ad (cC ad cs res.2)) A) args s 0 0 A) (F0 m 39 ls [.int y0]) := by
  intro σ y0 hf H locs I ls hl
  unfold f_JT_canRead_39 at hf
  obtain ⟨hx, hb, hr, hml, hown, hts, hlocks, hK, hN⟩ := id C0
  have htg : ∀ w ∈ GW, w.before args s = true := fun w h => hts w (List.mem_cons_of_mem _ h)
  obtain ⟨o11, hf⟩ := q_grd_some hf
  cases hf
  exact q_zret hx hb hr hlocks o11 I d_JT_canRead_39
def f_JT_canRead_34 (σ : q_St) : Option (Int32 × q_St) := f_JT_canRead_39 σ 1
set_option maxHeartbeats 4000000 in
set_option maxRecDepth 100000 in
theorem k_JT_canRead_34 {p : Program} {l : Launch} {e : Env} {s : State} {m : MethodId} {args : Array Value} {below : List Frame} {meth : Method} {c : Code} {D : va_G} {A : Nat → Prop} {ad : Nat → Nat} {cs : Nat → ClassId} (C0 : q_Cx "JobTerminal" b_JT_canRead 3 (some .boolean) w_JT_canRead D vwCl (tyL cs) NW p s m args meth c) (hA : ∀ q, s.heap.size ≤ q → A q) (res : (Int32 × q_St)) : ∀ (σ : q_St) , f_JT_canRead_34 σ  = some res → ∀ (H : Heap) (locs : List Loc), q_I D vwCl A s.heap (q_ws 33 ad (cC ad cs σ)) H locs → ∀ ls : Array Slot, q_has ls 3 [] → W p l e ({ frames := 1, cells := 0, slots := 0, locals := 21 } : Room) s m args below meth c H locs 0 0 (MQ below (q_Qi D vwCl res.1 (q_ws 33 ad (cC ad cs res.2)) A) args s 0 0 A) (F0 m 34 ls []) := by
  intro σ  hf H locs I ls hl
  unfold f_JT_canRead_34 at hf
  obtain ⟨hx, hb, hr, hml, hown, hts, hlocks, hK, hN⟩ := id C0
  have htg : ∀ w ∈ GW, w.before args s = true := fun w h => hts w (List.mem_cons_of_mem _ h)
  refine lv_iconst (v := 1) hx hb d_JT_canRead_34 (by decide) ?_
  refine lv_goto (tgt := 39) hx hb d_JT_canRead_35 (by decide) ?_
  exact k_JT_canRead_39 C0 hA res σ 1 hf H locs I ls (q_hsub hl [] rfl)
def f_JT_canRead (σ : q_St) (p1 : Int32) : Option (Int32 × q_St) := q_grd (q_in p1 8) (if (σ 32 p1.toNatClampNeg) < 0 then (f_JT_canRead_40 σ (σ 32 p1.toNatClampNeg)) else (q_grd (q_in (σ 32 p1.toNatClampNeg) 4) (q_bnd (f_Job_readsFromPipe σ ((σ 32 p1.toNatClampNeg).toNatClampNeg) p1) (fun r4 => if r4.1 = 0 then (f_JT_canRead_40 r4.2 (σ 32 p1.toNatClampNeg)) else (if 0 < (r4.2 27 (2 + ((σ 32 p1.toNatClampNeg).toNatClampNeg))) then (f_JT_canRead_34 r4.2) else (q_bnd (f_Job_firstHasEnded r4.2 ((σ 32 p1.toNatClampNeg).toNatClampNeg)) (fun r8 => if r8.1 = 0 then (f_JT_canRead_39 r8.2 0) else (f_JT_canRead_34 r8.2))))))))
set_option maxHeartbeats 4000000 in
set_option maxRecDepth 100000 in
theorem c_JT_canRead {l : Launch} {D : va_G} {ad : Nat → Nat} {cs : Nat → ClassId} {sz : Nat} {σ : q_St} {p1 : Int32} {res : (Int32 × q_St)} (hf : f_JT_canRead σ p1 = some res) : Met l y_JT_canRead w_JT_canRead ({ frames := 1, cells := 0, slots := 0, locals := 21 } : Room) (q_Pre D vwCl (tyL cs) NW [.ref (ad 0), q_rv ad 9 p1] (q_ws 33 ad (cC ad cs σ)) sz) (q_Qi D vwCl res.1 (q_ws 33 ad (cC ad cs res.2)) (va_A (q_ws 33 ad (cC ad cs σ)) sz)) 0 0 (va_A (q_ws 33 ad (cC ad cs σ)) sz) := by
  refine Met.ofW (cc := b_JT_canRead) (maxL := 3) (ret := (some .boolean)) (by decide) rfl ?_
  intro p e s m args below meth c s₁ B hml hv
  obtain ⟨hargs, hsz, hP, hK, hD0, hN⟩ := hv
  have hx := B.exec
  have hb := B.bytes
  have hr := B.returns
  have hts := atoms_spec (ws := w_JT_canRead) B.pre
  have hown : s.vm.findClass "JobTerminal" = some m.cls := findClass_of_methodNamed B.named
  have hlocks := B.notSynchronized
  have htg : ∀ w ∈ GW, w.before args s = true := fun w h => hts w (List.mem_cons_of_mem _ h)
  subst hsz
  have hD := hD0.self (sz := s.heap.size)
  generalize hAe : va_A (q_ws 33 ad (cC ad cs σ)) s.heap.size = A at hD ⊢
  have hA : ∀ q : Nat, s.heap.size ≤ q → A q := fun q h => by rw [← hAe]; exact Or.inr h
  have I : q_I D vwCl A s.heap (q_ws 33 ad (cC ad cs σ)) s.heap [] := ⟨hP, hD, va_S.rf⟩
  obtain ⟨ls, hen, hl⟩ := q_entry (vs := [.ref (ad 0), q_rv ad 9 p1]) (n := 3) (lv := [(0, .ref (ad 0)), (1, q_rv ad 9 p1)]) (by intro v hv; simp only [List.mem_cons, List.not_mem_nil, or_false] at hv; rcases hv with rfl | rfl <;> first | rfl | exact q_cat) (Nat.le_of_ble_eq_true rfl) rfl
  rw [show entryFrame m args 3 = F0 m 0 ls [] from by rw [hargs]; exact hen m]
  have C0 : q_Cx "JobTerminal" b_JT_canRead 3 (some .boolean) w_JT_canRead D vwCl (tyL cs) NW p s m args meth c := ⟨hx, hb, hr, hml, hown, hts, hlocks, hK, hN⟩
  unfold f_JT_canRead at hf
  have hgo : ∀ (H : Heap) (locs : List Loc), q_I D vwCl A s.heap (q_ws 33 ad (cC ad cs σ)) H locs → W p l e ({ frames := 1, cells := 0, slots := 0, locals := 21 } : Room) s m args below meth c H locs 0 0 (MQ below (q_Qi D vwCl res.1 (q_ws 33 ad (cC ad cs res.2)) A) args s 0 0 A) (F0 m 0 ls []) := by
    intro H locs I
    refine q_aload_n hx hb d_JT_canRead_0 rfl (q_at hl 1 rfl) ?_
    obtain ⟨o1, hf⟩ := q_grd_some hf
    rw [q_rv_ref (q_in_pos o1)]
    refine G_JT_JobProcess_owner hx hb htg hown hK hN I (q_in_lt o1) d_JT_canRead_1 ?_
    refine q_astoreV_n (lv' := [(2, q_rv ad 17 (σ 32 p1.toNatClampNeg)), (0, .ref (ad 0)), (1, q_rv ad 9 p1)]) hx hb d_JT_canRead_4 rfl hl (by decide) rfl (fun ls hl => ?_)
    refine q_aload_n hx hb d_JT_canRead_5 rfl (q_at hl 0 rfl) ?_
    refine q_ifnull (tgt := 40) hx hb d_JT_canRead_6 (by decide) (fun c2 => ?_) (fun c2 => ?_)
    · rw [if_pos c2] at hf
      exact k_JT_canRead_40 C0 hA res σ (σ 32 p1.toNatClampNeg) hf H locs I ls (q_hsub hl [1, 0] rfl)
    · rw [if_neg c2] at hf
      refine q_aload_n hx hb d_JT_canRead_9 rfl (q_at hl 0 rfl) ?_
      refine q_aload_n hx hb d_JT_canRead_10 rfl (q_at hl 2 rfl) ?_
      obtain ⟨o3, hf⟩ := q_grd_some hf
      rw [q_rv_ref (q_in_pos o3)]
      obtain ⟨r4, e5, hf⟩ := q_bnd_some hf
      refine q_ki hA I (q_runV (C := "JobTerminal$Job") (As := [q_rv ad 9 p1]) (rest := []) ⟨hx, hb, hml, hown, hts⟩ (c_Job_readsFromPipe (sz := H.size) (q_in_lt o3) e5) (cwV 1 hts (q_goodV mw234 mw235 mw236 mw237 mw179) rfl rfl rfl (by decide +kernel) ⟨Nat.le_of_ble_eq_true rfl, Nat.le_of_ble_eq_true rfl⟩) NW_ok hK hN I rfl (q_wsE (Nat.lt_of_lt_of_le (Nat.add_lt_add_left (q_in_lt o3) _) (by decide)) (a_C_Job (q_in_lt o3))) rfl (q_sz hl) rfl (Nat.le_of_ble_eq_true rfl) d_JT_canRead_11 ⟨Nat.zero_le _, Nat.zero_le _⟩) (fun H locs I => ?_)
      refine lv_if_eq (tgt := 40) hx hb d_JT_canRead_14 (by decide) (fun c6 => ?_) (fun c6 => ?_)
      · rw [if_pos c6] at hf
        exact k_JT_canRead_40 C0 hA res r4.2 (σ 32 p1.toNatClampNeg) hf H locs I ls (q_hsub hl [1, 0] rfl)
      · rw [if_neg c6] at hf
        refine q_aload_n hx hb d_JT_canRead_17 rfl (q_at hl 0 rfl) ?_
        rw [q_rv_ref (q_in_pos o3)]
        refine G_JT_Job_pipe hx hb htg hown hK hN I (q_in_lt o3) d_JT_canRead_18 ?_
        refine G_JT_NumberRow_count hx hb htg hown hK hN I (show (2 + ((σ 32 p1.toNatClampNeg).toNatClampNeg)) < 6 by have := q_in_lt o1; have := q_in_lt o3; omega) d_JT_canRead_21 ?_
        refine lv_if_gt (tgt := 34) hx hb d_JT_canRead_24 (by decide) (fun c7 => ?_) (fun c7 => ?_)
        · rw [if_pos c7] at hf
          exact k_JT_canRead_34 C0 hA res r4.2 hf H locs I ls (q_hsub hl [] rfl)
        · rw [if_neg c7] at hf
          refine q_aload_n hx hb d_JT_canRead_27 rfl (q_at hl 0 rfl) ?_
          rw [q_rv_ref (q_in_pos o3)]
          obtain ⟨r8, e9, hf⟩ := q_bnd_some hf
          refine q_ki hA I (q_runV (C := "JobTerminal$Job") (As := []) (rest := []) ⟨hx, hb, hml, hown, hts⟩ (c_Job_firstHasEnded (sz := H.size) (q_in_lt o3) e9) (cwV 0 hts (q_goodV mw238 mw239 mw240 mw241 mw179) rfl rfl rfl (by decide +kernel) ⟨Nat.le_of_ble_eq_true rfl, Nat.le_of_ble_eq_true rfl⟩) NW_ok hK hN I rfl (q_wsE (Nat.lt_of_lt_of_le (Nat.add_lt_add_left (q_in_lt o3) _) (by decide)) (a_C_Job (q_in_lt o3))) rfl (q_sz hl) rfl (Nat.le_of_ble_eq_true rfl) d_JT_canRead_28 ⟨Nat.zero_le _, Nat.zero_le _⟩) (fun H locs I => ?_)
          refine lv_if_eq (tgt := 38) hx hb d_JT_canRead_31 (by decide) (fun c10 => ?_) (fun c10 => ?_)
          · rw [if_pos c10] at hf
            refine lv_iconst (v := 0) hx hb d_JT_canRead_38 (by decide) ?_
            exact k_JT_canRead_39 C0 hA res r8.2 0 hf H locs I ls (q_hsub hl [] rfl)
          · rw [if_neg c10] at hf
            exact k_JT_canRead_34 C0 hA res r8.2 hf H locs I ls (q_hsub hl [] rfl)
  exact hgo _ _ I
-- JobTerminal canWrite
def f_JT_canWrite_41 (σ : q_St) : Option (Int32 × q_St) := some (1, σ)
set_option maxHeartbeats 4000000 in
set_option maxRecDepth 100000 in
theorem k_JT_canWrite_41 {p : Program} {l : Launch} {e : Env} {s : State} {m : MethodId} {args : Array Value} {below : List Frame} {meth : Method} {c : Code} {D : va_G} {A : Nat → Prop} {ad : Nat → Nat} {cs : Nat → ClassId} (C0 : q_Cx "JobTerminal" b_JT_canWrite 3 (some .boolean) w_JT_canWrite D vwCl (tyL cs) NW p s m args meth c) (hA : ∀ q, s.heap.size ≤ q → A q) (res : (Int32 × q_St)) : ∀ (σ : q_St) , f_JT_canWrite_41 σ  = some res → ∀ (H : Heap) (locs : List Loc), q_I D vwCl A s.heap (q_ws 33 ad (cC ad cs σ)) H locs → ∀ ls : Array Slot, q_has ls 3 [] → W p l e ({ frames := 1, cells := 0, slots := 0, locals := 21 } : Room) s m args below meth c H locs 0 0 (MQ below (q_Qi D vwCl res.1 (q_ws 33 ad (cC ad cs res.2)) A) args s 0 0 A) (F0 m 41 ls []) := by
  intro σ  hf H locs I ls hl
  unfold f_JT_canWrite_41 at hf
  obtain ⟨hx, hb, hr, hml, hown, hts, hlocks, hK, hN⟩ := id C0
  have htg : ∀ w ∈ GW, w.before args s = true := fun w h => hts w (List.mem_cons_of_mem _ h)
  refine lv_iconst (v := 1) hx hb d_JT_canWrite_41 (by decide) ?_
  cases hf
  exact q_zret (r0 := 1) hx hb hr hlocks (by decide) I d_JT_canWrite_42
def f_JT_canWrite_40 (σ : q_St) (y0 : Int32) : Option (Int32 × q_St) := q_grd (q_isB y0) (some (y0, σ))
set_option maxHeartbeats 4000000 in
set_option maxRecDepth 100000 in
theorem k_JT_canWrite_40 {p : Program} {l : Launch} {e : Env} {s : State} {m : MethodId} {args : Array Value} {below : List Frame} {meth : Method} {c : Code} {D : va_G} {A : Nat → Prop} {ad : Nat → Nat} {cs : Nat → ClassId} (C0 : q_Cx "JobTerminal" b_JT_canWrite 3 (some .boolean) w_JT_canWrite D vwCl (tyL cs) NW p s m args meth c) (hA : ∀ q, s.heap.size ≤ q → A q) (res : (Int32 × q_St)) : ∀ (σ : q_St) (y0 : Int32) , f_JT_canWrite_40 σ y0 = some res → ∀ (H : Heap) (locs : List Loc), q_I D vwCl A s.heap (q_ws 33 ad (cC ad cs σ)) H locs → ∀ ls : Array Slot, q_has ls 3 [] → W p l e ({ frames := 1, cells := 0, slots := 0, locals := 21 } : Room) s m args below meth c H locs 0 0 (MQ below (q_Qi D vwCl res.1 (q_ws 33 ad (cC ad cs res.2)) A) args s 0 0 A) (F0 m 40 ls [.int y0]) := by
  intro σ y0 hf H locs I ls hl
  unfold f_JT_canWrite_40 at hf
  obtain ⟨hx, hb, hr, hml, hown, hts, hlocks, hK, hN⟩ := id C0
  have htg : ∀ w ∈ GW, w.before args s = true := fun w h => hts w (List.mem_cons_of_mem _ h)
  obtain ⟨o13, hf⟩ := q_grd_some hf
  cases hf
  exact q_zret hx hb hr hlocks o13 I d_JT_canWrite_40
def f_JT_canWrite_35 (σ : q_St) : Option (Int32 × q_St) := f_JT_canWrite_40 σ 1
set_option maxHeartbeats 4000000 in
set_option maxRecDepth 100000 in
theorem k_JT_canWrite_35 {p : Program} {l : Launch} {e : Env} {s : State} {m : MethodId} {args : Array Value} {below : List Frame} {meth : Method} {c : Code} {D : va_G} {A : Nat → Prop} {ad : Nat → Nat} {cs : Nat → ClassId} (C0 : q_Cx "JobTerminal" b_JT_canWrite 3 (some .boolean) w_JT_canWrite D vwCl (tyL cs) NW p s m args meth c) (hA : ∀ q, s.heap.size ≤ q → A q) (res : (Int32 × q_St)) : ∀ (σ : q_St) , f_JT_canWrite_35 σ  = some res → ∀ (H : Heap) (locs : List Loc), q_I D vwCl A s.heap (q_ws 33 ad (cC ad cs σ)) H locs → ∀ ls : Array Slot, q_has ls 3 [] → W p l e ({ frames := 1, cells := 0, slots := 0, locals := 21 } : Room) s m args below meth c H locs 0 0 (MQ below (q_Qi D vwCl res.1 (q_ws 33 ad (cC ad cs res.2)) A) args s 0 0 A) (F0 m 35 ls []) := by
  intro σ  hf H locs I ls hl
  unfold f_JT_canWrite_35 at hf
  obtain ⟨hx, hb, hr, hml, hown, hts, hlocks, hK, hN⟩ := id C0
  have htg : ∀ w ∈ GW, w.before args s = true := fun w h => hts w (List.mem_cons_of_mem _ h)
  refine lv_iconst (v := 1) hx hb d_JT_canWrite_35 (by decide) ?_
  refine lv_goto (tgt := 40) hx hb d_JT_canWrite_36 (by decide) ?_
  exact k_JT_canWrite_40 C0 hA res σ 1 hf H locs I ls (q_hsub hl [] rfl)
def f_JT_canWrite (σ : q_St) (p1 : Int32) : Option (Int32 × q_St) := q_grd (q_in p1 8) (if (σ 32 p1.toNatClampNeg) < 0 then (f_JT_canWrite_41 σ) else (q_grd (q_in (σ 32 p1.toNatClampNeg) 4) (q_bnd (f_Job_writesToPipe σ ((σ 32 p1.toNatClampNeg).toNatClampNeg) p1) (fun r4 => if r4.1 = 0 then (f_JT_canWrite_41 r4.2) else (q_bnd (f_Job_secondHasEnded r4.2 ((σ 32 p1.toNatClampNeg).toNatClampNeg)) (fun r7 => if r7.1 = 0 then (q_bnd (f_NumberRow_hasRoomFor r7.2 (2 + ((σ 32 p1.toNatClampNeg).toNatClampNeg)) 1) (fun r10 => if r10.1 = 0 then (f_JT_canWrite_40 r10.2 0) else (f_JT_canWrite_35 r10.2))) else (f_JT_canWrite_35 r7.2)))))))
set_option maxHeartbeats 4000000 in
set_option maxRecDepth 100000 in
theorem c_JT_canWrite {l : Launch} {D : va_G} {ad : Nat → Nat} {cs : Nat → ClassId} {sz : Nat} {σ : q_St} {p1 : Int32} {res : (Int32 × q_St)} (hf : f_JT_canWrite σ p1 = some res) : Met l y_JT_canWrite w_JT_canWrite ({ frames := 1, cells := 0, slots := 0, locals := 21 } : Room) (q_Pre D vwCl (tyL cs) NW [.ref (ad 0), q_rv ad 9 p1] (q_ws 33 ad (cC ad cs σ)) sz) (q_Qi D vwCl res.1 (q_ws 33 ad (cC ad cs res.2)) (va_A (q_ws 33 ad (cC ad cs σ)) sz)) 0 0 (va_A (q_ws 33 ad (cC ad cs σ)) sz) := by
  refine Met.ofW (cc := b_JT_canWrite) (maxL := 3) (ret := (some .boolean)) (by decide) rfl ?_
  intro p e s m args below meth c s₁ B hml hv
  obtain ⟨hargs, hsz, hP, hK, hD0, hN⟩ := hv
  have hx := B.exec
  have hb := B.bytes
  have hr := B.returns
  have hts := atoms_spec (ws := w_JT_canWrite) B.pre
  have hown : s.vm.findClass "JobTerminal" = some m.cls := findClass_of_methodNamed B.named
  have hlocks := B.notSynchronized
  have htg : ∀ w ∈ GW, w.before args s = true := fun w h => hts w (List.mem_cons_of_mem _ h)
  subst hsz
  have hD := hD0.self (sz := s.heap.size)
  generalize hAe : va_A (q_ws 33 ad (cC ad cs σ)) s.heap.size = A at hD ⊢
  have hA : ∀ q : Nat, s.heap.size ≤ q → A q := fun q h => by rw [← hAe]; exact Or.inr h
  have I : q_I D vwCl A s.heap (q_ws 33 ad (cC ad cs σ)) s.heap [] := ⟨hP, hD, va_S.rf⟩
  obtain ⟨ls, hen, hl⟩ := q_entry (vs := [.ref (ad 0), q_rv ad 9 p1]) (n := 3) (lv := [(0, .ref (ad 0)), (1, q_rv ad 9 p1)]) (by intro v hv; simp only [List.mem_cons, List.not_mem_nil, or_false] at hv; rcases hv with rfl | rfl <;> first | rfl | exact q_cat) (Nat.le_of_ble_eq_true rfl) rfl
  rw [show entryFrame m args 3 = F0 m 0 ls [] from by rw [hargs]; exact hen m]
  have C0 : q_Cx "JobTerminal" b_JT_canWrite 3 (some .boolean) w_JT_canWrite D vwCl (tyL cs) NW p s m args meth c := ⟨hx, hb, hr, hml, hown, hts, hlocks, hK, hN⟩
  unfold f_JT_canWrite at hf
  have hgo : ∀ (H : Heap) (locs : List Loc), q_I D vwCl A s.heap (q_ws 33 ad (cC ad cs σ)) H locs → W p l e ({ frames := 1, cells := 0, slots := 0, locals := 21 } : Room) s m args below meth c H locs 0 0 (MQ below (q_Qi D vwCl res.1 (q_ws 33 ad (cC ad cs res.2)) A) args s 0 0 A) (F0 m 0 ls []) := by
    intro H locs I
    refine q_aload_n hx hb d_JT_canWrite_0 rfl (q_at hl 1 rfl) ?_
    obtain ⟨o1, hf⟩ := q_grd_some hf
    rw [q_rv_ref (q_in_pos o1)]
    refine G_JT_JobProcess_owner hx hb htg hown hK hN I (q_in_lt o1) d_JT_canWrite_1 ?_
    refine q_astoreV_n (lv' := [(2, q_rv ad 17 (σ 32 p1.toNatClampNeg)), (0, .ref (ad 0)), (1, q_rv ad 9 p1)]) hx hb d_JT_canWrite_4 rfl hl (by decide) rfl (fun ls hl => ?_)
    refine q_aload_n hx hb d_JT_canWrite_5 rfl (q_at hl 0 rfl) ?_
    refine q_ifnull (tgt := 41) hx hb d_JT_canWrite_6 (by decide) (fun c2 => ?_) (fun c2 => ?_)
    · rw [if_pos c2] at hf
      exact k_JT_canWrite_41 C0 hA res σ hf H locs I ls (q_hsub hl [] rfl)
    · rw [if_neg c2] at hf
      refine q_aload_n hx hb d_JT_canWrite_9 rfl (q_at hl 0 rfl) ?_
      refine q_aload_n hx hb d_JT_canWrite_10 rfl (q_at hl 2 rfl) ?_
      obtain ⟨o3, hf⟩ := q_grd_some hf
      rw [q_rv_ref (q_in_pos o3)]
      obtain ⟨r4, e5, hf⟩ := q_bnd_some hf
      refine q_ki hA I (q_runV (C := "JobTerminal$Job") (As := [q_rv ad 9 p1]) (rest := []) ⟨hx, hb, hml, hown, hts⟩ (c_Job_writesToPipe (sz := H.size) (q_in_lt o3) e5) (cwV 1 hts (q_goodV mw242 mw243 mw244 mw245 mw179) rfl rfl rfl (by decide +kernel) ⟨Nat.le_of_ble_eq_true rfl, Nat.le_of_ble_eq_true rfl⟩) NW_ok hK hN I rfl (q_wsE (Nat.lt_of_lt_of_le (Nat.add_lt_add_left (q_in_lt o3) _) (by decide)) (a_C_Job (q_in_lt o3))) rfl (q_sz hl) rfl (Nat.le_of_ble_eq_true rfl) d_JT_canWrite_11 ⟨Nat.zero_le _, Nat.zero_le _⟩) (fun H locs I => ?_)
      refine lv_if_eq (tgt := 41) hx hb d_JT_canWrite_14 (by decide) (fun c6 => ?_) (fun c6 => ?_)
      · rw [if_pos c6] at hf
        exact k_JT_canWrite_41 C0 hA res r4.2 hf H locs I ls (q_hsub hl [] rfl)
      · rw [if_neg c6] at hf
        refine q_aload_n hx hb d_JT_canWrite_17 rfl (q_at hl 0 rfl) ?_
        rw [q_rv_ref (q_in_pos o3)]
        obtain ⟨r7, e8, hf⟩ := q_bnd_some hf
        refine q_ki hA I (q_runV (C := "JobTerminal$Job") (As := []) (rest := []) ⟨hx, hb, hml, hown, hts⟩ (c_Job_secondHasEnded (sz := H.size) (q_in_lt o3) e8) (cwV 0 hts (q_goodV mw246 mw247 mw248 mw249 mw179) rfl rfl rfl (by decide +kernel) ⟨Nat.le_of_ble_eq_true rfl, Nat.le_of_ble_eq_true rfl⟩) NW_ok hK hN I rfl (q_wsE (Nat.lt_of_lt_of_le (Nat.add_lt_add_left (q_in_lt o3) _) (by decide)) (a_C_Job (q_in_lt o3))) rfl (q_sz hl) rfl (Nat.le_of_ble_eq_true rfl) d_JT_canWrite_18 ⟨Nat.zero_le _, Nat.zero_le _⟩) (fun H locs I => ?_)
        refine lv_if_ne (tgt := 35) hx hb d_JT_canWrite_21 (by decide) (fun c9 => ?_) (fun c9 => ?_)
        · rw [if_neg c9] at hf
          exact k_JT_canWrite_35 C0 hA res r7.2 hf H locs I ls (q_hsub hl [] rfl)
        · rw [if_pos c9] at hf
          refine q_aload_n hx hb d_JT_canWrite_24 rfl (q_at hl 0 rfl) ?_
          rw [q_rv_ref (q_in_pos o3)]
          refine G_JT_Job_pipe hx hb htg hown hK hN I (q_in_lt o3) d_JT_canWrite_25 ?_
          refine lv_iconst (v := 1) hx hb d_JT_canWrite_28 (by decide) ?_
          obtain ⟨r10, e11, hf⟩ := q_bnd_some hf
          refine q_ki hA I (q_runV (C := "JobTerminal$NumberRow") (As := [.int 1]) (rest := []) ⟨hx, hb, hml, hown, hts⟩ (c_NumberRow_hasRoomFor (sz := H.size) (show (2 + ((σ 32 p1.toNatClampNeg).toNatClampNeg)) < 6 by have := q_in_lt o1; have := q_in_lt o3; omega) e11) (cwV 1 hts (q_goodV mw102 mw250 mw104 mw105 mw88) rfl rfl rfl (by decide +kernel) ⟨Nat.le_of_ble_eq_true rfl, Nat.le_of_ble_eq_true rfl⟩) NW_ok hK hN I rfl (q_wsE (Nat.lt_of_lt_of_le (Nat.add_lt_add_left (show (2 + ((σ 32 p1.toNatClampNeg).toNatClampNeg)) < 6 by have := q_in_lt o1; have := q_in_lt o3; omega) _) (by decide)) (a_C_NumberRow (show (2 + ((σ 32 p1.toNatClampNeg).toNatClampNeg)) < 6 by have := q_in_lt o1; have := q_in_lt o3; omega))) rfl (q_sz hl) rfl (Nat.le_of_ble_eq_true rfl) d_JT_canWrite_29 ⟨Nat.zero_le _, Nat.zero_le _⟩) (fun H locs I => ?_)
          refine lv_if_eq (tgt := 39) hx hb d_JT_canWrite_32 (by decide) (fun c12 => ?_) (fun c12 => ?_)
          · rw [if_pos c12] at hf
            refine lv_iconst (v := 0) hx hb d_JT_canWrite_39 (by decide) ?_
            exact k_JT_canWrite_40 C0 hA res r10.2 0 hf H locs I ls (q_hsub hl [] rfl)
          · rw [if_neg c12] at hf
            exact k_JT_canWrite_35 C0 hA res r10.2 hf H locs I ls (q_hsub hl [] rfl)
  exact hgo _ _ I
-- JobTerminal canGoOn
def f_JT_canGoOn_92 (σ : q_St) (y0 : Int32) : Option (Int32 × q_St) := q_grd (q_isB y0) (some (y0, σ))
set_option maxHeartbeats 4000000 in
set_option maxRecDepth 100000 in
theorem k_JT_canGoOn_92 {p : Program} {l : Launch} {e : Env} {s : State} {m : MethodId} {args : Array Value} {below : List Frame} {meth : Method} {c : Code} {D : va_G} {A : Nat → Prop} {ad : Nat → Nat} {cs : Nat → ClassId} (C0 : q_Cx "JobTerminal" b_JT_canGoOn 2 (some .boolean) w_JT_canGoOn D vwCl (tyL cs) NW p s m args meth c) (hA : ∀ q, s.heap.size ≤ q → A q) (res : (Int32 × q_St)) : ∀ (σ : q_St) (y0 : Int32) , f_JT_canGoOn_92 σ y0 = some res → ∀ (H : Heap) (locs : List Loc), q_I D vwCl A s.heap (q_ws 33 ad (cC ad cs σ)) H locs → ∀ ls : Array Slot, q_has ls 2 [] → W p l e ({ frames := 2, cells := 0, slots := 0, locals := 43 } : Room) s m args below meth c H locs 0 0 (MQ below (q_Qi D vwCl res.1 (q_ws 33 ad (cC ad cs res.2)) A) args s 0 0 A) (F0 m 92 ls [.int y0]) := by
  intro σ y0 hf H locs I ls hl
  unfold f_JT_canGoOn_92 at hf
  obtain ⟨hx, hb, hr, hml, hown, hts, hlocks, hK, hN⟩ := id C0
  have htg : ∀ w ∈ GW, w.before args s = true := fun w h => hts w (List.mem_cons_of_mem _ h)
  obtain ⟨o19, hf⟩ := q_grd_some hf
  cases hf
  exact q_zret hx hb hr hlocks o19 I d_JT_canGoOn_92
def f_JT_canGoOn_87 (σ : q_St) : Option (Int32 × q_St) := f_JT_canGoOn_92 σ 1
set_option maxHeartbeats 4000000 in
set_option maxRecDepth 100000 in
theorem k_JT_canGoOn_87 {p : Program} {l : Launch} {e : Env} {s : State} {m : MethodId} {args : Array Value} {below : List Frame} {meth : Method} {c : Code} {D : va_G} {A : Nat → Prop} {ad : Nat → Nat} {cs : Nat → ClassId} (C0 : q_Cx "JobTerminal" b_JT_canGoOn 2 (some .boolean) w_JT_canGoOn D vwCl (tyL cs) NW p s m args meth c) (hA : ∀ q, s.heap.size ≤ q → A q) (res : (Int32 × q_St)) : ∀ (σ : q_St) , f_JT_canGoOn_87 σ  = some res → ∀ (H : Heap) (locs : List Loc), q_I D vwCl A s.heap (q_ws 33 ad (cC ad cs σ)) H locs → ∀ ls : Array Slot, q_has ls 2 [] → W p l e ({ frames := 2, cells := 0, slots := 0, locals := 43 } : Room) s m args below meth c H locs 0 0 (MQ below (q_Qi D vwCl res.1 (q_ws 33 ad (cC ad cs res.2)) A) args s 0 0 A) (F0 m 87 ls []) := by
  intro σ  hf H locs I ls hl
  unfold f_JT_canGoOn_87 at hf
  obtain ⟨hx, hb, hr, hml, hown, hts, hlocks, hK, hN⟩ := id C0
  have htg : ∀ w ∈ GW, w.before args s = true := fun w h => hts w (List.mem_cons_of_mem _ h)
  refine lv_iconst (v := 1) hx hb d_JT_canGoOn_87 (by decide) ?_
  refine lv_goto (tgt := 92) hx hb d_JT_canGoOn_88 (by decide) ?_
  exact k_JT_canGoOn_92 C0 hA res σ 1 hf H locs I ls (q_hsub hl [] rfl)
def f_JT_canGoOn_15 (σ : q_St) : Option (Int32 × q_St) := some (0, σ)
set_option maxHeartbeats 4000000 in
set_option maxRecDepth 100000 in
theorem k_JT_canGoOn_15 {p : Program} {l : Launch} {e : Env} {s : State} {m : MethodId} {args : Array Value} {below : List Frame} {meth : Method} {c : Code} {D : va_G} {A : Nat → Prop} {ad : Nat → Nat} {cs : Nat → ClassId} (C0 : q_Cx "JobTerminal" b_JT_canGoOn 2 (some .boolean) w_JT_canGoOn D vwCl (tyL cs) NW p s m args meth c) (hA : ∀ q, s.heap.size ≤ q → A q) (res : (Int32 × q_St)) : ∀ (σ : q_St) , f_JT_canGoOn_15 σ  = some res → ∀ (H : Heap) (locs : List Loc), q_I D vwCl A s.heap (q_ws 33 ad (cC ad cs σ)) H locs → ∀ ls : Array Slot, q_has ls 2 [] → W p l e ({ frames := 2, cells := 0, slots := 0, locals := 43 } : Room) s m args below meth c H locs 0 0 (MQ below (q_Qi D vwCl res.1 (q_ws 33 ad (cC ad cs res.2)) A) args s 0 0 A) (F0 m 15 ls []) := by
  intro σ  hf H locs I ls hl
  unfold f_JT_canGoOn_15 at hf
  obtain ⟨hx, hb, hr, hml, hown, hts, hlocks, hK, hN⟩ := id C0
  have htg : ∀ w ∈ GW, w.before args s = true := fun w h => hts w (List.mem_cons_of_mem _ h)
  refine lv_iconst (v := 0) hx hb d_JT_canGoOn_15 (by decide) ?_
  cases hf
  exact q_zret (r0 := 0) hx hb hr hlocks (by decide) I d_JT_canGoOn_16
def f_JT_canGoOn (σ : q_St) (p1 : Int32) : Option (Int32 × q_St) := q_grd (q_in p1 8) (if (σ 33 p1.toNatClampNeg) = 1 then (if (σ 41 p1.toNatClampNeg) ≤ 0 then (q_bnd (f_Programs_opAt σ (σ 34 p1.toNatClampNeg) (σ 35 p1.toNatClampNeg)) (fun r4 => if r4.1 = (1 : Int32) then (q_bnd (f_JT_canWrite r4.2 p1) (fun r7 => q_grd (q_isB r7.1) (some (r7.1, r7.2)))) else (if r4.1 = (2 : Int32) then (q_bnd (f_JT_canRead r4.2 p1) (fun r11 => q_grd (q_isB r11.1) (some (r11.1, r11.2)))) else (if r4.1 = (3 : Int32) then (if (r4.2 36 p1.toNatClampNeg) < 0 then (f_JT_canGoOn_87 r4.2) else (q_bnd (f_JT_canWrite r4.2 p1) (fun r16 => if r16.1 = 0 then (f_JT_canGoOn_92 r16.2 0) else (f_JT_canGoOn_87 r16.2)))) else (some (1, r4.2)))))) else (f_JT_canGoOn_15 σ)) else (f_JT_canGoOn_15 σ))
set_option maxHeartbeats 4000000 in
set_option maxRecDepth 100000 in
theorem c_JT_canGoOn {l : Launch} {D : va_G} {ad : Nat → Nat} {cs : Nat → ClassId} {sz : Nat} {σ : q_St} {p1 : Int32} {res : (Int32 × q_St)} (hf : f_JT_canGoOn σ p1 = some res) : Met l y_JT_canGoOn w_JT_canGoOn ({ frames := 2, cells := 0, slots := 0, locals := 43 } : Room) (q_Pre D vwCl (tyL cs) NW [.ref (ad 0), q_rv ad 9 p1] (q_ws 33 ad (cC ad cs σ)) sz) (q_Qi D vwCl res.1 (q_ws 33 ad (cC ad cs res.2)) (va_A (q_ws 33 ad (cC ad cs σ)) sz)) 0 0 (va_A (q_ws 33 ad (cC ad cs σ)) sz) := by
  refine Met.ofW (cc := b_JT_canGoOn) (maxL := 2) (ret := (some .boolean)) (by decide) rfl ?_
  intro p e s m args below meth c s₁ B hml hv
  obtain ⟨hargs, hsz, hP, hK, hD0, hN⟩ := hv
  have hx := B.exec
  have hb := B.bytes
  have hr := B.returns
  have hts := atoms_spec (ws := w_JT_canGoOn) B.pre
  have hown : s.vm.findClass "JobTerminal" = some m.cls := findClass_of_methodNamed B.named
  have hlocks := B.notSynchronized
  have htg : ∀ w ∈ GW, w.before args s = true := fun w h => hts w (List.mem_cons_of_mem _ h)
  subst hsz
  have hD := hD0.self (sz := s.heap.size)
  generalize hAe : va_A (q_ws 33 ad (cC ad cs σ)) s.heap.size = A at hD ⊢
  have hA : ∀ q : Nat, s.heap.size ≤ q → A q := fun q h => by rw [← hAe]; exact Or.inr h
  have I : q_I D vwCl A s.heap (q_ws 33 ad (cC ad cs σ)) s.heap [] := ⟨hP, hD, va_S.rf⟩
  obtain ⟨ls, hen, hl⟩ := q_entry (vs := [.ref (ad 0), q_rv ad 9 p1]) (n := 2) (lv := [(0, .ref (ad 0)), (1, q_rv ad 9 p1)]) (by intro v hv; simp only [List.mem_cons, List.not_mem_nil, or_false] at hv; rcases hv with rfl | rfl <;> first | rfl | exact q_cat) (Nat.le_of_ble_eq_true rfl) rfl
  rw [show entryFrame m args 2 = F0 m 0 ls [] from by rw [hargs]; exact hen m]
  have C0 : q_Cx "JobTerminal" b_JT_canGoOn 2 (some .boolean) w_JT_canGoOn D vwCl (tyL cs) NW p s m args meth c := ⟨hx, hb, hr, hml, hown, hts, hlocks, hK, hN⟩
  unfold f_JT_canGoOn at hf
  have hgo : ∀ (H : Heap) (locs : List Loc), q_I D vwCl A s.heap (q_ws 33 ad (cC ad cs σ)) H locs → W p l e ({ frames := 2, cells := 0, slots := 0, locals := 43 } : Room) s m args below meth c H locs 0 0 (MQ below (q_Qi D vwCl res.1 (q_ws 33 ad (cC ad cs res.2)) A) args s 0 0 A) (F0 m 0 ls []) := by
    intro H locs I
    refine q_aload_n hx hb d_JT_canGoOn_0 rfl (q_at hl 1 rfl) ?_
    obtain ⟨o1, hf⟩ := q_grd_some hf
    rw [q_rv_ref (q_in_pos o1)]
    refine G_JT_JobProcess_state hx hb htg hown hK hN I (q_in_lt o1) d_JT_canGoOn_1 ?_
    refine lv_iconst (v := 1) hx hb d_JT_canGoOn_4 (by decide) ?_
    refine lv_icmp_ne (tgt := 15) hx hb d_JT_canGoOn_5 (by decide) (fun c2 => ?_) (fun c2 => ?_)
    · rw [if_neg c2] at hf
      exact k_JT_canGoOn_15 C0 hA res σ hf H locs I ls (q_hsub hl [] rfl)
    · rw [if_pos c2] at hf
      refine q_aload_n hx hb d_JT_canGoOn_8 rfl (q_at hl 1 rfl) ?_
      rw [q_rv_ref (q_in_pos o1)]
      refine G_JT_JobProcess_nap hx hb htg hown hK hN I (q_in_lt o1) d_JT_canGoOn_9 ?_
      refine lv_if_le (tgt := 17) hx hb d_JT_canGoOn_12 (by decide) (fun c3 => ?_) (fun c3 => ?_)
      · rw [if_pos c3] at hf
        refine lv_aload_n hx hb d_JT_canGoOn_17 rfl (q_at hl 0 rfl) ?_
        refine G_JT_JT_programs hx hb htg hown hK hN I d_JT_canGoOn_18 ?_
        refine q_aload_n hx hb d_JT_canGoOn_21 rfl (q_at hl 1 rfl) ?_
        rw [q_rv_ref (q_in_pos o1)]
        refine G_JT_JobProcess_program hx hb htg hown hK hN I (q_in_lt o1) d_JT_canGoOn_22 ?_
        refine q_aload_n hx hb d_JT_canGoOn_25 rfl (q_at hl 1 rfl) ?_
        rw [q_rv_ref (q_in_pos o1)]
        refine G_JT_JobProcess_line hx hb htg hown hK hN I (q_in_lt o1) d_JT_canGoOn_26 ?_
        obtain ⟨r4, e5, hf⟩ := q_bnd_some hf
        refine q_ki hA I (q_runV (C := "JobTerminal$Programs") (As := [.int (σ 34 p1.toNatClampNeg), .int (σ 35 p1.toNatClampNeg)]) (rest := []) ⟨hx, hb, hml, hown, hts⟩ (c_Programs_opAt (sz := H.size) e5) (cwV 2 hts (q_goodV mw251 mw252 mw253 mw254 mw69) rfl rfl rfl (by decide +kernel) ⟨Nat.le_of_ble_eq_true rfl, Nat.le_of_ble_eq_true rfl⟩) NW_ok hK hN I rfl (q_wsE (by decide) (a_C_Programs)) rfl (q_sz hl) rfl (Nat.le_of_ble_eq_true rfl) d_JT_canGoOn_29 ⟨Nat.zero_le _, Nat.zero_le _⟩) (fun H locs I => ?_)
        by_cases c6 : r4.1 = (1 : Int32)
        · rw [if_pos c6] at hf
          refine lv_tableIn (tgt := 66) hx hb d_JT_canGoOn_32 (by rw [c6] <;> decide) (by rw [c6] <;> decide) (by rw [c6] <;> rfl) (by decide) ?_
          refine lv_aload_n hx hb d_JT_canGoOn_66 rfl (q_at hl 0 rfl) ?_
          refine q_aload_n hx hb d_JT_canGoOn_67 rfl (q_at hl 1 rfl) ?_
          obtain ⟨r7, e8, hf⟩ := q_bnd_some hf
          refine q_ki hA I (q_runV (C := "JobTerminal") (As := [q_rv ad 9 p1]) (rest := []) ⟨hx, hb, hml, hown, hts⟩ (c_JT_canWrite (sz := H.size) e8) (cwV 1 hts (q_goodV mw255 mw256 mw257 mw258 mw184) rfl rfl rfl (by decide +kernel) ⟨Nat.le_of_ble_eq_true rfl, Nat.le_of_ble_eq_true rfl⟩) NW_ok hK hN I rfl (q_wsE (by decide) (a_C_JT)) rfl (q_sz hl) rfl (Nat.le_of_ble_eq_true rfl) d_JT_canGoOn_68 ⟨Nat.zero_le _, Nat.zero_le _⟩) (fun H locs I => ?_)
          obtain ⟨o9, hf⟩ := q_grd_some hf
          cases hf
          exact q_zret hx hb hr hlocks o9 I d_JT_canGoOn_71
        rw [if_neg c6] at hf
        by_cases c10 : r4.1 = (2 : Int32)
        · rw [if_pos c10] at hf
          refine lv_tableIn (tgt := 60) hx hb d_JT_canGoOn_32 (by rw [c10] <;> decide) (by rw [c10] <;> decide) (by rw [c10] <;> rfl) (by decide) ?_
          refine lv_aload_n hx hb d_JT_canGoOn_60 rfl (q_at hl 0 rfl) ?_
          refine q_aload_n hx hb d_JT_canGoOn_61 rfl (q_at hl 1 rfl) ?_
          obtain ⟨r11, e12, hf⟩ := q_bnd_some hf
          refine q_ki hA I (q_runV (C := "JobTerminal") (As := [q_rv ad 9 p1]) (rest := []) ⟨hx, hb, hml, hown, hts⟩ (c_JT_canRead (sz := H.size) e12) (cwV 1 hts (q_goodV mw259 mw260 mw261 mw262 mw184) rfl rfl rfl (by decide +kernel) ⟨Nat.le_of_ble_eq_true rfl, Nat.le_of_ble_eq_true rfl⟩) NW_ok hK hN I rfl (q_wsE (by decide) (a_C_JT)) rfl (q_sz hl) rfl (Nat.le_of_ble_eq_true rfl) d_JT_canGoOn_62 ⟨Nat.zero_le _, Nat.zero_le _⟩) (fun H locs I => ?_)
          obtain ⟨o13, hf⟩ := q_grd_some hf
          cases hf
          exact q_zret hx hb hr hlocks o13 I d_JT_canGoOn_65
        rw [if_neg c10] at hf
        by_cases c14 : r4.1 = (3 : Int32)
        · rw [if_pos c14] at hf
          refine lv_tableIn (tgt := 72) hx hb d_JT_canGoOn_32 (by rw [c14] <;> decide) (by rw [c14] <;> decide) (by rw [c14] <;> rfl) (by decide) ?_
          refine q_aload_n hx hb d_JT_canGoOn_72 rfl (q_at hl 1 rfl) ?_
          rw [q_rv_ref (q_in_pos o1)]
          refine G_JT_JobProcess_register hx hb htg hown hK hN I (q_in_lt o1) d_JT_canGoOn_73 ?_
          refine lv_if_lt (tgt := 87) hx hb d_JT_canGoOn_76 (by decide) (fun c15 => ?_) (fun c15 => ?_)
          · rw [if_pos c15] at hf
            exact k_JT_canGoOn_87 C0 hA res r4.2 hf H locs I ls (q_hsub hl [] rfl)
          · rw [if_neg c15] at hf
            refine lv_aload_n hx hb d_JT_canGoOn_79 rfl (q_at hl 0 rfl) ?_
            refine q_aload_n hx hb d_JT_canGoOn_80 rfl (q_at hl 1 rfl) ?_
            obtain ⟨r16, e17, hf⟩ := q_bnd_some hf
            refine q_ki hA I (q_runV (C := "JobTerminal") (As := [q_rv ad 9 p1]) (rest := []) ⟨hx, hb, hml, hown, hts⟩ (c_JT_canWrite (sz := H.size) e17) (cwV 1 hts (q_goodV mw255 mw256 mw257 mw258 mw184) rfl rfl rfl (by decide +kernel) ⟨Nat.le_of_ble_eq_true rfl, Nat.le_of_ble_eq_true rfl⟩) NW_ok hK hN I rfl (q_wsE (by decide) (a_C_JT)) rfl (q_sz hl) rfl (Nat.le_of_ble_eq_true rfl) d_JT_canGoOn_81 ⟨Nat.zero_le _, Nat.zero_le _⟩) (fun H locs I => ?_)
            refine lv_if_eq (tgt := 91) hx hb d_JT_canGoOn_84 (by decide) (fun c18 => ?_) (fun c18 => ?_)
            · rw [if_pos c18] at hf
              refine lv_iconst (v := 0) hx hb d_JT_canGoOn_91 (by decide) ?_
              exact k_JT_canGoOn_92 C0 hA res r16.2 0 hf H locs I ls (q_hsub hl [] rfl)
            · rw [if_neg c18] at hf
              exact k_JT_canGoOn_87 C0 hA res r16.2 hf H locs I ls (q_hsub hl [] rfl)
        rw [if_neg c14] at hf
        refine lv_tableOut (tgt := 93) hx hb d_JT_canGoOn_32 (by have := lv_neT (a := 1) c6 (by decide); have := lv_neT (a := 2) c10 (by decide); have := lv_neT (a := 3) c14 (by decide); omega) (by decide) ?_
        refine lv_iconst (v := 1) hx hb d_JT_canGoOn_93 (by decide) ?_
        cases hf
        exact q_zret (r0 := 1) hx hb hr hlocks (by decide) I d_JT_canGoOn_94
      · rw [if_neg c3] at hf
        exact k_JT_canGoOn_15 C0 hA res σ hf H locs I ls (q_hsub hl [] rfl)
  exact hgo _ _ I
-- JobTerminal nextToGo
def f_JT_nextToGo_26 (K7 : q_St → Int32 → Int32 → Option (Int32 × q_St)) (σ : q_St) (x2 : Int32) (y0 : Int32) : Option (Int32 × q_St) := q_grd (q_in y0 8) (q_bnd (f_JT_canGoOn σ y0) (fun r4 => if r4.1 = 0 then (K7 r4.2 y0 (x2 + 1)) else (q_grd (q_in y0 8) (some (y0, q_up r4.2 21 0 y0)))))
set_option maxHeartbeats 4000000 in
set_option maxRecDepth 100000 in
theorem k_JT_nextToGo_26 {p : Program} {l : Launch} {e : Env} {s : State} {m : MethodId} {args : Array Value} {below : List Frame} {meth : Method} {c : Code} {D : va_G} {A : Nat → Prop} {ad : Nat → Nat} {cs : Nat → ClassId} (C0 : q_Cx "JobTerminal" b_JT_nextToGo 3 (some (.object "JobTerminal$JobProcess")) w_JT_nextToGo D vwCl (tyL cs) NW p s m args meth c) (hA : ∀ q, s.heap.size ≤ q → A q) (res : (Int32 × q_St)) {K7 : q_St → Int32 → Int32 → Option (Int32 × q_St)} (hk7 : ∀ (σ : q_St) (x1 : Int32) (x2 : Int32) , K7 σ x1 x2 = some res → ∀ (H : Heap) (locs : List Loc), q_I D vwCl A s.heap (q_ws 33 ad (cC ad cs σ)) H locs → ∀ ls : Array Slot, q_has ls 3 [(0, .ref (ad 0)), (1, .int x1), (2, .int x2)] → W p l e ({ frames := 3, cells := 0, slots := 0, locals := 64 } : Room) s m args below meth c H locs 0 0 (MQ below (q_Qq D vwCl (q_rfo ad 9 res.1) (q_ws 33 ad (cC ad cs res.2)) A) args s 0 0 A) (F0 m 7 ls [])) : ∀ (σ : q_St) (x2 : Int32) (y0 : Int32) , f_JT_nextToGo_26 K7 σ x2 y0 = some res → ∀ (H : Heap) (locs : List Loc), q_I D vwCl A s.heap (q_ws 33 ad (cC ad cs σ)) H locs → ∀ ls : Array Slot, q_has ls 3 [(0, .ref (ad 0)), (2, .int x2)] → W p l e ({ frames := 3, cells := 0, slots := 0, locals := 64 } : Room) s m args below meth c H locs 0 0 (MQ below (q_Qq D vwCl (q_rfo ad 9 res.1) (q_ws 33 ad (cC ad cs res.2)) A) args s 0 0 A) (F0 m 26 ls [.int y0]) := by
  intro σ x2 y0 hf H locs I ls hl
  unfold f_JT_nextToGo_26 at hf
  obtain ⟨hx, hb, hr, hml, hown, hts, hlocks, hK, hN⟩ := id C0
  have htg : ∀ w ∈ GW, w.before args s = true := fun w h => hts w (List.mem_cons_of_mem _ h)
  refine q_istore_n (lv' := [(1, .int y0), (0, .ref (ad 0)), (2, .int x2)]) hx hb d_JT_nextToGo_26 rfl hl (by decide) rfl (fun ls hl => ?_)
  refine lv_aload_n hx hb d_JT_nextToGo_27 rfl (q_at hl 1 rfl) ?_
  refine lv_aload_n hx hb d_JT_nextToGo_28 rfl (q_at hl 1 rfl) ?_
  refine G_JT_JT_processes hx hb htg hown hK hN I d_JT_nextToGo_29 ?_
  refine lv_iload_n hx hb d_JT_nextToGo_32 rfl (q_at hl 0 rfl) ?_
  obtain ⟨o3, hf⟩ := q_grd_some hf
  refine A_C_procs hx hb hK I o3 d_JT_nextToGo_33 ?_
  obtain ⟨r4, e5, hf⟩ := q_bnd_some hf
  refine q_ki hA I (q_runV (C := "JobTerminal") (As := [q_rv ad 9 y0]) (rest := []) ⟨hx, hb, hml, hown, hts⟩ (c_JT_canGoOn (sz := H.size) e5) (cwV 1 hts (q_goodV mw263 mw264 mw265 mw266 mw184) rfl rfl rfl (by decide +kernel) ⟨Nat.le_of_ble_eq_true rfl, Nat.le_of_ble_eq_true rfl⟩) NW_ok hK hN I rfl (q_wsE (by decide) (a_C_JT)) rfl (q_sz hl) rfl (Nat.le_of_ble_eq_true rfl) d_JT_nextToGo_34 ⟨Nat.zero_le _, Nat.zero_le _⟩) (fun H locs I => ?_)
  refine lv_if_eq (tgt := 52) hx hb d_JT_nextToGo_37 (by decide) (fun c6 => ?_) (fun c6 => ?_)
  · rw [if_pos c6] at hf
    refine q_iinc (v := x2 + 1) (lv' := [(2, .int (x2 + 1)), (1, .int y0), (0, .ref (ad 0))]) hx hb d_JT_nextToGo_52 hl (k := 2) rfl rfl (by decide) rfl (fun ls hl => ?_)
    refine lv_goto (tgt := 7) hx hb d_JT_nextToGo_55 (by decide) ?_
    exact hk7 r4.2 y0 (x2 + 1) hf H locs I ls (q_hsub hl [2, 1, 0] rfl)
  · rw [if_neg c6] at hf
    refine lv_aload_n hx hb d_JT_nextToGo_40 rfl (q_at hl 1 rfl) ?_
    refine lv_iload_n hx hb d_JT_nextToGo_41 rfl (q_at hl 0 rfl) ?_
    refine P_JT_JT_latestSlot hx hb htg hown hK hN I d_JT_nextToGo_42 (fun H locs I => ?_)
    refine lv_aload_n hx hb d_JT_nextToGo_45 rfl (q_at hl 1 rfl) ?_
    refine G_JT_JT_processes hx hb htg hown hK hN I d_JT_nextToGo_46 ?_
    refine lv_iload_n hx hb d_JT_nextToGo_49 rfl (q_at hl 0 rfl) ?_
    obtain ⟨o7, hf⟩ := q_grd_some hf
    refine A_C_procs hx hb hK I o7 d_JT_nextToGo_50 ?_
    cases hf
    exact q_aret (ad := ad) hx hb hr hlocks I d_JT_nextToGo_51
def f_JT_nextToGo_7 : Nat → q_St → Int32 → Int32 → Option (Int32 × q_St)
  | 0, _, _, _ => none
  | n + 1, σ, x1, x2 => if 8 ≤ x2 then (some (-1, σ)) else (if x1 < 7 then (f_JT_nextToGo_26 (f_JT_nextToGo_7 n) σ x2 (x1 + 1)) else (f_JT_nextToGo_26 (f_JT_nextToGo_7 n) σ x2 0))
set_option maxHeartbeats 4000000 in
set_option maxRecDepth 100000 in
theorem k_JT_nextToGo_7 {p : Program} {l : Launch} {e : Env} {s : State} {m : MethodId} {args : Array Value} {below : List Frame} {meth : Method} {c : Code} {D : va_G} {A : Nat → Prop} {ad : Nat → Nat} {cs : Nat → ClassId} (C0 : q_Cx "JobTerminal" b_JT_nextToGo 3 (some (.object "JobTerminal$JobProcess")) w_JT_nextToGo D vwCl (tyL cs) NW p s m args meth c) (hA : ∀ q, s.heap.size ≤ q → A q) (res : (Int32 × q_St)) : ∀ (n : Nat) (σ : q_St) (x1 : Int32) (x2 : Int32) , f_JT_nextToGo_7 n σ x1 x2 = some res → ∀ (H : Heap) (locs : List Loc), q_I D vwCl A s.heap (q_ws 33 ad (cC ad cs σ)) H locs → ∀ ls : Array Slot, q_has ls 3 [(0, .ref (ad 0)), (1, .int x1), (2, .int x2)] → W p l e ({ frames := 3, cells := 0, slots := 0, locals := 64 } : Room) s m args below meth c H locs 0 0 (MQ below (q_Qq D vwCl (q_rfo ad 9 res.1) (q_ws 33 ad (cC ad cs res.2)) A) args s 0 0 A) (F0 m 7 ls []) := by
  intro n
  induction n with
  | zero => intro σ x1 x2 hf; cases hf
  | succ n ih =>
    intro σ x1 x2 hf H locs I ls hl
    have ih := ih
    rw [f_JT_nextToGo_7] at hf
    have C0 := C0
    obtain ⟨hx, hb, hr, hml, hown, hts, hlocks, hK, hN⟩ := id C0
    have htg : ∀ w ∈ GW, w.before args s = true := fun w h => hts w (List.mem_cons_of_mem _ h)
    refine lv_iload_n hx hb d_JT_nextToGo_7 rfl (q_at hl 2 rfl) ?_
    refine lv_bipush (v := 8) hx hb d_JT_nextToGo_8 (by decide) ?_
    refine lv_icmp_ge (tgt := 58) hx hb d_JT_nextToGo_10 (by decide) (fun c1 => ?_) (fun c1 => ?_)
    · rw [if_pos c1] at hf
      refine q_null (ad := ad) hx hb 9 d_JT_nextToGo_58 ?_
      cases hf
      exact q_aret (ad := ad) hx hb hr hlocks I d_JT_nextToGo_59
    · rw [if_neg c1] at hf
      refine lv_iload_n hx hb d_JT_nextToGo_13 rfl (q_at hl 1 rfl) ?_
      refine lv_bipush (v := 7) hx hb d_JT_nextToGo_14 (by decide) ?_
      refine lv_icmp_lt (tgt := 23) hx hb d_JT_nextToGo_16 (by decide) (fun c2 => ?_) (fun c2 => ?_)
      · rw [if_pos c2] at hf
        refine lv_iload_n hx hb d_JT_nextToGo_23 rfl (q_at hl 1 rfl) ?_
        refine lv_iconst (v := 1) hx hb d_JT_nextToGo_24 (by decide) ?_
        refine lv_iadd hx hb d_JT_nextToGo_25 ?_
        exact k_JT_nextToGo_26 C0 hA res (K7 := f_JT_nextToGo_7 n) ih σ x2 (x1 + 1) hf H locs I ls (q_hsub hl [0, 2] rfl)
      · rw [if_neg c2] at hf
        refine lv_iconst (v := 0) hx hb d_JT_nextToGo_19 (by decide) ?_
        refine lv_goto (tgt := 26) hx hb d_JT_nextToGo_20 (by decide) ?_
        exact k_JT_nextToGo_26 C0 hA res (K7 := f_JT_nextToGo_7 n) ih σ x2 0 hf H locs I ls (q_hsub hl [0, 2] rfl)
def f_JT_nextToGo (σ : q_St) : Option (Int32 × q_St) := f_JT_nextToGo_7 200 σ (σ 21 0) 0
set_option maxHeartbeats 4000000 in
set_option maxRecDepth 100000 in
theorem c_JT_nextToGo {l : Launch} {D : va_G} {ad : Nat → Nat} {cs : Nat → ClassId} {sz : Nat} {σ : q_St} {res : (Int32 × q_St)} (hf : f_JT_nextToGo σ  = some res) : Met l y_JT_nextToGo w_JT_nextToGo ({ frames := 3, cells := 0, slots := 0, locals := 64 } : Room) (q_Pre D vwCl (tyL cs) NW [.ref (ad 0)] (q_ws 33 ad (cC ad cs σ)) sz) (q_Qq D vwCl (q_rfo ad 9 res.1) (q_ws 33 ad (cC ad cs res.2)) (va_A (q_ws 33 ad (cC ad cs σ)) sz)) 0 0 (va_A (q_ws 33 ad (cC ad cs σ)) sz) := by
  refine Met.ofW (cc := b_JT_nextToGo) (maxL := 3) (ret := (some (.object "JobTerminal$JobProcess"))) (by decide) rfl ?_
  intro p e s m args below meth c s₁ B hml hv
  obtain ⟨hargs, hsz, hP, hK, hD0, hN⟩ := hv
  have hx := B.exec
  have hb := B.bytes
  have hr := B.returns
  have hts := atoms_spec (ws := w_JT_nextToGo) B.pre
  have hown : s.vm.findClass "JobTerminal" = some m.cls := findClass_of_methodNamed B.named
  have hlocks := B.notSynchronized
  have htg : ∀ w ∈ GW, w.before args s = true := fun w h => hts w (List.mem_cons_of_mem _ h)
  subst hsz
  have hD := hD0.self (sz := s.heap.size)
  generalize hAe : va_A (q_ws 33 ad (cC ad cs σ)) s.heap.size = A at hD ⊢
  have hA : ∀ q : Nat, s.heap.size ≤ q → A q := fun q h => by rw [← hAe]; exact Or.inr h
  have I : q_I D vwCl A s.heap (q_ws 33 ad (cC ad cs σ)) s.heap [] := ⟨hP, hD, va_S.rf⟩
  obtain ⟨ls, hen, hl⟩ := q_entry (vs := [.ref (ad 0)]) (n := 3) (lv := [(0, .ref (ad 0))]) (by intro v hv; simp only [List.mem_cons, List.not_mem_nil, or_false] at hv; rcases hv with rfl <;> first | rfl | exact q_cat) (Nat.le_of_ble_eq_true rfl) rfl
  rw [show entryFrame m args 3 = F0 m 0 ls [] from by rw [hargs]; exact hen m]
  have C0 : q_Cx "JobTerminal" b_JT_nextToGo 3 (some (.object "JobTerminal$JobProcess")) w_JT_nextToGo D vwCl (tyL cs) NW p s m args meth c := ⟨hx, hb, hr, hml, hown, hts, hlocks, hK, hN⟩
  unfold f_JT_nextToGo at hf
  have hgo : ∀ (H : Heap) (locs : List Loc), q_I D vwCl A s.heap (q_ws 33 ad (cC ad cs σ)) H locs → W p l e ({ frames := 3, cells := 0, slots := 0, locals := 64 } : Room) s m args below meth c H locs 0 0 (MQ below (q_Qq D vwCl (q_rfo ad 9 res.1) (q_ws 33 ad (cC ad cs res.2)) A) args s 0 0 A) (F0 m 0 ls []) := by
    intro H locs I
    refine lv_aload_n hx hb d_JT_nextToGo_0 rfl (q_at hl 0 rfl) ?_
    refine G_JT_JT_latestSlot hx hb htg hown hK hN I d_JT_nextToGo_1 ?_
    refine q_istore_n (lv' := [(1, .int (σ 21 0)), (0, .ref (ad 0))]) hx hb d_JT_nextToGo_4 rfl hl (by decide) rfl (fun ls hl => ?_)
    refine lv_iconst (v := 0) hx hb d_JT_nextToGo_5 (by decide) ?_
    refine q_istore_n (lv' := [(2, .int 0), (1, .int (σ 21 0)), (0, .ref (ad 0))]) hx hb d_JT_nextToGo_6 rfl hl (by decide) rfl (fun ls hl => ?_)
    exact k_JT_nextToGo_7 C0 hA res 200 σ (σ 21 0) 0 hf H locs I ls (q_hsub hl [2, 1, 0] rfl)
  exact hgo _ _ I
-- JobTerminal read
def f_JT_read_96 (σ : q_St) : Option (Int32 × q_St) := some (0, σ)
set_option maxHeartbeats 4000000 in
set_option maxRecDepth 100000 in
theorem k_JT_read_96 {p : Program} {l : Launch} {e : Env} {s : State} {m : MethodId} {args : Array Value} {below : List Frame} {meth : Method} {c : Code} {D : va_G} {A : Nat → Prop} {ad : Nat → Nat} {cs : Nat → ClassId} (C0 : q_Cx "JobTerminal" b_JT_read 3 (some .boolean) w_JT_read D vwCl (tyL cs) NW p s m args meth c) (hA : ∀ q, s.heap.size ≤ q → A q) (res : (Int32 × q_St)) : ∀ (σ : q_St) , f_JT_read_96 σ  = some res → ∀ (H : Heap) (locs : List Loc), q_I D vwCl A s.heap (q_ws 33 ad (cC ad cs σ)) H locs → ∀ ls : Array Slot, q_has ls 3 [] → W p l e ({ frames := 4, cells := 0, slots := 0, locals := 85 } : Room) s m args below meth c H locs 0 0 (MQ below (q_Qi D vwCl res.1 (q_ws 33 ad (cC ad cs res.2)) A) args s 0 0 A) (F0 m 96 ls []) := by
  intro σ  hf H locs I ls hl
  unfold f_JT_read_96 at hf
  obtain ⟨hx, hb, hr, hml, hown, hts, hlocks, hK, hN⟩ := id C0
  have htg : ∀ w ∈ GW, w.before args s = true := fun w h => hts w (List.mem_cons_of_mem _ h)
  refine lv_iconst (v := 0) hx hb d_JT_read_96 (by decide) ?_
  cases hf
  exact q_zret (r0 := 0) hx hb hr hlocks (by decide) I d_JT_read_97
def f_JT_read_30 (σ : q_St) (x1 : Int32) (x2 : Int32) : Option (Int32 × q_St) := if (σ 23 0) = 0 then (q_grd (q_okn x2 4) (q_grd (q_okn (σ 20 0) 4) (if x2 = (σ 20 0) then (q_bnd (f_NumberRow_takeOldest σ 1) (fun r25 => q_grd (q_in x1 8) (q_bnd (f_JobProcess_take r25.2 x1.toNatClampNeg r25.1) (fun r28 => some (0, r28))))) else (q_grd (q_in x1 8) (q_bnd (f_JobProcess_shuns σ x1.toNatClampNeg 8) (fun r16 => if r16.1 = 0 then (if x2 < 0 then (f_JT_read_96 r16.2) else (q_grd (q_in x2 4) (q_bnd (f_Job_receive r16.2 x2.toNatClampNeg 8) (fun r21 => f_JT_read_96 r21)))) else (q_bnd (f_JobProcess_fail r16.2 x1.toNatClampNeg) (fun r23 => some (1, r23))))))))) else (q_grd (q_in x1 8) (q_bnd (f_JobProcess_take σ x1.toNatClampNeg (-1)) (fun r31 => some (0, r31))))
set_option maxHeartbeats 4000000 in
set_option maxRecDepth 100000 in
theorem k_JT_read_30 {p : Program} {l : Launch} {e : Env} {s : State} {m : MethodId} {args : Array Value} {below : List Frame} {meth : Method} {c : Code} {D : va_G} {A : Nat → Prop} {ad : Nat → Nat} {cs : Nat → ClassId} (C0 : q_Cx "JobTerminal" b_JT_read 3 (some .boolean) w_JT_read D vwCl (tyL cs) NW p s m args meth c) (hA : ∀ q, s.heap.size ≤ q → A q) (res : (Int32 × q_St)) : ∀ (σ : q_St) (x1 : Int32) (x2 : Int32) , f_JT_read_30 σ x1 x2 = some res → ∀ (H : Heap) (locs : List Loc), q_I D vwCl A s.heap (q_ws 33 ad (cC ad cs σ)) H locs → ∀ ls : Array Slot, q_has ls 3 [(0, .ref (ad 0)), (1, q_rv ad 9 x1), (2, q_rv ad 17 x2)] → W p l e ({ frames := 4, cells := 0, slots := 0, locals := 85 } : Room) s m args below meth c H locs 0 0 (MQ below (q_Qi D vwCl res.1 (q_ws 33 ad (cC ad cs res.2)) A) args s 0 0 A) (F0 m 30 ls []) := by
  intro σ x1 x2 hf H locs I ls hl
  unfold f_JT_read_30 at hf
  obtain ⟨hx, hb, hr, hml, hown, hts, hlocks, hK, hN⟩ := id C0
  have htg : ∀ w ∈ GW, w.before args s = true := fun w h => hts w (List.mem_cons_of_mem _ h)
  refine lv_aload_n hx hb d_JT_read_30 rfl (q_at hl 0 rfl) ?_
  refine G_JT_JT_terminal hx hb htg hown hK hN I d_JT_read_31 ?_
  refine G_JT_Terminal_hangs hx hb htg hown hK hN I d_JT_read_34 ?_
  refine lv_if_eq (tgt := 47) hx hb d_JT_read_37 (by decide) (fun c11 => ?_) (fun c11 => ?_)
  · rw [if_pos c11] at hf
    refine q_aload_n hx hb d_JT_read_47 rfl (q_at hl 2 rfl) ?_
    refine lv_aload_n hx hb d_JT_read_48 rfl (q_at hl 0 rfl) ?_
    refine G_JT_JT_foregroundJob hx hb htg hown hK hN I d_JT_read_49 ?_
    obtain ⟨o13, hf⟩ := q_grd_some hf
    obtain ⟨o14, hf⟩ := q_grd_some hf
    refine q_acmp_ne (b := 17) (n := 4) (tgt := 71) hx hb I.2.1 (by decide) (by decide) o13 o14 d_JT_read_52 (by decide) (fun c12 => ?_) (fun c12 => ?_)
    · rw [if_neg c12] at hf
      refine q_aload_n hx hb d_JT_read_71 rfl (q_at hl 1 rfl) ?_
      refine lv_bipush (v := 8) hx hb d_JT_read_72 (by decide) ?_
      obtain ⟨o15, hf⟩ := q_grd_some hf
      rw [q_rv_ref (q_in_pos o15)]
      obtain ⟨r16, e17, hf⟩ := q_bnd_some hf
      refine q_ki hA I (q_runV (C := "JobTerminal$JobProcess") (As := [.int 8]) (rest := []) ⟨hx, hb, hml, hown, hts⟩ (c_JobProcess_shuns (sz := H.size) (q_in_lt o15) e17) (cwV 1 hts (q_goodV mw272 mw273 mw274 mw275 mw158) rfl rfl rfl (by decide +kernel) ⟨Nat.le_of_ble_eq_true rfl, Nat.le_of_ble_eq_true rfl⟩) NW_ok hK hN I rfl (q_wsE (Nat.lt_of_lt_of_le (Nat.add_lt_add_left (q_in_lt o15) _) (by decide)) (a_C_JobProcess (q_in_lt o15))) rfl (q_sz hl) rfl (Nat.le_of_ble_eq_true rfl) d_JT_read_74 ⟨Nat.zero_le _, Nat.zero_le _⟩) (fun H locs I => ?_)
      refine lv_if_eq (tgt := 86) hx hb d_JT_read_77 (by decide) (fun c18 => ?_) (fun c18 => ?_)
      · rw [if_pos c18] at hf
        refine q_aload_n hx hb d_JT_read_86 rfl (q_at hl 2 rfl) ?_
        refine q_ifnull (tgt := 96) hx hb d_JT_read_87 (by decide) (fun c19 => ?_) (fun c19 => ?_)
        · rw [if_pos c19] at hf
          exact k_JT_read_96 C0 hA res r16.2 hf H locs I ls (q_hsub hl [] rfl)
        · rw [if_neg c19] at hf
          refine q_aload_n hx hb d_JT_read_90 rfl (q_at hl 2 rfl) ?_
          refine lv_bipush (v := 8) hx hb d_JT_read_91 (by decide) ?_
          obtain ⟨o20, hf⟩ := q_grd_some hf
          rw [q_rv_ref (q_in_pos o20)]
          obtain ⟨r21, e22, hf⟩ := q_bnd_some hf
          refine q_kv hA I (q_runV (C := "JobTerminal$Job") (As := [.int 8]) (rest := []) ⟨hx, hb, hml, hown, hts⟩ (c_Job_receive (sz := H.size) (q_in_lt o20) e22) (cwV 1 hts (q_goodV mw193 mw194 mw195 mw196 mw179) rfl rfl rfl (by decide +kernel) ⟨Nat.le_of_ble_eq_true rfl, Nat.le_of_ble_eq_true rfl⟩) NW_ok hK hN I rfl (q_wsE (Nat.lt_of_lt_of_le (Nat.add_lt_add_left (q_in_lt o20) _) (by decide)) (a_C_Job (q_in_lt o20))) rfl (q_sz hl) rfl (Nat.le_of_ble_eq_true rfl) d_JT_read_93 ⟨Nat.zero_le _, Nat.zero_le _⟩) (fun H locs I => ?_)
          exact k_JT_read_96 C0 hA res r21 hf H locs I ls (q_hsub hl [] rfl)
      · rw [if_neg c18] at hf
        refine q_aload_n hx hb d_JT_read_80 rfl (q_at hl 1 rfl) ?_
        rw [q_rv_ref (q_in_pos o15)]
        obtain ⟨r23, e24, hf⟩ := q_bnd_some hf
        refine q_kv hA I (q_runV (C := "JobTerminal$JobProcess") (As := []) (rest := []) ⟨hx, hb, hml, hown, hts⟩ (c_JobProcess_fail (sz := H.size) (q_in_lt o15) e24) (cwV 0 hts (q_goodV mw276 mw277 mw278 mw279 mw158) rfl rfl rfl (by decide +kernel) ⟨Nat.le_of_ble_eq_true rfl, Nat.le_of_ble_eq_true rfl⟩) NW_ok hK hN I rfl (q_wsE (Nat.lt_of_lt_of_le (Nat.add_lt_add_left (q_in_lt o15) _) (by decide)) (a_C_JobProcess (q_in_lt o15))) rfl (q_sz hl) rfl (Nat.le_of_ble_eq_true rfl) d_JT_read_81 ⟨Nat.zero_le _, Nat.zero_le _⟩) (fun H locs I => ?_)
        refine lv_iconst (v := 1) hx hb d_JT_read_84 (by decide) ?_
        cases hf
        exact q_zret (r0 := 1) hx hb hr hlocks (by decide) I d_JT_read_85
    · rw [if_pos c12] at hf
      refine q_aload_n hx hb d_JT_read_55 rfl (q_at hl 1 rfl) ?_
      refine lv_aload_n hx hb d_JT_read_56 rfl (q_at hl 0 rfl) ?_
      refine G_JT_JT_terminal hx hb htg hown hK hN I d_JT_read_57 ?_
      refine G_JT_Terminal_queue hx hb htg hown hK hN I d_JT_read_60 ?_
      obtain ⟨r25, e26, hf⟩ := q_bnd_some hf
      refine q_ki hA I (q_runV (C := "JobTerminal$NumberRow") (As := []) (rest := [q_rv ad 9 x1]) ⟨hx, hb, hml, hown, hts⟩ (c_NumberRow_takeOldest (sz := H.size) (show (1 : Nat) < 6 by skip; omega) e26) (cwV 0 hts (q_goodV mw126 mw267 mw128 mw129 mw88) rfl rfl rfl (by decide +kernel) ⟨Nat.le_of_ble_eq_true rfl, Nat.le_of_ble_eq_true rfl⟩) NW_ok hK hN I rfl (q_wsE (Nat.lt_of_lt_of_le (Nat.add_lt_add_left (show (1 : Nat) < 6 by skip; omega) _) (by decide)) (a_C_NumberRow (show (1 : Nat) < 6 by skip; omega))) rfl (q_sz hl) rfl (q_sum (by intro v hv; simp only [List.mem_cons, List.not_mem_nil, or_false] at hv; rcases hv with rfl <;> first | rfl | exact q_cat) (Nat.le_of_ble_eq_true rfl)) d_JT_read_63 ⟨Nat.zero_le _, Nat.zero_le _⟩) (fun H locs I => ?_)
      obtain ⟨o27, hf⟩ := q_grd_some hf
      rw [q_rv_ref (q_in_pos o27)]
      obtain ⟨r28, e29, hf⟩ := q_bnd_some hf
      refine q_kv hA I (q_runV (C := "JobTerminal$JobProcess") (As := [.int r25.1]) (rest := []) ⟨hx, hb, hml, hown, hts⟩ (c_JobProcess_take (sz := H.size) (q_in_lt o27) e29) (cwV 1 hts (q_goodV mw268 mw269 mw270 mw271 mw158) rfl rfl rfl (by decide +kernel) ⟨Nat.le_of_ble_eq_true rfl, Nat.le_of_ble_eq_true rfl⟩) NW_ok hK hN I rfl (q_wsE (Nat.lt_of_lt_of_le (Nat.add_lt_add_left (q_in_lt o27) _) (by decide)) (a_C_JobProcess (q_in_lt o27))) rfl (q_sz hl) rfl (Nat.le_of_ble_eq_true rfl) d_JT_read_66 ⟨Nat.zero_le _, Nat.zero_le _⟩) (fun H locs I => ?_)
      refine lv_iconst (v := 0) hx hb d_JT_read_69 (by decide) ?_
      cases hf
      exact q_zret (r0 := 0) hx hb hr hlocks (by decide) I d_JT_read_70
  · rw [if_neg c11] at hf
    refine q_aload_n hx hb d_JT_read_40 rfl (q_at hl 1 rfl) ?_
    refine lv_iconst (v := -1) hx hb d_JT_read_41 (by decide) ?_
    obtain ⟨o30, hf⟩ := q_grd_some hf
    rw [q_rv_ref (q_in_pos o30)]
    obtain ⟨r31, e32, hf⟩ := q_bnd_some hf
    refine q_kv hA I (q_runV (C := "JobTerminal$JobProcess") (As := [.int (-1)]) (rest := []) ⟨hx, hb, hml, hown, hts⟩ (c_JobProcess_take (sz := H.size) (q_in_lt o30) e32) (cwV 1 hts (q_goodV mw268 mw269 mw270 mw271 mw158) rfl rfl rfl (by decide +kernel) ⟨Nat.le_of_ble_eq_true rfl, Nat.le_of_ble_eq_true rfl⟩) NW_ok hK hN I rfl (q_wsE (Nat.lt_of_lt_of_le (Nat.add_lt_add_left (q_in_lt o30) _) (by decide)) (a_C_JobProcess (q_in_lt o30))) rfl (q_sz hl) rfl (Nat.le_of_ble_eq_true rfl) d_JT_read_42 ⟨Nat.zero_le _, Nat.zero_le _⟩) (fun H locs I => ?_)
    refine lv_iconst (v := 0) hx hb d_JT_read_45 (by decide) ?_
    cases hf
    exact q_zret (r0 := 0) hx hb hr hlocks (by decide) I d_JT_read_46
def f_JT_read (σ : q_St) (p1 : Int32) : Option (Int32 × q_St) := q_grd (q_in p1 8) (if (σ 32 p1.toNatClampNeg) < 0 then (f_JT_read_30 σ p1 (σ 32 p1.toNatClampNeg)) else (q_grd (q_in (σ 32 p1.toNatClampNeg) 4) (q_bnd (f_Job_readsFromPipe σ ((σ 32 p1.toNatClampNeg).toNatClampNeg) p1) (fun r4 => if r4.1 = 0 then (f_JT_read_30 r4.2 p1 (σ 32 p1.toNatClampNeg)) else (q_bnd (f_NumberRow_takeOldest r4.2 (2 + ((σ 32 p1.toNatClampNeg).toNatClampNeg))) (fun r7 => q_bnd (f_JobProcess_take r7.2 p1.toNatClampNeg r7.1) (fun r9 => some (0, r9))))))))
set_option maxHeartbeats 4000000 in
set_option maxRecDepth 100000 in
theorem c_JT_read {l : Launch} {D : va_G} {ad : Nat → Nat} {cs : Nat → ClassId} {sz : Nat} {σ : q_St} {p1 : Int32} {res : (Int32 × q_St)} (hf : f_JT_read σ p1 = some res) : Met l y_JT_read w_JT_read ({ frames := 4, cells := 0, slots := 0, locals := 85 } : Room) (q_Pre D vwCl (tyL cs) NW [.ref (ad 0), q_rv ad 9 p1] (q_ws 33 ad (cC ad cs σ)) sz) (q_Qi D vwCl res.1 (q_ws 33 ad (cC ad cs res.2)) (va_A (q_ws 33 ad (cC ad cs σ)) sz)) 0 0 (va_A (q_ws 33 ad (cC ad cs σ)) sz) := by
  refine Met.ofW (cc := b_JT_read) (maxL := 3) (ret := (some .boolean)) (by decide) rfl ?_
  intro p e s m args below meth c s₁ B hml hv
  obtain ⟨hargs, hsz, hP, hK, hD0, hN⟩ := hv
  have hx := B.exec
  have hb := B.bytes
  have hr := B.returns
  have hts := atoms_spec (ws := w_JT_read) B.pre
  have hown : s.vm.findClass "JobTerminal" = some m.cls := findClass_of_methodNamed B.named
  have hlocks := B.notSynchronized
  have htg : ∀ w ∈ GW, w.before args s = true := fun w h => hts w (List.mem_cons_of_mem _ h)
  subst hsz
  have hD := hD0.self (sz := s.heap.size)
  generalize hAe : va_A (q_ws 33 ad (cC ad cs σ)) s.heap.size = A at hD ⊢
  have hA : ∀ q : Nat, s.heap.size ≤ q → A q := fun q h => by rw [← hAe]; exact Or.inr h
  have I : q_I D vwCl A s.heap (q_ws 33 ad (cC ad cs σ)) s.heap [] := ⟨hP, hD, va_S.rf⟩
  obtain ⟨ls, hen, hl⟩ := q_entry (vs := [.ref (ad 0), q_rv ad 9 p1]) (n := 3) (lv := [(0, .ref (ad 0)), (1, q_rv ad 9 p1)]) (by intro v hv; simp only [List.mem_cons, List.not_mem_nil, or_false] at hv; rcases hv with rfl | rfl <;> first | rfl | exact q_cat) (Nat.le_of_ble_eq_true rfl) rfl
  rw [show entryFrame m args 3 = F0 m 0 ls [] from by rw [hargs]; exact hen m]
  have C0 : q_Cx "JobTerminal" b_JT_read 3 (some .boolean) w_JT_read D vwCl (tyL cs) NW p s m args meth c := ⟨hx, hb, hr, hml, hown, hts, hlocks, hK, hN⟩
  unfold f_JT_read at hf
  have hgo : ∀ (H : Heap) (locs : List Loc), q_I D vwCl A s.heap (q_ws 33 ad (cC ad cs σ)) H locs → W p l e ({ frames := 4, cells := 0, slots := 0, locals := 85 } : Room) s m args below meth c H locs 0 0 (MQ below (q_Qi D vwCl res.1 (q_ws 33 ad (cC ad cs res.2)) A) args s 0 0 A) (F0 m 0 ls []) := by
    intro H locs I
    refine q_aload_n hx hb d_JT_read_0 rfl (q_at hl 1 rfl) ?_
    obtain ⟨o1, hf⟩ := q_grd_some hf
    rw [q_rv_ref (q_in_pos o1)]
    refine G_JT_JobProcess_owner hx hb htg hown hK hN I (q_in_lt o1) d_JT_read_1 ?_
    refine q_astoreV_n (lv' := [(2, q_rv ad 17 (σ 32 p1.toNatClampNeg)), (0, .ref (ad 0)), (1, q_rv ad 9 p1)]) hx hb d_JT_read_4 rfl hl (by decide) rfl (fun ls hl => ?_)
    refine q_aload_n hx hb d_JT_read_5 rfl (q_at hl 0 rfl) ?_
    refine q_ifnull (tgt := 30) hx hb d_JT_read_6 (by decide) (fun c2 => ?_) (fun c2 => ?_)
    · rw [if_pos c2] at hf
      exact k_JT_read_30 C0 hA res σ p1 (σ 32 p1.toNatClampNeg) hf H locs I ls (q_hsub hl [1, 2, 0] rfl)
    · rw [if_neg c2] at hf
      refine q_aload_n hx hb d_JT_read_9 rfl (q_at hl 0 rfl) ?_
      refine q_aload_n hx hb d_JT_read_10 rfl (q_at hl 2 rfl) ?_
      obtain ⟨o3, hf⟩ := q_grd_some hf
      rw [q_rv_ref (q_in_pos o3)]
      obtain ⟨r4, e5, hf⟩ := q_bnd_some hf
      refine q_ki hA I (q_runV (C := "JobTerminal$Job") (As := [q_rv ad 9 p1]) (rest := []) ⟨hx, hb, hml, hown, hts⟩ (c_Job_readsFromPipe (sz := H.size) (q_in_lt o3) e5) (cwV 1 hts (q_goodV mw234 mw235 mw236 mw237 mw179) rfl rfl rfl (by decide +kernel) ⟨Nat.le_of_ble_eq_true rfl, Nat.le_of_ble_eq_true rfl⟩) NW_ok hK hN I rfl (q_wsE (Nat.lt_of_lt_of_le (Nat.add_lt_add_left (q_in_lt o3) _) (by decide)) (a_C_Job (q_in_lt o3))) rfl (q_sz hl) rfl (Nat.le_of_ble_eq_true rfl) d_JT_read_11 ⟨Nat.zero_le _, Nat.zero_le _⟩) (fun H locs I => ?_)
      refine lv_if_eq (tgt := 30) hx hb d_JT_read_14 (by decide) (fun c6 => ?_) (fun c6 => ?_)
      · rw [if_pos c6] at hf
        exact k_JT_read_30 C0 hA res r4.2 p1 (σ 32 p1.toNatClampNeg) hf H locs I ls (q_hsub hl [1, 2, 0] rfl)
      · rw [if_neg c6] at hf
        refine q_aload_n hx hb d_JT_read_17 rfl (q_at hl 2 rfl) ?_
        refine q_aload_n hx hb d_JT_read_18 rfl (q_at hl 0 rfl) ?_
        rw [q_rv_ref (q_in_pos o3)]
        refine G_JT_Job_pipe hx hb htg hown hK hN I (q_in_lt o3) d_JT_read_19 ?_
        obtain ⟨r7, e8, hf⟩ := q_bnd_some hf
        refine q_ki hA I (q_runV (C := "JobTerminal$NumberRow") (As := []) (rest := [q_rv ad 9 p1]) ⟨hx, hb, hml, hown, hts⟩ (c_NumberRow_takeOldest (sz := H.size) (show (2 + ((σ 32 p1.toNatClampNeg).toNatClampNeg)) < 6 by have := q_in_lt o1; have := q_in_lt o3; omega) e8) (cwV 0 hts (q_goodV mw126 mw267 mw128 mw129 mw88) rfl rfl rfl (by decide +kernel) ⟨Nat.le_of_ble_eq_true rfl, Nat.le_of_ble_eq_true rfl⟩) NW_ok hK hN I rfl (q_wsE (Nat.lt_of_lt_of_le (Nat.add_lt_add_left (show (2 + ((σ 32 p1.toNatClampNeg).toNatClampNeg)) < 6 by have := q_in_lt o1; have := q_in_lt o3; omega) _) (by decide)) (a_C_NumberRow (show (2 + ((σ 32 p1.toNatClampNeg).toNatClampNeg)) < 6 by have := q_in_lt o1; have := q_in_lt o3; omega))) rfl (q_sz hl) rfl (q_sum (by intro v hv; simp only [List.mem_cons, List.not_mem_nil, or_false] at hv; rcases hv with rfl <;> first | rfl | exact q_cat) (Nat.le_of_ble_eq_true rfl)) d_JT_read_22 ⟨Nat.zero_le _, Nat.zero_le _⟩) (fun H locs I => ?_)
        rw [q_rv_ref (q_in_pos o1)]
        obtain ⟨r9, e10, hf⟩ := q_bnd_some hf
        refine q_kv hA I (q_runV (C := "JobTerminal$JobProcess") (As := [.int r7.1]) (rest := []) ⟨hx, hb, hml, hown, hts⟩ (c_JobProcess_take (sz := H.size) (q_in_lt o1) e10) (cwV 1 hts (q_goodV mw268 mw269 mw270 mw271 mw158) rfl rfl rfl (by decide +kernel) ⟨Nat.le_of_ble_eq_true rfl, Nat.le_of_ble_eq_true rfl⟩) NW_ok hK hN I rfl (q_wsE (Nat.lt_of_lt_of_le (Nat.add_lt_add_left (q_in_lt o1) _) (by decide)) (a_C_JobProcess (q_in_lt o1))) rfl (q_sz hl) rfl (Nat.le_of_ble_eq_true rfl) d_JT_read_25 ⟨Nat.zero_le _, Nat.zero_le _⟩) (fun H locs I => ?_)
        refine lv_iconst (v := 0) hx hb d_JT_read_28 (by decide) ?_
        cases hf
        exact q_zret (r0 := 0) hx hb hr hlocks (by decide) I d_JT_read_29
  exact hgo _ _ I
-- JobTerminal writeToPipe
def f_JT_writeToPipe (σ : q_St) (p0 : Int32) (p1 : Int32) (p2 : Int32) : Option (Int32 × q_St) := q_grd (q_in p0 4) (q_bnd (f_Job_secondHasEnded σ p0.toNatClampNeg) (fun r2 => if r2.1 = 0 then (q_bnd (f_NumberRow_putLast r2.2 (2 + p0.toNatClampNeg) p2) (fun r5 => q_grd (q_in p1 8) (some (0, q_up r5 35 p1.toNatClampNeg ((r5 35 p1.toNatClampNeg) + 1))))) else (q_grd (q_in p1 8) (q_bnd (f_JobProcess_fail r2.2 p1.toNatClampNeg) (fun r9 => some (1, r9))))))
set_option maxHeartbeats 4000000 in
set_option maxRecDepth 100000 in
theorem c_JT_writeToPipe {l : Launch} {D : va_G} {ad : Nat → Nat} {cs : Nat → ClassId} {sz : Nat} {σ : q_St} {p0 : Int32} {p1 : Int32} {p2 : Int32} {res : (Int32 × q_St)} (hf : f_JT_writeToPipe σ p0 p1 p2 = some res) : Met l y_JT_writeToPipe w_JT_writeToPipe ({ frames := 2, cells := 0, slots := 0, locals := 44 } : Room) (q_Pre D vwCl (tyL cs) NW [q_rv ad 17 p0, q_rv ad 9 p1, .int p2] (q_ws 33 ad (cC ad cs σ)) sz) (q_Qi D vwCl res.1 (q_ws 33 ad (cC ad cs res.2)) (va_A (q_ws 33 ad (cC ad cs σ)) sz)) 0 0 (va_A (q_ws 33 ad (cC ad cs σ)) sz) := by
  refine Met.ofW (cc := b_JT_writeToPipe) (maxL := 3) (ret := (some .boolean)) (by decide) rfl ?_
  intro p e s m args below meth c s₁ B hml hv
  obtain ⟨hargs, hsz, hP, hK, hD0, hN⟩ := hv
  have hx := B.exec
  have hb := B.bytes
  have hr := B.returns
  have hts := atoms_spec (ws := w_JT_writeToPipe) B.pre
  have hown : s.vm.findClass "JobTerminal" = some m.cls := findClass_of_methodNamed B.named
  have hlocks := B.notSynchronized
  have htg : ∀ w ∈ GW, w.before args s = true := fun w h => hts w (List.mem_cons_of_mem _ h)
  subst hsz
  have hD := hD0.self (sz := s.heap.size)
  generalize hAe : va_A (q_ws 33 ad (cC ad cs σ)) s.heap.size = A at hD ⊢
  have hA : ∀ q : Nat, s.heap.size ≤ q → A q := fun q h => by rw [← hAe]; exact Or.inr h
  have I : q_I D vwCl A s.heap (q_ws 33 ad (cC ad cs σ)) s.heap [] := ⟨hP, hD, va_S.rf⟩
  obtain ⟨ls, hen, hl⟩ := q_entry (vs := [q_rv ad 17 p0, q_rv ad 9 p1, .int p2]) (n := 3) (lv := [(0, q_rv ad 17 p0), (1, q_rv ad 9 p1), (2, .int p2)]) (by intro v hv; simp only [List.mem_cons, List.not_mem_nil, or_false] at hv; rcases hv with rfl | rfl | rfl <;> first | rfl | exact q_cat) (Nat.le_of_ble_eq_true rfl) rfl
  rw [show entryFrame m args 3 = F0 m 0 ls [] from by rw [hargs]; exact hen m]
  have C0 : q_Cx "JobTerminal" b_JT_writeToPipe 3 (some .boolean) w_JT_writeToPipe D vwCl (tyL cs) NW p s m args meth c := ⟨hx, hb, hr, hml, hown, hts, hlocks, hK, hN⟩
  unfold f_JT_writeToPipe at hf
  have hgo : ∀ (H : Heap) (locs : List Loc), q_I D vwCl A s.heap (q_ws 33 ad (cC ad cs σ)) H locs → W p l e ({ frames := 2, cells := 0, slots := 0, locals := 44 } : Room) s m args below meth c H locs 0 0 (MQ below (q_Qi D vwCl res.1 (q_ws 33 ad (cC ad cs res.2)) A) args s 0 0 A) (F0 m 0 ls []) := by
    intro H locs I
    refine q_aload_n hx hb d_JT_writeToPipe_0 rfl (q_at hl 0 rfl) ?_
    obtain ⟨o1, hf⟩ := q_grd_some hf
    rw [q_rv_ref (q_in_pos o1)]
    obtain ⟨r2, e3, hf⟩ := q_bnd_some hf
    refine q_ki hA I (q_runV (C := "JobTerminal$Job") (As := []) (rest := []) ⟨hx, hb, hml, hown, hts⟩ (c_Job_secondHasEnded (sz := H.size) (q_in_lt o1) e3) (cwV 0 hts (q_goodV mw246 mw247 mw248 mw249 mw179) rfl rfl rfl (by decide +kernel) ⟨Nat.le_of_ble_eq_true rfl, Nat.le_of_ble_eq_true rfl⟩) NW_ok hK hN I rfl (q_wsE (Nat.lt_of_lt_of_le (Nat.add_lt_add_left (q_in_lt o1) _) (by decide)) (a_C_Job (q_in_lt o1))) rfl (q_sz hl) rfl (Nat.le_of_ble_eq_true rfl) d_JT_writeToPipe_1 ⟨Nat.zero_le _, Nat.zero_le _⟩) (fun H locs I => ?_)
    refine lv_if_eq (tgt := 13) hx hb d_JT_writeToPipe_4 (by decide) (fun c4 => ?_) (fun c4 => ?_)
    · rw [if_pos c4] at hf
      refine q_aload_n hx hb d_JT_writeToPipe_13 rfl (q_at hl 0 rfl) ?_
      rw [q_rv_ref (q_in_pos o1)]
      refine G_JT_Job_pipe hx hb htg hown hK hN I (q_in_lt o1) d_JT_writeToPipe_14 ?_
      refine lv_iload_n hx hb d_JT_writeToPipe_17 rfl (q_at hl 2 rfl) ?_
      obtain ⟨r5, e6, hf⟩ := q_bnd_some hf
      refine q_kv hA I (q_runV (C := "JobTerminal$NumberRow") (As := [.int p2]) (rest := []) ⟨hx, hb, hml, hown, hts⟩ (c_NumberRow_putLast (sz := H.size) (show (2 + p0.toNatClampNeg) < 6 by have := q_in_lt o1; omega) e6) (cwV 1 hts (q_goodV mw106 mw280 mw108 mw109 mw88) rfl rfl rfl (by decide +kernel) ⟨Nat.le_of_ble_eq_true rfl, Nat.le_of_ble_eq_true rfl⟩) NW_ok hK hN I rfl (q_wsE (Nat.lt_of_lt_of_le (Nat.add_lt_add_left (show (2 + p0.toNatClampNeg) < 6 by have := q_in_lt o1; omega) _) (by decide)) (a_C_NumberRow (show (2 + p0.toNatClampNeg) < 6 by have := q_in_lt o1; omega))) rfl (q_sz hl) rfl (Nat.le_of_ble_eq_true rfl) d_JT_writeToPipe_18 ⟨Nat.zero_le _, Nat.zero_le _⟩) (fun H locs I => ?_)
      refine q_aload_n hx hb d_JT_writeToPipe_21 rfl (q_at hl 1 rfl) ?_
      refine lv_dup hx hb d_JT_writeToPipe_22 q_cat ?_
      obtain ⟨o7, hf⟩ := q_grd_some hf
      rw [q_rv_ref (q_in_pos o7)]
      refine G_JT_JobProcess_line hx hb htg hown hK hN I (q_in_lt o7) d_JT_writeToPipe_23 ?_
      rw [← q_rv_ref (ad := ad) (b := 9) (q_in_pos o7)]
      refine lv_iconst (v := 1) hx hb d_JT_writeToPipe_26 (by decide) ?_
      refine lv_iadd hx hb d_JT_writeToPipe_27 ?_
      rw [q_rv_ref (q_in_pos o7)]
      refine P_JT_JobProcess_line hx hb htg hown hK hN I (q_in_lt o7) d_JT_writeToPipe_28 (fun H locs I => ?_)
      refine lv_iconst (v := 0) hx hb d_JT_writeToPipe_31 (by decide) ?_
      cases hf
      exact q_zret (r0 := 0) hx hb hr hlocks (by decide) I d_JT_writeToPipe_32
    · rw [if_neg c4] at hf
      refine q_aload_n hx hb d_JT_writeToPipe_7 rfl (q_at hl 1 rfl) ?_
      obtain ⟨o8, hf⟩ := q_grd_some hf
      rw [q_rv_ref (q_in_pos o8)]
      obtain ⟨r9, e10, hf⟩ := q_bnd_some hf
      refine q_kv hA I (q_runV (C := "JobTerminal$JobProcess") (As := []) (rest := []) ⟨hx, hb, hml, hown, hts⟩ (c_JobProcess_fail (sz := H.size) (q_in_lt o8) e10) (cwV 0 hts (q_goodV mw276 mw277 mw278 mw279 mw158) rfl rfl rfl (by decide +kernel) ⟨Nat.le_of_ble_eq_true rfl, Nat.le_of_ble_eq_true rfl⟩) NW_ok hK hN I rfl (q_wsE (Nat.lt_of_lt_of_le (Nat.add_lt_add_left (q_in_lt o8) _) (by decide)) (a_C_JobProcess (q_in_lt o8))) rfl (q_sz hl) rfl (Nat.le_of_ble_eq_true rfl) d_JT_writeToPipe_8 ⟨Nat.zero_le _, Nat.zero_le _⟩) (fun H locs I => ?_)
      refine lv_iconst (v := 1) hx hb d_JT_writeToPipe_11 (by decide) ?_
      cases hf
      exact q_zret (r0 := 1) hx hb hr hlocks (by decide) I d_JT_writeToPipe_12
  exact hgo _ _ I
-- JobTerminal write
def f_JT_write_81 (σ : q_St) (x1 : Int32) (x2 : Int32) : Option (Int32 × q_St) := q_bnd (f_Terminal_show σ x2) (fun r28 => q_grd (q_in x1 8) (some (0, q_up r28 35 x1.toNatClampNeg ((r28 35 x1.toNatClampNeg) + 1))))
set_option maxHeartbeats 4000000 in
set_option maxRecDepth 100000 in
theorem k_JT_write_81 {p : Program} {l : Launch} {e : Env} {s : State} {m : MethodId} {args : Array Value} {below : List Frame} {meth : Method} {c : Code} {D : va_G} {A : Nat → Prop} {ad : Nat → Nat} {cs : Nat → ClassId} (C0 : q_Cx "JobTerminal" b_JT_write 4 (some .boolean) w_JT_write D vwCl (tyL cs) NW p s m args meth c) (hA : ∀ q, s.heap.size ≤ q → A q) (res : (Int32 × q_St)) : ∀ (σ : q_St) (x1 : Int32) (x2 : Int32) , f_JT_write_81 σ x1 x2 = some res → ∀ (H : Heap) (locs : List Loc), q_I D vwCl A s.heap (q_ws 33 ad (cC ad cs σ)) H locs → ∀ ls : Array Slot, q_has ls 4 [(0, .ref (ad 0)), (1, q_rv ad 9 x1), (2, .int x2)] → W p l e ({ frames := 4, cells := 0, slots := 0, locals := 85 } : Room) s m args below meth c H locs 0 0 (MQ below (q_Qi D vwCl res.1 (q_ws 33 ad (cC ad cs res.2)) A) args s 0 0 A) (F0 m 81 ls []) := by
  intro σ x1 x2 hf H locs I ls hl
  unfold f_JT_write_81 at hf
  obtain ⟨hx, hb, hr, hml, hown, hts, hlocks, hK, hN⟩ := id C0
  have htg : ∀ w ∈ GW, w.before args s = true := fun w h => hts w (List.mem_cons_of_mem _ h)
  refine lv_aload_n hx hb d_JT_write_81 rfl (q_at hl 0 rfl) ?_
  refine G_JT_JT_terminal hx hb htg hown hK hN I d_JT_write_82 ?_
  refine lv_iload_n hx hb d_JT_write_85 rfl (q_at hl 2 rfl) ?_
  obtain ⟨r28, e29, hf⟩ := q_bnd_some hf
  refine q_kv hA I (q_runV (C := "JobTerminal$Terminal") (As := [.int x2]) (rest := []) ⟨hx, hb, hml, hown, hts⟩ (c_Terminal_show (sz := H.size) e29) (cwV 1 hts (q_goodV mw98 mw285 mw100 mw101 mw83) rfl rfl rfl (by decide +kernel) ⟨Nat.le_of_ble_eq_true rfl, Nat.le_of_ble_eq_true rfl⟩) NW_ok hK hN I rfl (q_wsE (by decide) (a_C_Terminal)) rfl (q_sz hl) rfl (Nat.le_of_ble_eq_true rfl) d_JT_write_86 ⟨Nat.zero_le _, Nat.zero_le _⟩) (fun H locs I => ?_)
  refine q_aload_n hx hb d_JT_write_89 rfl (q_at hl 1 rfl) ?_
  refine lv_dup hx hb d_JT_write_90 q_cat ?_
  obtain ⟨o30, hf⟩ := q_grd_some hf
  rw [q_rv_ref (q_in_pos o30)]
  refine G_JT_JobProcess_line hx hb htg hown hK hN I (q_in_lt o30) d_JT_write_91 ?_
  rw [← q_rv_ref (ad := ad) (b := 9) (q_in_pos o30)]
  refine lv_iconst (v := 1) hx hb d_JT_write_94 (by decide) ?_
  refine lv_iadd hx hb d_JT_write_95 ?_
  rw [q_rv_ref (q_in_pos o30)]
  refine P_JT_JobProcess_line hx hb htg hown hK hN I (q_in_lt o30) d_JT_write_96 (fun H locs I => ?_)
  refine lv_iconst (v := 0) hx hb d_JT_write_99 (by decide) ?_
  cases hf
  exact q_zret (r0 := 0) hx hb hr hlocks (by decide) I d_JT_write_100
def f_JT_write_24 (σ : q_St) (x1 : Int32) (x2 : Int32) (x3 : Int32) : Option (Int32 × q_St) := if (σ 23 0) = 0 then (if x3 < 0 then (f_JT_write_81 σ x1 x2) else (q_grd (q_okn x3 4) (q_grd (q_okn (σ 20 0) 4) (if x3 = (σ 20 0) then (f_JT_write_81 σ x1 x2) else (q_bnd (f_Terminal_has σ 16) (fun r15 => if r15.1 = 0 then (f_JT_write_81 r15.2 x1 x2) else (q_grd (q_in x1 8) (q_bnd (f_JobProcess_shuns r15.2 x1.toNatClampNeg 9) (fun r19 => if r19.1 = 0 then (q_grd (q_in x3 4) (q_bnd (f_Job_receive r19.2 x3.toNatClampNeg 9) (fun r23 => some (0, r23)))) else (f_JT_write_81 r19.2 x1 x2)))))))))) else (q_grd (q_in x1 8) (q_bnd (f_JobProcess_fail σ x1.toNatClampNeg) (fun r26 => some (1, r26))))
set_option maxHeartbeats 4000000 in
set_option maxRecDepth 100000 in
theorem k_JT_write_24 {p : Program} {l : Launch} {e : Env} {s : State} {m : MethodId} {args : Array Value} {below : List Frame} {meth : Method} {c : Code} {D : va_G} {A : Nat → Prop} {ad : Nat → Nat} {cs : Nat → ClassId} (C0 : q_Cx "JobTerminal" b_JT_write 4 (some .boolean) w_JT_write D vwCl (tyL cs) NW p s m args meth c) (hA : ∀ q, s.heap.size ≤ q → A q) (res : (Int32 × q_St)) : ∀ (σ : q_St) (x1 : Int32) (x2 : Int32) (x3 : Int32) , f_JT_write_24 σ x1 x2 x3 = some res → ∀ (H : Heap) (locs : List Loc), q_I D vwCl A s.heap (q_ws 33 ad (cC ad cs σ)) H locs → ∀ ls : Array Slot, q_has ls 4 [(0, .ref (ad 0)), (1, q_rv ad 9 x1), (2, .int x2), (3, q_rv ad 17 x3)] → W p l e ({ frames := 4, cells := 0, slots := 0, locals := 85 } : Room) s m args below meth c H locs 0 0 (MQ below (q_Qi D vwCl res.1 (q_ws 33 ad (cC ad cs res.2)) A) args s 0 0 A) (F0 m 24 ls []) := by
  intro σ x1 x2 x3 hf H locs I ls hl
  unfold f_JT_write_24 at hf
  obtain ⟨hx, hb, hr, hml, hown, hts, hlocks, hK, hN⟩ := id C0
  have htg : ∀ w ∈ GW, w.before args s = true := fun w h => hts w (List.mem_cons_of_mem _ h)
  refine lv_aload_n hx hb d_JT_write_24 rfl (q_at hl 0 rfl) ?_
  refine G_JT_JT_terminal hx hb htg hown hK hN I d_JT_write_25 ?_
  refine G_JT_Terminal_hangs hx hb htg hown hK hN I d_JT_write_28 ?_
  refine lv_if_eq (tgt := 40) hx hb d_JT_write_31 (by decide) (fun c10 => ?_) (fun c10 => ?_)
  · rw [if_pos c10] at hf
    refine q_aload_n hx hb d_JT_write_40 rfl (q_at hl 3 rfl) ?_
    refine q_ifnull (tgt := 81) hx hb d_JT_write_41 (by decide) (fun c11 => ?_) (fun c11 => ?_)
    · rw [if_pos c11] at hf
      exact k_JT_write_81 C0 hA res σ x1 x2 hf H locs I ls (q_hsub hl [0, 1, 2] rfl)
    · rw [if_neg c11] at hf
      refine q_aload_n hx hb d_JT_write_44 rfl (q_at hl 3 rfl) ?_
      refine lv_aload_n hx hb d_JT_write_45 rfl (q_at hl 0 rfl) ?_
      refine G_JT_JT_foregroundJob hx hb htg hown hK hN I d_JT_write_46 ?_
      obtain ⟨o13, hf⟩ := q_grd_some hf
      obtain ⟨o14, hf⟩ := q_grd_some hf
      refine q_acmp_eq (b := 17) (n := 4) (tgt := 81) hx hb I.2.1 (by decide) (by decide) o13 o14 d_JT_write_49 (by decide) (fun c12 => ?_) (fun c12 => ?_)
      · rw [if_pos c12] at hf
        exact k_JT_write_81 C0 hA res σ x1 x2 hf H locs I ls (q_hsub hl [0, 1, 2] rfl)
      · rw [if_neg c12] at hf
        refine lv_aload_n hx hb d_JT_write_52 rfl (q_at hl 0 rfl) ?_
        refine G_JT_JT_terminal hx hb htg hown hK hN I d_JT_write_53 ?_
        refine lv_bipush (v := 16) hx hb d_JT_write_56 (by decide) ?_
        obtain ⟨r15, e16, hf⟩ := q_bnd_some hf
        refine q_ki hA I (q_runV (C := "JobTerminal$Terminal") (As := [.int 16]) (rest := []) ⟨hx, hb, hml, hown, hts⟩ (c_Terminal_has (sz := H.size) e16) (cwV 1 hts (q_goodV mw79 mw284 mw81 mw82 mw83) rfl rfl rfl (by decide +kernel) ⟨Nat.le_of_ble_eq_true rfl, Nat.le_of_ble_eq_true rfl⟩) NW_ok hK hN I rfl (q_wsE (by decide) (a_C_Terminal)) rfl (q_sz hl) rfl (Nat.le_of_ble_eq_true rfl) d_JT_write_58 ⟨Nat.zero_le _, Nat.zero_le _⟩) (fun H locs I => ?_)
        refine lv_if_eq (tgt := 81) hx hb d_JT_write_61 (by decide) (fun c17 => ?_) (fun c17 => ?_)
        · rw [if_pos c17] at hf
          exact k_JT_write_81 C0 hA res r15.2 x1 x2 hf H locs I ls (q_hsub hl [0, 1, 2] rfl)
        · rw [if_neg c17] at hf
          refine q_aload_n hx hb d_JT_write_64 rfl (q_at hl 1 rfl) ?_
          refine lv_bipush (v := 9) hx hb d_JT_write_65 (by decide) ?_
          obtain ⟨o18, hf⟩ := q_grd_some hf
          rw [q_rv_ref (q_in_pos o18)]
          obtain ⟨r19, e20, hf⟩ := q_bnd_some hf
          refine q_ki hA I (q_runV (C := "JobTerminal$JobProcess") (As := [.int 9]) (rest := []) ⟨hx, hb, hml, hown, hts⟩ (c_JobProcess_shuns (sz := H.size) (q_in_lt o18) e20) (cwV 1 hts (q_goodV mw272 mw273 mw274 mw275 mw158) rfl rfl rfl (by decide +kernel) ⟨Nat.le_of_ble_eq_true rfl, Nat.le_of_ble_eq_true rfl⟩) NW_ok hK hN I rfl (q_wsE (Nat.lt_of_lt_of_le (Nat.add_lt_add_left (q_in_lt o18) _) (by decide)) (a_C_JobProcess (q_in_lt o18))) rfl (q_sz hl) rfl (Nat.le_of_ble_eq_true rfl) d_JT_write_67 ⟨Nat.zero_le _, Nat.zero_le _⟩) (fun H locs I => ?_)
          refine lv_if_ne (tgt := 81) hx hb d_JT_write_70 (by decide) (fun c21 => ?_) (fun c21 => ?_)
          · rw [if_neg c21] at hf
            exact k_JT_write_81 C0 hA res r19.2 x1 x2 hf H locs I ls (q_hsub hl [0, 1, 2] rfl)
          · rw [if_pos c21] at hf
            refine q_aload_n hx hb d_JT_write_73 rfl (q_at hl 3 rfl) ?_
            refine lv_bipush (v := 9) hx hb d_JT_write_74 (by decide) ?_
            obtain ⟨o22, hf⟩ := q_grd_some hf
            rw [q_rv_ref (q_in_pos o22)]
            obtain ⟨r23, e24, hf⟩ := q_bnd_some hf
            refine q_kv hA I (q_runV (C := "JobTerminal$Job") (As := [.int 9]) (rest := []) ⟨hx, hb, hml, hown, hts⟩ (c_Job_receive (sz := H.size) (q_in_lt o22) e24) (cwV 1 hts (q_goodV mw193 mw194 mw195 mw196 mw179) rfl rfl rfl (by decide +kernel) ⟨Nat.le_of_ble_eq_true rfl, Nat.le_of_ble_eq_true rfl⟩) NW_ok hK hN I rfl (q_wsE (Nat.lt_of_lt_of_le (Nat.add_lt_add_left (q_in_lt o22) _) (by decide)) (a_C_Job (q_in_lt o22))) rfl (q_sz hl) rfl (Nat.le_of_ble_eq_true rfl) d_JT_write_76 ⟨Nat.zero_le _, Nat.zero_le _⟩) (fun H locs I => ?_)
            refine lv_iconst (v := 0) hx hb d_JT_write_79 (by decide) ?_
            cases hf
            exact q_zret (r0 := 0) hx hb hr hlocks (by decide) I d_JT_write_80
  · rw [if_neg c10] at hf
    refine q_aload_n hx hb d_JT_write_34 rfl (q_at hl 1 rfl) ?_
    obtain ⟨o25, hf⟩ := q_grd_some hf
    rw [q_rv_ref (q_in_pos o25)]
    obtain ⟨r26, e27, hf⟩ := q_bnd_some hf
    refine q_kv hA I (q_runV (C := "JobTerminal$JobProcess") (As := []) (rest := []) ⟨hx, hb, hml, hown, hts⟩ (c_JobProcess_fail (sz := H.size) (q_in_lt o25) e27) (cwV 0 hts (q_goodV mw276 mw277 mw278 mw279 mw158) rfl rfl rfl (by decide +kernel) ⟨Nat.le_of_ble_eq_true rfl, Nat.le_of_ble_eq_true rfl⟩) NW_ok hK hN I rfl (q_wsE (Nat.lt_of_lt_of_le (Nat.add_lt_add_left (q_in_lt o25) _) (by decide)) (a_C_JobProcess (q_in_lt o25))) rfl (q_sz hl) rfl (Nat.le_of_ble_eq_true rfl) d_JT_write_35 ⟨Nat.zero_le _, Nat.zero_le _⟩) (fun H locs I => ?_)
    refine lv_iconst (v := 1) hx hb d_JT_write_38 (by decide) ?_
    cases hf
    exact q_zret (r0 := 1) hx hb hr hlocks (by decide) I d_JT_write_39
def f_JT_write (σ : q_St) (p1 : Int32) (p2 : Int32) : Option (Int32 × q_St) := q_grd (q_in p1 8) (if (σ 32 p1.toNatClampNeg) < 0 then (f_JT_write_24 σ p1 p2 (σ 32 p1.toNatClampNeg)) else (q_grd (q_in (σ 32 p1.toNatClampNeg) 4) (q_bnd (f_Job_writesToPipe σ ((σ 32 p1.toNatClampNeg).toNatClampNeg) p1) (fun r4 => if r4.1 = 0 then (f_JT_write_24 r4.2 p1 p2 (σ 32 p1.toNatClampNeg)) else (q_bnd (f_JT_writeToPipe r4.2 (σ 32 p1.toNatClampNeg) p1 p2) (fun r7 => q_grd (q_isB r7.1) (some (r7.1, r7.2))))))))
set_option maxHeartbeats 4000000 in
set_option maxRecDepth 100000 in
theorem c_JT_write {l : Launch} {D : va_G} {ad : Nat → Nat} {cs : Nat → ClassId} {sz : Nat} {σ : q_St} {p1 : Int32} {p2 : Int32} {res : (Int32 × q_St)} (hf : f_JT_write σ p1 p2 = some res) : Met l y_JT_write w_JT_write ({ frames := 4, cells := 0, slots := 0, locals := 85 } : Room) (q_Pre D vwCl (tyL cs) NW [.ref (ad 0), q_rv ad 9 p1, .int p2] (q_ws 33 ad (cC ad cs σ)) sz) (q_Qi D vwCl res.1 (q_ws 33 ad (cC ad cs res.2)) (va_A (q_ws 33 ad (cC ad cs σ)) sz)) 0 0 (va_A (q_ws 33 ad (cC ad cs σ)) sz) := by
  refine Met.ofW (cc := b_JT_write) (maxL := 4) (ret := (some .boolean)) (by decide) rfl ?_
  intro p e s m args below meth c s₁ B hml hv
  obtain ⟨hargs, hsz, hP, hK, hD0, hN⟩ := hv
  have hx := B.exec
  have hb := B.bytes
  have hr := B.returns
  have hts := atoms_spec (ws := w_JT_write) B.pre
  have hown : s.vm.findClass "JobTerminal" = some m.cls := findClass_of_methodNamed B.named
  have hlocks := B.notSynchronized
  have htg : ∀ w ∈ GW, w.before args s = true := fun w h => hts w (List.mem_cons_of_mem _ h)
  subst hsz
  have hD := hD0.self (sz := s.heap.size)
  generalize hAe : va_A (q_ws 33 ad (cC ad cs σ)) s.heap.size = A at hD ⊢
  have hA : ∀ q : Nat, s.heap.size ≤ q → A q := fun q h => by rw [← hAe]; exact Or.inr h
  have I : q_I D vwCl A s.heap (q_ws 33 ad (cC ad cs σ)) s.heap [] := ⟨hP, hD, va_S.rf⟩
  obtain ⟨ls, hen, hl⟩ := q_entry (vs := [.ref (ad 0), q_rv ad 9 p1, .int p2]) (n := 4) (lv := [(0, .ref (ad 0)), (1, q_rv ad 9 p1), (2, .int p2)]) (by intro v hv; simp only [List.mem_cons, List.not_mem_nil, or_false] at hv; rcases hv with rfl | rfl | rfl <;> first | rfl | exact q_cat) (Nat.le_of_ble_eq_true rfl) rfl
  rw [show entryFrame m args 4 = F0 m 0 ls [] from by rw [hargs]; exact hen m]
  have C0 : q_Cx "JobTerminal" b_JT_write 4 (some .boolean) w_JT_write D vwCl (tyL cs) NW p s m args meth c := ⟨hx, hb, hr, hml, hown, hts, hlocks, hK, hN⟩
  unfold f_JT_write at hf
  have hgo : ∀ (H : Heap) (locs : List Loc), q_I D vwCl A s.heap (q_ws 33 ad (cC ad cs σ)) H locs → W p l e ({ frames := 4, cells := 0, slots := 0, locals := 85 } : Room) s m args below meth c H locs 0 0 (MQ below (q_Qi D vwCl res.1 (q_ws 33 ad (cC ad cs res.2)) A) args s 0 0 A) (F0 m 0 ls []) := by
    intro H locs I
    refine q_aload_n hx hb d_JT_write_0 rfl (q_at hl 1 rfl) ?_
    obtain ⟨o1, hf⟩ := q_grd_some hf
    rw [q_rv_ref (q_in_pos o1)]
    refine G_JT_JobProcess_owner hx hb htg hown hK hN I (q_in_lt o1) d_JT_write_1 ?_
    refine q_astoreV_n (lv' := [(3, q_rv ad 17 (σ 32 p1.toNatClampNeg)), (0, .ref (ad 0)), (1, q_rv ad 9 p1), (2, .int p2)]) hx hb d_JT_write_4 rfl hl (by decide) rfl (fun ls hl => ?_)
    refine q_aload_n hx hb d_JT_write_5 rfl (q_at hl 0 rfl) ?_
    refine q_ifnull (tgt := 24) hx hb d_JT_write_6 (by decide) (fun c2 => ?_) (fun c2 => ?_)
    · rw [if_pos c2] at hf
      exact k_JT_write_24 C0 hA res σ p1 p2 (σ 32 p1.toNatClampNeg) hf H locs I ls (q_hsub hl [1, 2, 3, 0] rfl)
    · rw [if_neg c2] at hf
      refine q_aload_n hx hb d_JT_write_9 rfl (q_at hl 0 rfl) ?_
      refine q_aload_n hx hb d_JT_write_10 rfl (q_at hl 2 rfl) ?_
      obtain ⟨o3, hf⟩ := q_grd_some hf
      rw [q_rv_ref (q_in_pos o3)]
      obtain ⟨r4, e5, hf⟩ := q_bnd_some hf
      refine q_ki hA I (q_runV (C := "JobTerminal$Job") (As := [q_rv ad 9 p1]) (rest := []) ⟨hx, hb, hml, hown, hts⟩ (c_Job_writesToPipe (sz := H.size) (q_in_lt o3) e5) (cwV 1 hts (q_goodV mw242 mw243 mw244 mw245 mw179) rfl rfl rfl (by decide +kernel) ⟨Nat.le_of_ble_eq_true rfl, Nat.le_of_ble_eq_true rfl⟩) NW_ok hK hN I rfl (q_wsE (Nat.lt_of_lt_of_le (Nat.add_lt_add_left (q_in_lt o3) _) (by decide)) (a_C_Job (q_in_lt o3))) rfl (q_sz hl) rfl (Nat.le_of_ble_eq_true rfl) d_JT_write_11 ⟨Nat.zero_le _, Nat.zero_le _⟩) (fun H locs I => ?_)
      refine lv_if_eq (tgt := 24) hx hb d_JT_write_14 (by decide) (fun c6 => ?_) (fun c6 => ?_)
      · rw [if_pos c6] at hf
        exact k_JT_write_24 C0 hA res r4.2 p1 p2 (σ 32 p1.toNatClampNeg) hf H locs I ls (q_hsub hl [1, 2, 3, 0] rfl)
      · rw [if_neg c6] at hf
        refine q_aload_n hx hb d_JT_write_17 rfl (q_at hl 0 rfl) ?_
        refine q_aload_n hx hb d_JT_write_18 rfl (q_at hl 2 rfl) ?_
        refine lv_iload_n hx hb d_JT_write_19 rfl (q_at hl 3 rfl) ?_
        obtain ⟨r7, e8, hf⟩ := q_bnd_some hf
        refine q_ki hA I (q_runS (As := [q_rv ad 17 (σ 32 p1.toNatClampNeg), q_rv ad 9 p1, .int p2]) (rest := []) ⟨hx, hb, hml, hown, hts⟩ (c_JT_writeToPipe (sz := H.size) e8) (va_cwS 3 hts (q_goodS mw281 mw282 mw283 mw184) rfl rfl rfl (by decide +kernel) ⟨Nat.le_of_ble_eq_true rfl, Nat.le_of_ble_eq_true rfl⟩) NW_ok hK hN I rfl (q_sz hl) rfl (Nat.le_of_ble_eq_true rfl) d_JT_write_20 ⟨Nat.zero_le _, Nat.zero_le _⟩) (fun H locs I => ?_)
        obtain ⟨o9, hf⟩ := q_grd_some hf
        cases hf
        exact q_zret hx hb hr hlocks o9 I d_JT_write_23
  exact hgo _ _ I
-- JobTerminal runLine
def f_JT_runLine (σ : q_St) (p1 : Int32) : Option (Int32 × q_St) := q_grd (q_in p1 8) (q_bnd (f_Programs_opAt σ (σ 34 p1.toNatClampNeg) (σ 35 p1.toNatClampNeg)) (fun r2 => q_bnd (f_Programs_numberAt r2.2 (r2.2 34 p1.toNatClampNeg) (r2.2 35 p1.toNatClampNeg)) (fun r4 => if r2.1 = (1 : Int32) then (q_bnd (f_JT_write r4.2 p1 (r4.1 &&& 127)) (fun r7 => q_grd (q_isB r7.1) (some (r7.1, r7.2)))) else (if r2.1 = (2 : Int32) then (q_bnd (f_JT_read r4.2 p1) (fun r11 => q_grd (q_isB r11.1) (some (r11.1, r11.2)))) else (if r2.1 = (3 : Int32) then (if (r4.2 36 p1.toNatClampNeg) < 0 then (some (0, q_up r4.2 35 p1.toNatClampNeg ((r4.2 35 p1.toNatClampNeg) + 1))) else (q_bnd (f_JT_write r4.2 p1 ((r4.2 36 p1.toNatClampNeg) &&& 127)) (fun r16 => q_grd (q_isB r16.1) (some (r16.1, r16.2))))) else (q_bnd (f_JobProcess_runOwnOp r4.2 p1.toNatClampNeg r2.1 r4.1) (fun r19 => some (0, r19))))))))
set_option maxHeartbeats 4000000 in
set_option maxRecDepth 100000 in
theorem c_JT_runLine {l : Launch} {D : va_G} {ad : Nat → Nat} {cs : Nat → ClassId} {sz : Nat} {σ : q_St} {p1 : Int32} {res : (Int32 × q_St)} (hf : f_JT_runLine σ p1 = some res) : Met l y_JT_runLine w_JT_runLine ({ frames := 5, cells := 0, slots := 0, locals := 108 } : Room) (q_Pre D vwCl (tyL cs) NW [.ref (ad 0), q_rv ad 9 p1] (q_ws 33 ad (cC ad cs σ)) sz) (q_Qi D vwCl res.1 (q_ws 33 ad (cC ad cs res.2)) (va_A (q_ws 33 ad (cC ad cs σ)) sz)) 0 0 (va_A (q_ws 33 ad (cC ad cs σ)) sz) := by
  refine Met.ofW (cc := b_JT_runLine) (maxL := 4) (ret := (some .boolean)) (by decide) rfl ?_
  intro p e s m args below meth c s₁ B hml hv
  obtain ⟨hargs, hsz, hP, hK, hD0, hN⟩ := hv
  have hx := B.exec
  have hb := B.bytes
  have hr := B.returns
  have hts := atoms_spec (ws := w_JT_runLine) B.pre
  have hown : s.vm.findClass "JobTerminal" = some m.cls := findClass_of_methodNamed B.named
  have hlocks := B.notSynchronized
  have htg : ∀ w ∈ GW, w.before args s = true := fun w h => hts w (List.mem_cons_of_mem _ h)
  subst hsz
  have hD := hD0.self (sz := s.heap.size)
  generalize hAe : va_A (q_ws 33 ad (cC ad cs σ)) s.heap.size = A at hD ⊢
  have hA : ∀ q : Nat, s.heap.size ≤ q → A q := fun q h => by rw [← hAe]; exact Or.inr h
  have I : q_I D vwCl A s.heap (q_ws 33 ad (cC ad cs σ)) s.heap [] := ⟨hP, hD, va_S.rf⟩
  obtain ⟨ls, hen, hl⟩ := q_entry (vs := [.ref (ad 0), q_rv ad 9 p1]) (n := 4) (lv := [(0, .ref (ad 0)), (1, q_rv ad 9 p1)]) (by intro v hv; simp only [List.mem_cons, List.not_mem_nil, or_false] at hv; rcases hv with rfl | rfl <;> first | rfl | exact q_cat) (Nat.le_of_ble_eq_true rfl) rfl
  rw [show entryFrame m args 4 = F0 m 0 ls [] from by rw [hargs]; exact hen m]
  have C0 : q_Cx "JobTerminal" b_JT_runLine 4 (some .boolean) w_JT_runLine D vwCl (tyL cs) NW p s m args meth c := ⟨hx, hb, hr, hml, hown, hts, hlocks, hK, hN⟩
  unfold f_JT_runLine at hf
  have hgo : ∀ (H : Heap) (locs : List Loc), q_I D vwCl A s.heap (q_ws 33 ad (cC ad cs σ)) H locs → W p l e ({ frames := 5, cells := 0, slots := 0, locals := 108 } : Room) s m args below meth c H locs 0 0 (MQ below (q_Qi D vwCl res.1 (q_ws 33 ad (cC ad cs res.2)) A) args s 0 0 A) (F0 m 0 ls []) := by
    intro H locs I
    refine lv_aload_n hx hb d_JT_runLine_0 rfl (q_at hl 0 rfl) ?_
    refine G_JT_JT_programs hx hb htg hown hK hN I d_JT_runLine_1 ?_
    refine q_aload_n hx hb d_JT_runLine_4 rfl (q_at hl 1 rfl) ?_
    obtain ⟨o1, hf⟩ := q_grd_some hf
    rw [q_rv_ref (q_in_pos o1)]
    refine G_JT_JobProcess_program hx hb htg hown hK hN I (q_in_lt o1) d_JT_runLine_5 ?_
    refine q_aload_n hx hb d_JT_runLine_8 rfl (q_at hl 1 rfl) ?_
    rw [q_rv_ref (q_in_pos o1)]
    refine G_JT_JobProcess_line hx hb htg hown hK hN I (q_in_lt o1) d_JT_runLine_9 ?_
    obtain ⟨r2, e3, hf⟩ := q_bnd_some hf
    refine q_ki hA I (q_runV (C := "JobTerminal$Programs") (As := [.int (σ 34 p1.toNatClampNeg), .int (σ 35 p1.toNatClampNeg)]) (rest := []) ⟨hx, hb, hml, hown, hts⟩ (c_Programs_opAt (sz := H.size) e3) (cwV 2 hts (q_goodV mw251 mw252 mw253 mw254 mw69) rfl rfl rfl (by decide +kernel) ⟨Nat.le_of_ble_eq_true rfl, Nat.le_of_ble_eq_true rfl⟩) NW_ok hK hN I rfl (q_wsE (by decide) (a_C_Programs)) rfl (q_sz hl) rfl (Nat.le_of_ble_eq_true rfl) d_JT_runLine_12 ⟨Nat.zero_le _, Nat.zero_le _⟩) (fun H locs I => ?_)
    refine q_istore_n (lv' := [(2, .int r2.1), (0, .ref (ad 0)), (1, q_rv ad 9 p1)]) hx hb d_JT_runLine_15 rfl hl (by decide) rfl (fun ls hl => ?_)
    refine lv_aload_n hx hb d_JT_runLine_16 rfl (q_at hl 1 rfl) ?_
    refine G_JT_JT_programs hx hb htg hown hK hN I d_JT_runLine_17 ?_
    refine q_aload_n hx hb d_JT_runLine_20 rfl (q_at hl 2 rfl) ?_
    rw [q_rv_ref (q_in_pos o1)]
    refine G_JT_JobProcess_program hx hb htg hown hK hN I (q_in_lt o1) d_JT_runLine_21 ?_
    refine q_aload_n hx hb d_JT_runLine_24 rfl (q_at hl 2 rfl) ?_
    rw [q_rv_ref (q_in_pos o1)]
    refine G_JT_JobProcess_line hx hb htg hown hK hN I (q_in_lt o1) d_JT_runLine_25 ?_
    obtain ⟨r4, e5, hf⟩ := q_bnd_some hf
    refine q_ki hA I (q_runV (C := "JobTerminal$Programs") (As := [.int (r2.2 34 p1.toNatClampNeg), .int (r2.2 35 p1.toNatClampNeg)]) (rest := []) ⟨hx, hb, hml, hown, hts⟩ (c_Programs_numberAt (sz := H.size) e5) (cwV 2 hts (q_goodV mw287 mw288 mw289 mw290 mw69) rfl rfl rfl (by decide +kernel) ⟨Nat.le_of_ble_eq_true rfl, Nat.le_of_ble_eq_true rfl⟩) NW_ok hK hN I rfl (q_wsE (by decide) (a_C_Programs)) rfl (q_sz hl) rfl (Nat.le_of_ble_eq_true rfl) d_JT_runLine_28 ⟨Nat.zero_le _, Nat.zero_le _⟩) (fun H locs I => ?_)
    refine q_istore_n (lv' := [(3, .int r4.1), (2, .int r2.1), (0, .ref (ad 0)), (1, q_rv ad 9 p1)]) hx hb d_JT_runLine_31 rfl hl (by decide) rfl (fun ls hl => ?_)
    refine lv_iload_n hx hb d_JT_runLine_32 rfl (q_at hl 1 rfl) ?_
    by_cases c6 : r2.1 = (1 : Int32)
    · rw [if_pos c6] at hf
      refine lv_tableIn (tgt := 66) hx hb d_JT_runLine_33 (by rw [c6] <;> decide) (by rw [c6] <;> decide) (by rw [c6] <;> rfl) (by decide) ?_
      refine lv_aload_n hx hb d_JT_runLine_66 rfl (q_at hl 2 rfl) ?_
      refine q_aload_n hx hb d_JT_runLine_67 rfl (q_at hl 3 rfl) ?_
      refine lv_iload_n hx hb d_JT_runLine_68 rfl (q_at hl 0 rfl) ?_
      refine lv_bipush (v := 127) hx hb d_JT_runLine_69 (by decide) ?_
      refine lv_iand hx hb d_JT_runLine_71 ?_
      obtain ⟨r7, e8, hf⟩ := q_bnd_some hf
      refine q_ki hA I (q_runV (C := "JobTerminal") (As := [q_rv ad 9 p1, .int (r4.1 &&& 127)]) (rest := []) ⟨hx, hb, hml, hown, hts⟩ (c_JT_write (sz := H.size) e8) (cwV 2 hts (q_goodV mw291 mw292 mw293 mw294 mw184) rfl rfl rfl (by decide +kernel) ⟨Nat.le_of_ble_eq_true rfl, Nat.le_of_ble_eq_true rfl⟩) NW_ok hK hN I rfl (q_wsE (by decide) (a_C_JT)) rfl (q_sz hl) rfl (Nat.le_of_ble_eq_true rfl) d_JT_runLine_72 ⟨Nat.zero_le _, Nat.zero_le _⟩) (fun H locs I => ?_)
      obtain ⟨o9, hf⟩ := q_grd_some hf
      cases hf
      exact q_zret hx hb hr hlocks o9 I d_JT_runLine_75
    rw [if_neg c6] at hf
    by_cases c10 : r2.1 = (2 : Int32)
    · rw [if_pos c10] at hf
      refine lv_tableIn (tgt := 60) hx hb d_JT_runLine_33 (by rw [c10] <;> decide) (by rw [c10] <;> decide) (by rw [c10] <;> rfl) (by decide) ?_
      refine lv_aload_n hx hb d_JT_runLine_60 rfl (q_at hl 2 rfl) ?_
      refine q_aload_n hx hb d_JT_runLine_61 rfl (q_at hl 3 rfl) ?_
      obtain ⟨r11, e12, hf⟩ := q_bnd_some hf
      refine q_ki hA I (q_runV (C := "JobTerminal") (As := [q_rv ad 9 p1]) (rest := []) ⟨hx, hb, hml, hown, hts⟩ (c_JT_read (sz := H.size) e12) (cwV 1 hts (q_goodV mw295 mw296 mw297 mw298 mw184) rfl rfl rfl (by decide +kernel) ⟨Nat.le_of_ble_eq_true rfl, Nat.le_of_ble_eq_true rfl⟩) NW_ok hK hN I rfl (q_wsE (by decide) (a_C_JT)) rfl (q_sz hl) rfl (Nat.le_of_ble_eq_true rfl) d_JT_runLine_62 ⟨Nat.zero_le _, Nat.zero_le _⟩) (fun H locs I => ?_)
      obtain ⟨o13, hf⟩ := q_grd_some hf
      cases hf
      exact q_zret hx hb hr hlocks o13 I d_JT_runLine_65
    rw [if_neg c10] at hf
    by_cases c14 : r2.1 = (3 : Int32)
    · rw [if_pos c14] at hf
      refine lv_tableIn (tgt := 76) hx hb d_JT_runLine_33 (by rw [c14] <;> decide) (by rw [c14] <;> decide) (by rw [c14] <;> rfl) (by decide) ?_
      refine q_aload_n hx hb d_JT_runLine_76 rfl (q_at hl 3 rfl) ?_
      rw [q_rv_ref (q_in_pos o1)]
      refine G_JT_JobProcess_register hx hb htg hown hK hN I (q_in_lt o1) d_JT_runLine_77 ?_
      refine lv_if_lt (tgt := 96) hx hb d_JT_runLine_80 (by decide) (fun c15 => ?_) (fun c15 => ?_)
      · rw [if_pos c15] at hf
        refine q_aload_n hx hb d_JT_runLine_96 rfl (q_at hl 3 rfl) ?_
        refine lv_dup hx hb d_JT_runLine_97 q_cat ?_
        rw [q_rv_ref (q_in_pos o1)]
        refine G_JT_JobProcess_line hx hb htg hown hK hN I (q_in_lt o1) d_JT_runLine_98 ?_
        rw [← q_rv_ref (ad := ad) (b := 9) (q_in_pos o1)]
        refine lv_iconst (v := 1) hx hb d_JT_runLine_101 (by decide) ?_
        refine lv_iadd hx hb d_JT_runLine_102 ?_
        rw [q_rv_ref (q_in_pos o1)]
        refine P_JT_JobProcess_line hx hb htg hown hK hN I (q_in_lt o1) d_JT_runLine_103 (fun H locs I => ?_)
        refine lv_iconst (v := 0) hx hb d_JT_runLine_106 (by decide) ?_
        cases hf
        exact q_zret (r0 := 0) hx hb hr hlocks (by decide) I d_JT_runLine_107
      · rw [if_neg c15] at hf
        refine lv_aload_n hx hb d_JT_runLine_83 rfl (q_at hl 2 rfl) ?_
        refine q_aload_n hx hb d_JT_runLine_84 rfl (q_at hl 3 rfl) ?_
        refine q_aload_n hx hb d_JT_runLine_85 rfl (q_at hl 3 rfl) ?_
        rw [q_rv_ref (q_in_pos o1)]
        refine G_JT_JobProcess_register hx hb htg hown hK hN I (q_in_lt o1) d_JT_runLine_86 ?_
        rw [← q_rv_ref (ad := ad) (b := 9) (q_in_pos o1)]
        refine lv_bipush (v := 127) hx hb d_JT_runLine_89 (by decide) ?_
        refine lv_iand hx hb d_JT_runLine_91 ?_
        obtain ⟨r16, e17, hf⟩ := q_bnd_some hf
        refine q_ki hA I (q_runV (C := "JobTerminal") (As := [q_rv ad 9 p1, .int ((r4.2 36 p1.toNatClampNeg) &&& 127)]) (rest := []) ⟨hx, hb, hml, hown, hts⟩ (c_JT_write (sz := H.size) e17) (cwV 2 hts (q_goodV mw291 mw292 mw293 mw294 mw184) rfl rfl rfl (by decide +kernel) ⟨Nat.le_of_ble_eq_true rfl, Nat.le_of_ble_eq_true rfl⟩) NW_ok hK hN I rfl (q_wsE (by decide) (a_C_JT)) rfl (q_sz hl) rfl (Nat.le_of_ble_eq_true rfl) d_JT_runLine_92 ⟨Nat.zero_le _, Nat.zero_le _⟩) (fun H locs I => ?_)
        obtain ⟨o18, hf⟩ := q_grd_some hf
        cases hf
        exact q_zret hx hb hr hlocks o18 I d_JT_runLine_95
    rw [if_neg c14] at hf
    refine lv_tableOut (tgt := 108) hx hb d_JT_runLine_33 (by have := lv_neT (a := 1) c6 (by decide); have := lv_neT (a := 2) c10 (by decide); have := lv_neT (a := 3) c14 (by decide); omega) (by decide) ?_
    refine q_aload_n hx hb d_JT_runLine_108 rfl (q_at hl 3 rfl) ?_
    refine lv_iload_n hx hb d_JT_runLine_109 rfl (q_at hl 1 rfl) ?_
    refine lv_iload_n hx hb d_JT_runLine_110 rfl (q_at hl 0 rfl) ?_
    rw [q_rv_ref (q_in_pos o1)]
    obtain ⟨r19, e20, hf⟩ := q_bnd_some hf
    refine q_kv hA I (q_runV (C := "JobTerminal$JobProcess") (As := [.int r2.1, .int r4.1]) (rest := []) ⟨hx, hb, hml, hown, hts⟩ (c_JobProcess_runOwnOp (sz := H.size) (q_in_lt o1) e20) (cwV 2 hts (q_goodV mw299 mw300 mw301 mw302 mw158) rfl rfl rfl (by decide +kernel) ⟨Nat.le_of_ble_eq_true rfl, Nat.le_of_ble_eq_true rfl⟩) NW_ok hK hN I rfl (q_wsE (Nat.lt_of_lt_of_le (Nat.add_lt_add_left (q_in_lt o1) _) (by decide)) (a_C_JobProcess (q_in_lt o1))) rfl (q_sz hl) rfl (Nat.le_of_ble_eq_true rfl) d_JT_runLine_111 ⟨Nat.zero_le _, Nat.zero_le _⟩) (fun H locs I => ?_)
    refine lv_iconst (v := 0) hx hb d_JT_runLine_114 (by decide) ?_
    cases hf
    exact q_zret (r0 := 0) hx hb hr hlocks (by decide) I d_JT_runLine_115
  exact hgo _ _ I
-- JobTerminal step
def f_JT_step_15 : Nat → q_St → Int32 → Int32 → Option (Int32 × q_St)
  | 0, _, _, _ => none
  | n + 1, σ, x1, x2 => if x1 ≤ x2 then (some (x1, σ)) else (q_bnd (f_JT_nextToGo σ) (fun r4 => if r4.1 < 0 then (some (x2, r4.2)) else (q_bnd (f_JT_runLine r4.2 r4.1) (fun r7 => q_grd (q_in r4.1 8) (q_bnd (f_JT_settle r7.2 (r7.2 32 r4.1.toNatClampNeg)) (fun r10 => if r7.1 = 0 then (f_JT_step_15 n r10 x1 (x2 + 1)) else (some (x2 + 1, r10))))))))
set_option maxHeartbeats 4000000 in
set_option maxRecDepth 100000 in
theorem k_JT_step_15 {p : Program} {l : Launch} {e : Env} {s : State} {m : MethodId} {args : Array Value} {below : List Frame} {meth : Method} {c : Code} {D : va_G} {A : Nat → Prop} {ad : Nat → Nat} {cs : Nat → ClassId} (C0 : q_Cx "JobTerminal" b_JT_step 5 (some .int) w_JT_step D vwCl (tyL cs) NW p s m args meth c) (hA : ∀ q, s.heap.size ≤ q → A q) (res : (Int32 × q_St)) : ∀ (n : Nat) (σ : q_St) (x1 : Int32) (x2 : Int32) , f_JT_step_15 n σ x1 x2 = some res → ∀ (H : Heap) (locs : List Loc), q_I D vwCl A s.heap (q_ws 33 ad (cC ad cs σ)) H locs → ∀ ls : Array Slot, q_has ls 5 [(0, .ref (ad 0)), (1, .int x1), (2, .int x2)] → W p l e ({ frames := 6, cells := 0, slots := 0, locals := 131 } : Room) s m args below meth c H locs 0 0 (MQ below (q_Qi D vwCl res.1 (q_ws 33 ad (cC ad cs res.2)) A) args s 0 0 A) (F0 m 15 ls []) := by
  intro n
  induction n with
  | zero => intro σ x1 x2 hf; cases hf
  | succ n ih =>
    intro σ x1 x2 hf H locs I ls hl
    have ih := ih
    rw [f_JT_step_15] at hf
    have C0 := C0
    obtain ⟨hx, hb, hr, hml, hown, hts, hlocks, hK, hN⟩ := id C0
    have htg : ∀ w ∈ GW, w.before args s = true := fun w h => hts w (List.mem_cons_of_mem _ h)
    refine lv_iload_n hx hb d_JT_step_15 rfl (q_at hl 2 rfl) ?_
    refine lv_iload_n hx hb d_JT_step_16 rfl (q_at hl 1 rfl) ?_
    refine lv_icmp_ge (tgt := 61) hx hb d_JT_step_17 (by decide) (fun c3 => ?_) (fun c3 => ?_)
    · rw [if_pos c3] at hf
      refine lv_iload_n hx hb d_JT_step_61 rfl (q_at hl 1 rfl) ?_
      cases hf
      exact q_iret hx hb hr hlocks I d_JT_step_62
    · rw [if_neg c3] at hf
      refine lv_aload_n hx hb d_JT_step_20 rfl (q_at hl 0 rfl) ?_
      obtain ⟨r4, e5, hf⟩ := q_bnd_some hf
      refine q_kq hA I (q_runV (C := "JobTerminal") (As := []) (rest := []) ⟨hx, hb, hml, hown, hts⟩ (c_JT_nextToGo (sz := H.size) e5) (cwV 0 hts (q_goodV mw303 mw304 mw305 mw306 mw184) rfl rfl rfl (by decide +kernel) ⟨Nat.le_of_ble_eq_true rfl, Nat.le_of_ble_eq_true rfl⟩) NW_ok hK hN I rfl (q_wsE (by decide) (a_C_JT)) rfl (q_sz hl) rfl (Nat.le_of_ble_eq_true rfl) d_JT_step_21 ⟨Nat.zero_le _, Nat.zero_le _⟩) (fun H locs I => ?_)
      refine q_astoreV_n (lv' := [(3, q_rv ad 9 r4.1), (0, .ref (ad 0)), (1, .int x1), (2, .int x2)]) hx hb d_JT_step_24 rfl hl (by decide) rfl (fun ls hl => ?_)
      refine q_aload_n hx hb d_JT_step_25 rfl (q_at hl 0 rfl) ?_
      refine q_ifnonnull (tgt := 31) hx hb d_JT_step_26 (by decide) (fun c6 => ?_) (fun c6 => ?_)
      · rw [if_neg c6] at hf
        refine lv_aload_n hx hb d_JT_step_31 rfl (q_at hl 1 rfl) ?_
        refine q_aload_n hx hb d_JT_step_32 rfl (q_at hl 0 rfl) ?_
        obtain ⟨r7, e8, hf⟩ := q_bnd_some hf
        refine q_ki hA I (q_runV (C := "JobTerminal") (As := [q_rv ad 9 r4.1]) (rest := []) ⟨hx, hb, hml, hown, hts⟩ (c_JT_runLine (sz := H.size) e8) (cwV 1 hts (q_goodV mw307 mw308 mw309 mw310 mw184) rfl rfl rfl (by decide +kernel) ⟨Nat.le_of_ble_eq_true rfl, Nat.le_of_ble_eq_true rfl⟩) NW_ok hK hN I rfl (q_wsE (by decide) (a_C_JT)) rfl (q_sz hl) rfl (Nat.le_of_ble_eq_true rfl) d_JT_step_33 ⟨Nat.zero_le _, Nat.zero_le _⟩) (fun H locs I => ?_)
        refine q_istore (lv' := [(4, .int r7.1), (3, q_rv ad 9 r4.1), (0, .ref (ad 0)), (1, .int x1), (2, .int x2)]) hx hb d_JT_step_36 hl (by decide) rfl (fun ls hl => ?_)
        refine lv_aload_n hx hb d_JT_step_38 rfl (q_at hl 2 rfl) ?_
        refine q_aload_n hx hb d_JT_step_39 rfl (q_at hl 1 rfl) ?_
        obtain ⟨o9, hf⟩ := q_grd_some hf
        rw [q_rv_ref (q_in_pos o9)]
        refine G_JT_JobProcess_owner hx hb htg hown hK hN I (q_in_lt o9) d_JT_step_40 ?_
        obtain ⟨r10, e11, hf⟩ := q_bnd_some hf
        refine q_kv hA I (q_runV (C := "JobTerminal") (As := [q_rv ad 17 (r7.2 32 r4.1.toNatClampNeg)]) (rest := []) ⟨hx, hb, hml, hown, hts⟩ (c_JT_settle (sz := H.size) e11) (cwV 1 hts (q_goodV mw180 mw181 mw182 mw183 mw184) rfl rfl rfl (by decide +kernel) ⟨Nat.le_of_ble_eq_true rfl, Nat.le_of_ble_eq_true rfl⟩) NW_ok hK hN I rfl (q_wsE (by decide) (a_C_JT)) rfl (q_sz hl) rfl (Nat.le_of_ble_eq_true rfl) d_JT_step_43 ⟨Nat.zero_le _, Nat.zero_le _⟩) (fun H locs I => ?_)
        refine lv_iload hx hb d_JT_step_46 (q_at hl 0 rfl) ?_
        refine lv_if_eq (tgt := 55) hx hb d_JT_step_48 (by decide) (fun c12 => ?_) (fun c12 => ?_)
        · rw [if_pos c12] at hf
          refine q_iinc (v := x2 + 1) (lv' := [(2, .int (x2 + 1)), (4, .int r7.1), (3, q_rv ad 9 r4.1), (0, .ref (ad 0)), (1, .int x1)]) hx hb d_JT_step_55 hl (k := 4) rfl rfl (by decide) rfl (fun ls hl => ?_)
          refine lv_goto (tgt := 15) hx hb d_JT_step_58 (by decide) ?_
          exact ih r10 x1 (x2 + 1) hf H locs I ls (q_hsub hl [3, 4, 0] rfl)
        · rw [if_neg c12] at hf
          refine lv_iload_n hx hb d_JT_step_51 rfl (q_at hl 4 rfl) ?_
          refine lv_iconst (v := 1) hx hb d_JT_step_52 (by decide) ?_
          refine lv_iadd hx hb d_JT_step_53 ?_
          cases hf
          exact q_iret hx hb hr hlocks I d_JT_step_54
      · rw [if_pos c6] at hf
        refine lv_iload_n hx hb d_JT_step_29 rfl (q_at hl 3 rfl) ?_
        cases hf
        exact q_iret hx hb hr hlocks I d_JT_step_30
def f_JT_step_11 (σ : q_St) : Option (Int32 × q_St) := some (-1, σ)
set_option maxHeartbeats 4000000 in
set_option maxRecDepth 100000 in
theorem k_JT_step_11 {p : Program} {l : Launch} {e : Env} {s : State} {m : MethodId} {args : Array Value} {below : List Frame} {meth : Method} {c : Code} {D : va_G} {A : Nat → Prop} {ad : Nat → Nat} {cs : Nat → ClassId} (C0 : q_Cx "JobTerminal" b_JT_step 5 (some .int) w_JT_step D vwCl (tyL cs) NW p s m args meth c) (hA : ∀ q, s.heap.size ≤ q → A q) (res : (Int32 × q_St)) : ∀ (σ : q_St) , f_JT_step_11 σ  = some res → ∀ (H : Heap) (locs : List Loc), q_I D vwCl A s.heap (q_ws 33 ad (cC ad cs σ)) H locs → ∀ ls : Array Slot, q_has ls 5 [] → W p l e ({ frames := 6, cells := 0, slots := 0, locals := 131 } : Room) s m args below meth c H locs 0 0 (MQ below (q_Qi D vwCl res.1 (q_ws 33 ad (cC ad cs res.2)) A) args s 0 0 A) (F0 m 11 ls []) := by
  intro σ  hf H locs I ls hl
  unfold f_JT_step_11 at hf
  obtain ⟨hx, hb, hr, hml, hown, hts, hlocks, hK, hN⟩ := id C0
  have htg : ∀ w ∈ GW, w.before args s = true := fun w h => hts w (List.mem_cons_of_mem _ h)
  refine lv_iconst (v := -1) hx hb d_JT_step_11 (by decide) ?_
  cases hf
  exact q_iret hx hb hr hlocks I d_JT_step_12
def f_JT_step (σ : q_St) (p1 : Int32) : Option (Int32 × q_St) := if p1 < 1 then (f_JT_step_11 σ) else (if p1 ≤ 64 then (f_JT_step_15 200 σ p1 0) else (f_JT_step_11 σ))
set_option maxHeartbeats 4000000 in
set_option maxRecDepth 100000 in
theorem c_JT_step {l : Launch} {D : va_G} {ad : Nat → Nat} {cs : Nat → ClassId} {sz : Nat} {σ : q_St} {p1 : Int32} {res : (Int32 × q_St)} (hf : f_JT_step σ p1 = some res) : Met l y_JT_step w_JT_step ({ frames := 6, cells := 0, slots := 0, locals := 131 } : Room) (q_Pre D vwCl (tyL cs) NW [.ref (ad 0), .int p1] (q_ws 33 ad (cC ad cs σ)) sz) (q_Qi D vwCl res.1 (q_ws 33 ad (cC ad cs res.2)) (va_A (q_ws 33 ad (cC ad cs σ)) sz)) 0 0 (va_A (q_ws 33 ad (cC ad cs σ)) sz) := by
  refine Met.ofW (cc := b_JT_step) (maxL := 5) (ret := (some .int)) (by decide) rfl ?_
  intro p e s m args below meth c s₁ B hml hv
  obtain ⟨hargs, hsz, hP, hK, hD0, hN⟩ := hv
  have hx := B.exec
  have hb := B.bytes
  have hr := B.returns
  have hts := atoms_spec (ws := w_JT_step) B.pre
  have hown : s.vm.findClass "JobTerminal" = some m.cls := findClass_of_methodNamed B.named
  have hlocks := B.notSynchronized
  have htg : ∀ w ∈ GW, w.before args s = true := fun w h => hts w (List.mem_cons_of_mem _ h)
  subst hsz
  have hD := hD0.self (sz := s.heap.size)
  generalize hAe : va_A (q_ws 33 ad (cC ad cs σ)) s.heap.size = A at hD ⊢
  have hA : ∀ q : Nat, s.heap.size ≤ q → A q := fun q h => by rw [← hAe]; exact Or.inr h
  have I : q_I D vwCl A s.heap (q_ws 33 ad (cC ad cs σ)) s.heap [] := ⟨hP, hD, va_S.rf⟩
  obtain ⟨ls, hen, hl⟩ := q_entry (vs := [.ref (ad 0), .int p1]) (n := 5) (lv := [(0, .ref (ad 0)), (1, .int p1)]) (by intro v hv; simp only [List.mem_cons, List.not_mem_nil, or_false] at hv; rcases hv with rfl | rfl <;> first | rfl | exact q_cat) (Nat.le_of_ble_eq_true rfl) rfl
  rw [show entryFrame m args 5 = F0 m 0 ls [] from by rw [hargs]; exact hen m]
  have C0 : q_Cx "JobTerminal" b_JT_step 5 (some .int) w_JT_step D vwCl (tyL cs) NW p s m args meth c := ⟨hx, hb, hr, hml, hown, hts, hlocks, hK, hN⟩
  unfold f_JT_step at hf
  have hgo : ∀ (H : Heap) (locs : List Loc), q_I D vwCl A s.heap (q_ws 33 ad (cC ad cs σ)) H locs → W p l e ({ frames := 6, cells := 0, slots := 0, locals := 131 } : Room) s m args below meth c H locs 0 0 (MQ below (q_Qi D vwCl res.1 (q_ws 33 ad (cC ad cs res.2)) A) args s 0 0 A) (F0 m 0 ls []) := by
    intro H locs I
    refine lv_iload_n hx hb d_JT_step_0 rfl (q_at hl 1 rfl) ?_
    refine lv_iconst (v := 1) hx hb d_JT_step_1 (by decide) ?_
    refine lv_icmp_lt (tgt := 11) hx hb d_JT_step_2 (by decide) (fun c1 => ?_) (fun c1 => ?_)
    · rw [if_pos c1] at hf
      exact k_JT_step_11 C0 hA res σ hf H locs I ls (q_hsub hl [] rfl)
    · rw [if_neg c1] at hf
      refine lv_iload_n hx hb d_JT_step_5 rfl (q_at hl 1 rfl) ?_
      refine lv_bipush (v := 64) hx hb d_JT_step_6 (by decide) ?_
      refine lv_icmp_le (tgt := 13) hx hb d_JT_step_8 (by decide) (fun c2 => ?_) (fun c2 => ?_)
      · rw [if_pos c2] at hf
        refine lv_iconst (v := 0) hx hb d_JT_step_13 (by decide) ?_
        refine q_istore_n (lv' := [(2, .int 0), (0, .ref (ad 0)), (1, .int p1)]) hx hb d_JT_step_14 rfl hl (by decide) rfl (fun ls hl => ?_)
        exact k_JT_step_15 C0 hA res 200 σ p1 0 hf H locs I ls (q_hsub hl [1, 2, 0] rfl)
      · rw [if_neg c2] at hf
        exact k_JT_step_11 C0 hA res σ hf H locs I ls (q_hsub hl [] rfl)
  exact hgo _ _ I
-- JobTerminal tick
def f_JT_tick_45 (K4 : q_St → Int32 → Int32 → Option (Int32 × q_St)) (σ : q_St) (x1 : Int32) (x2 : Int32) : Option (Int32 × q_St) := K4 σ x1 (x2 + 1)
set_option maxHeartbeats 4000000 in
set_option maxRecDepth 100000 in
theorem k_JT_tick_45 {p : Program} {l : Launch} {e : Env} {s : State} {m : MethodId} {args : Array Value} {below : List Frame} {meth : Method} {c : Code} {D : va_G} {A : Nat → Prop} {ad : Nat → Nat} {cs : Nat → ClassId} (C0 : q_Cx "JobTerminal" b_JT_tick 4 (some .int) w_JT_tick D vwCl (tyL cs) NW p s m args meth c) (hA : ∀ q, s.heap.size ≤ q → A q) (res : (Int32 × q_St)) {K4 : q_St → Int32 → Int32 → Option (Int32 × q_St)} (hk4 : ∀ (σ : q_St) (x1 : Int32) (x2 : Int32) , K4 σ x1 x2 = some res → ∀ (H : Heap) (locs : List Loc), q_I D vwCl A s.heap (q_ws 33 ad (cC ad cs σ)) H locs → ∀ ls : Array Slot, q_has ls 4 [(0, .ref (ad 0)), (1, .int x1), (2, .int x2)] → W p l e ({ frames := 0, cells := 0, slots := 0, locals := 0 } : Room) s m args below meth c H locs 0 0 (MQ below (q_Qi D vwCl res.1 (q_ws 33 ad (cC ad cs res.2)) A) args s 0 0 A) (F0 m 4 ls [])) : ∀ (σ : q_St) (x1 : Int32) (x2 : Int32) , f_JT_tick_45 K4 σ x1 x2 = some res → ∀ (H : Heap) (locs : List Loc), q_I D vwCl A s.heap (q_ws 33 ad (cC ad cs σ)) H locs → ∀ ls : Array Slot, q_has ls 4 [(0, .ref (ad 0)), (1, .int x1), (2, .int x2)] → W p l e ({ frames := 0, cells := 0, slots := 0, locals := 0 } : Room) s m args below meth c H locs 0 0 (MQ below (q_Qi D vwCl res.1 (q_ws 33 ad (cC ad cs res.2)) A) args s 0 0 A) (F0 m 45 ls []) := by
  intro σ x1 x2 hf H locs I ls hl
  unfold f_JT_tick_45 at hf
  obtain ⟨hx, hb, hr, hml, hown, hts, hlocks, hK, hN⟩ := id C0
  have htg : ∀ w ∈ GW, w.before args s = true := fun w h => hts w (List.mem_cons_of_mem _ h)
  refine q_iinc (v := x2 + 1) (lv' := [(2, .int (x2 + 1)), (0, .ref (ad 0)), (1, .int x1)]) hx hb d_JT_tick_45 hl (k := 2) rfl rfl (by decide) rfl (fun ls hl => ?_)
  refine lv_goto (tgt := 4) hx hb d_JT_tick_48 (by decide) ?_
  exact hk4 σ x1 (x2 + 1) hf H locs I ls (q_hsub hl [1, 2, 0] rfl)
def f_JT_tick_4 : Nat → q_St → Int32 → Int32 → Option (Int32 × q_St)
  | 0, _, _, _ => none
  | n + 1, σ, x1, x2 => if 8 ≤ x2 then (some (x1, σ)) else (q_grd (q_in x2 8) (if (σ 33 x2.toNatClampNeg) = 1 then (if (σ 41 x2.toNatClampNeg) ≤ 0 then (f_JT_tick_45 (f_JT_tick_4 n) σ x1 x2) else (f_JT_tick_45 (f_JT_tick_4 n) (q_up σ 41 x2.toNatClampNeg ((σ 41 x2.toNatClampNeg) - 1)) (x1 + 1) x2)) else (f_JT_tick_45 (f_JT_tick_4 n) σ x1 x2)))
set_option maxHeartbeats 4000000 in
set_option maxRecDepth 100000 in
theorem k_JT_tick_4 {p : Program} {l : Launch} {e : Env} {s : State} {m : MethodId} {args : Array Value} {below : List Frame} {meth : Method} {c : Code} {D : va_G} {A : Nat → Prop} {ad : Nat → Nat} {cs : Nat → ClassId} (C0 : q_Cx "JobTerminal" b_JT_tick 4 (some .int) w_JT_tick D vwCl (tyL cs) NW p s m args meth c) (hA : ∀ q, s.heap.size ≤ q → A q) (res : (Int32 × q_St)) : ∀ (n : Nat) (σ : q_St) (x1 : Int32) (x2 : Int32) , f_JT_tick_4 n σ x1 x2 = some res → ∀ (H : Heap) (locs : List Loc), q_I D vwCl A s.heap (q_ws 33 ad (cC ad cs σ)) H locs → ∀ ls : Array Slot, q_has ls 4 [(0, .ref (ad 0)), (1, .int x1), (2, .int x2)] → W p l e ({ frames := 0, cells := 0, slots := 0, locals := 0 } : Room) s m args below meth c H locs 0 0 (MQ below (q_Qi D vwCl res.1 (q_ws 33 ad (cC ad cs res.2)) A) args s 0 0 A) (F0 m 4 ls []) := by
  intro n
  induction n with
  | zero => intro σ x1 x2 hf; cases hf
  | succ n ih =>
    intro σ x1 x2 hf H locs I ls hl
    have ih := ih
    rw [f_JT_tick_4] at hf
    have C0 := C0
    obtain ⟨hx, hb, hr, hml, hown, hts, hlocks, hK, hN⟩ := id C0
    have htg : ∀ w ∈ GW, w.before args s = true := fun w h => hts w (List.mem_cons_of_mem _ h)
    refine lv_iload_n hx hb d_JT_tick_4 rfl (q_at hl 2 rfl) ?_
    refine lv_bipush (v := 8) hx hb d_JT_tick_5 (by decide) ?_
    refine lv_icmp_ge (tgt := 51) hx hb d_JT_tick_7 (by decide) (fun c1 => ?_) (fun c1 => ?_)
    · rw [if_pos c1] at hf
      refine lv_iload_n hx hb d_JT_tick_51 rfl (q_at hl 1 rfl) ?_
      cases hf
      exact q_iret hx hb hr hlocks I d_JT_tick_52
    · rw [if_neg c1] at hf
      refine lv_aload_n hx hb d_JT_tick_10 rfl (q_at hl 0 rfl) ?_
      refine G_JT_JT_processes hx hb htg hown hK hN I d_JT_tick_11 ?_
      refine lv_iload_n hx hb d_JT_tick_14 rfl (q_at hl 2 rfl) ?_
      obtain ⟨o2, hf⟩ := q_grd_some hf
      refine A_C_procs hx hb hK I o2 d_JT_tick_15 ?_
      refine q_astoreV_n (lv' := [(3, q_rv ad 9 x2), (0, .ref (ad 0)), (1, .int x1), (2, .int x2)]) hx hb d_JT_tick_16 rfl hl (by decide) rfl (fun ls hl => ?_)
      refine q_aload_n hx hb d_JT_tick_17 rfl (q_at hl 0 rfl) ?_
      rw [q_rv_ref (q_in_pos o2)]
      refine G_JT_JobProcess_state hx hb htg hown hK hN I (q_in_lt o2) d_JT_tick_18 ?_
      refine lv_iconst (v := 1) hx hb d_JT_tick_21 (by decide) ?_
      refine lv_icmp_ne (tgt := 45) hx hb d_JT_tick_22 (by decide) (fun c3 => ?_) (fun c3 => ?_)
      · rw [if_neg c3] at hf
        exact k_JT_tick_45 C0 hA res (K4 := f_JT_tick_4 n) ih σ x1 x2 hf H locs I ls (q_hsub hl [1, 2, 3] rfl)
      · rw [if_pos c3] at hf
        refine q_aload_n hx hb d_JT_tick_25 rfl (q_at hl 0 rfl) ?_
        rw [q_rv_ref (q_in_pos o2)]
        refine G_JT_JobProcess_nap hx hb htg hown hK hN I (q_in_lt o2) d_JT_tick_26 ?_
        refine lv_if_le (tgt := 45) hx hb d_JT_tick_29 (by decide) (fun c4 => ?_) (fun c4 => ?_)
        · rw [if_pos c4] at hf
          exact k_JT_tick_45 C0 hA res (K4 := f_JT_tick_4 n) ih σ x1 x2 hf H locs I ls (q_hsub hl [1, 2, 3] rfl)
        · rw [if_neg c4] at hf
          refine q_aload_n hx hb d_JT_tick_32 rfl (q_at hl 0 rfl) ?_
          refine lv_dup hx hb d_JT_tick_33 q_cat ?_
          rw [q_rv_ref (q_in_pos o2)]
          refine G_JT_JobProcess_nap hx hb htg hown hK hN I (q_in_lt o2) d_JT_tick_34 ?_
          rw [← q_rv_ref (ad := ad) (b := 9) (q_in_pos o2)]
          refine lv_iconst (v := 1) hx hb d_JT_tick_37 (by decide) ?_
          refine lv_isub hx hb d_JT_tick_38 ?_
          rw [q_rv_ref (q_in_pos o2)]
          refine P_JT_JobProcess_nap hx hb htg hown hK hN I (q_in_lt o2) d_JT_tick_39 (fun H locs I => ?_)
          refine q_iinc (v := x1 + 1) (lv' := [(1, .int (x1 + 1)), (3, q_rv ad 9 x2), (0, .ref (ad 0)), (2, .int x2)]) hx hb d_JT_tick_42 hl (k := 2) rfl rfl (by decide) rfl (fun ls hl => ?_)
          exact k_JT_tick_45 C0 hA res (K4 := f_JT_tick_4 n) ih (q_up σ 41 x2.toNatClampNeg ((σ 41 x2.toNatClampNeg) - 1)) (x1 + 1) x2 hf H locs I ls (q_hsub hl [2, 0, 3] rfl)
def f_JT_tick (σ : q_St) : Option (Int32 × q_St) := f_JT_tick_4 200 σ 0 0
set_option maxHeartbeats 4000000 in
set_option maxRecDepth 100000 in
theorem c_JT_tick {l : Launch} {D : va_G} {ad : Nat → Nat} {cs : Nat → ClassId} {sz : Nat} {σ : q_St} {res : (Int32 × q_St)} (hf : f_JT_tick σ  = some res) : Met l y_JT_tick w_JT_tick ({ frames := 0, cells := 0, slots := 0, locals := 0 } : Room) (q_Pre D vwCl (tyL cs) NW [.ref (ad 0)] (q_ws 33 ad (cC ad cs σ)) sz) (q_Qi D vwCl res.1 (q_ws 33 ad (cC ad cs res.2)) (va_A (q_ws 33 ad (cC ad cs σ)) sz)) 0 0 (va_A (q_ws 33 ad (cC ad cs σ)) sz) := by
  refine Met.ofW (cc := b_JT_tick) (maxL := 4) (ret := (some .int)) (by decide) rfl ?_
  intro p e s m args below meth c s₁ B hml hv
  obtain ⟨hargs, hsz, hP, hK, hD0, hN⟩ := hv
  have hx := B.exec
  have hb := B.bytes
  have hr := B.returns
  have hts := atoms_spec (ws := w_JT_tick) B.pre
  have hown : s.vm.findClass "JobTerminal" = some m.cls := findClass_of_methodNamed B.named
  have hlocks := B.notSynchronized
  have htg : ∀ w ∈ GW, w.before args s = true := fun w h => hts w (List.mem_cons_of_mem _ h)
  subst hsz
  have hD := hD0.self (sz := s.heap.size)
  generalize hAe : va_A (q_ws 33 ad (cC ad cs σ)) s.heap.size = A at hD ⊢
  have hA : ∀ q : Nat, s.heap.size ≤ q → A q := fun q h => by rw [← hAe]; exact Or.inr h
  have I : q_I D vwCl A s.heap (q_ws 33 ad (cC ad cs σ)) s.heap [] := ⟨hP, hD, va_S.rf⟩
  obtain ⟨ls, hen, hl⟩ := q_entry (vs := [.ref (ad 0)]) (n := 4) (lv := [(0, .ref (ad 0))]) (by intro v hv; simp only [List.mem_cons, List.not_mem_nil, or_false] at hv; rcases hv with rfl <;> first | rfl | exact q_cat) (Nat.le_of_ble_eq_true rfl) rfl
  rw [show entryFrame m args 4 = F0 m 0 ls [] from by rw [hargs]; exact hen m]
  have C0 : q_Cx "JobTerminal" b_JT_tick 4 (some .int) w_JT_tick D vwCl (tyL cs) NW p s m args meth c := ⟨hx, hb, hr, hml, hown, hts, hlocks, hK, hN⟩
  unfold f_JT_tick at hf
  have hgo : ∀ (H : Heap) (locs : List Loc), q_I D vwCl A s.heap (q_ws 33 ad (cC ad cs σ)) H locs → W p l e ({ frames := 0, cells := 0, slots := 0, locals := 0 } : Room) s m args below meth c H locs 0 0 (MQ below (q_Qi D vwCl res.1 (q_ws 33 ad (cC ad cs res.2)) A) args s 0 0 A) (F0 m 0 ls []) := by
    intro H locs I
    refine lv_iconst (v := 0) hx hb d_JT_tick_0 (by decide) ?_
    refine q_istore_n (lv' := [(1, .int 0), (0, .ref (ad 0))]) hx hb d_JT_tick_1 rfl hl (by decide) rfl (fun ls hl => ?_)
    refine lv_iconst (v := 0) hx hb d_JT_tick_2 (by decide) ?_
    refine q_istore_n (lv' := [(2, .int 0), (1, .int 0), (0, .ref (ad 0))]) hx hb d_JT_tick_3 rfl hl (by decide) rfl (fun ls hl => ?_)
    exact k_JT_tick_4 C0 hA res 200 σ 0 0 hf H locs I ls (q_hsub hl [2, 1, 0] rfl)
  exact hgo _ _ I
-- JobTerminal hang
def f_JT_hang_67 (K35 : q_St → Int32 → Option (Int32 × q_St)) (σ : q_St) (x1 : Int32) : Option (Int32 × q_St) := K35 σ (x1 + 1)
set_option maxHeartbeats 4000000 in
set_option maxRecDepth 100000 in
theorem k_JT_hang_67 {p : Program} {l : Launch} {e : Env} {s : State} {m : MethodId} {args : Array Value} {below : List Frame} {meth : Method} {c : Code} {D : va_G} {A : Nat → Prop} {ad : Nat → Nat} {cs : Nat → ClassId} (C0 : q_Cx "JobTerminal" b_JT_hang 3 (some .boolean) w_JT_hang D vwCl (tyL cs) NW p s m args meth c) (hA : ∀ q, s.heap.size ≤ q → A q) (res : (Int32 × q_St)) {K35 : q_St → Int32 → Option (Int32 × q_St)} (hk35 : ∀ (σ : q_St) (x1 : Int32) , K35 σ x1 = some res → ∀ (H : Heap) (locs : List Loc), q_I D vwCl A s.heap (q_ws 33 ad (cC ad cs σ)) H locs → ∀ ls : Array Slot, q_has ls 3 [(0, .ref (ad 0)), (1, .int x1)] → W p l e ({ frames := 5, cells := 0, slots := 0, locals := 105 } : Room) s m args below meth c H locs 0 0 (MQ below (q_Qi D vwCl res.1 (q_ws 33 ad (cC ad cs res.2)) A) args s 0 0 A) (F0 m 35 ls [])) : ∀ (σ : q_St) (x1 : Int32) , f_JT_hang_67 K35 σ x1 = some res → ∀ (H : Heap) (locs : List Loc), q_I D vwCl A s.heap (q_ws 33 ad (cC ad cs σ)) H locs → ∀ ls : Array Slot, q_has ls 3 [(0, .ref (ad 0)), (1, .int x1)] → W p l e ({ frames := 5, cells := 0, slots := 0, locals := 105 } : Room) s m args below meth c H locs 0 0 (MQ below (q_Qi D vwCl res.1 (q_ws 33 ad (cC ad cs res.2)) A) args s 0 0 A) (F0 m 67 ls []) := by
  intro σ x1 hf H locs I ls hl
  unfold f_JT_hang_67 at hf
  obtain ⟨hx, hb, hr, hml, hown, hts, hlocks, hK, hN⟩ := id C0
  have htg : ∀ w ∈ GW, w.before args s = true := fun w h => hts w (List.mem_cons_of_mem _ h)
  refine q_iinc (v := x1 + 1) (lv' := [(1, .int (x1 + 1)), (0, .ref (ad 0))]) hx hb d_JT_hang_67 hl (k := 1) rfl rfl (by decide) rfl (fun ls hl => ?_)
  refine lv_goto (tgt := 35) hx hb d_JT_hang_70 (by decide) ?_
  exact hk35 σ (x1 + 1) hf H locs I ls (q_hsub hl [1, 0] rfl)
def f_JT_hang_35 : Nat → q_St → Int32 → Option (Int32 × q_St)
  | 0, _, _ => none
  | n + 1, σ, x1 => if 4 ≤ x1 then (q_bnd (f_JT_settleAll σ) (fun r9 => some (1, r9))) else (q_grd (q_in x1 4) (q_grd (q_okn x1 4) (q_grd (q_okn (σ 20 0) 4) (if x1 = (σ 20 0) then (f_JT_hang_67 (f_JT_hang_35 n) σ x1) else (q_bnd (f_Job_state σ x1.toNatClampNeg) (fun r15 => if r15.1 = 2 then (q_bnd (f_Job_receiveHangUp r15.2 x1.toNatClampNeg) (fun r18 => f_JT_hang_67 (f_JT_hang_35 n) r18 x1)) else (f_JT_hang_67 (f_JT_hang_35 n) r15.2 x1)))))))
set_option maxHeartbeats 4000000 in
set_option maxRecDepth 100000 in
theorem k_JT_hang_35 {p : Program} {l : Launch} {e : Env} {s : State} {m : MethodId} {args : Array Value} {below : List Frame} {meth : Method} {c : Code} {D : va_G} {A : Nat → Prop} {ad : Nat → Nat} {cs : Nat → ClassId} (C0 : q_Cx "JobTerminal" b_JT_hang 3 (some .boolean) w_JT_hang D vwCl (tyL cs) NW p s m args meth c) (hA : ∀ q, s.heap.size ≤ q → A q) (res : (Int32 × q_St)) : ∀ (n : Nat) (σ : q_St) (x1 : Int32) , f_JT_hang_35 n σ x1 = some res → ∀ (H : Heap) (locs : List Loc), q_I D vwCl A s.heap (q_ws 33 ad (cC ad cs σ)) H locs → ∀ ls : Array Slot, q_has ls 3 [(0, .ref (ad 0)), (1, .int x1)] → W p l e ({ frames := 5, cells := 0, slots := 0, locals := 105 } : Room) s m args below meth c H locs 0 0 (MQ below (q_Qi D vwCl res.1 (q_ws 33 ad (cC ad cs res.2)) A) args s 0 0 A) (F0 m 35 ls []) := by
  intro n
  induction n with
  | zero => intro σ x1 hf; cases hf
  | succ n ih =>
    intro σ x1 hf H locs I ls hl
    have ih := ih
    rw [f_JT_hang_35] at hf
    have C0 := C0
    obtain ⟨hx, hb, hr, hml, hown, hts, hlocks, hK, hN⟩ := id C0
    have htg : ∀ w ∈ GW, w.before args s = true := fun w h => hts w (List.mem_cons_of_mem _ h)
    refine lv_iload_n hx hb d_JT_hang_35 rfl (q_at hl 1 rfl) ?_
    refine lv_iconst (v := 4) hx hb d_JT_hang_36 (by decide) ?_
    refine lv_icmp_ge (tgt := 73) hx hb d_JT_hang_37 (by decide) (fun c8 => ?_) (fun c8 => ?_)
    · rw [if_pos c8] at hf
      refine lv_aload_n hx hb d_JT_hang_73 rfl (q_at hl 0 rfl) ?_
      obtain ⟨r9, e10, hf⟩ := q_bnd_some hf
      refine q_kv hA I (q_runV (C := "JobTerminal") (As := []) (rest := []) ⟨hx, hb, hml, hown, hts⟩ (c_JT_settleAll (sz := H.size) e10) (cwV 0 hts (q_goodV mw205 mw206 mw207 mw208 mw184) rfl rfl rfl (by decide +kernel) ⟨Nat.le_of_ble_eq_true rfl, Nat.le_of_ble_eq_true rfl⟩) NW_ok hK hN I rfl (q_wsE (by decide) (a_C_JT)) rfl (q_sz hl) rfl (Nat.le_of_ble_eq_true rfl) d_JT_hang_74 ⟨Nat.zero_le _, Nat.zero_le _⟩) (fun H locs I => ?_)
      refine lv_iconst (v := 1) hx hb d_JT_hang_77 (by decide) ?_
      cases hf
      exact q_zret (r0 := 1) hx hb hr hlocks (by decide) I d_JT_hang_78
    · rw [if_neg c8] at hf
      refine lv_aload_n hx hb d_JT_hang_40 rfl (q_at hl 0 rfl) ?_
      refine G_JT_JT_jobs hx hb htg hown hK hN I d_JT_hang_41 ?_
      refine lv_iload_n hx hb d_JT_hang_44 rfl (q_at hl 1 rfl) ?_
      obtain ⟨o11, hf⟩ := q_grd_some hf
      refine A_C_jobs hx hb hK I o11 d_JT_hang_45 ?_
      refine q_astoreV_n (lv' := [(2, q_rv ad 17 x1), (0, .ref (ad 0)), (1, .int x1)]) hx hb d_JT_hang_46 rfl hl (by decide) rfl (fun ls hl => ?_)
      refine q_aload_n hx hb d_JT_hang_47 rfl (q_at hl 0 rfl) ?_
      refine lv_aload_n hx hb d_JT_hang_48 rfl (q_at hl 1 rfl) ?_
      refine G_JT_JT_foregroundJob hx hb htg hown hK hN I d_JT_hang_49 ?_
      obtain ⟨o13, hf⟩ := q_grd_some hf
      obtain ⟨o14, hf⟩ := q_grd_some hf
      refine q_acmp_eq (b := 17) (n := 4) (tgt := 67) hx hb I.2.1 (by decide) (by decide) o13 o14 d_JT_hang_52 (by decide) (fun c12 => ?_) (fun c12 => ?_)
      · rw [if_pos c12] at hf
        exact k_JT_hang_67 C0 hA res (K35 := f_JT_hang_35 n) ih σ x1 hf H locs I ls (q_hsub hl [1, 2] rfl)
      · rw [if_neg c12] at hf
        refine q_aload_n hx hb d_JT_hang_55 rfl (q_at hl 0 rfl) ?_
        rw [q_rv_ref (q_in_pos o11)]
        obtain ⟨r15, e16, hf⟩ := q_bnd_some hf
        refine q_ki hA I (q_runV (C := "JobTerminal$Job") (As := []) (rest := []) ⟨hx, hb, hml, hown, hts⟩ (c_Job_state (sz := H.size) (q_in_lt o11) e16) (cwV 0 hts (q_goodV mw175 mw176 mw177 mw178 mw179) rfl rfl rfl (by decide +kernel) ⟨Nat.le_of_ble_eq_true rfl, Nat.le_of_ble_eq_true rfl⟩) NW_ok hK hN I rfl (q_wsE (Nat.lt_of_lt_of_le (Nat.add_lt_add_left (q_in_lt o11) _) (by decide)) (a_C_Job (q_in_lt o11))) rfl (q_sz hl) rfl (Nat.le_of_ble_eq_true rfl) d_JT_hang_56 ⟨Nat.zero_le _, Nat.zero_le _⟩) (fun H locs I => ?_)
        refine lv_iconst (v := 2) hx hb d_JT_hang_59 (by decide) ?_
        refine lv_icmp_ne (tgt := 67) hx hb d_JT_hang_60 (by decide) (fun c17 => ?_) (fun c17 => ?_)
        · rw [if_neg c17] at hf
          exact k_JT_hang_67 C0 hA res (K35 := f_JT_hang_35 n) ih r15.2 x1 hf H locs I ls (q_hsub hl [1, 2] rfl)
        · rw [if_pos c17] at hf
          refine q_aload_n hx hb d_JT_hang_63 rfl (q_at hl 0 rfl) ?_
          rw [q_rv_ref (q_in_pos o11)]
          obtain ⟨r18, e19, hf⟩ := q_bnd_some hf
          refine q_kv hA I (q_runV (C := "JobTerminal$Job") (As := []) (rest := []) ⟨hx, hb, hml, hown, hts⟩ (c_Job_receiveHangUp (sz := H.size) (q_in_lt o11) e19) (cwV 0 hts (q_goodV mw316 mw317 mw318 mw319 mw179) rfl rfl rfl (by decide +kernel) ⟨Nat.le_of_ble_eq_true rfl, Nat.le_of_ble_eq_true rfl⟩) NW_ok hK hN I rfl (q_wsE (Nat.lt_of_lt_of_le (Nat.add_lt_add_left (q_in_lt o11) _) (by decide)) (a_C_Job (q_in_lt o11))) rfl (q_sz hl) rfl (Nat.le_of_ble_eq_true rfl) d_JT_hang_64 ⟨Nat.zero_le _, Nat.zero_le _⟩) (fun H locs I => ?_)
          exact k_JT_hang_67 C0 hA res (K35 := f_JT_hang_35 n) ih r18 x1 hf H locs I ls (q_hsub hl [1, 2] rfl)
def f_JT_hang_33 (σ : q_St) : Option (Int32 × q_St) := f_JT_hang_35 200 σ 0
set_option maxHeartbeats 4000000 in
set_option maxRecDepth 100000 in
theorem k_JT_hang_33 {p : Program} {l : Launch} {e : Env} {s : State} {m : MethodId} {args : Array Value} {below : List Frame} {meth : Method} {c : Code} {D : va_G} {A : Nat → Prop} {ad : Nat → Nat} {cs : Nat → ClassId} (C0 : q_Cx "JobTerminal" b_JT_hang 3 (some .boolean) w_JT_hang D vwCl (tyL cs) NW p s m args meth c) (hA : ∀ q, s.heap.size ≤ q → A q) (res : (Int32 × q_St)) : ∀ (σ : q_St) , f_JT_hang_33 σ  = some res → ∀ (H : Heap) (locs : List Loc), q_I D vwCl A s.heap (q_ws 33 ad (cC ad cs σ)) H locs → ∀ ls : Array Slot, q_has ls 3 [(0, .ref (ad 0))] → W p l e ({ frames := 5, cells := 0, slots := 0, locals := 105 } : Room) s m args below meth c H locs 0 0 (MQ below (q_Qi D vwCl res.1 (q_ws 33 ad (cC ad cs res.2)) A) args s 0 0 A) (F0 m 33 ls []) := by
  intro σ  hf H locs I ls hl
  unfold f_JT_hang_33 at hf
  obtain ⟨hx, hb, hr, hml, hown, hts, hlocks, hK, hN⟩ := id C0
  have htg : ∀ w ∈ GW, w.before args s = true := fun w h => hts w (List.mem_cons_of_mem _ h)
  refine lv_iconst (v := 0) hx hb d_JT_hang_33 (by decide) ?_
  refine q_istore_n (lv' := [(1, .int 0), (0, .ref (ad 0))]) hx hb d_JT_hang_34 rfl hl (by decide) rfl (fun ls hl => ?_)
  exact k_JT_hang_35 C0 hA res 200 σ 0 hf H locs I ls (q_hsub hl [1, 0] rfl)
def f_JT_hang (σ : q_St) : Option (Int32 × q_St) := if (σ 23 0) = 0 then (q_bnd (f_Terminal_hangUp σ) (fun r2 => if (r2 20 0) < 0 then (f_JT_hang_33 r2) else (q_grd (q_in (r2 20 0) 4) (q_bnd (f_Job_receiveHangUp r2 ((r2 20 0).toNatClampNeg)) (fun r6 => f_JT_hang_33 r6))))) else (some (0, σ))
set_option maxHeartbeats 4000000 in
set_option maxRecDepth 100000 in
theorem c_JT_hang {l : Launch} {D : va_G} {ad : Nat → Nat} {cs : Nat → ClassId} {sz : Nat} {σ : q_St} {res : (Int32 × q_St)} (hf : f_JT_hang σ  = some res) : Met l y_JT_hang w_JT_hang ({ frames := 5, cells := 0, slots := 0, locals := 105 } : Room) (q_Pre D vwCl (tyL cs) NW [.ref (ad 0)] (q_ws 33 ad (cC ad cs σ)) sz) (q_Qi D vwCl res.1 (q_ws 33 ad (cC ad cs res.2)) (va_A (q_ws 33 ad (cC ad cs σ)) sz)) 0 0 (va_A (q_ws 33 ad (cC ad cs σ)) sz) := by
  refine Met.ofW (cc := b_JT_hang) (maxL := 3) (ret := (some .boolean)) (by decide) rfl ?_
  intro p e s m args below meth c s₁ B hml hv
  obtain ⟨hargs, hsz, hP, hK, hD0, hN⟩ := hv
  have hx := B.exec
  have hb := B.bytes
  have hr := B.returns
  have hts := atoms_spec (ws := w_JT_hang) B.pre
  have hown : s.vm.findClass "JobTerminal" = some m.cls := findClass_of_methodNamed B.named
  have hlocks := B.notSynchronized
  have htg : ∀ w ∈ GW, w.before args s = true := fun w h => hts w (List.mem_cons_of_mem _ h)
  subst hsz
  have hD := hD0.self (sz := s.heap.size)
  generalize hAe : va_A (q_ws 33 ad (cC ad cs σ)) s.heap.size = A at hD ⊢
  have hA : ∀ q : Nat, s.heap.size ≤ q → A q := fun q h => by rw [← hAe]; exact Or.inr h
  have I : q_I D vwCl A s.heap (q_ws 33 ad (cC ad cs σ)) s.heap [] := ⟨hP, hD, va_S.rf⟩
  obtain ⟨ls, hen, hl⟩ := q_entry (vs := [.ref (ad 0)]) (n := 3) (lv := [(0, .ref (ad 0))]) (by intro v hv; simp only [List.mem_cons, List.not_mem_nil, or_false] at hv; rcases hv with rfl <;> first | rfl | exact q_cat) (Nat.le_of_ble_eq_true rfl) rfl
  rw [show entryFrame m args 3 = F0 m 0 ls [] from by rw [hargs]; exact hen m]
  have C0 : q_Cx "JobTerminal" b_JT_hang 3 (some .boolean) w_JT_hang D vwCl (tyL cs) NW p s m args meth c := ⟨hx, hb, hr, hml, hown, hts, hlocks, hK, hN⟩
  unfold f_JT_hang at hf
  have hgo : ∀ (H : Heap) (locs : List Loc), q_I D vwCl A s.heap (q_ws 33 ad (cC ad cs σ)) H locs → W p l e ({ frames := 5, cells := 0, slots := 0, locals := 105 } : Room) s m args below meth c H locs 0 0 (MQ below (q_Qi D vwCl res.1 (q_ws 33 ad (cC ad cs res.2)) A) args s 0 0 A) (F0 m 0 ls []) := by
    intro H locs I
    refine lv_aload_n hx hb d_JT_hang_0 rfl (q_at hl 0 rfl) ?_
    refine G_JT_JT_terminal hx hb htg hown hK hN I d_JT_hang_1 ?_
    refine G_JT_Terminal_hangs hx hb htg hown hK hN I d_JT_hang_4 ?_
    refine lv_if_eq (tgt := 12) hx hb d_JT_hang_7 (by decide) (fun c1 => ?_) (fun c1 => ?_)
    · rw [if_pos c1] at hf
      refine lv_aload_n hx hb d_JT_hang_12 rfl (q_at hl 0 rfl) ?_
      refine G_JT_JT_terminal hx hb htg hown hK hN I d_JT_hang_13 ?_
      obtain ⟨r2, e3, hf⟩ := q_bnd_some hf
      refine q_kv hA I (q_runV (C := "JobTerminal$Terminal") (As := []) (rest := []) ⟨hx, hb, hml, hown, hts⟩ (c_Terminal_hangUp (sz := H.size) e3) (cwV 0 hts (q_goodV mw312 mw313 mw314 mw315 mw83) rfl rfl rfl (by decide +kernel) ⟨Nat.le_of_ble_eq_true rfl, Nat.le_of_ble_eq_true rfl⟩) NW_ok hK hN I rfl (q_wsE (by decide) (a_C_Terminal)) rfl (q_sz hl) rfl (Nat.le_of_ble_eq_true rfl) d_JT_hang_16 ⟨Nat.zero_le _, Nat.zero_le _⟩) (fun H locs I => ?_)
      refine lv_aload_n hx hb d_JT_hang_19 rfl (q_at hl 0 rfl) ?_
      refine G_JT_JT_foregroundJob hx hb htg hown hK hN I d_JT_hang_20 ?_
      refine q_ifnull (tgt := 33) hx hb d_JT_hang_23 (by decide) (fun c4 => ?_) (fun c4 => ?_)
      · rw [if_pos c4] at hf
        exact k_JT_hang_33 C0 hA res r2 hf H locs I ls (q_hsub hl [0] rfl)
      · rw [if_neg c4] at hf
        refine lv_aload_n hx hb d_JT_hang_26 rfl (q_at hl 0 rfl) ?_
        refine G_JT_JT_foregroundJob hx hb htg hown hK hN I d_JT_hang_27 ?_
        obtain ⟨o5, hf⟩ := q_grd_some hf
        rw [q_rv_ref (q_in_pos o5)]
        obtain ⟨r6, e7, hf⟩ := q_bnd_some hf
        refine q_kv hA I (q_runV (C := "JobTerminal$Job") (As := []) (rest := []) ⟨hx, hb, hml, hown, hts⟩ (c_Job_receiveHangUp (sz := H.size) (q_in_lt o5) e7) (cwV 0 hts (q_goodV mw316 mw317 mw318 mw319 mw179) rfl rfl rfl (by decide +kernel) ⟨Nat.le_of_ble_eq_true rfl, Nat.le_of_ble_eq_true rfl⟩) NW_ok hK hN I rfl (q_wsE (Nat.lt_of_lt_of_le (Nat.add_lt_add_left (q_in_lt o5) _) (by decide)) (a_C_Job (q_in_lt o5))) rfl (q_sz hl) rfl (Nat.le_of_ble_eq_true rfl) d_JT_hang_30 ⟨Nat.zero_le _, Nat.zero_le _⟩) (fun H locs I => ?_)
        exact k_JT_hang_33 C0 hA res r6 hf H locs I ls (q_hsub hl [0] rfl)
    · rw [if_neg c1] at hf
      refine lv_iconst (v := 0) hx hb d_JT_hang_10 (by decide) ?_
      cases hf
      exact q_zret (r0 := 0) hx hb hr hlocks (by decide) I d_JT_hang_11
  exact hgo _ _ I
-- JobTerminal foreground
def f_JT_foreground_18 (σ : q_St) (y0 : Int32) : Option (Int32 × q_St) := some (y0, σ)
set_option maxHeartbeats 4000000 in
set_option maxRecDepth 100000 in
theorem k_JT_foreground_18 {p : Program} {l : Launch} {e : Env} {s : State} {m : MethodId} {args : Array Value} {below : List Frame} {meth : Method} {c : Code} {D : va_G} {A : Nat → Prop} {ad : Nat → Nat} {cs : Nat → ClassId} (C0 : q_Cx "JobTerminal" b_JT_foreground 1 (some .int) w_JT_foreground D vwCl (tyL cs) NW p s m args meth c) (hA : ∀ q, s.heap.size ≤ q → A q) (res : (Int32 × q_St)) : ∀ (σ : q_St) (y0 : Int32) , f_JT_foreground_18 σ y0 = some res → ∀ (H : Heap) (locs : List Loc), q_I D vwCl A s.heap (q_ws 33 ad (cC ad cs σ)) H locs → ∀ ls : Array Slot, q_has ls 1 [] → W p l e ({ frames := 0, cells := 0, slots := 0, locals := 0 } : Room) s m args below meth c H locs 0 0 (MQ below (q_Qi D vwCl res.1 (q_ws 33 ad (cC ad cs res.2)) A) args s 0 0 A) (F0 m 18 ls [.int y0]) := by
  intro σ y0 hf H locs I ls hl
  unfold f_JT_foreground_18 at hf
  obtain ⟨hx, hb, hr, hml, hown, hts, hlocks, hK, hN⟩ := id C0
  have htg : ∀ w ∈ GW, w.before args s = true := fun w h => hts w (List.mem_cons_of_mem _ h)
  cases hf
  exact q_iret hx hb hr hlocks I d_JT_foreground_18
def f_JT_foreground (σ : q_St) : Option (Int32 × q_St) := if (σ 20 0) < 0 then (f_JT_foreground_18 σ (-1)) else (q_grd (q_in (σ 20 0) 4) (f_JT_foreground_18 σ (nI ((σ 20 0).toNatClampNeg))))
set_option maxHeartbeats 4000000 in
set_option maxRecDepth 100000 in
theorem c_JT_foreground {l : Launch} {D : va_G} {ad : Nat → Nat} {cs : Nat → ClassId} {sz : Nat} {σ : q_St} {res : (Int32 × q_St)} (hf : f_JT_foreground σ  = some res) : Met l y_JT_foreground w_JT_foreground ({ frames := 0, cells := 0, slots := 0, locals := 0 } : Room) (q_Pre D vwCl (tyL cs) NW [.ref (ad 0)] (q_ws 33 ad (cC ad cs σ)) sz) (q_Qi D vwCl res.1 (q_ws 33 ad (cC ad cs res.2)) (va_A (q_ws 33 ad (cC ad cs σ)) sz)) 0 0 (va_A (q_ws 33 ad (cC ad cs σ)) sz) := by
  refine Met.ofW (cc := b_JT_foreground) (maxL := 1) (ret := (some .int)) (by decide) rfl ?_
  intro p e s m args below meth c s₁ B hml hv
  obtain ⟨hargs, hsz, hP, hK, hD0, hN⟩ := hv
  have hx := B.exec
  have hb := B.bytes
  have hr := B.returns
  have hts := atoms_spec (ws := w_JT_foreground) B.pre
  have hown : s.vm.findClass "JobTerminal" = some m.cls := findClass_of_methodNamed B.named
  have hlocks := B.notSynchronized
  have htg : ∀ w ∈ GW, w.before args s = true := fun w h => hts w (List.mem_cons_of_mem _ h)
  subst hsz
  have hD := hD0.self (sz := s.heap.size)
  generalize hAe : va_A (q_ws 33 ad (cC ad cs σ)) s.heap.size = A at hD ⊢
  have hA : ∀ q : Nat, s.heap.size ≤ q → A q := fun q h => by rw [← hAe]; exact Or.inr h
  have I : q_I D vwCl A s.heap (q_ws 33 ad (cC ad cs σ)) s.heap [] := ⟨hP, hD, va_S.rf⟩
  obtain ⟨ls, hen, hl⟩ := q_entry (vs := [.ref (ad 0)]) (n := 1) (lv := [(0, .ref (ad 0))]) (by intro v hv; simp only [List.mem_cons, List.not_mem_nil, or_false] at hv; rcases hv with rfl <;> first | rfl | exact q_cat) (Nat.le_of_ble_eq_true rfl) rfl
  rw [show entryFrame m args 1 = F0 m 0 ls [] from by rw [hargs]; exact hen m]
  have C0 : q_Cx "JobTerminal" b_JT_foreground 1 (some .int) w_JT_foreground D vwCl (tyL cs) NW p s m args meth c := ⟨hx, hb, hr, hml, hown, hts, hlocks, hK, hN⟩
  unfold f_JT_foreground at hf
  have hgo : ∀ (H : Heap) (locs : List Loc), q_I D vwCl A s.heap (q_ws 33 ad (cC ad cs σ)) H locs → W p l e ({ frames := 0, cells := 0, slots := 0, locals := 0 } : Room) s m args below meth c H locs 0 0 (MQ below (q_Qi D vwCl res.1 (q_ws 33 ad (cC ad cs res.2)) A) args s 0 0 A) (F0 m 0 ls []) := by
    intro H locs I
    refine lv_aload_n hx hb d_JT_foreground_0 rfl (q_at hl 0 rfl) ?_
    refine G_JT_JT_foregroundJob hx hb htg hown hK hN I d_JT_foreground_1 ?_
    refine q_ifnonnull (tgt := 11) hx hb d_JT_foreground_4 (by decide) (fun c1 => ?_) (fun c1 => ?_)
    · rw [if_neg c1] at hf
      refine lv_aload_n hx hb d_JT_foreground_11 rfl (q_at hl 0 rfl) ?_
      refine G_JT_JT_foregroundJob hx hb htg hown hK hN I d_JT_foreground_12 ?_
      obtain ⟨o2, hf⟩ := q_grd_some hf
      rw [q_rv_ref (q_in_pos o2)]
      refine G_JT_Job_number hx hb htg hown hK hN I (q_in_lt o2) d_JT_foreground_15 ?_
      exact k_JT_foreground_18 C0 hA res σ (nI ((σ 20 0).toNatClampNeg)) hf H locs I ls (q_hsub hl [] rfl)
    · rw [if_pos c1] at hf
      refine lv_iconst (v := -1) hx hb d_JT_foreground_7 (by decide) ?_
      refine lv_goto (tgt := 18) hx hb d_JT_foreground_8 (by decide) ?_
      exact k_JT_foreground_18 C0 hA res σ (-1) hf H locs I ls (q_hsub hl [] rfl)
  exact hgo _ _ I
-- JobTerminal job
def f_JT_job_18 (σ : q_St) (y0 : Int32) : Option (Int32 × q_St) := some (y0, σ)
set_option maxHeartbeats 4000000 in
set_option maxRecDepth 100000 in
theorem k_JT_job_18 {p : Program} {l : Launch} {e : Env} {s : State} {m : MethodId} {args : Array Value} {below : List Frame} {meth : Method} {c : Code} {D : va_G} {A : Nat → Prop} {ad : Nat → Nat} {cs : Nat → ClassId} (C0 : q_Cx "JobTerminal" b_JT_job 3 (some .int) w_JT_job D vwCl (tyL cs) NW p s m args meth c) (hA : ∀ q, s.heap.size ≤ q → A q) (res : (Int32 × q_St)) : ∀ (σ : q_St) (y0 : Int32) , f_JT_job_18 σ y0 = some res → ∀ (H : Heap) (locs : List Loc), q_I D vwCl A s.heap (q_ws 33 ad (cC ad cs σ)) H locs → ∀ ls : Array Slot, q_has ls 3 [] → W p l e ({ frames := 2, cells := 0, slots := 0, locals := 42 } : Room) s m args below meth c H locs 0 0 (MQ below (q_Qi D vwCl res.1 (q_ws 33 ad (cC ad cs res.2)) A) args s 0 0 A) (F0 m 18 ls [.int y0]) := by
  intro σ y0 hf H locs I ls hl
  unfold f_JT_job_18 at hf
  obtain ⟨hx, hb, hr, hml, hown, hts, hlocks, hK, hN⟩ := id C0
  have htg : ∀ w ∈ GW, w.before args s = true := fun w h => hts w (List.mem_cons_of_mem _ h)
  cases hf
  exact q_iret hx hb hr hlocks I d_JT_job_18
def f_JT_job (σ : q_St) (p1 : Int32) : Option (Int32 × q_St) := q_bnd (f_JT_findJob σ p1) (fun r1 => if r1.1 < 0 then (f_JT_job_18 r1.2 (-1)) else (q_grd (q_in r1.1 4) (q_bnd (f_Job_state r1.2 r1.1.toNatClampNeg) (fun r5 => f_JT_job_18 r5.2 r5.1))))
set_option maxHeartbeats 4000000 in
set_option maxRecDepth 100000 in
theorem c_JT_job {l : Launch} {D : va_G} {ad : Nat → Nat} {cs : Nat → ClassId} {sz : Nat} {σ : q_St} {p1 : Int32} {res : (Int32 × q_St)} (hf : f_JT_job σ p1 = some res) : Met l y_JT_job w_JT_job ({ frames := 2, cells := 0, slots := 0, locals := 42 } : Room) (q_Pre D vwCl (tyL cs) NW [.ref (ad 0), .int p1] (q_ws 33 ad (cC ad cs σ)) sz) (q_Qi D vwCl res.1 (q_ws 33 ad (cC ad cs res.2)) (va_A (q_ws 33 ad (cC ad cs σ)) sz)) 0 0 (va_A (q_ws 33 ad (cC ad cs σ)) sz) := by
  refine Met.ofW (cc := b_JT_job) (maxL := 3) (ret := (some .int)) (by decide) rfl ?_
  intro p e s m args below meth c s₁ B hml hv
  obtain ⟨hargs, hsz, hP, hK, hD0, hN⟩ := hv
  have hx := B.exec
  have hb := B.bytes
  have hr := B.returns
  have hts := atoms_spec (ws := w_JT_job) B.pre
  have hown : s.vm.findClass "JobTerminal" = some m.cls := findClass_of_methodNamed B.named
  have hlocks := B.notSynchronized
  have htg : ∀ w ∈ GW, w.before args s = true := fun w h => hts w (List.mem_cons_of_mem _ h)
  subst hsz
  have hD := hD0.self (sz := s.heap.size)
  generalize hAe : va_A (q_ws 33 ad (cC ad cs σ)) s.heap.size = A at hD ⊢
  have hA : ∀ q : Nat, s.heap.size ≤ q → A q := fun q h => by rw [← hAe]; exact Or.inr h
  have I : q_I D vwCl A s.heap (q_ws 33 ad (cC ad cs σ)) s.heap [] := ⟨hP, hD, va_S.rf⟩
  obtain ⟨ls, hen, hl⟩ := q_entry (vs := [.ref (ad 0), .int p1]) (n := 3) (lv := [(0, .ref (ad 0)), (1, .int p1)]) (by intro v hv; simp only [List.mem_cons, List.not_mem_nil, or_false] at hv; rcases hv with rfl | rfl <;> first | rfl | exact q_cat) (Nat.le_of_ble_eq_true rfl) rfl
  rw [show entryFrame m args 3 = F0 m 0 ls [] from by rw [hargs]; exact hen m]
  have C0 : q_Cx "JobTerminal" b_JT_job 3 (some .int) w_JT_job D vwCl (tyL cs) NW p s m args meth c := ⟨hx, hb, hr, hml, hown, hts, hlocks, hK, hN⟩
  unfold f_JT_job at hf
  have hgo : ∀ (H : Heap) (locs : List Loc), q_I D vwCl A s.heap (q_ws 33 ad (cC ad cs σ)) H locs → W p l e ({ frames := 2, cells := 0, slots := 0, locals := 42 } : Room) s m args below meth c H locs 0 0 (MQ below (q_Qi D vwCl res.1 (q_ws 33 ad (cC ad cs res.2)) A) args s 0 0 A) (F0 m 0 ls []) := by
    intro H locs I
    refine lv_aload_n hx hb d_JT_job_0 rfl (q_at hl 0 rfl) ?_
    refine lv_iload_n hx hb d_JT_job_1 rfl (q_at hl 1 rfl) ?_
    obtain ⟨r1, e2, hf⟩ := q_bnd_some hf
    refine q_kq hA I (q_runV (C := "JobTerminal") (As := [.int p1]) (rest := []) ⟨hx, hb, hml, hown, hts⟩ (c_JT_findJob (sz := H.size) e2) (cwV 1 hts (q_goodV mw214 mw215 mw216 mw217 mw184) rfl rfl rfl (by decide +kernel) ⟨Nat.le_of_ble_eq_true rfl, Nat.le_of_ble_eq_true rfl⟩) NW_ok hK hN I rfl (q_wsE (by decide) (a_C_JT)) rfl (q_sz hl) rfl (Nat.le_of_ble_eq_true rfl) d_JT_job_2 ⟨Nat.zero_le _, Nat.zero_le _⟩) (fun H locs I => ?_)
    refine q_astoreV_n (lv' := [(2, q_rv ad 17 r1.1), (0, .ref (ad 0)), (1, .int p1)]) hx hb d_JT_job_5 rfl hl (by decide) rfl (fun ls hl => ?_)
    refine q_aload_n hx hb d_JT_job_6 rfl (q_at hl 0 rfl) ?_
    refine q_ifnonnull (tgt := 14) hx hb d_JT_job_7 (by decide) (fun c3 => ?_) (fun c3 => ?_)
    · rw [if_neg c3] at hf
      refine q_aload_n hx hb d_JT_job_14 rfl (q_at hl 0 rfl) ?_
      obtain ⟨o4, hf⟩ := q_grd_some hf
      rw [q_rv_ref (q_in_pos o4)]
      obtain ⟨r5, e6, hf⟩ := q_bnd_some hf
      refine q_ki hA I (q_runV (C := "JobTerminal$Job") (As := []) (rest := []) ⟨hx, hb, hml, hown, hts⟩ (c_Job_state (sz := H.size) (q_in_lt o4) e6) (cwV 0 hts (q_goodV mw175 mw176 mw177 mw178 mw179) rfl rfl rfl (by decide +kernel) ⟨Nat.le_of_ble_eq_true rfl, Nat.le_of_ble_eq_true rfl⟩) NW_ok hK hN I rfl (q_wsE (Nat.lt_of_lt_of_le (Nat.add_lt_add_left (q_in_lt o4) _) (by decide)) (a_C_Job (q_in_lt o4))) rfl (q_sz hl) rfl (Nat.le_of_ble_eq_true rfl) d_JT_job_15 ⟨Nat.zero_le _, Nat.zero_le _⟩) (fun H locs I => ?_)
      exact k_JT_job_18 C0 hA res r5.2 r5.1 hf H locs I ls (q_hsub hl [] rfl)
    · rw [if_pos c3] at hf
      refine lv_iconst (v := -1) hx hb d_JT_job_10 (by decide) ?_
      refine lv_goto (tgt := 18) hx hb d_JT_job_11 (by decide) ?_
      exact k_JT_job_18 C0 hA res r1.2 (-1) hf H locs I ls (q_hsub hl [] rfl)
  exact hgo _ _ I
-- JobTerminal process
def f_JT_process_10 (σ : q_St) : Option (Int32 × q_St) := some (-1, σ)
set_option maxHeartbeats 4000000 in
set_option maxRecDepth 100000 in
theorem k_JT_process_10 {p : Program} {l : Launch} {e : Env} {s : State} {m : MethodId} {args : Array Value} {below : List Frame} {meth : Method} {c : Code} {D : va_G} {A : Nat → Prop} {ad : Nat → Nat} {cs : Nat → ClassId} (C0 : q_Cx "JobTerminal" b_JT_process 3 (some .int) w_JT_process D vwCl (tyL cs) NW p s m args meth c) (hA : ∀ q, s.heap.size ≤ q → A q) (res : (Int32 × q_St)) : ∀ (σ : q_St) , f_JT_process_10 σ  = some res → ∀ (H : Heap) (locs : List Loc), q_I D vwCl A s.heap (q_ws 33 ad (cC ad cs σ)) H locs → ∀ ls : Array Slot, q_has ls 3 [] → W p l e ({ frames := 1, cells := 0, slots := 0, locals := 21 } : Room) s m args below meth c H locs 0 0 (MQ below (q_Qi D vwCl res.1 (q_ws 33 ad (cC ad cs res.2)) A) args s 0 0 A) (F0 m 10 ls []) := by
  intro σ  hf H locs I ls hl
  unfold f_JT_process_10 at hf
  obtain ⟨hx, hb, hr, hml, hown, hts, hlocks, hK, hN⟩ := id C0
  have htg : ∀ w ∈ GW, w.before args s = true := fun w h => hts w (List.mem_cons_of_mem _ h)
  refine lv_iconst (v := -1) hx hb d_JT_process_10 (by decide) ?_
  cases hf
  exact q_iret hx hb hr hlocks I d_JT_process_11
def f_JT_process (σ : q_St) (p1 : Int32) (p2 : Int32) : Option (Int32 × q_St) := if p1 < 0 then (f_JT_process_10 σ) else (if p1 < 8 then (q_grd (q_in p1 8) (q_bnd (f_JobProcess_look σ p1.toNatClampNeg p2) (fun r4 => some (r4.1, r4.2)))) else (f_JT_process_10 σ))
set_option maxHeartbeats 4000000 in
set_option maxRecDepth 100000 in
theorem c_JT_process {l : Launch} {D : va_G} {ad : Nat → Nat} {cs : Nat → ClassId} {sz : Nat} {σ : q_St} {p1 : Int32} {p2 : Int32} {res : (Int32 × q_St)} (hf : f_JT_process σ p1 p2 = some res) : Met l y_JT_process w_JT_process ({ frames := 1, cells := 0, slots := 0, locals := 21 } : Room) (q_Pre D vwCl (tyL cs) NW [.ref (ad 0), .int p1, .int p2] (q_ws 33 ad (cC ad cs σ)) sz) (q_Qi D vwCl res.1 (q_ws 33 ad (cC ad cs res.2)) (va_A (q_ws 33 ad (cC ad cs σ)) sz)) 0 0 (va_A (q_ws 33 ad (cC ad cs σ)) sz) := by
  refine Met.ofW (cc := b_JT_process) (maxL := 3) (ret := (some .int)) (by decide) rfl ?_
  intro p e s m args below meth c s₁ B hml hv
  obtain ⟨hargs, hsz, hP, hK, hD0, hN⟩ := hv
  have hx := B.exec
  have hb := B.bytes
  have hr := B.returns
  have hts := atoms_spec (ws := w_JT_process) B.pre
  have hown : s.vm.findClass "JobTerminal" = some m.cls := findClass_of_methodNamed B.named
  have hlocks := B.notSynchronized
  have htg : ∀ w ∈ GW, w.before args s = true := fun w h => hts w (List.mem_cons_of_mem _ h)
  subst hsz
  have hD := hD0.self (sz := s.heap.size)
  generalize hAe : va_A (q_ws 33 ad (cC ad cs σ)) s.heap.size = A at hD ⊢
  have hA : ∀ q : Nat, s.heap.size ≤ q → A q := fun q h => by rw [← hAe]; exact Or.inr h
  have I : q_I D vwCl A s.heap (q_ws 33 ad (cC ad cs σ)) s.heap [] := ⟨hP, hD, va_S.rf⟩
  obtain ⟨ls, hen, hl⟩ := q_entry (vs := [.ref (ad 0), .int p1, .int p2]) (n := 3) (lv := [(0, .ref (ad 0)), (1, .int p1), (2, .int p2)]) (by intro v hv; simp only [List.mem_cons, List.not_mem_nil, or_false] at hv; rcases hv with rfl | rfl | rfl <;> first | rfl | exact q_cat) (Nat.le_of_ble_eq_true rfl) rfl
  rw [show entryFrame m args 3 = F0 m 0 ls [] from by rw [hargs]; exact hen m]
  have C0 : q_Cx "JobTerminal" b_JT_process 3 (some .int) w_JT_process D vwCl (tyL cs) NW p s m args meth c := ⟨hx, hb, hr, hml, hown, hts, hlocks, hK, hN⟩
  unfold f_JT_process at hf
  have hgo : ∀ (H : Heap) (locs : List Loc), q_I D vwCl A s.heap (q_ws 33 ad (cC ad cs σ)) H locs → W p l e ({ frames := 1, cells := 0, slots := 0, locals := 21 } : Room) s m args below meth c H locs 0 0 (MQ below (q_Qi D vwCl res.1 (q_ws 33 ad (cC ad cs res.2)) A) args s 0 0 A) (F0 m 0 ls []) := by
    intro H locs I
    refine lv_iload_n hx hb d_JT_process_0 rfl (q_at hl 1 rfl) ?_
    refine lv_if_lt (tgt := 10) hx hb d_JT_process_1 (by decide) (fun c1 => ?_) (fun c1 => ?_)
    · rw [if_pos c1] at hf
      exact k_JT_process_10 C0 hA res σ hf H locs I ls (q_hsub hl [] rfl)
    · rw [if_neg c1] at hf
      refine lv_iload_n hx hb d_JT_process_4 rfl (q_at hl 1 rfl) ?_
      refine lv_bipush (v := 8) hx hb d_JT_process_5 (by decide) ?_
      refine lv_icmp_lt (tgt := 12) hx hb d_JT_process_7 (by decide) (fun c2 => ?_) (fun c2 => ?_)
      · rw [if_pos c2] at hf
        refine lv_aload_n hx hb d_JT_process_12 rfl (q_at hl 0 rfl) ?_
        refine G_JT_JT_processes hx hb htg hown hK hN I d_JT_process_13 ?_
        refine lv_iload_n hx hb d_JT_process_16 rfl (q_at hl 1 rfl) ?_
        obtain ⟨o3, hf⟩ := q_grd_some hf
        refine A_C_procs hx hb hK I o3 d_JT_process_17 ?_
        refine lv_iload_n hx hb d_JT_process_18 rfl (q_at hl 2 rfl) ?_
        rw [q_rv_ref (q_in_pos o3)]
        obtain ⟨r4, e5, hf⟩ := q_bnd_some hf
        refine q_ki hA I (q_runV (C := "JobTerminal$JobProcess") (As := [.int p2]) (rest := []) ⟨hx, hb, hml, hown, hts⟩ (c_JobProcess_look (sz := H.size) (q_in_lt o3) e5) (cwV 1 hts (q_goodV mw320 mw321 mw322 mw323 mw158) rfl rfl rfl (by decide +kernel) ⟨Nat.le_of_ble_eq_true rfl, Nat.le_of_ble_eq_true rfl⟩) NW_ok hK hN I rfl (q_wsE (Nat.lt_of_lt_of_le (Nat.add_lt_add_left (q_in_lt o3) _) (by decide)) (a_C_JobProcess (q_in_lt o3))) rfl (q_sz hl) rfl (Nat.le_of_ble_eq_true rfl) d_JT_process_19 ⟨Nat.zero_le _, Nat.zero_le _⟩) (fun H locs I => ?_)
        cases hf
        exact q_iret hx hb hr hlocks I d_JT_process_22
      · rw [if_neg c2] at hf
        exact k_JT_process_10 C0 hA res σ hf H locs I ls (q_hsub hl [] rfl)
  exact hgo _ _ I
-- JobTerminal shown
def f_JT_shown (σ : q_St) : Option (Int32 × q_St) := some (σ 25 0, σ)
set_option maxHeartbeats 4000000 in
set_option maxRecDepth 100000 in
theorem c_JT_shown {l : Launch} {D : va_G} {ad : Nat → Nat} {cs : Nat → ClassId} {sz : Nat} {σ : q_St} {res : (Int32 × q_St)} (hf : f_JT_shown σ  = some res) : Met l y_JT_shown w_JT_shown ({ frames := 0, cells := 0, slots := 0, locals := 0 } : Room) (q_Pre D vwCl (tyL cs) NW [.ref (ad 0)] (q_ws 33 ad (cC ad cs σ)) sz) (q_Qi D vwCl res.1 (q_ws 33 ad (cC ad cs res.2)) (va_A (q_ws 33 ad (cC ad cs σ)) sz)) 0 0 (va_A (q_ws 33 ad (cC ad cs σ)) sz) := by
  refine Met.ofW (cc := b_JT_shown) (maxL := 1) (ret := (some .int)) (by decide) rfl ?_
  intro p e s m args below meth c s₁ B hml hv
  obtain ⟨hargs, hsz, hP, hK, hD0, hN⟩ := hv
  have hx := B.exec
  have hb := B.bytes
  have hr := B.returns
  have hts := atoms_spec (ws := w_JT_shown) B.pre
  have hown : s.vm.findClass "JobTerminal" = some m.cls := findClass_of_methodNamed B.named
  have hlocks := B.notSynchronized
  have htg : ∀ w ∈ GW, w.before args s = true := fun w h => hts w (List.mem_cons_of_mem _ h)
  subst hsz
  have hD := hD0.self (sz := s.heap.size)
  generalize hAe : va_A (q_ws 33 ad (cC ad cs σ)) s.heap.size = A at hD ⊢
  have hA : ∀ q : Nat, s.heap.size ≤ q → A q := fun q h => by rw [← hAe]; exact Or.inr h
  have I : q_I D vwCl A s.heap (q_ws 33 ad (cC ad cs σ)) s.heap [] := ⟨hP, hD, va_S.rf⟩
  obtain ⟨ls, hen, hl⟩ := q_entry (vs := [.ref (ad 0)]) (n := 1) (lv := [(0, .ref (ad 0))]) (by intro v hv; simp only [List.mem_cons, List.not_mem_nil, or_false] at hv; rcases hv with rfl <;> first | rfl | exact q_cat) (Nat.le_of_ble_eq_true rfl) rfl
  rw [show entryFrame m args 1 = F0 m 0 ls [] from by rw [hargs]; exact hen m]
  have C0 : q_Cx "JobTerminal" b_JT_shown 1 (some .int) w_JT_shown D vwCl (tyL cs) NW p s m args meth c := ⟨hx, hb, hr, hml, hown, hts, hlocks, hK, hN⟩
  unfold f_JT_shown at hf
  have hgo : ∀ (H : Heap) (locs : List Loc), q_I D vwCl A s.heap (q_ws 33 ad (cC ad cs σ)) H locs → W p l e ({ frames := 0, cells := 0, slots := 0, locals := 0 } : Room) s m args below meth c H locs 0 0 (MQ below (q_Qi D vwCl res.1 (q_ws 33 ad (cC ad cs res.2)) A) args s 0 0 A) (F0 m 0 ls []) := by
    intro H locs I
    refine lv_aload_n hx hb d_JT_shown_0 rfl (q_at hl 0 rfl) ?_
    refine G_JT_JT_terminal hx hb htg hown hK hN I d_JT_shown_1 ?_
    refine G_JT_Terminal_display hx hb htg hown hK hN I d_JT_shown_4 ?_
    refine G_JT_Display_total hx hb htg hown hK hN I d_JT_shown_7 ?_
    cases hf
    exact q_iret hx hb hr hlocks I d_JT_shown_10
  exact hgo _ _ I
-- JobTerminal screen
def f_JT_screen (σ : q_St) (p1 : Int32) : Option (Int32 × q_St) := q_bnd (f_Display_codeBefore σ p1) (fun r1 => some (r1.1, r1.2))
set_option maxHeartbeats 4000000 in
set_option maxRecDepth 100000 in
theorem c_JT_screen {l : Launch} {D : va_G} {ad : Nat → Nat} {cs : Nat → ClassId} {sz : Nat} {σ : q_St} {p1 : Int32} {res : (Int32 × q_St)} (hf : f_JT_screen σ p1 = some res) : Met l y_JT_screen w_JT_screen ({ frames := 1, cells := 0, slots := 0, locals := 23 } : Room) (q_Pre D vwCl (tyL cs) NW [.ref (ad 0), .int p1] (q_ws 33 ad (cC ad cs σ)) sz) (q_Qi D vwCl res.1 (q_ws 33 ad (cC ad cs res.2)) (va_A (q_ws 33 ad (cC ad cs σ)) sz)) 0 0 (va_A (q_ws 33 ad (cC ad cs σ)) sz) := by
  refine Met.ofW (cc := b_JT_screen) (maxL := 2) (ret := (some .int)) (by decide) rfl ?_
  intro p e s m args below meth c s₁ B hml hv
  obtain ⟨hargs, hsz, hP, hK, hD0, hN⟩ := hv
  have hx := B.exec
  have hb := B.bytes
  have hr := B.returns
  have hts := atoms_spec (ws := w_JT_screen) B.pre
  have hown : s.vm.findClass "JobTerminal" = some m.cls := findClass_of_methodNamed B.named
  have hlocks := B.notSynchronized
  have htg : ∀ w ∈ GW, w.before args s = true := fun w h => hts w (List.mem_cons_of_mem _ h)
  subst hsz
  have hD := hD0.self (sz := s.heap.size)
  generalize hAe : va_A (q_ws 33 ad (cC ad cs σ)) s.heap.size = A at hD ⊢
  have hA : ∀ q : Nat, s.heap.size ≤ q → A q := fun q h => by rw [← hAe]; exact Or.inr h
  have I : q_I D vwCl A s.heap (q_ws 33 ad (cC ad cs σ)) s.heap [] := ⟨hP, hD, va_S.rf⟩
  obtain ⟨ls, hen, hl⟩ := q_entry (vs := [.ref (ad 0), .int p1]) (n := 2) (lv := [(0, .ref (ad 0)), (1, .int p1)]) (by intro v hv; simp only [List.mem_cons, List.not_mem_nil, or_false] at hv; rcases hv with rfl | rfl <;> first | rfl | exact q_cat) (Nat.le_of_ble_eq_true rfl) rfl
  rw [show entryFrame m args 2 = F0 m 0 ls [] from by rw [hargs]; exact hen m]
  have C0 : q_Cx "JobTerminal" b_JT_screen 2 (some .int) w_JT_screen D vwCl (tyL cs) NW p s m args meth c := ⟨hx, hb, hr, hml, hown, hts, hlocks, hK, hN⟩
  unfold f_JT_screen at hf
  have hgo : ∀ (H : Heap) (locs : List Loc), q_I D vwCl A s.heap (q_ws 33 ad (cC ad cs σ)) H locs → W p l e ({ frames := 1, cells := 0, slots := 0, locals := 23 } : Room) s m args below meth c H locs 0 0 (MQ below (q_Qi D vwCl res.1 (q_ws 33 ad (cC ad cs res.2)) A) args s 0 0 A) (F0 m 0 ls []) := by
    intro H locs I
    refine lv_aload_n hx hb d_JT_screen_0 rfl (q_at hl 0 rfl) ?_
    refine G_JT_JT_terminal hx hb htg hown hK hN I d_JT_screen_1 ?_
    refine G_JT_Terminal_display hx hb htg hown hK hN I d_JT_screen_4 ?_
    refine lv_iload_n hx hb d_JT_screen_7 rfl (q_at hl 1 rfl) ?_
    obtain ⟨r1, e2, hf⟩ := q_bnd_some hf
    refine q_ki hA I (q_runV (C := "JobTerminal$Display") (As := [.int p1]) (rest := []) ⟨hx, hb, hml, hown, hts⟩ (c_Display_codeBefore (sz := H.size) e2) (cwV 1 hts (q_goodV mw324 mw325 mw326 mw327 mw97) rfl rfl rfl (by decide +kernel) ⟨Nat.le_of_ble_eq_true rfl, Nat.le_of_ble_eq_true rfl⟩) NW_ok hK hN I rfl (q_wsE (by decide) (a_C_Display)) rfl (q_sz hl) rfl (Nat.le_of_ble_eq_true rfl) d_JT_screen_8 ⟨Nat.zero_le _, Nat.zero_le _⟩) (fun H locs I => ?_)
    cases hf
    exact q_iret hx hb hr hlocks I d_JT_screen_11
  exact hgo _ _ I
-- JobTerminal held
def f_JT_held_70 (σ : q_St) (y0 : Int32) : Option (Int32 × q_St) := some (y0, σ)
set_option maxHeartbeats 4000000 in
set_option maxRecDepth 100000 in
theorem k_JT_held_70 {p : Program} {l : Launch} {e : Env} {s : State} {m : MethodId} {args : Array Value} {below : List Frame} {meth : Method} {c : Code} {D : va_G} {A : Nat → Prop} {ad : Nat → Nat} {cs : Nat → ClassId} (C0 : q_Cx "JobTerminal" b_JT_held 3 (some .int) w_JT_held D vwCl (tyL cs) NW p s m args meth c) (hA : ∀ q, s.heap.size ≤ q → A q) (res : (Int32 × q_St)) : ∀ (σ : q_St) (y0 : Int32) , f_JT_held_70 σ y0 = some res → ∀ (H : Heap) (locs : List Loc), q_I D vwCl A s.heap (q_ws 33 ad (cC ad cs σ)) H locs → ∀ ls : Array Slot, q_has ls 3 [] → W p l e ({ frames := 2, cells := 0, slots := 0, locals := 42 } : Room) s m args below meth c H locs 0 0 (MQ below (q_Qi D vwCl res.1 (q_ws 33 ad (cC ad cs res.2)) A) args s 0 0 A) (F0 m 70 ls [.int y0]) := by
  intro σ y0 hf H locs I ls hl
  unfold f_JT_held_70 at hf
  obtain ⟨hx, hb, hr, hml, hown, hts, hlocks, hK, hN⟩ := id C0
  have htg : ∀ w ∈ GW, w.before args s = true := fun w h => hts w (List.mem_cons_of_mem _ h)
  cases hf
  exact q_iret hx hb hr hlocks I d_JT_held_70
def f_JT_held_59 (σ : q_St) : Option (Int32 × q_St) := f_JT_held_70 σ (-1)
set_option maxHeartbeats 4000000 in
set_option maxRecDepth 100000 in
theorem k_JT_held_59 {p : Program} {l : Launch} {e : Env} {s : State} {m : MethodId} {args : Array Value} {below : List Frame} {meth : Method} {c : Code} {D : va_G} {A : Nat → Prop} {ad : Nat → Nat} {cs : Nat → ClassId} (C0 : q_Cx "JobTerminal" b_JT_held 3 (some .int) w_JT_held D vwCl (tyL cs) NW p s m args meth c) (hA : ∀ q, s.heap.size ≤ q → A q) (res : (Int32 × q_St)) : ∀ (σ : q_St) , f_JT_held_59 σ  = some res → ∀ (H : Heap) (locs : List Loc), q_I D vwCl A s.heap (q_ws 33 ad (cC ad cs σ)) H locs → ∀ ls : Array Slot, q_has ls 3 [] → W p l e ({ frames := 2, cells := 0, slots := 0, locals := 42 } : Room) s m args below meth c H locs 0 0 (MQ below (q_Qi D vwCl res.1 (q_ws 33 ad (cC ad cs res.2)) A) args s 0 0 A) (F0 m 59 ls []) := by
  intro σ  hf H locs I ls hl
  unfold f_JT_held_59 at hf
  obtain ⟨hx, hb, hr, hml, hown, hts, hlocks, hK, hN⟩ := id C0
  have htg : ∀ w ∈ GW, w.before args s = true := fun w h => hts w (List.mem_cons_of_mem _ h)
  refine lv_iconst (v := -1) hx hb d_JT_held_59 (by decide) ?_
  refine lv_goto (tgt := 70) hx hb d_JT_held_60 (by decide) ?_
  exact k_JT_held_70 C0 hA res σ (-1) hf H locs I ls (q_hsub hl [] rfl)
def f_JT_held_47 (σ : q_St) (y0 : Int32) : Option (Int32 × q_St) := if y0 < 0 then (f_JT_held_59 σ) else (q_grd (q_in y0 4) (if (σ 29 y0.toNatClampNeg) < 0 then (f_JT_held_59 σ) else (f_JT_held_70 σ (σ 27 (2 + y0.toNatClampNeg)))))
set_option maxHeartbeats 4000000 in
set_option maxRecDepth 100000 in
theorem k_JT_held_47 {p : Program} {l : Launch} {e : Env} {s : State} {m : MethodId} {args : Array Value} {below : List Frame} {meth : Method} {c : Code} {D : va_G} {A : Nat → Prop} {ad : Nat → Nat} {cs : Nat → ClassId} (C0 : q_Cx "JobTerminal" b_JT_held 3 (some .int) w_JT_held D vwCl (tyL cs) NW p s m args meth c) (hA : ∀ q, s.heap.size ≤ q → A q) (res : (Int32 × q_St)) : ∀ (σ : q_St) (y0 : Int32) , f_JT_held_47 σ y0 = some res → ∀ (H : Heap) (locs : List Loc), q_I D vwCl A s.heap (q_ws 33 ad (cC ad cs σ)) H locs → ∀ ls : Array Slot, q_has ls 3 [] → W p l e ({ frames := 2, cells := 0, slots := 0, locals := 42 } : Room) s m args below meth c H locs 0 0 (MQ below (q_Qi D vwCl res.1 (q_ws 33 ad (cC ad cs res.2)) A) args s 0 0 A) (F0 m 47 ls [q_rv ad 17 y0]) := by
  intro σ y0 hf H locs I ls hl
  unfold f_JT_held_47 at hf
  obtain ⟨hx, hb, hr, hml, hown, hts, hlocks, hK, hN⟩ := id C0
  have htg : ∀ w ∈ GW, w.before args s = true := fun w h => hts w (List.mem_cons_of_mem _ h)
  refine q_astoreV_n (lv' := [(2, q_rv ad 17 y0)]) hx hb d_JT_held_47 rfl hl (by decide) rfl (fun ls hl => ?_)
  refine q_aload_n hx hb d_JT_held_48 rfl (q_at hl 0 rfl) ?_
  refine q_ifnull (tgt := 59) hx hb d_JT_held_49 (by decide) (fun c6 => ?_) (fun c6 => ?_)
  · rw [if_pos c6] at hf
    exact k_JT_held_59 C0 hA res σ hf H locs I ls (q_hsub hl [] rfl)
  · rw [if_neg c6] at hf
    refine q_aload_n hx hb d_JT_held_52 rfl (q_at hl 0 rfl) ?_
    obtain ⟨o7, hf⟩ := q_grd_some hf
    rw [q_rv_ref (q_in_pos o7)]
    refine G_JT_Job_second hx hb htg hown hK hN I (q_in_lt o7) d_JT_held_53 ?_
    refine q_ifnonnull (tgt := 63) hx hb d_JT_held_56 (by decide) (fun c8 => ?_) (fun c8 => ?_)
    · rw [if_neg c8] at hf
      refine q_aload_n hx hb d_JT_held_63 rfl (q_at hl 0 rfl) ?_
      rw [q_rv_ref (q_in_pos o7)]
      refine G_JT_Job_pipe hx hb htg hown hK hN I (q_in_lt o7) d_JT_held_64 ?_
      refine G_JT_NumberRow_count hx hb htg hown hK hN I (show (2 + y0.toNatClampNeg) < 6 by have := q_in_lt o7; omega) d_JT_held_67 ?_
      exact k_JT_held_70 C0 hA res σ (σ 27 (2 + y0.toNatClampNeg)) hf H locs I ls (q_hsub hl [] rfl)
    · rw [if_pos c8] at hf
      exact k_JT_held_59 C0 hA res σ hf H locs I ls (q_hsub hl [] rfl)
def f_JT_held (σ : q_St) (p1 : Int32) : Option (Int32 × q_St) := if p1 = 0 then (some (σ 27 0, σ)) else (if p1 = 1 then (some (σ 27 1, σ)) else (if 2 ≤ p1 then (q_bnd (f_JT_findJob σ (p1 - 2)) (fun r4 => f_JT_held_47 r4.2 r4.1)) else (f_JT_held_47 σ (-1))))
set_option maxHeartbeats 4000000 in
set_option maxRecDepth 100000 in
theorem c_JT_held {l : Launch} {D : va_G} {ad : Nat → Nat} {cs : Nat → ClassId} {sz : Nat} {σ : q_St} {p1 : Int32} {res : (Int32 × q_St)} (hf : f_JT_held σ p1 = some res) : Met l y_JT_held w_JT_held ({ frames := 2, cells := 0, slots := 0, locals := 42 } : Room) (q_Pre D vwCl (tyL cs) NW [.ref (ad 0), .int p1] (q_ws 33 ad (cC ad cs σ)) sz) (q_Qi D vwCl res.1 (q_ws 33 ad (cC ad cs res.2)) (va_A (q_ws 33 ad (cC ad cs σ)) sz)) 0 0 (va_A (q_ws 33 ad (cC ad cs σ)) sz) := by
  refine Met.ofW (cc := b_JT_held) (maxL := 3) (ret := (some .int)) (by decide) rfl ?_
  intro p e s m args below meth c s₁ B hml hv
  obtain ⟨hargs, hsz, hP, hK, hD0, hN⟩ := hv
  have hx := B.exec
  have hb := B.bytes
  have hr := B.returns
  have hts := atoms_spec (ws := w_JT_held) B.pre
  have hown : s.vm.findClass "JobTerminal" = some m.cls := findClass_of_methodNamed B.named
  have hlocks := B.notSynchronized
  have htg : ∀ w ∈ GW, w.before args s = true := fun w h => hts w (List.mem_cons_of_mem _ h)
  subst hsz
  have hD := hD0.self (sz := s.heap.size)
  generalize hAe : va_A (q_ws 33 ad (cC ad cs σ)) s.heap.size = A at hD ⊢
  have hA : ∀ q : Nat, s.heap.size ≤ q → A q := fun q h => by rw [← hAe]; exact Or.inr h
  have I : q_I D vwCl A s.heap (q_ws 33 ad (cC ad cs σ)) s.heap [] := ⟨hP, hD, va_S.rf⟩
  obtain ⟨ls, hen, hl⟩ := q_entry (vs := [.ref (ad 0), .int p1]) (n := 3) (lv := [(0, .ref (ad 0)), (1, .int p1)]) (by intro v hv; simp only [List.mem_cons, List.not_mem_nil, or_false] at hv; rcases hv with rfl | rfl <;> first | rfl | exact q_cat) (Nat.le_of_ble_eq_true rfl) rfl
  rw [show entryFrame m args 3 = F0 m 0 ls [] from by rw [hargs]; exact hen m]
  have C0 : q_Cx "JobTerminal" b_JT_held 3 (some .int) w_JT_held D vwCl (tyL cs) NW p s m args meth c := ⟨hx, hb, hr, hml, hown, hts, hlocks, hK, hN⟩
  unfold f_JT_held at hf
  have hgo : ∀ (H : Heap) (locs : List Loc), q_I D vwCl A s.heap (q_ws 33 ad (cC ad cs σ)) H locs → W p l e ({ frames := 2, cells := 0, slots := 0, locals := 42 } : Room) s m args below meth c H locs 0 0 (MQ below (q_Qi D vwCl res.1 (q_ws 33 ad (cC ad cs res.2)) A) args s 0 0 A) (F0 m 0 ls []) := by
    intro H locs I
    refine lv_iload_n hx hb d_JT_held_0 rfl (q_at hl 1 rfl) ?_
    refine lv_if_ne (tgt := 15) hx hb d_JT_held_1 (by decide) (fun c1 => ?_) (fun c1 => ?_)
    · rw [if_neg c1] at hf
      refine lv_iload_n hx hb d_JT_held_15 rfl (q_at hl 1 rfl) ?_
      refine lv_iconst (v := 1) hx hb d_JT_held_16 (by decide) ?_
      refine lv_icmp_ne (tgt := 31) hx hb d_JT_held_17 (by decide) (fun c2 => ?_) (fun c2 => ?_)
      · rw [if_neg c2] at hf
        refine lv_iload_n hx hb d_JT_held_31 rfl (q_at hl 1 rfl) ?_
        refine lv_iconst (v := 2) hx hb d_JT_held_32 (by decide) ?_
        refine lv_icmp_ge (tgt := 40) hx hb d_JT_held_33 (by decide) (fun c3 => ?_) (fun c3 => ?_)
        · rw [if_pos c3] at hf
          refine lv_aload_n hx hb d_JT_held_40 rfl (q_at hl 0 rfl) ?_
          refine lv_iload_n hx hb d_JT_held_41 rfl (q_at hl 1 rfl) ?_
          refine lv_iconst (v := 2) hx hb d_JT_held_42 (by decide) ?_
          refine lv_isub hx hb d_JT_held_43 ?_
          obtain ⟨r4, e5, hf⟩ := q_bnd_some hf
          refine q_kq hA I (q_runV (C := "JobTerminal") (As := [.int (p1 - 2)]) (rest := []) ⟨hx, hb, hml, hown, hts⟩ (c_JT_findJob (sz := H.size) e5) (cwV 1 hts (q_goodV mw214 mw215 mw216 mw217 mw184) rfl rfl rfl (by decide +kernel) ⟨Nat.le_of_ble_eq_true rfl, Nat.le_of_ble_eq_true rfl⟩) NW_ok hK hN I rfl (q_wsE (by decide) (a_C_JT)) rfl (q_sz hl) rfl (Nat.le_of_ble_eq_true rfl) d_JT_held_44 ⟨Nat.zero_le _, Nat.zero_le _⟩) (fun H locs I => ?_)
          exact k_JT_held_47 C0 hA res r4.2 r4.1 hf H locs I ls (q_hsub hl [] rfl)
        · rw [if_neg c3] at hf
          refine q_null (ad := ad) hx hb 17 d_JT_held_36 ?_
          refine lv_goto (tgt := 47) hx hb d_JT_held_37 (by decide) ?_
          exact k_JT_held_47 C0 hA res σ (-1) hf H locs I ls (q_hsub hl [] rfl)
      · rw [if_pos c2] at hf
        refine lv_aload_n hx hb d_JT_held_20 rfl (q_at hl 0 rfl) ?_
        refine G_JT_JT_terminal hx hb htg hown hK hN I d_JT_held_21 ?_
        refine G_JT_Terminal_queue hx hb htg hown hK hN I d_JT_held_24 ?_
        refine G_JT_NumberRow_count hx hb htg hown hK hN I (show (1 : Nat) < 6 by skip; omega) d_JT_held_27 ?_
        cases hf
        exact q_iret hx hb hr hlocks I d_JT_held_30
    · rw [if_pos c1] at hf
      refine lv_aload_n hx hb d_JT_held_4 rfl (q_at hl 0 rfl) ?_
      refine G_JT_JT_terminal hx hb htg hown hK hN I d_JT_held_5 ?_
      refine G_JT_Terminal_edit hx hb htg hown hK hN I d_JT_held_8 ?_
      refine G_JT_NumberRow_count hx hb htg hown hK hN I (show (0 : Nat) < 6 by skip; omega) d_JT_held_11 ?_
      cases hf
      exact q_iret hx hb hr hlocks I d_JT_held_14
  exact hgo _ _ I
