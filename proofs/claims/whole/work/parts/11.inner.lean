-- JobTerminal$Programs hasProgram
def f_Programs_hasProgram_14 (σ : q_St) (y0 : Int32) : Option (Int32 × q_St) := q_grd (q_isB y0) (some (y0, σ))
set_option maxHeartbeats 4000000 in
set_option maxRecDepth 100000 in
theorem k_Programs_hasProgram_14 {p : Program} {l : Launch} {e : Env} {s : State} {m : MethodId} {args : Array Value} {below : List Frame} {meth : Method} {c : Code} {D : va_G} {A : Nat → Prop} {ad : Nat → Nat} {cs : Nat → ClassId} (C0 : q_Cx "JobTerminal$Programs" b_Programs_hasProgram 1 (some .boolean) w_Programs_hasProgram D vwCl (tyL cs) NW p s m args meth c) (hA : ∀ q, s.heap.size ≤ q → A q) (res : (Int32 × q_St)) : ∀ (σ : q_St) (y0 : Int32) , f_Programs_hasProgram_14 σ y0 = some res → ∀ (H : Heap) (locs : List Loc), q_I D vwCl A s.heap (q_ws 33 ad (cC ad cs σ)) H locs → ∀ ls : Array Slot, q_has ls 1 [] → W p l e ({ frames := 0, cells := 0, slots := 0, locals := 0 } : Room) s m args below meth c H locs 0 0 (MQ below (q_Qi D vwCl res.1 (q_ws 33 ad (cC ad cs res.2)) A) args s 0 0 A) (F0 m 14 ls [.int y0]) := by
  intro σ y0 hf H locs I ls hl
  unfold f_Programs_hasProgram_14 at hf
  obtain ⟨hx, hb, hr, hml, hown, hts, hlocks, hK, hN⟩ := id C0
  have htg : ∀ w ∈ GW, w.before args s = true := fun w h => hts w (List.mem_cons_of_mem _ h)
  obtain ⟨o3, hf⟩ := q_grd_some hf
  cases hf
  exact q_zret hx hb hr hlocks o3 I d_Programs_hasProgram_14
def f_Programs_hasProgram_13 (σ : q_St) : Option (Int32 × q_St) := f_Programs_hasProgram_14 σ 0
set_option maxHeartbeats 4000000 in
set_option maxRecDepth 100000 in
theorem k_Programs_hasProgram_13 {p : Program} {l : Launch} {e : Env} {s : State} {m : MethodId} {args : Array Value} {below : List Frame} {meth : Method} {c : Code} {D : va_G} {A : Nat → Prop} {ad : Nat → Nat} {cs : Nat → ClassId} (C0 : q_Cx "JobTerminal$Programs" b_Programs_hasProgram 1 (some .boolean) w_Programs_hasProgram D vwCl (tyL cs) NW p s m args meth c) (hA : ∀ q, s.heap.size ≤ q → A q) (res : (Int32 × q_St)) : ∀ (σ : q_St) , f_Programs_hasProgram_13 σ  = some res → ∀ (H : Heap) (locs : List Loc), q_I D vwCl A s.heap (q_ws 33 ad (cC ad cs σ)) H locs → ∀ ls : Array Slot, q_has ls 1 [] → W p l e ({ frames := 0, cells := 0, slots := 0, locals := 0 } : Room) s m args below meth c H locs 0 0 (MQ below (q_Qi D vwCl res.1 (q_ws 33 ad (cC ad cs res.2)) A) args s 0 0 A) (F0 m 13 ls []) := by
  intro σ  hf H locs I ls hl
  unfold f_Programs_hasProgram_13 at hf
  obtain ⟨hx, hb, hr, hml, hown, hts, hlocks, hK, hN⟩ := id C0
  have htg : ∀ w ∈ GW, w.before args s = true := fun w h => hts w (List.mem_cons_of_mem _ h)
  refine lv_iconst (v := 0) hx hb d_Programs_hasProgram_13 (by decide) ?_
  exact k_Programs_hasProgram_14 C0 hA res σ 0 hf H locs I ls (q_hsub hl [] rfl)
def f_Programs_hasProgram (σ : q_St) (p0 : Int32) : Option (Int32 × q_St) := if p0 < 0 then (f_Programs_hasProgram_13 σ) else (if 4 ≤ p0 then (f_Programs_hasProgram_13 σ) else (f_Programs_hasProgram_14 σ 1))
set_option maxHeartbeats 4000000 in
set_option maxRecDepth 100000 in
theorem c_Programs_hasProgram {l : Launch} {D : va_G} {ad : Nat → Nat} {cs : Nat → ClassId} {sz : Nat} {σ : q_St} {p0 : Int32} {res : (Int32 × q_St)} (hf : f_Programs_hasProgram σ p0 = some res) : Met l y_Programs_hasProgram w_Programs_hasProgram ({ frames := 0, cells := 0, slots := 0, locals := 0 } : Room) (q_Pre D vwCl (tyL cs) NW [.int p0] (q_ws 33 ad (cC ad cs σ)) sz) (q_Qi D vwCl res.1 (q_ws 33 ad (cC ad cs res.2)) (va_A (q_ws 33 ad (cC ad cs σ)) sz)) 0 0 (va_A (q_ws 33 ad (cC ad cs σ)) sz) := by
  refine Met.ofW (cc := b_Programs_hasProgram) (maxL := 1) (ret := (some .boolean)) (by decide) rfl ?_
  intro p e s m args below meth c s₁ B hml hv
  obtain ⟨hargs, hsz, hP, hK, hD0, hN⟩ := hv
  have hx := B.exec
  have hb := B.bytes
  have hr := B.returns
  have hts := atoms_spec (ws := w_Programs_hasProgram) B.pre
  have hown : s.vm.findClass "JobTerminal$Programs" = some m.cls := findClass_of_methodNamed B.named
  have hlocks := B.notSynchronized
  have htg : ∀ w ∈ GW, w.before args s = true := fun w h => hts w (List.mem_cons_of_mem _ h)
  subst hsz
  have hD := hD0.self (sz := s.heap.size)
  generalize hAe : va_A (q_ws 33 ad (cC ad cs σ)) s.heap.size = A at hD ⊢
  have hA : ∀ q : Nat, s.heap.size ≤ q → A q := fun q h => by rw [← hAe]; exact Or.inr h
  have I : q_I D vwCl A s.heap (q_ws 33 ad (cC ad cs σ)) s.heap [] := ⟨hP, hD, va_S.rf⟩
  obtain ⟨ls, hen, hl⟩ := q_entry (vs := [.int p0]) (n := 1) (lv := [(0, .int p0)]) (by intro v hv; simp only [List.mem_cons, List.not_mem_nil, or_false] at hv; rcases hv with rfl <;> first | rfl | exact q_cat) (Nat.le_of_ble_eq_true rfl) rfl
  rw [show entryFrame m args 1 = F0 m 0 ls [] from by rw [hargs]; exact hen m]
  have C0 : q_Cx "JobTerminal$Programs" b_Programs_hasProgram 1 (some .boolean) w_Programs_hasProgram D vwCl (tyL cs) NW p s m args meth c := ⟨hx, hb, hr, hml, hown, hts, hlocks, hK, hN⟩
  unfold f_Programs_hasProgram at hf
  have hgo : ∀ (H : Heap) (locs : List Loc), q_I D vwCl A s.heap (q_ws 33 ad (cC ad cs σ)) H locs → W p l e ({ frames := 0, cells := 0, slots := 0, locals := 0 } : Room) s m args below meth c H locs 0 0 (MQ below (q_Qi D vwCl res.1 (q_ws 33 ad (cC ad cs res.2)) A) args s 0 0 A) (F0 m 0 ls []) := by
    intro H locs I
    refine lv_iload_n hx hb d_Programs_hasProgram_0 rfl (q_at hl 0 rfl) ?_
    refine lv_if_lt (tgt := 13) hx hb d_Programs_hasProgram_1 (by decide) (fun c1 => ?_) (fun c1 => ?_)
    · rw [if_pos c1] at hf
      exact k_Programs_hasProgram_13 C0 hA res σ hf H locs I ls (q_hsub hl [] rfl)
    · rw [if_neg c1] at hf
      refine lv_iload_n hx hb d_Programs_hasProgram_4 rfl (q_at hl 0 rfl) ?_
      refine lv_iconst (v := 4) hx hb d_Programs_hasProgram_5 (by decide) ?_
      refine lv_icmp_ge (tgt := 13) hx hb d_Programs_hasProgram_6 (by decide) (fun c2 => ?_) (fun c2 => ?_)
      · rw [if_pos c2] at hf
        exact k_Programs_hasProgram_13 C0 hA res σ hf H locs I ls (q_hsub hl [] rfl)
      · rw [if_neg c2] at hf
        refine lv_iconst (v := 1) hx hb d_Programs_hasProgram_9 (by decide) ?_
        refine lv_goto (tgt := 14) hx hb d_Programs_hasProgram_10 (by decide) ?_
        exact k_Programs_hasProgram_14 C0 hA res σ 1 hf H locs I ls (q_hsub hl [] rfl)
  exact hgo _ _ I
-- JobTerminal$Programs hasLine
def f_Programs_hasLine_15 (σ : q_St) (y0 : Int32) : Option (Int32 × q_St) := q_grd (q_isB y0) (some (y0, σ))
set_option maxHeartbeats 4000000 in
set_option maxRecDepth 100000 in
theorem k_Programs_hasLine_15 {p : Program} {l : Launch} {e : Env} {s : State} {m : MethodId} {args : Array Value} {below : List Frame} {meth : Method} {c : Code} {D : va_G} {A : Nat → Prop} {ad : Nat → Nat} {cs : Nat → ClassId} (C0 : q_Cx "JobTerminal$Programs" b_Programs_hasLine 1 (some .boolean) w_Programs_hasLine D vwCl (tyL cs) NW p s m args meth c) (hA : ∀ q, s.heap.size ≤ q → A q) (res : (Int32 × q_St)) : ∀ (σ : q_St) (y0 : Int32) , f_Programs_hasLine_15 σ y0 = some res → ∀ (H : Heap) (locs : List Loc), q_I D vwCl A s.heap (q_ws 33 ad (cC ad cs σ)) H locs → ∀ ls : Array Slot, q_has ls 1 [] → W p l e ({ frames := 0, cells := 0, slots := 0, locals := 0 } : Room) s m args below meth c H locs 0 0 (MQ below (q_Qi D vwCl res.1 (q_ws 33 ad (cC ad cs res.2)) A) args s 0 0 A) (F0 m 15 ls [.int y0]) := by
  intro σ y0 hf H locs I ls hl
  unfold f_Programs_hasLine_15 at hf
  obtain ⟨hx, hb, hr, hml, hown, hts, hlocks, hK, hN⟩ := id C0
  have htg : ∀ w ∈ GW, w.before args s = true := fun w h => hts w (List.mem_cons_of_mem _ h)
  obtain ⟨o3, hf⟩ := q_grd_some hf
  cases hf
  exact q_zret hx hb hr hlocks o3 I d_Programs_hasLine_15
def f_Programs_hasLine_14 (σ : q_St) : Option (Int32 × q_St) := f_Programs_hasLine_15 σ 0
set_option maxHeartbeats 4000000 in
set_option maxRecDepth 100000 in
theorem k_Programs_hasLine_14 {p : Program} {l : Launch} {e : Env} {s : State} {m : MethodId} {args : Array Value} {below : List Frame} {meth : Method} {c : Code} {D : va_G} {A : Nat → Prop} {ad : Nat → Nat} {cs : Nat → ClassId} (C0 : q_Cx "JobTerminal$Programs" b_Programs_hasLine 1 (some .boolean) w_Programs_hasLine D vwCl (tyL cs) NW p s m args meth c) (hA : ∀ q, s.heap.size ≤ q → A q) (res : (Int32 × q_St)) : ∀ (σ : q_St) , f_Programs_hasLine_14 σ  = some res → ∀ (H : Heap) (locs : List Loc), q_I D vwCl A s.heap (q_ws 33 ad (cC ad cs σ)) H locs → ∀ ls : Array Slot, q_has ls 1 [] → W p l e ({ frames := 0, cells := 0, slots := 0, locals := 0 } : Room) s m args below meth c H locs 0 0 (MQ below (q_Qi D vwCl res.1 (q_ws 33 ad (cC ad cs res.2)) A) args s 0 0 A) (F0 m 14 ls []) := by
  intro σ  hf H locs I ls hl
  unfold f_Programs_hasLine_14 at hf
  obtain ⟨hx, hb, hr, hml, hown, hts, hlocks, hK, hN⟩ := id C0
  have htg : ∀ w ∈ GW, w.before args s = true := fun w h => hts w (List.mem_cons_of_mem _ h)
  refine lv_iconst (v := 0) hx hb d_Programs_hasLine_14 (by decide) ?_
  exact k_Programs_hasLine_15 C0 hA res σ 0 hf H locs I ls (q_hsub hl [] rfl)
def f_Programs_hasLine (σ : q_St) (p0 : Int32) : Option (Int32 × q_St) := if p0 < 0 then (f_Programs_hasLine_14 σ) else (if 16 ≤ p0 then (f_Programs_hasLine_14 σ) else (f_Programs_hasLine_15 σ 1))
set_option maxHeartbeats 4000000 in
set_option maxRecDepth 100000 in
theorem c_Programs_hasLine {l : Launch} {D : va_G} {ad : Nat → Nat} {cs : Nat → ClassId} {sz : Nat} {σ : q_St} {p0 : Int32} {res : (Int32 × q_St)} (hf : f_Programs_hasLine σ p0 = some res) : Met l y_Programs_hasLine w_Programs_hasLine ({ frames := 0, cells := 0, slots := 0, locals := 0 } : Room) (q_Pre D vwCl (tyL cs) NW [.int p0] (q_ws 33 ad (cC ad cs σ)) sz) (q_Qi D vwCl res.1 (q_ws 33 ad (cC ad cs res.2)) (va_A (q_ws 33 ad (cC ad cs σ)) sz)) 0 0 (va_A (q_ws 33 ad (cC ad cs σ)) sz) := by
  refine Met.ofW (cc := b_Programs_hasLine) (maxL := 1) (ret := (some .boolean)) (by decide) rfl ?_
  intro p e s m args below meth c s₁ B hml hv
  obtain ⟨hargs, hsz, hP, hK, hD0, hN⟩ := hv
  have hx := B.exec
  have hb := B.bytes
  have hr := B.returns
  have hts := atoms_spec (ws := w_Programs_hasLine) B.pre
  have hown : s.vm.findClass "JobTerminal$Programs" = some m.cls := findClass_of_methodNamed B.named
  have hlocks := B.notSynchronized
  have htg : ∀ w ∈ GW, w.before args s = true := fun w h => hts w (List.mem_cons_of_mem _ h)
  subst hsz
  have hD := hD0.self (sz := s.heap.size)
  generalize hAe : va_A (q_ws 33 ad (cC ad cs σ)) s.heap.size = A at hD ⊢
  have hA : ∀ q : Nat, s.heap.size ≤ q → A q := fun q h => by rw [← hAe]; exact Or.inr h
  have I : q_I D vwCl A s.heap (q_ws 33 ad (cC ad cs σ)) s.heap [] := ⟨hP, hD, va_S.rf⟩
  obtain ⟨ls, hen, hl⟩ := q_entry (vs := [.int p0]) (n := 1) (lv := [(0, .int p0)]) (by intro v hv; simp only [List.mem_cons, List.not_mem_nil, or_false] at hv; rcases hv with rfl <;> first | rfl | exact q_cat) (Nat.le_of_ble_eq_true rfl) rfl
  rw [show entryFrame m args 1 = F0 m 0 ls [] from by rw [hargs]; exact hen m]
  have C0 : q_Cx "JobTerminal$Programs" b_Programs_hasLine 1 (some .boolean) w_Programs_hasLine D vwCl (tyL cs) NW p s m args meth c := ⟨hx, hb, hr, hml, hown, hts, hlocks, hK, hN⟩
  unfold f_Programs_hasLine at hf
  have hgo : ∀ (H : Heap) (locs : List Loc), q_I D vwCl A s.heap (q_ws 33 ad (cC ad cs σ)) H locs → W p l e ({ frames := 0, cells := 0, slots := 0, locals := 0 } : Room) s m args below meth c H locs 0 0 (MQ below (q_Qi D vwCl res.1 (q_ws 33 ad (cC ad cs res.2)) A) args s 0 0 A) (F0 m 0 ls []) := by
    intro H locs I
    refine lv_iload_n hx hb d_Programs_hasLine_0 rfl (q_at hl 0 rfl) ?_
    refine lv_if_lt (tgt := 14) hx hb d_Programs_hasLine_1 (by decide) (fun c1 => ?_) (fun c1 => ?_)
    · rw [if_pos c1] at hf
      exact k_Programs_hasLine_14 C0 hA res σ hf H locs I ls (q_hsub hl [] rfl)
    · rw [if_neg c1] at hf
      refine lv_iload_n hx hb d_Programs_hasLine_4 rfl (q_at hl 0 rfl) ?_
      refine lv_bipush (v := 16) hx hb d_Programs_hasLine_5 (by decide) ?_
      refine lv_icmp_ge (tgt := 14) hx hb d_Programs_hasLine_7 (by decide) (fun c2 => ?_) (fun c2 => ?_)
      · rw [if_pos c2] at hf
        exact k_Programs_hasLine_14 C0 hA res σ hf H locs I ls (q_hsub hl [] rfl)
      · rw [if_neg c2] at hf
        refine lv_iconst (v := 1) hx hb d_Programs_hasLine_10 (by decide) ?_
        refine lv_goto (tgt := 15) hx hb d_Programs_hasLine_11 (by decide) ?_
        exact k_Programs_hasLine_15 C0 hA res σ 1 hf H locs I ls (q_hsub hl [] rfl)
  exact hgo _ _ I
-- JobTerminal$Programs setLine
def f_Programs_setLine_39 (σ : q_St) : Option q_St := some σ
set_option maxHeartbeats 4000000 in
set_option maxRecDepth 100000 in
theorem k_Programs_setLine_39 {p : Program} {l : Launch} {e : Env} {s : State} {m : MethodId} {args : Array Value} {below : List Frame} {meth : Method} {c : Code} {D : va_G} {A : Nat → Prop} {ad : Nat → Nat} {cs : Nat → ClassId} (C0 : q_Cx "JobTerminal$Programs" b_Programs_setLine 5 none w_Programs_setLine D vwCl (tyL cs) NW p s m args meth c) (hA : ∀ q, s.heap.size ≤ q → A q) (res : q_St) : ∀ (σ : q_St) , f_Programs_setLine_39 σ  = some res → ∀ (H : Heap) (locs : List Loc), q_I D vwCl A s.heap (q_ws 33 ad (cC ad cs σ)) H locs → ∀ ls : Array Slot, q_has ls 5 [] → W p l e ({ frames := 1, cells := 0, slots := 0, locals := 20 } : Room) s m args below meth c H locs 0 0 (MQ below (q_Qv D vwCl (q_ws 33 ad (cC ad cs res)) A) args s 0 0 A) (F0 m 39 ls []) := by
  intro σ  hf H locs I ls hl
  unfold f_Programs_setLine_39 at hf
  obtain ⟨hx, hb, hr, hml, hown, hts, hlocks, hK, hN⟩ := id C0
  have htg : ∀ w ∈ GW, w.before args s = true := fun w h => hts w (List.mem_cons_of_mem _ h)
  cases hf
  exact q_vret hx hb hr hlocks I d_Programs_setLine_39
def f_Programs_setLine (σ : q_St) (p1 : Int32) (p2 : Int32) (p3 : Int32) (p4 : Int32) : Option q_St := q_bnd (f_Programs_hasProgram σ p1) (fun r1 => if r1.1 = 0 then (f_Programs_setLine_39 r1.2) else (q_bnd (f_Programs_hasLine r1.2 p2) (fun r4 => if r4.1 = 0 then (f_Programs_setLine_39 r4.2) else (q_grd (q_in ((p1 * 16) + p2) 64) (q_grd (q_in ((p1 * 16) + p2) 64) (f_Programs_setLine_39 (q_up (q_up r4.2 0 ((p1 * 16) + p2).toNatClampNeg p3) 1 ((p1 * 16) + p2).toNatClampNeg p4)))))))
set_option maxHeartbeats 4000000 in
set_option maxRecDepth 100000 in
theorem c_Programs_setLine {l : Launch} {D : va_G} {ad : Nat → Nat} {cs : Nat → ClassId} {sz : Nat} {σ : q_St} {p1 : Int32} {p2 : Int32} {p3 : Int32} {p4 : Int32} {res : q_St} (hf : f_Programs_setLine σ p1 p2 p3 p4 = some res) : Met l y_Programs_setLine w_Programs_setLine ({ frames := 1, cells := 0, slots := 0, locals := 20 } : Room) (q_Pre D vwCl (tyL cs) NW [.ref (ad 1), .int p1, .int p2, .int p3, .int p4] (q_ws 33 ad (cC ad cs σ)) sz) (q_Qv D vwCl (q_ws 33 ad (cC ad cs res)) (va_A (q_ws 33 ad (cC ad cs σ)) sz)) 0 0 (va_A (q_ws 33 ad (cC ad cs σ)) sz) := by
  refine Met.ofW (cc := b_Programs_setLine) (maxL := 5) (ret := none) (by decide) rfl ?_
  intro p e s m args below meth c s₁ B hml hv
  obtain ⟨hargs, hsz, hP, hK, hD0, hN⟩ := hv
  have hx := B.exec
  have hb := B.bytes
  have hr := B.returns
  have hts := atoms_spec (ws := w_Programs_setLine) B.pre
  have hown : s.vm.findClass "JobTerminal$Programs" = some m.cls := findClass_of_methodNamed B.named
  have hlocks := B.notSynchronized
  have htg : ∀ w ∈ GW, w.before args s = true := fun w h => hts w (List.mem_cons_of_mem _ h)
  subst hsz
  have hD := hD0.self (sz := s.heap.size)
  generalize hAe : va_A (q_ws 33 ad (cC ad cs σ)) s.heap.size = A at hD ⊢
  have hA : ∀ q : Nat, s.heap.size ≤ q → A q := fun q h => by rw [← hAe]; exact Or.inr h
  have I : q_I D vwCl A s.heap (q_ws 33 ad (cC ad cs σ)) s.heap [] := ⟨hP, hD, va_S.rf⟩
  obtain ⟨ls, hen, hl⟩ := q_entry (vs := [.ref (ad 1), .int p1, .int p2, .int p3, .int p4]) (n := 5) (lv := [(0, .ref (ad 1)), (1, .int p1), (2, .int p2), (3, .int p3), (4, .int p4)]) (by intro v hv; simp only [List.mem_cons, List.not_mem_nil, or_false] at hv; rcases hv with rfl | rfl | rfl | rfl | rfl <;> first | rfl | exact q_cat) (Nat.le_of_ble_eq_true rfl) rfl
  rw [show entryFrame m args 5 = F0 m 0 ls [] from by rw [hargs]; exact hen m]
  have C0 : q_Cx "JobTerminal$Programs" b_Programs_setLine 5 none w_Programs_setLine D vwCl (tyL cs) NW p s m args meth c := ⟨hx, hb, hr, hml, hown, hts, hlocks, hK, hN⟩
  unfold f_Programs_setLine at hf
  have hgo : ∀ (H : Heap) (locs : List Loc), q_I D vwCl A s.heap (q_ws 33 ad (cC ad cs σ)) H locs → W p l e ({ frames := 1, cells := 0, slots := 0, locals := 20 } : Room) s m args below meth c H locs 0 0 (MQ below (q_Qv D vwCl (q_ws 33 ad (cC ad cs res)) A) args s 0 0 A) (F0 m 0 ls []) := by
    intro H locs I
    refine lv_iload_n hx hb d_Programs_setLine_0 rfl (q_at hl 1 rfl) ?_
    obtain ⟨r1, e2, hf⟩ := q_bnd_some hf
    refine q_ki hA I (q_runS (As := [.int p1]) (rest := []) ⟨hx, hb, hml, hown, hts⟩ (c_Programs_hasProgram (sz := H.size) e2) (va_cwS 1 hts (q_goodS mw66 mw67 mw68 mw69) rfl rfl rfl (by decide +kernel) ⟨Nat.le_of_ble_eq_true rfl, Nat.le_of_ble_eq_true rfl⟩) NW_ok hK hN I rfl (q_sz hl) rfl (Nat.le_of_ble_eq_true rfl) d_Programs_setLine_1 ⟨Nat.zero_le _, Nat.zero_le _⟩) (fun H locs I => ?_)
    refine lv_if_eq (tgt := 39) hx hb d_Programs_setLine_4 (by decide) (fun c3 => ?_) (fun c3 => ?_)
    · rw [if_pos c3] at hf
      exact k_Programs_setLine_39 C0 hA res r1.2 hf H locs I ls (q_hsub hl [] rfl)
    · rw [if_neg c3] at hf
      refine lv_iload_n hx hb d_Programs_setLine_7 rfl (q_at hl 2 rfl) ?_
      obtain ⟨r4, e5, hf⟩ := q_bnd_some hf
      refine q_ki hA I (q_runS (As := [.int p2]) (rest := []) ⟨hx, hb, hml, hown, hts⟩ (c_Programs_hasLine (sz := H.size) e5) (va_cwS 1 hts (q_goodS mw70 mw71 mw72 mw69) rfl rfl rfl (by decide +kernel) ⟨Nat.le_of_ble_eq_true rfl, Nat.le_of_ble_eq_true rfl⟩) NW_ok hK hN I rfl (q_sz hl) rfl (Nat.le_of_ble_eq_true rfl) d_Programs_setLine_8 ⟨Nat.zero_le _, Nat.zero_le _⟩) (fun H locs I => ?_)
      refine lv_if_eq (tgt := 39) hx hb d_Programs_setLine_11 (by decide) (fun c6 => ?_) (fun c6 => ?_)
      · rw [if_pos c6] at hf
        exact k_Programs_setLine_39 C0 hA res r4.2 hf H locs I ls (q_hsub hl [] rfl)
      · rw [if_neg c6] at hf
        refine lv_aload_n hx hb d_Programs_setLine_14 rfl (q_at hl 0 rfl) ?_
        refine G_Programs_Programs_ops hx hb htg hown hK hN I d_Programs_setLine_15 ?_
        refine lv_iload_n hx hb d_Programs_setLine_18 rfl (q_at hl 1 rfl) ?_
        refine lv_bipush (v := 16) hx hb d_Programs_setLine_19 (by decide) ?_
        refine lv_imul hx hb d_Programs_setLine_21 ?_
        refine lv_iload_n hx hb d_Programs_setLine_22 rfl (q_at hl 2 rfl) ?_
        refine lv_iadd hx hb d_Programs_setLine_23 ?_
        refine lv_iload_n hx hb d_Programs_setLine_24 rfl (q_at hl 3 rfl) ?_
        obtain ⟨o7, hf⟩ := q_grd_some hf
        refine T_C_ops hx hb hK I o7 d_Programs_setLine_25 (fun H locs I => ?_)
        refine lv_aload_n hx hb d_Programs_setLine_26 rfl (q_at hl 0 rfl) ?_
        refine G_Programs_Programs_numbers hx hb htg hown hK hN I d_Programs_setLine_27 ?_
        refine lv_iload_n hx hb d_Programs_setLine_30 rfl (q_at hl 1 rfl) ?_
        refine lv_bipush (v := 16) hx hb d_Programs_setLine_31 (by decide) ?_
        refine lv_imul hx hb d_Programs_setLine_33 ?_
        refine lv_iload_n hx hb d_Programs_setLine_34 rfl (q_at hl 2 rfl) ?_
        refine lv_iadd hx hb d_Programs_setLine_35 ?_
        refine lv_iload hx hb d_Programs_setLine_36 (q_at hl 4 rfl) ?_
        obtain ⟨o8, hf⟩ := q_grd_some hf
        refine T_C_nums hx hb hK I o8 d_Programs_setLine_38 (fun H locs I => ?_)
        exact k_Programs_setLine_39 C0 hA res (q_up (q_up r4.2 0 ((p1 * 16) + p2).toNatClampNeg p3) 1 ((p1 * 16) + p2).toNatClampNeg p4) hf H locs I ls (q_hsub hl [] rfl)
  exact hgo _ _ I
-- JobTerminal$Terminal has
def f_Terminal_has_14 (σ : q_St) (y0 : Int32) : Option (Int32 × q_St) := q_grd (q_isB y0) (some (y0, σ))
set_option maxHeartbeats 4000000 in
set_option maxRecDepth 100000 in
theorem k_Terminal_has_14 {p : Program} {l : Launch} {e : Env} {s : State} {m : MethodId} {args : Array Value} {below : List Frame} {meth : Method} {c : Code} {D : va_G} {A : Nat → Prop} {ad : Nat → Nat} {cs : Nat → ClassId} (C0 : q_Cx "JobTerminal$Terminal" b_Terminal_has 2 (some .boolean) w_Terminal_has D vwCl (tyL cs) NW p s m args meth c) (hA : ∀ q, s.heap.size ≤ q → A q) (res : (Int32 × q_St)) : ∀ (σ : q_St) (y0 : Int32) , f_Terminal_has_14 σ y0 = some res → ∀ (H : Heap) (locs : List Loc), q_I D vwCl A s.heap (q_ws 33 ad (cC ad cs σ)) H locs → ∀ ls : Array Slot, q_has ls 2 [] → W p l e ({ frames := 0, cells := 0, slots := 0, locals := 0 } : Room) s m args below meth c H locs 0 0 (MQ below (q_Qi D vwCl res.1 (q_ws 33 ad (cC ad cs res.2)) A) args s 0 0 A) (F0 m 14 ls [.int y0]) := by
  intro σ y0 hf H locs I ls hl
  unfold f_Terminal_has_14 at hf
  obtain ⟨hx, hb, hr, hml, hown, hts, hlocks, hK, hN⟩ := id C0
  have htg : ∀ w ∈ GW, w.before args s = true := fun w h => hts w (List.mem_cons_of_mem _ h)
  obtain ⟨o2, hf⟩ := q_grd_some hf
  cases hf
  exact q_zret hx hb hr hlocks o2 I d_Terminal_has_14
def f_Terminal_has (σ : q_St) (p1 : Int32) : Option (Int32 × q_St) := if ((σ 22 0) &&& p1) = 0 then (f_Terminal_has_14 σ 0) else (f_Terminal_has_14 σ 1)
set_option maxHeartbeats 4000000 in
set_option maxRecDepth 100000 in
theorem c_Terminal_has {l : Launch} {D : va_G} {ad : Nat → Nat} {cs : Nat → ClassId} {sz : Nat} {σ : q_St} {p1 : Int32} {res : (Int32 × q_St)} (hf : f_Terminal_has σ p1 = some res) : Met l y_Terminal_has w_Terminal_has ({ frames := 0, cells := 0, slots := 0, locals := 0 } : Room) (q_Pre D vwCl (tyL cs) NW [.ref (ad 6), .int p1] (q_ws 33 ad (cC ad cs σ)) sz) (q_Qi D vwCl res.1 (q_ws 33 ad (cC ad cs res.2)) (va_A (q_ws 33 ad (cC ad cs σ)) sz)) 0 0 (va_A (q_ws 33 ad (cC ad cs σ)) sz) := by
  refine Met.ofW (cc := b_Terminal_has) (maxL := 2) (ret := (some .boolean)) (by decide) rfl ?_
  intro p e s m args below meth c s₁ B hml hv
  obtain ⟨hargs, hsz, hP, hK, hD0, hN⟩ := hv
  have hx := B.exec
  have hb := B.bytes
  have hr := B.returns
  have hts := atoms_spec (ws := w_Terminal_has) B.pre
  have hown : s.vm.findClass "JobTerminal$Terminal" = some m.cls := findClass_of_methodNamed B.named
  have hlocks := B.notSynchronized
  have htg : ∀ w ∈ GW, w.before args s = true := fun w h => hts w (List.mem_cons_of_mem _ h)
  subst hsz
  have hD := hD0.self (sz := s.heap.size)
  generalize hAe : va_A (q_ws 33 ad (cC ad cs σ)) s.heap.size = A at hD ⊢
  have hA : ∀ q : Nat, s.heap.size ≤ q → A q := fun q h => by rw [← hAe]; exact Or.inr h
  have I : q_I D vwCl A s.heap (q_ws 33 ad (cC ad cs σ)) s.heap [] := ⟨hP, hD, va_S.rf⟩
  obtain ⟨ls, hen, hl⟩ := q_entry (vs := [.ref (ad 6), .int p1]) (n := 2) (lv := [(0, .ref (ad 6)), (1, .int p1)]) (by intro v hv; simp only [List.mem_cons, List.not_mem_nil, or_false] at hv; rcases hv with rfl | rfl <;> first | rfl | exact q_cat) (Nat.le_of_ble_eq_true rfl) rfl
  rw [show entryFrame m args 2 = F0 m 0 ls [] from by rw [hargs]; exact hen m]
  have C0 : q_Cx "JobTerminal$Terminal" b_Terminal_has 2 (some .boolean) w_Terminal_has D vwCl (tyL cs) NW p s m args meth c := ⟨hx, hb, hr, hml, hown, hts, hlocks, hK, hN⟩
  unfold f_Terminal_has at hf
  have hgo : ∀ (H : Heap) (locs : List Loc), q_I D vwCl A s.heap (q_ws 33 ad (cC ad cs σ)) H locs → W p l e ({ frames := 0, cells := 0, slots := 0, locals := 0 } : Room) s m args below meth c H locs 0 0 (MQ below (q_Qi D vwCl res.1 (q_ws 33 ad (cC ad cs res.2)) A) args s 0 0 A) (F0 m 0 ls []) := by
    intro H locs I
    refine lv_aload_n hx hb d_Terminal_has_0 rfl (q_at hl 0 rfl) ?_
    refine G_Terminal_Terminal_modes hx hb htg hown hK hN I d_Terminal_has_1 ?_
    refine lv_iload_n hx hb d_Terminal_has_4 rfl (q_at hl 1 rfl) ?_
    refine lv_iand hx hb d_Terminal_has_5 ?_
    refine lv_if_eq (tgt := 13) hx hb d_Terminal_has_6 (by decide) (fun c1 => ?_) (fun c1 => ?_)
    · rw [if_pos c1] at hf
      refine lv_iconst (v := 0) hx hb d_Terminal_has_13 (by decide) ?_
      exact k_Terminal_has_14 C0 hA res σ 0 hf H locs I ls (q_hsub hl [] rfl)
    · rw [if_neg c1] at hf
      refine lv_iconst (v := 1) hx hb d_Terminal_has_9 (by decide) ?_
      refine lv_goto (tgt := 14) hx hb d_Terminal_has_10 (by decide) ?_
      exact k_Terminal_has_14 C0 hA res σ 1 hf H locs I ls (q_hsub hl [] rfl)
  exact hgo _ _ I
-- JobTerminal$Terminal translate
def f_Terminal_translate_21 (σ : q_St) (y0 : Int32) : Option (Int32 × q_St) := some (y0, σ)
set_option maxHeartbeats 4000000 in
set_option maxRecDepth 100000 in
theorem k_Terminal_translate_21 {p : Program} {l : Launch} {e : Env} {s : State} {m : MethodId} {args : Array Value} {below : List Frame} {meth : Method} {c : Code} {D : va_G} {A : Nat → Prop} {ad : Nat → Nat} {cs : Nat → ClassId} (C0 : q_Cx "JobTerminal$Terminal" b_Terminal_translate 2 (some .int) w_Terminal_translate D vwCl (tyL cs) NW p s m args meth c) (hA : ∀ q, s.heap.size ≤ q → A q) (res : (Int32 × q_St)) : ∀ (σ : q_St) (y0 : Int32) , f_Terminal_translate_21 σ y0 = some res → ∀ (H : Heap) (locs : List Loc), q_I D vwCl A s.heap (q_ws 33 ad (cC ad cs σ)) H locs → ∀ ls : Array Slot, q_has ls 2 [] → W p l e ({ frames := 1, cells := 0, slots := 0, locals := 21 } : Room) s m args below meth c H locs 0 0 (MQ below (q_Qi D vwCl res.1 (q_ws 33 ad (cC ad cs res.2)) A) args s 0 0 A) (F0 m 21 ls [.int y0]) := by
  intro σ y0 hf H locs I ls hl
  unfold f_Terminal_translate_21 at hf
  obtain ⟨hx, hb, hr, hml, hown, hts, hlocks, hK, hN⟩ := id C0
  have htg : ∀ w ∈ GW, w.before args s = true := fun w h => hts w (List.mem_cons_of_mem _ h)
  cases hf
  exact q_iret hx hb hr hlocks I d_Terminal_translate_21
def f_Terminal_translate_20 (σ : q_St) (x1 : Int32) : Option (Int32 × q_St) := f_Terminal_translate_21 σ x1
set_option maxHeartbeats 4000000 in
set_option maxRecDepth 100000 in
theorem k_Terminal_translate_20 {p : Program} {l : Launch} {e : Env} {s : State} {m : MethodId} {args : Array Value} {below : List Frame} {meth : Method} {c : Code} {D : va_G} {A : Nat → Prop} {ad : Nat → Nat} {cs : Nat → ClassId} (C0 : q_Cx "JobTerminal$Terminal" b_Terminal_translate 2 (some .int) w_Terminal_translate D vwCl (tyL cs) NW p s m args meth c) (hA : ∀ q, s.heap.size ≤ q → A q) (res : (Int32 × q_St)) : ∀ (σ : q_St) (x1 : Int32) , f_Terminal_translate_20 σ x1 = some res → ∀ (H : Heap) (locs : List Loc), q_I D vwCl A s.heap (q_ws 33 ad (cC ad cs σ)) H locs → ∀ ls : Array Slot, q_has ls 2 [(1, .int x1)] → W p l e ({ frames := 1, cells := 0, slots := 0, locals := 21 } : Room) s m args below meth c H locs 0 0 (MQ below (q_Qi D vwCl res.1 (q_ws 33 ad (cC ad cs res.2)) A) args s 0 0 A) (F0 m 20 ls []) := by
  intro σ x1 hf H locs I ls hl
  unfold f_Terminal_translate_20 at hf
  obtain ⟨hx, hb, hr, hml, hown, hts, hlocks, hK, hN⟩ := id C0
  have htg : ∀ w ∈ GW, w.before args s = true := fun w h => hts w (List.mem_cons_of_mem _ h)
  refine lv_iload_n hx hb d_Terminal_translate_20 rfl (q_at hl 0 rfl) ?_
  exact k_Terminal_translate_21 C0 hA res σ x1 hf H locs I ls (q_hsub hl [] rfl)
def f_Terminal_translate (σ : q_St) (p1 : Int32) : Option (Int32 × q_St) := if p1 = 13 then (q_bnd (f_Terminal_has σ 8) (fun r2 => if r2.1 = 0 then (f_Terminal_translate_20 r2.2 p1) else (f_Terminal_translate_21 r2.2 10))) else (f_Terminal_translate_20 σ p1)
set_option maxHeartbeats 4000000 in
set_option maxRecDepth 100000 in
theorem c_Terminal_translate {l : Launch} {D : va_G} {ad : Nat → Nat} {cs : Nat → ClassId} {sz : Nat} {σ : q_St} {p1 : Int32} {res : (Int32 × q_St)} (hf : f_Terminal_translate σ p1 = some res) : Met l y_Terminal_translate w_Terminal_translate ({ frames := 1, cells := 0, slots := 0, locals := 21 } : Room) (q_Pre D vwCl (tyL cs) NW [.ref (ad 6), .int p1] (q_ws 33 ad (cC ad cs σ)) sz) (q_Qi D vwCl res.1 (q_ws 33 ad (cC ad cs res.2)) (va_A (q_ws 33 ad (cC ad cs σ)) sz)) 0 0 (va_A (q_ws 33 ad (cC ad cs σ)) sz) := by
  refine Met.ofW (cc := b_Terminal_translate) (maxL := 2) (ret := (some .int)) (by decide) rfl ?_
  intro p e s m args below meth c s₁ B hml hv
  obtain ⟨hargs, hsz, hP, hK, hD0, hN⟩ := hv
  have hx := B.exec
  have hb := B.bytes
  have hr := B.returns
  have hts := atoms_spec (ws := w_Terminal_translate) B.pre
  have hown : s.vm.findClass "JobTerminal$Terminal" = some m.cls := findClass_of_methodNamed B.named
  have hlocks := B.notSynchronized
  have htg : ∀ w ∈ GW, w.before args s = true := fun w h => hts w (List.mem_cons_of_mem _ h)
  subst hsz
  have hD := hD0.self (sz := s.heap.size)
  generalize hAe : va_A (q_ws 33 ad (cC ad cs σ)) s.heap.size = A at hD ⊢
  have hA : ∀ q : Nat, s.heap.size ≤ q → A q := fun q h => by rw [← hAe]; exact Or.inr h
  have I : q_I D vwCl A s.heap (q_ws 33 ad (cC ad cs σ)) s.heap [] := ⟨hP, hD, va_S.rf⟩
  obtain ⟨ls, hen, hl⟩ := q_entry (vs := [.ref (ad 6), .int p1]) (n := 2) (lv := [(0, .ref (ad 6)), (1, .int p1)]) (by intro v hv; simp only [List.mem_cons, List.not_mem_nil, or_false] at hv; rcases hv with rfl | rfl <;> first | rfl | exact q_cat) (Nat.le_of_ble_eq_true rfl) rfl
  rw [show entryFrame m args 2 = F0 m 0 ls [] from by rw [hargs]; exact hen m]
  have C0 : q_Cx "JobTerminal$Terminal" b_Terminal_translate 2 (some .int) w_Terminal_translate D vwCl (tyL cs) NW p s m args meth c := ⟨hx, hb, hr, hml, hown, hts, hlocks, hK, hN⟩
  unfold f_Terminal_translate at hf
  have hgo : ∀ (H : Heap) (locs : List Loc), q_I D vwCl A s.heap (q_ws 33 ad (cC ad cs σ)) H locs → W p l e ({ frames := 1, cells := 0, slots := 0, locals := 21 } : Room) s m args below meth c H locs 0 0 (MQ below (q_Qi D vwCl res.1 (q_ws 33 ad (cC ad cs res.2)) A) args s 0 0 A) (F0 m 0 ls []) := by
    intro H locs I
    refine lv_iload_n hx hb d_Terminal_translate_0 rfl (q_at hl 1 rfl) ?_
    refine lv_bipush (v := 13) hx hb d_Terminal_translate_1 (by decide) ?_
    refine lv_icmp_ne (tgt := 20) hx hb d_Terminal_translate_3 (by decide) (fun c1 => ?_) (fun c1 => ?_)
    · rw [if_neg c1] at hf
      exact k_Terminal_translate_20 C0 hA res σ p1 hf H locs I ls (q_hsub hl [1] rfl)
    · rw [if_pos c1] at hf
      refine lv_aload_n hx hb d_Terminal_translate_6 rfl (q_at hl 0 rfl) ?_
      refine lv_bipush (v := 8) hx hb d_Terminal_translate_7 (by decide) ?_
      obtain ⟨r2, e3, hf⟩ := q_bnd_some hf
      refine q_ki hA I (q_runV (C := "JobTerminal$Terminal") (As := [.int 8]) (rest := []) ⟨hx, hb, hml, hown, hts⟩ (c_Terminal_has (sz := H.size) e3) (cwV 1 hts (q_goodV mw79 mw80 mw81 mw82 mw83) rfl rfl rfl (by decide +kernel) ⟨Nat.le_of_ble_eq_true rfl, Nat.le_of_ble_eq_true rfl⟩) NW_ok hK hN I rfl (q_wsE (by decide) (a_C_Terminal)) rfl (q_sz hl) rfl (Nat.le_of_ble_eq_true rfl) d_Terminal_translate_9 ⟨Nat.zero_le _, Nat.zero_le _⟩) (fun H locs I => ?_)
      refine lv_if_eq (tgt := 20) hx hb d_Terminal_translate_12 (by decide) (fun c4 => ?_) (fun c4 => ?_)
      · rw [if_pos c4] at hf
        exact k_Terminal_translate_20 C0 hA res r2.2 p1 hf H locs I ls (q_hsub hl [1] rfl)
      · rw [if_neg c4] at hf
        refine lv_bipush (v := 10) hx hb d_Terminal_translate_15 (by decide) ?_
        refine lv_goto (tgt := 21) hx hb d_Terminal_translate_17 (by decide) ?_
        exact k_Terminal_translate_21 C0 hA res r2.2 10 hf H locs I ls (q_hsub hl [] rfl)
  exact hgo _ _ I
-- JobTerminal$Terminal signalFor
def f_Terminal_signalFor (σ : q_St) (p1 : Int32) : Option (Int32 × q_St) := q_bnd (f_Terminal_has σ 4) (fun r1 => if r1.1 = 0 then (some (-1, r1.2)) else (if p1 = (3 : Int32) then (some (1, r1.2)) else (if p1 = (26 : Int32) then (some (7, r1.2)) else (if p1 = (28 : Int32) then (some (2, r1.2)) else (some (-1, r1.2))))))
set_option maxHeartbeats 4000000 in
set_option maxRecDepth 100000 in
theorem c_Terminal_signalFor {l : Launch} {D : va_G} {ad : Nat → Nat} {cs : Nat → ClassId} {sz : Nat} {σ : q_St} {p1 : Int32} {res : (Int32 × q_St)} (hf : f_Terminal_signalFor σ p1 = some res) : Met l y_Terminal_signalFor w_Terminal_signalFor ({ frames := 1, cells := 0, slots := 0, locals := 21 } : Room) (q_Pre D vwCl (tyL cs) NW [.ref (ad 6), .int p1] (q_ws 33 ad (cC ad cs σ)) sz) (q_Qi D vwCl res.1 (q_ws 33 ad (cC ad cs res.2)) (va_A (q_ws 33 ad (cC ad cs σ)) sz)) 0 0 (va_A (q_ws 33 ad (cC ad cs σ)) sz) := by
  refine Met.ofW (cc := b_Terminal_signalFor) (maxL := 2) (ret := (some .int)) (by decide) rfl ?_
  intro p e s m args below meth c s₁ B hml hv
  obtain ⟨hargs, hsz, hP, hK, hD0, hN⟩ := hv
  have hx := B.exec
  have hb := B.bytes
  have hr := B.returns
  have hts := atoms_spec (ws := w_Terminal_signalFor) B.pre
  have hown : s.vm.findClass "JobTerminal$Terminal" = some m.cls := findClass_of_methodNamed B.named
  have hlocks := B.notSynchronized
  have htg : ∀ w ∈ GW, w.before args s = true := fun w h => hts w (List.mem_cons_of_mem _ h)
  subst hsz
  have hD := hD0.self (sz := s.heap.size)
  generalize hAe : va_A (q_ws 33 ad (cC ad cs σ)) s.heap.size = A at hD ⊢
  have hA : ∀ q : Nat, s.heap.size ≤ q → A q := fun q h => by rw [← hAe]; exact Or.inr h
  have I : q_I D vwCl A s.heap (q_ws 33 ad (cC ad cs σ)) s.heap [] := ⟨hP, hD, va_S.rf⟩
  obtain ⟨ls, hen, hl⟩ := q_entry (vs := [.ref (ad 6), .int p1]) (n := 2) (lv := [(0, .ref (ad 6)), (1, .int p1)]) (by intro v hv; simp only [List.mem_cons, List.not_mem_nil, or_false] at hv; rcases hv with rfl | rfl <;> first | rfl | exact q_cat) (Nat.le_of_ble_eq_true rfl) rfl
  rw [show entryFrame m args 2 = F0 m 0 ls [] from by rw [hargs]; exact hen m]
  have C0 : q_Cx "JobTerminal$Terminal" b_Terminal_signalFor 2 (some .int) w_Terminal_signalFor D vwCl (tyL cs) NW p s m args meth c := ⟨hx, hb, hr, hml, hown, hts, hlocks, hK, hN⟩
  unfold f_Terminal_signalFor at hf
  have hgo : ∀ (H : Heap) (locs : List Loc), q_I D vwCl A s.heap (q_ws 33 ad (cC ad cs σ)) H locs → W p l e ({ frames := 1, cells := 0, slots := 0, locals := 21 } : Room) s m args below meth c H locs 0 0 (MQ below (q_Qi D vwCl res.1 (q_ws 33 ad (cC ad cs res.2)) A) args s 0 0 A) (F0 m 0 ls []) := by
    intro H locs I
    refine lv_aload_n hx hb d_Terminal_signalFor_0 rfl (q_at hl 0 rfl) ?_
    refine lv_iconst (v := 4) hx hb d_Terminal_signalFor_1 (by decide) ?_
    obtain ⟨r1, e2, hf⟩ := q_bnd_some hf
    refine q_ki hA I (q_runV (C := "JobTerminal$Terminal") (As := [.int 4]) (rest := []) ⟨hx, hb, hml, hown, hts⟩ (c_Terminal_has (sz := H.size) e2) (cwV 1 hts (q_goodV mw79 mw80 mw81 mw82 mw83) rfl rfl rfl (by decide +kernel) ⟨Nat.le_of_ble_eq_true rfl, Nat.le_of_ble_eq_true rfl⟩) NW_ok hK hN I rfl (q_wsE (by decide) (a_C_Terminal)) rfl (q_sz hl) rfl (Nat.le_of_ble_eq_true rfl) d_Terminal_signalFor_2 ⟨Nat.zero_le _, Nat.zero_le _⟩) (fun H locs I => ?_)
    refine lv_if_ne (tgt := 10) hx hb d_Terminal_signalFor_5 (by decide) (fun c3 => ?_) (fun c3 => ?_)
    · rw [if_neg c3] at hf
      refine lv_iload_n hx hb d_Terminal_signalFor_10 rfl (q_at hl 1 rfl) ?_
      by_cases c4 : p1 = (3 : Int32)
      · rw [if_pos c4] at hf
        refine lv_lookup (off := 33) (tgt := 44) hx hb d_Terminal_signalFor_11 (by decide) (by rw [c4] <;> rfl) (by decide) ?_
        refine lv_iconst (v := 1) hx hb d_Terminal_signalFor_44 (by decide) ?_
        cases hf
        exact q_iret hx hb hr hlocks I d_Terminal_signalFor_45
      rw [if_neg c4] at hf
      by_cases c5 : p1 = (26 : Int32)
      · rw [if_pos c5] at hf
        refine lv_lookup (off := 37) (tgt := 48) hx hb d_Terminal_signalFor_11 (by decide) (by rw [c5] <;> rfl) (by decide) ?_
        refine lv_bipush (v := 7) hx hb d_Terminal_signalFor_48 (by decide) ?_
        cases hf
        exact q_iret hx hb hr hlocks I d_Terminal_signalFor_50
      rw [if_neg c5] at hf
      by_cases c6 : p1 = (28 : Int32)
      · rw [if_pos c6] at hf
        refine lv_lookup (off := 35) (tgt := 46) hx hb d_Terminal_signalFor_11 (by decide) (by rw [c6] <;> rfl) (by decide) ?_
        refine lv_iconst (v := 2) hx hb d_Terminal_signalFor_46 (by decide) ?_
        cases hf
        exact q_iret hx hb hr hlocks I d_Terminal_signalFor_47
      rw [if_neg c6] at hf
      refine lv_lookup (off := 40) (tgt := 51) hx hb d_Terminal_signalFor_11 (by decide) (by show Op.lookupswitch.offset [(3, 33), (26, 37), (28, 35)] 40 _ = _; rw [lv_osw (a := 3) c4 (by decide), lv_osw (a := 26) c5 (by decide), lv_osw (a := 28) c6 (by decide)] <;> rfl) (by decide) ?_
      refine lv_iconst (v := -1) hx hb d_Terminal_signalFor_51 (by decide) ?_
      cases hf
      exact q_iret hx hb hr hlocks I d_Terminal_signalFor_52
    · rw [if_pos c3] at hf
      refine lv_iconst (v := -1) hx hb d_Terminal_signalFor_8 (by decide) ?_
      cases hf
      exact q_iret hx hb hr hlocks I d_Terminal_signalFor_9
  exact hgo _ _ I
-- JobTerminal$NumberRow hasRoomFor
def f_NumberRow_hasRoomFor_19 (i : Nat) (σ : q_St) (y0 : Int32) : Option (Int32 × q_St) := q_grd (q_isB y0) (some (y0, σ))
set_option maxHeartbeats 4000000 in
set_option maxRecDepth 100000 in
theorem k_NumberRow_hasRoomFor_19 {p : Program} {l : Launch} {e : Env} {s : State} {m : MethodId} {args : Array Value} {below : List Frame} {meth : Method} {c : Code} {D : va_G} {A : Nat → Prop} {ad : Nat → Nat} {cs : Nat → ClassId} (C0 : q_Cx "JobTerminal$NumberRow" b_NumberRow_hasRoomFor 2 (some .boolean) w_NumberRow_hasRoomFor D vwCl (tyL cs) NW p s m args meth c) (hA : ∀ q, s.heap.size ≤ q → A q) {i : Nat} (hi : i < 6) (res : (Int32 × q_St)) : ∀ (σ : q_St) (y0 : Int32) , f_NumberRow_hasRoomFor_19 i σ y0 = some res → ∀ (H : Heap) (locs : List Loc), q_I D vwCl A s.heap (q_ws 33 ad (cC ad cs σ)) H locs → ∀ ls : Array Slot, q_has ls 2 [] → W p l e ({ frames := 0, cells := 0, slots := 0, locals := 0 } : Room) s m args below meth c H locs 0 0 (MQ below (q_Qi D vwCl res.1 (q_ws 33 ad (cC ad cs res.2)) A) args s 0 0 A) (F0 m 19 ls [.int y0]) := by
  intro σ y0 hf H locs I ls hl
  unfold f_NumberRow_hasRoomFor_19 at hf
  obtain ⟨hx, hb, hr, hml, hown, hts, hlocks, hK, hN⟩ := id C0
  have htg : ∀ w ∈ GW, w.before args s = true := fun w h => hts w (List.mem_cons_of_mem _ h)
  obtain ⟨o2, hf⟩ := q_grd_some hf
  cases hf
  exact q_zret hx hb hr hlocks o2 I d_NumberRow_hasRoomFor_19
def f_NumberRow_hasRoomFor (σ : q_St) (i : Nat) (p1 : Int32) : Option (Int32 × q_St) := if (nI (q_rl i)) < ((σ 27 i) + p1) then (f_NumberRow_hasRoomFor_19 i σ 0) else (f_NumberRow_hasRoomFor_19 i σ 1)
set_option maxHeartbeats 4000000 in
set_option maxRecDepth 100000 in
theorem c_NumberRow_hasRoomFor {l : Launch} {D : va_G} {ad : Nat → Nat} {cs : Nat → ClassId} {sz : Nat} {σ : q_St} {i : Nat} (hi : i < 6) {p1 : Int32} {res : (Int32 × q_St)} (hf : f_NumberRow_hasRoomFor σ i p1 = some res) : Met l y_NumberRow_hasRoomFor w_NumberRow_hasRoomFor ({ frames := 0, cells := 0, slots := 0, locals := 0 } : Room) (q_Pre D vwCl (tyL cs) NW [.ref (ad (21 + i)), .int p1] (q_ws 33 ad (cC ad cs σ)) sz) (q_Qi D vwCl res.1 (q_ws 33 ad (cC ad cs res.2)) (va_A (q_ws 33 ad (cC ad cs σ)) sz)) 0 0 (va_A (q_ws 33 ad (cC ad cs σ)) sz) := by
  refine Met.ofW (cc := b_NumberRow_hasRoomFor) (maxL := 2) (ret := (some .boolean)) (by decide) rfl ?_
  intro p e s m args below meth c s₁ B hml hv
  obtain ⟨hargs, hsz, hP, hK, hD0, hN⟩ := hv
  have hx := B.exec
  have hb := B.bytes
  have hr := B.returns
  have hts := atoms_spec (ws := w_NumberRow_hasRoomFor) B.pre
  have hown : s.vm.findClass "JobTerminal$NumberRow" = some m.cls := findClass_of_methodNamed B.named
  have hlocks := B.notSynchronized
  have htg : ∀ w ∈ GW, w.before args s = true := fun w h => hts w (List.mem_cons_of_mem _ h)
  subst hsz
  have hD := hD0.self (sz := s.heap.size)
  generalize hAe : va_A (q_ws 33 ad (cC ad cs σ)) s.heap.size = A at hD ⊢
  have hA : ∀ q : Nat, s.heap.size ≤ q → A q := fun q h => by rw [← hAe]; exact Or.inr h
  have I : q_I D vwCl A s.heap (q_ws 33 ad (cC ad cs σ)) s.heap [] := ⟨hP, hD, va_S.rf⟩
  obtain ⟨ls, hen, hl⟩ := q_entry (vs := [.ref (ad (21 + i)), .int p1]) (n := 2) (lv := [(0, .ref (ad (21 + i))), (1, .int p1)]) (by intro v hv; simp only [List.mem_cons, List.not_mem_nil, or_false] at hv; rcases hv with rfl | rfl <;> first | rfl | exact q_cat) (Nat.le_of_ble_eq_true rfl) rfl
  rw [show entryFrame m args 2 = F0 m 0 ls [] from by rw [hargs]; exact hen m]
  have C0 : q_Cx "JobTerminal$NumberRow" b_NumberRow_hasRoomFor 2 (some .boolean) w_NumberRow_hasRoomFor D vwCl (tyL cs) NW p s m args meth c := ⟨hx, hb, hr, hml, hown, hts, hlocks, hK, hN⟩
  unfold f_NumberRow_hasRoomFor at hf
  have hgo : ∀ (H : Heap) (locs : List Loc), q_I D vwCl A s.heap (q_ws 33 ad (cC ad cs σ)) H locs → W p l e ({ frames := 0, cells := 0, slots := 0, locals := 0 } : Room) s m args below meth c H locs 0 0 (MQ below (q_Qi D vwCl res.1 (q_ws 33 ad (cC ad cs res.2)) A) args s 0 0 A) (F0 m 0 ls []) := by
    intro H locs I
    refine lv_aload_n hx hb d_NumberRow_hasRoomFor_0 rfl (q_at hl 0 rfl) ?_
    refine G_NumberRow_NumberRow_count hx hb htg hown hK hN I hi d_NumberRow_hasRoomFor_1 ?_
    refine lv_iload_n hx hb d_NumberRow_hasRoomFor_4 rfl (q_at hl 1 rfl) ?_
    refine lv_iadd hx hb d_NumberRow_hasRoomFor_5 ?_
    refine lv_aload_n hx hb d_NumberRow_hasRoomFor_6 rfl (q_at hl 0 rfl) ?_
    refine G_NumberRow_NumberRow_numbers hx hb htg hown hK hN I hi d_NumberRow_hasRoomFor_7 ?_
    refine L_C_rowarr hx hb hK I hi d_NumberRow_hasRoomFor_10 ?_
    refine lv_icmp_gt (tgt := 18) hx hb d_NumberRow_hasRoomFor_11 (by decide) (fun c1 => ?_) (fun c1 => ?_)
    · rw [if_pos c1] at hf
      refine lv_iconst (v := 0) hx hb d_NumberRow_hasRoomFor_18 (by decide) ?_
      exact k_NumberRow_hasRoomFor_19 C0 hA hi res σ 0 hf H locs I ls (q_hsub hl [] rfl)
    · rw [if_neg c1] at hf
      refine lv_iconst (v := 1) hx hb d_NumberRow_hasRoomFor_14 (by decide) ?_
      refine lv_goto (tgt := 19) hx hb d_NumberRow_hasRoomFor_15 (by decide) ?_
      exact k_NumberRow_hasRoomFor_19 C0 hA hi res σ 1 hf H locs I ls (q_hsub hl [] rfl)
  exact hgo _ _ I
-- JobTerminal$NumberRow placeOf
def f_NumberRow_placeOf_27 (i : Nat) (σ : q_St) (y0 : Int32) : Option (Int32 × q_St) := some (y0, σ)
set_option maxHeartbeats 4000000 in
set_option maxRecDepth 100000 in
theorem k_NumberRow_placeOf_27 {p : Program} {l : Launch} {e : Env} {s : State} {m : MethodId} {args : Array Value} {below : List Frame} {meth : Method} {c : Code} {D : va_G} {A : Nat → Prop} {ad : Nat → Nat} {cs : Nat → ClassId} (C0 : q_Cx "JobTerminal$NumberRow" b_NumberRow_placeOf 3 (some .int) w_NumberRow_placeOf D vwCl (tyL cs) NW p s m args meth c) (hA : ∀ q, s.heap.size ≤ q → A q) {i : Nat} (hi : i < 6) (res : (Int32 × q_St)) : ∀ (σ : q_St) (y0 : Int32) , f_NumberRow_placeOf_27 i σ y0 = some res → ∀ (H : Heap) (locs : List Loc), q_I D vwCl A s.heap (q_ws 33 ad (cC ad cs σ)) H locs → ∀ ls : Array Slot, q_has ls 3 [] → W p l e ({ frames := 0, cells := 0, slots := 0, locals := 0 } : Room) s m args below meth c H locs 0 0 (MQ below (q_Qi D vwCl res.1 (q_ws 33 ad (cC ad cs res.2)) A) args s 0 0 A) (F0 m 27 ls [.int y0]) := by
  intro σ y0 hf H locs I ls hl
  unfold f_NumberRow_placeOf_27 at hf
  obtain ⟨hx, hb, hr, hml, hown, hts, hlocks, hK, hN⟩ := id C0
  have htg : ∀ w ∈ GW, w.before args s = true := fun w h => hts w (List.mem_cons_of_mem _ h)
  cases hf
  exact q_iret hx hb hr hlocks I d_NumberRow_placeOf_27
def f_NumberRow_placeOf (σ : q_St) (i : Nat) (p1 : Int32) : Option (Int32 × q_St) := if ((σ 26 i) + p1) < (nI (q_rl i)) then (f_NumberRow_placeOf_27 i σ ((σ 26 i) + p1)) else (f_NumberRow_placeOf_27 i σ (((σ 26 i) + p1) - (nI (q_rl i))))
set_option maxHeartbeats 4000000 in
set_option maxRecDepth 100000 in
theorem c_NumberRow_placeOf {l : Launch} {D : va_G} {ad : Nat → Nat} {cs : Nat → ClassId} {sz : Nat} {σ : q_St} {i : Nat} (hi : i < 6) {p1 : Int32} {res : (Int32 × q_St)} (hf : f_NumberRow_placeOf σ i p1 = some res) : Met l y_NumberRow_placeOf w_NumberRow_placeOf ({ frames := 0, cells := 0, slots := 0, locals := 0 } : Room) (q_Pre D vwCl (tyL cs) NW [.ref (ad (21 + i)), .int p1] (q_ws 33 ad (cC ad cs σ)) sz) (q_Qi D vwCl res.1 (q_ws 33 ad (cC ad cs res.2)) (va_A (q_ws 33 ad (cC ad cs σ)) sz)) 0 0 (va_A (q_ws 33 ad (cC ad cs σ)) sz) := by
  refine Met.ofW (cc := b_NumberRow_placeOf) (maxL := 3) (ret := (some .int)) (by decide) rfl ?_
  intro p e s m args below meth c s₁ B hml hv
  obtain ⟨hargs, hsz, hP, hK, hD0, hN⟩ := hv
  have hx := B.exec
  have hb := B.bytes
  have hr := B.returns
  have hts := atoms_spec (ws := w_NumberRow_placeOf) B.pre
  have hown : s.vm.findClass "JobTerminal$NumberRow" = some m.cls := findClass_of_methodNamed B.named
  have hlocks := B.notSynchronized
  have htg : ∀ w ∈ GW, w.before args s = true := fun w h => hts w (List.mem_cons_of_mem _ h)
  subst hsz
  have hD := hD0.self (sz := s.heap.size)
  generalize hAe : va_A (q_ws 33 ad (cC ad cs σ)) s.heap.size = A at hD ⊢
  have hA : ∀ q : Nat, s.heap.size ≤ q → A q := fun q h => by rw [← hAe]; exact Or.inr h
  have I : q_I D vwCl A s.heap (q_ws 33 ad (cC ad cs σ)) s.heap [] := ⟨hP, hD, va_S.rf⟩
  obtain ⟨ls, hen, hl⟩ := q_entry (vs := [.ref (ad (21 + i)), .int p1]) (n := 3) (lv := [(0, .ref (ad (21 + i))), (1, .int p1)]) (by intro v hv; simp only [List.mem_cons, List.not_mem_nil, or_false] at hv; rcases hv with rfl | rfl <;> first | rfl | exact q_cat) (Nat.le_of_ble_eq_true rfl) rfl
  rw [show entryFrame m args 3 = F0 m 0 ls [] from by rw [hargs]; exact hen m]
  have C0 : q_Cx "JobTerminal$NumberRow" b_NumberRow_placeOf 3 (some .int) w_NumberRow_placeOf D vwCl (tyL cs) NW p s m args meth c := ⟨hx, hb, hr, hml, hown, hts, hlocks, hK, hN⟩
  unfold f_NumberRow_placeOf at hf
  have hgo : ∀ (H : Heap) (locs : List Loc), q_I D vwCl A s.heap (q_ws 33 ad (cC ad cs σ)) H locs → W p l e ({ frames := 0, cells := 0, slots := 0, locals := 0 } : Room) s m args below meth c H locs 0 0 (MQ below (q_Qi D vwCl res.1 (q_ws 33 ad (cC ad cs res.2)) A) args s 0 0 A) (F0 m 0 ls []) := by
    intro H locs I
    refine lv_aload_n hx hb d_NumberRow_placeOf_0 rfl (q_at hl 0 rfl) ?_
    refine G_NumberRow_NumberRow_oldest hx hb htg hown hK hN I hi d_NumberRow_placeOf_1 ?_
    refine lv_iload_n hx hb d_NumberRow_placeOf_4 rfl (q_at hl 1 rfl) ?_
    refine lv_iadd hx hb d_NumberRow_placeOf_5 ?_
    refine q_istore_n (lv' := [(2, .int ((σ 26 i) + p1)), (0, .ref (ad (21 + i))), (1, .int p1)]) hx hb d_NumberRow_placeOf_6 rfl hl (by decide) rfl (fun ls hl => ?_)
    refine lv_iload_n hx hb d_NumberRow_placeOf_7 rfl (q_at hl 0 rfl) ?_
    refine lv_aload_n hx hb d_NumberRow_placeOf_8 rfl (q_at hl 1 rfl) ?_
    refine G_NumberRow_NumberRow_numbers hx hb htg hown hK hN I hi d_NumberRow_placeOf_9 ?_
    refine L_C_rowarr hx hb hK I hi d_NumberRow_placeOf_12 ?_
    refine lv_icmp_lt (tgt := 26) hx hb d_NumberRow_placeOf_13 (by decide) (fun c1 => ?_) (fun c1 => ?_)
    · rw [if_pos c1] at hf
      refine lv_iload_n hx hb d_NumberRow_placeOf_26 rfl (q_at hl 0 rfl) ?_
      exact k_NumberRow_placeOf_27 C0 hA hi res σ ((σ 26 i) + p1) hf H locs I ls (q_hsub hl [] rfl)
    · rw [if_neg c1] at hf
      refine lv_iload_n hx hb d_NumberRow_placeOf_16 rfl (q_at hl 0 rfl) ?_
      refine lv_aload_n hx hb d_NumberRow_placeOf_17 rfl (q_at hl 1 rfl) ?_
      refine G_NumberRow_NumberRow_numbers hx hb htg hown hK hN I hi d_NumberRow_placeOf_18 ?_
      refine L_C_rowarr hx hb hK I hi d_NumberRow_placeOf_21 ?_
      refine lv_isub hx hb d_NumberRow_placeOf_22 ?_
      refine lv_goto (tgt := 27) hx hb d_NumberRow_placeOf_23 (by decide) ?_
      exact k_NumberRow_placeOf_27 C0 hA hi res σ (((σ 26 i) + p1) - (nI (q_rl i))) hf H locs I ls (q_hsub hl [] rfl)
  exact hgo _ _ I
-- JobTerminal$NumberRow isPlace
def f_NumberRow_isPlace_18 (i : Nat) (σ : q_St) (y0 : Int32) : Option (Int32 × q_St) := q_grd (q_isB y0) (some (y0, σ))
set_option maxHeartbeats 4000000 in
set_option maxRecDepth 100000 in
theorem k_NumberRow_isPlace_18 {p : Program} {l : Launch} {e : Env} {s : State} {m : MethodId} {args : Array Value} {below : List Frame} {meth : Method} {c : Code} {D : va_G} {A : Nat → Prop} {ad : Nat → Nat} {cs : Nat → ClassId} (C0 : q_Cx "JobTerminal$NumberRow" b_NumberRow_isPlace 2 (some .boolean) w_NumberRow_isPlace D vwCl (tyL cs) NW p s m args meth c) (hA : ∀ q, s.heap.size ≤ q → A q) {i : Nat} (hi : i < 6) (res : (Int32 × q_St)) : ∀ (σ : q_St) (y0 : Int32) , f_NumberRow_isPlace_18 i σ y0 = some res → ∀ (H : Heap) (locs : List Loc), q_I D vwCl A s.heap (q_ws 33 ad (cC ad cs σ)) H locs → ∀ ls : Array Slot, q_has ls 2 [] → W p l e ({ frames := 0, cells := 0, slots := 0, locals := 0 } : Room) s m args below meth c H locs 0 0 (MQ below (q_Qi D vwCl res.1 (q_ws 33 ad (cC ad cs res.2)) A) args s 0 0 A) (F0 m 18 ls [.int y0]) := by
  intro σ y0 hf H locs I ls hl
  unfold f_NumberRow_isPlace_18 at hf
  obtain ⟨hx, hb, hr, hml, hown, hts, hlocks, hK, hN⟩ := id C0
  have htg : ∀ w ∈ GW, w.before args s = true := fun w h => hts w (List.mem_cons_of_mem _ h)
  obtain ⟨o3, hf⟩ := q_grd_some hf
  cases hf
  exact q_zret hx hb hr hlocks o3 I d_NumberRow_isPlace_18
def f_NumberRow_isPlace_17 (i : Nat) (σ : q_St) : Option (Int32 × q_St) := f_NumberRow_isPlace_18 i σ 0
set_option maxHeartbeats 4000000 in
set_option maxRecDepth 100000 in
theorem k_NumberRow_isPlace_17 {p : Program} {l : Launch} {e : Env} {s : State} {m : MethodId} {args : Array Value} {below : List Frame} {meth : Method} {c : Code} {D : va_G} {A : Nat → Prop} {ad : Nat → Nat} {cs : Nat → ClassId} (C0 : q_Cx "JobTerminal$NumberRow" b_NumberRow_isPlace 2 (some .boolean) w_NumberRow_isPlace D vwCl (tyL cs) NW p s m args meth c) (hA : ∀ q, s.heap.size ≤ q → A q) {i : Nat} (hi : i < 6) (res : (Int32 × q_St)) : ∀ (σ : q_St) , f_NumberRow_isPlace_17 i σ  = some res → ∀ (H : Heap) (locs : List Loc), q_I D vwCl A s.heap (q_ws 33 ad (cC ad cs σ)) H locs → ∀ ls : Array Slot, q_has ls 2 [] → W p l e ({ frames := 0, cells := 0, slots := 0, locals := 0 } : Room) s m args below meth c H locs 0 0 (MQ below (q_Qi D vwCl res.1 (q_ws 33 ad (cC ad cs res.2)) A) args s 0 0 A) (F0 m 17 ls []) := by
  intro σ  hf H locs I ls hl
  unfold f_NumberRow_isPlace_17 at hf
  obtain ⟨hx, hb, hr, hml, hown, hts, hlocks, hK, hN⟩ := id C0
  have htg : ∀ w ∈ GW, w.before args s = true := fun w h => hts w (List.mem_cons_of_mem _ h)
  refine lv_iconst (v := 0) hx hb d_NumberRow_isPlace_17 (by decide) ?_
  exact k_NumberRow_isPlace_18 C0 hA hi res σ 0 hf H locs I ls (q_hsub hl [] rfl)
def f_NumberRow_isPlace (σ : q_St) (i : Nat) (p1 : Int32) : Option (Int32 × q_St) := if p1 < 0 then (f_NumberRow_isPlace_17 i σ) else (if (nI (q_rl i)) ≤ p1 then (f_NumberRow_isPlace_17 i σ) else (f_NumberRow_isPlace_18 i σ 1))
set_option maxHeartbeats 4000000 in
set_option maxRecDepth 100000 in
theorem c_NumberRow_isPlace {l : Launch} {D : va_G} {ad : Nat → Nat} {cs : Nat → ClassId} {sz : Nat} {σ : q_St} {i : Nat} (hi : i < 6) {p1 : Int32} {res : (Int32 × q_St)} (hf : f_NumberRow_isPlace σ i p1 = some res) : Met l y_NumberRow_isPlace w_NumberRow_isPlace ({ frames := 0, cells := 0, slots := 0, locals := 0 } : Room) (q_Pre D vwCl (tyL cs) NW [.ref (ad (21 + i)), .int p1] (q_ws 33 ad (cC ad cs σ)) sz) (q_Qi D vwCl res.1 (q_ws 33 ad (cC ad cs res.2)) (va_A (q_ws 33 ad (cC ad cs σ)) sz)) 0 0 (va_A (q_ws 33 ad (cC ad cs σ)) sz) := by
  refine Met.ofW (cc := b_NumberRow_isPlace) (maxL := 2) (ret := (some .boolean)) (by decide) rfl ?_
  intro p e s m args below meth c s₁ B hml hv
  obtain ⟨hargs, hsz, hP, hK, hD0, hN⟩ := hv
  have hx := B.exec
  have hb := B.bytes
  have hr := B.returns
  have hts := atoms_spec (ws := w_NumberRow_isPlace) B.pre
  have hown : s.vm.findClass "JobTerminal$NumberRow" = some m.cls := findClass_of_methodNamed B.named
  have hlocks := B.notSynchronized
  have htg : ∀ w ∈ GW, w.before args s = true := fun w h => hts w (List.mem_cons_of_mem _ h)
  subst hsz
  have hD := hD0.self (sz := s.heap.size)
  generalize hAe : va_A (q_ws 33 ad (cC ad cs σ)) s.heap.size = A at hD ⊢
  have hA : ∀ q : Nat, s.heap.size ≤ q → A q := fun q h => by rw [← hAe]; exact Or.inr h
  have I : q_I D vwCl A s.heap (q_ws 33 ad (cC ad cs σ)) s.heap [] := ⟨hP, hD, va_S.rf⟩
  obtain ⟨ls, hen, hl⟩ := q_entry (vs := [.ref (ad (21 + i)), .int p1]) (n := 2) (lv := [(0, .ref (ad (21 + i))), (1, .int p1)]) (by intro v hv; simp only [List.mem_cons, List.not_mem_nil, or_false] at hv; rcases hv with rfl | rfl <;> first | rfl | exact q_cat) (Nat.le_of_ble_eq_true rfl) rfl
  rw [show entryFrame m args 2 = F0 m 0 ls [] from by rw [hargs]; exact hen m]
  have C0 : q_Cx "JobTerminal$NumberRow" b_NumberRow_isPlace 2 (some .boolean) w_NumberRow_isPlace D vwCl (tyL cs) NW p s m args meth c := ⟨hx, hb, hr, hml, hown, hts, hlocks, hK, hN⟩
  unfold f_NumberRow_isPlace at hf
  have hgo : ∀ (H : Heap) (locs : List Loc), q_I D vwCl A s.heap (q_ws 33 ad (cC ad cs σ)) H locs → W p l e ({ frames := 0, cells := 0, slots := 0, locals := 0 } : Room) s m args below meth c H locs 0 0 (MQ below (q_Qi D vwCl res.1 (q_ws 33 ad (cC ad cs res.2)) A) args s 0 0 A) (F0 m 0 ls []) := by
    intro H locs I
    refine lv_iload_n hx hb d_NumberRow_isPlace_0 rfl (q_at hl 1 rfl) ?_
    refine lv_if_lt (tgt := 17) hx hb d_NumberRow_isPlace_1 (by decide) (fun c1 => ?_) (fun c1 => ?_)
    · rw [if_pos c1] at hf
      exact k_NumberRow_isPlace_17 C0 hA hi res σ hf H locs I ls (q_hsub hl [] rfl)
    · rw [if_neg c1] at hf
      refine lv_iload_n hx hb d_NumberRow_isPlace_4 rfl (q_at hl 1 rfl) ?_
      refine lv_aload_n hx hb d_NumberRow_isPlace_5 rfl (q_at hl 0 rfl) ?_
      refine G_NumberRow_NumberRow_numbers hx hb htg hown hK hN I hi d_NumberRow_isPlace_6 ?_
      refine L_C_rowarr hx hb hK I hi d_NumberRow_isPlace_9 ?_
      refine lv_icmp_ge (tgt := 17) hx hb d_NumberRow_isPlace_10 (by decide) (fun c2 => ?_) (fun c2 => ?_)
      · rw [if_pos c2] at hf
        exact k_NumberRow_isPlace_17 C0 hA hi res σ hf H locs I ls (q_hsub hl [] rfl)
      · rw [if_neg c2] at hf
        refine lv_iconst (v := 1) hx hb d_NumberRow_isPlace_13 (by decide) ?_
        refine lv_goto (tgt := 18) hx hb d_NumberRow_isPlace_14 (by decide) ?_
        exact k_NumberRow_isPlace_18 C0 hA hi res σ 1 hf H locs I ls (q_hsub hl [] rfl)
  exact hgo _ _ I
-- JobTerminal$NumberRow putLast
def f_NumberRow_putLast_46 (i : Nat) (σ : q_St) : Option q_St := some σ
set_option maxHeartbeats 4000000 in
set_option maxRecDepth 100000 in
theorem k_NumberRow_putLast_46 {p : Program} {l : Launch} {e : Env} {s : State} {m : MethodId} {args : Array Value} {below : List Frame} {meth : Method} {c : Code} {D : va_G} {A : Nat → Prop} {ad : Nat → Nat} {cs : Nat → ClassId} (C0 : q_Cx "JobTerminal$NumberRow" b_NumberRow_putLast 3 none w_NumberRow_putLast D vwCl (tyL cs) NW p s m args meth c) (hA : ∀ q, s.heap.size ≤ q → A q) {i : Nat} (hi : i < 6) (res : q_St) : ∀ (σ : q_St) , f_NumberRow_putLast_46 i σ  = some res → ∀ (H : Heap) (locs : List Loc), q_I D vwCl A s.heap (q_ws 33 ad (cC ad cs σ)) H locs → ∀ ls : Array Slot, q_has ls 3 [] → W p l e ({ frames := 1, cells := 0, slots := 0, locals := 22 } : Room) s m args below meth c H locs 0 0 (MQ below (q_Qv D vwCl (q_ws 33 ad (cC ad cs res)) A) args s 0 0 A) (F0 m 46 ls []) := by
  intro σ  hf H locs I ls hl
  unfold f_NumberRow_putLast_46 at hf
  obtain ⟨hx, hb, hr, hml, hown, hts, hlocks, hK, hN⟩ := id C0
  have htg : ∀ w ∈ GW, w.before args s = true := fun w h => hts w (List.mem_cons_of_mem _ h)
  cases hf
  exact q_vret hx hb hr hlocks I d_NumberRow_putLast_46
def f_NumberRow_putLast (σ : q_St) (i : Nat) (p1 : Int32) : Option q_St := q_bnd (f_NumberRow_placeOf σ i (σ 27 i)) (fun r1 => if (nI (q_rl i)) ≤ (r1.2 27 i) then (f_NumberRow_putLast_46 i r1.2) else (q_bnd (f_NumberRow_isPlace r1.2 i r1.1) (fun r4 => if r4.1 = 0 then (f_NumberRow_putLast_46 i r4.2) else (q_grd (q_in r1.1 (q_rl i)) (f_NumberRow_putLast_46 i (q_up (q_up r4.2 (10 + i) r1.1.toNatClampNeg p1) 27 i (((q_up r4.2 (10 + i) r1.1.toNatClampNeg p1) 27 i) + 1)))))))
set_option maxHeartbeats 4000000 in
set_option maxRecDepth 100000 in
theorem c_NumberRow_putLast {l : Launch} {D : va_G} {ad : Nat → Nat} {cs : Nat → ClassId} {sz : Nat} {σ : q_St} {i : Nat} (hi : i < 6) {p1 : Int32} {res : q_St} (hf : f_NumberRow_putLast σ i p1 = some res) : Met l y_NumberRow_putLast w_NumberRow_putLast ({ frames := 1, cells := 0, slots := 0, locals := 22 } : Room) (q_Pre D vwCl (tyL cs) NW [.ref (ad (21 + i)), .int p1] (q_ws 33 ad (cC ad cs σ)) sz) (q_Qv D vwCl (q_ws 33 ad (cC ad cs res)) (va_A (q_ws 33 ad (cC ad cs σ)) sz)) 0 0 (va_A (q_ws 33 ad (cC ad cs σ)) sz) := by
  refine Met.ofW (cc := b_NumberRow_putLast) (maxL := 3) (ret := none) (by decide) rfl ?_
  intro p e s m args below meth c s₁ B hml hv
  obtain ⟨hargs, hsz, hP, hK, hD0, hN⟩ := hv
  have hx := B.exec
  have hb := B.bytes
  have hr := B.returns
  have hts := atoms_spec (ws := w_NumberRow_putLast) B.pre
  have hown : s.vm.findClass "JobTerminal$NumberRow" = some m.cls := findClass_of_methodNamed B.named
  have hlocks := B.notSynchronized
  have htg : ∀ w ∈ GW, w.before args s = true := fun w h => hts w (List.mem_cons_of_mem _ h)
  subst hsz
  have hD := hD0.self (sz := s.heap.size)
  generalize hAe : va_A (q_ws 33 ad (cC ad cs σ)) s.heap.size = A at hD ⊢
  have hA : ∀ q : Nat, s.heap.size ≤ q → A q := fun q h => by rw [← hAe]; exact Or.inr h
  have I : q_I D vwCl A s.heap (q_ws 33 ad (cC ad cs σ)) s.heap [] := ⟨hP, hD, va_S.rf⟩
  obtain ⟨ls, hen, hl⟩ := q_entry (vs := [.ref (ad (21 + i)), .int p1]) (n := 3) (lv := [(0, .ref (ad (21 + i))), (1, .int p1)]) (by intro v hv; simp only [List.mem_cons, List.not_mem_nil, or_false] at hv; rcases hv with rfl | rfl <;> first | rfl | exact q_cat) (Nat.le_of_ble_eq_true rfl) rfl
  rw [show entryFrame m args 3 = F0 m 0 ls [] from by rw [hargs]; exact hen m]
  have C0 : q_Cx "JobTerminal$NumberRow" b_NumberRow_putLast 3 none w_NumberRow_putLast D vwCl (tyL cs) NW p s m args meth c := ⟨hx, hb, hr, hml, hown, hts, hlocks, hK, hN⟩
  unfold f_NumberRow_putLast at hf
  have hgo : ∀ (H : Heap) (locs : List Loc), q_I D vwCl A s.heap (q_ws 33 ad (cC ad cs σ)) H locs → W p l e ({ frames := 1, cells := 0, slots := 0, locals := 22 } : Room) s m args below meth c H locs 0 0 (MQ below (q_Qv D vwCl (q_ws 33 ad (cC ad cs res)) A) args s 0 0 A) (F0 m 0 ls []) := by
    intro H locs I
    refine lv_aload_n hx hb d_NumberRow_putLast_0 rfl (q_at hl 0 rfl) ?_
    refine lv_aload_n hx hb d_NumberRow_putLast_1 rfl (q_at hl 0 rfl) ?_
    refine G_NumberRow_NumberRow_count hx hb htg hown hK hN I hi d_NumberRow_putLast_2 ?_
    obtain ⟨r1, e2, hf⟩ := q_bnd_some hf
    refine q_ki hA I (q_runV (C := "JobTerminal$NumberRow") (As := [.int (σ 27 i)]) (rest := []) ⟨hx, hb, hml, hown, hts⟩ (c_NumberRow_placeOf (sz := H.size) hi e2) (cwV 1 hts (q_goodV mw84 mw85 mw86 mw87 mw88) rfl rfl rfl (by decide +kernel) ⟨Nat.le_of_ble_eq_true rfl, Nat.le_of_ble_eq_true rfl⟩) NW_ok hK hN I rfl (q_wsE (Nat.lt_of_lt_of_le (Nat.add_lt_add_left hi _) (by decide)) (a_C_NumberRow hi)) rfl (q_sz hl) rfl (Nat.le_of_ble_eq_true rfl) d_NumberRow_putLast_5 ⟨Nat.zero_le _, Nat.zero_le _⟩) (fun H locs I => ?_)
    refine q_istore_n (lv' := [(2, .int r1.1), (0, .ref (ad (21 + i))), (1, .int p1)]) hx hb d_NumberRow_putLast_8 rfl hl (by decide) rfl (fun ls hl => ?_)
    refine lv_aload_n hx hb d_NumberRow_putLast_9 rfl (q_at hl 1 rfl) ?_
    refine G_NumberRow_NumberRow_count hx hb htg hown hK hN I hi d_NumberRow_putLast_10 ?_
    refine lv_aload_n hx hb d_NumberRow_putLast_13 rfl (q_at hl 1 rfl) ?_
    refine G_NumberRow_NumberRow_numbers hx hb htg hown hK hN I hi d_NumberRow_putLast_14 ?_
    refine L_C_rowarr hx hb hK I hi d_NumberRow_putLast_17 ?_
    refine lv_icmp_ge (tgt := 46) hx hb d_NumberRow_putLast_18 (by decide) (fun c3 => ?_) (fun c3 => ?_)
    · rw [if_pos c3] at hf
      exact k_NumberRow_putLast_46 C0 hA hi res r1.2 hf H locs I ls (q_hsub hl [] rfl)
    · rw [if_neg c3] at hf
      refine lv_aload_n hx hb d_NumberRow_putLast_21 rfl (q_at hl 1 rfl) ?_
      refine lv_iload_n hx hb d_NumberRow_putLast_22 rfl (q_at hl 0 rfl) ?_
      obtain ⟨r4, e5, hf⟩ := q_bnd_some hf
      refine q_ki hA I (q_runV (C := "JobTerminal$NumberRow") (As := [.int r1.1]) (rest := []) ⟨hx, hb, hml, hown, hts⟩ (c_NumberRow_isPlace (sz := H.size) hi e5) (cwV 1 hts (q_goodV mw89 mw90 mw91 mw92 mw88) rfl rfl rfl (by decide +kernel) ⟨Nat.le_of_ble_eq_true rfl, Nat.le_of_ble_eq_true rfl⟩) NW_ok hK hN I rfl (q_wsE (Nat.lt_of_lt_of_le (Nat.add_lt_add_left hi _) (by decide)) (a_C_NumberRow hi)) rfl (q_sz hl) rfl (Nat.le_of_ble_eq_true rfl) d_NumberRow_putLast_23 ⟨Nat.zero_le _, Nat.zero_le _⟩) (fun H locs I => ?_)
      refine lv_if_eq (tgt := 46) hx hb d_NumberRow_putLast_26 (by decide) (fun c6 => ?_) (fun c6 => ?_)
      · rw [if_pos c6] at hf
        exact k_NumberRow_putLast_46 C0 hA hi res r4.2 hf H locs I ls (q_hsub hl [] rfl)
      · rw [if_neg c6] at hf
        refine lv_aload_n hx hb d_NumberRow_putLast_29 rfl (q_at hl 1 rfl) ?_
        refine G_NumberRow_NumberRow_numbers hx hb htg hown hK hN I hi d_NumberRow_putLast_30 ?_
        refine lv_iload_n hx hb d_NumberRow_putLast_33 rfl (q_at hl 0 rfl) ?_
        refine lv_iload_n hx hb d_NumberRow_putLast_34 rfl (q_at hl 2 rfl) ?_
        obtain ⟨o7, hf⟩ := q_grd_some hf
        refine T_C_rowarr hx hb hK I hi o7 d_NumberRow_putLast_35 (fun H locs I => ?_)
        refine lv_aload_n hx hb d_NumberRow_putLast_36 rfl (q_at hl 1 rfl) ?_
        refine lv_dup hx hb d_NumberRow_putLast_37 rfl ?_
        refine G_NumberRow_NumberRow_count hx hb htg hown hK hN I hi d_NumberRow_putLast_38 ?_
        refine lv_iconst (v := 1) hx hb d_NumberRow_putLast_41 (by decide) ?_
        refine lv_iadd hx hb d_NumberRow_putLast_42 ?_
        refine P_NumberRow_NumberRow_count hx hb htg hown hK hN I hi d_NumberRow_putLast_43 (fun H locs I => ?_)
        exact k_NumberRow_putLast_46 C0 hA hi res (q_up (q_up r4.2 (10 + i) r1.1.toNatClampNeg p1) 27 i (((q_up r4.2 (10 + i) r1.1.toNatClampNeg p1) 27 i) + 1)) hf H locs I ls (q_hsub hl [] rfl)
  exact hgo _ _ I
-- JobTerminal$Display add
def f_Display_add_21 (σ : q_St) (x1 : Int32) : Option q_St := q_grd (q_in (σ 24 0) 100) (some (q_up (q_up (q_up σ 2 (σ 24 0).toNatClampNeg x1) 24 0 (((q_up σ 2 (σ 24 0).toNatClampNeg x1) 24 0) + 1)) 25 0 (((q_up (q_up σ 2 (σ 24 0).toNatClampNeg x1) 24 0 (((q_up σ 2 (σ 24 0).toNatClampNeg x1) 24 0) + 1)) 25 0) + 1)))
set_option maxHeartbeats 4000000 in
set_option maxRecDepth 100000 in
theorem k_Display_add_21 {p : Program} {l : Launch} {e : Env} {s : State} {m : MethodId} {args : Array Value} {below : List Frame} {meth : Method} {c : Code} {D : va_G} {A : Nat → Prop} {ad : Nat → Nat} {cs : Nat → ClassId} (C0 : q_Cx "JobTerminal$Display" b_Display_add 2 none w_Display_add D vwCl (tyL cs) NW p s m args meth c) (hA : ∀ q, s.heap.size ≤ q → A q) (res : q_St) : ∀ (σ : q_St) (x1 : Int32) , f_Display_add_21 σ x1 = some res → ∀ (H : Heap) (locs : List Loc), q_I D vwCl A s.heap (q_ws 33 ad (cC ad cs σ)) H locs → ∀ ls : Array Slot, q_has ls 2 [(0, .ref (ad 7)), (1, .int x1)] → W p l e ({ frames := 0, cells := 0, slots := 0, locals := 0 } : Room) s m args below meth c H locs 0 0 (MQ below (q_Qv D vwCl (q_ws 33 ad (cC ad cs res)) A) args s 0 0 A) (F0 m 21 ls []) := by
  intro σ x1 hf H locs I ls hl
  unfold f_Display_add_21 at hf
  obtain ⟨hx, hb, hr, hml, hown, hts, hlocks, hK, hN⟩ := id C0
  have htg : ∀ w ∈ GW, w.before args s = true := fun w h => hts w (List.mem_cons_of_mem _ h)
  refine lv_aload_n hx hb d_Display_add_21 rfl (q_at hl 0 rfl) ?_
  refine G_Display_Display_codes hx hb htg hown hK hN I d_Display_add_22 ?_
  refine lv_aload_n hx hb d_Display_add_25 rfl (q_at hl 0 rfl) ?_
  refine G_Display_Display_next hx hb htg hown hK hN I d_Display_add_26 ?_
  refine lv_iload_n hx hb d_Display_add_29 rfl (q_at hl 1 rfl) ?_
  obtain ⟨o3, hf⟩ := q_grd_some hf
  refine T_C_codes hx hb hK I o3 d_Display_add_30 (fun H locs I => ?_)
  refine lv_aload_n hx hb d_Display_add_31 rfl (q_at hl 0 rfl) ?_
  refine lv_dup hx hb d_Display_add_32 rfl ?_
  refine G_Display_Display_next hx hb htg hown hK hN I d_Display_add_33 ?_
  refine lv_iconst (v := 1) hx hb d_Display_add_36 (by decide) ?_
  refine lv_iadd hx hb d_Display_add_37 ?_
  refine P_Display_Display_next hx hb htg hown hK hN I d_Display_add_38 (fun H locs I => ?_)
  refine lv_aload_n hx hb d_Display_add_41 rfl (q_at hl 0 rfl) ?_
  refine lv_dup hx hb d_Display_add_42 rfl ?_
  refine G_Display_Display_total hx hb htg hown hK hN I d_Display_add_43 ?_
  refine lv_iconst (v := 1) hx hb d_Display_add_46 (by decide) ?_
  refine lv_iadd hx hb d_Display_add_47 ?_
  refine P_Display_Display_total hx hb htg hown hK hN I d_Display_add_48 (fun H locs I => ?_)
  cases hf
  exact q_vret hx hb hr hlocks I d_Display_add_51
def f_Display_add_16 (σ : q_St) (x1 : Int32) : Option q_St := f_Display_add_21 (q_up σ 24 0 0) x1
set_option maxHeartbeats 4000000 in
set_option maxRecDepth 100000 in
theorem k_Display_add_16 {p : Program} {l : Launch} {e : Env} {s : State} {m : MethodId} {args : Array Value} {below : List Frame} {meth : Method} {c : Code} {D : va_G} {A : Nat → Prop} {ad : Nat → Nat} {cs : Nat → ClassId} (C0 : q_Cx "JobTerminal$Display" b_Display_add 2 none w_Display_add D vwCl (tyL cs) NW p s m args meth c) (hA : ∀ q, s.heap.size ≤ q → A q) (res : q_St) : ∀ (σ : q_St) (x1 : Int32) , f_Display_add_16 σ x1 = some res → ∀ (H : Heap) (locs : List Loc), q_I D vwCl A s.heap (q_ws 33 ad (cC ad cs σ)) H locs → ∀ ls : Array Slot, q_has ls 2 [(0, .ref (ad 7)), (1, .int x1)] → W p l e ({ frames := 0, cells := 0, slots := 0, locals := 0 } : Room) s m args below meth c H locs 0 0 (MQ below (q_Qv D vwCl (q_ws 33 ad (cC ad cs res)) A) args s 0 0 A) (F0 m 16 ls []) := by
  intro σ x1 hf H locs I ls hl
  unfold f_Display_add_16 at hf
  obtain ⟨hx, hb, hr, hml, hown, hts, hlocks, hK, hN⟩ := id C0
  have htg : ∀ w ∈ GW, w.before args s = true := fun w h => hts w (List.mem_cons_of_mem _ h)
  refine lv_aload_n hx hb d_Display_add_16 rfl (q_at hl 0 rfl) ?_
  refine lv_iconst (v := 0) hx hb d_Display_add_17 (by decide) ?_
  refine P_Display_Display_next hx hb htg hown hK hN I d_Display_add_18 (fun H locs I => ?_)
  exact k_Display_add_21 C0 hA res (q_up σ 24 0 0) x1 hf H locs I ls (q_hsub hl [0, 1] rfl)
def f_Display_add (σ : q_St) (p1 : Int32) : Option q_St := if (σ 24 0) < 0 then (f_Display_add_16 σ p1) else (if (σ 24 0) < 100 then (f_Display_add_21 σ p1) else (f_Display_add_16 σ p1))
set_option maxHeartbeats 4000000 in
set_option maxRecDepth 100000 in
theorem c_Display_add {l : Launch} {D : va_G} {ad : Nat → Nat} {cs : Nat → ClassId} {sz : Nat} {σ : q_St} {p1 : Int32} {res : q_St} (hf : f_Display_add σ p1 = some res) : Met l y_Display_add w_Display_add ({ frames := 0, cells := 0, slots := 0, locals := 0 } : Room) (q_Pre D vwCl (tyL cs) NW [.ref (ad 7), .int p1] (q_ws 33 ad (cC ad cs σ)) sz) (q_Qv D vwCl (q_ws 33 ad (cC ad cs res)) (va_A (q_ws 33 ad (cC ad cs σ)) sz)) 0 0 (va_A (q_ws 33 ad (cC ad cs σ)) sz) := by
  refine Met.ofW (cc := b_Display_add) (maxL := 2) (ret := none) (by decide) rfl ?_
  intro p e s m args below meth c s₁ B hml hv
  obtain ⟨hargs, hsz, hP, hK, hD0, hN⟩ := hv
  have hx := B.exec
  have hb := B.bytes
  have hr := B.returns
  have hts := atoms_spec (ws := w_Display_add) B.pre
  have hown : s.vm.findClass "JobTerminal$Display" = some m.cls := findClass_of_methodNamed B.named
  have hlocks := B.notSynchronized
  have htg : ∀ w ∈ GW, w.before args s = true := fun w h => hts w (List.mem_cons_of_mem _ h)
  subst hsz
  have hD := hD0.self (sz := s.heap.size)
  generalize hAe : va_A (q_ws 33 ad (cC ad cs σ)) s.heap.size = A at hD ⊢
  have hA : ∀ q : Nat, s.heap.size ≤ q → A q := fun q h => by rw [← hAe]; exact Or.inr h
  have I : q_I D vwCl A s.heap (q_ws 33 ad (cC ad cs σ)) s.heap [] := ⟨hP, hD, va_S.rf⟩
  obtain ⟨ls, hen, hl⟩ := q_entry (vs := [.ref (ad 7), .int p1]) (n := 2) (lv := [(0, .ref (ad 7)), (1, .int p1)]) (by intro v hv; simp only [List.mem_cons, List.not_mem_nil, or_false] at hv; rcases hv with rfl | rfl <;> first | rfl | exact q_cat) (Nat.le_of_ble_eq_true rfl) rfl
  rw [show entryFrame m args 2 = F0 m 0 ls [] from by rw [hargs]; exact hen m]
  have C0 : q_Cx "JobTerminal$Display" b_Display_add 2 none w_Display_add D vwCl (tyL cs) NW p s m args meth c := ⟨hx, hb, hr, hml, hown, hts, hlocks, hK, hN⟩
  unfold f_Display_add at hf
  have hgo : ∀ (H : Heap) (locs : List Loc), q_I D vwCl A s.heap (q_ws 33 ad (cC ad cs σ)) H locs → W p l e ({ frames := 0, cells := 0, slots := 0, locals := 0 } : Room) s m args below meth c H locs 0 0 (MQ below (q_Qv D vwCl (q_ws 33 ad (cC ad cs res)) A) args s 0 0 A) (F0 m 0 ls []) := by
    intro H locs I
    refine lv_aload_n hx hb d_Display_add_0 rfl (q_at hl 0 rfl) ?_
    refine G_Display_Display_next hx hb htg hown hK hN I d_Display_add_1 ?_
    refine lv_if_lt (tgt := 16) hx hb d_Display_add_4 (by decide) (fun c1 => ?_) (fun c1 => ?_)
    · rw [if_pos c1] at hf
      exact k_Display_add_16 C0 hA res σ p1 hf H locs I ls (q_hsub hl [0, 1] rfl)
    · rw [if_neg c1] at hf
      refine lv_aload_n hx hb d_Display_add_7 rfl (q_at hl 0 rfl) ?_
      refine G_Display_Display_next hx hb htg hown hK hN I d_Display_add_8 ?_
      refine lv_bipush (v := 100) hx hb d_Display_add_11 (by decide) ?_
      refine lv_icmp_lt (tgt := 21) hx hb d_Display_add_13 (by decide) (fun c2 => ?_) (fun c2 => ?_)
      · rw [if_pos c2] at hf
        exact k_Display_add_21 C0 hA res σ p1 hf H locs I ls (q_hsub hl [0, 1] rfl)
      · rw [if_neg c2] at hf
        exact k_Display_add_16 C0 hA res σ p1 hf H locs I ls (q_hsub hl [0, 1] rfl)
  exact hgo _ _ I
-- JobTerminal$Terminal show
def f_Terminal_show_24 (σ : q_St) (x1 : Int32) : Option q_St := q_bnd (f_Display_add σ x1) (fun r7 => some r7)
set_option maxHeartbeats 4000000 in
set_option maxRecDepth 100000 in
theorem k_Terminal_show_24 {p : Program} {l : Launch} {e : Env} {s : State} {m : MethodId} {args : Array Value} {below : List Frame} {meth : Method} {c : Code} {D : va_G} {A : Nat → Prop} {ad : Nat → Nat} {cs : Nat → ClassId} (C0 : q_Cx "JobTerminal$Terminal" b_Terminal_show 2 none w_Terminal_show D vwCl (tyL cs) NW p s m args meth c) (hA : ∀ q, s.heap.size ≤ q → A q) (res : q_St) : ∀ (σ : q_St) (x1 : Int32) , f_Terminal_show_24 σ x1 = some res → ∀ (H : Heap) (locs : List Loc), q_I D vwCl A s.heap (q_ws 33 ad (cC ad cs σ)) H locs → ∀ ls : Array Slot, q_has ls 2 [(0, .ref (ad 6)), (1, .int x1)] → W p l e ({ frames := 1, cells := 0, slots := 0, locals := 21 } : Room) s m args below meth c H locs 0 0 (MQ below (q_Qv D vwCl (q_ws 33 ad (cC ad cs res)) A) args s 0 0 A) (F0 m 24 ls []) := by
  intro σ x1 hf H locs I ls hl
  unfold f_Terminal_show_24 at hf
  obtain ⟨hx, hb, hr, hml, hown, hts, hlocks, hK, hN⟩ := id C0
  have htg : ∀ w ∈ GW, w.before args s = true := fun w h => hts w (List.mem_cons_of_mem _ h)
  refine lv_aload_n hx hb d_Terminal_show_24 rfl (q_at hl 0 rfl) ?_
  refine G_Terminal_Terminal_display hx hb htg hown hK hN I d_Terminal_show_25 ?_
  refine lv_iload_n hx hb d_Terminal_show_28 rfl (q_at hl 1 rfl) ?_
  obtain ⟨r7, e8, hf⟩ := q_bnd_some hf
  refine q_kv hA I (q_runV (C := "JobTerminal$Display") (As := [.int x1]) (rest := []) ⟨hx, hb, hml, hown, hts⟩ (c_Display_add (sz := H.size) e8) (cwV 1 hts (q_goodV mw93 mw94 mw95 mw96 mw97) rfl rfl rfl (by decide +kernel) ⟨Nat.le_of_ble_eq_true rfl, Nat.le_of_ble_eq_true rfl⟩) NW_ok hK hN I rfl (q_wsE (by decide) (a_C_Display)) rfl (q_sz hl) rfl (Nat.le_of_ble_eq_true rfl) d_Terminal_show_29 ⟨Nat.zero_le _, Nat.zero_le _⟩) (fun H locs I => ?_)
  cases hf
  exact q_vret hx hb hr hlocks I d_Terminal_show_32
def f_Terminal_show (σ : q_St) (p1 : Int32) : Option q_St := if p1 = 10 then (q_bnd (f_Terminal_has σ 32) (fun r2 => if r2.1 = 0 then (f_Terminal_show_24 r2.2 p1) else (q_bnd (f_Display_add r2.2 13) (fun r5 => f_Terminal_show_24 r5 p1)))) else (f_Terminal_show_24 σ p1)
set_option maxHeartbeats 4000000 in
set_option maxRecDepth 100000 in
theorem c_Terminal_show {l : Launch} {D : va_G} {ad : Nat → Nat} {cs : Nat → ClassId} {sz : Nat} {σ : q_St} {p1 : Int32} {res : q_St} (hf : f_Terminal_show σ p1 = some res) : Met l y_Terminal_show w_Terminal_show ({ frames := 1, cells := 0, slots := 0, locals := 21 } : Room) (q_Pre D vwCl (tyL cs) NW [.ref (ad 6), .int p1] (q_ws 33 ad (cC ad cs σ)) sz) (q_Qv D vwCl (q_ws 33 ad (cC ad cs res)) (va_A (q_ws 33 ad (cC ad cs σ)) sz)) 0 0 (va_A (q_ws 33 ad (cC ad cs σ)) sz) := by
  refine Met.ofW (cc := b_Terminal_show) (maxL := 2) (ret := none) (by decide) rfl ?_
  intro p e s m args below meth c s₁ B hml hv
  obtain ⟨hargs, hsz, hP, hK, hD0, hN⟩ := hv
  have hx := B.exec
  have hb := B.bytes
  have hr := B.returns
  have hts := atoms_spec (ws := w_Terminal_show) B.pre
  have hown : s.vm.findClass "JobTerminal$Terminal" = some m.cls := findClass_of_methodNamed B.named
  have hlocks := B.notSynchronized
  have htg : ∀ w ∈ GW, w.before args s = true := fun w h => hts w (List.mem_cons_of_mem _ h)
  subst hsz
  have hD := hD0.self (sz := s.heap.size)
  generalize hAe : va_A (q_ws 33 ad (cC ad cs σ)) s.heap.size = A at hD ⊢
  have hA : ∀ q : Nat, s.heap.size ≤ q → A q := fun q h => by rw [← hAe]; exact Or.inr h
  have I : q_I D vwCl A s.heap (q_ws 33 ad (cC ad cs σ)) s.heap [] := ⟨hP, hD, va_S.rf⟩
  obtain ⟨ls, hen, hl⟩ := q_entry (vs := [.ref (ad 6), .int p1]) (n := 2) (lv := [(0, .ref (ad 6)), (1, .int p1)]) (by intro v hv; simp only [List.mem_cons, List.not_mem_nil, or_false] at hv; rcases hv with rfl | rfl <;> first | rfl | exact q_cat) (Nat.le_of_ble_eq_true rfl) rfl
  rw [show entryFrame m args 2 = F0 m 0 ls [] from by rw [hargs]; exact hen m]
  have C0 : q_Cx "JobTerminal$Terminal" b_Terminal_show 2 none w_Terminal_show D vwCl (tyL cs) NW p s m args meth c := ⟨hx, hb, hr, hml, hown, hts, hlocks, hK, hN⟩
  unfold f_Terminal_show at hf
  have hgo : ∀ (H : Heap) (locs : List Loc), q_I D vwCl A s.heap (q_ws 33 ad (cC ad cs σ)) H locs → W p l e ({ frames := 1, cells := 0, slots := 0, locals := 21 } : Room) s m args below meth c H locs 0 0 (MQ below (q_Qv D vwCl (q_ws 33 ad (cC ad cs res)) A) args s 0 0 A) (F0 m 0 ls []) := by
    intro H locs I
    refine lv_iload_n hx hb d_Terminal_show_0 rfl (q_at hl 1 rfl) ?_
    refine lv_bipush (v := 10) hx hb d_Terminal_show_1 (by decide) ?_
    refine lv_icmp_ne (tgt := 24) hx hb d_Terminal_show_3 (by decide) (fun c1 => ?_) (fun c1 => ?_)
    · rw [if_neg c1] at hf
      exact k_Terminal_show_24 C0 hA res σ p1 hf H locs I ls (q_hsub hl [0, 1] rfl)
    · rw [if_pos c1] at hf
      refine lv_aload_n hx hb d_Terminal_show_6 rfl (q_at hl 0 rfl) ?_
      refine lv_bipush (v := 32) hx hb d_Terminal_show_7 (by decide) ?_
      obtain ⟨r2, e3, hf⟩ := q_bnd_some hf
      refine q_ki hA I (q_runV (C := "JobTerminal$Terminal") (As := [.int 32]) (rest := []) ⟨hx, hb, hml, hown, hts⟩ (c_Terminal_has (sz := H.size) e3) (cwV 1 hts (q_goodV mw79 mw80 mw81 mw82 mw83) rfl rfl rfl (by decide +kernel) ⟨Nat.le_of_ble_eq_true rfl, Nat.le_of_ble_eq_true rfl⟩) NW_ok hK hN I rfl (q_wsE (by decide) (a_C_Terminal)) rfl (q_sz hl) rfl (Nat.le_of_ble_eq_true rfl) d_Terminal_show_9 ⟨Nat.zero_le _, Nat.zero_le _⟩) (fun H locs I => ?_)
      refine lv_if_eq (tgt := 24) hx hb d_Terminal_show_12 (by decide) (fun c4 => ?_) (fun c4 => ?_)
      · rw [if_pos c4] at hf
        exact k_Terminal_show_24 C0 hA res r2.2 p1 hf H locs I ls (q_hsub hl [0, 1] rfl)
      · rw [if_neg c4] at hf
        refine lv_aload_n hx hb d_Terminal_show_15 rfl (q_at hl 0 rfl) ?_
        refine G_Terminal_Terminal_display hx hb htg hown hK hN I d_Terminal_show_16 ?_
        refine lv_bipush (v := 13) hx hb d_Terminal_show_19 (by decide) ?_
        obtain ⟨r5, e6, hf⟩ := q_bnd_some hf
        refine q_kv hA I (q_runV (C := "JobTerminal$Display") (As := [.int 13]) (rest := []) ⟨hx, hb, hml, hown, hts⟩ (c_Display_add (sz := H.size) e6) (cwV 1 hts (q_goodV mw93 mw94 mw95 mw96 mw97) rfl rfl rfl (by decide +kernel) ⟨Nat.le_of_ble_eq_true rfl, Nat.le_of_ble_eq_true rfl⟩) NW_ok hK hN I rfl (q_wsE (by decide) (a_C_Display)) rfl (q_sz hl) rfl (Nat.le_of_ble_eq_true rfl) d_Terminal_show_21 ⟨Nat.zero_le _, Nat.zero_le _⟩) (fun H locs I => ?_)
        exact k_Terminal_show_24 C0 hA res r5 p1 hf H locs I ls (q_hsub hl [0, 1] rfl)
  exact hgo _ _ I
-- JobTerminal$Terminal echo
def f_Terminal_echo_55 (σ : q_St) (y0 : Int32) : Option q_St := q_bnd (f_Terminal_show σ y0) (fun r10 => some r10)
set_option maxHeartbeats 4000000 in
set_option maxRecDepth 100000 in
theorem k_Terminal_echo_55 {p : Program} {l : Launch} {e : Env} {s : State} {m : MethodId} {args : Array Value} {below : List Frame} {meth : Method} {c : Code} {D : va_G} {A : Nat → Prop} {ad : Nat → Nat} {cs : Nat → ClassId} (C0 : q_Cx "JobTerminal$Terminal" b_Terminal_echo 2 none w_Terminal_echo D vwCl (tyL cs) NW p s m args meth c) (hA : ∀ q, s.heap.size ≤ q → A q) (res : q_St) : ∀ (σ : q_St) (y0 : Int32) , f_Terminal_echo_55 σ y0 = some res → ∀ (H : Heap) (locs : List Loc), q_I D vwCl A s.heap (q_ws 33 ad (cC ad cs σ)) H locs → ∀ ls : Array Slot, q_has ls 2 [] → W p l e ({ frames := 2, cells := 0, slots := 0, locals := 42 } : Room) s m args below meth c H locs 0 0 (MQ below (q_Qv D vwCl (q_ws 33 ad (cC ad cs res)) A) args s 0 0 A) (F0 m 55 ls [.int y0, .ref (ad 6)]) := by
  intro σ y0 hf H locs I ls hl
  unfold f_Terminal_echo_55 at hf
  obtain ⟨hx, hb, hr, hml, hown, hts, hlocks, hK, hN⟩ := id C0
  have htg : ∀ w ∈ GW, w.before args s = true := fun w h => hts w (List.mem_cons_of_mem _ h)
  obtain ⟨r10, e11, hf⟩ := q_bnd_some hf
  refine q_kv hA I (q_runV (C := "JobTerminal$Terminal") (As := [.int y0]) (rest := []) ⟨hx, hb, hml, hown, hts⟩ (c_Terminal_show (sz := H.size) e11) (cwV 1 hts (q_goodV mw98 mw99 mw100 mw101 mw83) rfl rfl rfl (by decide +kernel) ⟨Nat.le_of_ble_eq_true rfl, Nat.le_of_ble_eq_true rfl⟩) NW_ok hK hN I rfl (q_wsE (by decide) (a_C_Terminal)) rfl (q_sz hl) rfl (Nat.le_of_ble_eq_true rfl) d_Terminal_echo_55 ⟨Nat.zero_le _, Nat.zero_le _⟩) (fun H locs I => ?_)
  cases hf
  exact q_vret hx hb hr hlocks I d_Terminal_echo_58
def f_Terminal_echo_33 (σ : q_St) (x1 : Int32) : Option q_St := q_bnd (f_Terminal_show σ 94) (fun r7 => if x1 = 127 then (f_Terminal_echo_55 r7 63) else (f_Terminal_echo_55 r7 (64 + x1)))
set_option maxHeartbeats 4000000 in
set_option maxRecDepth 100000 in
theorem k_Terminal_echo_33 {p : Program} {l : Launch} {e : Env} {s : State} {m : MethodId} {args : Array Value} {below : List Frame} {meth : Method} {c : Code} {D : va_G} {A : Nat → Prop} {ad : Nat → Nat} {cs : Nat → ClassId} (C0 : q_Cx "JobTerminal$Terminal" b_Terminal_echo 2 none w_Terminal_echo D vwCl (tyL cs) NW p s m args meth c) (hA : ∀ q, s.heap.size ≤ q → A q) (res : q_St) : ∀ (σ : q_St) (x1 : Int32) , f_Terminal_echo_33 σ x1 = some res → ∀ (H : Heap) (locs : List Loc), q_I D vwCl A s.heap (q_ws 33 ad (cC ad cs σ)) H locs → ∀ ls : Array Slot, q_has ls 2 [(0, .ref (ad 6)), (1, .int x1)] → W p l e ({ frames := 2, cells := 0, slots := 0, locals := 42 } : Room) s m args below meth c H locs 0 0 (MQ below (q_Qv D vwCl (q_ws 33 ad (cC ad cs res)) A) args s 0 0 A) (F0 m 33 ls []) := by
  intro σ x1 hf H locs I ls hl
  unfold f_Terminal_echo_33 at hf
  obtain ⟨hx, hb, hr, hml, hown, hts, hlocks, hK, hN⟩ := id C0
  have htg : ∀ w ∈ GW, w.before args s = true := fun w h => hts w (List.mem_cons_of_mem _ h)
  refine lv_aload_n hx hb d_Terminal_echo_33 rfl (q_at hl 0 rfl) ?_
  refine lv_bipush (v := 94) hx hb d_Terminal_echo_34 (by decide) ?_
  obtain ⟨r7, e8, hf⟩ := q_bnd_some hf
  refine q_kv hA I (q_runV (C := "JobTerminal$Terminal") (As := [.int 94]) (rest := []) ⟨hx, hb, hml, hown, hts⟩ (c_Terminal_show (sz := H.size) e8) (cwV 1 hts (q_goodV mw98 mw99 mw100 mw101 mw83) rfl rfl rfl (by decide +kernel) ⟨Nat.le_of_ble_eq_true rfl, Nat.le_of_ble_eq_true rfl⟩) NW_ok hK hN I rfl (q_wsE (by decide) (a_C_Terminal)) rfl (q_sz hl) rfl (Nat.le_of_ble_eq_true rfl) d_Terminal_echo_36 ⟨Nat.zero_le _, Nat.zero_le _⟩) (fun H locs I => ?_)
  refine lv_aload_n hx hb d_Terminal_echo_39 rfl (q_at hl 0 rfl) ?_
  refine lv_iload_n hx hb d_Terminal_echo_40 rfl (q_at hl 1 rfl) ?_
  refine lv_bipush (v := 127) hx hb d_Terminal_echo_41 (by decide) ?_
  refine lv_icmp_ne (tgt := 51) hx hb d_Terminal_echo_43 (by decide) (fun c9 => ?_) (fun c9 => ?_)
  · rw [if_neg c9] at hf
    refine lv_bipush (v := 64) hx hb d_Terminal_echo_51 (by decide) ?_
    refine lv_iload_n hx hb d_Terminal_echo_53 rfl (q_at hl 1 rfl) ?_
    refine lv_iadd hx hb d_Terminal_echo_54 ?_
    exact k_Terminal_echo_55 C0 hA res r7 (64 + x1) hf H locs I ls (q_hsub hl [] rfl)
  · rw [if_pos c9] at hf
    refine lv_bipush (v := 63) hx hb d_Terminal_echo_46 (by decide) ?_
    refine lv_goto (tgt := 55) hx hb d_Terminal_echo_48 (by decide) ?_
    exact k_Terminal_echo_55 C0 hA res r7 63 hf H locs I ls (q_hsub hl [] rfl)
def f_Terminal_echo_27 (σ : q_St) (x1 : Int32) : Option q_St := q_bnd (f_Terminal_show σ x1) (fun r12 => some r12)
set_option maxHeartbeats 4000000 in
set_option maxRecDepth 100000 in
theorem k_Terminal_echo_27 {p : Program} {l : Launch} {e : Env} {s : State} {m : MethodId} {args : Array Value} {below : List Frame} {meth : Method} {c : Code} {D : va_G} {A : Nat → Prop} {ad : Nat → Nat} {cs : Nat → ClassId} (C0 : q_Cx "JobTerminal$Terminal" b_Terminal_echo 2 none w_Terminal_echo D vwCl (tyL cs) NW p s m args meth c) (hA : ∀ q, s.heap.size ≤ q → A q) (res : q_St) : ∀ (σ : q_St) (x1 : Int32) , f_Terminal_echo_27 σ x1 = some res → ∀ (H : Heap) (locs : List Loc), q_I D vwCl A s.heap (q_ws 33 ad (cC ad cs σ)) H locs → ∀ ls : Array Slot, q_has ls 2 [(0, .ref (ad 6)), (1, .int x1)] → W p l e ({ frames := 2, cells := 0, slots := 0, locals := 42 } : Room) s m args below meth c H locs 0 0 (MQ below (q_Qv D vwCl (q_ws 33 ad (cC ad cs res)) A) args s 0 0 A) (F0 m 27 ls []) := by
  intro σ x1 hf H locs I ls hl
  unfold f_Terminal_echo_27 at hf
  obtain ⟨hx, hb, hr, hml, hown, hts, hlocks, hK, hN⟩ := id C0
  have htg : ∀ w ∈ GW, w.before args s = true := fun w h => hts w (List.mem_cons_of_mem _ h)
  refine lv_aload_n hx hb d_Terminal_echo_27 rfl (q_at hl 0 rfl) ?_
  refine lv_iload_n hx hb d_Terminal_echo_28 rfl (q_at hl 1 rfl) ?_
  obtain ⟨r12, e13, hf⟩ := q_bnd_some hf
  refine q_kv hA I (q_runV (C := "JobTerminal$Terminal") (As := [.int x1]) (rest := []) ⟨hx, hb, hml, hown, hts⟩ (c_Terminal_show (sz := H.size) e13) (cwV 1 hts (q_goodV mw98 mw99 mw100 mw101 mw83) rfl rfl rfl (by decide +kernel) ⟨Nat.le_of_ble_eq_true rfl, Nat.le_of_ble_eq_true rfl⟩) NW_ok hK hN I rfl (q_wsE (by decide) (a_C_Terminal)) rfl (q_sz hl) rfl (Nat.le_of_ble_eq_true rfl) d_Terminal_echo_29 ⟨Nat.zero_le _, Nat.zero_le _⟩) (fun H locs I => ?_)
  cases hf
  exact q_vret hx hb hr hlocks I d_Terminal_echo_32
def f_Terminal_echo (σ : q_St) (p1 : Int32) : Option q_St := q_bnd (f_Terminal_has σ 2) (fun r1 => if r1.1 = 0 then (some r1.2) else (if p1 = 10 then (f_Terminal_echo_27 r1.2 p1) else (if p1 < 32 then (f_Terminal_echo_33 r1.2 p1) else (if p1 = 127 then (f_Terminal_echo_33 r1.2 p1) else (f_Terminal_echo_27 r1.2 p1)))))
set_option maxHeartbeats 4000000 in
set_option maxRecDepth 100000 in
theorem c_Terminal_echo {l : Launch} {D : va_G} {ad : Nat → Nat} {cs : Nat → ClassId} {sz : Nat} {σ : q_St} {p1 : Int32} {res : q_St} (hf : f_Terminal_echo σ p1 = some res) : Met l y_Terminal_echo w_Terminal_echo ({ frames := 2, cells := 0, slots := 0, locals := 42 } : Room) (q_Pre D vwCl (tyL cs) NW [.ref (ad 6), .int p1] (q_ws 33 ad (cC ad cs σ)) sz) (q_Qv D vwCl (q_ws 33 ad (cC ad cs res)) (va_A (q_ws 33 ad (cC ad cs σ)) sz)) 0 0 (va_A (q_ws 33 ad (cC ad cs σ)) sz) := by
  refine Met.ofW (cc := b_Terminal_echo) (maxL := 2) (ret := none) (by decide) rfl ?_
  intro p e s m args below meth c s₁ B hml hv
  obtain ⟨hargs, hsz, hP, hK, hD0, hN⟩ := hv
  have hx := B.exec
  have hb := B.bytes
  have hr := B.returns
  have hts := atoms_spec (ws := w_Terminal_echo) B.pre
  have hown : s.vm.findClass "JobTerminal$Terminal" = some m.cls := findClass_of_methodNamed B.named
  have hlocks := B.notSynchronized
  have htg : ∀ w ∈ GW, w.before args s = true := fun w h => hts w (List.mem_cons_of_mem _ h)
  subst hsz
  have hD := hD0.self (sz := s.heap.size)
  generalize hAe : va_A (q_ws 33 ad (cC ad cs σ)) s.heap.size = A at hD ⊢
  have hA : ∀ q : Nat, s.heap.size ≤ q → A q := fun q h => by rw [← hAe]; exact Or.inr h
  have I : q_I D vwCl A s.heap (q_ws 33 ad (cC ad cs σ)) s.heap [] := ⟨hP, hD, va_S.rf⟩
  obtain ⟨ls, hen, hl⟩ := q_entry (vs := [.ref (ad 6), .int p1]) (n := 2) (lv := [(0, .ref (ad 6)), (1, .int p1)]) (by intro v hv; simp only [List.mem_cons, List.not_mem_nil, or_false] at hv; rcases hv with rfl | rfl <;> first | rfl | exact q_cat) (Nat.le_of_ble_eq_true rfl) rfl
  rw [show entryFrame m args 2 = F0 m 0 ls [] from by rw [hargs]; exact hen m]
  have C0 : q_Cx "JobTerminal$Terminal" b_Terminal_echo 2 none w_Terminal_echo D vwCl (tyL cs) NW p s m args meth c := ⟨hx, hb, hr, hml, hown, hts, hlocks, hK, hN⟩
  unfold f_Terminal_echo at hf
  have hgo : ∀ (H : Heap) (locs : List Loc), q_I D vwCl A s.heap (q_ws 33 ad (cC ad cs σ)) H locs → W p l e ({ frames := 2, cells := 0, slots := 0, locals := 42 } : Room) s m args below meth c H locs 0 0 (MQ below (q_Qv D vwCl (q_ws 33 ad (cC ad cs res)) A) args s 0 0 A) (F0 m 0 ls []) := by
    intro H locs I
    refine lv_aload_n hx hb d_Terminal_echo_0 rfl (q_at hl 0 rfl) ?_
    refine lv_iconst (v := 2) hx hb d_Terminal_echo_1 (by decide) ?_
    obtain ⟨r1, e2, hf⟩ := q_bnd_some hf
    refine q_ki hA I (q_runV (C := "JobTerminal$Terminal") (As := [.int 2]) (rest := []) ⟨hx, hb, hml, hown, hts⟩ (c_Terminal_has (sz := H.size) e2) (cwV 1 hts (q_goodV mw79 mw80 mw81 mw82 mw83) rfl rfl rfl (by decide +kernel) ⟨Nat.le_of_ble_eq_true rfl, Nat.le_of_ble_eq_true rfl⟩) NW_ok hK hN I rfl (q_wsE (by decide) (a_C_Terminal)) rfl (q_sz hl) rfl (Nat.le_of_ble_eq_true rfl) d_Terminal_echo_2 ⟨Nat.zero_le _, Nat.zero_le _⟩) (fun H locs I => ?_)
    refine lv_if_ne (tgt := 9) hx hb d_Terminal_echo_5 (by decide) (fun c3 => ?_) (fun c3 => ?_)
    · rw [if_neg c3] at hf
      refine lv_iload_n hx hb d_Terminal_echo_9 rfl (q_at hl 1 rfl) ?_
      refine lv_bipush (v := 10) hx hb d_Terminal_echo_10 (by decide) ?_
      refine lv_icmp_eq (tgt := 27) hx hb d_Terminal_echo_12 (by decide) (fun c4 => ?_) (fun c4 => ?_)
      · rw [if_pos c4] at hf
        exact k_Terminal_echo_27 C0 hA res r1.2 p1 hf H locs I ls (q_hsub hl [0, 1] rfl)
      · rw [if_neg c4] at hf
        refine lv_iload_n hx hb d_Terminal_echo_15 rfl (q_at hl 1 rfl) ?_
        refine lv_bipush (v := 32) hx hb d_Terminal_echo_16 (by decide) ?_
        refine lv_icmp_lt (tgt := 33) hx hb d_Terminal_echo_18 (by decide) (fun c5 => ?_) (fun c5 => ?_)
        · rw [if_pos c5] at hf
          exact k_Terminal_echo_33 C0 hA res r1.2 p1 hf H locs I ls (q_hsub hl [0, 1] rfl)
        · rw [if_neg c5] at hf
          refine lv_iload_n hx hb d_Terminal_echo_21 rfl (q_at hl 1 rfl) ?_
          refine lv_bipush (v := 127) hx hb d_Terminal_echo_22 (by decide) ?_
          refine lv_icmp_eq (tgt := 33) hx hb d_Terminal_echo_24 (by decide) (fun c6 => ?_) (fun c6 => ?_)
          · rw [if_pos c6] at hf
            exact k_Terminal_echo_33 C0 hA res r1.2 p1 hf H locs I ls (q_hsub hl [0, 1] rfl)
          · rw [if_neg c6] at hf
            exact k_Terminal_echo_27 C0 hA res r1.2 p1 hf H locs I ls (q_hsub hl [0, 1] rfl)
    · rw [if_pos c3] at hf
      cases hf
      exact q_vret hx hb hr hlocks I d_Terminal_echo_8
  exact hgo _ _ I
-- JobTerminal$Terminal typeUnedited
def f_Terminal_typeUnedited (σ : q_St) (p1 : Int32) : Option (Int32 × q_St) := q_bnd (f_NumberRow_hasRoomFor σ 1 1) (fun r1 => if r1.1 = 0 then (some (0, r1.2)) else (q_bnd (f_NumberRow_putLast r1.2 1 p1) (fun r4 => q_bnd (f_Terminal_echo r4 p1) (fun r6 => some (1, r6)))))
set_option maxHeartbeats 4000000 in
set_option maxRecDepth 100000 in
theorem c_Terminal_typeUnedited {l : Launch} {D : va_G} {ad : Nat → Nat} {cs : Nat → ClassId} {sz : Nat} {σ : q_St} {p1 : Int32} {res : (Int32 × q_St)} (hf : f_Terminal_typeUnedited σ p1 = some res) : Met l y_Terminal_typeUnedited w_Terminal_typeUnedited ({ frames := 3, cells := 0, slots := 0, locals := 63 } : Room) (q_Pre D vwCl (tyL cs) NW [.ref (ad 6), .int p1] (q_ws 33 ad (cC ad cs σ)) sz) (q_Qi D vwCl res.1 (q_ws 33 ad (cC ad cs res.2)) (va_A (q_ws 33 ad (cC ad cs σ)) sz)) 0 0 (va_A (q_ws 33 ad (cC ad cs σ)) sz) := by
  refine Met.ofW (cc := b_Terminal_typeUnedited) (maxL := 2) (ret := (some .boolean)) (by decide) rfl ?_
  intro p e s m args below meth c s₁ B hml hv
  obtain ⟨hargs, hsz, hP, hK, hD0, hN⟩ := hv
  have hx := B.exec
  have hb := B.bytes
  have hr := B.returns
  have hts := atoms_spec (ws := w_Terminal_typeUnedited) B.pre
  have hown : s.vm.findClass "JobTerminal$Terminal" = some m.cls := findClass_of_methodNamed B.named
  have hlocks := B.notSynchronized
  have htg : ∀ w ∈ GW, w.before args s = true := fun w h => hts w (List.mem_cons_of_mem _ h)
  subst hsz
  have hD := hD0.self (sz := s.heap.size)
  generalize hAe : va_A (q_ws 33 ad (cC ad cs σ)) s.heap.size = A at hD ⊢
  have hA : ∀ q : Nat, s.heap.size ≤ q → A q := fun q h => by rw [← hAe]; exact Or.inr h
  have I : q_I D vwCl A s.heap (q_ws 33 ad (cC ad cs σ)) s.heap [] := ⟨hP, hD, va_S.rf⟩
  obtain ⟨ls, hen, hl⟩ := q_entry (vs := [.ref (ad 6), .int p1]) (n := 2) (lv := [(0, .ref (ad 6)), (1, .int p1)]) (by intro v hv; simp only [List.mem_cons, List.not_mem_nil, or_false] at hv; rcases hv with rfl | rfl <;> first | rfl | exact q_cat) (Nat.le_of_ble_eq_true rfl) rfl
  rw [show entryFrame m args 2 = F0 m 0 ls [] from by rw [hargs]; exact hen m]
  have C0 : q_Cx "JobTerminal$Terminal" b_Terminal_typeUnedited 2 (some .boolean) w_Terminal_typeUnedited D vwCl (tyL cs) NW p s m args meth c := ⟨hx, hb, hr, hml, hown, hts, hlocks, hK, hN⟩
  unfold f_Terminal_typeUnedited at hf
  have hgo : ∀ (H : Heap) (locs : List Loc), q_I D vwCl A s.heap (q_ws 33 ad (cC ad cs σ)) H locs → W p l e ({ frames := 3, cells := 0, slots := 0, locals := 63 } : Room) s m args below meth c H locs 0 0 (MQ below (q_Qi D vwCl res.1 (q_ws 33 ad (cC ad cs res.2)) A) args s 0 0 A) (F0 m 0 ls []) := by
    intro H locs I
    refine lv_aload_n hx hb d_Terminal_typeUnedited_0 rfl (q_at hl 0 rfl) ?_
    refine G_Terminal_Terminal_queue hx hb htg hown hK hN I d_Terminal_typeUnedited_1 ?_
    refine lv_iconst (v := 1) hx hb d_Terminal_typeUnedited_4 (by decide) ?_
    obtain ⟨r1, e2, hf⟩ := q_bnd_some hf
    refine q_ki hA I (q_runV (C := "JobTerminal$NumberRow") (As := [.int 1]) (rest := []) ⟨hx, hb, hml, hown, hts⟩ (c_NumberRow_hasRoomFor (sz := H.size) (show (1 : Nat) < 6 by skip; omega) e2) (cwV 1 hts (q_goodV mw102 mw103 mw104 mw105 mw88) rfl rfl rfl (by decide +kernel) ⟨Nat.le_of_ble_eq_true rfl, Nat.le_of_ble_eq_true rfl⟩) NW_ok hK hN I rfl (q_wsE (Nat.lt_of_lt_of_le (Nat.add_lt_add_left (show (1 : Nat) < 6 by skip; omega) _) (by decide)) (a_C_NumberRow (show (1 : Nat) < 6 by skip; omega))) rfl (q_sz hl) rfl (Nat.le_of_ble_eq_true rfl) d_Terminal_typeUnedited_5 ⟨Nat.zero_le _, Nat.zero_le _⟩) (fun H locs I => ?_)
    refine lv_if_ne (tgt := 13) hx hb d_Terminal_typeUnedited_8 (by decide) (fun c3 => ?_) (fun c3 => ?_)
    · rw [if_neg c3] at hf
      refine lv_aload_n hx hb d_Terminal_typeUnedited_13 rfl (q_at hl 0 rfl) ?_
      refine G_Terminal_Terminal_queue hx hb htg hown hK hN I d_Terminal_typeUnedited_14 ?_
      refine lv_iload_n hx hb d_Terminal_typeUnedited_17 rfl (q_at hl 1 rfl) ?_
      obtain ⟨r4, e5, hf⟩ := q_bnd_some hf
      refine q_kv hA I (q_runV (C := "JobTerminal$NumberRow") (As := [.int p1]) (rest := []) ⟨hx, hb, hml, hown, hts⟩ (c_NumberRow_putLast (sz := H.size) (show (1 : Nat) < 6 by skip; omega) e5) (cwV 1 hts (q_goodV mw106 mw107 mw108 mw109 mw88) rfl rfl rfl (by decide +kernel) ⟨Nat.le_of_ble_eq_true rfl, Nat.le_of_ble_eq_true rfl⟩) NW_ok hK hN I rfl (q_wsE (Nat.lt_of_lt_of_le (Nat.add_lt_add_left (show (1 : Nat) < 6 by skip; omega) _) (by decide)) (a_C_NumberRow (show (1 : Nat) < 6 by skip; omega))) rfl (q_sz hl) rfl (Nat.le_of_ble_eq_true rfl) d_Terminal_typeUnedited_18 ⟨Nat.zero_le _, Nat.zero_le _⟩) (fun H locs I => ?_)
      refine lv_aload_n hx hb d_Terminal_typeUnedited_21 rfl (q_at hl 0 rfl) ?_
      refine lv_iload_n hx hb d_Terminal_typeUnedited_22 rfl (q_at hl 1 rfl) ?_
      obtain ⟨r6, e7, hf⟩ := q_bnd_some hf
      refine q_kv hA I (q_runV (C := "JobTerminal$Terminal") (As := [.int p1]) (rest := []) ⟨hx, hb, hml, hown, hts⟩ (c_Terminal_echo (sz := H.size) e7) (cwV 1 hts (q_goodV mw110 mw111 mw112 mw113 mw83) rfl rfl rfl (by decide +kernel) ⟨Nat.le_of_ble_eq_true rfl, Nat.le_of_ble_eq_true rfl⟩) NW_ok hK hN I rfl (q_wsE (by decide) (a_C_Terminal)) rfl (q_sz hl) rfl (Nat.le_of_ble_eq_true rfl) d_Terminal_typeUnedited_23 ⟨Nat.zero_le _, Nat.zero_le _⟩) (fun H locs I => ?_)
      refine lv_iconst (v := 1) hx hb d_Terminal_typeUnedited_26 (by decide) ?_
      cases hf
      exact q_zret (r0 := 1) hx hb hr hlocks (by decide) I d_Terminal_typeUnedited_27
    · rw [if_pos c3] at hf
      refine lv_iconst (v := 0) hx hb d_Terminal_typeUnedited_11 (by decide) ?_
      cases hf
      exact q_zret (r0 := 0) hx hb hr hlocks (by decide) I d_Terminal_typeUnedited_12
  exact hgo _ _ I
-- JobTerminal$NumberRow numberAt
def f_NumberRow_numberAt_18 (i : Nat) (σ : q_St) (y0 : Int32) : Option (Int32 × q_St) := some (y0, σ)
set_option maxHeartbeats 4000000 in
set_option maxRecDepth 100000 in
theorem k_NumberRow_numberAt_18 {p : Program} {l : Launch} {e : Env} {s : State} {m : MethodId} {args : Array Value} {below : List Frame} {meth : Method} {c : Code} {D : va_G} {A : Nat → Prop} {ad : Nat → Nat} {cs : Nat → ClassId} (C0 : q_Cx "JobTerminal$NumberRow" b_NumberRow_numberAt 2 (some .int) w_NumberRow_numberAt D vwCl (tyL cs) NW p s m args meth c) (hA : ∀ q, s.heap.size ≤ q → A q) {i : Nat} (hi : i < 6) (res : (Int32 × q_St)) : ∀ (σ : q_St) (y0 : Int32) , f_NumberRow_numberAt_18 i σ y0 = some res → ∀ (H : Heap) (locs : List Loc), q_I D vwCl A s.heap (q_ws 33 ad (cC ad cs σ)) H locs → ∀ ls : Array Slot, q_has ls 2 [] → W p l e ({ frames := 1, cells := 0, slots := 0, locals := 21 } : Room) s m args below meth c H locs 0 0 (MQ below (q_Qi D vwCl res.1 (q_ws 33 ad (cC ad cs res.2)) A) args s 0 0 A) (F0 m 18 ls [.int y0]) := by
  intro σ y0 hf H locs I ls hl
  unfold f_NumberRow_numberAt_18 at hf
  obtain ⟨hx, hb, hr, hml, hown, hts, hlocks, hK, hN⟩ := id C0
  have htg : ∀ w ∈ GW, w.before args s = true := fun w h => hts w (List.mem_cons_of_mem _ h)
  cases hf
  exact q_iret hx hb hr hlocks I d_NumberRow_numberAt_18
def f_NumberRow_numberAt (σ : q_St) (i : Nat) (p1 : Int32) : Option (Int32 × q_St) := q_bnd (f_NumberRow_isPlace σ i p1) (fun r1 => if r1.1 = 0 then (f_NumberRow_numberAt_18 i r1.2 (-1)) else (q_grd (q_in p1 (q_rl i)) (f_NumberRow_numberAt_18 i r1.2 (r1.2 (10 + i) p1.toNatClampNeg))))
set_option maxHeartbeats 4000000 in
set_option maxRecDepth 100000 in
theorem c_NumberRow_numberAt {l : Launch} {D : va_G} {ad : Nat → Nat} {cs : Nat → ClassId} {sz : Nat} {σ : q_St} {i : Nat} (hi : i < 6) {p1 : Int32} {res : (Int32 × q_St)} (hf : f_NumberRow_numberAt σ i p1 = some res) : Met l y_NumberRow_numberAt w_NumberRow_numberAt ({ frames := 1, cells := 0, slots := 0, locals := 21 } : Room) (q_Pre D vwCl (tyL cs) NW [.ref (ad (21 + i)), .int p1] (q_ws 33 ad (cC ad cs σ)) sz) (q_Qi D vwCl res.1 (q_ws 33 ad (cC ad cs res.2)) (va_A (q_ws 33 ad (cC ad cs σ)) sz)) 0 0 (va_A (q_ws 33 ad (cC ad cs σ)) sz) := by
  refine Met.ofW (cc := b_NumberRow_numberAt) (maxL := 2) (ret := (some .int)) (by decide) rfl ?_
  intro p e s m args below meth c s₁ B hml hv
  obtain ⟨hargs, hsz, hP, hK, hD0, hN⟩ := hv
  have hx := B.exec
  have hb := B.bytes
  have hr := B.returns
  have hts := atoms_spec (ws := w_NumberRow_numberAt) B.pre
  have hown : s.vm.findClass "JobTerminal$NumberRow" = some m.cls := findClass_of_methodNamed B.named
  have hlocks := B.notSynchronized
  have htg : ∀ w ∈ GW, w.before args s = true := fun w h => hts w (List.mem_cons_of_mem _ h)
  subst hsz
  have hD := hD0.self (sz := s.heap.size)
  generalize hAe : va_A (q_ws 33 ad (cC ad cs σ)) s.heap.size = A at hD ⊢
  have hA : ∀ q : Nat, s.heap.size ≤ q → A q := fun q h => by rw [← hAe]; exact Or.inr h
  have I : q_I D vwCl A s.heap (q_ws 33 ad (cC ad cs σ)) s.heap [] := ⟨hP, hD, va_S.rf⟩
  obtain ⟨ls, hen, hl⟩ := q_entry (vs := [.ref (ad (21 + i)), .int p1]) (n := 2) (lv := [(0, .ref (ad (21 + i))), (1, .int p1)]) (by intro v hv; simp only [List.mem_cons, List.not_mem_nil, or_false] at hv; rcases hv with rfl | rfl <;> first | rfl | exact q_cat) (Nat.le_of_ble_eq_true rfl) rfl
  rw [show entryFrame m args 2 = F0 m 0 ls [] from by rw [hargs]; exact hen m]
  have C0 : q_Cx "JobTerminal$NumberRow" b_NumberRow_numberAt 2 (some .int) w_NumberRow_numberAt D vwCl (tyL cs) NW p s m args meth c := ⟨hx, hb, hr, hml, hown, hts, hlocks, hK, hN⟩
  unfold f_NumberRow_numberAt at hf
  have hgo : ∀ (H : Heap) (locs : List Loc), q_I D vwCl A s.heap (q_ws 33 ad (cC ad cs σ)) H locs → W p l e ({ frames := 1, cells := 0, slots := 0, locals := 21 } : Room) s m args below meth c H locs 0 0 (MQ below (q_Qi D vwCl res.1 (q_ws 33 ad (cC ad cs res.2)) A) args s 0 0 A) (F0 m 0 ls []) := by
    intro H locs I
    refine lv_aload_n hx hb d_NumberRow_numberAt_0 rfl (q_at hl 0 rfl) ?_
    refine lv_iload_n hx hb d_NumberRow_numberAt_1 rfl (q_at hl 1 rfl) ?_
    obtain ⟨r1, e2, hf⟩ := q_bnd_some hf
    refine q_ki hA I (q_runV (C := "JobTerminal$NumberRow") (As := [.int p1]) (rest := []) ⟨hx, hb, hml, hown, hts⟩ (c_NumberRow_isPlace (sz := H.size) hi e2) (cwV 1 hts (q_goodV mw89 mw90 mw91 mw92 mw88) rfl rfl rfl (by decide +kernel) ⟨Nat.le_of_ble_eq_true rfl, Nat.le_of_ble_eq_true rfl⟩) NW_ok hK hN I rfl (q_wsE (Nat.lt_of_lt_of_le (Nat.add_lt_add_left hi _) (by decide)) (a_C_NumberRow hi)) rfl (q_sz hl) rfl (Nat.le_of_ble_eq_true rfl) d_NumberRow_numberAt_2 ⟨Nat.zero_le _, Nat.zero_le _⟩) (fun H locs I => ?_)
    refine lv_if_eq (tgt := 17) hx hb d_NumberRow_numberAt_5 (by decide) (fun c3 => ?_) (fun c3 => ?_)
    · rw [if_pos c3] at hf
      refine lv_iconst (v := -1) hx hb d_NumberRow_numberAt_17 (by decide) ?_
      exact k_NumberRow_numberAt_18 C0 hA hi res r1.2 (-1) hf H locs I ls (q_hsub hl [] rfl)
    · rw [if_neg c3] at hf
      refine lv_aload_n hx hb d_NumberRow_numberAt_8 rfl (q_at hl 0 rfl) ?_
      refine G_NumberRow_NumberRow_numbers hx hb htg hown hK hN I hi d_NumberRow_numberAt_9 ?_
      refine lv_iload_n hx hb d_NumberRow_numberAt_12 rfl (q_at hl 1 rfl) ?_
      obtain ⟨o4, hf⟩ := q_grd_some hf
      refine A_C_rowarr hx hb hK I hi o4 d_NumberRow_numberAt_13 ?_
      refine lv_goto (tgt := 18) hx hb d_NumberRow_numberAt_14 (by decide) ?_
      exact k_NumberRow_numberAt_18 C0 hA hi res r1.2 (r1.2 (10 + i) p1.toNatClampNeg) hf H locs I ls (q_hsub hl [] rfl)
  exact hgo _ _ I
-- JobTerminal$NumberRow takeLatest
def f_NumberRow_takeLatest (σ : q_St) (i : Nat) : Option (Int32 × q_St) := if (σ 27 i) = 0 then (some (-1, σ)) else (q_bnd (f_NumberRow_placeOf (q_up σ 27 i ((σ 27 i) - 1)) i ((q_up σ 27 i ((σ 27 i) - 1)) 27 i)) (fun r2 => q_bnd (f_NumberRow_numberAt r2.2 i r2.1) (fun r4 => some (r4.1, r4.2))))
set_option maxHeartbeats 4000000 in
set_option maxRecDepth 100000 in
theorem c_NumberRow_takeLatest {l : Launch} {D : va_G} {ad : Nat → Nat} {cs : Nat → ClassId} {sz : Nat} {σ : q_St} {i : Nat} (hi : i < 6) {res : (Int32 × q_St)} (hf : f_NumberRow_takeLatest σ i  = some res) : Met l y_NumberRow_takeLatest w_NumberRow_takeLatest ({ frames := 2, cells := 0, slots := 0, locals := 42 } : Room) (q_Pre D vwCl (tyL cs) NW [.ref (ad (21 + i))] (q_ws 33 ad (cC ad cs σ)) sz) (q_Qi D vwCl res.1 (q_ws 33 ad (cC ad cs res.2)) (va_A (q_ws 33 ad (cC ad cs σ)) sz)) 0 0 (va_A (q_ws 33 ad (cC ad cs σ)) sz) := by
  refine Met.ofW (cc := b_NumberRow_takeLatest) (maxL := 1) (ret := (some .int)) (by decide) rfl ?_
  intro p e s m args below meth c s₁ B hml hv
  obtain ⟨hargs, hsz, hP, hK, hD0, hN⟩ := hv
  have hx := B.exec
  have hb := B.bytes
  have hr := B.returns
  have hts := atoms_spec (ws := w_NumberRow_takeLatest) B.pre
  have hown : s.vm.findClass "JobTerminal$NumberRow" = some m.cls := findClass_of_methodNamed B.named
  have hlocks := B.notSynchronized
  have htg : ∀ w ∈ GW, w.before args s = true := fun w h => hts w (List.mem_cons_of_mem _ h)
  subst hsz
  have hD := hD0.self (sz := s.heap.size)
  generalize hAe : va_A (q_ws 33 ad (cC ad cs σ)) s.heap.size = A at hD ⊢
  have hA : ∀ q : Nat, s.heap.size ≤ q → A q := fun q h => by rw [← hAe]; exact Or.inr h
  have I : q_I D vwCl A s.heap (q_ws 33 ad (cC ad cs σ)) s.heap [] := ⟨hP, hD, va_S.rf⟩
  obtain ⟨ls, hen, hl⟩ := q_entry (vs := [.ref (ad (21 + i))]) (n := 1) (lv := [(0, .ref (ad (21 + i)))]) (by intro v hv; simp only [List.mem_cons, List.not_mem_nil, or_false] at hv; rcases hv with rfl <;> first | rfl | exact q_cat) (Nat.le_of_ble_eq_true rfl) rfl
  rw [show entryFrame m args 1 = F0 m 0 ls [] from by rw [hargs]; exact hen m]
  have C0 : q_Cx "JobTerminal$NumberRow" b_NumberRow_takeLatest 1 (some .int) w_NumberRow_takeLatest D vwCl (tyL cs) NW p s m args meth c := ⟨hx, hb, hr, hml, hown, hts, hlocks, hK, hN⟩
  unfold f_NumberRow_takeLatest at hf
  have hgo : ∀ (H : Heap) (locs : List Loc), q_I D vwCl A s.heap (q_ws 33 ad (cC ad cs σ)) H locs → W p l e ({ frames := 2, cells := 0, slots := 0, locals := 42 } : Room) s m args below meth c H locs 0 0 (MQ below (q_Qi D vwCl res.1 (q_ws 33 ad (cC ad cs res.2)) A) args s 0 0 A) (F0 m 0 ls []) := by
    intro H locs I
    refine lv_aload_n hx hb d_NumberRow_takeLatest_0 rfl (q_at hl 0 rfl) ?_
    refine G_NumberRow_NumberRow_count hx hb htg hown hK hN I hi d_NumberRow_takeLatest_1 ?_
    refine lv_if_ne (tgt := 9) hx hb d_NumberRow_takeLatest_4 (by decide) (fun c1 => ?_) (fun c1 => ?_)
    · rw [if_neg c1] at hf
      refine lv_aload_n hx hb d_NumberRow_takeLatest_9 rfl (q_at hl 0 rfl) ?_
      refine lv_dup hx hb d_NumberRow_takeLatest_10 rfl ?_
      refine G_NumberRow_NumberRow_count hx hb htg hown hK hN I hi d_NumberRow_takeLatest_11 ?_
      refine lv_iconst (v := 1) hx hb d_NumberRow_takeLatest_14 (by decide) ?_
      refine lv_isub hx hb d_NumberRow_takeLatest_15 ?_
      refine P_NumberRow_NumberRow_count hx hb htg hown hK hN I hi d_NumberRow_takeLatest_16 (fun H locs I => ?_)
      refine lv_aload_n hx hb d_NumberRow_takeLatest_19 rfl (q_at hl 0 rfl) ?_
      refine lv_aload_n hx hb d_NumberRow_takeLatest_20 rfl (q_at hl 0 rfl) ?_
      refine lv_aload_n hx hb d_NumberRow_takeLatest_21 rfl (q_at hl 0 rfl) ?_
      refine G_NumberRow_NumberRow_count hx hb htg hown hK hN I hi d_NumberRow_takeLatest_22 ?_
      obtain ⟨r2, e3, hf⟩ := q_bnd_some hf
      refine q_ki hA I (q_runV (C := "JobTerminal$NumberRow") (As := [.int ((q_up σ 27 i ((σ 27 i) - 1)) 27 i)]) (rest := [.ref (ad (21 + i))]) ⟨hx, hb, hml, hown, hts⟩ (c_NumberRow_placeOf (sz := H.size) hi e3) (cwV 1 hts (q_goodV mw84 mw85 mw86 mw87 mw88) rfl rfl rfl (by decide +kernel) ⟨Nat.le_of_ble_eq_true rfl, Nat.le_of_ble_eq_true rfl⟩) NW_ok hK hN I rfl (q_wsE (Nat.lt_of_lt_of_le (Nat.add_lt_add_left hi _) (by decide)) (a_C_NumberRow hi)) rfl (q_sz hl) rfl (Nat.le_of_ble_eq_true rfl) d_NumberRow_takeLatest_25 ⟨Nat.zero_le _, Nat.zero_le _⟩) (fun H locs I => ?_)
      obtain ⟨r4, e5, hf⟩ := q_bnd_some hf
      refine q_ki hA I (q_runV (C := "JobTerminal$NumberRow") (As := [.int r2.1]) (rest := []) ⟨hx, hb, hml, hown, hts⟩ (c_NumberRow_numberAt (sz := H.size) hi e5) (cwV 1 hts (q_goodV mw114 mw115 mw116 mw117 mw88) rfl rfl rfl (by decide +kernel) ⟨Nat.le_of_ble_eq_true rfl, Nat.le_of_ble_eq_true rfl⟩) NW_ok hK hN I rfl (q_wsE (Nat.lt_of_lt_of_le (Nat.add_lt_add_left hi _) (by decide)) (a_C_NumberRow hi)) rfl (q_sz hl) rfl (Nat.le_of_ble_eq_true rfl) d_NumberRow_takeLatest_28 ⟨Nat.zero_le _, Nat.zero_le _⟩) (fun H locs I => ?_)
      cases hf
      exact q_iret hx hb hr hlocks I d_NumberRow_takeLatest_31
    · rw [if_pos c1] at hf
      refine lv_iconst (v := -1) hx hb d_NumberRow_takeLatest_7 (by decide) ?_
      cases hf
      exact q_iret hx hb hr hlocks I d_NumberRow_takeLatest_8
  exact hgo _ _ I
-- JobTerminal$Terminal showRubbing
def f_Terminal_showRubbing (σ : q_St) : Option q_St := q_bnd (f_Terminal_show σ 8) (fun r1 => q_bnd (f_Terminal_show r1 32) (fun r3 => q_bnd (f_Terminal_show r3 8) (fun r5 => some r5)))
set_option maxHeartbeats 4000000 in
set_option maxRecDepth 100000 in
theorem c_Terminal_showRubbing {l : Launch} {D : va_G} {ad : Nat → Nat} {cs : Nat → ClassId} {sz : Nat} {σ : q_St} {res : q_St} (hf : f_Terminal_showRubbing σ  = some res) : Met l y_Terminal_showRubbing w_Terminal_showRubbing ({ frames := 2, cells := 0, slots := 0, locals := 42 } : Room) (q_Pre D vwCl (tyL cs) NW [.ref (ad 6)] (q_ws 33 ad (cC ad cs σ)) sz) (q_Qv D vwCl (q_ws 33 ad (cC ad cs res)) (va_A (q_ws 33 ad (cC ad cs σ)) sz)) 0 0 (va_A (q_ws 33 ad (cC ad cs σ)) sz) := by
  refine Met.ofW (cc := b_Terminal_showRubbing) (maxL := 1) (ret := none) (by decide) rfl ?_
  intro p e s m args below meth c s₁ B hml hv
  obtain ⟨hargs, hsz, hP, hK, hD0, hN⟩ := hv
  have hx := B.exec
  have hb := B.bytes
  have hr := B.returns
  have hts := atoms_spec (ws := w_Terminal_showRubbing) B.pre
  have hown : s.vm.findClass "JobTerminal$Terminal" = some m.cls := findClass_of_methodNamed B.named
  have hlocks := B.notSynchronized
  have htg : ∀ w ∈ GW, w.before args s = true := fun w h => hts w (List.mem_cons_of_mem _ h)
  subst hsz
  have hD := hD0.self (sz := s.heap.size)
  generalize hAe : va_A (q_ws 33 ad (cC ad cs σ)) s.heap.size = A at hD ⊢
  have hA : ∀ q : Nat, s.heap.size ≤ q → A q := fun q h => by rw [← hAe]; exact Or.inr h
  have I : q_I D vwCl A s.heap (q_ws 33 ad (cC ad cs σ)) s.heap [] := ⟨hP, hD, va_S.rf⟩
  obtain ⟨ls, hen, hl⟩ := q_entry (vs := [.ref (ad 6)]) (n := 1) (lv := [(0, .ref (ad 6))]) (by intro v hv; simp only [List.mem_cons, List.not_mem_nil, or_false] at hv; rcases hv with rfl <;> first | rfl | exact q_cat) (Nat.le_of_ble_eq_true rfl) rfl
  rw [show entryFrame m args 1 = F0 m 0 ls [] from by rw [hargs]; exact hen m]
  have C0 : q_Cx "JobTerminal$Terminal" b_Terminal_showRubbing 1 none w_Terminal_showRubbing D vwCl (tyL cs) NW p s m args meth c := ⟨hx, hb, hr, hml, hown, hts, hlocks, hK, hN⟩
  unfold f_Terminal_showRubbing at hf
  have hgo : ∀ (H : Heap) (locs : List Loc), q_I D vwCl A s.heap (q_ws 33 ad (cC ad cs σ)) H locs → W p l e ({ frames := 2, cells := 0, slots := 0, locals := 42 } : Room) s m args below meth c H locs 0 0 (MQ below (q_Qv D vwCl (q_ws 33 ad (cC ad cs res)) A) args s 0 0 A) (F0 m 0 ls []) := by
    intro H locs I
    refine lv_aload_n hx hb d_Terminal_showRubbing_0 rfl (q_at hl 0 rfl) ?_
    refine lv_bipush (v := 8) hx hb d_Terminal_showRubbing_1 (by decide) ?_
    obtain ⟨r1, e2, hf⟩ := q_bnd_some hf
    refine q_kv hA I (q_runV (C := "JobTerminal$Terminal") (As := [.int 8]) (rest := []) ⟨hx, hb, hml, hown, hts⟩ (c_Terminal_show (sz := H.size) e2) (cwV 1 hts (q_goodV mw98 mw99 mw100 mw101 mw83) rfl rfl rfl (by decide +kernel) ⟨Nat.le_of_ble_eq_true rfl, Nat.le_of_ble_eq_true rfl⟩) NW_ok hK hN I rfl (q_wsE (by decide) (a_C_Terminal)) rfl (q_sz hl) rfl (Nat.le_of_ble_eq_true rfl) d_Terminal_showRubbing_3 ⟨Nat.zero_le _, Nat.zero_le _⟩) (fun H locs I => ?_)
    refine lv_aload_n hx hb d_Terminal_showRubbing_6 rfl (q_at hl 0 rfl) ?_
    refine lv_bipush (v := 32) hx hb d_Terminal_showRubbing_7 (by decide) ?_
    obtain ⟨r3, e4, hf⟩ := q_bnd_some hf
    refine q_kv hA I (q_runV (C := "JobTerminal$Terminal") (As := [.int 32]) (rest := []) ⟨hx, hb, hml, hown, hts⟩ (c_Terminal_show (sz := H.size) e4) (cwV 1 hts (q_goodV mw98 mw99 mw100 mw101 mw83) rfl rfl rfl (by decide +kernel) ⟨Nat.le_of_ble_eq_true rfl, Nat.le_of_ble_eq_true rfl⟩) NW_ok hK hN I rfl (q_wsE (by decide) (a_C_Terminal)) rfl (q_sz hl) rfl (Nat.le_of_ble_eq_true rfl) d_Terminal_showRubbing_9 ⟨Nat.zero_le _, Nat.zero_le _⟩) (fun H locs I => ?_)
    refine lv_aload_n hx hb d_Terminal_showRubbing_12 rfl (q_at hl 0 rfl) ?_
    refine lv_bipush (v := 8) hx hb d_Terminal_showRubbing_13 (by decide) ?_
    obtain ⟨r5, e6, hf⟩ := q_bnd_some hf
    refine q_kv hA I (q_runV (C := "JobTerminal$Terminal") (As := [.int 8]) (rest := []) ⟨hx, hb, hml, hown, hts⟩ (c_Terminal_show (sz := H.size) e6) (cwV 1 hts (q_goodV mw98 mw99 mw100 mw101 mw83) rfl rfl rfl (by decide +kernel) ⟨Nat.le_of_ble_eq_true rfl, Nat.le_of_ble_eq_true rfl⟩) NW_ok hK hN I rfl (q_wsE (by decide) (a_C_Terminal)) rfl (q_sz hl) rfl (Nat.le_of_ble_eq_true rfl) d_Terminal_showRubbing_15 ⟨Nat.zero_le _, Nat.zero_le _⟩) (fun H locs I => ?_)
    cases hf
    exact q_vret hx hb hr hlocks I d_Terminal_showRubbing_18
  exact hgo _ _ I
-- JobTerminal$Terminal rubOut
def f_Terminal_rubOut_53 (σ : q_St) : Option q_St := some σ
set_option maxHeartbeats 4000000 in
set_option maxRecDepth 100000 in
theorem k_Terminal_rubOut_53 {p : Program} {l : Launch} {e : Env} {s : State} {m : MethodId} {args : Array Value} {below : List Frame} {meth : Method} {c : Code} {D : va_G} {A : Nat → Prop} {ad : Nat → Nat} {cs : Nat → ClassId} (C0 : q_Cx "JobTerminal$Terminal" b_Terminal_rubOut 4 none w_Terminal_rubOut D vwCl (tyL cs) NW p s m args meth c) (hA : ∀ q, s.heap.size ≤ q → A q) (res : q_St) : ∀ (σ : q_St) , f_Terminal_rubOut_53 σ  = some res → ∀ (H : Heap) (locs : List Loc), q_I D vwCl A s.heap (q_ws 33 ad (cC ad cs σ)) H locs → ∀ ls : Array Slot, q_has ls 4 [] → W p l e ({ frames := 3, cells := 0, slots := 0, locals := 62 } : Room) s m args below meth c H locs 0 0 (MQ below (q_Qv D vwCl (q_ws 33 ad (cC ad cs res)) A) args s 0 0 A) (F0 m 53 ls []) := by
  intro σ  hf H locs I ls hl
  unfold f_Terminal_rubOut_53 at hf
  obtain ⟨hx, hb, hr, hml, hown, hts, hlocks, hK, hN⟩ := id C0
  have htg : ∀ w ∈ GW, w.before args s = true := fun w h => hts w (List.mem_cons_of_mem _ h)
  cases hf
  exact q_vret hx hb hr hlocks I d_Terminal_rubOut_53
def f_Terminal_rubOut_47 (K2 : q_St → Int32 → Int32 → Option q_St) (σ : q_St) (x1 : Int32) (x2 : Int32) : Option q_St := K2 σ x1 (x2 + 1)
set_option maxHeartbeats 4000000 in
set_option maxRecDepth 100000 in
theorem k_Terminal_rubOut_47 {p : Program} {l : Launch} {e : Env} {s : State} {m : MethodId} {args : Array Value} {below : List Frame} {meth : Method} {c : Code} {D : va_G} {A : Nat → Prop} {ad : Nat → Nat} {cs : Nat → ClassId} (C0 : q_Cx "JobTerminal$Terminal" b_Terminal_rubOut 4 none w_Terminal_rubOut D vwCl (tyL cs) NW p s m args meth c) (hA : ∀ q, s.heap.size ≤ q → A q) (res : q_St) {K2 : q_St → Int32 → Int32 → Option q_St} (hk2 : ∀ (σ : q_St) (x1 : Int32) (x2 : Int32) , K2 σ x1 x2 = some res → ∀ (H : Heap) (locs : List Loc), q_I D vwCl A s.heap (q_ws 33 ad (cC ad cs σ)) H locs → ∀ ls : Array Slot, q_has ls 4 [(0, .ref (ad 6)), (1, .int x1), (2, .int x2)] → W p l e ({ frames := 3, cells := 0, slots := 0, locals := 62 } : Room) s m args below meth c H locs 0 0 (MQ below (q_Qv D vwCl (q_ws 33 ad (cC ad cs res)) A) args s 0 0 A) (F0 m 2 ls [])) : ∀ (σ : q_St) (x1 : Int32) (x2 : Int32) , f_Terminal_rubOut_47 K2 σ x1 x2 = some res → ∀ (H : Heap) (locs : List Loc), q_I D vwCl A s.heap (q_ws 33 ad (cC ad cs σ)) H locs → ∀ ls : Array Slot, q_has ls 4 [(0, .ref (ad 6)), (1, .int x1), (2, .int x2)] → W p l e ({ frames := 3, cells := 0, slots := 0, locals := 62 } : Room) s m args below meth c H locs 0 0 (MQ below (q_Qv D vwCl (q_ws 33 ad (cC ad cs res)) A) args s 0 0 A) (F0 m 47 ls []) := by
  intro σ x1 x2 hf H locs I ls hl
  unfold f_Terminal_rubOut_47 at hf
  obtain ⟨hx, hb, hr, hml, hown, hts, hlocks, hK, hN⟩ := id C0
  have htg : ∀ w ∈ GW, w.before args s = true := fun w h => hts w (List.mem_cons_of_mem _ h)
  refine q_iinc (v := x2 + 1) (lv' := [(2, .int (x2 + 1)), (0, .ref (ad 6)), (1, .int x1)]) hx hb d_Terminal_rubOut_47 hl (k := 2) rfl rfl (by decide) rfl (fun ls hl => ?_)
  refine lv_goto (tgt := 2) hx hb d_Terminal_rubOut_50 (by decide) ?_
  exact hk2 σ x1 (x2 + 1) hf H locs I ls (q_hsub hl [1, 2, 0] rfl)
def f_Terminal_rubOut_2 : Nat → q_St → Int32 → Int32 → Option q_St
  | 0, _, _, _ => none
  | n + 1, σ, x1, x2 => if x1 ≤ x2 then (f_Terminal_rubOut_53 σ) else (if (σ 27 0) ≤ 0 then (f_Terminal_rubOut_53 σ) else (q_bnd (f_NumberRow_takeLatest σ 0) (fun r3 => q_bnd (f_Terminal_has r3.2 2) (fun r5 => if r5.1 = 0 then (f_Terminal_rubOut_47 (f_Terminal_rubOut_2 n) r5.2 x1 x2) else (q_bnd (f_Terminal_showRubbing r5.2) (fun r8 => if 32 ≤ r3.1 then (f_Terminal_rubOut_47 (f_Terminal_rubOut_2 n) r8 x1 x2) else (q_bnd (f_Terminal_showRubbing r8) (fun r11 => f_Terminal_rubOut_47 (f_Terminal_rubOut_2 n) r11 x1 x2))))))))
set_option maxHeartbeats 4000000 in
set_option maxRecDepth 100000 in
theorem k_Terminal_rubOut_2 {p : Program} {l : Launch} {e : Env} {s : State} {m : MethodId} {args : Array Value} {below : List Frame} {meth : Method} {c : Code} {D : va_G} {A : Nat → Prop} {ad : Nat → Nat} {cs : Nat → ClassId} (C0 : q_Cx "JobTerminal$Terminal" b_Terminal_rubOut 4 none w_Terminal_rubOut D vwCl (tyL cs) NW p s m args meth c) (hA : ∀ q, s.heap.size ≤ q → A q) (res : q_St) : ∀ (n : Nat) (σ : q_St) (x1 : Int32) (x2 : Int32) , f_Terminal_rubOut_2 n σ x1 x2 = some res → ∀ (H : Heap) (locs : List Loc), q_I D vwCl A s.heap (q_ws 33 ad (cC ad cs σ)) H locs → ∀ ls : Array Slot, q_has ls 4 [(0, .ref (ad 6)), (1, .int x1), (2, .int x2)] → W p l e ({ frames := 3, cells := 0, slots := 0, locals := 62 } : Room) s m args below meth c H locs 0 0 (MQ below (q_Qv D vwCl (q_ws 33 ad (cC ad cs res)) A) args s 0 0 A) (F0 m 2 ls []) := by
  intro n
  induction n with
  | zero => intro σ x1 x2 hf; cases hf
  | succ n ih =>
    intro σ x1 x2 hf H locs I ls hl
    have ih := ih
    rw [f_Terminal_rubOut_2] at hf
    have C0 := C0
    obtain ⟨hx, hb, hr, hml, hown, hts, hlocks, hK, hN⟩ := id C0
    have htg : ∀ w ∈ GW, w.before args s = true := fun w h => hts w (List.mem_cons_of_mem _ h)
    refine lv_iload_n hx hb d_Terminal_rubOut_2 rfl (q_at hl 2 rfl) ?_
    refine lv_iload_n hx hb d_Terminal_rubOut_3 rfl (q_at hl 1 rfl) ?_
    refine lv_icmp_ge (tgt := 53) hx hb d_Terminal_rubOut_4 (by decide) (fun c1 => ?_) (fun c1 => ?_)
    · rw [if_pos c1] at hf
      exact k_Terminal_rubOut_53 C0 hA res σ hf H locs I ls (q_hsub hl [] rfl)
    · rw [if_neg c1] at hf
      refine lv_aload_n hx hb d_Terminal_rubOut_7 rfl (q_at hl 0 rfl) ?_
      refine G_Terminal_Terminal_edit hx hb htg hown hK hN I d_Terminal_rubOut_8 ?_
      refine G_Terminal_NumberRow_count hx hb htg hown hK hN I (show (0 : Nat) < 6 by skip; omega) d_Terminal_rubOut_11 ?_
      refine lv_if_le (tgt := 53) hx hb d_Terminal_rubOut_14 (by decide) (fun c2 => ?_) (fun c2 => ?_)
      · rw [if_pos c2] at hf
        exact k_Terminal_rubOut_53 C0 hA res σ hf H locs I ls (q_hsub hl [] rfl)
      · rw [if_neg c2] at hf
        refine lv_aload_n hx hb d_Terminal_rubOut_17 rfl (q_at hl 0 rfl) ?_
        refine G_Terminal_Terminal_edit hx hb htg hown hK hN I d_Terminal_rubOut_18 ?_
        obtain ⟨r3, e4, hf⟩ := q_bnd_some hf
        refine q_ki hA I (q_runV (C := "JobTerminal$NumberRow") (As := []) (rest := []) ⟨hx, hb, hml, hown, hts⟩ (c_NumberRow_takeLatest (sz := H.size) (show (0 : Nat) < 6 by skip; omega) e4) (cwV 0 hts (q_goodV mw118 mw119 mw120 mw121 mw88) rfl rfl rfl (by decide +kernel) ⟨Nat.le_of_ble_eq_true rfl, Nat.le_of_ble_eq_true rfl⟩) NW_ok hK hN I rfl (q_wsE (Nat.lt_of_lt_of_le (Nat.add_lt_add_left (show (0 : Nat) < 6 by skip; omega) _) (by decide)) (a_C_NumberRow (show (0 : Nat) < 6 by skip; omega))) rfl (q_sz hl) rfl (Nat.le_of_ble_eq_true rfl) d_Terminal_rubOut_21 ⟨Nat.zero_le _, Nat.zero_le _⟩) (fun H locs I => ?_)
        refine q_istore_n (lv' := [(3, .int r3.1), (0, .ref (ad 6)), (1, .int x1), (2, .int x2)]) hx hb d_Terminal_rubOut_24 rfl hl (by decide) rfl (fun ls hl => ?_)
        refine lv_aload_n hx hb d_Terminal_rubOut_25 rfl (q_at hl 1 rfl) ?_
        refine lv_iconst (v := 2) hx hb d_Terminal_rubOut_26 (by decide) ?_
        obtain ⟨r5, e6, hf⟩ := q_bnd_some hf
        refine q_ki hA I (q_runV (C := "JobTerminal$Terminal") (As := [.int 2]) (rest := []) ⟨hx, hb, hml, hown, hts⟩ (c_Terminal_has (sz := H.size) e6) (cwV 1 hts (q_goodV mw79 mw80 mw81 mw82 mw83) rfl rfl rfl (by decide +kernel) ⟨Nat.le_of_ble_eq_true rfl, Nat.le_of_ble_eq_true rfl⟩) NW_ok hK hN I rfl (q_wsE (by decide) (a_C_Terminal)) rfl (q_sz hl) rfl (Nat.le_of_ble_eq_true rfl) d_Terminal_rubOut_27 ⟨Nat.zero_le _, Nat.zero_le _⟩) (fun H locs I => ?_)
        refine lv_if_eq (tgt := 47) hx hb d_Terminal_rubOut_30 (by decide) (fun c7 => ?_) (fun c7 => ?_)
        · rw [if_pos c7] at hf
          exact k_Terminal_rubOut_47 C0 hA res (K2 := f_Terminal_rubOut_2 n) ih r5.2 x1 x2 hf H locs I ls (q_hsub hl [1, 2, 3] rfl)
        · rw [if_neg c7] at hf
          refine lv_aload_n hx hb d_Terminal_rubOut_33 rfl (q_at hl 1 rfl) ?_
          obtain ⟨r8, e9, hf⟩ := q_bnd_some hf
          refine q_kv hA I (q_runV (C := "JobTerminal$Terminal") (As := []) (rest := []) ⟨hx, hb, hml, hown, hts⟩ (c_Terminal_showRubbing (sz := H.size) e9) (cwV 0 hts (q_goodV mw122 mw123 mw124 mw125 mw83) rfl rfl rfl (by decide +kernel) ⟨Nat.le_of_ble_eq_true rfl, Nat.le_of_ble_eq_true rfl⟩) NW_ok hK hN I rfl (q_wsE (by decide) (a_C_Terminal)) rfl (q_sz hl) rfl (Nat.le_of_ble_eq_true rfl) d_Terminal_rubOut_34 ⟨Nat.zero_le _, Nat.zero_le _⟩) (fun H locs I => ?_)
          refine lv_iload_n hx hb d_Terminal_rubOut_37 rfl (q_at hl 0 rfl) ?_
          refine lv_bipush (v := 32) hx hb d_Terminal_rubOut_38 (by decide) ?_
          refine lv_icmp_ge (tgt := 47) hx hb d_Terminal_rubOut_40 (by decide) (fun c10 => ?_) (fun c10 => ?_)
          · rw [if_pos c10] at hf
            exact k_Terminal_rubOut_47 C0 hA res (K2 := f_Terminal_rubOut_2 n) ih r8 x1 x2 hf H locs I ls (q_hsub hl [1, 2, 3] rfl)
          · rw [if_neg c10] at hf
            refine lv_aload_n hx hb d_Terminal_rubOut_43 rfl (q_at hl 1 rfl) ?_
            obtain ⟨r11, e12, hf⟩ := q_bnd_some hf
            refine q_kv hA I (q_runV (C := "JobTerminal$Terminal") (As := []) (rest := []) ⟨hx, hb, hml, hown, hts⟩ (c_Terminal_showRubbing (sz := H.size) e12) (cwV 0 hts (q_goodV mw122 mw123 mw124 mw125 mw83) rfl rfl rfl (by decide +kernel) ⟨Nat.le_of_ble_eq_true rfl, Nat.le_of_ble_eq_true rfl⟩) NW_ok hK hN I rfl (q_wsE (by decide) (a_C_Terminal)) rfl (q_sz hl) rfl (Nat.le_of_ble_eq_true rfl) d_Terminal_rubOut_44 ⟨Nat.zero_le _, Nat.zero_le _⟩) (fun H locs I => ?_)
            exact k_Terminal_rubOut_47 C0 hA res (K2 := f_Terminal_rubOut_2 n) ih r11 x1 x2 hf H locs I ls (q_hsub hl [1, 2, 3] rfl)
def f_Terminal_rubOut (σ : q_St) (p1 : Int32) : Option q_St := f_Terminal_rubOut_2 200 σ p1 0
set_option maxHeartbeats 4000000 in
set_option maxRecDepth 100000 in
theorem c_Terminal_rubOut {l : Launch} {D : va_G} {ad : Nat → Nat} {cs : Nat → ClassId} {sz : Nat} {σ : q_St} {p1 : Int32} {res : q_St} (hf : f_Terminal_rubOut σ p1 = some res) : Met l y_Terminal_rubOut w_Terminal_rubOut ({ frames := 3, cells := 0, slots := 0, locals := 62 } : Room) (q_Pre D vwCl (tyL cs) NW [.ref (ad 6), .int p1] (q_ws 33 ad (cC ad cs σ)) sz) (q_Qv D vwCl (q_ws 33 ad (cC ad cs res)) (va_A (q_ws 33 ad (cC ad cs σ)) sz)) 0 0 (va_A (q_ws 33 ad (cC ad cs σ)) sz) := by
  refine Met.ofW (cc := b_Terminal_rubOut) (maxL := 4) (ret := none) (by decide) rfl ?_
  intro p e s m args below meth c s₁ B hml hv
  obtain ⟨hargs, hsz, hP, hK, hD0, hN⟩ := hv
  have hx := B.exec
  have hb := B.bytes
  have hr := B.returns
  have hts := atoms_spec (ws := w_Terminal_rubOut) B.pre
  have hown : s.vm.findClass "JobTerminal$Terminal" = some m.cls := findClass_of_methodNamed B.named
  have hlocks := B.notSynchronized
  have htg : ∀ w ∈ GW, w.before args s = true := fun w h => hts w (List.mem_cons_of_mem _ h)
  subst hsz
  have hD := hD0.self (sz := s.heap.size)
  generalize hAe : va_A (q_ws 33 ad (cC ad cs σ)) s.heap.size = A at hD ⊢
  have hA : ∀ q : Nat, s.heap.size ≤ q → A q := fun q h => by rw [← hAe]; exact Or.inr h
  have I : q_I D vwCl A s.heap (q_ws 33 ad (cC ad cs σ)) s.heap [] := ⟨hP, hD, va_S.rf⟩
  obtain ⟨ls, hen, hl⟩ := q_entry (vs := [.ref (ad 6), .int p1]) (n := 4) (lv := [(0, .ref (ad 6)), (1, .int p1)]) (by intro v hv; simp only [List.mem_cons, List.not_mem_nil, or_false] at hv; rcases hv with rfl | rfl <;> first | rfl | exact q_cat) (Nat.le_of_ble_eq_true rfl) rfl
  rw [show entryFrame m args 4 = F0 m 0 ls [] from by rw [hargs]; exact hen m]
  have C0 : q_Cx "JobTerminal$Terminal" b_Terminal_rubOut 4 none w_Terminal_rubOut D vwCl (tyL cs) NW p s m args meth c := ⟨hx, hb, hr, hml, hown, hts, hlocks, hK, hN⟩
  unfold f_Terminal_rubOut at hf
  have hgo : ∀ (H : Heap) (locs : List Loc), q_I D vwCl A s.heap (q_ws 33 ad (cC ad cs σ)) H locs → W p l e ({ frames := 3, cells := 0, slots := 0, locals := 62 } : Room) s m args below meth c H locs 0 0 (MQ below (q_Qv D vwCl (q_ws 33 ad (cC ad cs res)) A) args s 0 0 A) (F0 m 0 ls []) := by
    intro H locs I
    refine lv_iconst (v := 0) hx hb d_Terminal_rubOut_0 (by decide) ?_
    refine q_istore_n (lv' := [(2, .int 0), (0, .ref (ad 6)), (1, .int p1)]) hx hb d_Terminal_rubOut_1 rfl hl (by decide) rfl (fun ls hl => ?_)
    exact k_Terminal_rubOut_2 C0 hA res 200 σ p1 0 hf H locs I ls (q_hsub hl [1, 2, 0] rfl)
  exact hgo _ _ I
-- JobTerminal$NumberRow takeOldest
def f_NumberRow_takeOldest (σ : q_St) (i : Nat) : Option (Int32 × q_St) := if (σ 27 i) = 0 then (some (-1, σ)) else (q_bnd (f_NumberRow_numberAt σ i (σ 26 i)) (fun r2 => q_bnd (f_NumberRow_placeOf r2.2 i 1) (fun r4 => some (r2.1, q_up (q_up r4.2 26 i r4.1) 27 i (((q_up r4.2 26 i r4.1) 27 i) - 1)))))
set_option maxHeartbeats 4000000 in
set_option maxRecDepth 100000 in
theorem c_NumberRow_takeOldest {l : Launch} {D : va_G} {ad : Nat → Nat} {cs : Nat → ClassId} {sz : Nat} {σ : q_St} {i : Nat} (hi : i < 6) {res : (Int32 × q_St)} (hf : f_NumberRow_takeOldest σ i  = some res) : Met l y_NumberRow_takeOldest w_NumberRow_takeOldest ({ frames := 2, cells := 0, slots := 0, locals := 42 } : Room) (q_Pre D vwCl (tyL cs) NW [.ref (ad (21 + i))] (q_ws 33 ad (cC ad cs σ)) sz) (q_Qi D vwCl res.1 (q_ws 33 ad (cC ad cs res.2)) (va_A (q_ws 33 ad (cC ad cs σ)) sz)) 0 0 (va_A (q_ws 33 ad (cC ad cs σ)) sz) := by
  refine Met.ofW (cc := b_NumberRow_takeOldest) (maxL := 2) (ret := (some .int)) (by decide) rfl ?_
  intro p e s m args below meth c s₁ B hml hv
  obtain ⟨hargs, hsz, hP, hK, hD0, hN⟩ := hv
  have hx := B.exec
  have hb := B.bytes
  have hr := B.returns
  have hts := atoms_spec (ws := w_NumberRow_takeOldest) B.pre
  have hown : s.vm.findClass "JobTerminal$NumberRow" = some m.cls := findClass_of_methodNamed B.named
  have hlocks := B.notSynchronized
  have htg : ∀ w ∈ GW, w.before args s = true := fun w h => hts w (List.mem_cons_of_mem _ h)
  subst hsz
  have hD := hD0.self (sz := s.heap.size)
  generalize hAe : va_A (q_ws 33 ad (cC ad cs σ)) s.heap.size = A at hD ⊢
  have hA : ∀ q : Nat, s.heap.size ≤ q → A q := fun q h => by rw [← hAe]; exact Or.inr h
  have I : q_I D vwCl A s.heap (q_ws 33 ad (cC ad cs σ)) s.heap [] := ⟨hP, hD, va_S.rf⟩
  obtain ⟨ls, hen, hl⟩ := q_entry (vs := [.ref (ad (21 + i))]) (n := 2) (lv := [(0, .ref (ad (21 + i)))]) (by intro v hv; simp only [List.mem_cons, List.not_mem_nil, or_false] at hv; rcases hv with rfl <;> first | rfl | exact q_cat) (Nat.le_of_ble_eq_true rfl) rfl
  rw [show entryFrame m args 2 = F0 m 0 ls [] from by rw [hargs]; exact hen m]
  have C0 : q_Cx "JobTerminal$NumberRow" b_NumberRow_takeOldest 2 (some .int) w_NumberRow_takeOldest D vwCl (tyL cs) NW p s m args meth c := ⟨hx, hb, hr, hml, hown, hts, hlocks, hK, hN⟩
  unfold f_NumberRow_takeOldest at hf
  have hgo : ∀ (H : Heap) (locs : List Loc), q_I D vwCl A s.heap (q_ws 33 ad (cC ad cs σ)) H locs → W p l e ({ frames := 2, cells := 0, slots := 0, locals := 42 } : Room) s m args below meth c H locs 0 0 (MQ below (q_Qi D vwCl res.1 (q_ws 33 ad (cC ad cs res.2)) A) args s 0 0 A) (F0 m 0 ls []) := by
    intro H locs I
    refine lv_aload_n hx hb d_NumberRow_takeOldest_0 rfl (q_at hl 0 rfl) ?_
    refine G_NumberRow_NumberRow_count hx hb htg hown hK hN I hi d_NumberRow_takeOldest_1 ?_
    refine lv_if_ne (tgt := 9) hx hb d_NumberRow_takeOldest_4 (by decide) (fun c1 => ?_) (fun c1 => ?_)
    · rw [if_neg c1] at hf
      refine lv_aload_n hx hb d_NumberRow_takeOldest_9 rfl (q_at hl 0 rfl) ?_
      refine lv_aload_n hx hb d_NumberRow_takeOldest_10 rfl (q_at hl 0 rfl) ?_
      refine G_NumberRow_NumberRow_oldest hx hb htg hown hK hN I hi d_NumberRow_takeOldest_11 ?_
      obtain ⟨r2, e3, hf⟩ := q_bnd_some hf
      refine q_ki hA I (q_runV (C := "JobTerminal$NumberRow") (As := [.int (σ 26 i)]) (rest := []) ⟨hx, hb, hml, hown, hts⟩ (c_NumberRow_numberAt (sz := H.size) hi e3) (cwV 1 hts (q_goodV mw114 mw115 mw116 mw117 mw88) rfl rfl rfl (by decide +kernel) ⟨Nat.le_of_ble_eq_true rfl, Nat.le_of_ble_eq_true rfl⟩) NW_ok hK hN I rfl (q_wsE (Nat.lt_of_lt_of_le (Nat.add_lt_add_left hi _) (by decide)) (a_C_NumberRow hi)) rfl (q_sz hl) rfl (Nat.le_of_ble_eq_true rfl) d_NumberRow_takeOldest_14 ⟨Nat.zero_le _, Nat.zero_le _⟩) (fun H locs I => ?_)
      refine q_istore_n (lv' := [(1, .int r2.1), (0, .ref (ad (21 + i)))]) hx hb d_NumberRow_takeOldest_17 rfl hl (by decide) rfl (fun ls hl => ?_)
      refine lv_aload_n hx hb d_NumberRow_takeOldest_18 rfl (q_at hl 1 rfl) ?_
      refine lv_aload_n hx hb d_NumberRow_takeOldest_19 rfl (q_at hl 1 rfl) ?_
      refine lv_iconst (v := 1) hx hb d_NumberRow_takeOldest_20 (by decide) ?_
      obtain ⟨r4, e5, hf⟩ := q_bnd_some hf
      refine q_ki hA I (q_runV (C := "JobTerminal$NumberRow") (As := [.int 1]) (rest := [.ref (ad (21 + i))]) ⟨hx, hb, hml, hown, hts⟩ (c_NumberRow_placeOf (sz := H.size) hi e5) (cwV 1 hts (q_goodV mw84 mw85 mw86 mw87 mw88) rfl rfl rfl (by decide +kernel) ⟨Nat.le_of_ble_eq_true rfl, Nat.le_of_ble_eq_true rfl⟩) NW_ok hK hN I rfl (q_wsE (Nat.lt_of_lt_of_le (Nat.add_lt_add_left hi _) (by decide)) (a_C_NumberRow hi)) rfl (q_sz hl) rfl (Nat.le_of_ble_eq_true rfl) d_NumberRow_takeOldest_21 ⟨Nat.zero_le _, Nat.zero_le _⟩) (fun H locs I => ?_)
      refine P_NumberRow_NumberRow_oldest hx hb htg hown hK hN I hi d_NumberRow_takeOldest_24 (fun H locs I => ?_)
      refine lv_aload_n hx hb d_NumberRow_takeOldest_27 rfl (q_at hl 1 rfl) ?_
      refine lv_dup hx hb d_NumberRow_takeOldest_28 rfl ?_
      refine G_NumberRow_NumberRow_count hx hb htg hown hK hN I hi d_NumberRow_takeOldest_29 ?_
      refine lv_iconst (v := 1) hx hb d_NumberRow_takeOldest_32 (by decide) ?_
      refine lv_isub hx hb d_NumberRow_takeOldest_33 ?_
      refine P_NumberRow_NumberRow_count hx hb htg hown hK hN I hi d_NumberRow_takeOldest_34 (fun H locs I => ?_)
      refine lv_iload_n hx hb d_NumberRow_takeOldest_37 rfl (q_at hl 0 rfl) ?_
      cases hf
      exact q_iret hx hb hr hlocks I d_NumberRow_takeOldest_38
    · rw [if_pos c1] at hf
      refine lv_iconst (v := -1) hx hb d_NumberRow_takeOldest_7 (by decide) ?_
      cases hf
      exact q_iret hx hb hr hlocks I d_NumberRow_takeOldest_8
  exact hgo _ _ I
-- JobTerminal$Terminal queueEdit
def f_Terminal_queueEdit_59 (σ : q_St) : Option (Int32 × q_St) := some (1, σ)
set_option maxHeartbeats 4000000 in
set_option maxRecDepth 100000 in
theorem k_Terminal_queueEdit_59 {p : Program} {l : Launch} {e : Env} {s : State} {m : MethodId} {args : Array Value} {below : List Frame} {meth : Method} {c : Code} {D : va_G} {A : Nat → Prop} {ad : Nat → Nat} {cs : Nat → ClassId} (C0 : q_Cx "JobTerminal$Terminal" b_Terminal_queueEdit 3 (some .boolean) w_Terminal_queueEdit D vwCl (tyL cs) NW p s m args meth c) (hA : ∀ q, s.heap.size ≤ q → A q) (res : (Int32 × q_St)) : ∀ (σ : q_St) , f_Terminal_queueEdit_59 σ  = some res → ∀ (H : Heap) (locs : List Loc), q_I D vwCl A s.heap (q_ws 33 ad (cC ad cs σ)) H locs → ∀ ls : Array Slot, q_has ls 3 [] → W p l e ({ frames := 3, cells := 0, slots := 0, locals := 63 } : Room) s m args below meth c H locs 0 0 (MQ below (q_Qi D vwCl res.1 (q_ws 33 ad (cC ad cs res.2)) A) args s 0 0 A) (F0 m 59 ls []) := by
  intro σ  hf H locs I ls hl
  unfold f_Terminal_queueEdit_59 at hf
  obtain ⟨hx, hb, hr, hml, hown, hts, hlocks, hK, hN⟩ := id C0
  have htg : ∀ w ∈ GW, w.before args s = true := fun w h => hts w (List.mem_cons_of_mem _ h)
  refine lv_iconst (v := 1) hx hb d_Terminal_queueEdit_59 (by decide) ?_
  cases hf
  exact q_zret (r0 := 1) hx hb hr hlocks (by decide) I d_Terminal_queueEdit_60
def f_Terminal_queueEdit_23 : Nat → q_St → Int32 → Option (Int32 × q_St)
  | 0, _, _ => none
  | n + 1, σ, x2 => if 20 ≤ x2 then (f_Terminal_queueEdit_59 σ) else (if (σ 27 0) ≤ 0 then (f_Terminal_queueEdit_59 σ) else (q_bnd (f_NumberRow_takeOldest σ 0) (fun r6 => q_bnd (f_NumberRow_putLast r6.2 1 r6.1) (fun r8 => f_Terminal_queueEdit_23 n r8 (x2 + 1)))))
set_option maxHeartbeats 4000000 in
set_option maxRecDepth 100000 in
theorem k_Terminal_queueEdit_23 {p : Program} {l : Launch} {e : Env} {s : State} {m : MethodId} {args : Array Value} {below : List Frame} {meth : Method} {c : Code} {D : va_G} {A : Nat → Prop} {ad : Nat → Nat} {cs : Nat → ClassId} (C0 : q_Cx "JobTerminal$Terminal" b_Terminal_queueEdit 3 (some .boolean) w_Terminal_queueEdit D vwCl (tyL cs) NW p s m args meth c) (hA : ∀ q, s.heap.size ≤ q → A q) (res : (Int32 × q_St)) : ∀ (n : Nat) (σ : q_St) (x2 : Int32) , f_Terminal_queueEdit_23 n σ x2 = some res → ∀ (H : Heap) (locs : List Loc), q_I D vwCl A s.heap (q_ws 33 ad (cC ad cs σ)) H locs → ∀ ls : Array Slot, q_has ls 3 [(0, .ref (ad 6)), (2, .int x2)] → W p l e ({ frames := 3, cells := 0, slots := 0, locals := 63 } : Room) s m args below meth c H locs 0 0 (MQ below (q_Qi D vwCl res.1 (q_ws 33 ad (cC ad cs res.2)) A) args s 0 0 A) (F0 m 23 ls []) := by
  intro n
  induction n with
  | zero => intro σ x2 hf; cases hf
  | succ n ih =>
    intro σ x2 hf H locs I ls hl
    have ih := ih
    rw [f_Terminal_queueEdit_23] at hf
    have C0 := C0
    obtain ⟨hx, hb, hr, hml, hown, hts, hlocks, hK, hN⟩ := id C0
    have htg : ∀ w ∈ GW, w.before args s = true := fun w h => hts w (List.mem_cons_of_mem _ h)
    refine lv_iload_n hx hb d_Terminal_queueEdit_23 rfl (q_at hl 1 rfl) ?_
    refine lv_bipush (v := 20) hx hb d_Terminal_queueEdit_24 (by decide) ?_
    refine lv_icmp_ge (tgt := 59) hx hb d_Terminal_queueEdit_26 (by decide) (fun c4 => ?_) (fun c4 => ?_)
    · rw [if_pos c4] at hf
      exact k_Terminal_queueEdit_59 C0 hA res σ hf H locs I ls (q_hsub hl [] rfl)
    · rw [if_neg c4] at hf
      refine lv_aload_n hx hb d_Terminal_queueEdit_29 rfl (q_at hl 0 rfl) ?_
      refine G_Terminal_Terminal_edit hx hb htg hown hK hN I d_Terminal_queueEdit_30 ?_
      refine G_Terminal_NumberRow_count hx hb htg hown hK hN I (show (0 : Nat) < 6 by skip; omega) d_Terminal_queueEdit_33 ?_
      refine lv_if_le (tgt := 59) hx hb d_Terminal_queueEdit_36 (by decide) (fun c5 => ?_) (fun c5 => ?_)
      · rw [if_pos c5] at hf
        exact k_Terminal_queueEdit_59 C0 hA res σ hf H locs I ls (q_hsub hl [] rfl)
      · rw [if_neg c5] at hf
        refine lv_aload_n hx hb d_Terminal_queueEdit_39 rfl (q_at hl 0 rfl) ?_
        refine G_Terminal_Terminal_queue hx hb htg hown hK hN I d_Terminal_queueEdit_40 ?_
        refine lv_aload_n hx hb d_Terminal_queueEdit_43 rfl (q_at hl 0 rfl) ?_
        refine G_Terminal_Terminal_edit hx hb htg hown hK hN I d_Terminal_queueEdit_44 ?_
        obtain ⟨r6, e7, hf⟩ := q_bnd_some hf
        refine q_ki hA I (q_runV (C := "JobTerminal$NumberRow") (As := []) (rest := [.ref (ad (21 + 1))]) ⟨hx, hb, hml, hown, hts⟩ (c_NumberRow_takeOldest (sz := H.size) (show (0 : Nat) < 6 by skip; omega) e7) (cwV 0 hts (q_goodV mw126 mw127 mw128 mw129 mw88) rfl rfl rfl (by decide +kernel) ⟨Nat.le_of_ble_eq_true rfl, Nat.le_of_ble_eq_true rfl⟩) NW_ok hK hN I rfl (q_wsE (Nat.lt_of_lt_of_le (Nat.add_lt_add_left (show (0 : Nat) < 6 by skip; omega) _) (by decide)) (a_C_NumberRow (show (0 : Nat) < 6 by skip; omega))) rfl (q_sz hl) rfl (Nat.le_of_ble_eq_true rfl) d_Terminal_queueEdit_47 ⟨Nat.zero_le _, Nat.zero_le _⟩) (fun H locs I => ?_)
        obtain ⟨r8, e9, hf⟩ := q_bnd_some hf
        refine q_kv hA I (q_runV (C := "JobTerminal$NumberRow") (As := [.int r6.1]) (rest := []) ⟨hx, hb, hml, hown, hts⟩ (c_NumberRow_putLast (sz := H.size) (show (1 : Nat) < 6 by skip; omega) e9) (cwV 1 hts (q_goodV mw106 mw107 mw108 mw109 mw88) rfl rfl rfl (by decide +kernel) ⟨Nat.le_of_ble_eq_true rfl, Nat.le_of_ble_eq_true rfl⟩) NW_ok hK hN I rfl (q_wsE (Nat.lt_of_lt_of_le (Nat.add_lt_add_left (show (1 : Nat) < 6 by skip; omega) _) (by decide)) (a_C_NumberRow (show (1 : Nat) < 6 by skip; omega))) rfl (q_sz hl) rfl (Nat.le_of_ble_eq_true rfl) d_Terminal_queueEdit_50 ⟨Nat.zero_le _, Nat.zero_le _⟩) (fun H locs I => ?_)
        refine q_iinc (v := x2 + 1) (lv' := [(2, .int (x2 + 1)), (0, .ref (ad 6))]) hx hb d_Terminal_queueEdit_53 hl (k := 1) rfl rfl (by decide) rfl (fun ls hl => ?_)
        refine lv_goto (tgt := 23) hx hb d_Terminal_queueEdit_56 (by decide) ?_
        exact ih r8 (x2 + 1) hf H locs I ls (q_hsub hl [1, 0] rfl)
def f_Terminal_queueEdit (σ : q_St) (p1 : Int32) : Option (Int32 × q_St) := q_bnd (f_NumberRow_hasRoomFor σ 1 ((σ 27 0) + p1)) (fun r1 => if r1.1 = 0 then (some (0, r1.2)) else (f_Terminal_queueEdit_23 200 r1.2 0))
set_option maxHeartbeats 4000000 in
set_option maxRecDepth 100000 in
theorem c_Terminal_queueEdit {l : Launch} {D : va_G} {ad : Nat → Nat} {cs : Nat → ClassId} {sz : Nat} {σ : q_St} {p1 : Int32} {res : (Int32 × q_St)} (hf : f_Terminal_queueEdit σ p1 = some res) : Met l y_Terminal_queueEdit w_Terminal_queueEdit ({ frames := 3, cells := 0, slots := 0, locals := 63 } : Room) (q_Pre D vwCl (tyL cs) NW [.ref (ad 6), .int p1] (q_ws 33 ad (cC ad cs σ)) sz) (q_Qi D vwCl res.1 (q_ws 33 ad (cC ad cs res.2)) (va_A (q_ws 33 ad (cC ad cs σ)) sz)) 0 0 (va_A (q_ws 33 ad (cC ad cs σ)) sz) := by
  refine Met.ofW (cc := b_Terminal_queueEdit) (maxL := 3) (ret := (some .boolean)) (by decide) rfl ?_
  intro p e s m args below meth c s₁ B hml hv
  obtain ⟨hargs, hsz, hP, hK, hD0, hN⟩ := hv
  have hx := B.exec
  have hb := B.bytes
  have hr := B.returns
  have hts := atoms_spec (ws := w_Terminal_queueEdit) B.pre
  have hown : s.vm.findClass "JobTerminal$Terminal" = some m.cls := findClass_of_methodNamed B.named
  have hlocks := B.notSynchronized
  have htg : ∀ w ∈ GW, w.before args s = true := fun w h => hts w (List.mem_cons_of_mem _ h)
  subst hsz
  have hD := hD0.self (sz := s.heap.size)
  generalize hAe : va_A (q_ws 33 ad (cC ad cs σ)) s.heap.size = A at hD ⊢
  have hA : ∀ q : Nat, s.heap.size ≤ q → A q := fun q h => by rw [← hAe]; exact Or.inr h
  have I : q_I D vwCl A s.heap (q_ws 33 ad (cC ad cs σ)) s.heap [] := ⟨hP, hD, va_S.rf⟩
  obtain ⟨ls, hen, hl⟩ := q_entry (vs := [.ref (ad 6), .int p1]) (n := 3) (lv := [(0, .ref (ad 6)), (1, .int p1)]) (by intro v hv; simp only [List.mem_cons, List.not_mem_nil, or_false] at hv; rcases hv with rfl | rfl <;> first | rfl | exact q_cat) (Nat.le_of_ble_eq_true rfl) rfl
  rw [show entryFrame m args 3 = F0 m 0 ls [] from by rw [hargs]; exact hen m]
  have C0 : q_Cx "JobTerminal$Terminal" b_Terminal_queueEdit 3 (some .boolean) w_Terminal_queueEdit D vwCl (tyL cs) NW p s m args meth c := ⟨hx, hb, hr, hml, hown, hts, hlocks, hK, hN⟩
  unfold f_Terminal_queueEdit at hf
  have hgo : ∀ (H : Heap) (locs : List Loc), q_I D vwCl A s.heap (q_ws 33 ad (cC ad cs σ)) H locs → W p l e ({ frames := 3, cells := 0, slots := 0, locals := 63 } : Room) s m args below meth c H locs 0 0 (MQ below (q_Qi D vwCl res.1 (q_ws 33 ad (cC ad cs res.2)) A) args s 0 0 A) (F0 m 0 ls []) := by
    intro H locs I
    refine lv_aload_n hx hb d_Terminal_queueEdit_0 rfl (q_at hl 0 rfl) ?_
    refine G_Terminal_Terminal_queue hx hb htg hown hK hN I d_Terminal_queueEdit_1 ?_
    refine lv_aload_n hx hb d_Terminal_queueEdit_4 rfl (q_at hl 0 rfl) ?_
    refine G_Terminal_Terminal_edit hx hb htg hown hK hN I d_Terminal_queueEdit_5 ?_
    refine G_Terminal_NumberRow_count hx hb htg hown hK hN I (show (0 : Nat) < 6 by skip; omega) d_Terminal_queueEdit_8 ?_
    refine lv_iload_n hx hb d_Terminal_queueEdit_11 rfl (q_at hl 1 rfl) ?_
    refine lv_iadd hx hb d_Terminal_queueEdit_12 ?_
    obtain ⟨r1, e2, hf⟩ := q_bnd_some hf
    refine q_ki hA I (q_runV (C := "JobTerminal$NumberRow") (As := [.int ((σ 27 0) + p1)]) (rest := []) ⟨hx, hb, hml, hown, hts⟩ (c_NumberRow_hasRoomFor (sz := H.size) (show (1 : Nat) < 6 by skip; omega) e2) (cwV 1 hts (q_goodV mw102 mw103 mw104 mw105 mw88) rfl rfl rfl (by decide +kernel) ⟨Nat.le_of_ble_eq_true rfl, Nat.le_of_ble_eq_true rfl⟩) NW_ok hK hN I rfl (q_wsE (Nat.lt_of_lt_of_le (Nat.add_lt_add_left (show (1 : Nat) < 6 by skip; omega) _) (by decide)) (a_C_NumberRow (show (1 : Nat) < 6 by skip; omega))) rfl (q_sz hl) rfl (Nat.le_of_ble_eq_true rfl) d_Terminal_queueEdit_13 ⟨Nat.zero_le _, Nat.zero_le _⟩) (fun H locs I => ?_)
    refine lv_if_ne (tgt := 21) hx hb d_Terminal_queueEdit_16 (by decide) (fun c3 => ?_) (fun c3 => ?_)
    · rw [if_neg c3] at hf
      refine lv_iconst (v := 0) hx hb d_Terminal_queueEdit_21 (by decide) ?_
      refine q_istore_n (lv' := [(2, .int 0), (0, .ref (ad 6)), (1, .int p1)]) hx hb d_Terminal_queueEdit_22 rfl hl (by decide) rfl (fun ls hl => ?_)
      exact k_Terminal_queueEdit_23 C0 hA res 200 r1.2 0 hf H locs I ls (q_hsub hl [1, 0] rfl)
    · rw [if_pos c3] at hf
      refine lv_iconst (v := 0) hx hb d_Terminal_queueEdit_19 (by decide) ?_
      cases hf
      exact q_zret (r0 := 0) hx hb hr hlocks (by decide) I d_Terminal_queueEdit_20
  exact hgo _ _ I
-- JobTerminal$Terminal endInput
def f_Terminal_endInput (σ : q_St) : Option (Int32 × q_St) := if (σ 27 0) ≤ 0 then (q_bnd (f_NumberRow_hasRoomFor σ 1 1) (fun r2 => if r2.1 = 0 then (some (0, r2.2)) else (q_bnd (f_NumberRow_putLast r2.2 1 (-1)) (fun r5 => some (1, r5))))) else (q_bnd (f_Terminal_queueEdit σ 0) (fun r7 => q_grd (q_isB r7.1) (some (r7.1, r7.2))))
set_option maxHeartbeats 4000000 in
set_option maxRecDepth 100000 in
theorem c_Terminal_endInput {l : Launch} {D : va_G} {ad : Nat → Nat} {cs : Nat → ClassId} {sz : Nat} {σ : q_St} {res : (Int32 × q_St)} (hf : f_Terminal_endInput σ  = some res) : Met l y_Terminal_endInput w_Terminal_endInput ({ frames := 4, cells := 0, slots := 0, locals := 85 } : Room) (q_Pre D vwCl (tyL cs) NW [.ref (ad 6)] (q_ws 33 ad (cC ad cs σ)) sz) (q_Qi D vwCl res.1 (q_ws 33 ad (cC ad cs res.2)) (va_A (q_ws 33 ad (cC ad cs σ)) sz)) 0 0 (va_A (q_ws 33 ad (cC ad cs σ)) sz) := by
  refine Met.ofW (cc := b_Terminal_endInput) (maxL := 1) (ret := (some .boolean)) (by decide) rfl ?_
  intro p e s m args below meth c s₁ B hml hv
  obtain ⟨hargs, hsz, hP, hK, hD0, hN⟩ := hv
  have hx := B.exec
  have hb := B.bytes
  have hr := B.returns
  have hts := atoms_spec (ws := w_Terminal_endInput) B.pre
  have hown : s.vm.findClass "JobTerminal$Terminal" = some m.cls := findClass_of_methodNamed B.named
  have hlocks := B.notSynchronized
  have htg : ∀ w ∈ GW, w.before args s = true := fun w h => hts w (List.mem_cons_of_mem _ h)
  subst hsz
  have hD := hD0.self (sz := s.heap.size)
  generalize hAe : va_A (q_ws 33 ad (cC ad cs σ)) s.heap.size = A at hD ⊢
  have hA : ∀ q : Nat, s.heap.size ≤ q → A q := fun q h => by rw [← hAe]; exact Or.inr h
  have I : q_I D vwCl A s.heap (q_ws 33 ad (cC ad cs σ)) s.heap [] := ⟨hP, hD, va_S.rf⟩
  obtain ⟨ls, hen, hl⟩ := q_entry (vs := [.ref (ad 6)]) (n := 1) (lv := [(0, .ref (ad 6))]) (by intro v hv; simp only [List.mem_cons, List.not_mem_nil, or_false] at hv; rcases hv with rfl <;> first | rfl | exact q_cat) (Nat.le_of_ble_eq_true rfl) rfl
  rw [show entryFrame m args 1 = F0 m 0 ls [] from by rw [hargs]; exact hen m]
  have C0 : q_Cx "JobTerminal$Terminal" b_Terminal_endInput 1 (some .boolean) w_Terminal_endInput D vwCl (tyL cs) NW p s m args meth c := ⟨hx, hb, hr, hml, hown, hts, hlocks, hK, hN⟩
  unfold f_Terminal_endInput at hf
  have hgo : ∀ (H : Heap) (locs : List Loc), q_I D vwCl A s.heap (q_ws 33 ad (cC ad cs σ)) H locs → W p l e ({ frames := 4, cells := 0, slots := 0, locals := 85 } : Room) s m args below meth c H locs 0 0 (MQ below (q_Qi D vwCl res.1 (q_ws 33 ad (cC ad cs res.2)) A) args s 0 0 A) (F0 m 0 ls []) := by
    intro H locs I
    refine lv_aload_n hx hb d_Terminal_endInput_0 rfl (q_at hl 0 rfl) ?_
    refine G_Terminal_Terminal_edit hx hb htg hown hK hN I d_Terminal_endInput_1 ?_
    refine G_Terminal_NumberRow_count hx hb htg hown hK hN I (show (0 : Nat) < 6 by skip; omega) d_Terminal_endInput_4 ?_
    refine lv_if_le (tgt := 16) hx hb d_Terminal_endInput_7 (by decide) (fun c1 => ?_) (fun c1 => ?_)
    · rw [if_pos c1] at hf
      refine lv_aload_n hx hb d_Terminal_endInput_16 rfl (q_at hl 0 rfl) ?_
      refine G_Terminal_Terminal_queue hx hb htg hown hK hN I d_Terminal_endInput_17 ?_
      refine lv_iconst (v := 1) hx hb d_Terminal_endInput_20 (by decide) ?_
      obtain ⟨r2, e3, hf⟩ := q_bnd_some hf
      refine q_ki hA I (q_runV (C := "JobTerminal$NumberRow") (As := [.int 1]) (rest := []) ⟨hx, hb, hml, hown, hts⟩ (c_NumberRow_hasRoomFor (sz := H.size) (show (1 : Nat) < 6 by skip; omega) e3) (cwV 1 hts (q_goodV mw102 mw103 mw104 mw105 mw88) rfl rfl rfl (by decide +kernel) ⟨Nat.le_of_ble_eq_true rfl, Nat.le_of_ble_eq_true rfl⟩) NW_ok hK hN I rfl (q_wsE (Nat.lt_of_lt_of_le (Nat.add_lt_add_left (show (1 : Nat) < 6 by skip; omega) _) (by decide)) (a_C_NumberRow (show (1 : Nat) < 6 by skip; omega))) rfl (q_sz hl) rfl (Nat.le_of_ble_eq_true rfl) d_Terminal_endInput_21 ⟨Nat.zero_le _, Nat.zero_le _⟩) (fun H locs I => ?_)
      refine lv_if_ne (tgt := 29) hx hb d_Terminal_endInput_24 (by decide) (fun c4 => ?_) (fun c4 => ?_)
      · rw [if_neg c4] at hf
        refine lv_aload_n hx hb d_Terminal_endInput_29 rfl (q_at hl 0 rfl) ?_
        refine G_Terminal_Terminal_queue hx hb htg hown hK hN I d_Terminal_endInput_30 ?_
        refine lv_iconst (v := -1) hx hb d_Terminal_endInput_33 (by decide) ?_
        obtain ⟨r5, e6, hf⟩ := q_bnd_some hf
        refine q_kv hA I (q_runV (C := "JobTerminal$NumberRow") (As := [.int (-1)]) (rest := []) ⟨hx, hb, hml, hown, hts⟩ (c_NumberRow_putLast (sz := H.size) (show (1 : Nat) < 6 by skip; omega) e6) (cwV 1 hts (q_goodV mw106 mw107 mw108 mw109 mw88) rfl rfl rfl (by decide +kernel) ⟨Nat.le_of_ble_eq_true rfl, Nat.le_of_ble_eq_true rfl⟩) NW_ok hK hN I rfl (q_wsE (Nat.lt_of_lt_of_le (Nat.add_lt_add_left (show (1 : Nat) < 6 by skip; omega) _) (by decide)) (a_C_NumberRow (show (1 : Nat) < 6 by skip; omega))) rfl (q_sz hl) rfl (Nat.le_of_ble_eq_true rfl) d_Terminal_endInput_34 ⟨Nat.zero_le _, Nat.zero_le _⟩) (fun H locs I => ?_)
        refine lv_iconst (v := 1) hx hb d_Terminal_endInput_37 (by decide) ?_
        cases hf
        exact q_zret (r0 := 1) hx hb hr hlocks (by decide) I d_Terminal_endInput_38
      · rw [if_pos c4] at hf
        refine lv_iconst (v := 0) hx hb d_Terminal_endInput_27 (by decide) ?_
        cases hf
        exact q_zret (r0 := 0) hx hb hr hlocks (by decide) I d_Terminal_endInput_28
    · rw [if_neg c1] at hf
      refine lv_aload_n hx hb d_Terminal_endInput_10 rfl (q_at hl 0 rfl) ?_
      refine lv_iconst (v := 0) hx hb d_Terminal_endInput_11 (by decide) ?_
      obtain ⟨r7, e8, hf⟩ := q_bnd_some hf
      refine q_ki hA I (q_runV (C := "JobTerminal$Terminal") (As := [.int 0]) (rest := []) ⟨hx, hb, hml, hown, hts⟩ (c_Terminal_queueEdit (sz := H.size) e8) (cwV 1 hts (q_goodV mw130 mw131 mw132 mw133 mw83) rfl rfl rfl (by decide +kernel) ⟨Nat.le_of_ble_eq_true rfl, Nat.le_of_ble_eq_true rfl⟩) NW_ok hK hN I rfl (q_wsE (by decide) (a_C_Terminal)) rfl (q_sz hl) rfl (Nat.le_of_ble_eq_true rfl) d_Terminal_endInput_12 ⟨Nat.zero_le _, Nat.zero_le _⟩) (fun H locs I => ?_)
      obtain ⟨o9, hf⟩ := q_grd_some hf
      cases hf
      exact q_zret hx hb hr hlocks o9 I d_Terminal_endInput_15
  exact hgo _ _ I
-- JobTerminal$Terminal endLine
def f_Terminal_endLine (σ : q_St) : Option (Int32 × q_St) := q_bnd (f_Terminal_queueEdit σ 1) (fun r1 => if r1.1 = 0 then (some (0, r1.2)) else (q_bnd (f_NumberRow_putLast r1.2 1 10) (fun r4 => q_bnd (f_Terminal_echo r4 10) (fun r6 => some (1, r6)))))
set_option maxHeartbeats 4000000 in
set_option maxRecDepth 100000 in
theorem c_Terminal_endLine {l : Launch} {D : va_G} {ad : Nat → Nat} {cs : Nat → ClassId} {sz : Nat} {σ : q_St} {res : (Int32 × q_St)} (hf : f_Terminal_endLine σ  = some res) : Met l y_Terminal_endLine w_Terminal_endLine ({ frames := 4, cells := 0, slots := 0, locals := 85 } : Room) (q_Pre D vwCl (tyL cs) NW [.ref (ad 6)] (q_ws 33 ad (cC ad cs σ)) sz) (q_Qi D vwCl res.1 (q_ws 33 ad (cC ad cs res.2)) (va_A (q_ws 33 ad (cC ad cs σ)) sz)) 0 0 (va_A (q_ws 33 ad (cC ad cs σ)) sz) := by
  refine Met.ofW (cc := b_Terminal_endLine) (maxL := 1) (ret := (some .boolean)) (by decide) rfl ?_
  intro p e s m args below meth c s₁ B hml hv
  obtain ⟨hargs, hsz, hP, hK, hD0, hN⟩ := hv
  have hx := B.exec
  have hb := B.bytes
  have hr := B.returns
  have hts := atoms_spec (ws := w_Terminal_endLine) B.pre
  have hown : s.vm.findClass "JobTerminal$Terminal" = some m.cls := findClass_of_methodNamed B.named
  have hlocks := B.notSynchronized
  have htg : ∀ w ∈ GW, w.before args s = true := fun w h => hts w (List.mem_cons_of_mem _ h)
  subst hsz
  have hD := hD0.self (sz := s.heap.size)
  generalize hAe : va_A (q_ws 33 ad (cC ad cs σ)) s.heap.size = A at hD ⊢
  have hA : ∀ q : Nat, s.heap.size ≤ q → A q := fun q h => by rw [← hAe]; exact Or.inr h
  have I : q_I D vwCl A s.heap (q_ws 33 ad (cC ad cs σ)) s.heap [] := ⟨hP, hD, va_S.rf⟩
  obtain ⟨ls, hen, hl⟩ := q_entry (vs := [.ref (ad 6)]) (n := 1) (lv := [(0, .ref (ad 6))]) (by intro v hv; simp only [List.mem_cons, List.not_mem_nil, or_false] at hv; rcases hv with rfl <;> first | rfl | exact q_cat) (Nat.le_of_ble_eq_true rfl) rfl
  rw [show entryFrame m args 1 = F0 m 0 ls [] from by rw [hargs]; exact hen m]
  have C0 : q_Cx "JobTerminal$Terminal" b_Terminal_endLine 1 (some .boolean) w_Terminal_endLine D vwCl (tyL cs) NW p s m args meth c := ⟨hx, hb, hr, hml, hown, hts, hlocks, hK, hN⟩
  unfold f_Terminal_endLine at hf
  have hgo : ∀ (H : Heap) (locs : List Loc), q_I D vwCl A s.heap (q_ws 33 ad (cC ad cs σ)) H locs → W p l e ({ frames := 4, cells := 0, slots := 0, locals := 85 } : Room) s m args below meth c H locs 0 0 (MQ below (q_Qi D vwCl res.1 (q_ws 33 ad (cC ad cs res.2)) A) args s 0 0 A) (F0 m 0 ls []) := by
    intro H locs I
    refine lv_aload_n hx hb d_Terminal_endLine_0 rfl (q_at hl 0 rfl) ?_
    refine lv_iconst (v := 1) hx hb d_Terminal_endLine_1 (by decide) ?_
    obtain ⟨r1, e2, hf⟩ := q_bnd_some hf
    refine q_ki hA I (q_runV (C := "JobTerminal$Terminal") (As := [.int 1]) (rest := []) ⟨hx, hb, hml, hown, hts⟩ (c_Terminal_queueEdit (sz := H.size) e2) (cwV 1 hts (q_goodV mw130 mw131 mw132 mw133 mw83) rfl rfl rfl (by decide +kernel) ⟨Nat.le_of_ble_eq_true rfl, Nat.le_of_ble_eq_true rfl⟩) NW_ok hK hN I rfl (q_wsE (by decide) (a_C_Terminal)) rfl (q_sz hl) rfl (Nat.le_of_ble_eq_true rfl) d_Terminal_endLine_2 ⟨Nat.zero_le _, Nat.zero_le _⟩) (fun H locs I => ?_)
    refine lv_if_ne (tgt := 10) hx hb d_Terminal_endLine_5 (by decide) (fun c3 => ?_) (fun c3 => ?_)
    · rw [if_neg c3] at hf
      refine lv_aload_n hx hb d_Terminal_endLine_10 rfl (q_at hl 0 rfl) ?_
      refine G_Terminal_Terminal_queue hx hb htg hown hK hN I d_Terminal_endLine_11 ?_
      refine lv_bipush (v := 10) hx hb d_Terminal_endLine_14 (by decide) ?_
      obtain ⟨r4, e5, hf⟩ := q_bnd_some hf
      refine q_kv hA I (q_runV (C := "JobTerminal$NumberRow") (As := [.int 10]) (rest := []) ⟨hx, hb, hml, hown, hts⟩ (c_NumberRow_putLast (sz := H.size) (show (1 : Nat) < 6 by skip; omega) e5) (cwV 1 hts (q_goodV mw106 mw107 mw108 mw109 mw88) rfl rfl rfl (by decide +kernel) ⟨Nat.le_of_ble_eq_true rfl, Nat.le_of_ble_eq_true rfl⟩) NW_ok hK hN I rfl (q_wsE (Nat.lt_of_lt_of_le (Nat.add_lt_add_left (show (1 : Nat) < 6 by skip; omega) _) (by decide)) (a_C_NumberRow (show (1 : Nat) < 6 by skip; omega))) rfl (q_sz hl) rfl (Nat.le_of_ble_eq_true rfl) d_Terminal_endLine_16 ⟨Nat.zero_le _, Nat.zero_le _⟩) (fun H locs I => ?_)
      refine lv_aload_n hx hb d_Terminal_endLine_19 rfl (q_at hl 0 rfl) ?_
      refine lv_bipush (v := 10) hx hb d_Terminal_endLine_20 (by decide) ?_
      obtain ⟨r6, e7, hf⟩ := q_bnd_some hf
      refine q_kv hA I (q_runV (C := "JobTerminal$Terminal") (As := [.int 10]) (rest := []) ⟨hx, hb, hml, hown, hts⟩ (c_Terminal_echo (sz := H.size) e7) (cwV 1 hts (q_goodV mw110 mw111 mw112 mw113 mw83) rfl rfl rfl (by decide +kernel) ⟨Nat.le_of_ble_eq_true rfl, Nat.le_of_ble_eq_true rfl⟩) NW_ok hK hN I rfl (q_wsE (by decide) (a_C_Terminal)) rfl (q_sz hl) rfl (Nat.le_of_ble_eq_true rfl) d_Terminal_endLine_22 ⟨Nat.zero_le _, Nat.zero_le _⟩) (fun H locs I => ?_)
      refine lv_iconst (v := 1) hx hb d_Terminal_endLine_25 (by decide) ?_
      cases hf
      exact q_zret (r0 := 1) hx hb hr hlocks (by decide) I d_Terminal_endLine_26
    · rw [if_pos c3] at hf
      refine lv_iconst (v := 0) hx hb d_Terminal_endLine_8 (by decide) ?_
      cases hf
      exact q_zret (r0 := 0) hx hb hr hlocks (by decide) I d_Terminal_endLine_9
  exact hgo _ _ I
-- JobTerminal$Terminal addToEdit
def f_Terminal_addToEdit (σ : q_St) (p1 : Int32) : Option (Int32 × q_St) := q_bnd (f_NumberRow_hasRoomFor σ 0 1) (fun r1 => if r1.1 = 0 then (some (0, r1.2)) else (q_bnd (f_NumberRow_putLast r1.2 0 p1) (fun r4 => q_bnd (f_Terminal_echo r4 p1) (fun r6 => some (1, r6)))))
set_option maxHeartbeats 4000000 in
set_option maxRecDepth 100000 in
theorem c_Terminal_addToEdit {l : Launch} {D : va_G} {ad : Nat → Nat} {cs : Nat → ClassId} {sz : Nat} {σ : q_St} {p1 : Int32} {res : (Int32 × q_St)} (hf : f_Terminal_addToEdit σ p1 = some res) : Met l y_Terminal_addToEdit w_Terminal_addToEdit ({ frames := 3, cells := 0, slots := 0, locals := 63 } : Room) (q_Pre D vwCl (tyL cs) NW [.ref (ad 6), .int p1] (q_ws 33 ad (cC ad cs σ)) sz) (q_Qi D vwCl res.1 (q_ws 33 ad (cC ad cs res.2)) (va_A (q_ws 33 ad (cC ad cs σ)) sz)) 0 0 (va_A (q_ws 33 ad (cC ad cs σ)) sz) := by
  refine Met.ofW (cc := b_Terminal_addToEdit) (maxL := 2) (ret := (some .boolean)) (by decide) rfl ?_
  intro p e s m args below meth c s₁ B hml hv
  obtain ⟨hargs, hsz, hP, hK, hD0, hN⟩ := hv
  have hx := B.exec
  have hb := B.bytes
  have hr := B.returns
  have hts := atoms_spec (ws := w_Terminal_addToEdit) B.pre
  have hown : s.vm.findClass "JobTerminal$Terminal" = some m.cls := findClass_of_methodNamed B.named
  have hlocks := B.notSynchronized
  have htg : ∀ w ∈ GW, w.before args s = true := fun w h => hts w (List.mem_cons_of_mem _ h)
  subst hsz
  have hD := hD0.self (sz := s.heap.size)
  generalize hAe : va_A (q_ws 33 ad (cC ad cs σ)) s.heap.size = A at hD ⊢
  have hA : ∀ q : Nat, s.heap.size ≤ q → A q := fun q h => by rw [← hAe]; exact Or.inr h
  have I : q_I D vwCl A s.heap (q_ws 33 ad (cC ad cs σ)) s.heap [] := ⟨hP, hD, va_S.rf⟩
  obtain ⟨ls, hen, hl⟩ := q_entry (vs := [.ref (ad 6), .int p1]) (n := 2) (lv := [(0, .ref (ad 6)), (1, .int p1)]) (by intro v hv; simp only [List.mem_cons, List.not_mem_nil, or_false] at hv; rcases hv with rfl | rfl <;> first | rfl | exact q_cat) (Nat.le_of_ble_eq_true rfl) rfl
  rw [show entryFrame m args 2 = F0 m 0 ls [] from by rw [hargs]; exact hen m]
  have C0 : q_Cx "JobTerminal$Terminal" b_Terminal_addToEdit 2 (some .boolean) w_Terminal_addToEdit D vwCl (tyL cs) NW p s m args meth c := ⟨hx, hb, hr, hml, hown, hts, hlocks, hK, hN⟩
  unfold f_Terminal_addToEdit at hf
  have hgo : ∀ (H : Heap) (locs : List Loc), q_I D vwCl A s.heap (q_ws 33 ad (cC ad cs σ)) H locs → W p l e ({ frames := 3, cells := 0, slots := 0, locals := 63 } : Room) s m args below meth c H locs 0 0 (MQ below (q_Qi D vwCl res.1 (q_ws 33 ad (cC ad cs res.2)) A) args s 0 0 A) (F0 m 0 ls []) := by
    intro H locs I
    refine lv_aload_n hx hb d_Terminal_addToEdit_0 rfl (q_at hl 0 rfl) ?_
    refine G_Terminal_Terminal_edit hx hb htg hown hK hN I d_Terminal_addToEdit_1 ?_
    refine lv_iconst (v := 1) hx hb d_Terminal_addToEdit_4 (by decide) ?_
    obtain ⟨r1, e2, hf⟩ := q_bnd_some hf
    refine q_ki hA I (q_runV (C := "JobTerminal$NumberRow") (As := [.int 1]) (rest := []) ⟨hx, hb, hml, hown, hts⟩ (c_NumberRow_hasRoomFor (sz := H.size) (show (0 : Nat) < 6 by skip; omega) e2) (cwV 1 hts (q_goodV mw102 mw103 mw104 mw105 mw88) rfl rfl rfl (by decide +kernel) ⟨Nat.le_of_ble_eq_true rfl, Nat.le_of_ble_eq_true rfl⟩) NW_ok hK hN I rfl (q_wsE (Nat.lt_of_lt_of_le (Nat.add_lt_add_left (show (0 : Nat) < 6 by skip; omega) _) (by decide)) (a_C_NumberRow (show (0 : Nat) < 6 by skip; omega))) rfl (q_sz hl) rfl (Nat.le_of_ble_eq_true rfl) d_Terminal_addToEdit_5 ⟨Nat.zero_le _, Nat.zero_le _⟩) (fun H locs I => ?_)
    refine lv_if_ne (tgt := 13) hx hb d_Terminal_addToEdit_8 (by decide) (fun c3 => ?_) (fun c3 => ?_)
    · rw [if_neg c3] at hf
      refine lv_aload_n hx hb d_Terminal_addToEdit_13 rfl (q_at hl 0 rfl) ?_
      refine G_Terminal_Terminal_edit hx hb htg hown hK hN I d_Terminal_addToEdit_14 ?_
      refine lv_iload_n hx hb d_Terminal_addToEdit_17 rfl (q_at hl 1 rfl) ?_
      obtain ⟨r4, e5, hf⟩ := q_bnd_some hf
      refine q_kv hA I (q_runV (C := "JobTerminal$NumberRow") (As := [.int p1]) (rest := []) ⟨hx, hb, hml, hown, hts⟩ (c_NumberRow_putLast (sz := H.size) (show (0 : Nat) < 6 by skip; omega) e5) (cwV 1 hts (q_goodV mw106 mw107 mw108 mw109 mw88) rfl rfl rfl (by decide +kernel) ⟨Nat.le_of_ble_eq_true rfl, Nat.le_of_ble_eq_true rfl⟩) NW_ok hK hN I rfl (q_wsE (Nat.lt_of_lt_of_le (Nat.add_lt_add_left (show (0 : Nat) < 6 by skip; omega) _) (by decide)) (a_C_NumberRow (show (0 : Nat) < 6 by skip; omega))) rfl (q_sz hl) rfl (Nat.le_of_ble_eq_true rfl) d_Terminal_addToEdit_18 ⟨Nat.zero_le _, Nat.zero_le _⟩) (fun H locs I => ?_)
      refine lv_aload_n hx hb d_Terminal_addToEdit_21 rfl (q_at hl 0 rfl) ?_
      refine lv_iload_n hx hb d_Terminal_addToEdit_22 rfl (q_at hl 1 rfl) ?_
      obtain ⟨r6, e7, hf⟩ := q_bnd_some hf
      refine q_kv hA I (q_runV (C := "JobTerminal$Terminal") (As := [.int p1]) (rest := []) ⟨hx, hb, hml, hown, hts⟩ (c_Terminal_echo (sz := H.size) e7) (cwV 1 hts (q_goodV mw110 mw111 mw112 mw113 mw83) rfl rfl rfl (by decide +kernel) ⟨Nat.le_of_ble_eq_true rfl, Nat.le_of_ble_eq_true rfl⟩) NW_ok hK hN I rfl (q_wsE (by decide) (a_C_Terminal)) rfl (q_sz hl) rfl (Nat.le_of_ble_eq_true rfl) d_Terminal_addToEdit_23 ⟨Nat.zero_le _, Nat.zero_le _⟩) (fun H locs I => ?_)
      refine lv_iconst (v := 1) hx hb d_Terminal_addToEdit_26 (by decide) ?_
      cases hf
      exact q_zret (r0 := 1) hx hb hr hlocks (by decide) I d_Terminal_addToEdit_27
    · rw [if_pos c3] at hf
      refine lv_iconst (v := 0) hx hb d_Terminal_addToEdit_11 (by decide) ?_
      cases hf
      exact q_zret (r0 := 0) hx hb hr hlocks (by decide) I d_Terminal_addToEdit_12
  exact hgo _ _ I
-- JobTerminal$Terminal type
def f_Terminal_type (σ : q_St) (p1 : Int32) : Option (Int32 × q_St) := q_bnd (f_Terminal_has σ 1) (fun r1 => if r1.1 = 0 then (q_bnd (f_Terminal_typeUnedited r1.2 p1) (fun r21 => q_grd (q_isB r21.1) (some (r21.1, r21.2)))) else (if p1 = (4 : Int32) then (q_bnd (f_Terminal_endInput r1.2) (fun r5 => q_grd (q_isB r5.1) (some (r5.1, r5.2)))) else (if p1 = (10 : Int32) then (q_bnd (f_Terminal_endLine r1.2) (fun r9 => q_grd (q_isB r9.1) (some (r9.1, r9.2)))) else (if p1 = (21 : Int32) then (q_bnd (f_Terminal_rubOut r1.2 20) (fun r13 => some (1, r13))) else (if p1 = (127 : Int32) then (q_bnd (f_Terminal_rubOut r1.2 1) (fun r16 => some (1, r16))) else (q_bnd (f_Terminal_addToEdit r1.2 p1) (fun r18 => q_grd (q_isB r18.1) (some (r18.1, r18.2)))))))))
set_option maxHeartbeats 4000000 in
set_option maxRecDepth 100000 in
theorem c_Terminal_type {l : Launch} {D : va_G} {ad : Nat → Nat} {cs : Nat → ClassId} {sz : Nat} {σ : q_St} {p1 : Int32} {res : (Int32 × q_St)} (hf : f_Terminal_type σ p1 = some res) : Met l y_Terminal_type w_Terminal_type ({ frames := 5, cells := 0, slots := 0, locals := 105 } : Room) (q_Pre D vwCl (tyL cs) NW [.ref (ad 6), .int p1] (q_ws 33 ad (cC ad cs σ)) sz) (q_Qi D vwCl res.1 (q_ws 33 ad (cC ad cs res.2)) (va_A (q_ws 33 ad (cC ad cs σ)) sz)) 0 0 (va_A (q_ws 33 ad (cC ad cs σ)) sz) := by
  refine Met.ofW (cc := b_Terminal_type) (maxL := 2) (ret := (some .boolean)) (by decide) rfl ?_
  intro p e s m args below meth c s₁ B hml hv
  obtain ⟨hargs, hsz, hP, hK, hD0, hN⟩ := hv
  have hx := B.exec
  have hb := B.bytes
  have hr := B.returns
  have hts := atoms_spec (ws := w_Terminal_type) B.pre
  have hown : s.vm.findClass "JobTerminal$Terminal" = some m.cls := findClass_of_methodNamed B.named
  have hlocks := B.notSynchronized
  have htg : ∀ w ∈ GW, w.before args s = true := fun w h => hts w (List.mem_cons_of_mem _ h)
  subst hsz
  have hD := hD0.self (sz := s.heap.size)
  generalize hAe : va_A (q_ws 33 ad (cC ad cs σ)) s.heap.size = A at hD ⊢
  have hA : ∀ q : Nat, s.heap.size ≤ q → A q := fun q h => by rw [← hAe]; exact Or.inr h
  have I : q_I D vwCl A s.heap (q_ws 33 ad (cC ad cs σ)) s.heap [] := ⟨hP, hD, va_S.rf⟩
  obtain ⟨ls, hen, hl⟩ := q_entry (vs := [.ref (ad 6), .int p1]) (n := 2) (lv := [(0, .ref (ad 6)), (1, .int p1)]) (by intro v hv; simp only [List.mem_cons, List.not_mem_nil, or_false] at hv; rcases hv with rfl | rfl <;> first | rfl | exact q_cat) (Nat.le_of_ble_eq_true rfl) rfl
  rw [show entryFrame m args 2 = F0 m 0 ls [] from by rw [hargs]; exact hen m]
  have C0 : q_Cx "JobTerminal$Terminal" b_Terminal_type 2 (some .boolean) w_Terminal_type D vwCl (tyL cs) NW p s m args meth c := ⟨hx, hb, hr, hml, hown, hts, hlocks, hK, hN⟩
  unfold f_Terminal_type at hf
  have hgo : ∀ (H : Heap) (locs : List Loc), q_I D vwCl A s.heap (q_ws 33 ad (cC ad cs σ)) H locs → W p l e ({ frames := 5, cells := 0, slots := 0, locals := 105 } : Room) s m args below meth c H locs 0 0 (MQ below (q_Qi D vwCl res.1 (q_ws 33 ad (cC ad cs res.2)) A) args s 0 0 A) (F0 m 0 ls []) := by
    intro H locs I
    refine lv_aload_n hx hb d_Terminal_type_0 rfl (q_at hl 0 rfl) ?_
    refine lv_iconst (v := 1) hx hb d_Terminal_type_1 (by decide) ?_
    obtain ⟨r1, e2, hf⟩ := q_bnd_some hf
    refine q_ki hA I (q_runV (C := "JobTerminal$Terminal") (As := [.int 1]) (rest := []) ⟨hx, hb, hml, hown, hts⟩ (c_Terminal_has (sz := H.size) e2) (cwV 1 hts (q_goodV mw79 mw80 mw81 mw82 mw83) rfl rfl rfl (by decide +kernel) ⟨Nat.le_of_ble_eq_true rfl, Nat.le_of_ble_eq_true rfl⟩) NW_ok hK hN I rfl (q_wsE (by decide) (a_C_Terminal)) rfl (q_sz hl) rfl (Nat.le_of_ble_eq_true rfl) d_Terminal_type_2 ⟨Nat.zero_le _, Nat.zero_le _⟩) (fun H locs I => ?_)
    refine lv_if_ne (tgt := 14) hx hb d_Terminal_type_5 (by decide) (fun c3 => ?_) (fun c3 => ?_)
    · rw [if_neg c3] at hf
      refine lv_iload_n hx hb d_Terminal_type_14 rfl (q_at hl 1 rfl) ?_
      by_cases c4 : p1 = (4 : Int32)
      · rw [if_pos c4] at hf
        refine lv_lookup (off := 56) (tgt := 71) hx hb d_Terminal_type_15 (by decide) (by rw [c4] <;> rfl) (by decide) ?_
        refine lv_aload_n hx hb d_Terminal_type_71 rfl (q_at hl 0 rfl) ?_
        obtain ⟨r5, e6, hf⟩ := q_bnd_some hf
        refine q_ki hA I (q_runV (C := "JobTerminal$Terminal") (As := []) (rest := []) ⟨hx, hb, hml, hown, hts⟩ (c_Terminal_endInput (sz := H.size) e6) (cwV 0 hts (q_goodV mw134 mw135 mw136 mw137 mw83) rfl rfl rfl (by decide +kernel) ⟨Nat.le_of_ble_eq_true rfl, Nat.le_of_ble_eq_true rfl⟩) NW_ok hK hN I rfl (q_wsE (by decide) (a_C_Terminal)) rfl (q_sz hl) rfl (Nat.le_of_ble_eq_true rfl) d_Terminal_type_72 ⟨Nat.zero_le _, Nat.zero_le _⟩) (fun H locs I => ?_)
        obtain ⟨o7, hf⟩ := q_grd_some hf
        cases hf
        exact q_zret hx hb hr hlocks o7 I d_Terminal_type_75
      rw [if_neg c4] at hf
      by_cases c8 : p1 = (10 : Int32)
      · rw [if_pos c8] at hf
        refine lv_lookup (off := 61) (tgt := 76) hx hb d_Terminal_type_15 (by decide) (by rw [c8] <;> rfl) (by decide) ?_
        refine lv_aload_n hx hb d_Terminal_type_76 rfl (q_at hl 0 rfl) ?_
        obtain ⟨r9, e10, hf⟩ := q_bnd_some hf
        refine q_ki hA I (q_runV (C := "JobTerminal$Terminal") (As := []) (rest := []) ⟨hx, hb, hml, hown, hts⟩ (c_Terminal_endLine (sz := H.size) e10) (cwV 0 hts (q_goodV mw138 mw139 mw140 mw141 mw83) rfl rfl rfl (by decide +kernel) ⟨Nat.le_of_ble_eq_true rfl, Nat.le_of_ble_eq_true rfl⟩) NW_ok hK hN I rfl (q_wsE (by decide) (a_C_Terminal)) rfl (q_sz hl) rfl (Nat.le_of_ble_eq_true rfl) d_Terminal_type_77 ⟨Nat.zero_le _, Nat.zero_le _⟩) (fun H locs I => ?_)
        obtain ⟨o11, hf⟩ := q_grd_some hf
        cases hf
        exact q_zret hx hb hr hlocks o11 I d_Terminal_type_80
      rw [if_neg c8] at hf
      by_cases c12 : p1 = (21 : Int32)
      · rw [if_pos c12] at hf
        refine lv_lookup (off := 48) (tgt := 63) hx hb d_Terminal_type_15 (by decide) (by rw [c12] <;> rfl) (by decide) ?_
        refine lv_aload_n hx hb d_Terminal_type_63 rfl (q_at hl 0 rfl) ?_
        refine lv_bipush (v := 20) hx hb d_Terminal_type_64 (by decide) ?_
        obtain ⟨r13, e14, hf⟩ := q_bnd_some hf
        refine q_kv hA I (q_runV (C := "JobTerminal$Terminal") (As := [.int 20]) (rest := []) ⟨hx, hb, hml, hown, hts⟩ (c_Terminal_rubOut (sz := H.size) e14) (cwV 1 hts (q_goodV mw142 mw143 mw144 mw145 mw83) rfl rfl rfl (by decide +kernel) ⟨Nat.le_of_ble_eq_true rfl, Nat.le_of_ble_eq_true rfl⟩) NW_ok hK hN I rfl (q_wsE (by decide) (a_C_Terminal)) rfl (q_sz hl) rfl (Nat.le_of_ble_eq_true rfl) d_Terminal_type_66 ⟨Nat.zero_le _, Nat.zero_le _⟩) (fun H locs I => ?_)
        refine lv_iconst (v := 1) hx hb d_Terminal_type_69 (by decide) ?_
        cases hf
        exact q_zret (r0 := 1) hx hb hr hlocks (by decide) I d_Terminal_type_70
      rw [if_neg c12] at hf
      by_cases c15 : p1 = (127 : Int32)
      · rw [if_pos c15] at hf
        refine lv_lookup (off := 41) (tgt := 56) hx hb d_Terminal_type_15 (by decide) (by rw [c15] <;> rfl) (by decide) ?_
        refine lv_aload_n hx hb d_Terminal_type_56 rfl (q_at hl 0 rfl) ?_
        refine lv_iconst (v := 1) hx hb d_Terminal_type_57 (by decide) ?_
        obtain ⟨r16, e17, hf⟩ := q_bnd_some hf
        refine q_kv hA I (q_runV (C := "JobTerminal$Terminal") (As := [.int 1]) (rest := []) ⟨hx, hb, hml, hown, hts⟩ (c_Terminal_rubOut (sz := H.size) e17) (cwV 1 hts (q_goodV mw142 mw143 mw144 mw145 mw83) rfl rfl rfl (by decide +kernel) ⟨Nat.le_of_ble_eq_true rfl, Nat.le_of_ble_eq_true rfl⟩) NW_ok hK hN I rfl (q_wsE (by decide) (a_C_Terminal)) rfl (q_sz hl) rfl (Nat.le_of_ble_eq_true rfl) d_Terminal_type_58 ⟨Nat.zero_le _, Nat.zero_le _⟩) (fun H locs I => ?_)
        refine lv_iconst (v := 1) hx hb d_Terminal_type_61 (by decide) ?_
        cases hf
        exact q_zret (r0 := 1) hx hb hr hlocks (by decide) I d_Terminal_type_62
      rw [if_neg c15] at hf
      refine lv_lookup (off := 66) (tgt := 81) hx hb d_Terminal_type_15 (by decide) (by show Op.lookupswitch.offset [(4, 56), (10, 61), (21, 48), (127, 41)] 66 _ = _; rw [lv_osw (a := 4) c4 (by decide), lv_osw (a := 10) c8 (by decide), lv_osw (a := 21) c12 (by decide), lv_osw (a := 127) c15 (by decide)] <;> rfl) (by decide) ?_
      refine lv_aload_n hx hb d_Terminal_type_81 rfl (q_at hl 0 rfl) ?_
      refine lv_iload_n hx hb d_Terminal_type_82 rfl (q_at hl 1 rfl) ?_
      obtain ⟨r18, e19, hf⟩ := q_bnd_some hf
      refine q_ki hA I (q_runV (C := "JobTerminal$Terminal") (As := [.int p1]) (rest := []) ⟨hx, hb, hml, hown, hts⟩ (c_Terminal_addToEdit (sz := H.size) e19) (cwV 1 hts (q_goodV mw146 mw147 mw148 mw149 mw83) rfl rfl rfl (by decide +kernel) ⟨Nat.le_of_ble_eq_true rfl, Nat.le_of_ble_eq_true rfl⟩) NW_ok hK hN I rfl (q_wsE (by decide) (a_C_Terminal)) rfl (q_sz hl) rfl (Nat.le_of_ble_eq_true rfl) d_Terminal_type_83 ⟨Nat.zero_le _, Nat.zero_le _⟩) (fun H locs I => ?_)
      obtain ⟨o20, hf⟩ := q_grd_some hf
      cases hf
      exact q_zret hx hb hr hlocks o20 I d_Terminal_type_86
    · rw [if_pos c3] at hf
      refine lv_aload_n hx hb d_Terminal_type_8 rfl (q_at hl 0 rfl) ?_
      refine lv_iload_n hx hb d_Terminal_type_9 rfl (q_at hl 1 rfl) ?_
      obtain ⟨r21, e22, hf⟩ := q_bnd_some hf
      refine q_ki hA I (q_runV (C := "JobTerminal$Terminal") (As := [.int p1]) (rest := []) ⟨hx, hb, hml, hown, hts⟩ (c_Terminal_typeUnedited (sz := H.size) e22) (cwV 1 hts (q_goodV mw150 mw151 mw152 mw153 mw83) rfl rfl rfl (by decide +kernel) ⟨Nat.le_of_ble_eq_true rfl, Nat.le_of_ble_eq_true rfl⟩) NW_ok hK hN I rfl (q_wsE (by decide) (a_C_Terminal)) rfl (q_sz hl) rfl (Nat.le_of_ble_eq_true rfl) d_Terminal_type_10 ⟨Nat.zero_le _, Nat.zero_le _⟩) (fun H locs I => ?_)
      obtain ⟨o23, hf⟩ := q_grd_some hf
      cases hf
      exact q_zret hx hb hr hlocks o23 I d_Terminal_type_13
  exact hgo _ _ I
-- JobTerminal$JobProcess act
def f_JobProcess_act_41 (i : Nat) (σ : q_St) : Option q_St := some σ
set_option maxHeartbeats 4000000 in
set_option maxRecDepth 100000 in
theorem k_JobProcess_act_41 {p : Program} {l : Launch} {e : Env} {s : State} {m : MethodId} {args : Array Value} {below : List Frame} {meth : Method} {c : Code} {D : va_G} {A : Nat → Prop} {ad : Nat → Nat} {cs : Nat → ClassId} (C0 : q_Cx "JobTerminal$JobProcess" b_JobProcess_act 2 none w_JobProcess_act D vwCl (tyL cs) NW p s m args meth c) (hA : ∀ q, s.heap.size ≤ q → A q) {i : Nat} (hi : i < 8) (res : q_St) : ∀ (σ : q_St) , f_JobProcess_act_41 i σ  = some res → ∀ (H : Heap) (locs : List Loc), q_I D vwCl A s.heap (q_ws 33 ad (cC ad cs σ)) H locs → ∀ ls : Array Slot, q_has ls 2 [] → W p l e ({ frames := 0, cells := 0, slots := 0, locals := 0 } : Room) s m args below meth c H locs 0 0 (MQ below (q_Qv D vwCl (q_ws 33 ad (cC ad cs res)) A) args s 0 0 A) (F0 m 41 ls []) := by
  intro σ  hf H locs I ls hl
  unfold f_JobProcess_act_41 at hf
  obtain ⟨hx, hb, hr, hml, hown, hts, hlocks, hK, hN⟩ := id C0
  have htg : ∀ w ∈ GW, w.before args s = true := fun w h => hts w (List.mem_cons_of_mem _ h)
  cases hf
  exact q_vret hx hb hr hlocks I d_JobProcess_act_41
def f_JobProcess_act (σ : q_St) (i : Nat) (p1 : Int32) : Option q_St := if 5 ≤ p1 then (f_JobProcess_act_41 i (q_up (q_up σ 38 i ((σ 38 i) &&& (((1 : Int32) <<< (p1 &&& 31)) ^^^ (-1)))) 33 i 2)) else (f_JobProcess_act_41 i (q_up (q_up (q_up σ 38 i ((σ 38 i) &&& (((1 : Int32) <<< (p1 &&& 31)) ^^^ (-1)))) 33 i 3) 37 i (128 + p1)))
set_option maxHeartbeats 4000000 in
set_option maxRecDepth 100000 in
theorem c_JobProcess_act {l : Launch} {D : va_G} {ad : Nat → Nat} {cs : Nat → ClassId} {sz : Nat} {σ : q_St} {i : Nat} (hi : i < 8) {p1 : Int32} {res : q_St} (hf : f_JobProcess_act σ i p1 = some res) : Met l y_JobProcess_act w_JobProcess_act ({ frames := 0, cells := 0, slots := 0, locals := 0 } : Room) (q_Pre D vwCl (tyL cs) NW [.ref (ad (9 + i)), .int p1] (q_ws 33 ad (cC ad cs σ)) sz) (q_Qv D vwCl (q_ws 33 ad (cC ad cs res)) (va_A (q_ws 33 ad (cC ad cs σ)) sz)) 0 0 (va_A (q_ws 33 ad (cC ad cs σ)) sz) := by
  refine Met.ofW (cc := b_JobProcess_act) (maxL := 2) (ret := none) (by decide) rfl ?_
  intro p e s m args below meth c s₁ B hml hv
  obtain ⟨hargs, hsz, hP, hK, hD0, hN⟩ := hv
  have hx := B.exec
  have hb := B.bytes
  have hr := B.returns
  have hts := atoms_spec (ws := w_JobProcess_act) B.pre
  have hown : s.vm.findClass "JobTerminal$JobProcess" = some m.cls := findClass_of_methodNamed B.named
  have hlocks := B.notSynchronized
  have htg : ∀ w ∈ GW, w.before args s = true := fun w h => hts w (List.mem_cons_of_mem _ h)
  subst hsz
  have hD := hD0.self (sz := s.heap.size)
  generalize hAe : va_A (q_ws 33 ad (cC ad cs σ)) s.heap.size = A at hD ⊢
  have hA : ∀ q : Nat, s.heap.size ≤ q → A q := fun q h => by rw [← hAe]; exact Or.inr h
  have I : q_I D vwCl A s.heap (q_ws 33 ad (cC ad cs σ)) s.heap [] := ⟨hP, hD, va_S.rf⟩
  obtain ⟨ls, hen, hl⟩ := q_entry (vs := [.ref (ad (9 + i)), .int p1]) (n := 2) (lv := [(0, .ref (ad (9 + i))), (1, .int p1)]) (by intro v hv; simp only [List.mem_cons, List.not_mem_nil, or_false] at hv; rcases hv with rfl | rfl <;> first | rfl | exact q_cat) (Nat.le_of_ble_eq_true rfl) rfl
  rw [show entryFrame m args 2 = F0 m 0 ls [] from by rw [hargs]; exact hen m]
  have C0 : q_Cx "JobTerminal$JobProcess" b_JobProcess_act 2 none w_JobProcess_act D vwCl (tyL cs) NW p s m args meth c := ⟨hx, hb, hr, hml, hown, hts, hlocks, hK, hN⟩
  unfold f_JobProcess_act at hf
  have hgo : ∀ (H : Heap) (locs : List Loc), q_I D vwCl A s.heap (q_ws 33 ad (cC ad cs σ)) H locs → W p l e ({ frames := 0, cells := 0, slots := 0, locals := 0 } : Room) s m args below meth c H locs 0 0 (MQ below (q_Qv D vwCl (q_ws 33 ad (cC ad cs res)) A) args s 0 0 A) (F0 m 0 ls []) := by
    intro H locs I
    refine lv_aload_n hx hb d_JobProcess_act_0 rfl (q_at hl 0 rfl) ?_
    refine lv_dup hx hb d_JobProcess_act_1 rfl ?_
    refine G_JobProcess_JobProcess_pending hx hb htg hown hK hN I hi d_JobProcess_act_2 ?_
    refine lv_iconst (v := 1) hx hb d_JobProcess_act_5 (by decide) ?_
    refine lv_iload_n hx hb d_JobProcess_act_6 rfl (q_at hl 1 rfl) ?_
    refine lv_ishl hx hb d_JobProcess_act_7 ?_
    refine lv_iconst (v := -1) hx hb d_JobProcess_act_8 (by decide) ?_
    refine lv_ixor hx hb d_JobProcess_act_9 ?_
    refine lv_iand hx hb d_JobProcess_act_10 ?_
    refine P_JobProcess_JobProcess_pending hx hb htg hown hK hN I hi d_JobProcess_act_11 (fun H locs I => ?_)
    refine lv_iload_n hx hb d_JobProcess_act_14 rfl (q_at hl 1 rfl) ?_
    refine lv_iconst (v := 5) hx hb d_JobProcess_act_15 (by decide) ?_
    refine lv_icmp_ge (tgt := 36) hx hb d_JobProcess_act_16 (by decide) (fun c1 => ?_) (fun c1 => ?_)
    · rw [if_pos c1] at hf
      refine lv_aload_n hx hb d_JobProcess_act_36 rfl (q_at hl 0 rfl) ?_
      refine lv_iconst (v := 2) hx hb d_JobProcess_act_37 (by decide) ?_
      refine P_JobProcess_JobProcess_state hx hb htg hown hK hN I hi d_JobProcess_act_38 (fun H locs I => ?_)
      exact k_JobProcess_act_41 C0 hA hi res (q_up (q_up σ 38 i ((σ 38 i) &&& (((1 : Int32) <<< (p1 &&& 31)) ^^^ (-1)))) 33 i 2) hf H locs I ls (q_hsub hl [] rfl)
    · rw [if_neg c1] at hf
      refine lv_aload_n hx hb d_JobProcess_act_19 rfl (q_at hl 0 rfl) ?_
      refine lv_iconst (v := 3) hx hb d_JobProcess_act_20 (by decide) ?_
      refine P_JobProcess_JobProcess_state hx hb htg hown hK hN I hi d_JobProcess_act_21 (fun H locs I => ?_)
      refine lv_aload_n hx hb d_JobProcess_act_24 rfl (q_at hl 0 rfl) ?_
      refine lv_sipush (v := 128) hx hb d_JobProcess_act_25 (by decide) ?_
      refine lv_iload_n hx hb d_JobProcess_act_28 rfl (q_at hl 1 rfl) ?_
      refine lv_iadd hx hb d_JobProcess_act_29 ?_
      refine P_JobProcess_JobProcess_code hx hb htg hown hK hN I hi d_JobProcess_act_30 (fun H locs I => ?_)
      refine lv_goto (tgt := 41) hx hb d_JobProcess_act_33 (by decide) ?_
      exact k_JobProcess_act_41 C0 hA hi res (q_up (q_up (q_up σ 38 i ((σ 38 i) &&& (((1 : Int32) <<< (p1 &&& 31)) ^^^ (-1)))) 33 i 3) 37 i (128 + p1)) hf H locs I ls (q_hsub hl [] rfl)
  exact hgo _ _ I
-- JobTerminal$JobProcess actOnPending
def f_JobProcess_actOnPending_45 (i : Nat) (σ : q_St) : Option q_St := some σ
set_option maxHeartbeats 4000000 in
set_option maxRecDepth 100000 in
theorem k_JobProcess_actOnPending_45 {p : Program} {l : Launch} {e : Env} {s : State} {m : MethodId} {args : Array Value} {below : List Frame} {meth : Method} {c : Code} {D : va_G} {A : Nat → Prop} {ad : Nat → Nat} {cs : Nat → ClassId} (C0 : q_Cx "JobTerminal$JobProcess" b_JobProcess_actOnPending 2 none w_JobProcess_actOnPending D vwCl (tyL cs) NW p s m args meth c) (hA : ∀ q, s.heap.size ≤ q → A q) {i : Nat} (hi : i < 8) (res : q_St) : ∀ (σ : q_St) , f_JobProcess_actOnPending_45 i σ  = some res → ∀ (H : Heap) (locs : List Loc), q_I D vwCl A s.heap (q_ws 33 ad (cC ad cs σ)) H locs → ∀ ls : Array Slot, q_has ls 2 [] → W p l e ({ frames := 1, cells := 0, slots := 0, locals := 21 } : Room) s m args below meth c H locs 0 0 (MQ below (q_Qv D vwCl (q_ws 33 ad (cC ad cs res)) A) args s 0 0 A) (F0 m 45 ls []) := by
  intro σ  hf H locs I ls hl
  unfold f_JobProcess_actOnPending_45 at hf
  obtain ⟨hx, hb, hr, hml, hown, hts, hlocks, hK, hN⟩ := id C0
  have htg : ∀ w ∈ GW, w.before args s = true := fun w h => hts w (List.mem_cons_of_mem _ h)
  cases hf
  exact q_vret hx hb hr hlocks I d_JobProcess_actOnPending_45
def f_JobProcess_actOnPending_39 (i : Nat) (K2 : q_St → Int32 → Option q_St) (σ : q_St) (x1 : Int32) : Option q_St := K2 σ (x1 + 1)
set_option maxHeartbeats 4000000 in
set_option maxRecDepth 100000 in
theorem k_JobProcess_actOnPending_39 {p : Program} {l : Launch} {e : Env} {s : State} {m : MethodId} {args : Array Value} {below : List Frame} {meth : Method} {c : Code} {D : va_G} {A : Nat → Prop} {ad : Nat → Nat} {cs : Nat → ClassId} (C0 : q_Cx "JobTerminal$JobProcess" b_JobProcess_actOnPending 2 none w_JobProcess_actOnPending D vwCl (tyL cs) NW p s m args meth c) (hA : ∀ q, s.heap.size ≤ q → A q) {i : Nat} (hi : i < 8) (res : q_St) {K2 : q_St → Int32 → Option q_St} (hk2 : ∀ (σ : q_St) (x1 : Int32) , K2 σ x1 = some res → ∀ (H : Heap) (locs : List Loc), q_I D vwCl A s.heap (q_ws 33 ad (cC ad cs σ)) H locs → ∀ ls : Array Slot, q_has ls 2 [(0, .ref (ad (9 + i))), (1, .int x1)] → W p l e ({ frames := 1, cells := 0, slots := 0, locals := 21 } : Room) s m args below meth c H locs 0 0 (MQ below (q_Qv D vwCl (q_ws 33 ad (cC ad cs res)) A) args s 0 0 A) (F0 m 2 ls [])) : ∀ (σ : q_St) (x1 : Int32) , f_JobProcess_actOnPending_39 i K2 σ x1 = some res → ∀ (H : Heap) (locs : List Loc), q_I D vwCl A s.heap (q_ws 33 ad (cC ad cs σ)) H locs → ∀ ls : Array Slot, q_has ls 2 [(0, .ref (ad (9 + i))), (1, .int x1)] → W p l e ({ frames := 1, cells := 0, slots := 0, locals := 21 } : Room) s m args below meth c H locs 0 0 (MQ below (q_Qv D vwCl (q_ws 33 ad (cC ad cs res)) A) args s 0 0 A) (F0 m 39 ls []) := by
  intro σ x1 hf H locs I ls hl
  unfold f_JobProcess_actOnPending_39 at hf
  obtain ⟨hx, hb, hr, hml, hown, hts, hlocks, hK, hN⟩ := id C0
  have htg : ∀ w ∈ GW, w.before args s = true := fun w h => hts w (List.mem_cons_of_mem _ h)
  refine q_iinc (v := x1 + 1) (lv' := [(1, .int (x1 + 1)), (0, .ref (ad (9 + i)))]) hx hb d_JobProcess_actOnPending_39 hl (k := 1) rfl rfl (by decide) rfl (fun ls hl => ?_)
  refine lv_goto (tgt := 2) hx hb d_JobProcess_actOnPending_42 (by decide) ?_
  exact hk2 σ (x1 + 1) hf H locs I ls (q_hsub hl [1, 0] rfl)
def f_JobProcess_actOnPending_2 (i : Nat) : Nat → q_St → Int32 → Option q_St
  | 0, _, _ => none
  | n + 1, σ, x1 => if 9 < x1 then (f_JobProcess_actOnPending_45 i σ) else (if (σ 33 i) = 1 then (if (((σ 38 i) &&& ((σ 39 i) ^^^ (-1))) &&& ((1 : Int32) <<< (x1 &&& 31))) = 0 then (f_JobProcess_actOnPending_39 i (f_JobProcess_actOnPending_2 i n) σ x1) else (q_bnd (f_JobProcess_act σ i x1) (fun r4 => f_JobProcess_actOnPending_39 i (f_JobProcess_actOnPending_2 i n) r4 x1))) else (f_JobProcess_actOnPending_45 i σ))
set_option maxHeartbeats 4000000 in
set_option maxRecDepth 100000 in
theorem k_JobProcess_actOnPending_2 {p : Program} {l : Launch} {e : Env} {s : State} {m : MethodId} {args : Array Value} {below : List Frame} {meth : Method} {c : Code} {D : va_G} {A : Nat → Prop} {ad : Nat → Nat} {cs : Nat → ClassId} (C0 : q_Cx "JobTerminal$JobProcess" b_JobProcess_actOnPending 2 none w_JobProcess_actOnPending D vwCl (tyL cs) NW p s m args meth c) (hA : ∀ q, s.heap.size ≤ q → A q) {i : Nat} (hi : i < 8) (res : q_St) : ∀ (n : Nat) (σ : q_St) (x1 : Int32) , f_JobProcess_actOnPending_2 i n σ x1 = some res → ∀ (H : Heap) (locs : List Loc), q_I D vwCl A s.heap (q_ws 33 ad (cC ad cs σ)) H locs → ∀ ls : Array Slot, q_has ls 2 [(0, .ref (ad (9 + i))), (1, .int x1)] → W p l e ({ frames := 1, cells := 0, slots := 0, locals := 21 } : Room) s m args below meth c H locs 0 0 (MQ below (q_Qv D vwCl (q_ws 33 ad (cC ad cs res)) A) args s 0 0 A) (F0 m 2 ls []) := by
  intro n
  induction n with
  | zero => intro σ x1 hf; cases hf
  | succ n ih =>
    intro σ x1 hf H locs I ls hl
    have ih := ih
    rw [f_JobProcess_actOnPending_2] at hf
    have C0 := C0
    obtain ⟨hx, hb, hr, hml, hown, hts, hlocks, hK, hN⟩ := id C0
    have htg : ∀ w ∈ GW, w.before args s = true := fun w h => hts w (List.mem_cons_of_mem _ h)
    refine lv_iload_n hx hb d_JobProcess_actOnPending_2 rfl (q_at hl 1 rfl) ?_
    refine lv_bipush (v := 9) hx hb d_JobProcess_actOnPending_3 (by decide) ?_
    refine lv_icmp_gt (tgt := 45) hx hb d_JobProcess_actOnPending_5 (by decide) (fun c1 => ?_) (fun c1 => ?_)
    · rw [if_pos c1] at hf
      exact k_JobProcess_actOnPending_45 C0 hA hi res σ hf H locs I ls (q_hsub hl [] rfl)
    · rw [if_neg c1] at hf
      refine lv_aload_n hx hb d_JobProcess_actOnPending_8 rfl (q_at hl 0 rfl) ?_
      refine G_JobProcess_JobProcess_state hx hb htg hown hK hN I hi d_JobProcess_actOnPending_9 ?_
      refine lv_iconst (v := 1) hx hb d_JobProcess_actOnPending_12 (by decide) ?_
      refine lv_icmp_ne (tgt := 45) hx hb d_JobProcess_actOnPending_13 (by decide) (fun c2 => ?_) (fun c2 => ?_)
      · rw [if_neg c2] at hf
        exact k_JobProcess_actOnPending_45 C0 hA hi res σ hf H locs I ls (q_hsub hl [] rfl)
      · rw [if_pos c2] at hf
        refine lv_aload_n hx hb d_JobProcess_actOnPending_16 rfl (q_at hl 0 rfl) ?_
        refine G_JobProcess_JobProcess_pending hx hb htg hown hK hN I hi d_JobProcess_actOnPending_17 ?_
        refine lv_aload_n hx hb d_JobProcess_actOnPending_20 rfl (q_at hl 0 rfl) ?_
        refine G_JobProcess_JobProcess_blocked hx hb htg hown hK hN I hi d_JobProcess_actOnPending_21 ?_
        refine lv_iconst (v := -1) hx hb d_JobProcess_actOnPending_24 (by decide) ?_
        refine lv_ixor hx hb d_JobProcess_actOnPending_25 ?_
        refine lv_iand hx hb d_JobProcess_actOnPending_26 ?_
        refine lv_iconst (v := 1) hx hb d_JobProcess_actOnPending_27 (by decide) ?_
        refine lv_iload_n hx hb d_JobProcess_actOnPending_28 rfl (q_at hl 1 rfl) ?_
        refine lv_ishl hx hb d_JobProcess_actOnPending_29 ?_
        refine lv_iand hx hb d_JobProcess_actOnPending_30 ?_
        refine lv_if_eq (tgt := 39) hx hb d_JobProcess_actOnPending_31 (by decide) (fun c3 => ?_) (fun c3 => ?_)
        · rw [if_pos c3] at hf
          exact k_JobProcess_actOnPending_39 C0 hA hi res (K2 := f_JobProcess_actOnPending_2 i n) ih σ x1 hf H locs I ls (q_hsub hl [0, 1] rfl)
        · rw [if_neg c3] at hf
          refine lv_aload_n hx hb d_JobProcess_actOnPending_34 rfl (q_at hl 0 rfl) ?_
          refine lv_iload_n hx hb d_JobProcess_actOnPending_35 rfl (q_at hl 1 rfl) ?_
          obtain ⟨r4, e5, hf⟩ := q_bnd_some hf
          refine q_kv hA I (q_runV (C := "JobTerminal$JobProcess") (As := [.int x1]) (rest := []) ⟨hx, hb, hml, hown, hts⟩ (c_JobProcess_act (sz := H.size) hi e5) (cwV 1 hts (q_goodV mw154 mw155 mw156 mw157 mw158) rfl rfl rfl (by decide +kernel) ⟨Nat.le_of_ble_eq_true rfl, Nat.le_of_ble_eq_true rfl⟩) NW_ok hK hN I rfl (q_wsE (Nat.lt_of_lt_of_le (Nat.add_lt_add_left hi _) (by decide)) (a_C_JobProcess hi)) rfl (q_sz hl) rfl (Nat.le_of_ble_eq_true rfl) d_JobProcess_actOnPending_36 ⟨Nat.zero_le _, Nat.zero_le _⟩) (fun H locs I => ?_)
          exact k_JobProcess_actOnPending_39 C0 hA hi res (K2 := f_JobProcess_actOnPending_2 i n) ih r4 x1 hf H locs I ls (q_hsub hl [0, 1] rfl)
def f_JobProcess_actOnPending (σ : q_St) (i : Nat) : Option q_St := f_JobProcess_actOnPending_2 i 200 σ 0
set_option maxHeartbeats 4000000 in
set_option maxRecDepth 100000 in
theorem c_JobProcess_actOnPending {l : Launch} {D : va_G} {ad : Nat → Nat} {cs : Nat → ClassId} {sz : Nat} {σ : q_St} {i : Nat} (hi : i < 8) {res : q_St} (hf : f_JobProcess_actOnPending σ i  = some res) : Met l y_JobProcess_actOnPending w_JobProcess_actOnPending ({ frames := 1, cells := 0, slots := 0, locals := 21 } : Room) (q_Pre D vwCl (tyL cs) NW [.ref (ad (9 + i))] (q_ws 33 ad (cC ad cs σ)) sz) (q_Qv D vwCl (q_ws 33 ad (cC ad cs res)) (va_A (q_ws 33 ad (cC ad cs σ)) sz)) 0 0 (va_A (q_ws 33 ad (cC ad cs σ)) sz) := by
  refine Met.ofW (cc := b_JobProcess_actOnPending) (maxL := 2) (ret := none) (by decide) rfl ?_
  intro p e s m args below meth c s₁ B hml hv
  obtain ⟨hargs, hsz, hP, hK, hD0, hN⟩ := hv
  have hx := B.exec
  have hb := B.bytes
  have hr := B.returns
  have hts := atoms_spec (ws := w_JobProcess_actOnPending) B.pre
  have hown : s.vm.findClass "JobTerminal$JobProcess" = some m.cls := findClass_of_methodNamed B.named
  have hlocks := B.notSynchronized
  have htg : ∀ w ∈ GW, w.before args s = true := fun w h => hts w (List.mem_cons_of_mem _ h)
  subst hsz
  have hD := hD0.self (sz := s.heap.size)
  generalize hAe : va_A (q_ws 33 ad (cC ad cs σ)) s.heap.size = A at hD ⊢
  have hA : ∀ q : Nat, s.heap.size ≤ q → A q := fun q h => by rw [← hAe]; exact Or.inr h
  have I : q_I D vwCl A s.heap (q_ws 33 ad (cC ad cs σ)) s.heap [] := ⟨hP, hD, va_S.rf⟩
  obtain ⟨ls, hen, hl⟩ := q_entry (vs := [.ref (ad (9 + i))]) (n := 2) (lv := [(0, .ref (ad (9 + i)))]) (by intro v hv; simp only [List.mem_cons, List.not_mem_nil, or_false] at hv; rcases hv with rfl <;> first | rfl | exact q_cat) (Nat.le_of_ble_eq_true rfl) rfl
  rw [show entryFrame m args 2 = F0 m 0 ls [] from by rw [hargs]; exact hen m]
  have C0 : q_Cx "JobTerminal$JobProcess" b_JobProcess_actOnPending 2 none w_JobProcess_actOnPending D vwCl (tyL cs) NW p s m args meth c := ⟨hx, hb, hr, hml, hown, hts, hlocks, hK, hN⟩
  unfold f_JobProcess_actOnPending at hf
  have hgo : ∀ (H : Heap) (locs : List Loc), q_I D vwCl A s.heap (q_ws 33 ad (cC ad cs σ)) H locs → W p l e ({ frames := 1, cells := 0, slots := 0, locals := 21 } : Room) s m args below meth c H locs 0 0 (MQ below (q_Qv D vwCl (q_ws 33 ad (cC ad cs res)) A) args s 0 0 A) (F0 m 0 ls []) := by
    intro H locs I
    refine lv_iconst (v := 0) hx hb d_JobProcess_actOnPending_0 (by decide) ?_
    refine q_istore_n (lv' := [(1, .int 0), (0, .ref (ad (9 + i)))]) hx hb d_JobProcess_actOnPending_1 rfl hl (by decide) rfl (fun ls hl => ?_)
    exact k_JobProcess_actOnPending_2 C0 hA hi res 200 σ 0 hf H locs I ls (q_hsub hl [1, 0] rfl)
  exact hgo _ _ I
-- JobTerminal$JobProcess receive
def f_JobProcess_receive_122 (i : Nat) (σ : q_St) : Option q_St := some σ
set_option maxHeartbeats 4000000 in
set_option maxRecDepth 100000 in
theorem k_JobProcess_receive_122 {p : Program} {l : Launch} {e : Env} {s : State} {m : MethodId} {args : Array Value} {below : List Frame} {meth : Method} {c : Code} {D : va_G} {A : Nat → Prop} {ad : Nat → Nat} {cs : Nat → ClassId} (C0 : q_Cx "JobTerminal$JobProcess" b_JobProcess_receive 3 none w_JobProcess_receive D vwCl (tyL cs) NW p s m args meth c) (hA : ∀ q, s.heap.size ≤ q → A q) {i : Nat} (hi : i < 8) (res : q_St) : ∀ (σ : q_St) , f_JobProcess_receive_122 i σ  = some res → ∀ (H : Heap) (locs : List Loc), q_I D vwCl A s.heap (q_ws 33 ad (cC ad cs σ)) H locs → ∀ ls : Array Slot, q_has ls 3 [] → W p l e ({ frames := 2, cells := 0, slots := 0, locals := 42 } : Room) s m args below meth c H locs 0 0 (MQ below (q_Qv D vwCl (q_ws 33 ad (cC ad cs res)) A) args s 0 0 A) (F0 m 122 ls []) := by
  intro σ  hf H locs I ls hl
  unfold f_JobProcess_receive_122 at hf
  obtain ⟨hx, hb, hr, hml, hown, hts, hlocks, hK, hN⟩ := id C0
  have htg : ∀ w ∈ GW, w.before args s = true := fun w h => hts w (List.mem_cons_of_mem _ h)
  cases hf
  exact q_vret hx hb hr hlocks I d_JobProcess_receive_122
def f_JobProcess_receive_104 (i : Nat) (σ : q_St) (x2 : Int32) : Option q_St := f_JobProcess_receive_122 i (q_up σ 38 i ((σ 38 i) ||| x2))
set_option maxHeartbeats 4000000 in
set_option maxRecDepth 100000 in
theorem k_JobProcess_receive_104 {p : Program} {l : Launch} {e : Env} {s : State} {m : MethodId} {args : Array Value} {below : List Frame} {meth : Method} {c : Code} {D : va_G} {A : Nat → Prop} {ad : Nat → Nat} {cs : Nat → ClassId} (C0 : q_Cx "JobTerminal$JobProcess" b_JobProcess_receive 3 none w_JobProcess_receive D vwCl (tyL cs) NW p s m args meth c) (hA : ∀ q, s.heap.size ≤ q → A q) {i : Nat} (hi : i < 8) (res : q_St) : ∀ (σ : q_St) (x2 : Int32) , f_JobProcess_receive_104 i σ x2 = some res → ∀ (H : Heap) (locs : List Loc), q_I D vwCl A s.heap (q_ws 33 ad (cC ad cs σ)) H locs → ∀ ls : Array Slot, q_has ls 3 [(0, .ref (ad (9 + i))), (2, .int x2)] → W p l e ({ frames := 2, cells := 0, slots := 0, locals := 42 } : Room) s m args below meth c H locs 0 0 (MQ below (q_Qv D vwCl (q_ws 33 ad (cC ad cs res)) A) args s 0 0 A) (F0 m 104 ls []) := by
  intro σ x2 hf H locs I ls hl
  unfold f_JobProcess_receive_104 at hf
  obtain ⟨hx, hb, hr, hml, hown, hts, hlocks, hK, hN⟩ := id C0
  have htg : ∀ w ∈ GW, w.before args s = true := fun w h => hts w (List.mem_cons_of_mem _ h)
  refine lv_aload_n hx hb d_JobProcess_receive_104 rfl (q_at hl 0 rfl) ?_
  refine lv_dup hx hb d_JobProcess_receive_105 rfl ?_
  refine G_JobProcess_JobProcess_pending hx hb htg hown hK hN I hi d_JobProcess_receive_106 ?_
  refine lv_iload_n hx hb d_JobProcess_receive_109 rfl (q_at hl 1 rfl) ?_
  refine lv_ior hx hb d_JobProcess_receive_110 ?_
  refine P_JobProcess_JobProcess_pending hx hb htg hown hK hN I hi d_JobProcess_receive_111 (fun H locs I => ?_)
  refine lv_goto (tgt := 122) hx hb d_JobProcess_receive_114 (by decide) ?_
  exact k_JobProcess_receive_122 C0 hA hi res (q_up σ 38 i ((σ 38 i) ||| x2)) hf H locs I ls (q_hsub hl [] rfl)
def f_JobProcess_receive_69 (i : Nat) (σ : q_St) (x1 : Int32) : Option q_St := q_bnd (f_JobProcess_act σ i x1) (fun r14 => f_JobProcess_receive_122 i r14)
set_option maxHeartbeats 4000000 in
set_option maxRecDepth 100000 in
theorem k_JobProcess_receive_69 {p : Program} {l : Launch} {e : Env} {s : State} {m : MethodId} {args : Array Value} {below : List Frame} {meth : Method} {c : Code} {D : va_G} {A : Nat → Prop} {ad : Nat → Nat} {cs : Nat → ClassId} (C0 : q_Cx "JobTerminal$JobProcess" b_JobProcess_receive 3 none w_JobProcess_receive D vwCl (tyL cs) NW p s m args meth c) (hA : ∀ q, s.heap.size ≤ q → A q) {i : Nat} (hi : i < 8) (res : q_St) : ∀ (σ : q_St) (x1 : Int32) , f_JobProcess_receive_69 i σ x1 = some res → ∀ (H : Heap) (locs : List Loc), q_I D vwCl A s.heap (q_ws 33 ad (cC ad cs σ)) H locs → ∀ ls : Array Slot, q_has ls 3 [(0, .ref (ad (9 + i))), (1, .int x1)] → W p l e ({ frames := 2, cells := 0, slots := 0, locals := 42 } : Room) s m args below meth c H locs 0 0 (MQ below (q_Qv D vwCl (q_ws 33 ad (cC ad cs res)) A) args s 0 0 A) (F0 m 69 ls []) := by
  intro σ x1 hf H locs I ls hl
  unfold f_JobProcess_receive_69 at hf
  obtain ⟨hx, hb, hr, hml, hown, hts, hlocks, hK, hN⟩ := id C0
  have htg : ∀ w ∈ GW, w.before args s = true := fun w h => hts w (List.mem_cons_of_mem _ h)
  refine lv_aload_n hx hb d_JobProcess_receive_69 rfl (q_at hl 0 rfl) ?_
  refine lv_iload_n hx hb d_JobProcess_receive_70 rfl (q_at hl 1 rfl) ?_
  obtain ⟨r14, e15, hf⟩ := q_bnd_some hf
  refine q_kv hA I (q_runV (C := "JobTerminal$JobProcess") (As := [.int x1]) (rest := []) ⟨hx, hb, hml, hown, hts⟩ (c_JobProcess_act (sz := H.size) hi e15) (cwV 1 hts (q_goodV mw154 mw155 mw156 mw157 mw158) rfl rfl rfl (by decide +kernel) ⟨Nat.le_of_ble_eq_true rfl, Nat.le_of_ble_eq_true rfl⟩) NW_ok hK hN I rfl (q_wsE (Nat.lt_of_lt_of_le (Nat.add_lt_add_left hi _) (by decide)) (a_C_JobProcess hi)) rfl (q_sz hl) rfl (Nat.le_of_ble_eq_true rfl) d_JobProcess_receive_71 ⟨Nat.zero_le _, Nat.zero_le _⟩) (fun H locs I => ?_)
  refine lv_goto (tgt := 122) hx hb d_JobProcess_receive_74 (by decide) ?_
  exact k_JobProcess_receive_122 C0 hA hi res r14 hf H locs I ls (q_hsub hl [] rfl)
def f_JobProcess_receive_17 (i : Nat) (σ : q_St) (x1 : Int32) : Option q_St := if x1 = 5 then (if ((q_up σ 38 i ((σ 38 i) &&& (-961))) 33 i) = 2 then (q_bnd (f_JobProcess_actOnPending (q_up (q_up σ 38 i ((σ 38 i) &&& (-961))) 33 i 1) i) (fun r12 => f_JobProcess_receive_122 i r12)) else (f_JobProcess_receive_122 i (q_up σ 38 i ((σ 38 i) &&& (-961))))) else (if x1 = 3 then (f_JobProcess_receive_69 i σ x1) else (if x1 = 6 then (f_JobProcess_receive_69 i σ x1) else (if ((σ 40 i) &&& ((1 : Int32) <<< (x1 &&& 31))) = 0 then (if ((σ 39 i) &&& ((1 : Int32) <<< (x1 &&& 31))) = 0 then (if (σ 33 i) = 2 then (f_JobProcess_receive_104 i σ ((1 : Int32) <<< (x1 &&& 31))) else (q_bnd (f_JobProcess_act σ i x1) (fun r9 => f_JobProcess_receive_122 i r9))) else (f_JobProcess_receive_104 i σ ((1 : Int32) <<< (x1 &&& 31)))) else (some σ))))
set_option maxHeartbeats 4000000 in
set_option maxRecDepth 100000 in
theorem k_JobProcess_receive_17 {p : Program} {l : Launch} {e : Env} {s : State} {m : MethodId} {args : Array Value} {below : List Frame} {meth : Method} {c : Code} {D : va_G} {A : Nat → Prop} {ad : Nat → Nat} {cs : Nat → ClassId} (C0 : q_Cx "JobTerminal$JobProcess" b_JobProcess_receive 3 none w_JobProcess_receive D vwCl (tyL cs) NW p s m args meth c) (hA : ∀ q, s.heap.size ≤ q → A q) {i : Nat} (hi : i < 8) (res : q_St) : ∀ (σ : q_St) (x1 : Int32) , f_JobProcess_receive_17 i σ x1 = some res → ∀ (H : Heap) (locs : List Loc), q_I D vwCl A s.heap (q_ws 33 ad (cC ad cs σ)) H locs → ∀ ls : Array Slot, q_has ls 3 [(0, .ref (ad (9 + i))), (1, .int x1)] → W p l e ({ frames := 2, cells := 0, slots := 0, locals := 42 } : Room) s m args below meth c H locs 0 0 (MQ below (q_Qv D vwCl (q_ws 33 ad (cC ad cs res)) A) args s 0 0 A) (F0 m 17 ls []) := by
  intro σ x1 hf H locs I ls hl
  unfold f_JobProcess_receive_17 at hf
  obtain ⟨hx, hb, hr, hml, hown, hts, hlocks, hK, hN⟩ := id C0
  have htg : ∀ w ∈ GW, w.before args s = true := fun w h => hts w (List.mem_cons_of_mem _ h)
  refine lv_iconst (v := 1) hx hb d_JobProcess_receive_17 (by decide) ?_
  refine lv_iload_n hx hb d_JobProcess_receive_18 rfl (q_at hl 1 rfl) ?_
  refine lv_ishl hx hb d_JobProcess_receive_19 ?_
  refine q_istore_n (lv' := [(2, .int ((1 : Int32) <<< (x1 &&& 31))), (0, .ref (ad (9 + i))), (1, .int x1)]) hx hb d_JobProcess_receive_20 rfl hl (by decide) rfl (fun ls hl => ?_)
  refine lv_iload_n hx hb d_JobProcess_receive_21 rfl (q_at hl 2 rfl) ?_
  refine lv_iconst (v := 5) hx hb d_JobProcess_receive_22 (by decide) ?_
  refine lv_icmp_ne (tgt := 58) hx hb d_JobProcess_receive_23 (by decide) (fun c3 => ?_) (fun c3 => ?_)
  · rw [if_neg c3] at hf
    refine lv_iload_n hx hb d_JobProcess_receive_58 rfl (q_at hl 2 rfl) ?_
    refine lv_iconst (v := 3) hx hb d_JobProcess_receive_59 (by decide) ?_
    refine lv_icmp_eq (tgt := 69) hx hb d_JobProcess_receive_60 (by decide) (fun c4 => ?_) (fun c4 => ?_)
    · rw [if_pos c4] at hf
      exact k_JobProcess_receive_69 C0 hA hi res σ x1 hf H locs I ls (q_hsub hl [1, 2] rfl)
    · rw [if_neg c4] at hf
      refine lv_iload_n hx hb d_JobProcess_receive_63 rfl (q_at hl 2 rfl) ?_
      refine lv_bipush (v := 6) hx hb d_JobProcess_receive_64 (by decide) ?_
      refine lv_icmp_ne (tgt := 77) hx hb d_JobProcess_receive_66 (by decide) (fun c5 => ?_) (fun c5 => ?_)
      · rw [if_neg c5] at hf
        refine lv_aload_n hx hb d_JobProcess_receive_77 rfl (q_at hl 1 rfl) ?_
        refine G_JobProcess_JobProcess_ignored hx hb htg hown hK hN I hi d_JobProcess_receive_78 ?_
        refine lv_iload_n hx hb d_JobProcess_receive_81 rfl (q_at hl 0 rfl) ?_
        refine lv_iand hx hb d_JobProcess_receive_82 ?_
        refine lv_if_eq (tgt := 87) hx hb d_JobProcess_receive_83 (by decide) (fun c6 => ?_) (fun c6 => ?_)
        · rw [if_pos c6] at hf
          refine lv_aload_n hx hb d_JobProcess_receive_87 rfl (q_at hl 1 rfl) ?_
          refine G_JobProcess_JobProcess_blocked hx hb htg hown hK hN I hi d_JobProcess_receive_88 ?_
          refine lv_iload_n hx hb d_JobProcess_receive_91 rfl (q_at hl 0 rfl) ?_
          refine lv_iand hx hb d_JobProcess_receive_92 ?_
          refine lv_if_ne (tgt := 104) hx hb d_JobProcess_receive_93 (by decide) (fun c7 => ?_) (fun c7 => ?_)
          · rw [if_neg c7] at hf
            exact k_JobProcess_receive_104 C0 hA hi res σ ((1 : Int32) <<< (x1 &&& 31)) hf H locs I ls (q_hsub hl [1, 0] rfl)
          · rw [if_pos c7] at hf
            refine lv_aload_n hx hb d_JobProcess_receive_96 rfl (q_at hl 1 rfl) ?_
            refine G_JobProcess_JobProcess_state hx hb htg hown hK hN I hi d_JobProcess_receive_97 ?_
            refine lv_iconst (v := 2) hx hb d_JobProcess_receive_100 (by decide) ?_
            refine lv_icmp_ne (tgt := 117) hx hb d_JobProcess_receive_101 (by decide) (fun c8 => ?_) (fun c8 => ?_)
            · rw [if_neg c8] at hf
              refine lv_aload_n hx hb d_JobProcess_receive_117 rfl (q_at hl 1 rfl) ?_
              refine lv_iload_n hx hb d_JobProcess_receive_118 rfl (q_at hl 2 rfl) ?_
              obtain ⟨r9, e10, hf⟩ := q_bnd_some hf
              refine q_kv hA I (q_runV (C := "JobTerminal$JobProcess") (As := [.int x1]) (rest := []) ⟨hx, hb, hml, hown, hts⟩ (c_JobProcess_act (sz := H.size) hi e10) (cwV 1 hts (q_goodV mw154 mw155 mw156 mw157 mw158) rfl rfl rfl (by decide +kernel) ⟨Nat.le_of_ble_eq_true rfl, Nat.le_of_ble_eq_true rfl⟩) NW_ok hK hN I rfl (q_wsE (Nat.lt_of_lt_of_le (Nat.add_lt_add_left hi _) (by decide)) (a_C_JobProcess hi)) rfl (q_sz hl) rfl (Nat.le_of_ble_eq_true rfl) d_JobProcess_receive_119 ⟨Nat.zero_le _, Nat.zero_le _⟩) (fun H locs I => ?_)
              exact k_JobProcess_receive_122 C0 hA hi res r9 hf H locs I ls (q_hsub hl [] rfl)
            · rw [if_pos c8] at hf
              exact k_JobProcess_receive_104 C0 hA hi res σ ((1 : Int32) <<< (x1 &&& 31)) hf H locs I ls (q_hsub hl [1, 0] rfl)
        · rw [if_neg c6] at hf
          cases hf
          exact q_vret hx hb hr hlocks I d_JobProcess_receive_86
      · rw [if_pos c5] at hf
        exact k_JobProcess_receive_69 C0 hA hi res σ x1 hf H locs I ls (q_hsub hl [1, 2] rfl)
  · rw [if_pos c3] at hf
    refine lv_aload_n hx hb d_JobProcess_receive_26 rfl (q_at hl 1 rfl) ?_
    refine lv_dup hx hb d_JobProcess_receive_27 rfl ?_
    refine G_JobProcess_JobProcess_pending hx hb htg hown hK hN I hi d_JobProcess_receive_28 ?_
    refine lv_sipush (v := -961) hx hb d_JobProcess_receive_31 (by decide) ?_
    refine lv_iand hx hb d_JobProcess_receive_34 ?_
    refine P_JobProcess_JobProcess_pending hx hb htg hown hK hN I hi d_JobProcess_receive_35 (fun H locs I => ?_)
    refine lv_aload_n hx hb d_JobProcess_receive_38 rfl (q_at hl 1 rfl) ?_
    refine G_JobProcess_JobProcess_state hx hb htg hown hK hN I hi d_JobProcess_receive_39 ?_
    refine lv_iconst (v := 2) hx hb d_JobProcess_receive_42 (by decide) ?_
    refine lv_icmp_ne (tgt := 122) hx hb d_JobProcess_receive_43 (by decide) (fun c11 => ?_) (fun c11 => ?_)
    · rw [if_neg c11] at hf
      exact k_JobProcess_receive_122 C0 hA hi res (q_up σ 38 i ((σ 38 i) &&& (-961))) hf H locs I ls (q_hsub hl [] rfl)
    · rw [if_pos c11] at hf
      refine lv_aload_n hx hb d_JobProcess_receive_46 rfl (q_at hl 1 rfl) ?_
      refine lv_iconst (v := 1) hx hb d_JobProcess_receive_47 (by decide) ?_
      refine P_JobProcess_JobProcess_state hx hb htg hown hK hN I hi d_JobProcess_receive_48 (fun H locs I => ?_)
      refine lv_aload_n hx hb d_JobProcess_receive_51 rfl (q_at hl 1 rfl) ?_
      obtain ⟨r12, e13, hf⟩ := q_bnd_some hf
      refine q_kv hA I (q_runV (C := "JobTerminal$JobProcess") (As := []) (rest := []) ⟨hx, hb, hml, hown, hts⟩ (c_JobProcess_actOnPending (sz := H.size) hi e13) (cwV 0 hts (q_goodV mw159 mw160 mw161 mw162 mw158) rfl rfl rfl (by decide +kernel) ⟨Nat.le_of_ble_eq_true rfl, Nat.le_of_ble_eq_true rfl⟩) NW_ok hK hN I rfl (q_wsE (Nat.lt_of_lt_of_le (Nat.add_lt_add_left hi _) (by decide)) (a_C_JobProcess hi)) rfl (q_sz hl) rfl (Nat.le_of_ble_eq_true rfl) d_JobProcess_receive_52 ⟨Nat.zero_le _, Nat.zero_le _⟩) (fun H locs I => ?_)
      refine lv_goto (tgt := 122) hx hb d_JobProcess_receive_55 (by decide) ?_
      exact k_JobProcess_receive_122 C0 hA hi res r12 hf H locs I ls (q_hsub hl [] rfl)
def f_JobProcess_receive (σ : q_St) (i : Nat) (p1 : Int32) : Option q_St := if (σ 33 i) = 1 then (f_JobProcess_receive_17 i σ p1) else (if (σ 33 i) = 2 then (f_JobProcess_receive_17 i σ p1) else (some σ))
set_option maxHeartbeats 4000000 in
set_option maxRecDepth 100000 in
theorem c_JobProcess_receive {l : Launch} {D : va_G} {ad : Nat → Nat} {cs : Nat → ClassId} {sz : Nat} {σ : q_St} {i : Nat} (hi : i < 8) {p1 : Int32} {res : q_St} (hf : f_JobProcess_receive σ i p1 = some res) : Met l y_JobProcess_receive w_JobProcess_receive ({ frames := 2, cells := 0, slots := 0, locals := 42 } : Room) (q_Pre D vwCl (tyL cs) NW [.ref (ad (9 + i)), .int p1] (q_ws 33 ad (cC ad cs σ)) sz) (q_Qv D vwCl (q_ws 33 ad (cC ad cs res)) (va_A (q_ws 33 ad (cC ad cs σ)) sz)) 0 0 (va_A (q_ws 33 ad (cC ad cs σ)) sz) := by
  refine Met.ofW (cc := b_JobProcess_receive) (maxL := 3) (ret := none) (by decide) rfl ?_
  intro p e s m args below meth c s₁ B hml hv
  obtain ⟨hargs, hsz, hP, hK, hD0, hN⟩ := hv
  have hx := B.exec
  have hb := B.bytes
  have hr := B.returns
  have hts := atoms_spec (ws := w_JobProcess_receive) B.pre
  have hown : s.vm.findClass "JobTerminal$JobProcess" = some m.cls := findClass_of_methodNamed B.named
  have hlocks := B.notSynchronized
  have htg : ∀ w ∈ GW, w.before args s = true := fun w h => hts w (List.mem_cons_of_mem _ h)
  subst hsz
  have hD := hD0.self (sz := s.heap.size)
  generalize hAe : va_A (q_ws 33 ad (cC ad cs σ)) s.heap.size = A at hD ⊢
  have hA : ∀ q : Nat, s.heap.size ≤ q → A q := fun q h => by rw [← hAe]; exact Or.inr h
  have I : q_I D vwCl A s.heap (q_ws 33 ad (cC ad cs σ)) s.heap [] := ⟨hP, hD, va_S.rf⟩
  obtain ⟨ls, hen, hl⟩ := q_entry (vs := [.ref (ad (9 + i)), .int p1]) (n := 3) (lv := [(0, .ref (ad (9 + i))), (1, .int p1)]) (by intro v hv; simp only [List.mem_cons, List.not_mem_nil, or_false] at hv; rcases hv with rfl | rfl <;> first | rfl | exact q_cat) (Nat.le_of_ble_eq_true rfl) rfl
  rw [show entryFrame m args 3 = F0 m 0 ls [] from by rw [hargs]; exact hen m]
  have C0 : q_Cx "JobTerminal$JobProcess" b_JobProcess_receive 3 none w_JobProcess_receive D vwCl (tyL cs) NW p s m args meth c := ⟨hx, hb, hr, hml, hown, hts, hlocks, hK, hN⟩
  unfold f_JobProcess_receive at hf
  have hgo : ∀ (H : Heap) (locs : List Loc), q_I D vwCl A s.heap (q_ws 33 ad (cC ad cs σ)) H locs → W p l e ({ frames := 2, cells := 0, slots := 0, locals := 42 } : Room) s m args below meth c H locs 0 0 (MQ below (q_Qv D vwCl (q_ws 33 ad (cC ad cs res)) A) args s 0 0 A) (F0 m 0 ls []) := by
    intro H locs I
    refine lv_aload_n hx hb d_JobProcess_receive_0 rfl (q_at hl 0 rfl) ?_
    refine G_JobProcess_JobProcess_state hx hb htg hown hK hN I hi d_JobProcess_receive_1 ?_
    refine lv_iconst (v := 1) hx hb d_JobProcess_receive_4 (by decide) ?_
    refine lv_icmp_eq (tgt := 17) hx hb d_JobProcess_receive_5 (by decide) (fun c1 => ?_) (fun c1 => ?_)
    · rw [if_pos c1] at hf
      exact k_JobProcess_receive_17 C0 hA hi res σ p1 hf H locs I ls (q_hsub hl [0, 1] rfl)
    · rw [if_neg c1] at hf
      refine lv_aload_n hx hb d_JobProcess_receive_8 rfl (q_at hl 0 rfl) ?_
      refine G_JobProcess_JobProcess_state hx hb htg hown hK hN I hi d_JobProcess_receive_9 ?_
      refine lv_iconst (v := 2) hx hb d_JobProcess_receive_12 (by decide) ?_
      refine lv_icmp_eq (tgt := 17) hx hb d_JobProcess_receive_13 (by decide) (fun c2 => ?_) (fun c2 => ?_)
      · rw [if_pos c2] at hf
        exact k_JobProcess_receive_17 C0 hA hi res σ p1 hf H locs I ls (q_hsub hl [0, 1] rfl)
      · rw [if_neg c2] at hf
        cases hf
        exact q_vret hx hb hr hlocks I d_JobProcess_receive_16
  exact hgo _ _ I
-- JobTerminal$Job receive
def f_Job_receive_30 (i : Nat) (σ : q_St) : Option q_St := some σ
set_option maxHeartbeats 4000000 in
set_option maxRecDepth 100000 in
theorem k_Job_receive_30 {p : Program} {l : Launch} {e : Env} {s : State} {m : MethodId} {args : Array Value} {below : List Frame} {meth : Method} {c : Code} {D : va_G} {A : Nat → Prop} {ad : Nat → Nat} {cs : Nat → ClassId} (C0 : q_Cx "JobTerminal$Job" b_Job_receive 2 none w_Job_receive D vwCl (tyL cs) NW p s m args meth c) (hA : ∀ q, s.heap.size ≤ q → A q) {i : Nat} (hi : i < 4) (res : q_St) : ∀ (σ : q_St) , f_Job_receive_30 i σ  = some res → ∀ (H : Heap) (locs : List Loc), q_I D vwCl A s.heap (q_ws 33 ad (cC ad cs σ)) H locs → ∀ ls : Array Slot, q_has ls 2 [] → W p l e ({ frames := 3, cells := 0, slots := 0, locals := 64 } : Room) s m args below meth c H locs 0 0 (MQ below (q_Qv D vwCl (q_ws 33 ad (cC ad cs res)) A) args s 0 0 A) (F0 m 30 ls []) := by
  intro σ  hf H locs I ls hl
  unfold f_Job_receive_30 at hf
  obtain ⟨hx, hb, hr, hml, hown, hts, hlocks, hK, hN⟩ := id C0
  have htg : ∀ w ∈ GW, w.before args s = true := fun w h => hts w (List.mem_cons_of_mem _ h)
  cases hf
  exact q_vret hx hb hr hlocks I d_Job_receive_30
def f_Job_receive_15 (i : Nat) (σ : q_St) (x1 : Int32) : Option q_St := if (σ 29 i) < 0 then (f_Job_receive_30 i σ) else (q_grd (q_in (σ 29 i) 8) (q_bnd (f_JobProcess_receive σ ((σ 29 i).toNatClampNeg) x1) (fun r7 => f_Job_receive_30 i r7)))
set_option maxHeartbeats 4000000 in
set_option maxRecDepth 100000 in
theorem k_Job_receive_15 {p : Program} {l : Launch} {e : Env} {s : State} {m : MethodId} {args : Array Value} {below : List Frame} {meth : Method} {c : Code} {D : va_G} {A : Nat → Prop} {ad : Nat → Nat} {cs : Nat → ClassId} (C0 : q_Cx "JobTerminal$Job" b_Job_receive 2 none w_Job_receive D vwCl (tyL cs) NW p s m args meth c) (hA : ∀ q, s.heap.size ≤ q → A q) {i : Nat} (hi : i < 4) (res : q_St) : ∀ (σ : q_St) (x1 : Int32) , f_Job_receive_15 i σ x1 = some res → ∀ (H : Heap) (locs : List Loc), q_I D vwCl A s.heap (q_ws 33 ad (cC ad cs σ)) H locs → ∀ ls : Array Slot, q_has ls 2 [(0, .ref (ad (17 + i))), (1, .int x1)] → W p l e ({ frames := 3, cells := 0, slots := 0, locals := 64 } : Room) s m args below meth c H locs 0 0 (MQ below (q_Qv D vwCl (q_ws 33 ad (cC ad cs res)) A) args s 0 0 A) (F0 m 15 ls []) := by
  intro σ x1 hf H locs I ls hl
  unfold f_Job_receive_15 at hf
  obtain ⟨hx, hb, hr, hml, hown, hts, hlocks, hK, hN⟩ := id C0
  have htg : ∀ w ∈ GW, w.before args s = true := fun w h => hts w (List.mem_cons_of_mem _ h)
  refine lv_aload_n hx hb d_Job_receive_15 rfl (q_at hl 0 rfl) ?_
  refine G_Job_Job_second hx hb htg hown hK hN I hi d_Job_receive_16 ?_
  refine q_ifnull (tgt := 30) hx hb d_Job_receive_19 (by decide) (fun c5 => ?_) (fun c5 => ?_)
  · rw [if_pos c5] at hf
    exact k_Job_receive_30 C0 hA hi res σ hf H locs I ls (q_hsub hl [] rfl)
  · rw [if_neg c5] at hf
    refine lv_aload_n hx hb d_Job_receive_22 rfl (q_at hl 0 rfl) ?_
    refine G_Job_Job_second hx hb htg hown hK hN I hi d_Job_receive_23 ?_
    refine lv_iload_n hx hb d_Job_receive_26 rfl (q_at hl 1 rfl) ?_
    obtain ⟨o6, hf⟩ := q_grd_some hf
    rw [q_rv_ref (q_in_pos o6)]
    obtain ⟨r7, e8, hf⟩ := q_bnd_some hf
    refine q_kv hA I (q_runV (C := "JobTerminal$JobProcess") (As := [.int x1]) (rest := []) ⟨hx, hb, hml, hown, hts⟩ (c_JobProcess_receive (sz := H.size) (q_in_lt o6) e8) (cwV 1 hts (q_goodV mw163 mw164 mw165 mw166 mw158) rfl rfl rfl (by decide +kernel) ⟨Nat.le_of_ble_eq_true rfl, Nat.le_of_ble_eq_true rfl⟩) NW_ok hK hN I rfl (q_wsE (Nat.lt_of_lt_of_le (Nat.add_lt_add_left (q_in_lt o6) _) (by decide)) (a_C_JobProcess (q_in_lt o6))) rfl (q_sz hl) rfl (Nat.le_of_ble_eq_true rfl) d_Job_receive_27 ⟨Nat.zero_le _, Nat.zero_le _⟩) (fun H locs I => ?_)
    exact k_Job_receive_30 C0 hA hi res r7 hf H locs I ls (q_hsub hl [] rfl)
def f_Job_receive (σ : q_St) (i : Nat) (p1 : Int32) : Option q_St := if (σ 28 i) < 0 then (f_Job_receive_15 i σ p1) else (q_grd (q_in (σ 28 i) 8) (q_bnd (f_JobProcess_receive σ ((σ 28 i).toNatClampNeg) p1) (fun r3 => f_Job_receive_15 i r3 p1)))
set_option maxHeartbeats 4000000 in
set_option maxRecDepth 100000 in
theorem c_Job_receive {l : Launch} {D : va_G} {ad : Nat → Nat} {cs : Nat → ClassId} {sz : Nat} {σ : q_St} {i : Nat} (hi : i < 4) {p1 : Int32} {res : q_St} (hf : f_Job_receive σ i p1 = some res) : Met l y_Job_receive w_Job_receive ({ frames := 3, cells := 0, slots := 0, locals := 64 } : Room) (q_Pre D vwCl (tyL cs) NW [.ref (ad (17 + i)), .int p1] (q_ws 33 ad (cC ad cs σ)) sz) (q_Qv D vwCl (q_ws 33 ad (cC ad cs res)) (va_A (q_ws 33 ad (cC ad cs σ)) sz)) 0 0 (va_A (q_ws 33 ad (cC ad cs σ)) sz) := by
  refine Met.ofW (cc := b_Job_receive) (maxL := 2) (ret := none) (by decide) rfl ?_
  intro p e s m args below meth c s₁ B hml hv
  obtain ⟨hargs, hsz, hP, hK, hD0, hN⟩ := hv
  have hx := B.exec
  have hb := B.bytes
  have hr := B.returns
  have hts := atoms_spec (ws := w_Job_receive) B.pre
  have hown : s.vm.findClass "JobTerminal$Job" = some m.cls := findClass_of_methodNamed B.named
  have hlocks := B.notSynchronized
  have htg : ∀ w ∈ GW, w.before args s = true := fun w h => hts w (List.mem_cons_of_mem _ h)
  subst hsz
  have hD := hD0.self (sz := s.heap.size)
  generalize hAe : va_A (q_ws 33 ad (cC ad cs σ)) s.heap.size = A at hD ⊢
  have hA : ∀ q : Nat, s.heap.size ≤ q → A q := fun q h => by rw [← hAe]; exact Or.inr h
  have I : q_I D vwCl A s.heap (q_ws 33 ad (cC ad cs σ)) s.heap [] := ⟨hP, hD, va_S.rf⟩
  obtain ⟨ls, hen, hl⟩ := q_entry (vs := [.ref (ad (17 + i)), .int p1]) (n := 2) (lv := [(0, .ref (ad (17 + i))), (1, .int p1)]) (by intro v hv; simp only [List.mem_cons, List.not_mem_nil, or_false] at hv; rcases hv with rfl | rfl <;> first | rfl | exact q_cat) (Nat.le_of_ble_eq_true rfl) rfl
  rw [show entryFrame m args 2 = F0 m 0 ls [] from by rw [hargs]; exact hen m]
  have C0 : q_Cx "JobTerminal$Job" b_Job_receive 2 none w_Job_receive D vwCl (tyL cs) NW p s m args meth c := ⟨hx, hb, hr, hml, hown, hts, hlocks, hK, hN⟩
  unfold f_Job_receive at hf
  have hgo : ∀ (H : Heap) (locs : List Loc), q_I D vwCl A s.heap (q_ws 33 ad (cC ad cs σ)) H locs → W p l e ({ frames := 3, cells := 0, slots := 0, locals := 64 } : Room) s m args below meth c H locs 0 0 (MQ below (q_Qv D vwCl (q_ws 33 ad (cC ad cs res)) A) args s 0 0 A) (F0 m 0 ls []) := by
    intro H locs I
    refine lv_aload_n hx hb d_Job_receive_0 rfl (q_at hl 0 rfl) ?_
    refine G_Job_Job_first hx hb htg hown hK hN I hi d_Job_receive_1 ?_
    refine q_ifnull (tgt := 15) hx hb d_Job_receive_4 (by decide) (fun c1 => ?_) (fun c1 => ?_)
    · rw [if_pos c1] at hf
      exact k_Job_receive_15 C0 hA hi res σ p1 hf H locs I ls (q_hsub hl [0, 1] rfl)
    · rw [if_neg c1] at hf
      refine lv_aload_n hx hb d_Job_receive_7 rfl (q_at hl 0 rfl) ?_
      refine G_Job_Job_first hx hb htg hown hK hN I hi d_Job_receive_8 ?_
      refine lv_iload_n hx hb d_Job_receive_11 rfl (q_at hl 1 rfl) ?_
      obtain ⟨o2, hf⟩ := q_grd_some hf
      rw [q_rv_ref (q_in_pos o2)]
      obtain ⟨r3, e4, hf⟩ := q_bnd_some hf
      refine q_kv hA I (q_runV (C := "JobTerminal$JobProcess") (As := [.int p1]) (rest := []) ⟨hx, hb, hml, hown, hts⟩ (c_JobProcess_receive (sz := H.size) (q_in_lt o2) e4) (cwV 1 hts (q_goodV mw163 mw164 mw165 mw166 mw158) rfl rfl rfl (by decide +kernel) ⟨Nat.le_of_ble_eq_true rfl, Nat.le_of_ble_eq_true rfl⟩) NW_ok hK hN I rfl (q_wsE (Nat.lt_of_lt_of_le (Nat.add_lt_add_left (q_in_lt o2) _) (by decide)) (a_C_JobProcess (q_in_lt o2))) rfl (q_sz hl) rfl (Nat.le_of_ble_eq_true rfl) d_Job_receive_12 ⟨Nat.zero_le _, Nat.zero_le _⟩) (fun H locs I => ?_)
      exact k_Job_receive_15 C0 hA hi res r3 p1 hf H locs I ls (q_hsub hl [0, 1] rfl)
  exact hgo _ _ I
-- JobTerminal$NumberRow clear
def f_NumberRow_clear (σ : q_St) (i : Nat) : Option q_St := some (q_up σ 27 i 0)
set_option maxHeartbeats 4000000 in
set_option maxRecDepth 100000 in
theorem c_NumberRow_clear {l : Launch} {D : va_G} {ad : Nat → Nat} {cs : Nat → ClassId} {sz : Nat} {σ : q_St} {i : Nat} (hi : i < 6) {res : q_St} (hf : f_NumberRow_clear σ i  = some res) : Met l y_NumberRow_clear w_NumberRow_clear ({ frames := 0, cells := 0, slots := 0, locals := 0 } : Room) (q_Pre D vwCl (tyL cs) NW [.ref (ad (21 + i))] (q_ws 33 ad (cC ad cs σ)) sz) (q_Qv D vwCl (q_ws 33 ad (cC ad cs res)) (va_A (q_ws 33 ad (cC ad cs σ)) sz)) 0 0 (va_A (q_ws 33 ad (cC ad cs σ)) sz) := by
  refine Met.ofW (cc := b_NumberRow_clear) (maxL := 1) (ret := none) (by decide) rfl ?_
  intro p e s m args below meth c s₁ B hml hv
  obtain ⟨hargs, hsz, hP, hK, hD0, hN⟩ := hv
  have hx := B.exec
  have hb := B.bytes
  have hr := B.returns
  have hts := atoms_spec (ws := w_NumberRow_clear) B.pre
  have hown : s.vm.findClass "JobTerminal$NumberRow" = some m.cls := findClass_of_methodNamed B.named
  have hlocks := B.notSynchronized
  have htg : ∀ w ∈ GW, w.before args s = true := fun w h => hts w (List.mem_cons_of_mem _ h)
  subst hsz
  have hD := hD0.self (sz := s.heap.size)
  generalize hAe : va_A (q_ws 33 ad (cC ad cs σ)) s.heap.size = A at hD ⊢
  have hA : ∀ q : Nat, s.heap.size ≤ q → A q := fun q h => by rw [← hAe]; exact Or.inr h
  have I : q_I D vwCl A s.heap (q_ws 33 ad (cC ad cs σ)) s.heap [] := ⟨hP, hD, va_S.rf⟩
  obtain ⟨ls, hen, hl⟩ := q_entry (vs := [.ref (ad (21 + i))]) (n := 1) (lv := [(0, .ref (ad (21 + i)))]) (by intro v hv; simp only [List.mem_cons, List.not_mem_nil, or_false] at hv; rcases hv with rfl <;> first | rfl | exact q_cat) (Nat.le_of_ble_eq_true rfl) rfl
  rw [show entryFrame m args 1 = F0 m 0 ls [] from by rw [hargs]; exact hen m]
  have C0 : q_Cx "JobTerminal$NumberRow" b_NumberRow_clear 1 none w_NumberRow_clear D vwCl (tyL cs) NW p s m args meth c := ⟨hx, hb, hr, hml, hown, hts, hlocks, hK, hN⟩
  unfold f_NumberRow_clear at hf
  have hgo : ∀ (H : Heap) (locs : List Loc), q_I D vwCl A s.heap (q_ws 33 ad (cC ad cs σ)) H locs → W p l e ({ frames := 0, cells := 0, slots := 0, locals := 0 } : Room) s m args below meth c H locs 0 0 (MQ below (q_Qv D vwCl (q_ws 33 ad (cC ad cs res)) A) args s 0 0 A) (F0 m 0 ls []) := by
    intro H locs I
    refine lv_aload_n hx hb d_NumberRow_clear_0 rfl (q_at hl 0 rfl) ?_
    refine lv_iconst (v := 0) hx hb d_NumberRow_clear_1 (by decide) ?_
    refine P_NumberRow_NumberRow_count hx hb htg hown hK hN I hi d_NumberRow_clear_2 (fun H locs I => ?_)
    cases hf
    exact q_vret hx hb hr hlocks I d_NumberRow_clear_5
  exact hgo _ _ I
-- JobTerminal$Terminal dropEdit
def f_Terminal_dropEdit (σ : q_St) (p1 : Int32) : Option q_St := q_bnd (f_Terminal_echo σ p1) (fun r1 => q_bnd (f_NumberRow_clear r1 0) (fun r3 => some r3))
set_option maxHeartbeats 4000000 in
set_option maxRecDepth 100000 in
theorem c_Terminal_dropEdit {l : Launch} {D : va_G} {ad : Nat → Nat} {cs : Nat → ClassId} {sz : Nat} {σ : q_St} {p1 : Int32} {res : q_St} (hf : f_Terminal_dropEdit σ p1 = some res) : Met l y_Terminal_dropEdit w_Terminal_dropEdit ({ frames := 3, cells := 0, slots := 0, locals := 63 } : Room) (q_Pre D vwCl (tyL cs) NW [.ref (ad 6), .int p1] (q_ws 33 ad (cC ad cs σ)) sz) (q_Qv D vwCl (q_ws 33 ad (cC ad cs res)) (va_A (q_ws 33 ad (cC ad cs σ)) sz)) 0 0 (va_A (q_ws 33 ad (cC ad cs σ)) sz) := by
  refine Met.ofW (cc := b_Terminal_dropEdit) (maxL := 2) (ret := none) (by decide) rfl ?_
  intro p e s m args below meth c s₁ B hml hv
  obtain ⟨hargs, hsz, hP, hK, hD0, hN⟩ := hv
  have hx := B.exec
  have hb := B.bytes
  have hr := B.returns
  have hts := atoms_spec (ws := w_Terminal_dropEdit) B.pre
  have hown : s.vm.findClass "JobTerminal$Terminal" = some m.cls := findClass_of_methodNamed B.named
  have hlocks := B.notSynchronized
  have htg : ∀ w ∈ GW, w.before args s = true := fun w h => hts w (List.mem_cons_of_mem _ h)
  subst hsz
  have hD := hD0.self (sz := s.heap.size)
  generalize hAe : va_A (q_ws 33 ad (cC ad cs σ)) s.heap.size = A at hD ⊢
  have hA : ∀ q : Nat, s.heap.size ≤ q → A q := fun q h => by rw [← hAe]; exact Or.inr h
  have I : q_I D vwCl A s.heap (q_ws 33 ad (cC ad cs σ)) s.heap [] := ⟨hP, hD, va_S.rf⟩
  obtain ⟨ls, hen, hl⟩ := q_entry (vs := [.ref (ad 6), .int p1]) (n := 2) (lv := [(0, .ref (ad 6)), (1, .int p1)]) (by intro v hv; simp only [List.mem_cons, List.not_mem_nil, or_false] at hv; rcases hv with rfl | rfl <;> first | rfl | exact q_cat) (Nat.le_of_ble_eq_true rfl) rfl
  rw [show entryFrame m args 2 = F0 m 0 ls [] from by rw [hargs]; exact hen m]
  have C0 : q_Cx "JobTerminal$Terminal" b_Terminal_dropEdit 2 none w_Terminal_dropEdit D vwCl (tyL cs) NW p s m args meth c := ⟨hx, hb, hr, hml, hown, hts, hlocks, hK, hN⟩
  unfold f_Terminal_dropEdit at hf
  have hgo : ∀ (H : Heap) (locs : List Loc), q_I D vwCl A s.heap (q_ws 33 ad (cC ad cs σ)) H locs → W p l e ({ frames := 3, cells := 0, slots := 0, locals := 63 } : Room) s m args below meth c H locs 0 0 (MQ below (q_Qv D vwCl (q_ws 33 ad (cC ad cs res)) A) args s 0 0 A) (F0 m 0 ls []) := by
    intro H locs I
    refine lv_aload_n hx hb d_Terminal_dropEdit_0 rfl (q_at hl 0 rfl) ?_
    refine lv_iload_n hx hb d_Terminal_dropEdit_1 rfl (q_at hl 1 rfl) ?_
    obtain ⟨r1, e2, hf⟩ := q_bnd_some hf
    refine q_kv hA I (q_runV (C := "JobTerminal$Terminal") (As := [.int p1]) (rest := []) ⟨hx, hb, hml, hown, hts⟩ (c_Terminal_echo (sz := H.size) e2) (cwV 1 hts (q_goodV mw110 mw111 mw112 mw113 mw83) rfl rfl rfl (by decide +kernel) ⟨Nat.le_of_ble_eq_true rfl, Nat.le_of_ble_eq_true rfl⟩) NW_ok hK hN I rfl (q_wsE (by decide) (a_C_Terminal)) rfl (q_sz hl) rfl (Nat.le_of_ble_eq_true rfl) d_Terminal_dropEdit_2 ⟨Nat.zero_le _, Nat.zero_le _⟩) (fun H locs I => ?_)
    refine lv_aload_n hx hb d_Terminal_dropEdit_5 rfl (q_at hl 0 rfl) ?_
    refine G_Terminal_Terminal_edit hx hb htg hown hK hN I d_Terminal_dropEdit_6 ?_
    obtain ⟨r3, e4, hf⟩ := q_bnd_some hf
    refine q_kv hA I (q_runV (C := "JobTerminal$NumberRow") (As := []) (rest := []) ⟨hx, hb, hml, hown, hts⟩ (c_NumberRow_clear (sz := H.size) (show (0 : Nat) < 6 by skip; omega) e4) (cwV 0 hts (q_goodV mw167 mw168 mw169 mw170 mw88) rfl rfl rfl (by decide +kernel) ⟨Nat.le_of_ble_eq_true rfl, Nat.le_of_ble_eq_true rfl⟩) NW_ok hK hN I rfl (q_wsE (Nat.lt_of_lt_of_le (Nat.add_lt_add_left (show (0 : Nat) < 6 by skip; omega) _) (by decide)) (a_C_NumberRow (show (0 : Nat) < 6 by skip; omega))) rfl (q_sz hl) rfl (Nat.le_of_ble_eq_true rfl) d_Terminal_dropEdit_9 ⟨Nat.zero_le _, Nat.zero_le _⟩) (fun H locs I => ?_)
    cases hf
    exact q_vret hx hb hr hlocks I d_Terminal_dropEdit_12
  exact hgo _ _ I
-- JobTerminal$Job state
def f_Job_state_43 (i : Nat) (σ : q_St) (y0 : Int32) : Option (Int32 × q_St) := some (y0, σ)
set_option maxHeartbeats 4000000 in
set_option maxRecDepth 100000 in
theorem k_Job_state_43 {p : Program} {l : Launch} {e : Env} {s : State} {m : MethodId} {args : Array Value} {below : List Frame} {meth : Method} {c : Code} {D : va_G} {A : Nat → Prop} {ad : Nat → Nat} {cs : Nat → ClassId} (C0 : q_Cx "JobTerminal$Job" b_Job_state 1 (some .int) w_Job_state D vwCl (tyL cs) NW p s m args meth c) (hA : ∀ q, s.heap.size ≤ q → A q) {i : Nat} (hi : i < 4) (res : (Int32 × q_St)) : ∀ (σ : q_St) (y0 : Int32) , f_Job_state_43 i σ y0 = some res → ∀ (H : Heap) (locs : List Loc), q_I D vwCl A s.heap (q_ws 33 ad (cC ad cs σ)) H locs → ∀ ls : Array Slot, q_has ls 1 [] → W p l e ({ frames := 1, cells := 0, slots := 0, locals := 21 } : Room) s m args below meth c H locs 0 0 (MQ below (q_Qi D vwCl res.1 (q_ws 33 ad (cC ad cs res.2)) A) args s 0 0 A) (F0 m 43 ls [.int y0]) := by
  intro σ y0 hf H locs I ls hl
  unfold f_Job_state_43 at hf
  obtain ⟨hx, hb, hr, hml, hown, hts, hlocks, hK, hN⟩ := id C0
  have htg : ∀ w ∈ GW, w.before args s = true := fun w h => hts w (List.mem_cons_of_mem _ h)
  cases hf
  exact q_iret hx hb hr hlocks I d_Job_state_43
def f_Job_state (σ : q_St) (i : Nat) : Option (Int32 × q_St) := if (σ 28 i) < 0 then (some (-1, σ)) else (if (σ 29 i) < 0 then (q_grd (q_in (σ 28 i) 8) (f_Job_state_43 i σ (σ 33 ((σ 28 i).toNatClampNeg)))) else (q_grd (q_in (σ 28 i) 8) (q_grd (q_in (σ 29 i) 8) (f_Job_state_43 i σ (if (σ 33 ((σ 29 i).toNatClampNeg)) < (σ 33 ((σ 28 i).toNatClampNeg)) then (σ 33 ((σ 29 i).toNatClampNeg)) else (σ 33 ((σ 28 i).toNatClampNeg)))))))
set_option maxHeartbeats 4000000 in
set_option maxRecDepth 100000 in
theorem c_Job_state {l : Launch} {D : va_G} {ad : Nat → Nat} {cs : Nat → ClassId} {sz : Nat} {σ : q_St} {i : Nat} (hi : i < 4) {res : (Int32 × q_St)} (hf : f_Job_state σ i  = some res) : Met l y_Job_state w_Job_state ({ frames := 1, cells := 0, slots := 0, locals := 21 } : Room) (q_Pre D vwCl (tyL cs) NW [.ref (ad (17 + i))] (q_ws 33 ad (cC ad cs σ)) sz) (q_Qi D vwCl res.1 (q_ws 33 ad (cC ad cs res.2)) (va_A (q_ws 33 ad (cC ad cs σ)) sz)) 0 0 (va_A (q_ws 33 ad (cC ad cs σ)) sz) := by
  refine Met.ofW (cc := b_Job_state) (maxL := 1) (ret := (some .int)) (by decide) rfl ?_
  intro p e s m args below meth c s₁ B hml hv
  obtain ⟨hargs, hsz, hP, hK, hD0, hN⟩ := hv
  have hx := B.exec
  have hb := B.bytes
  have hr := B.returns
  have hts := atoms_spec (ws := w_Job_state) B.pre
  have hown : s.vm.findClass "JobTerminal$Job" = some m.cls := findClass_of_methodNamed B.named
  have hlocks := B.notSynchronized
  have htg : ∀ w ∈ GW, w.before args s = true := fun w h => hts w (List.mem_cons_of_mem _ h)
  subst hsz
  have hD := hD0.self (sz := s.heap.size)
  generalize hAe : va_A (q_ws 33 ad (cC ad cs σ)) s.heap.size = A at hD ⊢
  have hA : ∀ q : Nat, s.heap.size ≤ q → A q := fun q h => by rw [← hAe]; exact Or.inr h
  have I : q_I D vwCl A s.heap (q_ws 33 ad (cC ad cs σ)) s.heap [] := ⟨hP, hD, va_S.rf⟩
  obtain ⟨ls, hen, hl⟩ := q_entry (vs := [.ref (ad (17 + i))]) (n := 1) (lv := [(0, .ref (ad (17 + i)))]) (by intro v hv; simp only [List.mem_cons, List.not_mem_nil, or_false] at hv; rcases hv with rfl <;> first | rfl | exact q_cat) (Nat.le_of_ble_eq_true rfl) rfl
  rw [show entryFrame m args 1 = F0 m 0 ls [] from by rw [hargs]; exact hen m]
  have C0 : q_Cx "JobTerminal$Job" b_Job_state 1 (some .int) w_Job_state D vwCl (tyL cs) NW p s m args meth c := ⟨hx, hb, hr, hml, hown, hts, hlocks, hK, hN⟩
  unfold f_Job_state at hf
  have hgo : ∀ (H : Heap) (locs : List Loc), q_I D vwCl A s.heap (q_ws 33 ad (cC ad cs σ)) H locs → W p l e ({ frames := 1, cells := 0, slots := 0, locals := 21 } : Room) s m args below meth c H locs 0 0 (MQ below (q_Qi D vwCl res.1 (q_ws 33 ad (cC ad cs res.2)) A) args s 0 0 A) (F0 m 0 ls []) := by
    intro H locs I
    refine lv_aload_n hx hb d_Job_state_0 rfl (q_at hl 0 rfl) ?_
    refine G_Job_Job_first hx hb htg hown hK hN I hi d_Job_state_1 ?_
    refine q_ifnonnull (tgt := 9) hx hb d_Job_state_4 (by decide) (fun c1 => ?_) (fun c1 => ?_)
    · rw [if_neg c1] at hf
      refine lv_aload_n hx hb d_Job_state_9 rfl (q_at hl 0 rfl) ?_
      refine G_Job_Job_second hx hb htg hown hK hN I hi d_Job_state_10 ?_
      refine q_ifnonnull (tgt := 26) hx hb d_Job_state_13 (by decide) (fun c2 => ?_) (fun c2 => ?_)
      · rw [if_neg c2] at hf
        refine lv_aload_n hx hb d_Job_state_26 rfl (q_at hl 0 rfl) ?_
        refine G_Job_Job_first hx hb htg hown hK hN I hi d_Job_state_27 ?_
        obtain ⟨o3, hf⟩ := q_grd_some hf
        rw [q_rv_ref (q_in_pos o3)]
        refine G_Job_JobProcess_state hx hb htg hown hK hN I (q_in_lt o3) d_Job_state_30 ?_
        refine lv_aload_n hx hb d_Job_state_33 rfl (q_at hl 0 rfl) ?_
        refine G_Job_Job_second hx hb htg hown hK hN I hi d_Job_state_34 ?_
        obtain ⟨o4, hf⟩ := q_grd_some hf
        rw [q_rv_ref (q_in_pos o4)]
        refine G_Job_JobProcess_state hx hb htg hown hK hN I (q_in_lt o4) d_Job_state_37 ?_
        refine va_mmin hx hb (hml.trans (q_sz hl).symm) hown (htg _ mw171) (htg _ mw172) (htg _ mw173) (htg _ mw174) (Nat.le_of_ble_eq_true rfl) (Nat.le_of_ble_eq_true rfl) (Nat.zero_le _) (Nat.zero_le _) d_Job_state_40 ?_
        exact k_Job_state_43 C0 hA hi res σ (if (σ 33 ((σ 29 i).toNatClampNeg)) < (σ 33 ((σ 28 i).toNatClampNeg)) then (σ 33 ((σ 29 i).toNatClampNeg)) else (σ 33 ((σ 28 i).toNatClampNeg))) hf H locs I ls (q_hsub hl [] rfl)
      · rw [if_pos c2] at hf
        refine lv_aload_n hx hb d_Job_state_16 rfl (q_at hl 0 rfl) ?_
        refine G_Job_Job_first hx hb htg hown hK hN I hi d_Job_state_17 ?_
        obtain ⟨o5, hf⟩ := q_grd_some hf
        rw [q_rv_ref (q_in_pos o5)]
        refine G_Job_JobProcess_state hx hb htg hown hK hN I (q_in_lt o5) d_Job_state_20 ?_
        refine lv_goto (tgt := 43) hx hb d_Job_state_23 (by decide) ?_
        exact k_Job_state_43 C0 hA hi res σ (σ 33 ((σ 28 i).toNatClampNeg)) hf H locs I ls (q_hsub hl [] rfl)
    · rw [if_pos c1] at hf
      refine lv_iconst (v := -1) hx hb d_Job_state_7 (by decide) ?_
      cases hf
      exact q_iret hx hb hr hlocks I d_Job_state_8
  exact hgo _ _ I
-- JobTerminal$Job exists
def f_Job_exists_12 (i : Nat) (σ : q_St) (y0 : Int32) : Option (Int32 × q_St) := q_grd (q_isB y0) (some (y0, σ))
set_option maxHeartbeats 4000000 in
set_option maxRecDepth 100000 in
theorem k_Job_exists_12 {p : Program} {l : Launch} {e : Env} {s : State} {m : MethodId} {args : Array Value} {below : List Frame} {meth : Method} {c : Code} {D : va_G} {A : Nat → Prop} {ad : Nat → Nat} {cs : Nat → ClassId} (C0 : q_Cx "JobTerminal$Job" b_Job_exists 1 (some .boolean) w_Job_exists D vwCl (tyL cs) NW p s m args meth c) (hA : ∀ q, s.heap.size ≤ q → A q) {i : Nat} (hi : i < 4) (res : (Int32 × q_St)) : ∀ (σ : q_St) (y0 : Int32) , f_Job_exists_12 i σ y0 = some res → ∀ (H : Heap) (locs : List Loc), q_I D vwCl A s.heap (q_ws 33 ad (cC ad cs σ)) H locs → ∀ ls : Array Slot, q_has ls 1 [] → W p l e ({ frames := 0, cells := 0, slots := 0, locals := 0 } : Room) s m args below meth c H locs 0 0 (MQ below (q_Qi D vwCl res.1 (q_ws 33 ad (cC ad cs res.2)) A) args s 0 0 A) (F0 m 12 ls [.int y0]) := by
  intro σ y0 hf H locs I ls hl
  unfold f_Job_exists_12 at hf
  obtain ⟨hx, hb, hr, hml, hown, hts, hlocks, hK, hN⟩ := id C0
  have htg : ∀ w ∈ GW, w.before args s = true := fun w h => hts w (List.mem_cons_of_mem _ h)
  obtain ⟨o2, hf⟩ := q_grd_some hf
  cases hf
  exact q_zret hx hb hr hlocks o2 I d_Job_exists_12
def f_Job_exists (σ : q_St) (i : Nat) : Option (Int32 × q_St) := if (σ 28 i) < 0 then (f_Job_exists_12 i σ 0) else (f_Job_exists_12 i σ 1)
set_option maxHeartbeats 4000000 in
set_option maxRecDepth 100000 in
theorem c_Job_exists {l : Launch} {D : va_G} {ad : Nat → Nat} {cs : Nat → ClassId} {sz : Nat} {σ : q_St} {i : Nat} (hi : i < 4) {res : (Int32 × q_St)} (hf : f_Job_exists σ i  = some res) : Met l y_Job_exists w_Job_exists ({ frames := 0, cells := 0, slots := 0, locals := 0 } : Room) (q_Pre D vwCl (tyL cs) NW [.ref (ad (17 + i))] (q_ws 33 ad (cC ad cs σ)) sz) (q_Qi D vwCl res.1 (q_ws 33 ad (cC ad cs res.2)) (va_A (q_ws 33 ad (cC ad cs σ)) sz)) 0 0 (va_A (q_ws 33 ad (cC ad cs σ)) sz) := by
  refine Met.ofW (cc := b_Job_exists) (maxL := 1) (ret := (some .boolean)) (by decide) rfl ?_
  intro p e s m args below meth c s₁ B hml hv
  obtain ⟨hargs, hsz, hP, hK, hD0, hN⟩ := hv
  have hx := B.exec
  have hb := B.bytes
  have hr := B.returns
  have hts := atoms_spec (ws := w_Job_exists) B.pre
  have hown : s.vm.findClass "JobTerminal$Job" = some m.cls := findClass_of_methodNamed B.named
  have hlocks := B.notSynchronized
  have htg : ∀ w ∈ GW, w.before args s = true := fun w h => hts w (List.mem_cons_of_mem _ h)
  subst hsz
  have hD := hD0.self (sz := s.heap.size)
  generalize hAe : va_A (q_ws 33 ad (cC ad cs σ)) s.heap.size = A at hD ⊢
  have hA : ∀ q : Nat, s.heap.size ≤ q → A q := fun q h => by rw [← hAe]; exact Or.inr h
  have I : q_I D vwCl A s.heap (q_ws 33 ad (cC ad cs σ)) s.heap [] := ⟨hP, hD, va_S.rf⟩
  obtain ⟨ls, hen, hl⟩ := q_entry (vs := [.ref (ad (17 + i))]) (n := 1) (lv := [(0, .ref (ad (17 + i)))]) (by intro v hv; simp only [List.mem_cons, List.not_mem_nil, or_false] at hv; rcases hv with rfl <;> first | rfl | exact q_cat) (Nat.le_of_ble_eq_true rfl) rfl
  rw [show entryFrame m args 1 = F0 m 0 ls [] from by rw [hargs]; exact hen m]
  have C0 : q_Cx "JobTerminal$Job" b_Job_exists 1 (some .boolean) w_Job_exists D vwCl (tyL cs) NW p s m args meth c := ⟨hx, hb, hr, hml, hown, hts, hlocks, hK, hN⟩
  unfold f_Job_exists at hf
  have hgo : ∀ (H : Heap) (locs : List Loc), q_I D vwCl A s.heap (q_ws 33 ad (cC ad cs σ)) H locs → W p l e ({ frames := 0, cells := 0, slots := 0, locals := 0 } : Room) s m args below meth c H locs 0 0 (MQ below (q_Qi D vwCl res.1 (q_ws 33 ad (cC ad cs res.2)) A) args s 0 0 A) (F0 m 0 ls []) := by
    intro H locs I
    refine lv_aload_n hx hb d_Job_exists_0 rfl (q_at hl 0 rfl) ?_
    refine G_Job_Job_first hx hb htg hown hK hN I hi d_Job_exists_1 ?_
    refine q_ifnull (tgt := 11) hx hb d_Job_exists_4 (by decide) (fun c1 => ?_) (fun c1 => ?_)
    · rw [if_pos c1] at hf
      refine lv_iconst (v := 0) hx hb d_Job_exists_11 (by decide) ?_
      exact k_Job_exists_12 C0 hA hi res σ 0 hf H locs I ls (q_hsub hl [] rfl)
    · rw [if_neg c1] at hf
      refine lv_iconst (v := 1) hx hb d_Job_exists_7 (by decide) ?_
      refine lv_goto (tgt := 12) hx hb d_Job_exists_8 (by decide) ?_
      exact k_Job_exists_12 C0 hA hi res σ 1 hf H locs I ls (q_hsub hl [] rfl)
  exact hgo _ _ I
-- JobTerminal$JobProcess begin
def f_JobProcess_begin (σ : q_St) (i : Nat) (p1 : Int32) (p2 : Int32) : Option q_St := some (q_up (q_up (q_up (q_up (q_up (q_up (q_up (q_up (q_up (q_up σ 32 i p1) 33 i 1) 34 i p2) 35 i 0) 36 i 0) 37 i 0) 38 i 0) 39 i 0) 40 i 0) 41 i 0)
set_option maxHeartbeats 4000000 in
set_option maxRecDepth 100000 in
theorem c_JobProcess_begin {l : Launch} {D : va_G} {ad : Nat → Nat} {cs : Nat → ClassId} {sz : Nat} {σ : q_St} {i : Nat} (hi : i < 8) {p1 : Int32} {p2 : Int32} {res : q_St} (hf : f_JobProcess_begin σ i p1 p2 = some res) : Met l y_JobProcess_begin w_JobProcess_begin ({ frames := 0, cells := 0, slots := 0, locals := 0 } : Room) (q_Pre D vwCl (tyL cs) NW [.ref (ad (9 + i)), q_rv ad 17 p1, .int p2] (q_ws 33 ad (cC ad cs σ)) sz) (q_Qv D vwCl (q_ws 33 ad (cC ad cs res)) (va_A (q_ws 33 ad (cC ad cs σ)) sz)) 0 0 (va_A (q_ws 33 ad (cC ad cs σ)) sz) := by
  refine Met.ofW (cc := b_JobProcess_begin) (maxL := 3) (ret := none) (by decide) rfl ?_
  intro p e s m args below meth c s₁ B hml hv
  obtain ⟨hargs, hsz, hP, hK, hD0, hN⟩ := hv
  have hx := B.exec
  have hb := B.bytes
  have hr := B.returns
  have hts := atoms_spec (ws := w_JobProcess_begin) B.pre
  have hown : s.vm.findClass "JobTerminal$JobProcess" = some m.cls := findClass_of_methodNamed B.named
  have hlocks := B.notSynchronized
  have htg : ∀ w ∈ GW, w.before args s = true := fun w h => hts w (List.mem_cons_of_mem _ h)
  subst hsz
  have hD := hD0.self (sz := s.heap.size)
  generalize hAe : va_A (q_ws 33 ad (cC ad cs σ)) s.heap.size = A at hD ⊢
  have hA : ∀ q : Nat, s.heap.size ≤ q → A q := fun q h => by rw [← hAe]; exact Or.inr h
  have I : q_I D vwCl A s.heap (q_ws 33 ad (cC ad cs σ)) s.heap [] := ⟨hP, hD, va_S.rf⟩
  obtain ⟨ls, hen, hl⟩ := q_entry (vs := [.ref (ad (9 + i)), q_rv ad 17 p1, .int p2]) (n := 3) (lv := [(0, .ref (ad (9 + i))), (1, q_rv ad 17 p1), (2, .int p2)]) (by intro v hv; simp only [List.mem_cons, List.not_mem_nil, or_false] at hv; rcases hv with rfl | rfl | rfl <;> first | rfl | exact q_cat) (Nat.le_of_ble_eq_true rfl) rfl
  rw [show entryFrame m args 3 = F0 m 0 ls [] from by rw [hargs]; exact hen m]
  have C0 : q_Cx "JobTerminal$JobProcess" b_JobProcess_begin 3 none w_JobProcess_begin D vwCl (tyL cs) NW p s m args meth c := ⟨hx, hb, hr, hml, hown, hts, hlocks, hK, hN⟩
  unfold f_JobProcess_begin at hf
  have hgo : ∀ (H : Heap) (locs : List Loc), q_I D vwCl A s.heap (q_ws 33 ad (cC ad cs σ)) H locs → W p l e ({ frames := 0, cells := 0, slots := 0, locals := 0 } : Room) s m args below meth c H locs 0 0 (MQ below (q_Qv D vwCl (q_ws 33 ad (cC ad cs res)) A) args s 0 0 A) (F0 m 0 ls []) := by
    intro H locs I
    refine lv_aload_n hx hb d_JobProcess_begin_0 rfl (q_at hl 0 rfl) ?_
    refine q_aload_n hx hb d_JobProcess_begin_1 rfl (q_at hl 1 rfl) ?_
    refine P_JobProcess_JobProcess_owner hx hb htg hown hK hN I hi d_JobProcess_begin_2 (fun H locs I => ?_)
    refine lv_aload_n hx hb d_JobProcess_begin_5 rfl (q_at hl 0 rfl) ?_
    refine lv_iconst (v := 1) hx hb d_JobProcess_begin_6 (by decide) ?_
    refine P_JobProcess_JobProcess_state hx hb htg hown hK hN I hi d_JobProcess_begin_7 (fun H locs I => ?_)
    refine lv_aload_n hx hb d_JobProcess_begin_10 rfl (q_at hl 0 rfl) ?_
    refine lv_iload_n hx hb d_JobProcess_begin_11 rfl (q_at hl 2 rfl) ?_
    refine P_JobProcess_JobProcess_program hx hb htg hown hK hN I hi d_JobProcess_begin_12 (fun H locs I => ?_)
    refine lv_aload_n hx hb d_JobProcess_begin_15 rfl (q_at hl 0 rfl) ?_
    refine lv_iconst (v := 0) hx hb d_JobProcess_begin_16 (by decide) ?_
    refine P_JobProcess_JobProcess_line hx hb htg hown hK hN I hi d_JobProcess_begin_17 (fun H locs I => ?_)
    refine lv_aload_n hx hb d_JobProcess_begin_20 rfl (q_at hl 0 rfl) ?_
    refine lv_iconst (v := 0) hx hb d_JobProcess_begin_21 (by decide) ?_
    refine P_JobProcess_JobProcess_register hx hb htg hown hK hN I hi d_JobProcess_begin_22 (fun H locs I => ?_)
    refine lv_aload_n hx hb d_JobProcess_begin_25 rfl (q_at hl 0 rfl) ?_
    refine lv_iconst (v := 0) hx hb d_JobProcess_begin_26 (by decide) ?_
    refine P_JobProcess_JobProcess_code hx hb htg hown hK hN I hi d_JobProcess_begin_27 (fun H locs I => ?_)
    refine lv_aload_n hx hb d_JobProcess_begin_30 rfl (q_at hl 0 rfl) ?_
    refine lv_iconst (v := 0) hx hb d_JobProcess_begin_31 (by decide) ?_
    refine P_JobProcess_JobProcess_pending hx hb htg hown hK hN I hi d_JobProcess_begin_32 (fun H locs I => ?_)
    refine lv_aload_n hx hb d_JobProcess_begin_35 rfl (q_at hl 0 rfl) ?_
    refine lv_iconst (v := 0) hx hb d_JobProcess_begin_36 (by decide) ?_
    refine P_JobProcess_JobProcess_blocked hx hb htg hown hK hN I hi d_JobProcess_begin_37 (fun H locs I => ?_)
    refine lv_aload_n hx hb d_JobProcess_begin_40 rfl (q_at hl 0 rfl) ?_
    refine lv_iconst (v := 0) hx hb d_JobProcess_begin_41 (by decide) ?_
    refine P_JobProcess_JobProcess_ignored hx hb htg hown hK hN I hi d_JobProcess_begin_42 (fun H locs I => ?_)
    refine lv_aload_n hx hb d_JobProcess_begin_45 rfl (q_at hl 0 rfl) ?_
    refine lv_iconst (v := 0) hx hb d_JobProcess_begin_46 (by decide) ?_
    refine P_JobProcess_JobProcess_nap hx hb htg hown hK hN I hi d_JobProcess_begin_47 (fun H locs I => ?_)
    cases hf
    exact q_vret hx hb hr hlocks I d_JobProcess_begin_50
  exact hgo _ _ I
-- JobTerminal$Job begin
def f_Job_begin (σ : q_St) (i : Nat) (p1 : Int32) (p2 : Int32) : Option q_St := q_bnd (f_NumberRow_clear (q_up (q_up σ 28 i p1) 29 i p2) (2 + i)) (fun r1 => some (q_up (q_up r1 30 i 0) 31 i 1))
set_option maxHeartbeats 4000000 in
set_option maxRecDepth 100000 in
theorem c_Job_begin {l : Launch} {D : va_G} {ad : Nat → Nat} {cs : Nat → ClassId} {sz : Nat} {σ : q_St} {i : Nat} (hi : i < 4) {p1 : Int32} {p2 : Int32} {res : q_St} (hf : f_Job_begin σ i p1 p2 = some res) : Met l y_Job_begin w_Job_begin ({ frames := 1, cells := 0, slots := 0, locals := 20 } : Room) (q_Pre D vwCl (tyL cs) NW [.ref (ad (17 + i)), q_rv ad 9 p1, q_rv ad 9 p2] (q_ws 33 ad (cC ad cs σ)) sz) (q_Qv D vwCl (q_ws 33 ad (cC ad cs res)) (va_A (q_ws 33 ad (cC ad cs σ)) sz)) 0 0 (va_A (q_ws 33 ad (cC ad cs σ)) sz) := by
  refine Met.ofW (cc := b_Job_begin) (maxL := 3) (ret := none) (by decide) rfl ?_
  intro p e s m args below meth c s₁ B hml hv
  obtain ⟨hargs, hsz, hP, hK, hD0, hN⟩ := hv
  have hx := B.exec
  have hb := B.bytes
  have hr := B.returns
  have hts := atoms_spec (ws := w_Job_begin) B.pre
  have hown : s.vm.findClass "JobTerminal$Job" = some m.cls := findClass_of_methodNamed B.named
  have hlocks := B.notSynchronized
  have htg : ∀ w ∈ GW, w.before args s = true := fun w h => hts w (List.mem_cons_of_mem _ h)
  subst hsz
  have hD := hD0.self (sz := s.heap.size)
  generalize hAe : va_A (q_ws 33 ad (cC ad cs σ)) s.heap.size = A at hD ⊢
  have hA : ∀ q : Nat, s.heap.size ≤ q → A q := fun q h => by rw [← hAe]; exact Or.inr h
  have I : q_I D vwCl A s.heap (q_ws 33 ad (cC ad cs σ)) s.heap [] := ⟨hP, hD, va_S.rf⟩
  obtain ⟨ls, hen, hl⟩ := q_entry (vs := [.ref (ad (17 + i)), q_rv ad 9 p1, q_rv ad 9 p2]) (n := 3) (lv := [(0, .ref (ad (17 + i))), (1, q_rv ad 9 p1), (2, q_rv ad 9 p2)]) (by intro v hv; simp only [List.mem_cons, List.not_mem_nil, or_false] at hv; rcases hv with rfl | rfl | rfl <;> first | rfl | exact q_cat) (Nat.le_of_ble_eq_true rfl) rfl
  rw [show entryFrame m args 3 = F0 m 0 ls [] from by rw [hargs]; exact hen m]
  have C0 : q_Cx "JobTerminal$Job" b_Job_begin 3 none w_Job_begin D vwCl (tyL cs) NW p s m args meth c := ⟨hx, hb, hr, hml, hown, hts, hlocks, hK, hN⟩
  unfold f_Job_begin at hf
  have hgo : ∀ (H : Heap) (locs : List Loc), q_I D vwCl A s.heap (q_ws 33 ad (cC ad cs σ)) H locs → W p l e ({ frames := 1, cells := 0, slots := 0, locals := 20 } : Room) s m args below meth c H locs 0 0 (MQ below (q_Qv D vwCl (q_ws 33 ad (cC ad cs res)) A) args s 0 0 A) (F0 m 0 ls []) := by
    intro H locs I
    refine lv_aload_n hx hb d_Job_begin_0 rfl (q_at hl 0 rfl) ?_
    refine q_aload_n hx hb d_Job_begin_1 rfl (q_at hl 1 rfl) ?_
    refine P_Job_Job_first hx hb htg hown hK hN I hi d_Job_begin_2 (fun H locs I => ?_)
    refine lv_aload_n hx hb d_Job_begin_5 rfl (q_at hl 0 rfl) ?_
    refine q_aload_n hx hb d_Job_begin_6 rfl (q_at hl 2 rfl) ?_
    refine P_Job_Job_second hx hb htg hown hK hN I hi d_Job_begin_7 (fun H locs I => ?_)
    refine lv_aload_n hx hb d_Job_begin_10 rfl (q_at hl 0 rfl) ?_
    refine G_Job_Job_pipe hx hb htg hown hK hN I hi d_Job_begin_11 ?_
    obtain ⟨r1, e2, hf⟩ := q_bnd_some hf
    refine q_kv hA I (q_runV (C := "JobTerminal$NumberRow") (As := []) (rest := []) ⟨hx, hb, hml, hown, hts⟩ (c_NumberRow_clear (sz := H.size) (show (2 + i) < 6 by skip; omega) e2) (cwV 0 hts (q_goodV mw167 mw213 mw169 mw170 mw88) rfl rfl rfl (by decide +kernel) ⟨Nat.le_of_ble_eq_true rfl, Nat.le_of_ble_eq_true rfl⟩) NW_ok hK hN I rfl (q_wsE (Nat.lt_of_lt_of_le (Nat.add_lt_add_left (show (2 + i) < 6 by skip; omega) _) (by decide)) (a_C_NumberRow (show (2 + i) < 6 by skip; omega))) rfl (q_sz hl) rfl (Nat.le_of_ble_eq_true rfl) d_Job_begin_14 ⟨Nat.zero_le _, Nat.zero_le _⟩) (fun H locs I => ?_)
    refine lv_aload_n hx hb d_Job_begin_17 rfl (q_at hl 0 rfl) ?_
    refine lv_iconst (v := 0) hx hb d_Job_begin_18 (by decide) ?_
    refine P_Job_Job_untold hx hb htg hown hK hN I hi (by decide) d_Job_begin_19 (fun H locs I => ?_)
    refine lv_aload_n hx hb d_Job_begin_22 rfl (q_at hl 0 rfl) ?_
    refine lv_iconst (v := 1) hx hb d_Job_begin_23 (by decide) ?_
    refine P_Job_Job_settledState hx hb htg hown hK hN I hi d_Job_begin_24 (fun H locs I => ?_)
    cases hf
    exact q_vret hx hb hr hlocks I d_Job_begin_27
  exact hgo _ _ I
-- JobTerminal$JobProcess vanish
def f_JobProcess_vanish (σ : q_St) (i : Nat) : Option q_St := some (q_up (q_up σ 32 i (-1)) 33 i 0)
set_option maxHeartbeats 4000000 in
set_option maxRecDepth 100000 in
theorem c_JobProcess_vanish {l : Launch} {D : va_G} {ad : Nat → Nat} {cs : Nat → ClassId} {sz : Nat} {σ : q_St} {i : Nat} (hi : i < 8) {res : q_St} (hf : f_JobProcess_vanish σ i  = some res) : Met l y_JobProcess_vanish w_JobProcess_vanish ({ frames := 0, cells := 0, slots := 0, locals := 0 } : Room) (q_Pre D vwCl (tyL cs) NW [.ref (ad (9 + i))] (q_ws 33 ad (cC ad cs σ)) sz) (q_Qv D vwCl (q_ws 33 ad (cC ad cs res)) (va_A (q_ws 33 ad (cC ad cs σ)) sz)) 0 0 (va_A (q_ws 33 ad (cC ad cs σ)) sz) := by
  refine Met.ofW (cc := b_JobProcess_vanish) (maxL := 1) (ret := none) (by decide) rfl ?_
  intro p e s m args below meth c s₁ B hml hv
  obtain ⟨hargs, hsz, hP, hK, hD0, hN⟩ := hv
  have hx := B.exec
  have hb := B.bytes
  have hr := B.returns
  have hts := atoms_spec (ws := w_JobProcess_vanish) B.pre
  have hown : s.vm.findClass "JobTerminal$JobProcess" = some m.cls := findClass_of_methodNamed B.named
  have hlocks := B.notSynchronized
  have htg : ∀ w ∈ GW, w.before args s = true := fun w h => hts w (List.mem_cons_of_mem _ h)
  subst hsz
  have hD := hD0.self (sz := s.heap.size)
  generalize hAe : va_A (q_ws 33 ad (cC ad cs σ)) s.heap.size = A at hD ⊢
  have hA : ∀ q : Nat, s.heap.size ≤ q → A q := fun q h => by rw [← hAe]; exact Or.inr h
  have I : q_I D vwCl A s.heap (q_ws 33 ad (cC ad cs σ)) s.heap [] := ⟨hP, hD, va_S.rf⟩
  obtain ⟨ls, hen, hl⟩ := q_entry (vs := [.ref (ad (9 + i))]) (n := 1) (lv := [(0, .ref (ad (9 + i)))]) (by intro v hv; simp only [List.mem_cons, List.not_mem_nil, or_false] at hv; rcases hv with rfl <;> first | rfl | exact q_cat) (Nat.le_of_ble_eq_true rfl) rfl
  rw [show entryFrame m args 1 = F0 m 0 ls [] from by rw [hargs]; exact hen m]
  have C0 : q_Cx "JobTerminal$JobProcess" b_JobProcess_vanish 1 none w_JobProcess_vanish D vwCl (tyL cs) NW p s m args meth c := ⟨hx, hb, hr, hml, hown, hts, hlocks, hK, hN⟩
  unfold f_JobProcess_vanish at hf
  have hgo : ∀ (H : Heap) (locs : List Loc), q_I D vwCl A s.heap (q_ws 33 ad (cC ad cs σ)) H locs → W p l e ({ frames := 0, cells := 0, slots := 0, locals := 0 } : Room) s m args below meth c H locs 0 0 (MQ below (q_Qv D vwCl (q_ws 33 ad (cC ad cs res)) A) args s 0 0 A) (F0 m 0 ls []) := by
    intro H locs I
    refine lv_aload_n hx hb d_JobProcess_vanish_0 rfl (q_at hl 0 rfl) ?_
    refine q_null (ad := ad) hx hb 17 d_JobProcess_vanish_1 ?_
    refine P_JobProcess_JobProcess_owner hx hb htg hown hK hN I hi d_JobProcess_vanish_2 (fun H locs I => ?_)
    refine lv_aload_n hx hb d_JobProcess_vanish_5 rfl (q_at hl 0 rfl) ?_
    refine lv_iconst (v := 0) hx hb d_JobProcess_vanish_6 (by decide) ?_
    refine P_JobProcess_JobProcess_state hx hb htg hown hK hN I hi d_JobProcess_vanish_7 (fun H locs I => ?_)
    cases hf
    exact q_vret hx hb hr hlocks I d_JobProcess_vanish_10
  exact hgo _ _ I
-- JobTerminal$Job vanish
def f_Job_vanish_28 (i : Nat) (σ : q_St) : Option q_St := some (q_up (q_up (q_up σ 28 i (-1)) 29 i (-1)) 31 i (-1))
set_option maxHeartbeats 4000000 in
set_option maxRecDepth 100000 in
theorem k_Job_vanish_28 {p : Program} {l : Launch} {e : Env} {s : State} {m : MethodId} {args : Array Value} {below : List Frame} {meth : Method} {c : Code} {D : va_G} {A : Nat → Prop} {ad : Nat → Nat} {cs : Nat → ClassId} (C0 : q_Cx "JobTerminal$Job" b_Job_vanish 1 none w_Job_vanish D vwCl (tyL cs) NW p s m args meth c) (hA : ∀ q, s.heap.size ≤ q → A q) {i : Nat} (hi : i < 4) (res : q_St) : ∀ (σ : q_St) , f_Job_vanish_28 i σ  = some res → ∀ (H : Heap) (locs : List Loc), q_I D vwCl A s.heap (q_ws 33 ad (cC ad cs σ)) H locs → ∀ ls : Array Slot, q_has ls 1 [(0, .ref (ad (17 + i)))] → W p l e ({ frames := 1, cells := 0, slots := 0, locals := 20 } : Room) s m args below meth c H locs 0 0 (MQ below (q_Qv D vwCl (q_ws 33 ad (cC ad cs res)) A) args s 0 0 A) (F0 m 28 ls []) := by
  intro σ  hf H locs I ls hl
  unfold f_Job_vanish_28 at hf
  obtain ⟨hx, hb, hr, hml, hown, hts, hlocks, hK, hN⟩ := id C0
  have htg : ∀ w ∈ GW, w.before args s = true := fun w h => hts w (List.mem_cons_of_mem _ h)
  refine lv_aload_n hx hb d_Job_vanish_28 rfl (q_at hl 0 rfl) ?_
  refine q_null (ad := ad) hx hb 9 d_Job_vanish_29 ?_
  refine P_Job_Job_first hx hb htg hown hK hN I hi d_Job_vanish_30 (fun H locs I => ?_)
  refine lv_aload_n hx hb d_Job_vanish_33 rfl (q_at hl 0 rfl) ?_
  refine q_null (ad := ad) hx hb 9 d_Job_vanish_34 ?_
  refine P_Job_Job_second hx hb htg hown hK hN I hi d_Job_vanish_35 (fun H locs I => ?_)
  refine lv_aload_n hx hb d_Job_vanish_38 rfl (q_at hl 0 rfl) ?_
  refine lv_iconst (v := -1) hx hb d_Job_vanish_39 (by decide) ?_
  refine P_Job_Job_settledState hx hb htg hown hK hN I hi d_Job_vanish_40 (fun H locs I => ?_)
  cases hf
  exact q_vret hx hb hr hlocks I d_Job_vanish_43
def f_Job_vanish_14 (i : Nat) (σ : q_St) : Option q_St := if (σ 29 i) < 0 then (f_Job_vanish_28 i σ) else (q_grd (q_in (σ 29 i) 8) (q_bnd (f_JobProcess_vanish σ ((σ 29 i).toNatClampNeg)) (fun r7 => f_Job_vanish_28 i r7)))
set_option maxHeartbeats 4000000 in
set_option maxRecDepth 100000 in
theorem k_Job_vanish_14 {p : Program} {l : Launch} {e : Env} {s : State} {m : MethodId} {args : Array Value} {below : List Frame} {meth : Method} {c : Code} {D : va_G} {A : Nat → Prop} {ad : Nat → Nat} {cs : Nat → ClassId} (C0 : q_Cx "JobTerminal$Job" b_Job_vanish 1 none w_Job_vanish D vwCl (tyL cs) NW p s m args meth c) (hA : ∀ q, s.heap.size ≤ q → A q) {i : Nat} (hi : i < 4) (res : q_St) : ∀ (σ : q_St) , f_Job_vanish_14 i σ  = some res → ∀ (H : Heap) (locs : List Loc), q_I D vwCl A s.heap (q_ws 33 ad (cC ad cs σ)) H locs → ∀ ls : Array Slot, q_has ls 1 [(0, .ref (ad (17 + i)))] → W p l e ({ frames := 1, cells := 0, slots := 0, locals := 20 } : Room) s m args below meth c H locs 0 0 (MQ below (q_Qv D vwCl (q_ws 33 ad (cC ad cs res)) A) args s 0 0 A) (F0 m 14 ls []) := by
  intro σ  hf H locs I ls hl
  unfold f_Job_vanish_14 at hf
  obtain ⟨hx, hb, hr, hml, hown, hts, hlocks, hK, hN⟩ := id C0
  have htg : ∀ w ∈ GW, w.before args s = true := fun w h => hts w (List.mem_cons_of_mem _ h)
  refine lv_aload_n hx hb d_Job_vanish_14 rfl (q_at hl 0 rfl) ?_
  refine G_Job_Job_second hx hb htg hown hK hN I hi d_Job_vanish_15 ?_
  refine q_ifnull (tgt := 28) hx hb d_Job_vanish_18 (by decide) (fun c5 => ?_) (fun c5 => ?_)
  · rw [if_pos c5] at hf
    exact k_Job_vanish_28 C0 hA hi res σ hf H locs I ls (q_hsub hl [0] rfl)
  · rw [if_neg c5] at hf
    refine lv_aload_n hx hb d_Job_vanish_21 rfl (q_at hl 0 rfl) ?_
    refine G_Job_Job_second hx hb htg hown hK hN I hi d_Job_vanish_22 ?_
    obtain ⟨o6, hf⟩ := q_grd_some hf
    rw [q_rv_ref (q_in_pos o6)]
    obtain ⟨r7, e8, hf⟩ := q_bnd_some hf
    refine q_kv hA I (q_runV (C := "JobTerminal$JobProcess") (As := []) (rest := []) ⟨hx, hb, hml, hown, hts⟩ (c_JobProcess_vanish (sz := H.size) (q_in_lt o6) e8) (cwV 0 hts (q_goodV mw222 mw223 mw224 mw225 mw158) rfl rfl rfl (by decide +kernel) ⟨Nat.le_of_ble_eq_true rfl, Nat.le_of_ble_eq_true rfl⟩) NW_ok hK hN I rfl (q_wsE (Nat.lt_of_lt_of_le (Nat.add_lt_add_left (q_in_lt o6) _) (by decide)) (a_C_JobProcess (q_in_lt o6))) rfl (q_sz hl) rfl (Nat.le_of_ble_eq_true rfl) d_Job_vanish_25 ⟨Nat.zero_le _, Nat.zero_le _⟩) (fun H locs I => ?_)
    exact k_Job_vanish_28 C0 hA hi res r7 hf H locs I ls (q_hsub hl [0] rfl)
def f_Job_vanish (σ : q_St) (i : Nat) : Option q_St := if (σ 28 i) < 0 then (f_Job_vanish_14 i σ) else (q_grd (q_in (σ 28 i) 8) (q_bnd (f_JobProcess_vanish σ ((σ 28 i).toNatClampNeg)) (fun r3 => f_Job_vanish_14 i r3)))
set_option maxHeartbeats 4000000 in
set_option maxRecDepth 100000 in
theorem c_Job_vanish {l : Launch} {D : va_G} {ad : Nat → Nat} {cs : Nat → ClassId} {sz : Nat} {σ : q_St} {i : Nat} (hi : i < 4) {res : q_St} (hf : f_Job_vanish σ i  = some res) : Met l y_Job_vanish w_Job_vanish ({ frames := 1, cells := 0, slots := 0, locals := 20 } : Room) (q_Pre D vwCl (tyL cs) NW [.ref (ad (17 + i))] (q_ws 33 ad (cC ad cs σ)) sz) (q_Qv D vwCl (q_ws 33 ad (cC ad cs res)) (va_A (q_ws 33 ad (cC ad cs σ)) sz)) 0 0 (va_A (q_ws 33 ad (cC ad cs σ)) sz) := by
  refine Met.ofW (cc := b_Job_vanish) (maxL := 1) (ret := none) (by decide) rfl ?_
  intro p e s m args below meth c s₁ B hml hv
  obtain ⟨hargs, hsz, hP, hK, hD0, hN⟩ := hv
  have hx := B.exec
  have hb := B.bytes
  have hr := B.returns
  have hts := atoms_spec (ws := w_Job_vanish) B.pre
  have hown : s.vm.findClass "JobTerminal$Job" = some m.cls := findClass_of_methodNamed B.named
  have hlocks := B.notSynchronized
  have htg : ∀ w ∈ GW, w.before args s = true := fun w h => hts w (List.mem_cons_of_mem _ h)
  subst hsz
  have hD := hD0.self (sz := s.heap.size)
  generalize hAe : va_A (q_ws 33 ad (cC ad cs σ)) s.heap.size = A at hD ⊢
  have hA : ∀ q : Nat, s.heap.size ≤ q → A q := fun q h => by rw [← hAe]; exact Or.inr h
  have I : q_I D vwCl A s.heap (q_ws 33 ad (cC ad cs σ)) s.heap [] := ⟨hP, hD, va_S.rf⟩
  obtain ⟨ls, hen, hl⟩ := q_entry (vs := [.ref (ad (17 + i))]) (n := 1) (lv := [(0, .ref (ad (17 + i)))]) (by intro v hv; simp only [List.mem_cons, List.not_mem_nil, or_false] at hv; rcases hv with rfl <;> first | rfl | exact q_cat) (Nat.le_of_ble_eq_true rfl) rfl
  rw [show entryFrame m args 1 = F0 m 0 ls [] from by rw [hargs]; exact hen m]
  have C0 : q_Cx "JobTerminal$Job" b_Job_vanish 1 none w_Job_vanish D vwCl (tyL cs) NW p s m args meth c := ⟨hx, hb, hr, hml, hown, hts, hlocks, hK, hN⟩
  unfold f_Job_vanish at hf
  have hgo : ∀ (H : Heap) (locs : List Loc), q_I D vwCl A s.heap (q_ws 33 ad (cC ad cs σ)) H locs → W p l e ({ frames := 1, cells := 0, slots := 0, locals := 20 } : Room) s m args below meth c H locs 0 0 (MQ below (q_Qv D vwCl (q_ws 33 ad (cC ad cs res)) A) args s 0 0 A) (F0 m 0 ls []) := by
    intro H locs I
    refine lv_aload_n hx hb d_Job_vanish_0 rfl (q_at hl 0 rfl) ?_
    refine G_Job_Job_first hx hb htg hown hK hN I hi d_Job_vanish_1 ?_
    refine q_ifnull (tgt := 14) hx hb d_Job_vanish_4 (by decide) (fun c1 => ?_) (fun c1 => ?_)
    · rw [if_pos c1] at hf
      exact k_Job_vanish_14 C0 hA hi res σ hf H locs I ls (q_hsub hl [0] rfl)
    · rw [if_neg c1] at hf
      refine lv_aload_n hx hb d_Job_vanish_7 rfl (q_at hl 0 rfl) ?_
      refine G_Job_Job_first hx hb htg hown hK hN I hi d_Job_vanish_8 ?_
      obtain ⟨o2, hf⟩ := q_grd_some hf
      rw [q_rv_ref (q_in_pos o2)]
      obtain ⟨r3, e4, hf⟩ := q_bnd_some hf
      refine q_kv hA I (q_runV (C := "JobTerminal$JobProcess") (As := []) (rest := []) ⟨hx, hb, hml, hown, hts⟩ (c_JobProcess_vanish (sz := H.size) (q_in_lt o2) e4) (cwV 0 hts (q_goodV mw222 mw223 mw224 mw225 mw158) rfl rfl rfl (by decide +kernel) ⟨Nat.le_of_ble_eq_true rfl, Nat.le_of_ble_eq_true rfl⟩) NW_ok hK hN I rfl (q_wsE (Nat.lt_of_lt_of_le (Nat.add_lt_add_left (q_in_lt o2) _) (by decide)) (a_C_JobProcess (q_in_lt o2))) rfl (q_sz hl) rfl (Nat.le_of_ble_eq_true rfl) d_Job_vanish_11 ⟨Nat.zero_le _, Nat.zero_le _⟩) (fun H locs I => ?_)
      exact k_Job_vanish_14 C0 hA hi res r3 hf H locs I ls (q_hsub hl [0] rfl)
  exact hgo _ _ I
-- JobTerminal$Programs opAt
def f_Programs_opAt_43 (σ : q_St) (y0 : Int32) : Option (Int32 × q_St) := some (y0, σ)
set_option maxHeartbeats 4000000 in
set_option maxRecDepth 100000 in
theorem k_Programs_opAt_43 {p : Program} {l : Launch} {e : Env} {s : State} {m : MethodId} {args : Array Value} {below : List Frame} {meth : Method} {c : Code} {D : va_G} {A : Nat → Prop} {ad : Nat → Nat} {cs : Nat → ClassId} (C0 : q_Cx "JobTerminal$Programs" b_Programs_opAt 4 (some .int) w_Programs_opAt D vwCl (tyL cs) NW p s m args meth c) (hA : ∀ q, s.heap.size ≤ q → A q) (res : (Int32 × q_St)) : ∀ (σ : q_St) (y0 : Int32) , f_Programs_opAt_43 σ y0 = some res → ∀ (H : Heap) (locs : List Loc), q_I D vwCl A s.heap (q_ws 33 ad (cC ad cs σ)) H locs → ∀ ls : Array Slot, q_has ls 4 [] → W p l e ({ frames := 1, cells := 0, slots := 0, locals := 20 } : Room) s m args below meth c H locs 0 0 (MQ below (q_Qi D vwCl res.1 (q_ws 33 ad (cC ad cs res.2)) A) args s 0 0 A) (F0 m 43 ls [.int y0]) := by
  intro σ y0 hf H locs I ls hl
  unfold f_Programs_opAt_43 at hf
  obtain ⟨hx, hb, hr, hml, hown, hts, hlocks, hK, hN⟩ := id C0
  have htg : ∀ w ∈ GW, w.before args s = true := fun w h => hts w (List.mem_cons_of_mem _ h)
  cases hf
  exact q_iret hx hb hr hlocks I d_Programs_opAt_43
def f_Programs_opAt_38 (σ : q_St) : Option (Int32 × q_St) := f_Programs_opAt_43 σ 0
set_option maxHeartbeats 4000000 in
set_option maxRecDepth 100000 in
theorem k_Programs_opAt_38 {p : Program} {l : Launch} {e : Env} {s : State} {m : MethodId} {args : Array Value} {below : List Frame} {meth : Method} {c : Code} {D : va_G} {A : Nat → Prop} {ad : Nat → Nat} {cs : Nat → ClassId} (C0 : q_Cx "JobTerminal$Programs" b_Programs_opAt 4 (some .int) w_Programs_opAt D vwCl (tyL cs) NW p s m args meth c) (hA : ∀ q, s.heap.size ≤ q → A q) (res : (Int32 × q_St)) : ∀ (σ : q_St) , f_Programs_opAt_38 σ  = some res → ∀ (H : Heap) (locs : List Loc), q_I D vwCl A s.heap (q_ws 33 ad (cC ad cs σ)) H locs → ∀ ls : Array Slot, q_has ls 4 [] → W p l e ({ frames := 1, cells := 0, slots := 0, locals := 20 } : Room) s m args below meth c H locs 0 0 (MQ below (q_Qi D vwCl res.1 (q_ws 33 ad (cC ad cs res.2)) A) args s 0 0 A) (F0 m 38 ls []) := by
  intro σ  hf H locs I ls hl
  unfold f_Programs_opAt_38 at hf
  obtain ⟨hx, hb, hr, hml, hown, hts, hlocks, hK, hN⟩ := id C0
  have htg : ∀ w ∈ GW, w.before args s = true := fun w h => hts w (List.mem_cons_of_mem _ h)
  refine lv_iconst (v := 0) hx hb d_Programs_opAt_38 (by decide) ?_
  refine lv_goto (tgt := 43) hx hb d_Programs_opAt_39 (by decide) ?_
  exact k_Programs_opAt_43 C0 hA res σ 0 hf H locs I ls (q_hsub hl [] rfl)
def f_Programs_opAt_14 (σ : q_St) : Option (Int32 × q_St) := some (0, σ)
set_option maxHeartbeats 4000000 in
set_option maxRecDepth 100000 in
theorem k_Programs_opAt_14 {p : Program} {l : Launch} {e : Env} {s : State} {m : MethodId} {args : Array Value} {below : List Frame} {meth : Method} {c : Code} {D : va_G} {A : Nat → Prop} {ad : Nat → Nat} {cs : Nat → ClassId} (C0 : q_Cx "JobTerminal$Programs" b_Programs_opAt 4 (some .int) w_Programs_opAt D vwCl (tyL cs) NW p s m args meth c) (hA : ∀ q, s.heap.size ≤ q → A q) (res : (Int32 × q_St)) : ∀ (σ : q_St) , f_Programs_opAt_14 σ  = some res → ∀ (H : Heap) (locs : List Loc), q_I D vwCl A s.heap (q_ws 33 ad (cC ad cs σ)) H locs → ∀ ls : Array Slot, q_has ls 4 [] → W p l e ({ frames := 1, cells := 0, slots := 0, locals := 20 } : Room) s m args below meth c H locs 0 0 (MQ below (q_Qi D vwCl res.1 (q_ws 33 ad (cC ad cs res.2)) A) args s 0 0 A) (F0 m 14 ls []) := by
  intro σ  hf H locs I ls hl
  unfold f_Programs_opAt_14 at hf
  obtain ⟨hx, hb, hr, hml, hown, hts, hlocks, hK, hN⟩ := id C0
  have htg : ∀ w ∈ GW, w.before args s = true := fun w h => hts w (List.mem_cons_of_mem _ h)
  refine lv_iconst (v := 0) hx hb d_Programs_opAt_14 (by decide) ?_
  cases hf
  exact q_iret hx hb hr hlocks I d_Programs_opAt_15
def f_Programs_opAt (σ : q_St) (p1 : Int32) (p2 : Int32) : Option (Int32 × q_St) := q_bnd (f_Programs_hasProgram σ p1) (fun r1 => if r1.1 = 0 then (f_Programs_opAt_14 r1.2) else (q_bnd (f_Programs_hasLine r1.2 p2) (fun r4 => if r4.1 = 0 then (f_Programs_opAt_14 r4.2) else (q_grd (q_in ((p1 * 16) + p2) 64) (if (r4.2 0 ((p1 * 16) + p2).toNatClampNeg) < 0 then (f_Programs_opAt_38 r4.2) else (if (r4.2 0 ((p1 * 16) + p2).toNatClampNeg) ≤ 11 then (f_Programs_opAt_43 r4.2 (r4.2 0 ((p1 * 16) + p2).toNatClampNeg)) else (f_Programs_opAt_38 r4.2)))))))
set_option maxHeartbeats 4000000 in
set_option maxRecDepth 100000 in
theorem c_Programs_opAt {l : Launch} {D : va_G} {ad : Nat → Nat} {cs : Nat → ClassId} {sz : Nat} {σ : q_St} {p1 : Int32} {p2 : Int32} {res : (Int32 × q_St)} (hf : f_Programs_opAt σ p1 p2 = some res) : Met l y_Programs_opAt w_Programs_opAt ({ frames := 1, cells := 0, slots := 0, locals := 20 } : Room) (q_Pre D vwCl (tyL cs) NW [.ref (ad 1), .int p1, .int p2] (q_ws 33 ad (cC ad cs σ)) sz) (q_Qi D vwCl res.1 (q_ws 33 ad (cC ad cs res.2)) (va_A (q_ws 33 ad (cC ad cs σ)) sz)) 0 0 (va_A (q_ws 33 ad (cC ad cs σ)) sz) := by
  refine Met.ofW (cc := b_Programs_opAt) (maxL := 4) (ret := (some .int)) (by decide) rfl ?_
  intro p e s m args below meth c s₁ B hml hv
  obtain ⟨hargs, hsz, hP, hK, hD0, hN⟩ := hv
  have hx := B.exec
  have hb := B.bytes
  have hr := B.returns
  have hts := atoms_spec (ws := w_Programs_opAt) B.pre
  have hown : s.vm.findClass "JobTerminal$Programs" = some m.cls := findClass_of_methodNamed B.named
  have hlocks := B.notSynchronized
  have htg : ∀ w ∈ GW, w.before args s = true := fun w h => hts w (List.mem_cons_of_mem _ h)
  subst hsz
  have hD := hD0.self (sz := s.heap.size)
  generalize hAe : va_A (q_ws 33 ad (cC ad cs σ)) s.heap.size = A at hD ⊢
  have hA : ∀ q : Nat, s.heap.size ≤ q → A q := fun q h => by rw [← hAe]; exact Or.inr h
  have I : q_I D vwCl A s.heap (q_ws 33 ad (cC ad cs σ)) s.heap [] := ⟨hP, hD, va_S.rf⟩
  obtain ⟨ls, hen, hl⟩ := q_entry (vs := [.ref (ad 1), .int p1, .int p2]) (n := 4) (lv := [(0, .ref (ad 1)), (1, .int p1), (2, .int p2)]) (by intro v hv; simp only [List.mem_cons, List.not_mem_nil, or_false] at hv; rcases hv with rfl | rfl | rfl <;> first | rfl | exact q_cat) (Nat.le_of_ble_eq_true rfl) rfl
  rw [show entryFrame m args 4 = F0 m 0 ls [] from by rw [hargs]; exact hen m]
  have C0 : q_Cx "JobTerminal$Programs" b_Programs_opAt 4 (some .int) w_Programs_opAt D vwCl (tyL cs) NW p s m args meth c := ⟨hx, hb, hr, hml, hown, hts, hlocks, hK, hN⟩
  unfold f_Programs_opAt at hf
  have hgo : ∀ (H : Heap) (locs : List Loc), q_I D vwCl A s.heap (q_ws 33 ad (cC ad cs σ)) H locs → W p l e ({ frames := 1, cells := 0, slots := 0, locals := 20 } : Room) s m args below meth c H locs 0 0 (MQ below (q_Qi D vwCl res.1 (q_ws 33 ad (cC ad cs res.2)) A) args s 0 0 A) (F0 m 0 ls []) := by
    intro H locs I
    refine lv_iload_n hx hb d_Programs_opAt_0 rfl (q_at hl 1 rfl) ?_
    obtain ⟨r1, e2, hf⟩ := q_bnd_some hf
    refine q_ki hA I (q_runS (As := [.int p1]) (rest := []) ⟨hx, hb, hml, hown, hts⟩ (c_Programs_hasProgram (sz := H.size) e2) (va_cwS 1 hts (q_goodS mw66 mw67 mw68 mw69) rfl rfl rfl (by decide +kernel) ⟨Nat.le_of_ble_eq_true rfl, Nat.le_of_ble_eq_true rfl⟩) NW_ok hK hN I rfl (q_sz hl) rfl (Nat.le_of_ble_eq_true rfl) d_Programs_opAt_1 ⟨Nat.zero_le _, Nat.zero_le _⟩) (fun H locs I => ?_)
    refine lv_if_eq (tgt := 14) hx hb d_Programs_opAt_4 (by decide) (fun c3 => ?_) (fun c3 => ?_)
    · rw [if_pos c3] at hf
      exact k_Programs_opAt_14 C0 hA res r1.2 hf H locs I ls (q_hsub hl [] rfl)
    · rw [if_neg c3] at hf
      refine lv_iload_n hx hb d_Programs_opAt_7 rfl (q_at hl 2 rfl) ?_
      obtain ⟨r4, e5, hf⟩ := q_bnd_some hf
      refine q_ki hA I (q_runS (As := [.int p2]) (rest := []) ⟨hx, hb, hml, hown, hts⟩ (c_Programs_hasLine (sz := H.size) e5) (va_cwS 1 hts (q_goodS mw70 mw71 mw72 mw69) rfl rfl rfl (by decide +kernel) ⟨Nat.le_of_ble_eq_true rfl, Nat.le_of_ble_eq_true rfl⟩) NW_ok hK hN I rfl (q_sz hl) rfl (Nat.le_of_ble_eq_true rfl) d_Programs_opAt_8 ⟨Nat.zero_le _, Nat.zero_le _⟩) (fun H locs I => ?_)
      refine lv_if_ne (tgt := 16) hx hb d_Programs_opAt_11 (by decide) (fun c6 => ?_) (fun c6 => ?_)
      · rw [if_neg c6] at hf
        refine lv_aload_n hx hb d_Programs_opAt_16 rfl (q_at hl 0 rfl) ?_
        refine G_Programs_Programs_ops hx hb htg hown hK hN I d_Programs_opAt_17 ?_
        refine lv_iload_n hx hb d_Programs_opAt_20 rfl (q_at hl 1 rfl) ?_
        refine lv_bipush (v := 16) hx hb d_Programs_opAt_21 (by decide) ?_
        refine lv_imul hx hb d_Programs_opAt_23 ?_
        refine lv_iload_n hx hb d_Programs_opAt_24 rfl (q_at hl 2 rfl) ?_
        refine lv_iadd hx hb d_Programs_opAt_25 ?_
        obtain ⟨o7, hf⟩ := q_grd_some hf
        refine A_C_ops hx hb hK I o7 d_Programs_opAt_26 ?_
        refine q_istore_n (lv' := [(3, .int (r4.2 0 ((p1 * 16) + p2).toNatClampNeg)), (0, .ref (ad 1)), (1, .int p1), (2, .int p2)]) hx hb d_Programs_opAt_27 rfl hl (by decide) rfl (fun ls hl => ?_)
        refine lv_iload_n hx hb d_Programs_opAt_28 rfl (q_at hl 0 rfl) ?_
        refine lv_if_lt (tgt := 38) hx hb d_Programs_opAt_29 (by decide) (fun c8 => ?_) (fun c8 => ?_)
        · rw [if_pos c8] at hf
          exact k_Programs_opAt_38 C0 hA res r4.2 hf H locs I ls (q_hsub hl [] rfl)
        · rw [if_neg c8] at hf
          refine lv_iload_n hx hb d_Programs_opAt_32 rfl (q_at hl 0 rfl) ?_
          refine lv_bipush (v := 11) hx hb d_Programs_opAt_33 (by decide) ?_
          refine lv_icmp_le (tgt := 42) hx hb d_Programs_opAt_35 (by decide) (fun c9 => ?_) (fun c9 => ?_)
          · rw [if_pos c9] at hf
            refine lv_iload_n hx hb d_Programs_opAt_42 rfl (q_at hl 0 rfl) ?_
            exact k_Programs_opAt_43 C0 hA res r4.2 (r4.2 0 ((p1 * 16) + p2).toNatClampNeg) hf H locs I ls (q_hsub hl [] rfl)
          · rw [if_neg c9] at hf
            exact k_Programs_opAt_38 C0 hA res r4.2 hf H locs I ls (q_hsub hl [] rfl)
      · rw [if_pos c6] at hf
        exact k_Programs_opAt_14 C0 hA res r4.2 hf H locs I ls (q_hsub hl [] rfl)
  exact hgo _ _ I
-- JobTerminal$Job readsFromPipe
def f_Job_readsFromPipe_20 (i : Nat) (σ : q_St) (y0 : Int32) : Option (Int32 × q_St) := q_grd (q_isB y0) (some (y0, σ))
set_option maxHeartbeats 4000000 in
set_option maxRecDepth 100000 in
theorem k_Job_readsFromPipe_20 {p : Program} {l : Launch} {e : Env} {s : State} {m : MethodId} {args : Array Value} {below : List Frame} {meth : Method} {c : Code} {D : va_G} {A : Nat → Prop} {ad : Nat → Nat} {cs : Nat → ClassId} (C0 : q_Cx "JobTerminal$Job" b_Job_readsFromPipe 2 (some .boolean) w_Job_readsFromPipe D vwCl (tyL cs) NW p s m args meth c) (hA : ∀ q, s.heap.size ≤ q → A q) {i : Nat} (hi : i < 4) (res : (Int32 × q_St)) : ∀ (σ : q_St) (y0 : Int32) , f_Job_readsFromPipe_20 i σ y0 = some res → ∀ (H : Heap) (locs : List Loc), q_I D vwCl A s.heap (q_ws 33 ad (cC ad cs σ)) H locs → ∀ ls : Array Slot, q_has ls 2 [] → W p l e ({ frames := 0, cells := 0, slots := 0, locals := 0 } : Room) s m args below meth c H locs 0 0 (MQ below (q_Qi D vwCl res.1 (q_ws 33 ad (cC ad cs res.2)) A) args s 0 0 A) (F0 m 20 ls [.int y0]) := by
  intro σ y0 hf H locs I ls hl
  unfold f_Job_readsFromPipe_20 at hf
  obtain ⟨hx, hb, hr, hml, hown, hts, hlocks, hK, hN⟩ := id C0
  have htg : ∀ w ∈ GW, w.before args s = true := fun w h => hts w (List.mem_cons_of_mem _ h)
  obtain ⟨o5, hf⟩ := q_grd_some hf
  cases hf
  exact q_zret hx hb hr hlocks o5 I d_Job_readsFromPipe_20
def f_Job_readsFromPipe_19 (i : Nat) (σ : q_St) : Option (Int32 × q_St) := f_Job_readsFromPipe_20 i σ 0
set_option maxHeartbeats 4000000 in
set_option maxRecDepth 100000 in
theorem k_Job_readsFromPipe_19 {p : Program} {l : Launch} {e : Env} {s : State} {m : MethodId} {args : Array Value} {below : List Frame} {meth : Method} {c : Code} {D : va_G} {A : Nat → Prop} {ad : Nat → Nat} {cs : Nat → ClassId} (C0 : q_Cx "JobTerminal$Job" b_Job_readsFromPipe 2 (some .boolean) w_Job_readsFromPipe D vwCl (tyL cs) NW p s m args meth c) (hA : ∀ q, s.heap.size ≤ q → A q) {i : Nat} (hi : i < 4) (res : (Int32 × q_St)) : ∀ (σ : q_St) , f_Job_readsFromPipe_19 i σ  = some res → ∀ (H : Heap) (locs : List Loc), q_I D vwCl A s.heap (q_ws 33 ad (cC ad cs σ)) H locs → ∀ ls : Array Slot, q_has ls 2 [] → W p l e ({ frames := 0, cells := 0, slots := 0, locals := 0 } : Room) s m args below meth c H locs 0 0 (MQ below (q_Qi D vwCl res.1 (q_ws 33 ad (cC ad cs res.2)) A) args s 0 0 A) (F0 m 19 ls []) := by
  intro σ  hf H locs I ls hl
  unfold f_Job_readsFromPipe_19 at hf
  obtain ⟨hx, hb, hr, hml, hown, hts, hlocks, hK, hN⟩ := id C0
  have htg : ∀ w ∈ GW, w.before args s = true := fun w h => hts w (List.mem_cons_of_mem _ h)
  refine lv_iconst (v := 0) hx hb d_Job_readsFromPipe_19 (by decide) ?_
  exact k_Job_readsFromPipe_20 C0 hA hi res σ 0 hf H locs I ls (q_hsub hl [] rfl)
def f_Job_readsFromPipe (σ : q_St) (i : Nat) (p1 : Int32) : Option (Int32 × q_St) := if (σ 29 i) < 0 then (f_Job_readsFromPipe_19 i σ) else (q_grd (q_okn (σ 29 i) 8) (q_grd (q_okn p1 8) (if (σ 29 i) = p1 then (f_Job_readsFromPipe_20 i σ 1) else (f_Job_readsFromPipe_19 i σ))))
set_option maxHeartbeats 4000000 in
set_option maxRecDepth 100000 in
theorem c_Job_readsFromPipe {l : Launch} {D : va_G} {ad : Nat → Nat} {cs : Nat → ClassId} {sz : Nat} {σ : q_St} {i : Nat} (hi : i < 4) {p1 : Int32} {res : (Int32 × q_St)} (hf : f_Job_readsFromPipe σ i p1 = some res) : Met l y_Job_readsFromPipe w_Job_readsFromPipe ({ frames := 0, cells := 0, slots := 0, locals := 0 } : Room) (q_Pre D vwCl (tyL cs) NW [.ref (ad (17 + i)), q_rv ad 9 p1] (q_ws 33 ad (cC ad cs σ)) sz) (q_Qi D vwCl res.1 (q_ws 33 ad (cC ad cs res.2)) (va_A (q_ws 33 ad (cC ad cs σ)) sz)) 0 0 (va_A (q_ws 33 ad (cC ad cs σ)) sz) := by
  refine Met.ofW (cc := b_Job_readsFromPipe) (maxL := 2) (ret := (some .boolean)) (by decide) rfl ?_
  intro p e s m args below meth c s₁ B hml hv
  obtain ⟨hargs, hsz, hP, hK, hD0, hN⟩ := hv
  have hx := B.exec
  have hb := B.bytes
  have hr := B.returns
  have hts := atoms_spec (ws := w_Job_readsFromPipe) B.pre
  have hown : s.vm.findClass "JobTerminal$Job" = some m.cls := findClass_of_methodNamed B.named
  have hlocks := B.notSynchronized
  have htg : ∀ w ∈ GW, w.before args s = true := fun w h => hts w (List.mem_cons_of_mem _ h)
  subst hsz
  have hD := hD0.self (sz := s.heap.size)
  generalize hAe : va_A (q_ws 33 ad (cC ad cs σ)) s.heap.size = A at hD ⊢
  have hA : ∀ q : Nat, s.heap.size ≤ q → A q := fun q h => by rw [← hAe]; exact Or.inr h
  have I : q_I D vwCl A s.heap (q_ws 33 ad (cC ad cs σ)) s.heap [] := ⟨hP, hD, va_S.rf⟩
  obtain ⟨ls, hen, hl⟩ := q_entry (vs := [.ref (ad (17 + i)), q_rv ad 9 p1]) (n := 2) (lv := [(0, .ref (ad (17 + i))), (1, q_rv ad 9 p1)]) (by intro v hv; simp only [List.mem_cons, List.not_mem_nil, or_false] at hv; rcases hv with rfl | rfl <;> first | rfl | exact q_cat) (Nat.le_of_ble_eq_true rfl) rfl
  rw [show entryFrame m args 2 = F0 m 0 ls [] from by rw [hargs]; exact hen m]
  have C0 : q_Cx "JobTerminal$Job" b_Job_readsFromPipe 2 (some .boolean) w_Job_readsFromPipe D vwCl (tyL cs) NW p s m args meth c := ⟨hx, hb, hr, hml, hown, hts, hlocks, hK, hN⟩
  unfold f_Job_readsFromPipe at hf
  have hgo : ∀ (H : Heap) (locs : List Loc), q_I D vwCl A s.heap (q_ws 33 ad (cC ad cs σ)) H locs → W p l e ({ frames := 0, cells := 0, slots := 0, locals := 0 } : Room) s m args below meth c H locs 0 0 (MQ below (q_Qi D vwCl res.1 (q_ws 33 ad (cC ad cs res.2)) A) args s 0 0 A) (F0 m 0 ls []) := by
    intro H locs I
    refine lv_aload_n hx hb d_Job_readsFromPipe_0 rfl (q_at hl 0 rfl) ?_
    refine G_Job_Job_second hx hb htg hown hK hN I hi d_Job_readsFromPipe_1 ?_
    refine q_ifnull (tgt := 19) hx hb d_Job_readsFromPipe_4 (by decide) (fun c1 => ?_) (fun c1 => ?_)
    · rw [if_pos c1] at hf
      exact k_Job_readsFromPipe_19 C0 hA hi res σ hf H locs I ls (q_hsub hl [] rfl)
    · rw [if_neg c1] at hf
      refine lv_aload_n hx hb d_Job_readsFromPipe_7 rfl (q_at hl 0 rfl) ?_
      refine G_Job_Job_second hx hb htg hown hK hN I hi d_Job_readsFromPipe_8 ?_
      refine q_aload_n hx hb d_Job_readsFromPipe_11 rfl (q_at hl 1 rfl) ?_
      obtain ⟨o3, hf⟩ := q_grd_some hf
      obtain ⟨o4, hf⟩ := q_grd_some hf
      refine q_acmp_ne (b := 9) (n := 8) (tgt := 19) hx hb I.2.1 (by decide) (by decide) o3 o4 d_Job_readsFromPipe_12 (by decide) (fun c2 => ?_) (fun c2 => ?_)
      · rw [if_neg c2] at hf
        exact k_Job_readsFromPipe_19 C0 hA hi res σ hf H locs I ls (q_hsub hl [] rfl)
      · rw [if_pos c2] at hf
        refine lv_iconst (v := 1) hx hb d_Job_readsFromPipe_15 (by decide) ?_
        refine lv_goto (tgt := 20) hx hb d_Job_readsFromPipe_16 (by decide) ?_
        exact k_Job_readsFromPipe_20 C0 hA hi res σ 1 hf H locs I ls (q_hsub hl [] rfl)
  exact hgo _ _ I
-- JobTerminal$Job firstHasEnded
def f_Job_firstHasEnded_23 (i : Nat) (σ : q_St) (y0 : Int32) : Option (Int32 × q_St) := q_grd (q_isB y0) (some (y0, σ))
set_option maxHeartbeats 4000000 in
set_option maxRecDepth 100000 in
theorem k_Job_firstHasEnded_23 {p : Program} {l : Launch} {e : Env} {s : State} {m : MethodId} {args : Array Value} {below : List Frame} {meth : Method} {c : Code} {D : va_G} {A : Nat → Prop} {ad : Nat → Nat} {cs : Nat → ClassId} (C0 : q_Cx "JobTerminal$Job" b_Job_firstHasEnded 1 (some .boolean) w_Job_firstHasEnded D vwCl (tyL cs) NW p s m args meth c) (hA : ∀ q, s.heap.size ≤ q → A q) {i : Nat} (hi : i < 4) (res : (Int32 × q_St)) : ∀ (σ : q_St) (y0 : Int32) , f_Job_firstHasEnded_23 i σ y0 = some res → ∀ (H : Heap) (locs : List Loc), q_I D vwCl A s.heap (q_ws 33 ad (cC ad cs σ)) H locs → ∀ ls : Array Slot, q_has ls 1 [] → W p l e ({ frames := 0, cells := 0, slots := 0, locals := 0 } : Room) s m args below meth c H locs 0 0 (MQ below (q_Qi D vwCl res.1 (q_ws 33 ad (cC ad cs res.2)) A) args s 0 0 A) (F0 m 23 ls [.int y0]) := by
  intro σ y0 hf H locs I ls hl
  unfold f_Job_firstHasEnded_23 at hf
  obtain ⟨hx, hb, hr, hml, hown, hts, hlocks, hK, hN⟩ := id C0
  have htg : ∀ w ∈ GW, w.before args s = true := fun w h => hts w (List.mem_cons_of_mem _ h)
  obtain ⟨o4, hf⟩ := q_grd_some hf
  cases hf
  exact q_zret hx hb hr hlocks o4 I d_Job_firstHasEnded_23
def f_Job_firstHasEnded_22 (i : Nat) (σ : q_St) : Option (Int32 × q_St) := f_Job_firstHasEnded_23 i σ 0
set_option maxHeartbeats 4000000 in
set_option maxRecDepth 100000 in
theorem k_Job_firstHasEnded_22 {p : Program} {l : Launch} {e : Env} {s : State} {m : MethodId} {args : Array Value} {below : List Frame} {meth : Method} {c : Code} {D : va_G} {A : Nat → Prop} {ad : Nat → Nat} {cs : Nat → ClassId} (C0 : q_Cx "JobTerminal$Job" b_Job_firstHasEnded 1 (some .boolean) w_Job_firstHasEnded D vwCl (tyL cs) NW p s m args meth c) (hA : ∀ q, s.heap.size ≤ q → A q) {i : Nat} (hi : i < 4) (res : (Int32 × q_St)) : ∀ (σ : q_St) , f_Job_firstHasEnded_22 i σ  = some res → ∀ (H : Heap) (locs : List Loc), q_I D vwCl A s.heap (q_ws 33 ad (cC ad cs σ)) H locs → ∀ ls : Array Slot, q_has ls 1 [] → W p l e ({ frames := 0, cells := 0, slots := 0, locals := 0 } : Room) s m args below meth c H locs 0 0 (MQ below (q_Qi D vwCl res.1 (q_ws 33 ad (cC ad cs res.2)) A) args s 0 0 A) (F0 m 22 ls []) := by
  intro σ  hf H locs I ls hl
  unfold f_Job_firstHasEnded_22 at hf
  obtain ⟨hx, hb, hr, hml, hown, hts, hlocks, hK, hN⟩ := id C0
  have htg : ∀ w ∈ GW, w.before args s = true := fun w h => hts w (List.mem_cons_of_mem _ h)
  refine lv_iconst (v := 0) hx hb d_Job_firstHasEnded_22 (by decide) ?_
  exact k_Job_firstHasEnded_23 C0 hA hi res σ 0 hf H locs I ls (q_hsub hl [] rfl)
def f_Job_firstHasEnded (σ : q_St) (i : Nat) : Option (Int32 × q_St) := if (σ 28 i) < 0 then (f_Job_firstHasEnded_22 i σ) else (q_grd (q_in (σ 28 i) 8) (if (σ 33 ((σ 28 i).toNatClampNeg)) = 3 then (f_Job_firstHasEnded_23 i σ 1) else (f_Job_firstHasEnded_22 i σ)))
set_option maxHeartbeats 4000000 in
set_option maxRecDepth 100000 in
theorem c_Job_firstHasEnded {l : Launch} {D : va_G} {ad : Nat → Nat} {cs : Nat → ClassId} {sz : Nat} {σ : q_St} {i : Nat} (hi : i < 4) {res : (Int32 × q_St)} (hf : f_Job_firstHasEnded σ i  = some res) : Met l y_Job_firstHasEnded w_Job_firstHasEnded ({ frames := 0, cells := 0, slots := 0, locals := 0 } : Room) (q_Pre D vwCl (tyL cs) NW [.ref (ad (17 + i))] (q_ws 33 ad (cC ad cs σ)) sz) (q_Qi D vwCl res.1 (q_ws 33 ad (cC ad cs res.2)) (va_A (q_ws 33 ad (cC ad cs σ)) sz)) 0 0 (va_A (q_ws 33 ad (cC ad cs σ)) sz) := by
  refine Met.ofW (cc := b_Job_firstHasEnded) (maxL := 1) (ret := (some .boolean)) (by decide) rfl ?_
  intro p e s m args below meth c s₁ B hml hv
  obtain ⟨hargs, hsz, hP, hK, hD0, hN⟩ := hv
  have hx := B.exec
  have hb := B.bytes
  have hr := B.returns
  have hts := atoms_spec (ws := w_Job_firstHasEnded) B.pre
  have hown : s.vm.findClass "JobTerminal$Job" = some m.cls := findClass_of_methodNamed B.named
  have hlocks := B.notSynchronized
  have htg : ∀ w ∈ GW, w.before args s = true := fun w h => hts w (List.mem_cons_of_mem _ h)
  subst hsz
  have hD := hD0.self (sz := s.heap.size)
  generalize hAe : va_A (q_ws 33 ad (cC ad cs σ)) s.heap.size = A at hD ⊢
  have hA : ∀ q : Nat, s.heap.size ≤ q → A q := fun q h => by rw [← hAe]; exact Or.inr h
  have I : q_I D vwCl A s.heap (q_ws 33 ad (cC ad cs σ)) s.heap [] := ⟨hP, hD, va_S.rf⟩
  obtain ⟨ls, hen, hl⟩ := q_entry (vs := [.ref (ad (17 + i))]) (n := 1) (lv := [(0, .ref (ad (17 + i)))]) (by intro v hv; simp only [List.mem_cons, List.not_mem_nil, or_false] at hv; rcases hv with rfl <;> first | rfl | exact q_cat) (Nat.le_of_ble_eq_true rfl) rfl
  rw [show entryFrame m args 1 = F0 m 0 ls [] from by rw [hargs]; exact hen m]
  have C0 : q_Cx "JobTerminal$Job" b_Job_firstHasEnded 1 (some .boolean) w_Job_firstHasEnded D vwCl (tyL cs) NW p s m args meth c := ⟨hx, hb, hr, hml, hown, hts, hlocks, hK, hN⟩
  unfold f_Job_firstHasEnded at hf
  have hgo : ∀ (H : Heap) (locs : List Loc), q_I D vwCl A s.heap (q_ws 33 ad (cC ad cs σ)) H locs → W p l e ({ frames := 0, cells := 0, slots := 0, locals := 0 } : Room) s m args below meth c H locs 0 0 (MQ below (q_Qi D vwCl res.1 (q_ws 33 ad (cC ad cs res.2)) A) args s 0 0 A) (F0 m 0 ls []) := by
    intro H locs I
    refine lv_aload_n hx hb d_Job_firstHasEnded_0 rfl (q_at hl 0 rfl) ?_
    refine G_Job_Job_first hx hb htg hown hK hN I hi d_Job_firstHasEnded_1 ?_
    refine q_ifnull (tgt := 22) hx hb d_Job_firstHasEnded_4 (by decide) (fun c1 => ?_) (fun c1 => ?_)
    · rw [if_pos c1] at hf
      exact k_Job_firstHasEnded_22 C0 hA hi res σ hf H locs I ls (q_hsub hl [] rfl)
    · rw [if_neg c1] at hf
      refine lv_aload_n hx hb d_Job_firstHasEnded_7 rfl (q_at hl 0 rfl) ?_
      refine G_Job_Job_first hx hb htg hown hK hN I hi d_Job_firstHasEnded_8 ?_
      obtain ⟨o2, hf⟩ := q_grd_some hf
      rw [q_rv_ref (q_in_pos o2)]
      refine G_Job_JobProcess_state hx hb htg hown hK hN I (q_in_lt o2) d_Job_firstHasEnded_11 ?_
      refine lv_iconst (v := 3) hx hb d_Job_firstHasEnded_14 (by decide) ?_
      refine lv_icmp_ne (tgt := 22) hx hb d_Job_firstHasEnded_15 (by decide) (fun c3 => ?_) (fun c3 => ?_)
      · rw [if_neg c3] at hf
        exact k_Job_firstHasEnded_22 C0 hA hi res σ hf H locs I ls (q_hsub hl [] rfl)
      · rw [if_pos c3] at hf
        refine lv_iconst (v := 1) hx hb d_Job_firstHasEnded_18 (by decide) ?_
        refine lv_goto (tgt := 23) hx hb d_Job_firstHasEnded_19 (by decide) ?_
        exact k_Job_firstHasEnded_23 C0 hA hi res σ 1 hf H locs I ls (q_hsub hl [] rfl)
  exact hgo _ _ I
-- JobTerminal$Job writesToPipe
def f_Job_writesToPipe_20 (i : Nat) (σ : q_St) (y0 : Int32) : Option (Int32 × q_St) := q_grd (q_isB y0) (some (y0, σ))
set_option maxHeartbeats 4000000 in
set_option maxRecDepth 100000 in
theorem k_Job_writesToPipe_20 {p : Program} {l : Launch} {e : Env} {s : State} {m : MethodId} {args : Array Value} {below : List Frame} {meth : Method} {c : Code} {D : va_G} {A : Nat → Prop} {ad : Nat → Nat} {cs : Nat → ClassId} (C0 : q_Cx "JobTerminal$Job" b_Job_writesToPipe 2 (some .boolean) w_Job_writesToPipe D vwCl (tyL cs) NW p s m args meth c) (hA : ∀ q, s.heap.size ≤ q → A q) {i : Nat} (hi : i < 4) (res : (Int32 × q_St)) : ∀ (σ : q_St) (y0 : Int32) , f_Job_writesToPipe_20 i σ y0 = some res → ∀ (H : Heap) (locs : List Loc), q_I D vwCl A s.heap (q_ws 33 ad (cC ad cs σ)) H locs → ∀ ls : Array Slot, q_has ls 2 [] → W p l e ({ frames := 0, cells := 0, slots := 0, locals := 0 } : Room) s m args below meth c H locs 0 0 (MQ below (q_Qi D vwCl res.1 (q_ws 33 ad (cC ad cs res.2)) A) args s 0 0 A) (F0 m 20 ls [.int y0]) := by
  intro σ y0 hf H locs I ls hl
  unfold f_Job_writesToPipe_20 at hf
  obtain ⟨hx, hb, hr, hml, hown, hts, hlocks, hK, hN⟩ := id C0
  have htg : ∀ w ∈ GW, w.before args s = true := fun w h => hts w (List.mem_cons_of_mem _ h)
  obtain ⟨o5, hf⟩ := q_grd_some hf
  cases hf
  exact q_zret hx hb hr hlocks o5 I d_Job_writesToPipe_20
def f_Job_writesToPipe_19 (i : Nat) (σ : q_St) : Option (Int32 × q_St) := f_Job_writesToPipe_20 i σ 0
set_option maxHeartbeats 4000000 in
set_option maxRecDepth 100000 in
theorem k_Job_writesToPipe_19 {p : Program} {l : Launch} {e : Env} {s : State} {m : MethodId} {args : Array Value} {below : List Frame} {meth : Method} {c : Code} {D : va_G} {A : Nat → Prop} {ad : Nat → Nat} {cs : Nat → ClassId} (C0 : q_Cx "JobTerminal$Job" b_Job_writesToPipe 2 (some .boolean) w_Job_writesToPipe D vwCl (tyL cs) NW p s m args meth c) (hA : ∀ q, s.heap.size ≤ q → A q) {i : Nat} (hi : i < 4) (res : (Int32 × q_St)) : ∀ (σ : q_St) , f_Job_writesToPipe_19 i σ  = some res → ∀ (H : Heap) (locs : List Loc), q_I D vwCl A s.heap (q_ws 33 ad (cC ad cs σ)) H locs → ∀ ls : Array Slot, q_has ls 2 [] → W p l e ({ frames := 0, cells := 0, slots := 0, locals := 0 } : Room) s m args below meth c H locs 0 0 (MQ below (q_Qi D vwCl res.1 (q_ws 33 ad (cC ad cs res.2)) A) args s 0 0 A) (F0 m 19 ls []) := by
  intro σ  hf H locs I ls hl
  unfold f_Job_writesToPipe_19 at hf
  obtain ⟨hx, hb, hr, hml, hown, hts, hlocks, hK, hN⟩ := id C0
  have htg : ∀ w ∈ GW, w.before args s = true := fun w h => hts w (List.mem_cons_of_mem _ h)
  refine lv_iconst (v := 0) hx hb d_Job_writesToPipe_19 (by decide) ?_
  exact k_Job_writesToPipe_20 C0 hA hi res σ 0 hf H locs I ls (q_hsub hl [] rfl)
def f_Job_writesToPipe (σ : q_St) (i : Nat) (p1 : Int32) : Option (Int32 × q_St) := if (σ 29 i) < 0 then (f_Job_writesToPipe_19 i σ) else (q_grd (q_okn (σ 28 i) 8) (q_grd (q_okn p1 8) (if (σ 28 i) = p1 then (f_Job_writesToPipe_20 i σ 1) else (f_Job_writesToPipe_19 i σ))))
set_option maxHeartbeats 4000000 in
set_option maxRecDepth 100000 in
theorem c_Job_writesToPipe {l : Launch} {D : va_G} {ad : Nat → Nat} {cs : Nat → ClassId} {sz : Nat} {σ : q_St} {i : Nat} (hi : i < 4) {p1 : Int32} {res : (Int32 × q_St)} (hf : f_Job_writesToPipe σ i p1 = some res) : Met l y_Job_writesToPipe w_Job_writesToPipe ({ frames := 0, cells := 0, slots := 0, locals := 0 } : Room) (q_Pre D vwCl (tyL cs) NW [.ref (ad (17 + i)), q_rv ad 9 p1] (q_ws 33 ad (cC ad cs σ)) sz) (q_Qi D vwCl res.1 (q_ws 33 ad (cC ad cs res.2)) (va_A (q_ws 33 ad (cC ad cs σ)) sz)) 0 0 (va_A (q_ws 33 ad (cC ad cs σ)) sz) := by
  refine Met.ofW (cc := b_Job_writesToPipe) (maxL := 2) (ret := (some .boolean)) (by decide) rfl ?_
  intro p e s m args below meth c s₁ B hml hv
  obtain ⟨hargs, hsz, hP, hK, hD0, hN⟩ := hv
  have hx := B.exec
  have hb := B.bytes
  have hr := B.returns
  have hts := atoms_spec (ws := w_Job_writesToPipe) B.pre
  have hown : s.vm.findClass "JobTerminal$Job" = some m.cls := findClass_of_methodNamed B.named
  have hlocks := B.notSynchronized
  have htg : ∀ w ∈ GW, w.before args s = true := fun w h => hts w (List.mem_cons_of_mem _ h)
  subst hsz
  have hD := hD0.self (sz := s.heap.size)
  generalize hAe : va_A (q_ws 33 ad (cC ad cs σ)) s.heap.size = A at hD ⊢
  have hA : ∀ q : Nat, s.heap.size ≤ q → A q := fun q h => by rw [← hAe]; exact Or.inr h
  have I : q_I D vwCl A s.heap (q_ws 33 ad (cC ad cs σ)) s.heap [] := ⟨hP, hD, va_S.rf⟩
  obtain ⟨ls, hen, hl⟩ := q_entry (vs := [.ref (ad (17 + i)), q_rv ad 9 p1]) (n := 2) (lv := [(0, .ref (ad (17 + i))), (1, q_rv ad 9 p1)]) (by intro v hv; simp only [List.mem_cons, List.not_mem_nil, or_false] at hv; rcases hv with rfl | rfl <;> first | rfl | exact q_cat) (Nat.le_of_ble_eq_true rfl) rfl
  rw [show entryFrame m args 2 = F0 m 0 ls [] from by rw [hargs]; exact hen m]
  have C0 : q_Cx "JobTerminal$Job" b_Job_writesToPipe 2 (some .boolean) w_Job_writesToPipe D vwCl (tyL cs) NW p s m args meth c := ⟨hx, hb, hr, hml, hown, hts, hlocks, hK, hN⟩
  unfold f_Job_writesToPipe at hf
  have hgo : ∀ (H : Heap) (locs : List Loc), q_I D vwCl A s.heap (q_ws 33 ad (cC ad cs σ)) H locs → W p l e ({ frames := 0, cells := 0, slots := 0, locals := 0 } : Room) s m args below meth c H locs 0 0 (MQ below (q_Qi D vwCl res.1 (q_ws 33 ad (cC ad cs res.2)) A) args s 0 0 A) (F0 m 0 ls []) := by
    intro H locs I
    refine lv_aload_n hx hb d_Job_writesToPipe_0 rfl (q_at hl 0 rfl) ?_
    refine G_Job_Job_second hx hb htg hown hK hN I hi d_Job_writesToPipe_1 ?_
    refine q_ifnull (tgt := 19) hx hb d_Job_writesToPipe_4 (by decide) (fun c1 => ?_) (fun c1 => ?_)
    · rw [if_pos c1] at hf
      exact k_Job_writesToPipe_19 C0 hA hi res σ hf H locs I ls (q_hsub hl [] rfl)
    · rw [if_neg c1] at hf
      refine lv_aload_n hx hb d_Job_writesToPipe_7 rfl (q_at hl 0 rfl) ?_
      refine G_Job_Job_first hx hb htg hown hK hN I hi d_Job_writesToPipe_8 ?_
      refine q_aload_n hx hb d_Job_writesToPipe_11 rfl (q_at hl 1 rfl) ?_
      obtain ⟨o3, hf⟩ := q_grd_some hf
      obtain ⟨o4, hf⟩ := q_grd_some hf
      refine q_acmp_ne (b := 9) (n := 8) (tgt := 19) hx hb I.2.1 (by decide) (by decide) o3 o4 d_Job_writesToPipe_12 (by decide) (fun c2 => ?_) (fun c2 => ?_)
      · rw [if_neg c2] at hf
        exact k_Job_writesToPipe_19 C0 hA hi res σ hf H locs I ls (q_hsub hl [] rfl)
      · rw [if_pos c2] at hf
        refine lv_iconst (v := 1) hx hb d_Job_writesToPipe_15 (by decide) ?_
        refine lv_goto (tgt := 20) hx hb d_Job_writesToPipe_16 (by decide) ?_
        exact k_Job_writesToPipe_20 C0 hA hi res σ 1 hf H locs I ls (q_hsub hl [] rfl)
  exact hgo _ _ I
-- JobTerminal$Job secondHasEnded
def f_Job_secondHasEnded_23 (i : Nat) (σ : q_St) (y0 : Int32) : Option (Int32 × q_St) := q_grd (q_isB y0) (some (y0, σ))
set_option maxHeartbeats 4000000 in
set_option maxRecDepth 100000 in
theorem k_Job_secondHasEnded_23 {p : Program} {l : Launch} {e : Env} {s : State} {m : MethodId} {args : Array Value} {below : List Frame} {meth : Method} {c : Code} {D : va_G} {A : Nat → Prop} {ad : Nat → Nat} {cs : Nat → ClassId} (C0 : q_Cx "JobTerminal$Job" b_Job_secondHasEnded 1 (some .boolean) w_Job_secondHasEnded D vwCl (tyL cs) NW p s m args meth c) (hA : ∀ q, s.heap.size ≤ q → A q) {i : Nat} (hi : i < 4) (res : (Int32 × q_St)) : ∀ (σ : q_St) (y0 : Int32) , f_Job_secondHasEnded_23 i σ y0 = some res → ∀ (H : Heap) (locs : List Loc), q_I D vwCl A s.heap (q_ws 33 ad (cC ad cs σ)) H locs → ∀ ls : Array Slot, q_has ls 1 [] → W p l e ({ frames := 0, cells := 0, slots := 0, locals := 0 } : Room) s m args below meth c H locs 0 0 (MQ below (q_Qi D vwCl res.1 (q_ws 33 ad (cC ad cs res.2)) A) args s 0 0 A) (F0 m 23 ls [.int y0]) := by
  intro σ y0 hf H locs I ls hl
  unfold f_Job_secondHasEnded_23 at hf
  obtain ⟨hx, hb, hr, hml, hown, hts, hlocks, hK, hN⟩ := id C0
  have htg : ∀ w ∈ GW, w.before args s = true := fun w h => hts w (List.mem_cons_of_mem _ h)
  obtain ⟨o4, hf⟩ := q_grd_some hf
  cases hf
  exact q_zret hx hb hr hlocks o4 I d_Job_secondHasEnded_23
def f_Job_secondHasEnded_22 (i : Nat) (σ : q_St) : Option (Int32 × q_St) := f_Job_secondHasEnded_23 i σ 0
set_option maxHeartbeats 4000000 in
set_option maxRecDepth 100000 in
theorem k_Job_secondHasEnded_22 {p : Program} {l : Launch} {e : Env} {s : State} {m : MethodId} {args : Array Value} {below : List Frame} {meth : Method} {c : Code} {D : va_G} {A : Nat → Prop} {ad : Nat → Nat} {cs : Nat → ClassId} (C0 : q_Cx "JobTerminal$Job" b_Job_secondHasEnded 1 (some .boolean) w_Job_secondHasEnded D vwCl (tyL cs) NW p s m args meth c) (hA : ∀ q, s.heap.size ≤ q → A q) {i : Nat} (hi : i < 4) (res : (Int32 × q_St)) : ∀ (σ : q_St) , f_Job_secondHasEnded_22 i σ  = some res → ∀ (H : Heap) (locs : List Loc), q_I D vwCl A s.heap (q_ws 33 ad (cC ad cs σ)) H locs → ∀ ls : Array Slot, q_has ls 1 [] → W p l e ({ frames := 0, cells := 0, slots := 0, locals := 0 } : Room) s m args below meth c H locs 0 0 (MQ below (q_Qi D vwCl res.1 (q_ws 33 ad (cC ad cs res.2)) A) args s 0 0 A) (F0 m 22 ls []) := by
  intro σ  hf H locs I ls hl
  unfold f_Job_secondHasEnded_22 at hf
  obtain ⟨hx, hb, hr, hml, hown, hts, hlocks, hK, hN⟩ := id C0
  have htg : ∀ w ∈ GW, w.before args s = true := fun w h => hts w (List.mem_cons_of_mem _ h)
  refine lv_iconst (v := 0) hx hb d_Job_secondHasEnded_22 (by decide) ?_
  exact k_Job_secondHasEnded_23 C0 hA hi res σ 0 hf H locs I ls (q_hsub hl [] rfl)
def f_Job_secondHasEnded (σ : q_St) (i : Nat) : Option (Int32 × q_St) := if (σ 29 i) < 0 then (f_Job_secondHasEnded_22 i σ) else (q_grd (q_in (σ 29 i) 8) (if (σ 33 ((σ 29 i).toNatClampNeg)) = 3 then (f_Job_secondHasEnded_23 i σ 1) else (f_Job_secondHasEnded_22 i σ)))
set_option maxHeartbeats 4000000 in
set_option maxRecDepth 100000 in
theorem c_Job_secondHasEnded {l : Launch} {D : va_G} {ad : Nat → Nat} {cs : Nat → ClassId} {sz : Nat} {σ : q_St} {i : Nat} (hi : i < 4) {res : (Int32 × q_St)} (hf : f_Job_secondHasEnded σ i  = some res) : Met l y_Job_secondHasEnded w_Job_secondHasEnded ({ frames := 0, cells := 0, slots := 0, locals := 0 } : Room) (q_Pre D vwCl (tyL cs) NW [.ref (ad (17 + i))] (q_ws 33 ad (cC ad cs σ)) sz) (q_Qi D vwCl res.1 (q_ws 33 ad (cC ad cs res.2)) (va_A (q_ws 33 ad (cC ad cs σ)) sz)) 0 0 (va_A (q_ws 33 ad (cC ad cs σ)) sz) := by
  refine Met.ofW (cc := b_Job_secondHasEnded) (maxL := 1) (ret := (some .boolean)) (by decide) rfl ?_
  intro p e s m args below meth c s₁ B hml hv
  obtain ⟨hargs, hsz, hP, hK, hD0, hN⟩ := hv
  have hx := B.exec
  have hb := B.bytes
  have hr := B.returns
  have hts := atoms_spec (ws := w_Job_secondHasEnded) B.pre
  have hown : s.vm.findClass "JobTerminal$Job" = some m.cls := findClass_of_methodNamed B.named
  have hlocks := B.notSynchronized
  have htg : ∀ w ∈ GW, w.before args s = true := fun w h => hts w (List.mem_cons_of_mem _ h)
  subst hsz
  have hD := hD0.self (sz := s.heap.size)
  generalize hAe : va_A (q_ws 33 ad (cC ad cs σ)) s.heap.size = A at hD ⊢
  have hA : ∀ q : Nat, s.heap.size ≤ q → A q := fun q h => by rw [← hAe]; exact Or.inr h
  have I : q_I D vwCl A s.heap (q_ws 33 ad (cC ad cs σ)) s.heap [] := ⟨hP, hD, va_S.rf⟩
  obtain ⟨ls, hen, hl⟩ := q_entry (vs := [.ref (ad (17 + i))]) (n := 1) (lv := [(0, .ref (ad (17 + i)))]) (by intro v hv; simp only [List.mem_cons, List.not_mem_nil, or_false] at hv; rcases hv with rfl <;> first | rfl | exact q_cat) (Nat.le_of_ble_eq_true rfl) rfl
  rw [show entryFrame m args 1 = F0 m 0 ls [] from by rw [hargs]; exact hen m]
  have C0 : q_Cx "JobTerminal$Job" b_Job_secondHasEnded 1 (some .boolean) w_Job_secondHasEnded D vwCl (tyL cs) NW p s m args meth c := ⟨hx, hb, hr, hml, hown, hts, hlocks, hK, hN⟩
  unfold f_Job_secondHasEnded at hf
  have hgo : ∀ (H : Heap) (locs : List Loc), q_I D vwCl A s.heap (q_ws 33 ad (cC ad cs σ)) H locs → W p l e ({ frames := 0, cells := 0, slots := 0, locals := 0 } : Room) s m args below meth c H locs 0 0 (MQ below (q_Qi D vwCl res.1 (q_ws 33 ad (cC ad cs res.2)) A) args s 0 0 A) (F0 m 0 ls []) := by
    intro H locs I
    refine lv_aload_n hx hb d_Job_secondHasEnded_0 rfl (q_at hl 0 rfl) ?_
    refine G_Job_Job_second hx hb htg hown hK hN I hi d_Job_secondHasEnded_1 ?_
    refine q_ifnull (tgt := 22) hx hb d_Job_secondHasEnded_4 (by decide) (fun c1 => ?_) (fun c1 => ?_)
    · rw [if_pos c1] at hf
      exact k_Job_secondHasEnded_22 C0 hA hi res σ hf H locs I ls (q_hsub hl [] rfl)
    · rw [if_neg c1] at hf
      refine lv_aload_n hx hb d_Job_secondHasEnded_7 rfl (q_at hl 0 rfl) ?_
      refine G_Job_Job_second hx hb htg hown hK hN I hi d_Job_secondHasEnded_8 ?_
      obtain ⟨o2, hf⟩ := q_grd_some hf
      rw [q_rv_ref (q_in_pos o2)]
      refine G_Job_JobProcess_state hx hb htg hown hK hN I (q_in_lt o2) d_Job_secondHasEnded_11 ?_
      refine lv_iconst (v := 3) hx hb d_Job_secondHasEnded_14 (by decide) ?_
      refine lv_icmp_ne (tgt := 22) hx hb d_Job_secondHasEnded_15 (by decide) (fun c3 => ?_) (fun c3 => ?_)
      · rw [if_neg c3] at hf
        exact k_Job_secondHasEnded_22 C0 hA hi res σ hf H locs I ls (q_hsub hl [] rfl)
      · rw [if_pos c3] at hf
        refine lv_iconst (v := 1) hx hb d_Job_secondHasEnded_18 (by decide) ?_
        refine lv_goto (tgt := 23) hx hb d_Job_secondHasEnded_19 (by decide) ?_
        exact k_Job_secondHasEnded_23 C0 hA hi res σ 1 hf H locs I ls (q_hsub hl [] rfl)
  exact hgo _ _ I
-- JobTerminal$Programs numberAt
def f_Programs_numberAt_29 (σ : q_St) (y0 : Int32) : Option (Int32 × q_St) := some (y0, σ)
set_option maxHeartbeats 4000000 in
set_option maxRecDepth 100000 in
theorem k_Programs_numberAt_29 {p : Program} {l : Launch} {e : Env} {s : State} {m : MethodId} {args : Array Value} {below : List Frame} {meth : Method} {c : Code} {D : va_G} {A : Nat → Prop} {ad : Nat → Nat} {cs : Nat → ClassId} (C0 : q_Cx "JobTerminal$Programs" b_Programs_numberAt 3 (some .int) w_Programs_numberAt D vwCl (tyL cs) NW p s m args meth c) (hA : ∀ q, s.heap.size ≤ q → A q) (res : (Int32 × q_St)) : ∀ (σ : q_St) (y0 : Int32) , f_Programs_numberAt_29 σ y0 = some res → ∀ (H : Heap) (locs : List Loc), q_I D vwCl A s.heap (q_ws 33 ad (cC ad cs σ)) H locs → ∀ ls : Array Slot, q_has ls 3 [] → W p l e ({ frames := 1, cells := 0, slots := 0, locals := 20 } : Room) s m args below meth c H locs 0 0 (MQ below (q_Qi D vwCl res.1 (q_ws 33 ad (cC ad cs res.2)) A) args s 0 0 A) (F0 m 29 ls [.int y0]) := by
  intro σ y0 hf H locs I ls hl
  unfold f_Programs_numberAt_29 at hf
  obtain ⟨hx, hb, hr, hml, hown, hts, hlocks, hK, hN⟩ := id C0
  have htg : ∀ w ∈ GW, w.before args s = true := fun w h => hts w (List.mem_cons_of_mem _ h)
  cases hf
  exact q_iret hx hb hr hlocks I d_Programs_numberAt_29
def f_Programs_numberAt_28 (σ : q_St) : Option (Int32 × q_St) := f_Programs_numberAt_29 σ 0
set_option maxHeartbeats 4000000 in
set_option maxRecDepth 100000 in
theorem k_Programs_numberAt_28 {p : Program} {l : Launch} {e : Env} {s : State} {m : MethodId} {args : Array Value} {below : List Frame} {meth : Method} {c : Code} {D : va_G} {A : Nat → Prop} {ad : Nat → Nat} {cs : Nat → ClassId} (C0 : q_Cx "JobTerminal$Programs" b_Programs_numberAt 3 (some .int) w_Programs_numberAt D vwCl (tyL cs) NW p s m args meth c) (hA : ∀ q, s.heap.size ≤ q → A q) (res : (Int32 × q_St)) : ∀ (σ : q_St) , f_Programs_numberAt_28 σ  = some res → ∀ (H : Heap) (locs : List Loc), q_I D vwCl A s.heap (q_ws 33 ad (cC ad cs σ)) H locs → ∀ ls : Array Slot, q_has ls 3 [] → W p l e ({ frames := 1, cells := 0, slots := 0, locals := 20 } : Room) s m args below meth c H locs 0 0 (MQ below (q_Qi D vwCl res.1 (q_ws 33 ad (cC ad cs res.2)) A) args s 0 0 A) (F0 m 28 ls []) := by
  intro σ  hf H locs I ls hl
  unfold f_Programs_numberAt_28 at hf
  obtain ⟨hx, hb, hr, hml, hown, hts, hlocks, hK, hN⟩ := id C0
  have htg : ∀ w ∈ GW, w.before args s = true := fun w h => hts w (List.mem_cons_of_mem _ h)
  refine lv_iconst (v := 0) hx hb d_Programs_numberAt_28 (by decide) ?_
  exact k_Programs_numberAt_29 C0 hA res σ 0 hf H locs I ls (q_hsub hl [] rfl)
def f_Programs_numberAt (σ : q_St) (p1 : Int32) (p2 : Int32) : Option (Int32 × q_St) := q_bnd (f_Programs_hasProgram σ p1) (fun r1 => if r1.1 = 0 then (f_Programs_numberAt_28 r1.2) else (q_bnd (f_Programs_hasLine r1.2 p2) (fun r4 => if r4.1 = 0 then (f_Programs_numberAt_28 r4.2) else (q_grd (q_in ((p1 * 16) + p2) 64) (f_Programs_numberAt_29 r4.2 (r4.2 1 ((p1 * 16) + p2).toNatClampNeg))))))
set_option maxHeartbeats 4000000 in
set_option maxRecDepth 100000 in
theorem c_Programs_numberAt {l : Launch} {D : va_G} {ad : Nat → Nat} {cs : Nat → ClassId} {sz : Nat} {σ : q_St} {p1 : Int32} {p2 : Int32} {res : (Int32 × q_St)} (hf : f_Programs_numberAt σ p1 p2 = some res) : Met l y_Programs_numberAt w_Programs_numberAt ({ frames := 1, cells := 0, slots := 0, locals := 20 } : Room) (q_Pre D vwCl (tyL cs) NW [.ref (ad 1), .int p1, .int p2] (q_ws 33 ad (cC ad cs σ)) sz) (q_Qi D vwCl res.1 (q_ws 33 ad (cC ad cs res.2)) (va_A (q_ws 33 ad (cC ad cs σ)) sz)) 0 0 (va_A (q_ws 33 ad (cC ad cs σ)) sz) := by
  refine Met.ofW (cc := b_Programs_numberAt) (maxL := 3) (ret := (some .int)) (by decide) rfl ?_
  intro p e s m args below meth c s₁ B hml hv
  obtain ⟨hargs, hsz, hP, hK, hD0, hN⟩ := hv
  have hx := B.exec
  have hb := B.bytes
  have hr := B.returns
  have hts := atoms_spec (ws := w_Programs_numberAt) B.pre
  have hown : s.vm.findClass "JobTerminal$Programs" = some m.cls := findClass_of_methodNamed B.named
  have hlocks := B.notSynchronized
  have htg : ∀ w ∈ GW, w.before args s = true := fun w h => hts w (List.mem_cons_of_mem _ h)
  subst hsz
  have hD := hD0.self (sz := s.heap.size)
  generalize hAe : va_A (q_ws 33 ad (cC ad cs σ)) s.heap.size = A at hD ⊢
  have hA : ∀ q : Nat, s.heap.size ≤ q → A q := fun q h => by rw [← hAe]; exact Or.inr h
  have I : q_I D vwCl A s.heap (q_ws 33 ad (cC ad cs σ)) s.heap [] := ⟨hP, hD, va_S.rf⟩
  obtain ⟨ls, hen, hl⟩ := q_entry (vs := [.ref (ad 1), .int p1, .int p2]) (n := 3) (lv := [(0, .ref (ad 1)), (1, .int p1), (2, .int p2)]) (by intro v hv; simp only [List.mem_cons, List.not_mem_nil, or_false] at hv; rcases hv with rfl | rfl | rfl <;> first | rfl | exact q_cat) (Nat.le_of_ble_eq_true rfl) rfl
  rw [show entryFrame m args 3 = F0 m 0 ls [] from by rw [hargs]; exact hen m]
  have C0 : q_Cx "JobTerminal$Programs" b_Programs_numberAt 3 (some .int) w_Programs_numberAt D vwCl (tyL cs) NW p s m args meth c := ⟨hx, hb, hr, hml, hown, hts, hlocks, hK, hN⟩
  unfold f_Programs_numberAt at hf
  have hgo : ∀ (H : Heap) (locs : List Loc), q_I D vwCl A s.heap (q_ws 33 ad (cC ad cs σ)) H locs → W p l e ({ frames := 1, cells := 0, slots := 0, locals := 20 } : Room) s m args below meth c H locs 0 0 (MQ below (q_Qi D vwCl res.1 (q_ws 33 ad (cC ad cs res.2)) A) args s 0 0 A) (F0 m 0 ls []) := by
    intro H locs I
    refine lv_iload_n hx hb d_Programs_numberAt_0 rfl (q_at hl 1 rfl) ?_
    obtain ⟨r1, e2, hf⟩ := q_bnd_some hf
    refine q_ki hA I (q_runS (As := [.int p1]) (rest := []) ⟨hx, hb, hml, hown, hts⟩ (c_Programs_hasProgram (sz := H.size) e2) (va_cwS 1 hts (q_goodS mw66 mw67 mw68 mw69) rfl rfl rfl (by decide +kernel) ⟨Nat.le_of_ble_eq_true rfl, Nat.le_of_ble_eq_true rfl⟩) NW_ok hK hN I rfl (q_sz hl) rfl (Nat.le_of_ble_eq_true rfl) d_Programs_numberAt_1 ⟨Nat.zero_le _, Nat.zero_le _⟩) (fun H locs I => ?_)
    refine lv_if_eq (tgt := 28) hx hb d_Programs_numberAt_4 (by decide) (fun c3 => ?_) (fun c3 => ?_)
    · rw [if_pos c3] at hf
      exact k_Programs_numberAt_28 C0 hA res r1.2 hf H locs I ls (q_hsub hl [] rfl)
    · rw [if_neg c3] at hf
      refine lv_iload_n hx hb d_Programs_numberAt_7 rfl (q_at hl 2 rfl) ?_
      obtain ⟨r4, e5, hf⟩ := q_bnd_some hf
      refine q_ki hA I (q_runS (As := [.int p2]) (rest := []) ⟨hx, hb, hml, hown, hts⟩ (c_Programs_hasLine (sz := H.size) e5) (va_cwS 1 hts (q_goodS mw70 mw71 mw72 mw69) rfl rfl rfl (by decide +kernel) ⟨Nat.le_of_ble_eq_true rfl, Nat.le_of_ble_eq_true rfl⟩) NW_ok hK hN I rfl (q_sz hl) rfl (Nat.le_of_ble_eq_true rfl) d_Programs_numberAt_8 ⟨Nat.zero_le _, Nat.zero_le _⟩) (fun H locs I => ?_)
      refine lv_if_eq (tgt := 28) hx hb d_Programs_numberAt_11 (by decide) (fun c6 => ?_) (fun c6 => ?_)
      · rw [if_pos c6] at hf
        exact k_Programs_numberAt_28 C0 hA res r4.2 hf H locs I ls (q_hsub hl [] rfl)
      · rw [if_neg c6] at hf
        refine lv_aload_n hx hb d_Programs_numberAt_14 rfl (q_at hl 0 rfl) ?_
        refine G_Programs_Programs_numbers hx hb htg hown hK hN I d_Programs_numberAt_15 ?_
        refine lv_iload_n hx hb d_Programs_numberAt_18 rfl (q_at hl 1 rfl) ?_
        refine lv_bipush (v := 16) hx hb d_Programs_numberAt_19 (by decide) ?_
        refine lv_imul hx hb d_Programs_numberAt_21 ?_
        refine lv_iload_n hx hb d_Programs_numberAt_22 rfl (q_at hl 2 rfl) ?_
        refine lv_iadd hx hb d_Programs_numberAt_23 ?_
        obtain ⟨o7, hf⟩ := q_grd_some hf
        refine A_C_nums hx hb hK I o7 d_Programs_numberAt_24 ?_
        refine lv_goto (tgt := 29) hx hb d_Programs_numberAt_25 (by decide) ?_
        exact k_Programs_numberAt_29 C0 hA res r4.2 (r4.2 1 ((p1 * 16) + p2).toNatClampNeg) hf H locs I ls (q_hsub hl [] rfl)
  exact hgo _ _ I
-- JobTerminal$JobProcess take
def f_JobProcess_take (σ : q_St) (i : Nat) (p1 : Int32) : Option q_St := some (q_up (q_up σ 36 i p1) 35 i (((q_up σ 36 i p1) 35 i) + 1))
set_option maxHeartbeats 4000000 in
set_option maxRecDepth 100000 in
theorem c_JobProcess_take {l : Launch} {D : va_G} {ad : Nat → Nat} {cs : Nat → ClassId} {sz : Nat} {σ : q_St} {i : Nat} (hi : i < 8) {p1 : Int32} {res : q_St} (hf : f_JobProcess_take σ i p1 = some res) : Met l y_JobProcess_take w_JobProcess_take ({ frames := 0, cells := 0, slots := 0, locals := 0 } : Room) (q_Pre D vwCl (tyL cs) NW [.ref (ad (9 + i)), .int p1] (q_ws 33 ad (cC ad cs σ)) sz) (q_Qv D vwCl (q_ws 33 ad (cC ad cs res)) (va_A (q_ws 33 ad (cC ad cs σ)) sz)) 0 0 (va_A (q_ws 33 ad (cC ad cs σ)) sz) := by
  refine Met.ofW (cc := b_JobProcess_take) (maxL := 2) (ret := none) (by decide) rfl ?_
  intro p e s m args below meth c s₁ B hml hv
  obtain ⟨hargs, hsz, hP, hK, hD0, hN⟩ := hv
  have hx := B.exec
  have hb := B.bytes
  have hr := B.returns
  have hts := atoms_spec (ws := w_JobProcess_take) B.pre
  have hown : s.vm.findClass "JobTerminal$JobProcess" = some m.cls := findClass_of_methodNamed B.named
  have hlocks := B.notSynchronized
  have htg : ∀ w ∈ GW, w.before args s = true := fun w h => hts w (List.mem_cons_of_mem _ h)
  subst hsz
  have hD := hD0.self (sz := s.heap.size)
  generalize hAe : va_A (q_ws 33 ad (cC ad cs σ)) s.heap.size = A at hD ⊢
  have hA : ∀ q : Nat, s.heap.size ≤ q → A q := fun q h => by rw [← hAe]; exact Or.inr h
  have I : q_I D vwCl A s.heap (q_ws 33 ad (cC ad cs σ)) s.heap [] := ⟨hP, hD, va_S.rf⟩
  obtain ⟨ls, hen, hl⟩ := q_entry (vs := [.ref (ad (9 + i)), .int p1]) (n := 2) (lv := [(0, .ref (ad (9 + i))), (1, .int p1)]) (by intro v hv; simp only [List.mem_cons, List.not_mem_nil, or_false] at hv; rcases hv with rfl | rfl <;> first | rfl | exact q_cat) (Nat.le_of_ble_eq_true rfl) rfl
  rw [show entryFrame m args 2 = F0 m 0 ls [] from by rw [hargs]; exact hen m]
  have C0 : q_Cx "JobTerminal$JobProcess" b_JobProcess_take 2 none w_JobProcess_take D vwCl (tyL cs) NW p s m args meth c := ⟨hx, hb, hr, hml, hown, hts, hlocks, hK, hN⟩
  unfold f_JobProcess_take at hf
  have hgo : ∀ (H : Heap) (locs : List Loc), q_I D vwCl A s.heap (q_ws 33 ad (cC ad cs σ)) H locs → W p l e ({ frames := 0, cells := 0, slots := 0, locals := 0 } : Room) s m args below meth c H locs 0 0 (MQ below (q_Qv D vwCl (q_ws 33 ad (cC ad cs res)) A) args s 0 0 A) (F0 m 0 ls []) := by
    intro H locs I
    refine lv_aload_n hx hb d_JobProcess_take_0 rfl (q_at hl 0 rfl) ?_
    refine lv_iload_n hx hb d_JobProcess_take_1 rfl (q_at hl 1 rfl) ?_
    refine P_JobProcess_JobProcess_register hx hb htg hown hK hN I hi d_JobProcess_take_2 (fun H locs I => ?_)
    refine lv_aload_n hx hb d_JobProcess_take_5 rfl (q_at hl 0 rfl) ?_
    refine lv_dup hx hb d_JobProcess_take_6 rfl ?_
    refine G_JobProcess_JobProcess_line hx hb htg hown hK hN I hi d_JobProcess_take_7 ?_
    refine lv_iconst (v := 1) hx hb d_JobProcess_take_10 (by decide) ?_
    refine lv_iadd hx hb d_JobProcess_take_11 ?_
    refine P_JobProcess_JobProcess_line hx hb htg hown hK hN I hi d_JobProcess_take_12 (fun H locs I => ?_)
    cases hf
    exact q_vret hx hb hr hlocks I d_JobProcess_take_15
  exact hgo _ _ I
-- JobTerminal$JobProcess shuns
def f_JobProcess_shuns_21 (i : Nat) (σ : q_St) (y0 : Int32) : Option (Int32 × q_St) := q_grd (q_isB y0) (some (y0, σ))
set_option maxHeartbeats 4000000 in
set_option maxRecDepth 100000 in
theorem k_JobProcess_shuns_21 {p : Program} {l : Launch} {e : Env} {s : State} {m : MethodId} {args : Array Value} {below : List Frame} {meth : Method} {c : Code} {D : va_G} {A : Nat → Prop} {ad : Nat → Nat} {cs : Nat → ClassId} (C0 : q_Cx "JobTerminal$JobProcess" b_JobProcess_shuns 2 (some .boolean) w_JobProcess_shuns D vwCl (tyL cs) NW p s m args meth c) (hA : ∀ q, s.heap.size ≤ q → A q) {i : Nat} (hi : i < 8) (res : (Int32 × q_St)) : ∀ (σ : q_St) (y0 : Int32) , f_JobProcess_shuns_21 i σ y0 = some res → ∀ (H : Heap) (locs : List Loc), q_I D vwCl A s.heap (q_ws 33 ad (cC ad cs σ)) H locs → ∀ ls : Array Slot, q_has ls 2 [] → W p l e ({ frames := 0, cells := 0, slots := 0, locals := 0 } : Room) s m args below meth c H locs 0 0 (MQ below (q_Qi D vwCl res.1 (q_ws 33 ad (cC ad cs res.2)) A) args s 0 0 A) (F0 m 21 ls [.int y0]) := by
  intro σ y0 hf H locs I ls hl
  unfold f_JobProcess_shuns_21 at hf
  obtain ⟨hx, hb, hr, hml, hown, hts, hlocks, hK, hN⟩ := id C0
  have htg : ∀ w ∈ GW, w.before args s = true := fun w h => hts w (List.mem_cons_of_mem _ h)
  obtain ⟨o2, hf⟩ := q_grd_some hf
  cases hf
  exact q_zret hx hb hr hlocks o2 I d_JobProcess_shuns_21
def f_JobProcess_shuns (σ : q_St) (i : Nat) (p1 : Int32) : Option (Int32 × q_St) := if (((σ 39 i) ||| (σ 40 i)) &&& ((1 : Int32) <<< (p1 &&& 31))) = 0 then (f_JobProcess_shuns_21 i σ 0) else (f_JobProcess_shuns_21 i σ 1)
set_option maxHeartbeats 4000000 in
set_option maxRecDepth 100000 in
theorem c_JobProcess_shuns {l : Launch} {D : va_G} {ad : Nat → Nat} {cs : Nat → ClassId} {sz : Nat} {σ : q_St} {i : Nat} (hi : i < 8) {p1 : Int32} {res : (Int32 × q_St)} (hf : f_JobProcess_shuns σ i p1 = some res) : Met l y_JobProcess_shuns w_JobProcess_shuns ({ frames := 0, cells := 0, slots := 0, locals := 0 } : Room) (q_Pre D vwCl (tyL cs) NW [.ref (ad (9 + i)), .int p1] (q_ws 33 ad (cC ad cs σ)) sz) (q_Qi D vwCl res.1 (q_ws 33 ad (cC ad cs res.2)) (va_A (q_ws 33 ad (cC ad cs σ)) sz)) 0 0 (va_A (q_ws 33 ad (cC ad cs σ)) sz) := by
  refine Met.ofW (cc := b_JobProcess_shuns) (maxL := 2) (ret := (some .boolean)) (by decide) rfl ?_
  intro p e s m args below meth c s₁ B hml hv
  obtain ⟨hargs, hsz, hP, hK, hD0, hN⟩ := hv
  have hx := B.exec
  have hb := B.bytes
  have hr := B.returns
  have hts := atoms_spec (ws := w_JobProcess_shuns) B.pre
  have hown : s.vm.findClass "JobTerminal$JobProcess" = some m.cls := findClass_of_methodNamed B.named
  have hlocks := B.notSynchronized
  have htg : ∀ w ∈ GW, w.before args s = true := fun w h => hts w (List.mem_cons_of_mem _ h)
  subst hsz
  have hD := hD0.self (sz := s.heap.size)
  generalize hAe : va_A (q_ws 33 ad (cC ad cs σ)) s.heap.size = A at hD ⊢
  have hA : ∀ q : Nat, s.heap.size ≤ q → A q := fun q h => by rw [← hAe]; exact Or.inr h
  have I : q_I D vwCl A s.heap (q_ws 33 ad (cC ad cs σ)) s.heap [] := ⟨hP, hD, va_S.rf⟩
  obtain ⟨ls, hen, hl⟩ := q_entry (vs := [.ref (ad (9 + i)), .int p1]) (n := 2) (lv := [(0, .ref (ad (9 + i))), (1, .int p1)]) (by intro v hv; simp only [List.mem_cons, List.not_mem_nil, or_false] at hv; rcases hv with rfl | rfl <;> first | rfl | exact q_cat) (Nat.le_of_ble_eq_true rfl) rfl
  rw [show entryFrame m args 2 = F0 m 0 ls [] from by rw [hargs]; exact hen m]
  have C0 : q_Cx "JobTerminal$JobProcess" b_JobProcess_shuns 2 (some .boolean) w_JobProcess_shuns D vwCl (tyL cs) NW p s m args meth c := ⟨hx, hb, hr, hml, hown, hts, hlocks, hK, hN⟩
  unfold f_JobProcess_shuns at hf
  have hgo : ∀ (H : Heap) (locs : List Loc), q_I D vwCl A s.heap (q_ws 33 ad (cC ad cs σ)) H locs → W p l e ({ frames := 0, cells := 0, slots := 0, locals := 0 } : Room) s m args below meth c H locs 0 0 (MQ below (q_Qi D vwCl res.1 (q_ws 33 ad (cC ad cs res.2)) A) args s 0 0 A) (F0 m 0 ls []) := by
    intro H locs I
    refine lv_aload_n hx hb d_JobProcess_shuns_0 rfl (q_at hl 0 rfl) ?_
    refine G_JobProcess_JobProcess_blocked hx hb htg hown hK hN I hi d_JobProcess_shuns_1 ?_
    refine lv_aload_n hx hb d_JobProcess_shuns_4 rfl (q_at hl 0 rfl) ?_
    refine G_JobProcess_JobProcess_ignored hx hb htg hown hK hN I hi d_JobProcess_shuns_5 ?_
    refine lv_ior hx hb d_JobProcess_shuns_8 ?_
    refine lv_iconst (v := 1) hx hb d_JobProcess_shuns_9 (by decide) ?_
    refine lv_iload_n hx hb d_JobProcess_shuns_10 rfl (q_at hl 1 rfl) ?_
    refine lv_ishl hx hb d_JobProcess_shuns_11 ?_
    refine lv_iand hx hb d_JobProcess_shuns_12 ?_
    refine lv_if_eq (tgt := 20) hx hb d_JobProcess_shuns_13 (by decide) (fun c1 => ?_) (fun c1 => ?_)
    · rw [if_pos c1] at hf
      refine lv_iconst (v := 0) hx hb d_JobProcess_shuns_20 (by decide) ?_
      exact k_JobProcess_shuns_21 C0 hA hi res σ 0 hf H locs I ls (q_hsub hl [] rfl)
    · rw [if_neg c1] at hf
      refine lv_iconst (v := 1) hx hb d_JobProcess_shuns_16 (by decide) ?_
      refine lv_goto (tgt := 21) hx hb d_JobProcess_shuns_17 (by decide) ?_
      exact k_JobProcess_shuns_21 C0 hA hi res σ 1 hf H locs I ls (q_hsub hl [] rfl)
  exact hgo _ _ I
-- JobTerminal$JobProcess fail
def f_JobProcess_fail (σ : q_St) (i : Nat) : Option q_St := some (q_up (q_up σ 36 i (-2)) 35 i (((q_up σ 36 i (-2)) 35 i) + 1))
set_option maxHeartbeats 4000000 in
set_option maxRecDepth 100000 in
theorem c_JobProcess_fail {l : Launch} {D : va_G} {ad : Nat → Nat} {cs : Nat → ClassId} {sz : Nat} {σ : q_St} {i : Nat} (hi : i < 8) {res : q_St} (hf : f_JobProcess_fail σ i  = some res) : Met l y_JobProcess_fail w_JobProcess_fail ({ frames := 0, cells := 0, slots := 0, locals := 0 } : Room) (q_Pre D vwCl (tyL cs) NW [.ref (ad (9 + i))] (q_ws 33 ad (cC ad cs σ)) sz) (q_Qv D vwCl (q_ws 33 ad (cC ad cs res)) (va_A (q_ws 33 ad (cC ad cs σ)) sz)) 0 0 (va_A (q_ws 33 ad (cC ad cs σ)) sz) := by
  refine Met.ofW (cc := b_JobProcess_fail) (maxL := 1) (ret := none) (by decide) rfl ?_
  intro p e s m args below meth c s₁ B hml hv
  obtain ⟨hargs, hsz, hP, hK, hD0, hN⟩ := hv
  have hx := B.exec
  have hb := B.bytes
  have hr := B.returns
  have hts := atoms_spec (ws := w_JobProcess_fail) B.pre
  have hown : s.vm.findClass "JobTerminal$JobProcess" = some m.cls := findClass_of_methodNamed B.named
  have hlocks := B.notSynchronized
  have htg : ∀ w ∈ GW, w.before args s = true := fun w h => hts w (List.mem_cons_of_mem _ h)
  subst hsz
  have hD := hD0.self (sz := s.heap.size)
  generalize hAe : va_A (q_ws 33 ad (cC ad cs σ)) s.heap.size = A at hD ⊢
  have hA : ∀ q : Nat, s.heap.size ≤ q → A q := fun q h => by rw [← hAe]; exact Or.inr h
  have I : q_I D vwCl A s.heap (q_ws 33 ad (cC ad cs σ)) s.heap [] := ⟨hP, hD, va_S.rf⟩
  obtain ⟨ls, hen, hl⟩ := q_entry (vs := [.ref (ad (9 + i))]) (n := 1) (lv := [(0, .ref (ad (9 + i)))]) (by intro v hv; simp only [List.mem_cons, List.not_mem_nil, or_false] at hv; rcases hv with rfl <;> first | rfl | exact q_cat) (Nat.le_of_ble_eq_true rfl) rfl
  rw [show entryFrame m args 1 = F0 m 0 ls [] from by rw [hargs]; exact hen m]
  have C0 : q_Cx "JobTerminal$JobProcess" b_JobProcess_fail 1 none w_JobProcess_fail D vwCl (tyL cs) NW p s m args meth c := ⟨hx, hb, hr, hml, hown, hts, hlocks, hK, hN⟩
  unfold f_JobProcess_fail at hf
  have hgo : ∀ (H : Heap) (locs : List Loc), q_I D vwCl A s.heap (q_ws 33 ad (cC ad cs σ)) H locs → W p l e ({ frames := 0, cells := 0, slots := 0, locals := 0 } : Room) s m args below meth c H locs 0 0 (MQ below (q_Qv D vwCl (q_ws 33 ad (cC ad cs res)) A) args s 0 0 A) (F0 m 0 ls []) := by
    intro H locs I
    refine lv_aload_n hx hb d_JobProcess_fail_0 rfl (q_at hl 0 rfl) ?_
    refine lv_bipush (v := -2) hx hb d_JobProcess_fail_1 (by decide) ?_
    refine P_JobProcess_JobProcess_register hx hb htg hown hK hN I hi d_JobProcess_fail_3 (fun H locs I => ?_)
    refine lv_aload_n hx hb d_JobProcess_fail_6 rfl (q_at hl 0 rfl) ?_
    refine lv_dup hx hb d_JobProcess_fail_7 rfl ?_
    refine G_JobProcess_JobProcess_line hx hb htg hown hK hN I hi d_JobProcess_fail_8 ?_
    refine lv_iconst (v := 1) hx hb d_JobProcess_fail_11 (by decide) ?_
    refine lv_iadd hx hb d_JobProcess_fail_12 ?_
    refine P_JobProcess_JobProcess_line hx hb htg hown hK hN I hi d_JobProcess_fail_13 (fun H locs I => ?_)
    cases hf
    exact q_vret hx hb hr hlocks I d_JobProcess_fail_16
  exact hgo _ _ I
-- JobTerminal$JobProcess runOwnOp
def f_JobProcess_runOwnOp_210 (i : Nat) (σ : q_St) : Option q_St := some σ
set_option maxHeartbeats 4000000 in
set_option maxRecDepth 100000 in
theorem k_JobProcess_runOwnOp_210 {p : Program} {l : Launch} {e : Env} {s : State} {m : MethodId} {args : Array Value} {below : List Frame} {meth : Method} {c : Code} {D : va_G} {A : Nat → Prop} {ad : Nat → Nat} {cs : Nat → ClassId} (C0 : q_Cx "JobTerminal$JobProcess" b_JobProcess_runOwnOp 4 none w_JobProcess_runOwnOp D vwCl (tyL cs) NW p s m args meth c) (hA : ∀ q, s.heap.size ≤ q → A q) {i : Nat} (hi : i < 8) (res : q_St) : ∀ (σ : q_St) , f_JobProcess_runOwnOp_210 i σ  = some res → ∀ (H : Heap) (locs : List Loc), q_I D vwCl A s.heap (q_ws 33 ad (cC ad cs σ)) H locs → ∀ ls : Array Slot, q_has ls 4 [] → W p l e ({ frames := 3, cells := 0, slots := 0, locals := 64 } : Room) s m args below meth c H locs 0 0 (MQ below (q_Qv D vwCl (q_ws 33 ad (cC ad cs res)) A) args s 0 0 A) (F0 m 210 ls []) := by
  intro σ  hf H locs I ls hl
  unfold f_JobProcess_runOwnOp_210 at hf
  obtain ⟨hx, hb, hr, hml, hown, hts, hlocks, hK, hN⟩ := id C0
  have htg : ∀ w ∈ GW, w.before args s = true := fun w h => hts w (List.mem_cons_of_mem _ h)
  cases hf
  exact q_vret hx hb hr hlocks I d_JobProcess_runOwnOp_210
def f_JobProcess_runOwnOp_90 (i : Nat) (σ : q_St) (y0 : Int32) : Option q_St := f_JobProcess_runOwnOp_210 i (q_up σ 35 i y0)
set_option maxHeartbeats 4000000 in
set_option maxRecDepth 100000 in
theorem k_JobProcess_runOwnOp_90 {p : Program} {l : Launch} {e : Env} {s : State} {m : MethodId} {args : Array Value} {below : List Frame} {meth : Method} {c : Code} {D : va_G} {A : Nat → Prop} {ad : Nat → Nat} {cs : Nat → ClassId} (C0 : q_Cx "JobTerminal$JobProcess" b_JobProcess_runOwnOp 4 none w_JobProcess_runOwnOp D vwCl (tyL cs) NW p s m args meth c) (hA : ∀ q, s.heap.size ≤ q → A q) {i : Nat} (hi : i < 8) (res : q_St) : ∀ (σ : q_St) (y0 : Int32) , f_JobProcess_runOwnOp_90 i σ y0 = some res → ∀ (H : Heap) (locs : List Loc), q_I D vwCl A s.heap (q_ws 33 ad (cC ad cs σ)) H locs → ∀ ls : Array Slot, q_has ls 4 [] → W p l e ({ frames := 3, cells := 0, slots := 0, locals := 64 } : Room) s m args below meth c H locs 0 0 (MQ below (q_Qv D vwCl (q_ws 33 ad (cC ad cs res)) A) args s 0 0 A) (F0 m 90 ls [.int y0, .ref (ad (9 + i))]) := by
  intro σ y0 hf H locs I ls hl
  unfold f_JobProcess_runOwnOp_90 at hf
  obtain ⟨hx, hb, hr, hml, hown, hts, hlocks, hK, hN⟩ := id C0
  have htg : ∀ w ∈ GW, w.before args s = true := fun w h => hts w (List.mem_cons_of_mem _ h)
  refine P_JobProcess_JobProcess_line hx hb htg hown hK hN I hi d_JobProcess_runOwnOp_90 (fun H locs I => ?_)
  refine lv_goto (tgt := 210) hx hb d_JobProcess_runOwnOp_93 (by decide) ?_
  exact k_JobProcess_runOwnOp_210 C0 hA hi res (q_up σ 35 i y0) hf H locs I ls (q_hsub hl [] rfl)
def f_JobProcess_runOwnOp (σ : q_St) (i : Nat) (p1 : Int32) (p2 : Int32) : Option q_St := if p1 = (4 : Int32) then (f_JobProcess_runOwnOp_210 i (q_up (q_up σ 35 i ((σ 35 i) + 1)) 35 i (p2 &&& 15))) else (if p1 = (5 : Int32) then (if 0 ≤ ((q_up σ 35 i ((σ 35 i) + 1)) 36 i) then (f_JobProcess_runOwnOp_90 i (q_up σ 35 i ((σ 35 i) + 1)) ((q_up σ 35 i ((σ 35 i) + 1)) 35 i)) else (f_JobProcess_runOwnOp_90 i (q_up σ 35 i ((σ 35 i) + 1)) (p2 &&& 15))) else (if p1 = (6 : Int32) then (q_bnd (f_JobProcess_actOnPending (q_up (q_up σ 35 i ((σ 35 i) + 1)) 39 i (p2 &&& 919)) i) (fun r5 => f_JobProcess_runOwnOp_210 i r5)) else (if p1 = (7 : Int32) then (f_JobProcess_runOwnOp_210 i (q_up (q_up (q_up σ 35 i ((σ 35 i) + 1)) 40 i (p2 &&& 919)) 38 i (((q_up (q_up σ 35 i ((σ 35 i) + 1)) 40 i (p2 &&& 919)) 38 i) &&& (((q_up (q_up σ 35 i ((σ 35 i) + 1)) 40 i (p2 &&& 919)) 40 i) ^^^ (-1))))) else (if p1 = (8 : Int32) then (f_JobProcess_runOwnOp_210 i (q_up (q_up σ 35 i ((σ 35 i) + 1)) 41 i (p2 &&& 7))) else (if p1 = (9 : Int32) then (if 9 < (p2 &&& 15) then (f_JobProcess_runOwnOp_210 i (q_up σ 35 i ((σ 35 i) + 1))) else (q_bnd (f_JobProcess_receive (q_up σ 35 i ((σ 35 i) + 1)) i (p2 &&& 15)) (fun r11 => f_JobProcess_runOwnOp_210 i r11))) else (if p1 = (10 : Int32) then (f_JobProcess_runOwnOp_210 i (q_up (q_up σ 35 i ((σ 35 i) + 1)) 36 i p2)) else (if p1 = (11 : Int32) then (f_JobProcess_runOwnOp_210 i (q_up (q_up σ 35 i ((σ 35 i) + 1)) 36 i (((q_up σ 35 i ((σ 35 i) + 1)) 36 i) + p2))) else (f_JobProcess_runOwnOp_210 i (q_up (q_up (q_up (q_up σ 35 i ((σ 35 i) + 1)) 33 i 3) 37 i (p2 &&& 255)) 35 i (σ 35 i))))))))))
set_option maxHeartbeats 4000000 in
set_option maxRecDepth 100000 in
theorem c_JobProcess_runOwnOp {l : Launch} {D : va_G} {ad : Nat → Nat} {cs : Nat → ClassId} {sz : Nat} {σ : q_St} {i : Nat} (hi : i < 8) {p1 : Int32} {p2 : Int32} {res : q_St} (hf : f_JobProcess_runOwnOp σ i p1 p2 = some res) : Met l y_JobProcess_runOwnOp w_JobProcess_runOwnOp ({ frames := 3, cells := 0, slots := 0, locals := 64 } : Room) (q_Pre D vwCl (tyL cs) NW [.ref (ad (9 + i)), .int p1, .int p2] (q_ws 33 ad (cC ad cs σ)) sz) (q_Qv D vwCl (q_ws 33 ad (cC ad cs res)) (va_A (q_ws 33 ad (cC ad cs σ)) sz)) 0 0 (va_A (q_ws 33 ad (cC ad cs σ)) sz) := by
  refine Met.ofW (cc := b_JobProcess_runOwnOp) (maxL := 4) (ret := none) (by decide) rfl ?_
  intro p e s m args below meth c s₁ B hml hv
  obtain ⟨hargs, hsz, hP, hK, hD0, hN⟩ := hv
  have hx := B.exec
  have hb := B.bytes
  have hr := B.returns
  have hts := atoms_spec (ws := w_JobProcess_runOwnOp) B.pre
  have hown : s.vm.findClass "JobTerminal$JobProcess" = some m.cls := findClass_of_methodNamed B.named
  have hlocks := B.notSynchronized
  have htg : ∀ w ∈ GW, w.before args s = true := fun w h => hts w (List.mem_cons_of_mem _ h)
  subst hsz
  have hD := hD0.self (sz := s.heap.size)
  generalize hAe : va_A (q_ws 33 ad (cC ad cs σ)) s.heap.size = A at hD ⊢
  have hA : ∀ q : Nat, s.heap.size ≤ q → A q := fun q h => by rw [← hAe]; exact Or.inr h
  have I : q_I D vwCl A s.heap (q_ws 33 ad (cC ad cs σ)) s.heap [] := ⟨hP, hD, va_S.rf⟩
  obtain ⟨ls, hen, hl⟩ := q_entry (vs := [.ref (ad (9 + i)), .int p1, .int p2]) (n := 4) (lv := [(0, .ref (ad (9 + i))), (1, .int p1), (2, .int p2)]) (by intro v hv; simp only [List.mem_cons, List.not_mem_nil, or_false] at hv; rcases hv with rfl | rfl | rfl <;> first | rfl | exact q_cat) (Nat.le_of_ble_eq_true rfl) rfl
  rw [show entryFrame m args 4 = F0 m 0 ls [] from by rw [hargs]; exact hen m]
  have C0 : q_Cx "JobTerminal$JobProcess" b_JobProcess_runOwnOp 4 none w_JobProcess_runOwnOp D vwCl (tyL cs) NW p s m args meth c := ⟨hx, hb, hr, hml, hown, hts, hlocks, hK, hN⟩
  unfold f_JobProcess_runOwnOp at hf
  have hgo : ∀ (H : Heap) (locs : List Loc), q_I D vwCl A s.heap (q_ws 33 ad (cC ad cs σ)) H locs → W p l e ({ frames := 3, cells := 0, slots := 0, locals := 64 } : Room) s m args below meth c H locs 0 0 (MQ below (q_Qv D vwCl (q_ws 33 ad (cC ad cs res)) A) args s 0 0 A) (F0 m 0 ls []) := by
    intro H locs I
    refine lv_aload_n hx hb d_JobProcess_runOwnOp_0 rfl (q_at hl 0 rfl) ?_
    refine G_JobProcess_JobProcess_line hx hb htg hown hK hN I hi d_JobProcess_runOwnOp_1 ?_
    refine q_istore_n (lv' := [(3, .int (σ 35 i)), (0, .ref (ad (9 + i))), (1, .int p1), (2, .int p2)]) hx hb d_JobProcess_runOwnOp_4 rfl hl (by decide) rfl (fun ls hl => ?_)
    refine lv_aload_n hx hb d_JobProcess_runOwnOp_5 rfl (q_at hl 1 rfl) ?_
    refine lv_iload_n hx hb d_JobProcess_runOwnOp_6 rfl (q_at hl 0 rfl) ?_
    refine lv_iconst (v := 1) hx hb d_JobProcess_runOwnOp_7 (by decide) ?_
    refine lv_iadd hx hb d_JobProcess_runOwnOp_8 ?_
    refine P_JobProcess_JobProcess_line hx hb htg hown hK hN I hi d_JobProcess_runOwnOp_9 (fun H locs I => ?_)
    refine lv_iload_n hx hb d_JobProcess_runOwnOp_12 rfl (q_at hl 2 rfl) ?_
    by_cases c1 : p1 = (4 : Int32)
    · rw [if_pos c1] at hf
      refine lv_tableIn (tgt := 60) hx hb d_JobProcess_runOwnOp_13 (by rw [c1] <;> decide) (by rw [c1] <;> decide) (by rw [c1] <;> rfl) (by decide) ?_
      refine lv_aload_n hx hb d_JobProcess_runOwnOp_60 rfl (q_at hl 1 rfl) ?_
      refine lv_iload_n hx hb d_JobProcess_runOwnOp_61 rfl (q_at hl 3 rfl) ?_
      refine lv_bipush (v := 15) hx hb d_JobProcess_runOwnOp_62 (by decide) ?_
      refine lv_iand hx hb d_JobProcess_runOwnOp_64 ?_
      refine P_JobProcess_JobProcess_line hx hb htg hown hK hN I hi d_JobProcess_runOwnOp_65 (fun H locs I => ?_)
      refine lv_goto (tgt := 210) hx hb d_JobProcess_runOwnOp_68 (by decide) ?_
      exact k_JobProcess_runOwnOp_210 C0 hA hi res (q_up (q_up σ 35 i ((σ 35 i) + 1)) 35 i (p2 &&& 15)) hf H locs I ls (q_hsub hl [] rfl)
    rw [if_neg c1] at hf
    by_cases c2 : p1 = (5 : Int32)
    · rw [if_pos c2] at hf
      refine lv_tableIn (tgt := 71) hx hb d_JobProcess_runOwnOp_13 (by rw [c2] <;> decide) (by rw [c2] <;> decide) (by rw [c2] <;> rfl) (by decide) ?_
      refine lv_aload_n hx hb d_JobProcess_runOwnOp_71 rfl (q_at hl 1 rfl) ?_
      refine lv_aload_n hx hb d_JobProcess_runOwnOp_72 rfl (q_at hl 1 rfl) ?_
      refine G_JobProcess_JobProcess_register hx hb htg hown hK hN I hi d_JobProcess_runOwnOp_73 ?_
      refine lv_if_ge (tgt := 86) hx hb d_JobProcess_runOwnOp_76 (by decide) (fun c3 => ?_) (fun c3 => ?_)
      · rw [if_pos c3] at hf
        refine lv_aload_n hx hb d_JobProcess_runOwnOp_86 rfl (q_at hl 1 rfl) ?_
        refine G_JobProcess_JobProcess_line hx hb htg hown hK hN I hi d_JobProcess_runOwnOp_87 ?_
        exact k_JobProcess_runOwnOp_90 C0 hA hi res (q_up σ 35 i ((σ 35 i) + 1)) ((q_up σ 35 i ((σ 35 i) + 1)) 35 i) hf H locs I ls (q_hsub hl [] rfl)
      · rw [if_neg c3] at hf
        refine lv_iload_n hx hb d_JobProcess_runOwnOp_79 rfl (q_at hl 3 rfl) ?_
        refine lv_bipush (v := 15) hx hb d_JobProcess_runOwnOp_80 (by decide) ?_
        refine lv_iand hx hb d_JobProcess_runOwnOp_82 ?_
        refine lv_goto (tgt := 90) hx hb d_JobProcess_runOwnOp_83 (by decide) ?_
        exact k_JobProcess_runOwnOp_90 C0 hA hi res (q_up σ 35 i ((σ 35 i) + 1)) (p2 &&& 15) hf H locs I ls (q_hsub hl [] rfl)
    rw [if_neg c2] at hf
    by_cases c4 : p1 = (6 : Int32)
    · rw [if_pos c4] at hf
      refine lv_tableIn (tgt := 96) hx hb d_JobProcess_runOwnOp_13 (by rw [c4] <;> decide) (by rw [c4] <;> decide) (by rw [c4] <;> rfl) (by decide) ?_
      refine lv_aload_n hx hb d_JobProcess_runOwnOp_96 rfl (q_at hl 1 rfl) ?_
      refine lv_iload_n hx hb d_JobProcess_runOwnOp_97 rfl (q_at hl 3 rfl) ?_
      refine lv_sipush (v := 919) hx hb d_JobProcess_runOwnOp_98 (by decide) ?_
      refine lv_iand hx hb d_JobProcess_runOwnOp_101 ?_
      refine P_JobProcess_JobProcess_blocked hx hb htg hown hK hN I hi d_JobProcess_runOwnOp_102 (fun H locs I => ?_)
      refine lv_aload_n hx hb d_JobProcess_runOwnOp_105 rfl (q_at hl 1 rfl) ?_
      obtain ⟨r5, e6, hf⟩ := q_bnd_some hf
      refine q_kv hA I (q_runV (C := "JobTerminal$JobProcess") (As := []) (rest := []) ⟨hx, hb, hml, hown, hts⟩ (c_JobProcess_actOnPending (sz := H.size) hi e6) (cwV 0 hts (q_goodV mw159 mw160 mw161 mw162 mw158) rfl rfl rfl (by decide +kernel) ⟨Nat.le_of_ble_eq_true rfl, Nat.le_of_ble_eq_true rfl⟩) NW_ok hK hN I rfl (q_wsE (Nat.lt_of_lt_of_le (Nat.add_lt_add_left hi _) (by decide)) (a_C_JobProcess hi)) rfl (q_sz hl) rfl (Nat.le_of_ble_eq_true rfl) d_JobProcess_runOwnOp_106 ⟨Nat.zero_le _, Nat.zero_le _⟩) (fun H locs I => ?_)
      refine lv_goto (tgt := 210) hx hb d_JobProcess_runOwnOp_109 (by decide) ?_
      exact k_JobProcess_runOwnOp_210 C0 hA hi res r5 hf H locs I ls (q_hsub hl [] rfl)
    rw [if_neg c4] at hf
    by_cases c7 : p1 = (7 : Int32)
    · rw [if_pos c7] at hf
      refine lv_tableIn (tgt := 112) hx hb d_JobProcess_runOwnOp_13 (by rw [c7] <;> decide) (by rw [c7] <;> decide) (by rw [c7] <;> rfl) (by decide) ?_
      refine lv_aload_n hx hb d_JobProcess_runOwnOp_112 rfl (q_at hl 1 rfl) ?_
      refine lv_iload_n hx hb d_JobProcess_runOwnOp_113 rfl (q_at hl 3 rfl) ?_
      refine lv_sipush (v := 919) hx hb d_JobProcess_runOwnOp_114 (by decide) ?_
      refine lv_iand hx hb d_JobProcess_runOwnOp_117 ?_
      refine P_JobProcess_JobProcess_ignored hx hb htg hown hK hN I hi d_JobProcess_runOwnOp_118 (fun H locs I => ?_)
      refine lv_aload_n hx hb d_JobProcess_runOwnOp_121 rfl (q_at hl 1 rfl) ?_
      refine lv_dup hx hb d_JobProcess_runOwnOp_122 rfl ?_
      refine G_JobProcess_JobProcess_pending hx hb htg hown hK hN I hi d_JobProcess_runOwnOp_123 ?_
      refine lv_aload_n hx hb d_JobProcess_runOwnOp_126 rfl (q_at hl 1 rfl) ?_
      refine G_JobProcess_JobProcess_ignored hx hb htg hown hK hN I hi d_JobProcess_runOwnOp_127 ?_
      refine lv_iconst (v := -1) hx hb d_JobProcess_runOwnOp_130 (by decide) ?_
      refine lv_ixor hx hb d_JobProcess_runOwnOp_131 ?_
      refine lv_iand hx hb d_JobProcess_runOwnOp_132 ?_
      refine P_JobProcess_JobProcess_pending hx hb htg hown hK hN I hi d_JobProcess_runOwnOp_133 (fun H locs I => ?_)
      refine lv_goto (tgt := 210) hx hb d_JobProcess_runOwnOp_136 (by decide) ?_
      exact k_JobProcess_runOwnOp_210 C0 hA hi res (q_up (q_up (q_up σ 35 i ((σ 35 i) + 1)) 40 i (p2 &&& 919)) 38 i (((q_up (q_up σ 35 i ((σ 35 i) + 1)) 40 i (p2 &&& 919)) 38 i) &&& (((q_up (q_up σ 35 i ((σ 35 i) + 1)) 40 i (p2 &&& 919)) 40 i) ^^^ (-1)))) hf H locs I ls (q_hsub hl [] rfl)
    rw [if_neg c7] at hf
    by_cases c8 : p1 = (8 : Int32)
    · rw [if_pos c8] at hf
      refine lv_tableIn (tgt := 139) hx hb d_JobProcess_runOwnOp_13 (by rw [c8] <;> decide) (by rw [c8] <;> decide) (by rw [c8] <;> rfl) (by decide) ?_
      refine lv_aload_n hx hb d_JobProcess_runOwnOp_139 rfl (q_at hl 1 rfl) ?_
      refine lv_iload_n hx hb d_JobProcess_runOwnOp_140 rfl (q_at hl 3 rfl) ?_
      refine lv_bipush (v := 7) hx hb d_JobProcess_runOwnOp_141 (by decide) ?_
      refine lv_iand hx hb d_JobProcess_runOwnOp_143 ?_
      refine P_JobProcess_JobProcess_nap hx hb htg hown hK hN I hi d_JobProcess_runOwnOp_144 (fun H locs I => ?_)
      refine lv_goto (tgt := 210) hx hb d_JobProcess_runOwnOp_147 (by decide) ?_
      exact k_JobProcess_runOwnOp_210 C0 hA hi res (q_up (q_up σ 35 i ((σ 35 i) + 1)) 41 i (p2 &&& 7)) hf H locs I ls (q_hsub hl [] rfl)
    rw [if_neg c8] at hf
    by_cases c9 : p1 = (9 : Int32)
    · rw [if_pos c9] at hf
      refine lv_tableIn (tgt := 150) hx hb d_JobProcess_runOwnOp_13 (by rw [c9] <;> decide) (by rw [c9] <;> decide) (by rw [c9] <;> rfl) (by decide) ?_
      refine lv_iload_n hx hb d_JobProcess_runOwnOp_150 rfl (q_at hl 3 rfl) ?_
      refine lv_bipush (v := 15) hx hb d_JobProcess_runOwnOp_151 (by decide) ?_
      refine lv_iand hx hb d_JobProcess_runOwnOp_153 ?_
      refine lv_bipush (v := 9) hx hb d_JobProcess_runOwnOp_154 (by decide) ?_
      refine lv_icmp_gt (tgt := 210) hx hb d_JobProcess_runOwnOp_156 (by decide) (fun c10 => ?_) (fun c10 => ?_)
      · rw [if_pos c10] at hf
        exact k_JobProcess_runOwnOp_210 C0 hA hi res (q_up σ 35 i ((σ 35 i) + 1)) hf H locs I ls (q_hsub hl [] rfl)
      · rw [if_neg c10] at hf
        refine lv_aload_n hx hb d_JobProcess_runOwnOp_159 rfl (q_at hl 1 rfl) ?_
        refine lv_iload_n hx hb d_JobProcess_runOwnOp_160 rfl (q_at hl 3 rfl) ?_
        refine lv_bipush (v := 15) hx hb d_JobProcess_runOwnOp_161 (by decide) ?_
        refine lv_iand hx hb d_JobProcess_runOwnOp_163 ?_
        obtain ⟨r11, e12, hf⟩ := q_bnd_some hf
        refine q_kv hA I (q_runV (C := "JobTerminal$JobProcess") (As := [.int (p2 &&& 15)]) (rest := []) ⟨hx, hb, hml, hown, hts⟩ (c_JobProcess_receive (sz := H.size) hi e12) (cwV 1 hts (q_goodV mw163 mw286 mw165 mw166 mw158) rfl rfl rfl (by decide +kernel) ⟨Nat.le_of_ble_eq_true rfl, Nat.le_of_ble_eq_true rfl⟩) NW_ok hK hN I rfl (q_wsE (Nat.lt_of_lt_of_le (Nat.add_lt_add_left hi _) (by decide)) (a_C_JobProcess hi)) rfl (q_sz hl) rfl (Nat.le_of_ble_eq_true rfl) d_JobProcess_runOwnOp_164 ⟨Nat.zero_le _, Nat.zero_le _⟩) (fun H locs I => ?_)
        refine lv_goto (tgt := 210) hx hb d_JobProcess_runOwnOp_167 (by decide) ?_
        exact k_JobProcess_runOwnOp_210 C0 hA hi res r11 hf H locs I ls (q_hsub hl [] rfl)
    rw [if_neg c9] at hf
    by_cases c13 : p1 = (10 : Int32)
    · rw [if_pos c13] at hf
      refine lv_tableIn (tgt := 170) hx hb d_JobProcess_runOwnOp_13 (by rw [c13] <;> decide) (by rw [c13] <;> decide) (by rw [c13] <;> rfl) (by decide) ?_
      refine lv_aload_n hx hb d_JobProcess_runOwnOp_170 rfl (q_at hl 1 rfl) ?_
      refine lv_iload_n hx hb d_JobProcess_runOwnOp_171 rfl (q_at hl 3 rfl) ?_
      refine P_JobProcess_JobProcess_register hx hb htg hown hK hN I hi d_JobProcess_runOwnOp_172 (fun H locs I => ?_)
      refine lv_goto (tgt := 210) hx hb d_JobProcess_runOwnOp_175 (by decide) ?_
      exact k_JobProcess_runOwnOp_210 C0 hA hi res (q_up (q_up σ 35 i ((σ 35 i) + 1)) 36 i p2) hf H locs I ls (q_hsub hl [] rfl)
    rw [if_neg c13] at hf
    by_cases c14 : p1 = (11 : Int32)
    · rw [if_pos c14] at hf
      refine lv_tableIn (tgt := 178) hx hb d_JobProcess_runOwnOp_13 (by rw [c14] <;> decide) (by rw [c14] <;> decide) (by rw [c14] <;> rfl) (by decide) ?_
      refine lv_aload_n hx hb d_JobProcess_runOwnOp_178 rfl (q_at hl 1 rfl) ?_
      refine lv_dup hx hb d_JobProcess_runOwnOp_179 rfl ?_
      refine G_JobProcess_JobProcess_register hx hb htg hown hK hN I hi d_JobProcess_runOwnOp_180 ?_
      refine lv_iload_n hx hb d_JobProcess_runOwnOp_183 rfl (q_at hl 3 rfl) ?_
      refine lv_iadd hx hb d_JobProcess_runOwnOp_184 ?_
      refine P_JobProcess_JobProcess_register hx hb htg hown hK hN I hi d_JobProcess_runOwnOp_185 (fun H locs I => ?_)
      refine lv_goto (tgt := 210) hx hb d_JobProcess_runOwnOp_188 (by decide) ?_
      exact k_JobProcess_runOwnOp_210 C0 hA hi res (q_up (q_up σ 35 i ((σ 35 i) + 1)) 36 i (((q_up σ 35 i ((σ 35 i) + 1)) 36 i) + p2)) hf H locs I ls (q_hsub hl [] rfl)
    rw [if_neg c14] at hf
    refine lv_tableOut (tgt := 191) hx hb d_JobProcess_runOwnOp_13 (by have := lv_neT (a := 4) c1 (by decide); have := lv_neT (a := 5) c2 (by decide); have := lv_neT (a := 6) c4 (by decide); have := lv_neT (a := 7) c7 (by decide); have := lv_neT (a := 8) c8 (by decide); have := lv_neT (a := 9) c9 (by decide); have := lv_neT (a := 10) c13 (by decide); have := lv_neT (a := 11) c14 (by decide); omega) (by decide) ?_
    refine lv_aload_n hx hb d_JobProcess_runOwnOp_191 rfl (q_at hl 1 rfl) ?_
    refine lv_iconst (v := 3) hx hb d_JobProcess_runOwnOp_192 (by decide) ?_
    refine P_JobProcess_JobProcess_state hx hb htg hown hK hN I hi d_JobProcess_runOwnOp_193 (fun H locs I => ?_)
    refine lv_aload_n hx hb d_JobProcess_runOwnOp_196 rfl (q_at hl 1 rfl) ?_
    refine lv_iload_n hx hb d_JobProcess_runOwnOp_197 rfl (q_at hl 3 rfl) ?_
    refine lv_sipush (v := 255) hx hb d_JobProcess_runOwnOp_198 (by decide) ?_
    refine lv_iand hx hb d_JobProcess_runOwnOp_201 ?_
    refine P_JobProcess_JobProcess_code hx hb htg hown hK hN I hi d_JobProcess_runOwnOp_202 (fun H locs I => ?_)
    refine lv_aload_n hx hb d_JobProcess_runOwnOp_205 rfl (q_at hl 1 rfl) ?_
    refine lv_iload_n hx hb d_JobProcess_runOwnOp_206 rfl (q_at hl 0 rfl) ?_
    refine P_JobProcess_JobProcess_line hx hb htg hown hK hN I hi d_JobProcess_runOwnOp_207 (fun H locs I => ?_)
    exact k_JobProcess_runOwnOp_210 C0 hA hi res (q_up (q_up (q_up (q_up σ 35 i ((σ 35 i) + 1)) 33 i 3) 37 i (p2 &&& 255)) 35 i (σ 35 i)) hf H locs I ls (q_hsub hl [] rfl)
  exact hgo _ _ I
-- JobTerminal$Terminal hangUp
def f_Terminal_hangUp (σ : q_St) : Option q_St := q_bnd (f_NumberRow_clear (q_up σ 23 0 1) 0) (fun r1 => q_bnd (f_NumberRow_clear r1 1) (fun r3 => some r3))
set_option maxHeartbeats 4000000 in
set_option maxRecDepth 100000 in
theorem c_Terminal_hangUp {l : Launch} {D : va_G} {ad : Nat → Nat} {cs : Nat → ClassId} {sz : Nat} {σ : q_St} {res : q_St} (hf : f_Terminal_hangUp σ  = some res) : Met l y_Terminal_hangUp w_Terminal_hangUp ({ frames := 1, cells := 0, slots := 0, locals := 20 } : Room) (q_Pre D vwCl (tyL cs) NW [.ref (ad 6)] (q_ws 33 ad (cC ad cs σ)) sz) (q_Qv D vwCl (q_ws 33 ad (cC ad cs res)) (va_A (q_ws 33 ad (cC ad cs σ)) sz)) 0 0 (va_A (q_ws 33 ad (cC ad cs σ)) sz) := by
  refine Met.ofW (cc := b_Terminal_hangUp) (maxL := 1) (ret := none) (by decide) rfl ?_
  intro p e s m args below meth c s₁ B hml hv
  obtain ⟨hargs, hsz, hP, hK, hD0, hN⟩ := hv
  have hx := B.exec
  have hb := B.bytes
  have hr := B.returns
  have hts := atoms_spec (ws := w_Terminal_hangUp) B.pre
  have hown : s.vm.findClass "JobTerminal$Terminal" = some m.cls := findClass_of_methodNamed B.named
  have hlocks := B.notSynchronized
  have htg : ∀ w ∈ GW, w.before args s = true := fun w h => hts w (List.mem_cons_of_mem _ h)
  subst hsz
  have hD := hD0.self (sz := s.heap.size)
  generalize hAe : va_A (q_ws 33 ad (cC ad cs σ)) s.heap.size = A at hD ⊢
  have hA : ∀ q : Nat, s.heap.size ≤ q → A q := fun q h => by rw [← hAe]; exact Or.inr h
  have I : q_I D vwCl A s.heap (q_ws 33 ad (cC ad cs σ)) s.heap [] := ⟨hP, hD, va_S.rf⟩
  obtain ⟨ls, hen, hl⟩ := q_entry (vs := [.ref (ad 6)]) (n := 1) (lv := [(0, .ref (ad 6))]) (by intro v hv; simp only [List.mem_cons, List.not_mem_nil, or_false] at hv; rcases hv with rfl <;> first | rfl | exact q_cat) (Nat.le_of_ble_eq_true rfl) rfl
  rw [show entryFrame m args 1 = F0 m 0 ls [] from by rw [hargs]; exact hen m]
  have C0 : q_Cx "JobTerminal$Terminal" b_Terminal_hangUp 1 none w_Terminal_hangUp D vwCl (tyL cs) NW p s m args meth c := ⟨hx, hb, hr, hml, hown, hts, hlocks, hK, hN⟩
  unfold f_Terminal_hangUp at hf
  have hgo : ∀ (H : Heap) (locs : List Loc), q_I D vwCl A s.heap (q_ws 33 ad (cC ad cs σ)) H locs → W p l e ({ frames := 1, cells := 0, slots := 0, locals := 20 } : Room) s m args below meth c H locs 0 0 (MQ below (q_Qv D vwCl (q_ws 33 ad (cC ad cs res)) A) args s 0 0 A) (F0 m 0 ls []) := by
    intro H locs I
    refine lv_aload_n hx hb d_Terminal_hangUp_0 rfl (q_at hl 0 rfl) ?_
    refine lv_iconst (v := 1) hx hb d_Terminal_hangUp_1 (by decide) ?_
    refine P_Terminal_Terminal_hangs hx hb htg hown hK hN I (by decide) d_Terminal_hangUp_2 (fun H locs I => ?_)
    refine lv_aload_n hx hb d_Terminal_hangUp_5 rfl (q_at hl 0 rfl) ?_
    refine G_Terminal_Terminal_edit hx hb htg hown hK hN I d_Terminal_hangUp_6 ?_
    obtain ⟨r1, e2, hf⟩ := q_bnd_some hf
    refine q_kv hA I (q_runV (C := "JobTerminal$NumberRow") (As := []) (rest := []) ⟨hx, hb, hml, hown, hts⟩ (c_NumberRow_clear (sz := H.size) (show (0 : Nat) < 6 by skip; omega) e2) (cwV 0 hts (q_goodV mw167 mw168 mw169 mw170 mw88) rfl rfl rfl (by decide +kernel) ⟨Nat.le_of_ble_eq_true rfl, Nat.le_of_ble_eq_true rfl⟩) NW_ok hK hN I rfl (q_wsE (Nat.lt_of_lt_of_le (Nat.add_lt_add_left (show (0 : Nat) < 6 by skip; omega) _) (by decide)) (a_C_NumberRow (show (0 : Nat) < 6 by skip; omega))) rfl (q_sz hl) rfl (Nat.le_of_ble_eq_true rfl) d_Terminal_hangUp_9 ⟨Nat.zero_le _, Nat.zero_le _⟩) (fun H locs I => ?_)
    refine lv_aload_n hx hb d_Terminal_hangUp_12 rfl (q_at hl 0 rfl) ?_
    refine G_Terminal_Terminal_queue hx hb htg hown hK hN I d_Terminal_hangUp_13 ?_
    obtain ⟨r3, e4, hf⟩ := q_bnd_some hf
    refine q_kv hA I (q_runV (C := "JobTerminal$NumberRow") (As := []) (rest := []) ⟨hx, hb, hml, hown, hts⟩ (c_NumberRow_clear (sz := H.size) (show (1 : Nat) < 6 by skip; omega) e4) (cwV 0 hts (q_goodV mw167 mw168 mw169 mw170 mw88) rfl rfl rfl (by decide +kernel) ⟨Nat.le_of_ble_eq_true rfl, Nat.le_of_ble_eq_true rfl⟩) NW_ok hK hN I rfl (q_wsE (Nat.lt_of_lt_of_le (Nat.add_lt_add_left (show (1 : Nat) < 6 by skip; omega) _) (by decide)) (a_C_NumberRow (show (1 : Nat) < 6 by skip; omega))) rfl (q_sz hl) rfl (Nat.le_of_ble_eq_true rfl) d_Terminal_hangUp_16 ⟨Nat.zero_le _, Nat.zero_le _⟩) (fun H locs I => ?_)
    cases hf
    exact q_vret hx hb hr hlocks I d_Terminal_hangUp_19
  exact hgo _ _ I
-- JobTerminal$Job receiveHangUp
def f_Job_receiveHangUp (σ : q_St) (i : Nat) : Option q_St := q_bnd (f_Job_receive σ i 0) (fun r1 => q_bnd (f_Job_receive r1 i 5) (fun r3 => some r3))
set_option maxHeartbeats 4000000 in
set_option maxRecDepth 100000 in
theorem c_Job_receiveHangUp {l : Launch} {D : va_G} {ad : Nat → Nat} {cs : Nat → ClassId} {sz : Nat} {σ : q_St} {i : Nat} (hi : i < 4) {res : q_St} (hf : f_Job_receiveHangUp σ i  = some res) : Met l y_Job_receiveHangUp w_Job_receiveHangUp ({ frames := 4, cells := 0, slots := 0, locals := 85 } : Room) (q_Pre D vwCl (tyL cs) NW [.ref (ad (17 + i))] (q_ws 33 ad (cC ad cs σ)) sz) (q_Qv D vwCl (q_ws 33 ad (cC ad cs res)) (va_A (q_ws 33 ad (cC ad cs σ)) sz)) 0 0 (va_A (q_ws 33 ad (cC ad cs σ)) sz) := by
  refine Met.ofW (cc := b_Job_receiveHangUp) (maxL := 1) (ret := none) (by decide) rfl ?_
  intro p e s m args below meth c s₁ B hml hv
  obtain ⟨hargs, hsz, hP, hK, hD0, hN⟩ := hv
  have hx := B.exec
  have hb := B.bytes
  have hr := B.returns
  have hts := atoms_spec (ws := w_Job_receiveHangUp) B.pre
  have hown : s.vm.findClass "JobTerminal$Job" = some m.cls := findClass_of_methodNamed B.named
  have hlocks := B.notSynchronized
  have htg : ∀ w ∈ GW, w.before args s = true := fun w h => hts w (List.mem_cons_of_mem _ h)
  subst hsz
  have hD := hD0.self (sz := s.heap.size)
  generalize hAe : va_A (q_ws 33 ad (cC ad cs σ)) s.heap.size = A at hD ⊢
  have hA : ∀ q : Nat, s.heap.size ≤ q → A q := fun q h => by rw [← hAe]; exact Or.inr h
  have I : q_I D vwCl A s.heap (q_ws 33 ad (cC ad cs σ)) s.heap [] := ⟨hP, hD, va_S.rf⟩
  obtain ⟨ls, hen, hl⟩ := q_entry (vs := [.ref (ad (17 + i))]) (n := 1) (lv := [(0, .ref (ad (17 + i)))]) (by intro v hv; simp only [List.mem_cons, List.not_mem_nil, or_false] at hv; rcases hv with rfl <;> first | rfl | exact q_cat) (Nat.le_of_ble_eq_true rfl) rfl
  rw [show entryFrame m args 1 = F0 m 0 ls [] from by rw [hargs]; exact hen m]
  have C0 : q_Cx "JobTerminal$Job" b_Job_receiveHangUp 1 none w_Job_receiveHangUp D vwCl (tyL cs) NW p s m args meth c := ⟨hx, hb, hr, hml, hown, hts, hlocks, hK, hN⟩
  unfold f_Job_receiveHangUp at hf
  have hgo : ∀ (H : Heap) (locs : List Loc), q_I D vwCl A s.heap (q_ws 33 ad (cC ad cs σ)) H locs → W p l e ({ frames := 4, cells := 0, slots := 0, locals := 85 } : Room) s m args below meth c H locs 0 0 (MQ below (q_Qv D vwCl (q_ws 33 ad (cC ad cs res)) A) args s 0 0 A) (F0 m 0 ls []) := by
    intro H locs I
    refine lv_aload_n hx hb d_Job_receiveHangUp_0 rfl (q_at hl 0 rfl) ?_
    refine lv_iconst (v := 0) hx hb d_Job_receiveHangUp_1 (by decide) ?_
    obtain ⟨r1, e2, hf⟩ := q_bnd_some hf
    refine q_kv hA I (q_runV (C := "JobTerminal$Job") (As := [.int 0]) (rest := []) ⟨hx, hb, hml, hown, hts⟩ (c_Job_receive (sz := H.size) hi e2) (cwV 1 hts (q_goodV mw193 mw311 mw195 mw196 mw179) rfl rfl rfl (by decide +kernel) ⟨Nat.le_of_ble_eq_true rfl, Nat.le_of_ble_eq_true rfl⟩) NW_ok hK hN I rfl (q_wsE (Nat.lt_of_lt_of_le (Nat.add_lt_add_left hi _) (by decide)) (a_C_Job hi)) rfl (q_sz hl) rfl (Nat.le_of_ble_eq_true rfl) d_Job_receiveHangUp_2 ⟨Nat.zero_le _, Nat.zero_le _⟩) (fun H locs I => ?_)
    refine lv_aload_n hx hb d_Job_receiveHangUp_5 rfl (q_at hl 0 rfl) ?_
    refine lv_iconst (v := 5) hx hb d_Job_receiveHangUp_6 (by decide) ?_
    obtain ⟨r3, e4, hf⟩ := q_bnd_some hf
    refine q_kv hA I (q_runV (C := "JobTerminal$Job") (As := [.int 5]) (rest := []) ⟨hx, hb, hml, hown, hts⟩ (c_Job_receive (sz := H.size) hi e4) (cwV 1 hts (q_goodV mw193 mw311 mw195 mw196 mw179) rfl rfl rfl (by decide +kernel) ⟨Nat.le_of_ble_eq_true rfl, Nat.le_of_ble_eq_true rfl⟩) NW_ok hK hN I rfl (q_wsE (Nat.lt_of_lt_of_le (Nat.add_lt_add_left hi _) (by decide)) (a_C_Job hi)) rfl (q_sz hl) rfl (Nat.le_of_ble_eq_true rfl) d_Job_receiveHangUp_7 ⟨Nat.zero_le _, Nat.zero_le _⟩) (fun H locs I => ?_)
    cases hf
    exact q_vret hx hb hr hlocks I d_Job_receiveHangUp_10
  exact hgo _ _ I
-- JobTerminal$JobProcess look
def f_JobProcess_look (σ : q_St) (i : Nat) (p1 : Int32) : Option (Int32 × q_St) := if (σ 32 i) < 0 then (some (-1, σ)) else (if p1 = (0 : Int32) then (some (σ 33 i, σ)) else (if p1 = (1 : Int32) then (q_grd (q_in (σ 32 i) 4) (some (nI ((σ 32 i).toNatClampNeg), σ))) else (if p1 = (2 : Int32) then (some (σ 35 i, σ)) else (if p1 = (3 : Int32) then (some (σ 36 i, σ)) else (if p1 = (4 : Int32) then (some (σ 38 i, σ)) else (if p1 = (5 : Int32) then (some (σ 39 i, σ)) else (if p1 = (6 : Int32) then (some (σ 40 i, σ)) else (if p1 = (7 : Int32) then (some (σ 41 i, σ)) else (if p1 = (8 : Int32) then (some (σ 37 i, σ)) else (some (-1, σ)))))))))))
set_option maxHeartbeats 4000000 in
set_option maxRecDepth 100000 in
theorem c_JobProcess_look {l : Launch} {D : va_G} {ad : Nat → Nat} {cs : Nat → ClassId} {sz : Nat} {σ : q_St} {i : Nat} (hi : i < 8) {p1 : Int32} {res : (Int32 × q_St)} (hf : f_JobProcess_look σ i p1 = some res) : Met l y_JobProcess_look w_JobProcess_look ({ frames := 0, cells := 0, slots := 0, locals := 0 } : Room) (q_Pre D vwCl (tyL cs) NW [.ref (ad (9 + i)), .int p1] (q_ws 33 ad (cC ad cs σ)) sz) (q_Qi D vwCl res.1 (q_ws 33 ad (cC ad cs res.2)) (va_A (q_ws 33 ad (cC ad cs σ)) sz)) 0 0 (va_A (q_ws 33 ad (cC ad cs σ)) sz) := by
  refine Met.ofW (cc := b_JobProcess_look) (maxL := 2) (ret := (some .int)) (by decide) rfl ?_
  intro p e s m args below meth c s₁ B hml hv
  obtain ⟨hargs, hsz, hP, hK, hD0, hN⟩ := hv
  have hx := B.exec
  have hb := B.bytes
  have hr := B.returns
  have hts := atoms_spec (ws := w_JobProcess_look) B.pre
  have hown : s.vm.findClass "JobTerminal$JobProcess" = some m.cls := findClass_of_methodNamed B.named
  have hlocks := B.notSynchronized
  have htg : ∀ w ∈ GW, w.before args s = true := fun w h => hts w (List.mem_cons_of_mem _ h)
  subst hsz
  have hD := hD0.self (sz := s.heap.size)
  generalize hAe : va_A (q_ws 33 ad (cC ad cs σ)) s.heap.size = A at hD ⊢
  have hA : ∀ q : Nat, s.heap.size ≤ q → A q := fun q h => by rw [← hAe]; exact Or.inr h
  have I : q_I D vwCl A s.heap (q_ws 33 ad (cC ad cs σ)) s.heap [] := ⟨hP, hD, va_S.rf⟩
  obtain ⟨ls, hen, hl⟩ := q_entry (vs := [.ref (ad (9 + i)), .int p1]) (n := 2) (lv := [(0, .ref (ad (9 + i))), (1, .int p1)]) (by intro v hv; simp only [List.mem_cons, List.not_mem_nil, or_false] at hv; rcases hv with rfl | rfl <;> first | rfl | exact q_cat) (Nat.le_of_ble_eq_true rfl) rfl
  rw [show entryFrame m args 2 = F0 m 0 ls [] from by rw [hargs]; exact hen m]
  have C0 : q_Cx "JobTerminal$JobProcess" b_JobProcess_look 2 (some .int) w_JobProcess_look D vwCl (tyL cs) NW p s m args meth c := ⟨hx, hb, hr, hml, hown, hts, hlocks, hK, hN⟩
  unfold f_JobProcess_look at hf
  have hgo : ∀ (H : Heap) (locs : List Loc), q_I D vwCl A s.heap (q_ws 33 ad (cC ad cs σ)) H locs → W p l e ({ frames := 0, cells := 0, slots := 0, locals := 0 } : Room) s m args below meth c H locs 0 0 (MQ below (q_Qi D vwCl res.1 (q_ws 33 ad (cC ad cs res.2)) A) args s 0 0 A) (F0 m 0 ls []) := by
    intro H locs I
    refine lv_aload_n hx hb d_JobProcess_look_0 rfl (q_at hl 0 rfl) ?_
    refine G_JobProcess_JobProcess_owner hx hb htg hown hK hN I hi d_JobProcess_look_1 ?_
    refine q_ifnonnull (tgt := 9) hx hb d_JobProcess_look_4 (by decide) (fun c1 => ?_) (fun c1 => ?_)
    · rw [if_neg c1] at hf
      refine lv_iload_n hx hb d_JobProcess_look_9 rfl (q_at hl 1 rfl) ?_
      by_cases c2 : p1 = (0 : Int32)
      · rw [if_pos c2] at hf
        refine lv_tableIn (tgt := 60) hx hb d_JobProcess_look_10 (by rw [c2] <;> decide) (by rw [c2] <;> decide) (by rw [c2] <;> rfl) (by decide) ?_
        refine lv_aload_n hx hb d_JobProcess_look_60 rfl (q_at hl 0 rfl) ?_
        refine G_JobProcess_JobProcess_state hx hb htg hown hK hN I hi d_JobProcess_look_61 ?_
        cases hf
        exact q_iret hx hb hr hlocks I d_JobProcess_look_64
      rw [if_neg c2] at hf
      by_cases c3 : p1 = (1 : Int32)
      · rw [if_pos c3] at hf
        refine lv_tableIn (tgt := 65) hx hb d_JobProcess_look_10 (by rw [c3] <;> decide) (by rw [c3] <;> decide) (by rw [c3] <;> rfl) (by decide) ?_
        refine lv_aload_n hx hb d_JobProcess_look_65 rfl (q_at hl 0 rfl) ?_
        refine G_JobProcess_JobProcess_owner hx hb htg hown hK hN I hi d_JobProcess_look_66 ?_
        obtain ⟨o4, hf⟩ := q_grd_some hf
        rw [q_rv_ref (q_in_pos o4)]
        refine G_JobProcess_Job_number hx hb htg hown hK hN I (q_in_lt o4) d_JobProcess_look_69 ?_
        cases hf
        exact q_iret hx hb hr hlocks I d_JobProcess_look_72
      rw [if_neg c3] at hf
      by_cases c5 : p1 = (2 : Int32)
      · rw [if_pos c5] at hf
        refine lv_tableIn (tgt := 73) hx hb d_JobProcess_look_10 (by rw [c5] <;> decide) (by rw [c5] <;> decide) (by rw [c5] <;> rfl) (by decide) ?_
        refine lv_aload_n hx hb d_JobProcess_look_73 rfl (q_at hl 0 rfl) ?_
        refine G_JobProcess_JobProcess_line hx hb htg hown hK hN I hi d_JobProcess_look_74 ?_
        cases hf
        exact q_iret hx hb hr hlocks I d_JobProcess_look_77
      rw [if_neg c5] at hf
      by_cases c6 : p1 = (3 : Int32)
      · rw [if_pos c6] at hf
        refine lv_tableIn (tgt := 78) hx hb d_JobProcess_look_10 (by rw [c6] <;> decide) (by rw [c6] <;> decide) (by rw [c6] <;> rfl) (by decide) ?_
        refine lv_aload_n hx hb d_JobProcess_look_78 rfl (q_at hl 0 rfl) ?_
        refine G_JobProcess_JobProcess_register hx hb htg hown hK hN I hi d_JobProcess_look_79 ?_
        cases hf
        exact q_iret hx hb hr hlocks I d_JobProcess_look_82
      rw [if_neg c6] at hf
      by_cases c7 : p1 = (4 : Int32)
      · rw [if_pos c7] at hf
        refine lv_tableIn (tgt := 83) hx hb d_JobProcess_look_10 (by rw [c7] <;> decide) (by rw [c7] <;> decide) (by rw [c7] <;> rfl) (by decide) ?_
        refine lv_aload_n hx hb d_JobProcess_look_83 rfl (q_at hl 0 rfl) ?_
        refine G_JobProcess_JobProcess_pending hx hb htg hown hK hN I hi d_JobProcess_look_84 ?_
        cases hf
        exact q_iret hx hb hr hlocks I d_JobProcess_look_87
      rw [if_neg c7] at hf
      by_cases c8 : p1 = (5 : Int32)
      · rw [if_pos c8] at hf
        refine lv_tableIn (tgt := 88) hx hb d_JobProcess_look_10 (by rw [c8] <;> decide) (by rw [c8] <;> decide) (by rw [c8] <;> rfl) (by decide) ?_
        refine lv_aload_n hx hb d_JobProcess_look_88 rfl (q_at hl 0 rfl) ?_
        refine G_JobProcess_JobProcess_blocked hx hb htg hown hK hN I hi d_JobProcess_look_89 ?_
        cases hf
        exact q_iret hx hb hr hlocks I d_JobProcess_look_92
      rw [if_neg c8] at hf
      by_cases c9 : p1 = (6 : Int32)
      · rw [if_pos c9] at hf
        refine lv_tableIn (tgt := 93) hx hb d_JobProcess_look_10 (by rw [c9] <;> decide) (by rw [c9] <;> decide) (by rw [c9] <;> rfl) (by decide) ?_
        refine lv_aload_n hx hb d_JobProcess_look_93 rfl (q_at hl 0 rfl) ?_
        refine G_JobProcess_JobProcess_ignored hx hb htg hown hK hN I hi d_JobProcess_look_94 ?_
        cases hf
        exact q_iret hx hb hr hlocks I d_JobProcess_look_97
      rw [if_neg c9] at hf
      by_cases c10 : p1 = (7 : Int32)
      · rw [if_pos c10] at hf
        refine lv_tableIn (tgt := 98) hx hb d_JobProcess_look_10 (by rw [c10] <;> decide) (by rw [c10] <;> decide) (by rw [c10] <;> rfl) (by decide) ?_
        refine lv_aload_n hx hb d_JobProcess_look_98 rfl (q_at hl 0 rfl) ?_
        refine G_JobProcess_JobProcess_nap hx hb htg hown hK hN I hi d_JobProcess_look_99 ?_
        cases hf
        exact q_iret hx hb hr hlocks I d_JobProcess_look_102
      rw [if_neg c10] at hf
      by_cases c11 : p1 = (8 : Int32)
      · rw [if_pos c11] at hf
        refine lv_tableIn (tgt := 103) hx hb d_JobProcess_look_10 (by rw [c11] <;> decide) (by rw [c11] <;> decide) (by rw [c11] <;> rfl) (by decide) ?_
        refine lv_aload_n hx hb d_JobProcess_look_103 rfl (q_at hl 0 rfl) ?_
        refine G_JobProcess_JobProcess_code hx hb htg hown hK hN I hi d_JobProcess_look_104 ?_
        cases hf
        exact q_iret hx hb hr hlocks I d_JobProcess_look_107
      rw [if_neg c11] at hf
      refine lv_tableOut (tgt := 108) hx hb d_JobProcess_look_10 (by have := lv_neT (a := 0) c2 (by decide); have := lv_neT (a := 1) c3 (by decide); have := lv_neT (a := 2) c5 (by decide); have := lv_neT (a := 3) c6 (by decide); have := lv_neT (a := 4) c7 (by decide); have := lv_neT (a := 5) c8 (by decide); have := lv_neT (a := 6) c9 (by decide); have := lv_neT (a := 7) c10 (by decide); have := lv_neT (a := 8) c11 (by decide); omega) (by decide) ?_
      refine lv_iconst (v := -1) hx hb d_JobProcess_look_108 (by decide) ?_
      cases hf
      exact q_iret hx hb hr hlocks I d_JobProcess_look_109
    · rw [if_pos c1] at hf
      refine lv_iconst (v := -1) hx hb d_JobProcess_look_7 (by decide) ?_
      cases hf
      exact q_iret hx hb hr hlocks I d_JobProcess_look_8
  exact hgo _ _ I
-- JobTerminal$Display codeBefore
def f_Display_codeBefore_62 (σ : q_St) (y0 : Int32) : Option (Int32 × q_St) := some (y0, σ)
set_option maxHeartbeats 4000000 in
set_option maxRecDepth 100000 in
theorem k_Display_codeBefore_62 {p : Program} {l : Launch} {e : Env} {s : State} {m : MethodId} {args : Array Value} {below : List Frame} {meth : Method} {c : Code} {D : va_G} {A : Nat → Prop} {ad : Nat → Nat} {cs : Nat → ClassId} (C0 : q_Cx "JobTerminal$Display" b_Display_codeBefore 4 (some .int) w_Display_codeBefore D vwCl (tyL cs) NW p s m args meth c) (hA : ∀ q, s.heap.size ≤ q → A q) (res : (Int32 × q_St)) : ∀ (σ : q_St) (y0 : Int32) , f_Display_codeBefore_62 σ y0 = some res → ∀ (H : Heap) (locs : List Loc), q_I D vwCl A s.heap (q_ws 33 ad (cC ad cs σ)) H locs → ∀ ls : Array Slot, q_has ls 4 [] → W p l e ({ frames := 0, cells := 0, slots := 0, locals := 0 } : Room) s m args below meth c H locs 0 0 (MQ below (q_Qi D vwCl res.1 (q_ws 33 ad (cC ad cs res.2)) A) args s 0 0 A) (F0 m 62 ls [.int y0]) := by
  intro σ y0 hf H locs I ls hl
  unfold f_Display_codeBefore_62 at hf
  obtain ⟨hx, hb, hr, hml, hown, hts, hlocks, hK, hN⟩ := id C0
  have htg : ∀ w ∈ GW, w.before args s = true := fun w h => hts w (List.mem_cons_of_mem _ h)
  cases hf
  exact q_iret hx hb hr hlocks I d_Display_codeBefore_62
def f_Display_codeBefore_61 (σ : q_St) : Option (Int32 × q_St) := f_Display_codeBefore_62 σ (-1)
set_option maxHeartbeats 4000000 in
set_option maxRecDepth 100000 in
theorem k_Display_codeBefore_61 {p : Program} {l : Launch} {e : Env} {s : State} {m : MethodId} {args : Array Value} {below : List Frame} {meth : Method} {c : Code} {D : va_G} {A : Nat → Prop} {ad : Nat → Nat} {cs : Nat → ClassId} (C0 : q_Cx "JobTerminal$Display" b_Display_codeBefore 4 (some .int) w_Display_codeBefore D vwCl (tyL cs) NW p s m args meth c) (hA : ∀ q, s.heap.size ≤ q → A q) (res : (Int32 × q_St)) : ∀ (σ : q_St) , f_Display_codeBefore_61 σ  = some res → ∀ (H : Heap) (locs : List Loc), q_I D vwCl A s.heap (q_ws 33 ad (cC ad cs σ)) H locs → ∀ ls : Array Slot, q_has ls 4 [] → W p l e ({ frames := 0, cells := 0, slots := 0, locals := 0 } : Room) s m args below meth c H locs 0 0 (MQ below (q_Qi D vwCl res.1 (q_ws 33 ad (cC ad cs res.2)) A) args s 0 0 A) (F0 m 61 ls []) := by
  intro σ  hf H locs I ls hl
  unfold f_Display_codeBefore_61 at hf
  obtain ⟨hx, hb, hr, hml, hown, hts, hlocks, hK, hN⟩ := id C0
  have htg : ∀ w ∈ GW, w.before args s = true := fun w h => hts w (List.mem_cons_of_mem _ h)
  refine lv_iconst (v := -1) hx hb d_Display_codeBefore_61 (by decide) ?_
  exact k_Display_codeBefore_62 C0 hA res σ (-1) hf H locs I ls (q_hsub hl [] rfl)
def f_Display_codeBefore_41 (σ : q_St) (y0 : Int32) : Option (Int32 × q_St) := if y0 < 0 then (f_Display_codeBefore_61 σ) else (if 100 ≤ y0 then (f_Display_codeBefore_61 σ) else (q_grd (q_in y0 100) (f_Display_codeBefore_62 σ (σ 2 y0.toNatClampNeg))))
set_option maxHeartbeats 4000000 in
set_option maxRecDepth 100000 in
theorem k_Display_codeBefore_41 {p : Program} {l : Launch} {e : Env} {s : State} {m : MethodId} {args : Array Value} {below : List Frame} {meth : Method} {c : Code} {D : va_G} {A : Nat → Prop} {ad : Nat → Nat} {cs : Nat → ClassId} (C0 : q_Cx "JobTerminal$Display" b_Display_codeBefore 4 (some .int) w_Display_codeBefore D vwCl (tyL cs) NW p s m args meth c) (hA : ∀ q, s.heap.size ≤ q → A q) (res : (Int32 × q_St)) : ∀ (σ : q_St) (y0 : Int32) , f_Display_codeBefore_41 σ y0 = some res → ∀ (H : Heap) (locs : List Loc), q_I D vwCl A s.heap (q_ws 33 ad (cC ad cs σ)) H locs → ∀ ls : Array Slot, q_has ls 4 [(0, .ref (ad 7))] → W p l e ({ frames := 0, cells := 0, slots := 0, locals := 0 } : Room) s m args below meth c H locs 0 0 (MQ below (q_Qi D vwCl res.1 (q_ws 33 ad (cC ad cs res.2)) A) args s 0 0 A) (F0 m 41 ls [.int y0]) := by
  intro σ y0 hf H locs I ls hl
  unfold f_Display_codeBefore_41 at hf
  obtain ⟨hx, hb, hr, hml, hown, hts, hlocks, hK, hN⟩ := id C0
  have htg : ∀ w ∈ GW, w.before args s = true := fun w h => hts w (List.mem_cons_of_mem _ h)
  refine q_istore_n (lv' := [(3, .int y0), (0, .ref (ad 7))]) hx hb d_Display_codeBefore_41 rfl hl (by decide) rfl (fun ls hl => ?_)
  refine lv_iload_n hx hb d_Display_codeBefore_42 rfl (q_at hl 0 rfl) ?_
  refine lv_if_lt (tgt := 61) hx hb d_Display_codeBefore_43 (by decide) (fun c5 => ?_) (fun c5 => ?_)
  · rw [if_pos c5] at hf
    exact k_Display_codeBefore_61 C0 hA res σ hf H locs I ls (q_hsub hl [] rfl)
  · rw [if_neg c5] at hf
    refine lv_iload_n hx hb d_Display_codeBefore_46 rfl (q_at hl 0 rfl) ?_
    refine lv_bipush (v := 100) hx hb d_Display_codeBefore_47 (by decide) ?_
    refine lv_icmp_ge (tgt := 61) hx hb d_Display_codeBefore_49 (by decide) (fun c6 => ?_) (fun c6 => ?_)
    · rw [if_pos c6] at hf
      exact k_Display_codeBefore_61 C0 hA res σ hf H locs I ls (q_hsub hl [] rfl)
    · rw [if_neg c6] at hf
      refine lv_aload_n hx hb d_Display_codeBefore_52 rfl (q_at hl 1 rfl) ?_
      refine G_Display_Display_codes hx hb htg hown hK hN I d_Display_codeBefore_53 ?_
      refine lv_iload_n hx hb d_Display_codeBefore_56 rfl (q_at hl 0 rfl) ?_
      obtain ⟨o7, hf⟩ := q_grd_some hf
      refine A_C_codes hx hb hK I o7 d_Display_codeBefore_57 ?_
      refine lv_goto (tgt := 62) hx hb d_Display_codeBefore_58 (by decide) ?_
      exact k_Display_codeBefore_62 C0 hA res σ (σ 2 y0.toNatClampNeg) hf H locs I ls (q_hsub hl [] rfl)
def f_Display_codeBefore_18 (σ : q_St) : Option (Int32 × q_St) := some (-1, σ)
set_option maxHeartbeats 4000000 in
set_option maxRecDepth 100000 in
theorem k_Display_codeBefore_18 {p : Program} {l : Launch} {e : Env} {s : State} {m : MethodId} {args : Array Value} {below : List Frame} {meth : Method} {c : Code} {D : va_G} {A : Nat → Prop} {ad : Nat → Nat} {cs : Nat → ClassId} (C0 : q_Cx "JobTerminal$Display" b_Display_codeBefore 4 (some .int) w_Display_codeBefore D vwCl (tyL cs) NW p s m args meth c) (hA : ∀ q, s.heap.size ≤ q → A q) (res : (Int32 × q_St)) : ∀ (σ : q_St) , f_Display_codeBefore_18 σ  = some res → ∀ (H : Heap) (locs : List Loc), q_I D vwCl A s.heap (q_ws 33 ad (cC ad cs σ)) H locs → ∀ ls : Array Slot, q_has ls 4 [] → W p l e ({ frames := 0, cells := 0, slots := 0, locals := 0 } : Room) s m args below meth c H locs 0 0 (MQ below (q_Qi D vwCl res.1 (q_ws 33 ad (cC ad cs res.2)) A) args s 0 0 A) (F0 m 18 ls []) := by
  intro σ  hf H locs I ls hl
  unfold f_Display_codeBefore_18 at hf
  obtain ⟨hx, hb, hr, hml, hown, hts, hlocks, hK, hN⟩ := id C0
  have htg : ∀ w ∈ GW, w.before args s = true := fun w h => hts w (List.mem_cons_of_mem _ h)
  refine lv_iconst (v := -1) hx hb d_Display_codeBefore_18 (by decide) ?_
  cases hf
  exact q_iret hx hb hr hlocks I d_Display_codeBefore_19
def f_Display_codeBefore (σ : q_St) (p1 : Int32) : Option (Int32 × q_St) := if p1 < 0 then (f_Display_codeBefore_18 σ) else (if 100 ≤ p1 then (f_Display_codeBefore_18 σ) else (if p1 < (σ 25 0) then (if 0 ≤ (((σ 24 0) - 1) - p1) then (f_Display_codeBefore_41 σ (((σ 24 0) - 1) - p1)) else (f_Display_codeBefore_41 σ ((((σ 24 0) - 1) - p1) + 100))) else (f_Display_codeBefore_18 σ)))
set_option maxHeartbeats 4000000 in
set_option maxRecDepth 100000 in
theorem c_Display_codeBefore {l : Launch} {D : va_G} {ad : Nat → Nat} {cs : Nat → ClassId} {sz : Nat} {σ : q_St} {p1 : Int32} {res : (Int32 × q_St)} (hf : f_Display_codeBefore σ p1 = some res) : Met l y_Display_codeBefore w_Display_codeBefore ({ frames := 0, cells := 0, slots := 0, locals := 0 } : Room) (q_Pre D vwCl (tyL cs) NW [.ref (ad 7), .int p1] (q_ws 33 ad (cC ad cs σ)) sz) (q_Qi D vwCl res.1 (q_ws 33 ad (cC ad cs res.2)) (va_A (q_ws 33 ad (cC ad cs σ)) sz)) 0 0 (va_A (q_ws 33 ad (cC ad cs σ)) sz) := by
  refine Met.ofW (cc := b_Display_codeBefore) (maxL := 4) (ret := (some .int)) (by decide) rfl ?_
  intro p e s m args below meth c s₁ B hml hv
  obtain ⟨hargs, hsz, hP, hK, hD0, hN⟩ := hv
  have hx := B.exec
  have hb := B.bytes
  have hr := B.returns
  have hts := atoms_spec (ws := w_Display_codeBefore) B.pre
  have hown : s.vm.findClass "JobTerminal$Display" = some m.cls := findClass_of_methodNamed B.named
  have hlocks := B.notSynchronized
  have htg : ∀ w ∈ GW, w.before args s = true := fun w h => hts w (List.mem_cons_of_mem _ h)
  subst hsz
  have hD := hD0.self (sz := s.heap.size)
  generalize hAe : va_A (q_ws 33 ad (cC ad cs σ)) s.heap.size = A at hD ⊢
  have hA : ∀ q : Nat, s.heap.size ≤ q → A q := fun q h => by rw [← hAe]; exact Or.inr h
  have I : q_I D vwCl A s.heap (q_ws 33 ad (cC ad cs σ)) s.heap [] := ⟨hP, hD, va_S.rf⟩
  obtain ⟨ls, hen, hl⟩ := q_entry (vs := [.ref (ad 7), .int p1]) (n := 4) (lv := [(0, .ref (ad 7)), (1, .int p1)]) (by intro v hv; simp only [List.mem_cons, List.not_mem_nil, or_false] at hv; rcases hv with rfl | rfl <;> first | rfl | exact q_cat) (Nat.le_of_ble_eq_true rfl) rfl
  rw [show entryFrame m args 4 = F0 m 0 ls [] from by rw [hargs]; exact hen m]
  have C0 : q_Cx "JobTerminal$Display" b_Display_codeBefore 4 (some .int) w_Display_codeBefore D vwCl (tyL cs) NW p s m args meth c := ⟨hx, hb, hr, hml, hown, hts, hlocks, hK, hN⟩
  unfold f_Display_codeBefore at hf
  have hgo : ∀ (H : Heap) (locs : List Loc), q_I D vwCl A s.heap (q_ws 33 ad (cC ad cs σ)) H locs → W p l e ({ frames := 0, cells := 0, slots := 0, locals := 0 } : Room) s m args below meth c H locs 0 0 (MQ below (q_Qi D vwCl res.1 (q_ws 33 ad (cC ad cs res.2)) A) args s 0 0 A) (F0 m 0 ls []) := by
    intro H locs I
    refine lv_iload_n hx hb d_Display_codeBefore_0 rfl (q_at hl 1 rfl) ?_
    refine lv_if_lt (tgt := 18) hx hb d_Display_codeBefore_1 (by decide) (fun c1 => ?_) (fun c1 => ?_)
    · rw [if_pos c1] at hf
      exact k_Display_codeBefore_18 C0 hA res σ hf H locs I ls (q_hsub hl [] rfl)
    · rw [if_neg c1] at hf
      refine lv_iload_n hx hb d_Display_codeBefore_4 rfl (q_at hl 1 rfl) ?_
      refine lv_bipush (v := 100) hx hb d_Display_codeBefore_5 (by decide) ?_
      refine lv_icmp_ge (tgt := 18) hx hb d_Display_codeBefore_7 (by decide) (fun c2 => ?_) (fun c2 => ?_)
      · rw [if_pos c2] at hf
        exact k_Display_codeBefore_18 C0 hA res σ hf H locs I ls (q_hsub hl [] rfl)
      · rw [if_neg c2] at hf
        refine lv_iload_n hx hb d_Display_codeBefore_10 rfl (q_at hl 1 rfl) ?_
        refine lv_aload_n hx hb d_Display_codeBefore_11 rfl (q_at hl 0 rfl) ?_
        refine G_Display_Display_total hx hb htg hown hK hN I d_Display_codeBefore_12 ?_
        refine lv_icmp_lt (tgt := 20) hx hb d_Display_codeBefore_15 (by decide) (fun c3 => ?_) (fun c3 => ?_)
        · rw [if_pos c3] at hf
          refine lv_aload_n hx hb d_Display_codeBefore_20 rfl (q_at hl 0 rfl) ?_
          refine G_Display_Display_next hx hb htg hown hK hN I d_Display_codeBefore_21 ?_
          refine lv_iconst (v := 1) hx hb d_Display_codeBefore_24 (by decide) ?_
          refine lv_isub hx hb d_Display_codeBefore_25 ?_
          refine lv_iload_n hx hb d_Display_codeBefore_26 rfl (q_at hl 1 rfl) ?_
          refine lv_isub hx hb d_Display_codeBefore_27 ?_
          refine q_istore_n (lv' := [(2, .int (((σ 24 0) - 1) - p1)), (0, .ref (ad 7)), (1, .int p1)]) hx hb d_Display_codeBefore_28 rfl hl (by decide) rfl (fun ls hl => ?_)
          refine lv_iload_n hx hb d_Display_codeBefore_29 rfl (q_at hl 0 rfl) ?_
          refine lv_if_ge (tgt := 40) hx hb d_Display_codeBefore_30 (by decide) (fun c4 => ?_) (fun c4 => ?_)
          · rw [if_pos c4] at hf
            refine lv_iload_n hx hb d_Display_codeBefore_40 rfl (q_at hl 0 rfl) ?_
            exact k_Display_codeBefore_41 C0 hA res σ (((σ 24 0) - 1) - p1) hf H locs I ls (q_hsub hl [1] rfl)
          · rw [if_neg c4] at hf
            refine lv_iload_n hx hb d_Display_codeBefore_33 rfl (q_at hl 0 rfl) ?_
            refine lv_bipush (v := 100) hx hb d_Display_codeBefore_34 (by decide) ?_
            refine lv_iadd hx hb d_Display_codeBefore_36 ?_
            refine lv_goto (tgt := 41) hx hb d_Display_codeBefore_37 (by decide) ?_
            exact k_Display_codeBefore_41 C0 hA res σ ((((σ 24 0) - 1) - p1) + 100) hf H locs I ls (q_hsub hl [1] rfl)
        · rw [if_neg c3] at hf
          exact k_Display_codeBefore_18 C0 hA res σ hf H locs I ls (q_hsub hl [] rfl)
  exact hgo _ _ I
