-- JobTerminalModel thrown
def f_Mo_thrown (σ : q_St) : Option (Int32 × q_St) := some (σ 48 0, σ)
set_option maxHeartbeats 4000000 in
set_option maxRecDepth 100000 in
theorem c_Mo_thrown {l : Launch} {D : va_G} {ad : Nat → Nat} {cs : Nat → ClassId} {sz : Nat} {σ : q_St} {res : (Int32 × q_St)} (hf : f_Mo_thrown σ  = some res) : Met l y_Mo_thrown w_Mo_thrown ({ frames := 0, cells := 0, slots := 0, locals := 0 } : Room) (q_Pre D vwCl (tyL cs) NW [.ref (ad 0)] (q_ws 23 ad (cM ad cs σ)) sz) (q_Qi D vwCl res.1 (q_ws 23 ad (cM ad cs res.2)) (va_A (q_ws 23 ad (cM ad cs σ)) sz)) 0 0 (va_A (q_ws 23 ad (cM ad cs σ)) sz) := by
  refine Met.ofW (cc := b_Mo_thrown) (maxL := 1) (ret := (some .int)) (by decide) rfl ?_
  intro p e s m args below meth c s₁ B hml hv
  obtain ⟨hargs, hsz, hP, hK, hD0, hN⟩ := hv
  have hx := B.exec
  have hb := B.bytes
  have hr := B.returns
  have hts := atoms_spec (ws := w_Mo_thrown) B.pre
  have hown : s.vm.findClass "JobTerminalModel" = some m.cls := findClass_of_methodNamed B.named
  have hlocks := B.notSynchronized
  have htg : ∀ w ∈ GW, w.before args s = true := fun w h => hts w (List.mem_cons_of_mem _ h)
  subst hsz
  have hD := hD0.self (sz := s.heap.size)
  generalize hAe : va_A (q_ws 23 ad (cM ad cs σ)) s.heap.size = A at hD ⊢
  have hA : ∀ q : Nat, s.heap.size ≤ q → A q := fun q h => by rw [← hAe]; exact Or.inr h
  have I : q_I D vwCl A s.heap (q_ws 23 ad (cM ad cs σ)) s.heap [] := ⟨hP, hD, va_S.rf⟩
  obtain ⟨ls, hen, hl⟩ := q_entry (vs := [.ref (ad 0)]) (n := 1) (lv := [(0, .ref (ad 0))]) (by intro v hv; simp only [List.mem_cons, List.not_mem_nil, or_false] at hv; rcases hv with rfl <;> first | rfl | exact q_cat) (Nat.le_of_ble_eq_true rfl) rfl
  rw [show entryFrame m args 1 = F0 m 0 ls [] from by rw [hargs]; exact hen m]
  have C0 : q_Cx "JobTerminalModel" b_Mo_thrown 1 (some .int) w_Mo_thrown D vwCl (tyL cs) NW p s m args meth c := ⟨hx, hb, hr, hml, hown, hts, hlocks, hK, hN⟩
  unfold f_Mo_thrown at hf
  have hgo : ∀ (H : Heap) (locs : List Loc), q_I D vwCl A s.heap (q_ws 23 ad (cM ad cs σ)) H locs → W p l e ({ frames := 0, cells := 0, slots := 0, locals := 0 } : Room) s m args below meth c H locs 0 0 (MQ below (q_Qi D vwCl res.1 (q_ws 23 ad (cM ad cs res.2)) A) args s 0 0 A) (F0 m 0 ls []) := by
    intro H locs I
    refine lv_aload_n hx hb d_Mo_thrown_0 rfl (q_at hl 0 rfl) ?_
    refine G_Mo_Mo_code hx hb htg hown hK hN I d_Mo_thrown_1 ?_
    cases hf
    exact q_iret hx hb hr hlocks I d_Mo_thrown_4
  exact hgo _ _ I
-- JobTerminalModel isJob
def f_Mo_isJob_23 (σ : q_St) (y0 : Int32) : Option (Int32 × q_St) := q_grd (q_isB y0) (some (y0, σ))
set_option maxHeartbeats 4000000 in
set_option maxRecDepth 100000 in
theorem k_Mo_isJob_23 {p : Program} {l : Launch} {e : Env} {s : State} {m : MethodId} {args : Array Value} {below : List Frame} {meth : Method} {c : Code} {D : va_G} {A : Nat → Prop} {ad : Nat → Nat} {cs : Nat → ClassId} (C0 : q_Cx "JobTerminalModel" b_Mo_isJob 2 (some .boolean) w_Mo_isJob D vwCl (tyL cs) NW p s m args meth c) (hA : ∀ q, s.heap.size ≤ q → A q) (res : (Int32 × q_St)) : ∀ (σ : q_St) (y0 : Int32) , f_Mo_isJob_23 σ y0 = some res → ∀ (H : Heap) (locs : List Loc), q_I D vwCl A s.heap (q_ws 23 ad (cM ad cs σ)) H locs → ∀ ls : Array Slot, q_has ls 2 [] → W p l e ({ frames := 0, cells := 0, slots := 0, locals := 0 } : Room) s m args below meth c H locs 0 0 (MQ below (q_Qi D vwCl res.1 (q_ws 23 ad (cM ad cs res.2)) A) args s 0 0 A) (F0 m 23 ls [.int y0]) := by
  intro σ y0 hf H locs I ls hl
  unfold f_Mo_isJob_23 at hf
  obtain ⟨hx, hb, hr, hml, hown, hts, hlocks, hK, hN⟩ := id C0
  have htg : ∀ w ∈ GW, w.before args s = true := fun w h => hts w (List.mem_cons_of_mem _ h)
  obtain ⟨o5, hf⟩ := q_grd_some hf
  cases hf
  exact q_zret hx hb hr hlocks o5 I d_Mo_isJob_23
def f_Mo_isJob_22 (σ : q_St) : Option (Int32 × q_St) := f_Mo_isJob_23 σ 0
set_option maxHeartbeats 4000000 in
set_option maxRecDepth 100000 in
theorem k_Mo_isJob_22 {p : Program} {l : Launch} {e : Env} {s : State} {m : MethodId} {args : Array Value} {below : List Frame} {meth : Method} {c : Code} {D : va_G} {A : Nat → Prop} {ad : Nat → Nat} {cs : Nat → ClassId} (C0 : q_Cx "JobTerminalModel" b_Mo_isJob 2 (some .boolean) w_Mo_isJob D vwCl (tyL cs) NW p s m args meth c) (hA : ∀ q, s.heap.size ≤ q → A q) (res : (Int32 × q_St)) : ∀ (σ : q_St) , f_Mo_isJob_22 σ  = some res → ∀ (H : Heap) (locs : List Loc), q_I D vwCl A s.heap (q_ws 23 ad (cM ad cs σ)) H locs → ∀ ls : Array Slot, q_has ls 2 [] → W p l e ({ frames := 0, cells := 0, slots := 0, locals := 0 } : Room) s m args below meth c H locs 0 0 (MQ below (q_Qi D vwCl res.1 (q_ws 23 ad (cM ad cs res.2)) A) args s 0 0 A) (F0 m 22 ls []) := by
  intro σ  hf H locs I ls hl
  unfold f_Mo_isJob_22 at hf
  obtain ⟨hx, hb, hr, hml, hown, hts, hlocks, hK, hN⟩ := id C0
  have htg : ∀ w ∈ GW, w.before args s = true := fun w h => hts w (List.mem_cons_of_mem _ h)
  refine lv_iconst (v := 0) hx hb d_Mo_isJob_22 (by decide) ?_
  exact k_Mo_isJob_23 C0 hA res σ 0 hf H locs I ls (q_hsub hl [] rfl)
def f_Mo_isJob (σ : q_St) (p1 : Int32) : Option (Int32 × q_St) := if p1 < 0 then (f_Mo_isJob_22 σ) else (if 4 ≤ p1 then (f_Mo_isJob_22 σ) else (q_grd (q_in p1 4) (if (σ 12 p1.toNatClampNeg) = 0 then (f_Mo_isJob_22 σ) else (f_Mo_isJob_23 σ 1))))
set_option maxHeartbeats 4000000 in
set_option maxRecDepth 100000 in
theorem c_Mo_isJob {l : Launch} {D : va_G} {ad : Nat → Nat} {cs : Nat → ClassId} {sz : Nat} {σ : q_St} {p1 : Int32} {res : (Int32 × q_St)} (hf : f_Mo_isJob σ p1 = some res) : Met l y_Mo_isJob w_Mo_isJob ({ frames := 0, cells := 0, slots := 0, locals := 0 } : Room) (q_Pre D vwCl (tyL cs) NW [.ref (ad 0), .int p1] (q_ws 23 ad (cM ad cs σ)) sz) (q_Qi D vwCl res.1 (q_ws 23 ad (cM ad cs res.2)) (va_A (q_ws 23 ad (cM ad cs σ)) sz)) 0 0 (va_A (q_ws 23 ad (cM ad cs σ)) sz) := by
  refine Met.ofW (cc := b_Mo_isJob) (maxL := 2) (ret := (some .boolean)) (by decide) rfl ?_
  intro p e s m args below meth c s₁ B hml hv
  obtain ⟨hargs, hsz, hP, hK, hD0, hN⟩ := hv
  have hx := B.exec
  have hb := B.bytes
  have hr := B.returns
  have hts := atoms_spec (ws := w_Mo_isJob) B.pre
  have hown : s.vm.findClass "JobTerminalModel" = some m.cls := findClass_of_methodNamed B.named
  have hlocks := B.notSynchronized
  have htg : ∀ w ∈ GW, w.before args s = true := fun w h => hts w (List.mem_cons_of_mem _ h)
  subst hsz
  have hD := hD0.self (sz := s.heap.size)
  generalize hAe : va_A (q_ws 23 ad (cM ad cs σ)) s.heap.size = A at hD ⊢
  have hA : ∀ q : Nat, s.heap.size ≤ q → A q := fun q h => by rw [← hAe]; exact Or.inr h
  have I : q_I D vwCl A s.heap (q_ws 23 ad (cM ad cs σ)) s.heap [] := ⟨hP, hD, va_S.rf⟩
  obtain ⟨ls, hen, hl⟩ := q_entry (vs := [.ref (ad 0), .int p1]) (n := 2) (lv := [(0, .ref (ad 0)), (1, .int p1)]) (by intro v hv; simp only [List.mem_cons, List.not_mem_nil, or_false] at hv; rcases hv with rfl | rfl <;> first | rfl | exact q_cat) (Nat.le_of_ble_eq_true rfl) rfl
  rw [show entryFrame m args 2 = F0 m 0 ls [] from by rw [hargs]; exact hen m]
  have C0 : q_Cx "JobTerminalModel" b_Mo_isJob 2 (some .boolean) w_Mo_isJob D vwCl (tyL cs) NW p s m args meth c := ⟨hx, hb, hr, hml, hown, hts, hlocks, hK, hN⟩
  unfold f_Mo_isJob at hf
  have hgo : ∀ (H : Heap) (locs : List Loc), q_I D vwCl A s.heap (q_ws 23 ad (cM ad cs σ)) H locs → W p l e ({ frames := 0, cells := 0, slots := 0, locals := 0 } : Room) s m args below meth c H locs 0 0 (MQ below (q_Qi D vwCl res.1 (q_ws 23 ad (cM ad cs res.2)) A) args s 0 0 A) (F0 m 0 ls []) := by
    intro H locs I
    refine lv_iload_n hx hb d_Mo_isJob_0 rfl (q_at hl 1 rfl) ?_
    refine lv_if_lt (tgt := 22) hx hb d_Mo_isJob_1 (by decide) (fun c1 => ?_) (fun c1 => ?_)
    · rw [if_pos c1] at hf
      exact k_Mo_isJob_22 C0 hA res σ hf H locs I ls (q_hsub hl [] rfl)
    · rw [if_neg c1] at hf
      refine lv_iload_n hx hb d_Mo_isJob_4 rfl (q_at hl 1 rfl) ?_
      refine lv_iconst (v := 4) hx hb d_Mo_isJob_5 (by decide) ?_
      refine lv_icmp_ge (tgt := 22) hx hb d_Mo_isJob_6 (by decide) (fun c2 => ?_) (fun c2 => ?_)
      · rw [if_pos c2] at hf
        exact k_Mo_isJob_22 C0 hA res σ hf H locs I ls (q_hsub hl [] rfl)
      · rw [if_neg c2] at hf
        refine lv_aload_n hx hb d_Mo_isJob_9 rfl (q_at hl 0 rfl) ?_
        refine G_Mo_Mo_there hx hb htg hown hK hN I d_Mo_isJob_10 ?_
        refine lv_iload_n hx hb d_Mo_isJob_13 rfl (q_at hl 1 rfl) ?_
        obtain ⟨o3, hf⟩ := q_grd_some hf
        refine A_M_there hx hb hK I o3 d_Mo_isJob_14 ?_
        refine lv_if_eq (tgt := 22) hx hb d_Mo_isJob_15 (by decide) (fun c4 => ?_) (fun c4 => ?_)
        · rw [if_pos c4] at hf
          exact k_Mo_isJob_22 C0 hA res σ hf H locs I ls (q_hsub hl [] rfl)
        · rw [if_neg c4] at hf
          refine lv_iconst (v := 1) hx hb d_Mo_isJob_18 (by decide) ?_
          refine lv_goto (tgt := 23) hx hb d_Mo_isJob_19 (by decide) ?_
          exact k_Mo_isJob_23 C0 hA res σ 1 hf H locs I ls (q_hsub hl [] rfl)
  exact hgo _ _ I
-- JobTerminalModel stateOf
def f_Mo_stateOf_107 (σ : q_St) (y0 : Int32) : Option (Int32 × q_St) := some (y0, σ)
set_option maxHeartbeats 4000000 in
set_option maxRecDepth 100000 in
theorem k_Mo_stateOf_107 {p : Program} {l : Launch} {e : Env} {s : State} {m : MethodId} {args : Array Value} {below : List Frame} {meth : Method} {c : Code} {D : va_G} {A : Nat → Prop} {ad : Nat → Nat} {cs : Nat → ClassId} (C0 : q_Cx "JobTerminalModel" b_Mo_stateOf 4 (some .int) w_Mo_stateOf D vwCl (tyL cs) NW p s m args meth c) (hA : ∀ q, s.heap.size ≤ q → A q) (res : (Int32 × q_St)) : ∀ (σ : q_St) (y0 : Int32) , f_Mo_stateOf_107 σ y0 = some res → ∀ (H : Heap) (locs : List Loc), q_I D vwCl A s.heap (q_ws 23 ad (cM ad cs σ)) H locs → ∀ ls : Array Slot, q_has ls 4 [] → W p l e ({ frames := 0, cells := 0, slots := 0, locals := 0 } : Room) s m args below meth c H locs 0 0 (MQ below (q_Qi D vwCl res.1 (q_ws 23 ad (cM ad cs res.2)) A) args s 0 0 A) (F0 m 107 ls [.int y0]) := by
  intro σ y0 hf H locs I ls hl
  unfold f_Mo_stateOf_107 at hf
  obtain ⟨hx, hb, hr, hml, hown, hts, hlocks, hK, hN⟩ := id C0
  have htg : ∀ w ∈ GW, w.before args s = true := fun w h => hts w (List.mem_cons_of_mem _ h)
  cases hf
  exact q_iret hx hb hr hlocks I d_Mo_stateOf_107
def f_Mo_stateOf_89 (σ : q_St) (x2 : Int32) (y0 : Int32) : Option (Int32 × q_St) := if x2 = 0 then (if y0 = 0 then (f_Mo_stateOf_107 σ 2) else (f_Mo_stateOf_107 σ 1)) else (f_Mo_stateOf_107 σ 3)
set_option maxHeartbeats 4000000 in
set_option maxRecDepth 100000 in
theorem k_Mo_stateOf_89 {p : Program} {l : Launch} {e : Env} {s : State} {m : MethodId} {args : Array Value} {below : List Frame} {meth : Method} {c : Code} {D : va_G} {A : Nat → Prop} {ad : Nat → Nat} {cs : Nat → ClassId} (C0 : q_Cx "JobTerminalModel" b_Mo_stateOf 4 (some .int) w_Mo_stateOf D vwCl (tyL cs) NW p s m args meth c) (hA : ∀ q, s.heap.size ≤ q → A q) (res : (Int32 × q_St)) : ∀ (σ : q_St) (x2 : Int32) (y0 : Int32) , f_Mo_stateOf_89 σ x2 y0 = some res → ∀ (H : Heap) (locs : List Loc), q_I D vwCl A s.heap (q_ws 23 ad (cM ad cs σ)) H locs → ∀ ls : Array Slot, q_has ls 4 [(2, .int x2)] → W p l e ({ frames := 0, cells := 0, slots := 0, locals := 0 } : Room) s m args below meth c H locs 0 0 (MQ below (q_Qi D vwCl res.1 (q_ws 23 ad (cM ad cs res.2)) A) args s 0 0 A) (F0 m 89 ls [.int y0]) := by
  intro σ x2 y0 hf H locs I ls hl
  unfold f_Mo_stateOf_89 at hf
  obtain ⟨hx, hb, hr, hml, hown, hts, hlocks, hK, hN⟩ := id C0
  have htg : ∀ w ∈ GW, w.before args s = true := fun w h => hts w (List.mem_cons_of_mem _ h)
  refine q_istore_n (lv' := [(3, .int y0), (2, .int x2)]) hx hb d_Mo_stateOf_89 rfl hl (by decide) rfl (fun ls hl => ?_)
  refine lv_iload_n hx hb d_Mo_stateOf_90 rfl (q_at hl 1 rfl) ?_
  refine lv_if_eq (tgt := 98) hx hb d_Mo_stateOf_91 (by decide) (fun c17 => ?_) (fun c17 => ?_)
  · rw [if_pos c17] at hf
    refine lv_iload_n hx hb d_Mo_stateOf_98 rfl (q_at hl 0 rfl) ?_
    refine lv_if_eq (tgt := 106) hx hb d_Mo_stateOf_99 (by decide) (fun c18 => ?_) (fun c18 => ?_)
    · rw [if_pos c18] at hf
      refine lv_iconst (v := 2) hx hb d_Mo_stateOf_106 (by decide) ?_
      exact k_Mo_stateOf_107 C0 hA res σ 2 hf H locs I ls (q_hsub hl [] rfl)
    · rw [if_neg c18] at hf
      refine lv_iconst (v := 1) hx hb d_Mo_stateOf_102 (by decide) ?_
      refine lv_goto (tgt := 107) hx hb d_Mo_stateOf_103 (by decide) ?_
      exact k_Mo_stateOf_107 C0 hA res σ 1 hf H locs I ls (q_hsub hl [] rfl)
  · rw [if_neg c17] at hf
    refine lv_iconst (v := 3) hx hb d_Mo_stateOf_94 (by decide) ?_
    refine lv_goto (tgt := 107) hx hb d_Mo_stateOf_95 (by decide) ?_
    exact k_Mo_stateOf_107 C0 hA res σ 3 hf H locs I ls (q_hsub hl [] rfl)
def f_Mo_stateOf_88 (σ : q_St) (x2 : Int32) : Option (Int32 × q_St) := f_Mo_stateOf_89 σ x2 0
set_option maxHeartbeats 4000000 in
set_option maxRecDepth 100000 in
theorem k_Mo_stateOf_88 {p : Program} {l : Launch} {e : Env} {s : State} {m : MethodId} {args : Array Value} {below : List Frame} {meth : Method} {c : Code} {D : va_G} {A : Nat → Prop} {ad : Nat → Nat} {cs : Nat → ClassId} (C0 : q_Cx "JobTerminalModel" b_Mo_stateOf 4 (some .int) w_Mo_stateOf D vwCl (tyL cs) NW p s m args meth c) (hA : ∀ q, s.heap.size ≤ q → A q) (res : (Int32 × q_St)) : ∀ (σ : q_St) (x2 : Int32) , f_Mo_stateOf_88 σ x2 = some res → ∀ (H : Heap) (locs : List Loc), q_I D vwCl A s.heap (q_ws 23 ad (cM ad cs σ)) H locs → ∀ ls : Array Slot, q_has ls 4 [(2, .int x2)] → W p l e ({ frames := 0, cells := 0, slots := 0, locals := 0 } : Room) s m args below meth c H locs 0 0 (MQ below (q_Qi D vwCl res.1 (q_ws 23 ad (cM ad cs res.2)) A) args s 0 0 A) (F0 m 88 ls []) := by
  intro σ x2 hf H locs I ls hl
  unfold f_Mo_stateOf_88 at hf
  obtain ⟨hx, hb, hr, hml, hown, hts, hlocks, hK, hN⟩ := id C0
  have htg : ∀ w ∈ GW, w.before args s = true := fun w h => hts w (List.mem_cons_of_mem _ h)
  refine lv_iconst (v := 0) hx hb d_Mo_stateOf_88 (by decide) ?_
  exact k_Mo_stateOf_89 C0 hA res σ x2 0 hf H locs I ls (q_hsub hl [0] rfl)
def f_Mo_stateOf_84 (σ : q_St) (x2 : Int32) : Option (Int32 × q_St) := f_Mo_stateOf_89 σ x2 1
set_option maxHeartbeats 4000000 in
set_option maxRecDepth 100000 in
theorem k_Mo_stateOf_84 {p : Program} {l : Launch} {e : Env} {s : State} {m : MethodId} {args : Array Value} {below : List Frame} {meth : Method} {c : Code} {D : va_G} {A : Nat → Prop} {ad : Nat → Nat} {cs : Nat → ClassId} (C0 : q_Cx "JobTerminalModel" b_Mo_stateOf 4 (some .int) w_Mo_stateOf D vwCl (tyL cs) NW p s m args meth c) (hA : ∀ q, s.heap.size ≤ q → A q) (res : (Int32 × q_St)) : ∀ (σ : q_St) (x2 : Int32) , f_Mo_stateOf_84 σ x2 = some res → ∀ (H : Heap) (locs : List Loc), q_I D vwCl A s.heap (q_ws 23 ad (cM ad cs σ)) H locs → ∀ ls : Array Slot, q_has ls 4 [(2, .int x2)] → W p l e ({ frames := 0, cells := 0, slots := 0, locals := 0 } : Room) s m args below meth c H locs 0 0 (MQ below (q_Qi D vwCl res.1 (q_ws 23 ad (cM ad cs res.2)) A) args s 0 0 A) (F0 m 84 ls []) := by
  intro σ x2 hf H locs I ls hl
  unfold f_Mo_stateOf_84 at hf
  obtain ⟨hx, hb, hr, hml, hown, hts, hlocks, hK, hN⟩ := id C0
  have htg : ∀ w ∈ GW, w.before args s = true := fun w h => hts w (List.mem_cons_of_mem _ h)
  refine lv_iconst (v := 1) hx hb d_Mo_stateOf_84 (by decide) ?_
  refine lv_goto (tgt := 89) hx hb d_Mo_stateOf_85 (by decide) ?_
  exact k_Mo_stateOf_89 C0 hA res σ x2 1 hf H locs I ls (q_hsub hl [0] rfl)
def f_Mo_stateOf_44 (σ : q_St) (x1 : Int32) (y0 : Int32) : Option (Int32 × q_St) := q_grd (q_in x1 4) (q_grd (q_in (σ 13 x1.toNatClampNeg) 8) (if (σ 2 (σ 13 x1.toNatClampNeg).toNatClampNeg) = 1 then (f_Mo_stateOf_84 σ y0) else (q_grd (q_in x1 4) (if (σ 14 x1.toNatClampNeg) < 0 then (f_Mo_stateOf_88 σ y0) else (q_grd (q_in x1 4) (q_grd (q_in (σ 14 x1.toNatClampNeg) 8) (if (σ 2 (σ 14 x1.toNatClampNeg).toNatClampNeg) = 1 then (f_Mo_stateOf_84 σ y0) else (f_Mo_stateOf_88 σ y0))))))))
set_option maxHeartbeats 4000000 in
set_option maxRecDepth 100000 in
theorem k_Mo_stateOf_44 {p : Program} {l : Launch} {e : Env} {s : State} {m : MethodId} {args : Array Value} {below : List Frame} {meth : Method} {c : Code} {D : va_G} {A : Nat → Prop} {ad : Nat → Nat} {cs : Nat → ClassId} (C0 : q_Cx "JobTerminalModel" b_Mo_stateOf 4 (some .int) w_Mo_stateOf D vwCl (tyL cs) NW p s m args meth c) (hA : ∀ q, s.heap.size ≤ q → A q) (res : (Int32 × q_St)) : ∀ (σ : q_St) (x1 : Int32) (y0 : Int32) , f_Mo_stateOf_44 σ x1 y0 = some res → ∀ (H : Heap) (locs : List Loc), q_I D vwCl A s.heap (q_ws 23 ad (cM ad cs σ)) H locs → ∀ ls : Array Slot, q_has ls 4 [(0, .ref (ad 0)), (1, .int x1)] → W p l e ({ frames := 0, cells := 0, slots := 0, locals := 0 } : Room) s m args below meth c H locs 0 0 (MQ below (q_Qi D vwCl res.1 (q_ws 23 ad (cM ad cs res.2)) A) args s 0 0 A) (F0 m 44 ls [.int y0]) := by
  intro σ x1 y0 hf H locs I ls hl
  unfold f_Mo_stateOf_44 at hf
  obtain ⟨hx, hb, hr, hml, hown, hts, hlocks, hK, hN⟩ := id C0
  have htg : ∀ w ∈ GW, w.before args s = true := fun w h => hts w (List.mem_cons_of_mem _ h)
  refine q_istore_n (lv' := [(2, .int y0), (0, .ref (ad 0)), (1, .int x1)]) hx hb d_Mo_stateOf_44 rfl hl (by decide) rfl (fun ls hl => ?_)
  refine lv_aload_n hx hb d_Mo_stateOf_45 rfl (q_at hl 1 rfl) ?_
  refine G_Mo_Mo_state hx hb htg hown hK hN I d_Mo_stateOf_46 ?_
  refine lv_aload_n hx hb d_Mo_stateOf_49 rfl (q_at hl 1 rfl) ?_
  refine G_Mo_Mo_first hx hb htg hown hK hN I d_Mo_stateOf_50 ?_
  refine lv_iload_n hx hb d_Mo_stateOf_53 rfl (q_at hl 2 rfl) ?_
  obtain ⟨o9, hf⟩ := q_grd_some hf
  refine A_M_first hx hb hK I o9 d_Mo_stateOf_54 ?_
  obtain ⟨o10, hf⟩ := q_grd_some hf
  refine A_M_state hx hb hK I o10 d_Mo_stateOf_55 ?_
  refine lv_iconst (v := 1) hx hb d_Mo_stateOf_56 (by decide) ?_
  refine lv_icmp_eq (tgt := 84) hx hb d_Mo_stateOf_57 (by decide) (fun c11 => ?_) (fun c11 => ?_)
  · rw [if_pos c11] at hf
    exact k_Mo_stateOf_84 C0 hA res σ y0 hf H locs I ls (q_hsub hl [0] rfl)
  · rw [if_neg c11] at hf
    refine lv_aload_n hx hb d_Mo_stateOf_60 rfl (q_at hl 1 rfl) ?_
    refine G_Mo_Mo_second hx hb htg hown hK hN I d_Mo_stateOf_61 ?_
    refine lv_iload_n hx hb d_Mo_stateOf_64 rfl (q_at hl 2 rfl) ?_
    obtain ⟨o12, hf⟩ := q_grd_some hf
    refine A_M_second hx hb hK I o12 d_Mo_stateOf_65 ?_
    refine lv_if_lt (tgt := 88) hx hb d_Mo_stateOf_66 (by decide) (fun c13 => ?_) (fun c13 => ?_)
    · rw [if_pos c13] at hf
      exact k_Mo_stateOf_88 C0 hA res σ y0 hf H locs I ls (q_hsub hl [0] rfl)
    · rw [if_neg c13] at hf
      refine lv_aload_n hx hb d_Mo_stateOf_69 rfl (q_at hl 1 rfl) ?_
      refine G_Mo_Mo_state hx hb htg hown hK hN I d_Mo_stateOf_70 ?_
      refine lv_aload_n hx hb d_Mo_stateOf_73 rfl (q_at hl 1 rfl) ?_
      refine G_Mo_Mo_second hx hb htg hown hK hN I d_Mo_stateOf_74 ?_
      refine lv_iload_n hx hb d_Mo_stateOf_77 rfl (q_at hl 2 rfl) ?_
      obtain ⟨o14, hf⟩ := q_grd_some hf
      refine A_M_second hx hb hK I o14 d_Mo_stateOf_78 ?_
      obtain ⟨o15, hf⟩ := q_grd_some hf
      refine A_M_state hx hb hK I o15 d_Mo_stateOf_79 ?_
      refine lv_iconst (v := 1) hx hb d_Mo_stateOf_80 (by decide) ?_
      refine lv_icmp_ne (tgt := 88) hx hb d_Mo_stateOf_81 (by decide) (fun c16 => ?_) (fun c16 => ?_)
      · rw [if_neg c16] at hf
        exact k_Mo_stateOf_88 C0 hA res σ y0 hf H locs I ls (q_hsub hl [0] rfl)
      · rw [if_pos c16] at hf
        exact k_Mo_stateOf_84 C0 hA res σ y0 hf H locs I ls (q_hsub hl [0] rfl)
def f_Mo_stateOf_43 (σ : q_St) (x1 : Int32) : Option (Int32 × q_St) := f_Mo_stateOf_44 σ x1 0
set_option maxHeartbeats 4000000 in
set_option maxRecDepth 100000 in
theorem k_Mo_stateOf_43 {p : Program} {l : Launch} {e : Env} {s : State} {m : MethodId} {args : Array Value} {below : List Frame} {meth : Method} {c : Code} {D : va_G} {A : Nat → Prop} {ad : Nat → Nat} {cs : Nat → ClassId} (C0 : q_Cx "JobTerminalModel" b_Mo_stateOf 4 (some .int) w_Mo_stateOf D vwCl (tyL cs) NW p s m args meth c) (hA : ∀ q, s.heap.size ≤ q → A q) (res : (Int32 × q_St)) : ∀ (σ : q_St) (x1 : Int32) , f_Mo_stateOf_43 σ x1 = some res → ∀ (H : Heap) (locs : List Loc), q_I D vwCl A s.heap (q_ws 23 ad (cM ad cs σ)) H locs → ∀ ls : Array Slot, q_has ls 4 [(0, .ref (ad 0)), (1, .int x1)] → W p l e ({ frames := 0, cells := 0, slots := 0, locals := 0 } : Room) s m args below meth c H locs 0 0 (MQ below (q_Qi D vwCl res.1 (q_ws 23 ad (cM ad cs res.2)) A) args s 0 0 A) (F0 m 43 ls []) := by
  intro σ x1 hf H locs I ls hl
  unfold f_Mo_stateOf_43 at hf
  obtain ⟨hx, hb, hr, hml, hown, hts, hlocks, hK, hN⟩ := id C0
  have htg : ∀ w ∈ GW, w.before args s = true := fun w h => hts w (List.mem_cons_of_mem _ h)
  refine lv_iconst (v := 0) hx hb d_Mo_stateOf_43 (by decide) ?_
  exact k_Mo_stateOf_44 C0 hA res σ x1 0 hf H locs I ls (q_hsub hl [0, 1] rfl)
def f_Mo_stateOf_39 (σ : q_St) (x1 : Int32) : Option (Int32 × q_St) := f_Mo_stateOf_44 σ x1 1
set_option maxHeartbeats 4000000 in
set_option maxRecDepth 100000 in
theorem k_Mo_stateOf_39 {p : Program} {l : Launch} {e : Env} {s : State} {m : MethodId} {args : Array Value} {below : List Frame} {meth : Method} {c : Code} {D : va_G} {A : Nat → Prop} {ad : Nat → Nat} {cs : Nat → ClassId} (C0 : q_Cx "JobTerminalModel" b_Mo_stateOf 4 (some .int) w_Mo_stateOf D vwCl (tyL cs) NW p s m args meth c) (hA : ∀ q, s.heap.size ≤ q → A q) (res : (Int32 × q_St)) : ∀ (σ : q_St) (x1 : Int32) , f_Mo_stateOf_39 σ x1 = some res → ∀ (H : Heap) (locs : List Loc), q_I D vwCl A s.heap (q_ws 23 ad (cM ad cs σ)) H locs → ∀ ls : Array Slot, q_has ls 4 [(0, .ref (ad 0)), (1, .int x1)] → W p l e ({ frames := 0, cells := 0, slots := 0, locals := 0 } : Room) s m args below meth c H locs 0 0 (MQ below (q_Qi D vwCl res.1 (q_ws 23 ad (cM ad cs res.2)) A) args s 0 0 A) (F0 m 39 ls []) := by
  intro σ x1 hf H locs I ls hl
  unfold f_Mo_stateOf_39 at hf
  obtain ⟨hx, hb, hr, hml, hown, hts, hlocks, hK, hN⟩ := id C0
  have htg : ∀ w ∈ GW, w.before args s = true := fun w h => hts w (List.mem_cons_of_mem _ h)
  refine lv_iconst (v := 1) hx hb d_Mo_stateOf_39 (by decide) ?_
  refine lv_goto (tgt := 44) hx hb d_Mo_stateOf_40 (by decide) ?_
  exact k_Mo_stateOf_44 C0 hA res σ x1 1 hf H locs I ls (q_hsub hl [0, 1] rfl)
def f_Mo_stateOf (σ : q_St) (p1 : Int32) : Option (Int32 × q_St) := q_grd (q_in p1 4) (q_grd (q_in (σ 13 p1.toNatClampNeg) 8) (if (σ 2 (σ 13 p1.toNatClampNeg).toNatClampNeg) = 3 then (q_grd (q_in p1 4) (if (σ 14 p1.toNatClampNeg) < 0 then (f_Mo_stateOf_39 σ p1) else (q_grd (q_in p1 4) (q_grd (q_in (σ 14 p1.toNatClampNeg) 8) (if (σ 2 (σ 14 p1.toNatClampNeg).toNatClampNeg) = 3 then (f_Mo_stateOf_39 σ p1) else (f_Mo_stateOf_43 σ p1)))))) else (f_Mo_stateOf_43 σ p1)))
set_option maxHeartbeats 4000000 in
set_option maxRecDepth 100000 in
theorem c_Mo_stateOf {l : Launch} {D : va_G} {ad : Nat → Nat} {cs : Nat → ClassId} {sz : Nat} {σ : q_St} {p1 : Int32} {res : (Int32 × q_St)} (hf : f_Mo_stateOf σ p1 = some res) : Met l y_Mo_stateOf w_Mo_stateOf ({ frames := 0, cells := 0, slots := 0, locals := 0 } : Room) (q_Pre D vwCl (tyL cs) NW [.ref (ad 0), .int p1] (q_ws 23 ad (cM ad cs σ)) sz) (q_Qi D vwCl res.1 (q_ws 23 ad (cM ad cs res.2)) (va_A (q_ws 23 ad (cM ad cs σ)) sz)) 0 0 (va_A (q_ws 23 ad (cM ad cs σ)) sz) := by
  refine Met.ofW (cc := b_Mo_stateOf) (maxL := 4) (ret := (some .int)) (by decide) rfl ?_
  intro p e s m args below meth c s₁ B hml hv
  obtain ⟨hargs, hsz, hP, hK, hD0, hN⟩ := hv
  have hx := B.exec
  have hb := B.bytes
  have hr := B.returns
  have hts := atoms_spec (ws := w_Mo_stateOf) B.pre
  have hown : s.vm.findClass "JobTerminalModel" = some m.cls := findClass_of_methodNamed B.named
  have hlocks := B.notSynchronized
  have htg : ∀ w ∈ GW, w.before args s = true := fun w h => hts w (List.mem_cons_of_mem _ h)
  subst hsz
  have hD := hD0.self (sz := s.heap.size)
  generalize hAe : va_A (q_ws 23 ad (cM ad cs σ)) s.heap.size = A at hD ⊢
  have hA : ∀ q : Nat, s.heap.size ≤ q → A q := fun q h => by rw [← hAe]; exact Or.inr h
  have I : q_I D vwCl A s.heap (q_ws 23 ad (cM ad cs σ)) s.heap [] := ⟨hP, hD, va_S.rf⟩
  obtain ⟨ls, hen, hl⟩ := q_entry (vs := [.ref (ad 0), .int p1]) (n := 4) (lv := [(0, .ref (ad 0)), (1, .int p1)]) (by intro v hv; simp only [List.mem_cons, List.not_mem_nil, or_false] at hv; rcases hv with rfl | rfl <;> first | rfl | exact q_cat) (Nat.le_of_ble_eq_true rfl) rfl
  rw [show entryFrame m args 4 = F0 m 0 ls [] from by rw [hargs]; exact hen m]
  have C0 : q_Cx "JobTerminalModel" b_Mo_stateOf 4 (some .int) w_Mo_stateOf D vwCl (tyL cs) NW p s m args meth c := ⟨hx, hb, hr, hml, hown, hts, hlocks, hK, hN⟩
  unfold f_Mo_stateOf at hf
  have hgo : ∀ (H : Heap) (locs : List Loc), q_I D vwCl A s.heap (q_ws 23 ad (cM ad cs σ)) H locs → W p l e ({ frames := 0, cells := 0, slots := 0, locals := 0 } : Room) s m args below meth c H locs 0 0 (MQ below (q_Qi D vwCl res.1 (q_ws 23 ad (cM ad cs res.2)) A) args s 0 0 A) (F0 m 0 ls []) := by
    intro H locs I
    refine lv_aload_n hx hb d_Mo_stateOf_0 rfl (q_at hl 0 rfl) ?_
    refine G_Mo_Mo_state hx hb htg hown hK hN I d_Mo_stateOf_1 ?_
    refine lv_aload_n hx hb d_Mo_stateOf_4 rfl (q_at hl 0 rfl) ?_
    refine G_Mo_Mo_first hx hb htg hown hK hN I d_Mo_stateOf_5 ?_
    refine lv_iload_n hx hb d_Mo_stateOf_8 rfl (q_at hl 1 rfl) ?_
    obtain ⟨o1, hf⟩ := q_grd_some hf
    refine A_M_first hx hb hK I o1 d_Mo_stateOf_9 ?_
    obtain ⟨o2, hf⟩ := q_grd_some hf
    refine A_M_state hx hb hK I o2 d_Mo_stateOf_10 ?_
    refine lv_iconst (v := 3) hx hb d_Mo_stateOf_11 (by decide) ?_
    refine lv_icmp_ne (tgt := 43) hx hb d_Mo_stateOf_12 (by decide) (fun c3 => ?_) (fun c3 => ?_)
    · rw [if_neg c3] at hf
      exact k_Mo_stateOf_43 C0 hA res σ p1 hf H locs I ls (q_hsub hl [0, 1] rfl)
    · rw [if_pos c3] at hf
      refine lv_aload_n hx hb d_Mo_stateOf_15 rfl (q_at hl 0 rfl) ?_
      refine G_Mo_Mo_second hx hb htg hown hK hN I d_Mo_stateOf_16 ?_
      refine lv_iload_n hx hb d_Mo_stateOf_19 rfl (q_at hl 1 rfl) ?_
      obtain ⟨o4, hf⟩ := q_grd_some hf
      refine A_M_second hx hb hK I o4 d_Mo_stateOf_20 ?_
      refine lv_if_lt (tgt := 39) hx hb d_Mo_stateOf_21 (by decide) (fun c5 => ?_) (fun c5 => ?_)
      · rw [if_pos c5] at hf
        exact k_Mo_stateOf_39 C0 hA res σ p1 hf H locs I ls (q_hsub hl [0, 1] rfl)
      · rw [if_neg c5] at hf
        refine lv_aload_n hx hb d_Mo_stateOf_24 rfl (q_at hl 0 rfl) ?_
        refine G_Mo_Mo_state hx hb htg hown hK hN I d_Mo_stateOf_25 ?_
        refine lv_aload_n hx hb d_Mo_stateOf_28 rfl (q_at hl 0 rfl) ?_
        refine G_Mo_Mo_second hx hb htg hown hK hN I d_Mo_stateOf_29 ?_
        refine lv_iload_n hx hb d_Mo_stateOf_32 rfl (q_at hl 1 rfl) ?_
        obtain ⟨o6, hf⟩ := q_grd_some hf
        refine A_M_second hx hb hK I o6 d_Mo_stateOf_33 ?_
        obtain ⟨o7, hf⟩ := q_grd_some hf
        refine A_M_state hx hb hK I o7 d_Mo_stateOf_34 ?_
        refine lv_iconst (v := 3) hx hb d_Mo_stateOf_35 (by decide) ?_
        refine lv_icmp_ne (tgt := 43) hx hb d_Mo_stateOf_36 (by decide) (fun c8 => ?_) (fun c8 => ?_)
        · rw [if_neg c8] at hf
          exact k_Mo_stateOf_43 C0 hA res σ p1 hf H locs I ls (q_hsub hl [0, 1] rfl)
        · rw [if_pos c8] at hf
          exact k_Mo_stateOf_39 C0 hA res σ p1 hf H locs I ls (q_hsub hl [0, 1] rfl)
  exact hgo _ _ I
-- JobTerminalModel compare
def f_Mo_compare_78 (K2 : q_St → Int32 → Option q_St) (σ : q_St) (x1 : Int32) : Option q_St := K2 σ (x1 + 1)
set_option maxHeartbeats 4000000 in
set_option maxRecDepth 100000 in
theorem k_Mo_compare_78 {p : Program} {l : Launch} {e : Env} {s : State} {m : MethodId} {args : Array Value} {below : List Frame} {meth : Method} {c : Code} {D : va_G} {A : Nat → Prop} {ad : Nat → Nat} {cs : Nat → ClassId} (C0 : q_Cx "JobTerminalModel" b_Mo_compare 2 none w_Mo_compare D vwCl (tyL cs) NW p s m args meth c) (hA : ∀ q, s.heap.size ≤ q → A q) (res : q_St) {K2 : q_St → Int32 → Option q_St} (hk2 : ∀ (σ : q_St) (x1 : Int32) , K2 σ x1 = some res → ∀ (H : Heap) (locs : List Loc), q_I D vwCl A s.heap (q_ws 23 ad (cM ad cs σ)) H locs → ∀ ls : Array Slot, q_has ls 2 [(0, .ref (ad 0)), (1, .int x1)] → W p l e ({ frames := 1, cells := 0, slots := 0, locals := 23 } : Room) s m args below meth c H locs 0 0 (MQ below (q_Qv D vwCl (q_ws 23 ad (cM ad cs res)) A) args s 0 0 A) (F0 m 2 ls [])) : ∀ (σ : q_St) (x1 : Int32) , f_Mo_compare_78 K2 σ x1 = some res → ∀ (H : Heap) (locs : List Loc), q_I D vwCl A s.heap (q_ws 23 ad (cM ad cs σ)) H locs → ∀ ls : Array Slot, q_has ls 2 [(0, .ref (ad 0)), (1, .int x1)] → W p l e ({ frames := 1, cells := 0, slots := 0, locals := 23 } : Room) s m args below meth c H locs 0 0 (MQ below (q_Qv D vwCl (q_ws 23 ad (cM ad cs res)) A) args s 0 0 A) (F0 m 78 ls []) := by
  intro σ x1 hf H locs I ls hl
  unfold f_Mo_compare_78 at hf
  obtain ⟨hx, hb, hr, hml, hown, hts, hlocks, hK, hN⟩ := id C0
  have htg : ∀ w ∈ GW, w.before args s = true := fun w h => hts w (List.mem_cons_of_mem _ h)
  refine q_iinc (v := x1 + 1) (lv' := [(1, .int (x1 + 1)), (0, .ref (ad 0))]) hx hb d_Mo_compare_78 hl (k := 1) rfl rfl (by decide) rfl (fun ls hl => ?_)
  refine lv_goto (tgt := 2) hx hb d_Mo_compare_81 (by decide) ?_
  exact hk2 σ (x1 + 1) hf H locs I ls (q_hsub hl [1, 0] rfl)
def f_Mo_compare_75 (K2 : q_St → Int32 → Option q_St) (σ : q_St) (x1 : Int32) (y0 : Int32) : Option q_St := f_Mo_compare_78 K2 (q_up σ 41 0 y0) x1
set_option maxHeartbeats 4000000 in
set_option maxRecDepth 100000 in
theorem k_Mo_compare_75 {p : Program} {l : Launch} {e : Env} {s : State} {m : MethodId} {args : Array Value} {below : List Frame} {meth : Method} {c : Code} {D : va_G} {A : Nat → Prop} {ad : Nat → Nat} {cs : Nat → ClassId} (C0 : q_Cx "JobTerminalModel" b_Mo_compare 2 none w_Mo_compare D vwCl (tyL cs) NW p s m args meth c) (hA : ∀ q, s.heap.size ≤ q → A q) (res : q_St) {K2 : q_St → Int32 → Option q_St} (hk2 : ∀ (σ : q_St) (x1 : Int32) , K2 σ x1 = some res → ∀ (H : Heap) (locs : List Loc), q_I D vwCl A s.heap (q_ws 23 ad (cM ad cs σ)) H locs → ∀ ls : Array Slot, q_has ls 2 [(0, .ref (ad 0)), (1, .int x1)] → W p l e ({ frames := 1, cells := 0, slots := 0, locals := 23 } : Room) s m args below meth c H locs 0 0 (MQ below (q_Qv D vwCl (q_ws 23 ad (cM ad cs res)) A) args s 0 0 A) (F0 m 2 ls [])) : ∀ (σ : q_St) (x1 : Int32) (y0 : Int32) , f_Mo_compare_75 K2 σ x1 y0 = some res → ∀ (H : Heap) (locs : List Loc), q_I D vwCl A s.heap (q_ws 23 ad (cM ad cs σ)) H locs → ∀ ls : Array Slot, q_has ls 2 [(0, .ref (ad 0)), (1, .int x1)] → W p l e ({ frames := 1, cells := 0, slots := 0, locals := 23 } : Room) s m args below meth c H locs 0 0 (MQ below (q_Qv D vwCl (q_ws 23 ad (cM ad cs res)) A) args s 0 0 A) (F0 m 75 ls [.int y0, .ref (ad 0)]) := by
  intro σ x1 y0 hf H locs I ls hl
  unfold f_Mo_compare_75 at hf
  obtain ⟨hx, hb, hr, hml, hown, hts, hlocks, hK, hN⟩ := id C0
  have htg : ∀ w ∈ GW, w.before args s = true := fun w h => hts w (List.mem_cons_of_mem _ h)
  refine P_Mo_Mo_front hx hb htg hown hK hN I d_Mo_compare_75 (fun H locs I => ?_)
  exact k_Mo_compare_78 C0 hA res (K2 := K2) hk2 (q_up σ 41 0 y0) x1 hf H locs I ls (q_hsub hl [0, 1] rfl)
def f_Mo_compare_71 (K2 : q_St → Int32 → Option q_St) (σ : q_St) (x1 : Int32) : Option q_St := f_Mo_compare_75 K2 σ x1 (σ 41 0)
set_option maxHeartbeats 4000000 in
set_option maxRecDepth 100000 in
theorem k_Mo_compare_71 {p : Program} {l : Launch} {e : Env} {s : State} {m : MethodId} {args : Array Value} {below : List Frame} {meth : Method} {c : Code} {D : va_G} {A : Nat → Prop} {ad : Nat → Nat} {cs : Nat → ClassId} (C0 : q_Cx "JobTerminalModel" b_Mo_compare 2 none w_Mo_compare D vwCl (tyL cs) NW p s m args meth c) (hA : ∀ q, s.heap.size ≤ q → A q) (res : q_St) {K2 : q_St → Int32 → Option q_St} (hk2 : ∀ (σ : q_St) (x1 : Int32) , K2 σ x1 = some res → ∀ (H : Heap) (locs : List Loc), q_I D vwCl A s.heap (q_ws 23 ad (cM ad cs σ)) H locs → ∀ ls : Array Slot, q_has ls 2 [(0, .ref (ad 0)), (1, .int x1)] → W p l e ({ frames := 1, cells := 0, slots := 0, locals := 23 } : Room) s m args below meth c H locs 0 0 (MQ below (q_Qv D vwCl (q_ws 23 ad (cM ad cs res)) A) args s 0 0 A) (F0 m 2 ls [])) : ∀ (σ : q_St) (x1 : Int32) , f_Mo_compare_71 K2 σ x1 = some res → ∀ (H : Heap) (locs : List Loc), q_I D vwCl A s.heap (q_ws 23 ad (cM ad cs σ)) H locs → ∀ ls : Array Slot, q_has ls 2 [(0, .ref (ad 0)), (1, .int x1)] → W p l e ({ frames := 1, cells := 0, slots := 0, locals := 23 } : Room) s m args below meth c H locs 0 0 (MQ below (q_Qv D vwCl (q_ws 23 ad (cM ad cs res)) A) args s 0 0 A) (F0 m 71 ls [.ref (ad 0)]) := by
  intro σ x1 hf H locs I ls hl
  unfold f_Mo_compare_71 at hf
  obtain ⟨hx, hb, hr, hml, hown, hts, hlocks, hK, hN⟩ := id C0
  have htg : ∀ w ∈ GW, w.before args s = true := fun w h => hts w (List.mem_cons_of_mem _ h)
  refine lv_aload_n hx hb d_Mo_compare_71 rfl (q_at hl 0 rfl) ?_
  refine G_Mo_Mo_front hx hb htg hown hK hN I d_Mo_compare_72 ?_
  exact k_Mo_compare_75 C0 hA res (K2 := K2) hk2 σ x1 (σ 41 0) hf H locs I ls (q_hsub hl [0, 1] rfl)
def f_Mo_compare_2 : Nat → q_St → Int32 → Option q_St
  | 0, _, _ => none
  | n + 1, σ, x1 => if 4 ≤ x1 then (some σ) else (q_grd (q_in x1 4) (if (σ 12 x1.toNatClampNeg) = 0 then (f_Mo_compare_78 (f_Mo_compare_2 n) σ x1) else (q_bnd (f_Mo_stateOf σ x1) (fun r4 => q_grd (q_in x1 4) (if r4.1 = (r4.2 15 x1.toNatClampNeg) then (f_Mo_compare_78 (f_Mo_compare_2 n) r4.2 x1) else (q_bnd (f_Mo_stateOf r4.2 x1) (fun r8 => q_grd (q_in x1 4) (q_grd (q_in x1 4) (q_grd (q_in x1 4) (if ((q_up (q_up r8.2 15 x1.toNatClampNeg r8.1) 16 x1.toNatClampNeg 1) 15 x1.toNatClampNeg) ≤ 1 then (f_Mo_compare_71 (f_Mo_compare_2 n) (q_up (q_up r8.2 15 x1.toNatClampNeg r8.1) 16 x1.toNatClampNeg 1) x1) else (if ((q_up (q_up r8.2 15 x1.toNatClampNeg r8.1) 16 x1.toNatClampNeg 1) 41 0) = x1 then (f_Mo_compare_75 (f_Mo_compare_2 n) (q_up (q_up r8.2 15 x1.toNatClampNeg r8.1) 16 x1.toNatClampNeg 1) x1 (-1)) else (f_Mo_compare_71 (f_Mo_compare_2 n) (q_up (q_up r8.2 15 x1.toNatClampNeg r8.1) 16 x1.toNatClampNeg 1) x1))))))))))))
set_option maxHeartbeats 4000000 in
set_option maxRecDepth 100000 in
theorem k_Mo_compare_2 {p : Program} {l : Launch} {e : Env} {s : State} {m : MethodId} {args : Array Value} {below : List Frame} {meth : Method} {c : Code} {D : va_G} {A : Nat → Prop} {ad : Nat → Nat} {cs : Nat → ClassId} (C0 : q_Cx "JobTerminalModel" b_Mo_compare 2 none w_Mo_compare D vwCl (tyL cs) NW p s m args meth c) (hA : ∀ q, s.heap.size ≤ q → A q) (res : q_St) : ∀ (n : Nat) (σ : q_St) (x1 : Int32) , f_Mo_compare_2 n σ x1 = some res → ∀ (H : Heap) (locs : List Loc), q_I D vwCl A s.heap (q_ws 23 ad (cM ad cs σ)) H locs → ∀ ls : Array Slot, q_has ls 2 [(0, .ref (ad 0)), (1, .int x1)] → W p l e ({ frames := 1, cells := 0, slots := 0, locals := 23 } : Room) s m args below meth c H locs 0 0 (MQ below (q_Qv D vwCl (q_ws 23 ad (cM ad cs res)) A) args s 0 0 A) (F0 m 2 ls []) := by
  intro n
  induction n with
  | zero => intro σ x1 hf; cases hf
  | succ n ih =>
    intro σ x1 hf H locs I ls hl
    have ih := ih
    rw [f_Mo_compare_2] at hf
    have C0 := C0
    obtain ⟨hx, hb, hr, hml, hown, hts, hlocks, hK, hN⟩ := id C0
    have htg : ∀ w ∈ GW, w.before args s = true := fun w h => hts w (List.mem_cons_of_mem _ h)
    refine lv_iload_n hx hb d_Mo_compare_2 rfl (q_at hl 1 rfl) ?_
    refine lv_iconst (v := 4) hx hb d_Mo_compare_3 (by decide) ?_
    refine lv_icmp_ge (tgt := 84) hx hb d_Mo_compare_4 (by decide) (fun c1 => ?_) (fun c1 => ?_)
    · rw [if_pos c1] at hf
      cases hf
      exact q_vret hx hb hr hlocks I d_Mo_compare_84
    · rw [if_neg c1] at hf
      refine lv_aload_n hx hb d_Mo_compare_7 rfl (q_at hl 0 rfl) ?_
      refine G_Mo_Mo_there hx hb htg hown hK hN I d_Mo_compare_8 ?_
      refine lv_iload_n hx hb d_Mo_compare_11 rfl (q_at hl 1 rfl) ?_
      obtain ⟨o2, hf⟩ := q_grd_some hf
      refine A_M_there hx hb hK I o2 d_Mo_compare_12 ?_
      refine lv_if_eq (tgt := 78) hx hb d_Mo_compare_13 (by decide) (fun c3 => ?_) (fun c3 => ?_)
      · rw [if_pos c3] at hf
        exact k_Mo_compare_78 C0 hA res (K2 := f_Mo_compare_2 n) ih σ x1 hf H locs I ls (q_hsub hl [0, 1] rfl)
      · rw [if_neg c3] at hf
        refine lv_aload_n hx hb d_Mo_compare_16 rfl (q_at hl 0 rfl) ?_
        refine lv_iload_n hx hb d_Mo_compare_17 rfl (q_at hl 1 rfl) ?_
        obtain ⟨r4, e5, hf⟩ := q_bnd_some hf
        refine q_ki hA I (q_runV (C := "JobTerminalModel") (As := [.int x1]) (rest := []) ⟨hx, hb, hml, hown, hts⟩ (c_Mo_stateOf (sz := H.size) e5) (cwV 1 hts (q_goodV mw362 mw363 mw364 mw365 mw366) rfl rfl rfl (by decide +kernel) ⟨Nat.le_of_ble_eq_true rfl, Nat.le_of_ble_eq_true rfl⟩) NW_ok hK hN I rfl (q_wsE (by decide) (a_M_Mo)) rfl (q_sz hl) rfl (Nat.le_of_ble_eq_true rfl) d_Mo_compare_18 ⟨Nat.zero_le _, Nat.zero_le _⟩) (fun H locs I => ?_)
        refine lv_aload_n hx hb d_Mo_compare_21 rfl (q_at hl 0 rfl) ?_
        refine G_Mo_Mo_was hx hb htg hown hK hN I d_Mo_compare_22 ?_
        refine lv_iload_n hx hb d_Mo_compare_25 rfl (q_at hl 1 rfl) ?_
        obtain ⟨o6, hf⟩ := q_grd_some hf
        refine A_M_was hx hb hK I o6 d_Mo_compare_26 ?_
        refine lv_icmp_eq (tgt := 78) hx hb d_Mo_compare_27 (by decide) (fun c7 => ?_) (fun c7 => ?_)
        · rw [if_pos c7] at hf
          exact k_Mo_compare_78 C0 hA res (K2 := f_Mo_compare_2 n) ih r4.2 x1 hf H locs I ls (q_hsub hl [0, 1] rfl)
        · rw [if_neg c7] at hf
          refine lv_aload_n hx hb d_Mo_compare_30 rfl (q_at hl 0 rfl) ?_
          refine G_Mo_Mo_was hx hb htg hown hK hN I d_Mo_compare_31 ?_
          refine lv_iload_n hx hb d_Mo_compare_34 rfl (q_at hl 1 rfl) ?_
          refine lv_aload_n hx hb d_Mo_compare_35 rfl (q_at hl 0 rfl) ?_
          refine lv_iload_n hx hb d_Mo_compare_36 rfl (q_at hl 1 rfl) ?_
          obtain ⟨r8, e9, hf⟩ := q_bnd_some hf
          refine q_ki hA I (q_runV (C := "JobTerminalModel") (As := [.int x1]) (rest := [.int x1, .ref (ad 16)]) ⟨hx, hb, hml, hown, hts⟩ (c_Mo_stateOf (sz := H.size) e9) (cwV 1 hts (q_goodV mw362 mw363 mw364 mw365 mw366) rfl rfl rfl (by decide +kernel) ⟨Nat.le_of_ble_eq_true rfl, Nat.le_of_ble_eq_true rfl⟩) NW_ok hK hN I rfl (q_wsE (by decide) (a_M_Mo)) rfl (q_sz hl) rfl (Nat.le_of_ble_eq_true rfl) d_Mo_compare_37 ⟨Nat.zero_le _, Nat.zero_le _⟩) (fun H locs I => ?_)
          obtain ⟨o10, hf⟩ := q_grd_some hf
          refine T_M_was hx hb hK I o10 d_Mo_compare_40 (fun H locs I => ?_)
          refine lv_aload_n hx hb d_Mo_compare_41 rfl (q_at hl 0 rfl) ?_
          refine G_Mo_Mo_untold hx hb htg hown hK hN I d_Mo_compare_42 ?_
          refine lv_iload_n hx hb d_Mo_compare_45 rfl (q_at hl 1 rfl) ?_
          refine lv_iconst (v := 1) hx hb d_Mo_compare_46 (by decide) ?_
          obtain ⟨o11, hf⟩ := q_grd_some hf
          refine T_M_untold hx hb hK I o11 (by decide) d_Mo_compare_47 (fun H locs I => ?_)
          refine lv_aload_n hx hb d_Mo_compare_48 rfl (q_at hl 0 rfl) ?_
          refine lv_aload_n hx hb d_Mo_compare_49 rfl (q_at hl 0 rfl) ?_
          refine G_Mo_Mo_was hx hb htg hown hK hN I d_Mo_compare_50 ?_
          refine lv_iload_n hx hb d_Mo_compare_53 rfl (q_at hl 1 rfl) ?_
          obtain ⟨o12, hf⟩ := q_grd_some hf
          refine A_M_was hx hb hK I o12 d_Mo_compare_54 ?_
          refine lv_iconst (v := 1) hx hb d_Mo_compare_55 (by decide) ?_
          refine lv_icmp_le (tgt := 71) hx hb d_Mo_compare_56 (by decide) (fun c13 => ?_) (fun c13 => ?_)
          · rw [if_pos c13] at hf
            exact k_Mo_compare_71 C0 hA res (K2 := f_Mo_compare_2 n) ih (q_up (q_up r8.2 15 x1.toNatClampNeg r8.1) 16 x1.toNatClampNeg 1) x1 hf H locs I ls (q_hsub hl [0, 1] rfl)
          · rw [if_neg c13] at hf
            refine lv_aload_n hx hb d_Mo_compare_59 rfl (q_at hl 0 rfl) ?_
            refine G_Mo_Mo_front hx hb htg hown hK hN I d_Mo_compare_60 ?_
            refine lv_iload_n hx hb d_Mo_compare_63 rfl (q_at hl 1 rfl) ?_
            refine lv_icmp_ne (tgt := 71) hx hb d_Mo_compare_64 (by decide) (fun c14 => ?_) (fun c14 => ?_)
            · rw [if_neg c14] at hf
              exact k_Mo_compare_71 C0 hA res (K2 := f_Mo_compare_2 n) ih (q_up (q_up r8.2 15 x1.toNatClampNeg r8.1) 16 x1.toNatClampNeg 1) x1 hf H locs I ls (q_hsub hl [0, 1] rfl)
            · rw [if_pos c14] at hf
              refine lv_iconst (v := -1) hx hb d_Mo_compare_67 (by decide) ?_
              refine lv_goto (tgt := 75) hx hb d_Mo_compare_68 (by decide) ?_
              exact k_Mo_compare_75 C0 hA res (K2 := f_Mo_compare_2 n) ih (q_up (q_up r8.2 15 x1.toNatClampNeg r8.1) 16 x1.toNatClampNeg 1) x1 (-1) hf H locs I ls (q_hsub hl [0, 1] rfl)
def f_Mo_compare (σ : q_St) : Option q_St := f_Mo_compare_2 200 σ 0
set_option maxHeartbeats 4000000 in
set_option maxRecDepth 100000 in
theorem c_Mo_compare {l : Launch} {D : va_G} {ad : Nat → Nat} {cs : Nat → ClassId} {sz : Nat} {σ : q_St} {res : q_St} (hf : f_Mo_compare σ  = some res) : Met l y_Mo_compare w_Mo_compare ({ frames := 1, cells := 0, slots := 0, locals := 23 } : Room) (q_Pre D vwCl (tyL cs) NW [.ref (ad 0)] (q_ws 23 ad (cM ad cs σ)) sz) (q_Qv D vwCl (q_ws 23 ad (cM ad cs res)) (va_A (q_ws 23 ad (cM ad cs σ)) sz)) 0 0 (va_A (q_ws 23 ad (cM ad cs σ)) sz) := by
  refine Met.ofW (cc := b_Mo_compare) (maxL := 2) (ret := none) (by decide) rfl ?_
  intro p e s m args below meth c s₁ B hml hv
  obtain ⟨hargs, hsz, hP, hK, hD0, hN⟩ := hv
  have hx := B.exec
  have hb := B.bytes
  have hr := B.returns
  have hts := atoms_spec (ws := w_Mo_compare) B.pre
  have hown : s.vm.findClass "JobTerminalModel" = some m.cls := findClass_of_methodNamed B.named
  have hlocks := B.notSynchronized
  have htg : ∀ w ∈ GW, w.before args s = true := fun w h => hts w (List.mem_cons_of_mem _ h)
  subst hsz
  have hD := hD0.self (sz := s.heap.size)
  generalize hAe : va_A (q_ws 23 ad (cM ad cs σ)) s.heap.size = A at hD ⊢
  have hA : ∀ q : Nat, s.heap.size ≤ q → A q := fun q h => by rw [← hAe]; exact Or.inr h
  have I : q_I D vwCl A s.heap (q_ws 23 ad (cM ad cs σ)) s.heap [] := ⟨hP, hD, va_S.rf⟩
  obtain ⟨ls, hen, hl⟩ := q_entry (vs := [.ref (ad 0)]) (n := 2) (lv := [(0, .ref (ad 0))]) (by intro v hv; simp only [List.mem_cons, List.not_mem_nil, or_false] at hv; rcases hv with rfl <;> first | rfl | exact q_cat) (Nat.le_of_ble_eq_true rfl) rfl
  rw [show entryFrame m args 2 = F0 m 0 ls [] from by rw [hargs]; exact hen m]
  have C0 : q_Cx "JobTerminalModel" b_Mo_compare 2 none w_Mo_compare D vwCl (tyL cs) NW p s m args meth c := ⟨hx, hb, hr, hml, hown, hts, hlocks, hK, hN⟩
  unfold f_Mo_compare at hf
  have hgo : ∀ (H : Heap) (locs : List Loc), q_I D vwCl A s.heap (q_ws 23 ad (cM ad cs σ)) H locs → W p l e ({ frames := 1, cells := 0, slots := 0, locals := 23 } : Room) s m args below meth c H locs 0 0 (MQ below (q_Qv D vwCl (q_ws 23 ad (cM ad cs res)) A) args s 0 0 A) (F0 m 0 ls []) := by
    intro H locs I
    refine lv_iconst (v := 0) hx hb d_Mo_compare_0 (by decide) ?_
    refine q_istore_n (lv' := [(1, .int 0), (0, .ref (ad 0))]) hx hb d_Mo_compare_1 rfl hl (by decide) rfl (fun ls hl => ?_)
    exact k_Mo_compare_2 C0 hA res 200 σ 0 hf H locs I ls (q_hsub hl [1, 0] rfl)
  exact hgo _ _ I
-- JobTerminalModel has
def f_Mo_has_14 (σ : q_St) (y0 : Int32) : Option (Int32 × q_St) := q_grd (q_isB y0) (some (y0, σ))
set_option maxHeartbeats 4000000 in
set_option maxRecDepth 100000 in
theorem k_Mo_has_14 {p : Program} {l : Launch} {e : Env} {s : State} {m : MethodId} {args : Array Value} {below : List Frame} {meth : Method} {c : Code} {D : va_G} {A : Nat → Prop} {ad : Nat → Nat} {cs : Nat → ClassId} (C0 : q_Cx "JobTerminalModel" b_Mo_has 2 (some .boolean) w_Mo_has D vwCl (tyL cs) NW p s m args meth c) (hA : ∀ q, s.heap.size ≤ q → A q) (res : (Int32 × q_St)) : ∀ (σ : q_St) (y0 : Int32) , f_Mo_has_14 σ y0 = some res → ∀ (H : Heap) (locs : List Loc), q_I D vwCl A s.heap (q_ws 23 ad (cM ad cs σ)) H locs → ∀ ls : Array Slot, q_has ls 2 [] → W p l e ({ frames := 0, cells := 0, slots := 0, locals := 0 } : Room) s m args below meth c H locs 0 0 (MQ below (q_Qi D vwCl res.1 (q_ws 23 ad (cM ad cs res.2)) A) args s 0 0 A) (F0 m 14 ls [.int y0]) := by
  intro σ y0 hf H locs I ls hl
  unfold f_Mo_has_14 at hf
  obtain ⟨hx, hb, hr, hml, hown, hts, hlocks, hK, hN⟩ := id C0
  have htg : ∀ w ∈ GW, w.before args s = true := fun w h => hts w (List.mem_cons_of_mem _ h)
  obtain ⟨o2, hf⟩ := q_grd_some hf
  cases hf
  exact q_zret hx hb hr hlocks o2 I d_Mo_has_14
def f_Mo_has (σ : q_St) (p0 : Int32) (p1 : Int32) : Option (Int32 × q_St) := if ((p0 >>> (p1 &&& 31)) &&& 1) = 1 then (f_Mo_has_14 σ 1) else (f_Mo_has_14 σ 0)
set_option maxHeartbeats 4000000 in
set_option maxRecDepth 100000 in
theorem c_Mo_has {l : Launch} {D : va_G} {ad : Nat → Nat} {cs : Nat → ClassId} {sz : Nat} {σ : q_St} {p0 : Int32} {p1 : Int32} {res : (Int32 × q_St)} (hf : f_Mo_has σ p0 p1 = some res) : Met l y_Mo_has w_Mo_has ({ frames := 0, cells := 0, slots := 0, locals := 0 } : Room) (q_Pre D vwCl (tyL cs) NW [.int p0, .int p1] (q_ws 23 ad (cM ad cs σ)) sz) (q_Qi D vwCl res.1 (q_ws 23 ad (cM ad cs res.2)) (va_A (q_ws 23 ad (cM ad cs σ)) sz)) 0 0 (va_A (q_ws 23 ad (cM ad cs σ)) sz) := by
  refine Met.ofW (cc := b_Mo_has) (maxL := 2) (ret := (some .boolean)) (by decide) rfl ?_
  intro p e s m args below meth c s₁ B hml hv
  obtain ⟨hargs, hsz, hP, hK, hD0, hN⟩ := hv
  have hx := B.exec
  have hb := B.bytes
  have hr := B.returns
  have hts := atoms_spec (ws := w_Mo_has) B.pre
  have hown : s.vm.findClass "JobTerminalModel" = some m.cls := findClass_of_methodNamed B.named
  have hlocks := B.notSynchronized
  have htg : ∀ w ∈ GW, w.before args s = true := fun w h => hts w (List.mem_cons_of_mem _ h)
  subst hsz
  have hD := hD0.self (sz := s.heap.size)
  generalize hAe : va_A (q_ws 23 ad (cM ad cs σ)) s.heap.size = A at hD ⊢
  have hA : ∀ q : Nat, s.heap.size ≤ q → A q := fun q h => by rw [← hAe]; exact Or.inr h
  have I : q_I D vwCl A s.heap (q_ws 23 ad (cM ad cs σ)) s.heap [] := ⟨hP, hD, va_S.rf⟩
  obtain ⟨ls, hen, hl⟩ := q_entry (vs := [.int p0, .int p1]) (n := 2) (lv := [(0, .int p0), (1, .int p1)]) (by intro v hv; simp only [List.mem_cons, List.not_mem_nil, or_false] at hv; rcases hv with rfl | rfl <;> first | rfl | exact q_cat) (Nat.le_of_ble_eq_true rfl) rfl
  rw [show entryFrame m args 2 = F0 m 0 ls [] from by rw [hargs]; exact hen m]
  have C0 : q_Cx "JobTerminalModel" b_Mo_has 2 (some .boolean) w_Mo_has D vwCl (tyL cs) NW p s m args meth c := ⟨hx, hb, hr, hml, hown, hts, hlocks, hK, hN⟩
  unfold f_Mo_has at hf
  have hgo : ∀ (H : Heap) (locs : List Loc), q_I D vwCl A s.heap (q_ws 23 ad (cM ad cs σ)) H locs → W p l e ({ frames := 0, cells := 0, slots := 0, locals := 0 } : Room) s m args below meth c H locs 0 0 (MQ below (q_Qi D vwCl res.1 (q_ws 23 ad (cM ad cs res.2)) A) args s 0 0 A) (F0 m 0 ls []) := by
    intro H locs I
    refine lv_iload_n hx hb d_Mo_has_0 rfl (q_at hl 0 rfl) ?_
    refine lv_iload_n hx hb d_Mo_has_1 rfl (q_at hl 1 rfl) ?_
    refine lv_ishr hx hb d_Mo_has_2 ?_
    refine lv_iconst (v := 1) hx hb d_Mo_has_3 (by decide) ?_
    refine lv_iand hx hb d_Mo_has_4 ?_
    refine lv_iconst (v := 1) hx hb d_Mo_has_5 (by decide) ?_
    refine lv_icmp_ne (tgt := 13) hx hb d_Mo_has_6 (by decide) (fun c1 => ?_) (fun c1 => ?_)
    · rw [if_neg c1] at hf
      refine lv_iconst (v := 0) hx hb d_Mo_has_13 (by decide) ?_
      exact k_Mo_has_14 C0 hA res σ 0 hf H locs I ls (q_hsub hl [] rfl)
    · rw [if_pos c1] at hf
      refine lv_iconst (v := 1) hx hb d_Mo_has_9 (by decide) ?_
      refine lv_goto (tgt := 14) hx hb d_Mo_has_10 (by decide) ?_
      exact k_Mo_has_14 C0 hA res σ 1 hf H locs I ls (q_hsub hl [] rfl)
  exact hgo _ _ I
-- JobTerminalModel act
def f_Mo_act_51 (σ : q_St) : Option q_St := some σ
set_option maxHeartbeats 4000000 in
set_option maxRecDepth 100000 in
theorem k_Mo_act_51 {p : Program} {l : Launch} {e : Env} {s : State} {m : MethodId} {args : Array Value} {below : List Frame} {meth : Method} {c : Code} {D : va_G} {A : Nat → Prop} {ad : Nat → Nat} {cs : Nat → ClassId} (C0 : q_Cx "JobTerminalModel" b_Mo_act 3 none w_Mo_act D vwCl (tyL cs) NW p s m args meth c) (hA : ∀ q, s.heap.size ≤ q → A q) (res : q_St) : ∀ (σ : q_St) , f_Mo_act_51 σ  = some res → ∀ (H : Heap) (locs : List Loc), q_I D vwCl A s.heap (q_ws 23 ad (cM ad cs σ)) H locs → ∀ ls : Array Slot, q_has ls 3 [] → W p l e ({ frames := 0, cells := 0, slots := 0, locals := 0 } : Room) s m args below meth c H locs 0 0 (MQ below (q_Qv D vwCl (q_ws 23 ad (cM ad cs res)) A) args s 0 0 A) (F0 m 51 ls []) := by
  intro σ  hf H locs I ls hl
  unfold f_Mo_act_51 at hf
  obtain ⟨hx, hb, hr, hml, hown, hts, hlocks, hK, hN⟩ := id C0
  have htg : ∀ w ∈ GW, w.before args s = true := fun w h => hts w (List.mem_cons_of_mem _ h)
  cases hf
  exact q_vret hx hb hr hlocks I d_Mo_act_51
def f_Mo_act (σ : q_St) (p1 : Int32) (p2 : Int32) : Option q_St := q_grd (q_in p1 8) (q_grd (q_in p1 8) (if 5 ≤ p2 then (q_grd (q_in p1 8) (f_Mo_act_51 (q_up (q_up σ 8 p1.toNatClampNeg ((σ 8 p1.toNatClampNeg) &&& (((1 : Int32) <<< (p2 &&& 31)) ^^^ (-1)))) 2 p1.toNatClampNeg 2))) else (q_grd (q_in p1 8) (q_grd (q_in p1 8) (f_Mo_act_51 (q_up (q_up (q_up σ 8 p1.toNatClampNeg ((σ 8 p1.toNatClampNeg) &&& (((1 : Int32) <<< (p2 &&& 31)) ^^^ (-1)))) 2 p1.toNatClampNeg 3) 7 p1.toNatClampNeg (128 + p2)))))))
set_option maxHeartbeats 4000000 in
set_option maxRecDepth 100000 in
theorem c_Mo_act {l : Launch} {D : va_G} {ad : Nat → Nat} {cs : Nat → ClassId} {sz : Nat} {σ : q_St} {p1 : Int32} {p2 : Int32} {res : q_St} (hf : f_Mo_act σ p1 p2 = some res) : Met l y_Mo_act w_Mo_act ({ frames := 0, cells := 0, slots := 0, locals := 0 } : Room) (q_Pre D vwCl (tyL cs) NW [.ref (ad 0), .int p1, .int p2] (q_ws 23 ad (cM ad cs σ)) sz) (q_Qv D vwCl (q_ws 23 ad (cM ad cs res)) (va_A (q_ws 23 ad (cM ad cs σ)) sz)) 0 0 (va_A (q_ws 23 ad (cM ad cs σ)) sz) := by
  refine Met.ofW (cc := b_Mo_act) (maxL := 3) (ret := none) (by decide) rfl ?_
  intro p e s m args below meth c s₁ B hml hv
  obtain ⟨hargs, hsz, hP, hK, hD0, hN⟩ := hv
  have hx := B.exec
  have hb := B.bytes
  have hr := B.returns
  have hts := atoms_spec (ws := w_Mo_act) B.pre
  have hown : s.vm.findClass "JobTerminalModel" = some m.cls := findClass_of_methodNamed B.named
  have hlocks := B.notSynchronized
  have htg : ∀ w ∈ GW, w.before args s = true := fun w h => hts w (List.mem_cons_of_mem _ h)
  subst hsz
  have hD := hD0.self (sz := s.heap.size)
  generalize hAe : va_A (q_ws 23 ad (cM ad cs σ)) s.heap.size = A at hD ⊢
  have hA : ∀ q : Nat, s.heap.size ≤ q → A q := fun q h => by rw [← hAe]; exact Or.inr h
  have I : q_I D vwCl A s.heap (q_ws 23 ad (cM ad cs σ)) s.heap [] := ⟨hP, hD, va_S.rf⟩
  obtain ⟨ls, hen, hl⟩ := q_entry (vs := [.ref (ad 0), .int p1, .int p2]) (n := 3) (lv := [(0, .ref (ad 0)), (1, .int p1), (2, .int p2)]) (by intro v hv; simp only [List.mem_cons, List.not_mem_nil, or_false] at hv; rcases hv with rfl | rfl | rfl <;> first | rfl | exact q_cat) (Nat.le_of_ble_eq_true rfl) rfl
  rw [show entryFrame m args 3 = F0 m 0 ls [] from by rw [hargs]; exact hen m]
  have C0 : q_Cx "JobTerminalModel" b_Mo_act 3 none w_Mo_act D vwCl (tyL cs) NW p s m args meth c := ⟨hx, hb, hr, hml, hown, hts, hlocks, hK, hN⟩
  unfold f_Mo_act at hf
  have hgo : ∀ (H : Heap) (locs : List Loc), q_I D vwCl A s.heap (q_ws 23 ad (cM ad cs σ)) H locs → W p l e ({ frames := 0, cells := 0, slots := 0, locals := 0 } : Room) s m args below meth c H locs 0 0 (MQ below (q_Qv D vwCl (q_ws 23 ad (cM ad cs res)) A) args s 0 0 A) (F0 m 0 ls []) := by
    intro H locs I
    refine lv_aload_n hx hb d_Mo_act_0 rfl (q_at hl 0 rfl) ?_
    refine G_Mo_Mo_pending hx hb htg hown hK hN I d_Mo_act_1 ?_
    refine lv_iload_n hx hb d_Mo_act_4 rfl (q_at hl 1 rfl) ?_
    refine lv_aload_n hx hb d_Mo_act_5 rfl (q_at hl 0 rfl) ?_
    refine G_Mo_Mo_pending hx hb htg hown hK hN I d_Mo_act_6 ?_
    refine lv_iload_n hx hb d_Mo_act_9 rfl (q_at hl 1 rfl) ?_
    obtain ⟨o1, hf⟩ := q_grd_some hf
    refine A_M_pending hx hb hK I o1 d_Mo_act_10 ?_
    refine lv_iconst (v := 1) hx hb d_Mo_act_11 (by decide) ?_
    refine lv_iload_n hx hb d_Mo_act_12 rfl (q_at hl 2 rfl) ?_
    refine lv_ishl hx hb d_Mo_act_13 ?_
    refine lv_iconst (v := -1) hx hb d_Mo_act_14 (by decide) ?_
    refine lv_ixor hx hb d_Mo_act_15 ?_
    refine lv_iand hx hb d_Mo_act_16 ?_
    obtain ⟨o2, hf⟩ := q_grd_some hf
    refine T_M_pending hx hb hK I o2 d_Mo_act_17 (fun H locs I => ?_)
    refine lv_iload_n hx hb d_Mo_act_18 rfl (q_at hl 2 rfl) ?_
    refine lv_iconst (v := 5) hx hb d_Mo_act_19 (by decide) ?_
    refine lv_icmp_ge (tgt := 44) hx hb d_Mo_act_20 (by decide) (fun c3 => ?_) (fun c3 => ?_)
    · rw [if_pos c3] at hf
      refine lv_aload_n hx hb d_Mo_act_44 rfl (q_at hl 0 rfl) ?_
      refine G_Mo_Mo_state hx hb htg hown hK hN I d_Mo_act_45 ?_
      refine lv_iload_n hx hb d_Mo_act_48 rfl (q_at hl 1 rfl) ?_
      refine lv_iconst (v := 2) hx hb d_Mo_act_49 (by decide) ?_
      obtain ⟨o4, hf⟩ := q_grd_some hf
      refine T_M_state hx hb hK I o4 d_Mo_act_50 (fun H locs I => ?_)
      exact k_Mo_act_51 C0 hA res (q_up (q_up σ 8 p1.toNatClampNeg ((σ 8 p1.toNatClampNeg) &&& (((1 : Int32) <<< (p2 &&& 31)) ^^^ (-1)))) 2 p1.toNatClampNeg 2) hf H locs I ls (q_hsub hl [] rfl)
    · rw [if_neg c3] at hf
      refine lv_aload_n hx hb d_Mo_act_23 rfl (q_at hl 0 rfl) ?_
      refine G_Mo_Mo_state hx hb htg hown hK hN I d_Mo_act_24 ?_
      refine lv_iload_n hx hb d_Mo_act_27 rfl (q_at hl 1 rfl) ?_
      refine lv_iconst (v := 3) hx hb d_Mo_act_28 (by decide) ?_
      obtain ⟨o5, hf⟩ := q_grd_some hf
      refine T_M_state hx hb hK I o5 d_Mo_act_29 (fun H locs I => ?_)
      refine lv_aload_n hx hb d_Mo_act_30 rfl (q_at hl 0 rfl) ?_
      refine G_Mo_Mo_ends hx hb htg hown hK hN I d_Mo_act_31 ?_
      refine lv_iload_n hx hb d_Mo_act_34 rfl (q_at hl 1 rfl) ?_
      refine lv_sipush (v := 128) hx hb d_Mo_act_35 (by decide) ?_
      refine lv_iload_n hx hb d_Mo_act_38 rfl (q_at hl 2 rfl) ?_
      refine lv_iadd hx hb d_Mo_act_39 ?_
      obtain ⟨o6, hf⟩ := q_grd_some hf
      refine T_M_ends hx hb hK I o6 d_Mo_act_40 (fun H locs I => ?_)
      refine lv_goto (tgt := 51) hx hb d_Mo_act_41 (by decide) ?_
      exact k_Mo_act_51 C0 hA res (q_up (q_up (q_up σ 8 p1.toNatClampNeg ((σ 8 p1.toNatClampNeg) &&& (((1 : Int32) <<< (p2 &&& 31)) ^^^ (-1)))) 2 p1.toNatClampNeg 3) 7 p1.toNatClampNeg (128 + p2)) hf H locs I ls (q_hsub hl [] rfl)
  exact hgo _ _ I
-- JobTerminalModel actPending
def f_Mo_actPending_50 (K2 : q_St → Int32 → Int32 → Option q_St) (σ : q_St) (x1 : Int32) (x2 : Int32) : Option q_St := K2 σ x1 (x2 + 1)
set_option maxHeartbeats 4000000 in
set_option maxRecDepth 100000 in
theorem k_Mo_actPending_50 {p : Program} {l : Launch} {e : Env} {s : State} {m : MethodId} {args : Array Value} {below : List Frame} {meth : Method} {c : Code} {D : va_G} {A : Nat → Prop} {ad : Nat → Nat} {cs : Nat → ClassId} (C0 : q_Cx "JobTerminalModel" b_Mo_actPending 3 none w_Mo_actPending D vwCl (tyL cs) NW p s m args meth c) (hA : ∀ q, s.heap.size ≤ q → A q) (res : q_St) {K2 : q_St → Int32 → Int32 → Option q_St} (hk2 : ∀ (σ : q_St) (x1 : Int32) (x2 : Int32) , K2 σ x1 x2 = some res → ∀ (H : Heap) (locs : List Loc), q_I D vwCl A s.heap (q_ws 23 ad (cM ad cs σ)) H locs → ∀ ls : Array Slot, q_has ls 3 [(0, .ref (ad 0)), (1, .int x1), (2, .int x2)] → W p l e ({ frames := 1, cells := 0, slots := 0, locals := 22 } : Room) s m args below meth c H locs 0 0 (MQ below (q_Qv D vwCl (q_ws 23 ad (cM ad cs res)) A) args s 0 0 A) (F0 m 2 ls [])) : ∀ (σ : q_St) (x1 : Int32) (x2 : Int32) , f_Mo_actPending_50 K2 σ x1 x2 = some res → ∀ (H : Heap) (locs : List Loc), q_I D vwCl A s.heap (q_ws 23 ad (cM ad cs σ)) H locs → ∀ ls : Array Slot, q_has ls 3 [(0, .ref (ad 0)), (1, .int x1), (2, .int x2)] → W p l e ({ frames := 1, cells := 0, slots := 0, locals := 22 } : Room) s m args below meth c H locs 0 0 (MQ below (q_Qv D vwCl (q_ws 23 ad (cM ad cs res)) A) args s 0 0 A) (F0 m 50 ls []) := by
  intro σ x1 x2 hf H locs I ls hl
  unfold f_Mo_actPending_50 at hf
  obtain ⟨hx, hb, hr, hml, hown, hts, hlocks, hK, hN⟩ := id C0
  have htg : ∀ w ∈ GW, w.before args s = true := fun w h => hts w (List.mem_cons_of_mem _ h)
  refine q_iinc (v := x2 + 1) (lv' := [(2, .int (x2 + 1)), (0, .ref (ad 0)), (1, .int x1)]) hx hb d_Mo_actPending_50 hl (k := 2) rfl rfl (by decide) rfl (fun ls hl => ?_)
  refine lv_goto (tgt := 2) hx hb d_Mo_actPending_53 (by decide) ?_
  exact hk2 σ x1 (x2 + 1) hf H locs I ls (q_hsub hl [1, 2, 0] rfl)
def f_Mo_actPending_2 : Nat → q_St → Int32 → Int32 → Option q_St
  | 0, _, _, _ => none
  | n + 1, σ, x1, x2 => if 10 ≤ x2 then (some σ) else (q_grd (q_in x1 8) (if (σ 2 x1.toNatClampNeg) = 1 then (q_grd (q_in x1 8) (q_bnd (f_Mo_has σ (σ 8 x1.toNatClampNeg) x2) (fun r5 => if r5.1 = 0 then (f_Mo_actPending_50 (f_Mo_actPending_2 n) r5.2 x1 x2) else (q_grd (q_in x1 8) (q_bnd (f_Mo_has r5.2 (r5.2 9 x1.toNatClampNeg) x2) (fun r9 => if r9.1 = 0 then (q_bnd (f_Mo_act r9.2 x1 x2) (fun r12 => f_Mo_actPending_50 (f_Mo_actPending_2 n) r12 x1 x2)) else (f_Mo_actPending_50 (f_Mo_actPending_2 n) r9.2 x1 x2))))))) else (f_Mo_actPending_50 (f_Mo_actPending_2 n) σ x1 x2)))
set_option maxHeartbeats 4000000 in
set_option maxRecDepth 100000 in
theorem k_Mo_actPending_2 {p : Program} {l : Launch} {e : Env} {s : State} {m : MethodId} {args : Array Value} {below : List Frame} {meth : Method} {c : Code} {D : va_G} {A : Nat → Prop} {ad : Nat → Nat} {cs : Nat → ClassId} (C0 : q_Cx "JobTerminalModel" b_Mo_actPending 3 none w_Mo_actPending D vwCl (tyL cs) NW p s m args meth c) (hA : ∀ q, s.heap.size ≤ q → A q) (res : q_St) : ∀ (n : Nat) (σ : q_St) (x1 : Int32) (x2 : Int32) , f_Mo_actPending_2 n σ x1 x2 = some res → ∀ (H : Heap) (locs : List Loc), q_I D vwCl A s.heap (q_ws 23 ad (cM ad cs σ)) H locs → ∀ ls : Array Slot, q_has ls 3 [(0, .ref (ad 0)), (1, .int x1), (2, .int x2)] → W p l e ({ frames := 1, cells := 0, slots := 0, locals := 22 } : Room) s m args below meth c H locs 0 0 (MQ below (q_Qv D vwCl (q_ws 23 ad (cM ad cs res)) A) args s 0 0 A) (F0 m 2 ls []) := by
  intro n
  induction n with
  | zero => intro σ x1 x2 hf; cases hf
  | succ n ih =>
    intro σ x1 x2 hf H locs I ls hl
    have ih := ih
    rw [f_Mo_actPending_2] at hf
    have C0 := C0
    obtain ⟨hx, hb, hr, hml, hown, hts, hlocks, hK, hN⟩ := id C0
    have htg : ∀ w ∈ GW, w.before args s = true := fun w h => hts w (List.mem_cons_of_mem _ h)
    refine lv_iload_n hx hb d_Mo_actPending_2 rfl (q_at hl 2 rfl) ?_
    refine lv_bipush (v := 10) hx hb d_Mo_actPending_3 (by decide) ?_
    refine lv_icmp_ge (tgt := 56) hx hb d_Mo_actPending_5 (by decide) (fun c1 => ?_) (fun c1 => ?_)
    · rw [if_pos c1] at hf
      cases hf
      exact q_vret hx hb hr hlocks I d_Mo_actPending_56
    · rw [if_neg c1] at hf
      refine lv_aload_n hx hb d_Mo_actPending_8 rfl (q_at hl 0 rfl) ?_
      refine G_Mo_Mo_state hx hb htg hown hK hN I d_Mo_actPending_9 ?_
      refine lv_iload_n hx hb d_Mo_actPending_12 rfl (q_at hl 1 rfl) ?_
      obtain ⟨o2, hf⟩ := q_grd_some hf
      refine A_M_state hx hb hK I o2 d_Mo_actPending_13 ?_
      refine lv_iconst (v := 1) hx hb d_Mo_actPending_14 (by decide) ?_
      refine lv_icmp_ne (tgt := 50) hx hb d_Mo_actPending_15 (by decide) (fun c3 => ?_) (fun c3 => ?_)
      · rw [if_neg c3] at hf
        exact k_Mo_actPending_50 C0 hA res (K2 := f_Mo_actPending_2 n) ih σ x1 x2 hf H locs I ls (q_hsub hl [0, 1, 2] rfl)
      · rw [if_pos c3] at hf
        refine lv_aload_n hx hb d_Mo_actPending_18 rfl (q_at hl 0 rfl) ?_
        refine G_Mo_Mo_pending hx hb htg hown hK hN I d_Mo_actPending_19 ?_
        refine lv_iload_n hx hb d_Mo_actPending_22 rfl (q_at hl 1 rfl) ?_
        obtain ⟨o4, hf⟩ := q_grd_some hf
        refine A_M_pending hx hb hK I o4 d_Mo_actPending_23 ?_
        refine lv_iload_n hx hb d_Mo_actPending_24 rfl (q_at hl 2 rfl) ?_
        obtain ⟨r5, e6, hf⟩ := q_bnd_some hf
        refine q_ki hA I (q_runS (As := [.int (σ 8 x1.toNatClampNeg), .int x2]) (rest := []) ⟨hx, hb, hml, hown, hts⟩ (c_Mo_has (sz := H.size) e6) (va_cwS 2 hts (q_goodS mw367 mw368 mw369 mw366) rfl rfl rfl (by decide +kernel) ⟨Nat.le_of_ble_eq_true rfl, Nat.le_of_ble_eq_true rfl⟩) NW_ok hK hN I rfl (q_sz hl) rfl (Nat.le_of_ble_eq_true rfl) d_Mo_actPending_25 ⟨Nat.zero_le _, Nat.zero_le _⟩) (fun H locs I => ?_)
        refine lv_if_eq (tgt := 50) hx hb d_Mo_actPending_28 (by decide) (fun c7 => ?_) (fun c7 => ?_)
        · rw [if_pos c7] at hf
          exact k_Mo_actPending_50 C0 hA res (K2 := f_Mo_actPending_2 n) ih r5.2 x1 x2 hf H locs I ls (q_hsub hl [0, 1, 2] rfl)
        · rw [if_neg c7] at hf
          refine lv_aload_n hx hb d_Mo_actPending_31 rfl (q_at hl 0 rfl) ?_
          refine G_Mo_Mo_blocked hx hb htg hown hK hN I d_Mo_actPending_32 ?_
          refine lv_iload_n hx hb d_Mo_actPending_35 rfl (q_at hl 1 rfl) ?_
          obtain ⟨o8, hf⟩ := q_grd_some hf
          refine A_M_blocked hx hb hK I o8 d_Mo_actPending_36 ?_
          refine lv_iload_n hx hb d_Mo_actPending_37 rfl (q_at hl 2 rfl) ?_
          obtain ⟨r9, e10, hf⟩ := q_bnd_some hf
          refine q_ki hA I (q_runS (As := [.int (r5.2 9 x1.toNatClampNeg), .int x2]) (rest := []) ⟨hx, hb, hml, hown, hts⟩ (c_Mo_has (sz := H.size) e10) (va_cwS 2 hts (q_goodS mw367 mw368 mw369 mw366) rfl rfl rfl (by decide +kernel) ⟨Nat.le_of_ble_eq_true rfl, Nat.le_of_ble_eq_true rfl⟩) NW_ok hK hN I rfl (q_sz hl) rfl (Nat.le_of_ble_eq_true rfl) d_Mo_actPending_38 ⟨Nat.zero_le _, Nat.zero_le _⟩) (fun H locs I => ?_)
          refine lv_if_ne (tgt := 50) hx hb d_Mo_actPending_41 (by decide) (fun c11 => ?_) (fun c11 => ?_)
          · rw [if_neg c11] at hf
            exact k_Mo_actPending_50 C0 hA res (K2 := f_Mo_actPending_2 n) ih r9.2 x1 x2 hf H locs I ls (q_hsub hl [0, 1, 2] rfl)
          · rw [if_pos c11] at hf
            refine lv_aload_n hx hb d_Mo_actPending_44 rfl (q_at hl 0 rfl) ?_
            refine lv_iload_n hx hb d_Mo_actPending_45 rfl (q_at hl 1 rfl) ?_
            refine lv_iload_n hx hb d_Mo_actPending_46 rfl (q_at hl 2 rfl) ?_
            obtain ⟨r12, e13, hf⟩ := q_bnd_some hf
            refine q_kv hA I (q_runV (C := "JobTerminalModel") (As := [.int x1, .int x2]) (rest := []) ⟨hx, hb, hml, hown, hts⟩ (c_Mo_act (sz := H.size) e13) (cwV 2 hts (q_goodV mw370 mw371 mw372 mw373 mw366) rfl rfl rfl (by decide +kernel) ⟨Nat.le_of_ble_eq_true rfl, Nat.le_of_ble_eq_true rfl⟩) NW_ok hK hN I rfl (q_wsE (by decide) (a_M_Mo)) rfl (q_sz hl) rfl (Nat.le_of_ble_eq_true rfl) d_Mo_actPending_47 ⟨Nat.zero_le _, Nat.zero_le _⟩) (fun H locs I => ?_)
            exact k_Mo_actPending_50 C0 hA res (K2 := f_Mo_actPending_2 n) ih r12 x1 x2 hf H locs I ls (q_hsub hl [0, 1, 2] rfl)
def f_Mo_actPending (σ : q_St) (p1 : Int32) : Option q_St := f_Mo_actPending_2 200 σ p1 0
set_option maxHeartbeats 4000000 in
set_option maxRecDepth 100000 in
theorem c_Mo_actPending {l : Launch} {D : va_G} {ad : Nat → Nat} {cs : Nat → ClassId} {sz : Nat} {σ : q_St} {p1 : Int32} {res : q_St} (hf : f_Mo_actPending σ p1 = some res) : Met l y_Mo_actPending w_Mo_actPending ({ frames := 1, cells := 0, slots := 0, locals := 22 } : Room) (q_Pre D vwCl (tyL cs) NW [.ref (ad 0), .int p1] (q_ws 23 ad (cM ad cs σ)) sz) (q_Qv D vwCl (q_ws 23 ad (cM ad cs res)) (va_A (q_ws 23 ad (cM ad cs σ)) sz)) 0 0 (va_A (q_ws 23 ad (cM ad cs σ)) sz) := by
  refine Met.ofW (cc := b_Mo_actPending) (maxL := 3) (ret := none) (by decide) rfl ?_
  intro p e s m args below meth c s₁ B hml hv
  obtain ⟨hargs, hsz, hP, hK, hD0, hN⟩ := hv
  have hx := B.exec
  have hb := B.bytes
  have hr := B.returns
  have hts := atoms_spec (ws := w_Mo_actPending) B.pre
  have hown : s.vm.findClass "JobTerminalModel" = some m.cls := findClass_of_methodNamed B.named
  have hlocks := B.notSynchronized
  have htg : ∀ w ∈ GW, w.before args s = true := fun w h => hts w (List.mem_cons_of_mem _ h)
  subst hsz
  have hD := hD0.self (sz := s.heap.size)
  generalize hAe : va_A (q_ws 23 ad (cM ad cs σ)) s.heap.size = A at hD ⊢
  have hA : ∀ q : Nat, s.heap.size ≤ q → A q := fun q h => by rw [← hAe]; exact Or.inr h
  have I : q_I D vwCl A s.heap (q_ws 23 ad (cM ad cs σ)) s.heap [] := ⟨hP, hD, va_S.rf⟩
  obtain ⟨ls, hen, hl⟩ := q_entry (vs := [.ref (ad 0), .int p1]) (n := 3) (lv := [(0, .ref (ad 0)), (1, .int p1)]) (by intro v hv; simp only [List.mem_cons, List.not_mem_nil, or_false] at hv; rcases hv with rfl | rfl <;> first | rfl | exact q_cat) (Nat.le_of_ble_eq_true rfl) rfl
  rw [show entryFrame m args 3 = F0 m 0 ls [] from by rw [hargs]; exact hen m]
  have C0 : q_Cx "JobTerminalModel" b_Mo_actPending 3 none w_Mo_actPending D vwCl (tyL cs) NW p s m args meth c := ⟨hx, hb, hr, hml, hown, hts, hlocks, hK, hN⟩
  unfold f_Mo_actPending at hf
  have hgo : ∀ (H : Heap) (locs : List Loc), q_I D vwCl A s.heap (q_ws 23 ad (cM ad cs σ)) H locs → W p l e ({ frames := 1, cells := 0, slots := 0, locals := 22 } : Room) s m args below meth c H locs 0 0 (MQ below (q_Qv D vwCl (q_ws 23 ad (cM ad cs res)) A) args s 0 0 A) (F0 m 0 ls []) := by
    intro H locs I
    refine lv_iconst (v := 0) hx hb d_Mo_actPending_0 (by decide) ?_
    refine q_istore_n (lv' := [(2, .int 0), (0, .ref (ad 0)), (1, .int p1)]) hx hb d_Mo_actPending_1 rfl hl (by decide) rfl (fun ls hl => ?_)
    exact k_Mo_actPending_2 C0 hA res 200 σ p1 0 hf H locs I ls (q_hsub hl [1, 2, 0] rfl)
  exact hgo _ _ I
-- JobTerminalModel sendTo
def f_Mo_sendTo_147 (σ : q_St) : Option q_St := some σ
set_option maxHeartbeats 4000000 in
set_option maxRecDepth 100000 in
theorem k_Mo_sendTo_147 {p : Program} {l : Launch} {e : Env} {s : State} {m : MethodId} {args : Array Value} {below : List Frame} {meth : Method} {c : Code} {D : va_G} {A : Nat → Prop} {ad : Nat → Nat} {cs : Nat → ClassId} (C0 : q_Cx "JobTerminalModel" b_Mo_sendTo 3 none w_Mo_sendTo D vwCl (tyL cs) NW p s m args meth c) (hA : ∀ q, s.heap.size ≤ q → A q) (res : q_St) : ∀ (σ : q_St) , f_Mo_sendTo_147 σ  = some res → ∀ (H : Heap) (locs : List Loc), q_I D vwCl A s.heap (q_ws 23 ad (cM ad cs σ)) H locs → ∀ ls : Array Slot, q_has ls 3 [] → W p l e ({ frames := 2, cells := 0, slots := 0, locals := 44 } : Room) s m args below meth c H locs 0 0 (MQ below (q_Qv D vwCl (q_ws 23 ad (cM ad cs res)) A) args s 0 0 A) (F0 m 147 ls []) := by
  intro σ  hf H locs I ls hl
  unfold f_Mo_sendTo_147 at hf
  obtain ⟨hx, hb, hr, hml, hown, hts, hlocks, hK, hN⟩ := id C0
  have htg : ∀ w ∈ GW, w.before args s = true := fun w h => hts w (List.mem_cons_of_mem _ h)
  cases hf
  exact q_vret hx hb hr hlocks I d_Mo_sendTo_147
def f_Mo_sendTo_122 (σ : q_St) (x1 : Int32) (x2 : Int32) : Option q_St := q_grd (q_in x1 8) (q_grd (q_in x1 8) (f_Mo_sendTo_147 (q_up σ 8 x1.toNatClampNeg ((σ 8 x1.toNatClampNeg) ||| ((1 : Int32) <<< (x2 &&& 31))))))
set_option maxHeartbeats 4000000 in
set_option maxRecDepth 100000 in
theorem k_Mo_sendTo_122 {p : Program} {l : Launch} {e : Env} {s : State} {m : MethodId} {args : Array Value} {below : List Frame} {meth : Method} {c : Code} {D : va_G} {A : Nat → Prop} {ad : Nat → Nat} {cs : Nat → ClassId} (C0 : q_Cx "JobTerminalModel" b_Mo_sendTo 3 none w_Mo_sendTo D vwCl (tyL cs) NW p s m args meth c) (hA : ∀ q, s.heap.size ≤ q → A q) (res : q_St) : ∀ (σ : q_St) (x1 : Int32) (x2 : Int32) , f_Mo_sendTo_122 σ x1 x2 = some res → ∀ (H : Heap) (locs : List Loc), q_I D vwCl A s.heap (q_ws 23 ad (cM ad cs σ)) H locs → ∀ ls : Array Slot, q_has ls 3 [(0, .ref (ad 0)), (1, .int x1), (2, .int x2)] → W p l e ({ frames := 2, cells := 0, slots := 0, locals := 44 } : Room) s m args below meth c H locs 0 0 (MQ below (q_Qv D vwCl (q_ws 23 ad (cM ad cs res)) A) args s 0 0 A) (F0 m 122 ls []) := by
  intro σ x1 x2 hf H locs I ls hl
  unfold f_Mo_sendTo_122 at hf
  obtain ⟨hx, hb, hr, hml, hown, hts, hlocks, hK, hN⟩ := id C0
  have htg : ∀ w ∈ GW, w.before args s = true := fun w h => hts w (List.mem_cons_of_mem _ h)
  refine lv_aload_n hx hb d_Mo_sendTo_122 rfl (q_at hl 0 rfl) ?_
  refine G_Mo_Mo_pending hx hb htg hown hK hN I d_Mo_sendTo_123 ?_
  refine lv_iload_n hx hb d_Mo_sendTo_126 rfl (q_at hl 1 rfl) ?_
  refine lv_aload_n hx hb d_Mo_sendTo_127 rfl (q_at hl 0 rfl) ?_
  refine G_Mo_Mo_pending hx hb htg hown hK hN I d_Mo_sendTo_128 ?_
  refine lv_iload_n hx hb d_Mo_sendTo_131 rfl (q_at hl 1 rfl) ?_
  obtain ⟨o27, hf⟩ := q_grd_some hf
  refine A_M_pending hx hb hK I o27 d_Mo_sendTo_132 ?_
  refine lv_iconst (v := 1) hx hb d_Mo_sendTo_133 (by decide) ?_
  refine lv_iload_n hx hb d_Mo_sendTo_134 rfl (q_at hl 2 rfl) ?_
  refine lv_ishl hx hb d_Mo_sendTo_135 ?_
  refine lv_ior hx hb d_Mo_sendTo_136 ?_
  obtain ⟨o28, hf⟩ := q_grd_some hf
  refine T_M_pending hx hb hK I o28 d_Mo_sendTo_137 (fun H locs I => ?_)
  refine lv_goto (tgt := 147) hx hb d_Mo_sendTo_138 (by decide) ?_
  exact k_Mo_sendTo_147 C0 hA res (q_up σ 8 x1.toNatClampNeg ((σ 8 x1.toNatClampNeg) ||| ((1 : Int32) <<< (x2 &&& 31)))) hf H locs I ls (q_hsub hl [] rfl)
def f_Mo_sendTo_77 (σ : q_St) (x1 : Int32) (x2 : Int32) : Option q_St := q_bnd (f_Mo_act σ x1 x2) (fun r29 => f_Mo_sendTo_147 r29)
set_option maxHeartbeats 4000000 in
set_option maxRecDepth 100000 in
theorem k_Mo_sendTo_77 {p : Program} {l : Launch} {e : Env} {s : State} {m : MethodId} {args : Array Value} {below : List Frame} {meth : Method} {c : Code} {D : va_G} {A : Nat → Prop} {ad : Nat → Nat} {cs : Nat → ClassId} (C0 : q_Cx "JobTerminalModel" b_Mo_sendTo 3 none w_Mo_sendTo D vwCl (tyL cs) NW p s m args meth c) (hA : ∀ q, s.heap.size ≤ q → A q) (res : q_St) : ∀ (σ : q_St) (x1 : Int32) (x2 : Int32) , f_Mo_sendTo_77 σ x1 x2 = some res → ∀ (H : Heap) (locs : List Loc), q_I D vwCl A s.heap (q_ws 23 ad (cM ad cs σ)) H locs → ∀ ls : Array Slot, q_has ls 3 [(0, .ref (ad 0)), (1, .int x1), (2, .int x2)] → W p l e ({ frames := 2, cells := 0, slots := 0, locals := 44 } : Room) s m args below meth c H locs 0 0 (MQ below (q_Qv D vwCl (q_ws 23 ad (cM ad cs res)) A) args s 0 0 A) (F0 m 77 ls []) := by
  intro σ x1 x2 hf H locs I ls hl
  unfold f_Mo_sendTo_77 at hf
  obtain ⟨hx, hb, hr, hml, hown, hts, hlocks, hK, hN⟩ := id C0
  have htg : ∀ w ∈ GW, w.before args s = true := fun w h => hts w (List.mem_cons_of_mem _ h)
  refine lv_aload_n hx hb d_Mo_sendTo_77 rfl (q_at hl 0 rfl) ?_
  refine lv_iload_n hx hb d_Mo_sendTo_78 rfl (q_at hl 1 rfl) ?_
  refine lv_iload_n hx hb d_Mo_sendTo_79 rfl (q_at hl 2 rfl) ?_
  obtain ⟨r29, e30, hf⟩ := q_bnd_some hf
  refine q_kv hA I (q_runV (C := "JobTerminalModel") (As := [.int x1, .int x2]) (rest := []) ⟨hx, hb, hml, hown, hts⟩ (c_Mo_act (sz := H.size) e30) (cwV 2 hts (q_goodV mw370 mw371 mw372 mw373 mw366) rfl rfl rfl (by decide +kernel) ⟨Nat.le_of_ble_eq_true rfl, Nat.le_of_ble_eq_true rfl⟩) NW_ok hK hN I rfl (q_wsE (by decide) (a_M_Mo)) rfl (q_sz hl) rfl (Nat.le_of_ble_eq_true rfl) d_Mo_sendTo_80 ⟨Nat.zero_le _, Nat.zero_le _⟩) (fun H locs I => ?_)
  refine lv_goto (tgt := 147) hx hb d_Mo_sendTo_83 (by decide) ?_
  exact k_Mo_sendTo_147 C0 hA res r29 hf H locs I ls (q_hsub hl [] rfl)
def f_Mo_sendTo_20 (σ : q_St) : Option q_St := some σ
set_option maxHeartbeats 4000000 in
set_option maxRecDepth 100000 in
theorem k_Mo_sendTo_20 {p : Program} {l : Launch} {e : Env} {s : State} {m : MethodId} {args : Array Value} {below : List Frame} {meth : Method} {c : Code} {D : va_G} {A : Nat → Prop} {ad : Nat → Nat} {cs : Nat → ClassId} (C0 : q_Cx "JobTerminalModel" b_Mo_sendTo 3 none w_Mo_sendTo D vwCl (tyL cs) NW p s m args meth c) (hA : ∀ q, s.heap.size ≤ q → A q) (res : q_St) : ∀ (σ : q_St) , f_Mo_sendTo_20 σ  = some res → ∀ (H : Heap) (locs : List Loc), q_I D vwCl A s.heap (q_ws 23 ad (cM ad cs σ)) H locs → ∀ ls : Array Slot, q_has ls 3 [] → W p l e ({ frames := 2, cells := 0, slots := 0, locals := 44 } : Room) s m args below meth c H locs 0 0 (MQ below (q_Qv D vwCl (q_ws 23 ad (cM ad cs res)) A) args s 0 0 A) (F0 m 20 ls []) := by
  intro σ  hf H locs I ls hl
  unfold f_Mo_sendTo_20 at hf
  obtain ⟨hx, hb, hr, hml, hown, hts, hlocks, hK, hN⟩ := id C0
  have htg : ∀ w ∈ GW, w.before args s = true := fun w h => hts w (List.mem_cons_of_mem _ h)
  cases hf
  exact q_vret hx hb hr hlocks I d_Mo_sendTo_20
def f_Mo_sendTo (σ : q_St) (p1 : Int32) (p2 : Int32) : Option q_St := if p1 < 0 then (f_Mo_sendTo_20 σ) else (q_grd (q_in p1 8) (if (σ 2 p1.toNatClampNeg) = 3 then (f_Mo_sendTo_20 σ) else (if p2 ≤ 9 then (if p2 = 5 then (q_grd (q_in p1 8) (q_grd (q_in p1 8) (q_grd (q_in p1 8) (if ((q_up σ 8 p1.toNatClampNeg ((σ 8 p1.toNatClampNeg) &&& 63)) 2 p1.toNatClampNeg) = 2 then (q_grd (q_in p1 8) (q_bnd (f_Mo_actPending (q_up (q_up σ 8 p1.toNatClampNeg ((σ 8 p1.toNatClampNeg) &&& 63)) 2 p1.toNatClampNeg 1) p1) (fun r25 => f_Mo_sendTo_147 r25))) else (f_Mo_sendTo_147 (q_up σ 8 p1.toNatClampNeg ((σ 8 p1.toNatClampNeg) &&& 63))))))) else (if p2 = 3 then (f_Mo_sendTo_77 σ p1 p2) else (if p2 = 6 then (f_Mo_sendTo_77 σ p1 p2) else (q_grd (q_in p1 8) (q_bnd (f_Mo_has σ (σ 10 p1.toNatClampNeg) p2) (fun r9 => if r9.1 = 0 then (q_grd (q_in p1 8) (q_bnd (f_Mo_has r9.2 (r9.2 9 p1.toNatClampNeg) p2) (fun r13 => if r13.1 = 0 then (q_grd (q_in p1 8) (if (r13.2 2 p1.toNatClampNeg) = 2 then (f_Mo_sendTo_122 r13.2 p1 p2) else (q_bnd (f_Mo_act r13.2 p1 p2) (fun r18 => f_Mo_sendTo_147 r18)))) else (f_Mo_sendTo_122 r13.2 p1 p2)))) else (f_Mo_sendTo_147 r9.2))))))) else (f_Mo_sendTo_20 σ))))
set_option maxHeartbeats 4000000 in
set_option maxRecDepth 100000 in
theorem c_Mo_sendTo {l : Launch} {D : va_G} {ad : Nat → Nat} {cs : Nat → ClassId} {sz : Nat} {σ : q_St} {p1 : Int32} {p2 : Int32} {res : q_St} (hf : f_Mo_sendTo σ p1 p2 = some res) : Met l y_Mo_sendTo w_Mo_sendTo ({ frames := 2, cells := 0, slots := 0, locals := 44 } : Room) (q_Pre D vwCl (tyL cs) NW [.ref (ad 0), .int p1, .int p2] (q_ws 23 ad (cM ad cs σ)) sz) (q_Qv D vwCl (q_ws 23 ad (cM ad cs res)) (va_A (q_ws 23 ad (cM ad cs σ)) sz)) 0 0 (va_A (q_ws 23 ad (cM ad cs σ)) sz) := by
  refine Met.ofW (cc := b_Mo_sendTo) (maxL := 3) (ret := none) (by decide) rfl ?_
  intro p e s m args below meth c s₁ B hml hv
  obtain ⟨hargs, hsz, hP, hK, hD0, hN⟩ := hv
  have hx := B.exec
  have hb := B.bytes
  have hr := B.returns
  have hts := atoms_spec (ws := w_Mo_sendTo) B.pre
  have hown : s.vm.findClass "JobTerminalModel" = some m.cls := findClass_of_methodNamed B.named
  have hlocks := B.notSynchronized
  have htg : ∀ w ∈ GW, w.before args s = true := fun w h => hts w (List.mem_cons_of_mem _ h)
  subst hsz
  have hD := hD0.self (sz := s.heap.size)
  generalize hAe : va_A (q_ws 23 ad (cM ad cs σ)) s.heap.size = A at hD ⊢
  have hA : ∀ q : Nat, s.heap.size ≤ q → A q := fun q h => by rw [← hAe]; exact Or.inr h
  have I : q_I D vwCl A s.heap (q_ws 23 ad (cM ad cs σ)) s.heap [] := ⟨hP, hD, va_S.rf⟩
  obtain ⟨ls, hen, hl⟩ := q_entry (vs := [.ref (ad 0), .int p1, .int p2]) (n := 3) (lv := [(0, .ref (ad 0)), (1, .int p1), (2, .int p2)]) (by intro v hv; simp only [List.mem_cons, List.not_mem_nil, or_false] at hv; rcases hv with rfl | rfl | rfl <;> first | rfl | exact q_cat) (Nat.le_of_ble_eq_true rfl) rfl
  rw [show entryFrame m args 3 = F0 m 0 ls [] from by rw [hargs]; exact hen m]
  have C0 : q_Cx "JobTerminalModel" b_Mo_sendTo 3 none w_Mo_sendTo D vwCl (tyL cs) NW p s m args meth c := ⟨hx, hb, hr, hml, hown, hts, hlocks, hK, hN⟩
  unfold f_Mo_sendTo at hf
  have hgo : ∀ (H : Heap) (locs : List Loc), q_I D vwCl A s.heap (q_ws 23 ad (cM ad cs σ)) H locs → W p l e ({ frames := 2, cells := 0, slots := 0, locals := 44 } : Room) s m args below meth c H locs 0 0 (MQ below (q_Qv D vwCl (q_ws 23 ad (cM ad cs res)) A) args s 0 0 A) (F0 m 0 ls []) := by
    intro H locs I
    refine lv_iload_n hx hb d_Mo_sendTo_0 rfl (q_at hl 1 rfl) ?_
    refine lv_if_lt (tgt := 20) hx hb d_Mo_sendTo_1 (by decide) (fun c1 => ?_) (fun c1 => ?_)
    · rw [if_pos c1] at hf
      exact k_Mo_sendTo_20 C0 hA res σ hf H locs I ls (q_hsub hl [] rfl)
    · rw [if_neg c1] at hf
      refine lv_aload_n hx hb d_Mo_sendTo_4 rfl (q_at hl 0 rfl) ?_
      refine G_Mo_Mo_state hx hb htg hown hK hN I d_Mo_sendTo_5 ?_
      refine lv_iload_n hx hb d_Mo_sendTo_8 rfl (q_at hl 1 rfl) ?_
      obtain ⟨o2, hf⟩ := q_grd_some hf
      refine A_M_state hx hb hK I o2 d_Mo_sendTo_9 ?_
      refine lv_iconst (v := 3) hx hb d_Mo_sendTo_10 (by decide) ?_
      refine lv_icmp_eq (tgt := 20) hx hb d_Mo_sendTo_11 (by decide) (fun c3 => ?_) (fun c3 => ?_)
      · rw [if_pos c3] at hf
        exact k_Mo_sendTo_20 C0 hA res σ hf H locs I ls (q_hsub hl [] rfl)
      · rw [if_neg c3] at hf
        refine lv_iload_n hx hb d_Mo_sendTo_14 rfl (q_at hl 2 rfl) ?_
        refine lv_bipush (v := 9) hx hb d_Mo_sendTo_15 (by decide) ?_
        refine lv_icmp_le (tgt := 21) hx hb d_Mo_sendTo_17 (by decide) (fun c4 => ?_) (fun c4 => ?_)
        · rw [if_pos c4] at hf
          refine lv_iload_n hx hb d_Mo_sendTo_21 rfl (q_at hl 2 rfl) ?_
          refine lv_iconst (v := 5) hx hb d_Mo_sendTo_22 (by decide) ?_
          refine lv_icmp_ne (tgt := 66) hx hb d_Mo_sendTo_23 (by decide) (fun c5 => ?_) (fun c5 => ?_)
          · rw [if_neg c5] at hf
            refine lv_iload_n hx hb d_Mo_sendTo_66 rfl (q_at hl 2 rfl) ?_
            refine lv_iconst (v := 3) hx hb d_Mo_sendTo_67 (by decide) ?_
            refine lv_icmp_eq (tgt := 77) hx hb d_Mo_sendTo_68 (by decide) (fun c6 => ?_) (fun c6 => ?_)
            · rw [if_pos c6] at hf
              exact k_Mo_sendTo_77 C0 hA res σ p1 p2 hf H locs I ls (q_hsub hl [0, 1, 2] rfl)
            · rw [if_neg c6] at hf
              refine lv_iload_n hx hb d_Mo_sendTo_71 rfl (q_at hl 2 rfl) ?_
              refine lv_bipush (v := 6) hx hb d_Mo_sendTo_72 (by decide) ?_
              refine lv_icmp_ne (tgt := 86) hx hb d_Mo_sendTo_74 (by decide) (fun c7 => ?_) (fun c7 => ?_)
              · rw [if_neg c7] at hf
                refine lv_aload_n hx hb d_Mo_sendTo_86 rfl (q_at hl 0 rfl) ?_
                refine G_Mo_Mo_ignored hx hb htg hown hK hN I d_Mo_sendTo_87 ?_
                refine lv_iload_n hx hb d_Mo_sendTo_90 rfl (q_at hl 1 rfl) ?_
                obtain ⟨o8, hf⟩ := q_grd_some hf
                refine A_M_ignored hx hb hK I o8 d_Mo_sendTo_91 ?_
                refine lv_iload_n hx hb d_Mo_sendTo_92 rfl (q_at hl 2 rfl) ?_
                obtain ⟨r9, e10, hf⟩ := q_bnd_some hf
                refine q_ki hA I (q_runS (As := [.int (σ 10 p1.toNatClampNeg), .int p2]) (rest := []) ⟨hx, hb, hml, hown, hts⟩ (c_Mo_has (sz := H.size) e10) (va_cwS 2 hts (q_goodS mw367 mw368 mw369 mw366) rfl rfl rfl (by decide +kernel) ⟨Nat.le_of_ble_eq_true rfl, Nat.le_of_ble_eq_true rfl⟩) NW_ok hK hN I rfl (q_sz hl) rfl (Nat.le_of_ble_eq_true rfl) d_Mo_sendTo_93 ⟨Nat.zero_le _, Nat.zero_le _⟩) (fun H locs I => ?_)
                refine lv_if_ne (tgt := 147) hx hb d_Mo_sendTo_96 (by decide) (fun c11 => ?_) (fun c11 => ?_)
                · rw [if_neg c11] at hf
                  exact k_Mo_sendTo_147 C0 hA res r9.2 hf H locs I ls (q_hsub hl [] rfl)
                · rw [if_pos c11] at hf
                  refine lv_aload_n hx hb d_Mo_sendTo_99 rfl (q_at hl 0 rfl) ?_
                  refine G_Mo_Mo_blocked hx hb htg hown hK hN I d_Mo_sendTo_100 ?_
                  refine lv_iload_n hx hb d_Mo_sendTo_103 rfl (q_at hl 1 rfl) ?_
                  obtain ⟨o12, hf⟩ := q_grd_some hf
                  refine A_M_blocked hx hb hK I o12 d_Mo_sendTo_104 ?_
                  refine lv_iload_n hx hb d_Mo_sendTo_105 rfl (q_at hl 2 rfl) ?_
                  obtain ⟨r13, e14, hf⟩ := q_bnd_some hf
                  refine q_ki hA I (q_runS (As := [.int (r9.2 9 p1.toNatClampNeg), .int p2]) (rest := []) ⟨hx, hb, hml, hown, hts⟩ (c_Mo_has (sz := H.size) e14) (va_cwS 2 hts (q_goodS mw367 mw368 mw369 mw366) rfl rfl rfl (by decide +kernel) ⟨Nat.le_of_ble_eq_true rfl, Nat.le_of_ble_eq_true rfl⟩) NW_ok hK hN I rfl (q_sz hl) rfl (Nat.le_of_ble_eq_true rfl) d_Mo_sendTo_106 ⟨Nat.zero_le _, Nat.zero_le _⟩) (fun H locs I => ?_)
                  refine lv_if_ne (tgt := 122) hx hb d_Mo_sendTo_109 (by decide) (fun c15 => ?_) (fun c15 => ?_)
                  · rw [if_neg c15] at hf
                    exact k_Mo_sendTo_122 C0 hA res r13.2 p1 p2 hf H locs I ls (q_hsub hl [0, 1, 2] rfl)
                  · rw [if_pos c15] at hf
                    refine lv_aload_n hx hb d_Mo_sendTo_112 rfl (q_at hl 0 rfl) ?_
                    refine G_Mo_Mo_state hx hb htg hown hK hN I d_Mo_sendTo_113 ?_
                    refine lv_iload_n hx hb d_Mo_sendTo_116 rfl (q_at hl 1 rfl) ?_
                    obtain ⟨o16, hf⟩ := q_grd_some hf
                    refine A_M_state hx hb hK I o16 d_Mo_sendTo_117 ?_
                    refine lv_iconst (v := 2) hx hb d_Mo_sendTo_118 (by decide) ?_
                    refine lv_icmp_ne (tgt := 141) hx hb d_Mo_sendTo_119 (by decide) (fun c17 => ?_) (fun c17 => ?_)
                    · rw [if_neg c17] at hf
                      refine lv_aload_n hx hb d_Mo_sendTo_141 rfl (q_at hl 0 rfl) ?_
                      refine lv_iload_n hx hb d_Mo_sendTo_142 rfl (q_at hl 1 rfl) ?_
                      refine lv_iload_n hx hb d_Mo_sendTo_143 rfl (q_at hl 2 rfl) ?_
                      obtain ⟨r18, e19, hf⟩ := q_bnd_some hf
                      refine q_kv hA I (q_runV (C := "JobTerminalModel") (As := [.int p1, .int p2]) (rest := []) ⟨hx, hb, hml, hown, hts⟩ (c_Mo_act (sz := H.size) e19) (cwV 2 hts (q_goodV mw370 mw371 mw372 mw373 mw366) rfl rfl rfl (by decide +kernel) ⟨Nat.le_of_ble_eq_true rfl, Nat.le_of_ble_eq_true rfl⟩) NW_ok hK hN I rfl (q_wsE (by decide) (a_M_Mo)) rfl (q_sz hl) rfl (Nat.le_of_ble_eq_true rfl) d_Mo_sendTo_144 ⟨Nat.zero_le _, Nat.zero_le _⟩) (fun H locs I => ?_)
                      exact k_Mo_sendTo_147 C0 hA res r18 hf H locs I ls (q_hsub hl [] rfl)
                    · rw [if_pos c17] at hf
                      exact k_Mo_sendTo_122 C0 hA res r13.2 p1 p2 hf H locs I ls (q_hsub hl [0, 1, 2] rfl)
              · rw [if_pos c7] at hf
                exact k_Mo_sendTo_77 C0 hA res σ p1 p2 hf H locs I ls (q_hsub hl [0, 1, 2] rfl)
          · rw [if_pos c5] at hf
            refine lv_aload_n hx hb d_Mo_sendTo_26 rfl (q_at hl 0 rfl) ?_
            refine G_Mo_Mo_pending hx hb htg hown hK hN I d_Mo_sendTo_27 ?_
            refine lv_iload_n hx hb d_Mo_sendTo_30 rfl (q_at hl 1 rfl) ?_
            refine lv_aload_n hx hb d_Mo_sendTo_31 rfl (q_at hl 0 rfl) ?_
            refine G_Mo_Mo_pending hx hb htg hown hK hN I d_Mo_sendTo_32 ?_
            refine lv_iload_n hx hb d_Mo_sendTo_35 rfl (q_at hl 1 rfl) ?_
            obtain ⟨o20, hf⟩ := q_grd_some hf
            refine A_M_pending hx hb hK I o20 d_Mo_sendTo_36 ?_
            refine lv_bipush (v := 63) hx hb d_Mo_sendTo_37 (by decide) ?_
            refine lv_iand hx hb d_Mo_sendTo_39 ?_
            obtain ⟨o21, hf⟩ := q_grd_some hf
            refine T_M_pending hx hb hK I o21 d_Mo_sendTo_40 (fun H locs I => ?_)
            refine lv_aload_n hx hb d_Mo_sendTo_41 rfl (q_at hl 0 rfl) ?_
            refine G_Mo_Mo_state hx hb htg hown hK hN I d_Mo_sendTo_42 ?_
            refine lv_iload_n hx hb d_Mo_sendTo_45 rfl (q_at hl 1 rfl) ?_
            obtain ⟨o22, hf⟩ := q_grd_some hf
            refine A_M_state hx hb hK I o22 d_Mo_sendTo_46 ?_
            refine lv_iconst (v := 2) hx hb d_Mo_sendTo_47 (by decide) ?_
            refine lv_icmp_ne (tgt := 147) hx hb d_Mo_sendTo_48 (by decide) (fun c23 => ?_) (fun c23 => ?_)
            · rw [if_neg c23] at hf
              exact k_Mo_sendTo_147 C0 hA res (q_up σ 8 p1.toNatClampNeg ((σ 8 p1.toNatClampNeg) &&& 63)) hf H locs I ls (q_hsub hl [] rfl)
            · rw [if_pos c23] at hf
              refine lv_aload_n hx hb d_Mo_sendTo_51 rfl (q_at hl 0 rfl) ?_
              refine G_Mo_Mo_state hx hb htg hown hK hN I d_Mo_sendTo_52 ?_
              refine lv_iload_n hx hb d_Mo_sendTo_55 rfl (q_at hl 1 rfl) ?_
              refine lv_iconst (v := 1) hx hb d_Mo_sendTo_56 (by decide) ?_
              obtain ⟨o24, hf⟩ := q_grd_some hf
              refine T_M_state hx hb hK I o24 d_Mo_sendTo_57 (fun H locs I => ?_)
              refine lv_aload_n hx hb d_Mo_sendTo_58 rfl (q_at hl 0 rfl) ?_
              refine lv_iload_n hx hb d_Mo_sendTo_59 rfl (q_at hl 1 rfl) ?_
              obtain ⟨r25, e26, hf⟩ := q_bnd_some hf
              refine q_kv hA I (q_runV (C := "JobTerminalModel") (As := [.int p1]) (rest := []) ⟨hx, hb, hml, hown, hts⟩ (c_Mo_actPending (sz := H.size) e26) (cwV 1 hts (q_goodV mw374 mw375 mw376 mw377 mw366) rfl rfl rfl (by decide +kernel) ⟨Nat.le_of_ble_eq_true rfl, Nat.le_of_ble_eq_true rfl⟩) NW_ok hK hN I rfl (q_wsE (by decide) (a_M_Mo)) rfl (q_sz hl) rfl (Nat.le_of_ble_eq_true rfl) d_Mo_sendTo_60 ⟨Nat.zero_le _, Nat.zero_le _⟩) (fun H locs I => ?_)
              refine lv_goto (tgt := 147) hx hb d_Mo_sendTo_63 (by decide) ?_
              exact k_Mo_sendTo_147 C0 hA res r25 hf H locs I ls (q_hsub hl [] rfl)
        · rw [if_neg c4] at hf
          exact k_Mo_sendTo_20 C0 hA res σ hf H locs I ls (q_hsub hl [] rfl)
  exact hgo _ _ I
-- JobTerminalModel sendJob
def f_Mo_sendJob (σ : q_St) (p1 : Int32) (p2 : Int32) : Option q_St := q_grd (q_in p1 4) (q_bnd (f_Mo_sendTo σ (σ 13 p1.toNatClampNeg) p2) (fun r2 => q_grd (q_in p1 4) (q_bnd (f_Mo_sendTo r2 (r2 14 p1.toNatClampNeg) p2) (fun r5 => some r5))))
set_option maxHeartbeats 4000000 in
set_option maxRecDepth 100000 in
theorem c_Mo_sendJob {l : Launch} {D : va_G} {ad : Nat → Nat} {cs : Nat → ClassId} {sz : Nat} {σ : q_St} {p1 : Int32} {p2 : Int32} {res : q_St} (hf : f_Mo_sendJob σ p1 p2 = some res) : Met l y_Mo_sendJob w_Mo_sendJob ({ frames := 3, cells := 0, slots := 0, locals := 66 } : Room) (q_Pre D vwCl (tyL cs) NW [.ref (ad 0), .int p1, .int p2] (q_ws 23 ad (cM ad cs σ)) sz) (q_Qv D vwCl (q_ws 23 ad (cM ad cs res)) (va_A (q_ws 23 ad (cM ad cs σ)) sz)) 0 0 (va_A (q_ws 23 ad (cM ad cs σ)) sz) := by
  refine Met.ofW (cc := b_Mo_sendJob) (maxL := 3) (ret := none) (by decide) rfl ?_
  intro p e s m args below meth c s₁ B hml hv
  obtain ⟨hargs, hsz, hP, hK, hD0, hN⟩ := hv
  have hx := B.exec
  have hb := B.bytes
  have hr := B.returns
  have hts := atoms_spec (ws := w_Mo_sendJob) B.pre
  have hown : s.vm.findClass "JobTerminalModel" = some m.cls := findClass_of_methodNamed B.named
  have hlocks := B.notSynchronized
  have htg : ∀ w ∈ GW, w.before args s = true := fun w h => hts w (List.mem_cons_of_mem _ h)
  subst hsz
  have hD := hD0.self (sz := s.heap.size)
  generalize hAe : va_A (q_ws 23 ad (cM ad cs σ)) s.heap.size = A at hD ⊢
  have hA : ∀ q : Nat, s.heap.size ≤ q → A q := fun q h => by rw [← hAe]; exact Or.inr h
  have I : q_I D vwCl A s.heap (q_ws 23 ad (cM ad cs σ)) s.heap [] := ⟨hP, hD, va_S.rf⟩
  obtain ⟨ls, hen, hl⟩ := q_entry (vs := [.ref (ad 0), .int p1, .int p2]) (n := 3) (lv := [(0, .ref (ad 0)), (1, .int p1), (2, .int p2)]) (by intro v hv; simp only [List.mem_cons, List.not_mem_nil, or_false] at hv; rcases hv with rfl | rfl | rfl <;> first | rfl | exact q_cat) (Nat.le_of_ble_eq_true rfl) rfl
  rw [show entryFrame m args 3 = F0 m 0 ls [] from by rw [hargs]; exact hen m]
  have C0 : q_Cx "JobTerminalModel" b_Mo_sendJob 3 none w_Mo_sendJob D vwCl (tyL cs) NW p s m args meth c := ⟨hx, hb, hr, hml, hown, hts, hlocks, hK, hN⟩
  unfold f_Mo_sendJob at hf
  have hgo : ∀ (H : Heap) (locs : List Loc), q_I D vwCl A s.heap (q_ws 23 ad (cM ad cs σ)) H locs → W p l e ({ frames := 3, cells := 0, slots := 0, locals := 66 } : Room) s m args below meth c H locs 0 0 (MQ below (q_Qv D vwCl (q_ws 23 ad (cM ad cs res)) A) args s 0 0 A) (F0 m 0 ls []) := by
    intro H locs I
    refine lv_aload_n hx hb d_Mo_sendJob_0 rfl (q_at hl 0 rfl) ?_
    refine lv_aload_n hx hb d_Mo_sendJob_1 rfl (q_at hl 0 rfl) ?_
    refine G_Mo_Mo_first hx hb htg hown hK hN I d_Mo_sendJob_2 ?_
    refine lv_iload_n hx hb d_Mo_sendJob_5 rfl (q_at hl 1 rfl) ?_
    obtain ⟨o1, hf⟩ := q_grd_some hf
    refine A_M_first hx hb hK I o1 d_Mo_sendJob_6 ?_
    refine lv_iload_n hx hb d_Mo_sendJob_7 rfl (q_at hl 2 rfl) ?_
    obtain ⟨r2, e3, hf⟩ := q_bnd_some hf
    refine q_kv hA I (q_runV (C := "JobTerminalModel") (As := [.int (σ 13 p1.toNatClampNeg), .int p2]) (rest := []) ⟨hx, hb, hml, hown, hts⟩ (c_Mo_sendTo (sz := H.size) e3) (cwV 2 hts (q_goodV mw378 mw379 mw380 mw381 mw366) rfl rfl rfl (by decide +kernel) ⟨Nat.le_of_ble_eq_true rfl, Nat.le_of_ble_eq_true rfl⟩) NW_ok hK hN I rfl (q_wsE (by decide) (a_M_Mo)) rfl (q_sz hl) rfl (Nat.le_of_ble_eq_true rfl) d_Mo_sendJob_8 ⟨Nat.zero_le _, Nat.zero_le _⟩) (fun H locs I => ?_)
    refine lv_aload_n hx hb d_Mo_sendJob_11 rfl (q_at hl 0 rfl) ?_
    refine lv_aload_n hx hb d_Mo_sendJob_12 rfl (q_at hl 0 rfl) ?_
    refine G_Mo_Mo_second hx hb htg hown hK hN I d_Mo_sendJob_13 ?_
    refine lv_iload_n hx hb d_Mo_sendJob_16 rfl (q_at hl 1 rfl) ?_
    obtain ⟨o4, hf⟩ := q_grd_some hf
    refine A_M_second hx hb hK I o4 d_Mo_sendJob_17 ?_
    refine lv_iload_n hx hb d_Mo_sendJob_18 rfl (q_at hl 2 rfl) ?_
    obtain ⟨r5, e6, hf⟩ := q_bnd_some hf
    refine q_kv hA I (q_runV (C := "JobTerminalModel") (As := [.int (r2 14 p1.toNatClampNeg), .int p2]) (rest := []) ⟨hx, hb, hml, hown, hts⟩ (c_Mo_sendTo (sz := H.size) e6) (cwV 2 hts (q_goodV mw378 mw379 mw380 mw381 mw366) rfl rfl rfl (by decide +kernel) ⟨Nat.le_of_ble_eq_true rfl, Nat.le_of_ble_eq_true rfl⟩) NW_ok hK hN I rfl (q_wsE (by decide) (a_M_Mo)) rfl (q_sz hl) rfl (Nat.le_of_ble_eq_true rfl) d_Mo_sendJob_19 ⟨Nat.zero_le _, Nat.zero_le _⟩) (fun H locs I => ?_)
    cases hf
    exact q_vret hx hb hr hlocks I d_Mo_sendJob_22
  exact hgo _ _ I
-- JobTerminalModel flagged
def f_Mo_flagged_14 (σ : q_St) (y0 : Int32) : Option (Int32 × q_St) := q_grd (q_isB y0) (some (y0, σ))
set_option maxHeartbeats 4000000 in
set_option maxRecDepth 100000 in
theorem k_Mo_flagged_14 {p : Program} {l : Launch} {e : Env} {s : State} {m : MethodId} {args : Array Value} {below : List Frame} {meth : Method} {c : Code} {D : va_G} {A : Nat → Prop} {ad : Nat → Nat} {cs : Nat → ClassId} (C0 : q_Cx "JobTerminalModel" b_Mo_flagged 2 (some .boolean) w_Mo_flagged D vwCl (tyL cs) NW p s m args meth c) (hA : ∀ q, s.heap.size ≤ q → A q) (res : (Int32 × q_St)) : ∀ (σ : q_St) (y0 : Int32) , f_Mo_flagged_14 σ y0 = some res → ∀ (H : Heap) (locs : List Loc), q_I D vwCl A s.heap (q_ws 23 ad (cM ad cs σ)) H locs → ∀ ls : Array Slot, q_has ls 2 [] → W p l e ({ frames := 0, cells := 0, slots := 0, locals := 0 } : Room) s m args below meth c H locs 0 0 (MQ below (q_Qi D vwCl res.1 (q_ws 23 ad (cM ad cs res.2)) A) args s 0 0 A) (F0 m 14 ls [.int y0]) := by
  intro σ y0 hf H locs I ls hl
  unfold f_Mo_flagged_14 at hf
  obtain ⟨hx, hb, hr, hml, hown, hts, hlocks, hK, hN⟩ := id C0
  have htg : ∀ w ∈ GW, w.before args s = true := fun w h => hts w (List.mem_cons_of_mem _ h)
  obtain ⟨o2, hf⟩ := q_grd_some hf
  cases hf
  exact q_zret hx hb hr hlocks o2 I d_Mo_flagged_14
def f_Mo_flagged (σ : q_St) (p1 : Int32) : Option (Int32 × q_St) := if ((σ 42 0) &&& p1) = 0 then (f_Mo_flagged_14 σ 0) else (f_Mo_flagged_14 σ 1)
set_option maxHeartbeats 4000000 in
set_option maxRecDepth 100000 in
theorem c_Mo_flagged {l : Launch} {D : va_G} {ad : Nat → Nat} {cs : Nat → ClassId} {sz : Nat} {σ : q_St} {p1 : Int32} {res : (Int32 × q_St)} (hf : f_Mo_flagged σ p1 = some res) : Met l y_Mo_flagged w_Mo_flagged ({ frames := 0, cells := 0, slots := 0, locals := 0 } : Room) (q_Pre D vwCl (tyL cs) NW [.ref (ad 0), .int p1] (q_ws 23 ad (cM ad cs σ)) sz) (q_Qi D vwCl res.1 (q_ws 23 ad (cM ad cs res.2)) (va_A (q_ws 23 ad (cM ad cs σ)) sz)) 0 0 (va_A (q_ws 23 ad (cM ad cs σ)) sz) := by
  refine Met.ofW (cc := b_Mo_flagged) (maxL := 2) (ret := (some .boolean)) (by decide) rfl ?_
  intro p e s m args below meth c s₁ B hml hv
  obtain ⟨hargs, hsz, hP, hK, hD0, hN⟩ := hv
  have hx := B.exec
  have hb := B.bytes
  have hr := B.returns
  have hts := atoms_spec (ws := w_Mo_flagged) B.pre
  have hown : s.vm.findClass "JobTerminalModel" = some m.cls := findClass_of_methodNamed B.named
  have hlocks := B.notSynchronized
  have htg : ∀ w ∈ GW, w.before args s = true := fun w h => hts w (List.mem_cons_of_mem _ h)
  subst hsz
  have hD := hD0.self (sz := s.heap.size)
  generalize hAe : va_A (q_ws 23 ad (cM ad cs σ)) s.heap.size = A at hD ⊢
  have hA : ∀ q : Nat, s.heap.size ≤ q → A q := fun q h => by rw [← hAe]; exact Or.inr h
  have I : q_I D vwCl A s.heap (q_ws 23 ad (cM ad cs σ)) s.heap [] := ⟨hP, hD, va_S.rf⟩
  obtain ⟨ls, hen, hl⟩ := q_entry (vs := [.ref (ad 0), .int p1]) (n := 2) (lv := [(0, .ref (ad 0)), (1, .int p1)]) (by intro v hv; simp only [List.mem_cons, List.not_mem_nil, or_false] at hv; rcases hv with rfl | rfl <;> first | rfl | exact q_cat) (Nat.le_of_ble_eq_true rfl) rfl
  rw [show entryFrame m args 2 = F0 m 0 ls [] from by rw [hargs]; exact hen m]
  have C0 : q_Cx "JobTerminalModel" b_Mo_flagged 2 (some .boolean) w_Mo_flagged D vwCl (tyL cs) NW p s m args meth c := ⟨hx, hb, hr, hml, hown, hts, hlocks, hK, hN⟩
  unfold f_Mo_flagged at hf
  have hgo : ∀ (H : Heap) (locs : List Loc), q_I D vwCl A s.heap (q_ws 23 ad (cM ad cs σ)) H locs → W p l e ({ frames := 0, cells := 0, slots := 0, locals := 0 } : Room) s m args below meth c H locs 0 0 (MQ below (q_Qi D vwCl res.1 (q_ws 23 ad (cM ad cs res.2)) A) args s 0 0 A) (F0 m 0 ls []) := by
    intro H locs I
    refine lv_aload_n hx hb d_Mo_flagged_0 rfl (q_at hl 0 rfl) ?_
    refine G_Mo_Mo_flag hx hb htg hown hK hN I d_Mo_flagged_1 ?_
    refine lv_iload_n hx hb d_Mo_flagged_4 rfl (q_at hl 1 rfl) ?_
    refine lv_iand hx hb d_Mo_flagged_5 ?_
    refine lv_if_eq (tgt := 13) hx hb d_Mo_flagged_6 (by decide) (fun c1 => ?_) (fun c1 => ?_)
    · rw [if_pos c1] at hf
      refine lv_iconst (v := 0) hx hb d_Mo_flagged_13 (by decide) ?_
      exact k_Mo_flagged_14 C0 hA res σ 0 hf H locs I ls (q_hsub hl [] rfl)
    · rw [if_neg c1] at hf
      refine lv_iconst (v := 1) hx hb d_Mo_flagged_9 (by decide) ?_
      refine lv_goto (tgt := 14) hx hb d_Mo_flagged_10 (by decide) ?_
      exact k_Mo_flagged_14 C0 hA res σ 1 hf H locs I ls (q_hsub hl [] rfl)
  exact hgo _ _ I
-- JobTerminalModel put
def f_Mo_put (σ : q_St) (p1 : Int32) : Option q_St := q_grd (q_in ((σ 46 0) - (σ 46 0) / 100 * 100) 100) (some (q_up (q_up σ 21 ((σ 46 0) - (σ 46 0) / 100 * 100).toNatClampNeg p1) 46 0 (((q_up σ 21 ((σ 46 0) - (σ 46 0) / 100 * 100).toNatClampNeg p1) 46 0) + 1)))
set_option maxHeartbeats 4000000 in
set_option maxRecDepth 100000 in
theorem c_Mo_put {l : Launch} {D : va_G} {ad : Nat → Nat} {cs : Nat → ClassId} {sz : Nat} {σ : q_St} {p1 : Int32} {res : q_St} (hf : f_Mo_put σ p1 = some res) : Met l y_Mo_put w_Mo_put ({ frames := 0, cells := 0, slots := 0, locals := 0 } : Room) (q_Pre D vwCl (tyL cs) NW [.ref (ad 0), .int p1] (q_ws 23 ad (cM ad cs σ)) sz) (q_Qv D vwCl (q_ws 23 ad (cM ad cs res)) (va_A (q_ws 23 ad (cM ad cs σ)) sz)) 0 0 (va_A (q_ws 23 ad (cM ad cs σ)) sz) := by
  refine Met.ofW (cc := b_Mo_put) (maxL := 2) (ret := none) (by decide) rfl ?_
  intro p e s m args below meth c s₁ B hml hv
  obtain ⟨hargs, hsz, hP, hK, hD0, hN⟩ := hv
  have hx := B.exec
  have hb := B.bytes
  have hr := B.returns
  have hts := atoms_spec (ws := w_Mo_put) B.pre
  have hown : s.vm.findClass "JobTerminalModel" = some m.cls := findClass_of_methodNamed B.named
  have hlocks := B.notSynchronized
  have htg : ∀ w ∈ GW, w.before args s = true := fun w h => hts w (List.mem_cons_of_mem _ h)
  subst hsz
  have hD := hD0.self (sz := s.heap.size)
  generalize hAe : va_A (q_ws 23 ad (cM ad cs σ)) s.heap.size = A at hD ⊢
  have hA : ∀ q : Nat, s.heap.size ≤ q → A q := fun q h => by rw [← hAe]; exact Or.inr h
  have I : q_I D vwCl A s.heap (q_ws 23 ad (cM ad cs σ)) s.heap [] := ⟨hP, hD, va_S.rf⟩
  obtain ⟨ls, hen, hl⟩ := q_entry (vs := [.ref (ad 0), .int p1]) (n := 2) (lv := [(0, .ref (ad 0)), (1, .int p1)]) (by intro v hv; simp only [List.mem_cons, List.not_mem_nil, or_false] at hv; rcases hv with rfl | rfl <;> first | rfl | exact q_cat) (Nat.le_of_ble_eq_true rfl) rfl
  rw [show entryFrame m args 2 = F0 m 0 ls [] from by rw [hargs]; exact hen m]
  have C0 : q_Cx "JobTerminalModel" b_Mo_put 2 none w_Mo_put D vwCl (tyL cs) NW p s m args meth c := ⟨hx, hb, hr, hml, hown, hts, hlocks, hK, hN⟩
  unfold f_Mo_put at hf
  have hgo : ∀ (H : Heap) (locs : List Loc), q_I D vwCl A s.heap (q_ws 23 ad (cM ad cs σ)) H locs → W p l e ({ frames := 0, cells := 0, slots := 0, locals := 0 } : Room) s m args below meth c H locs 0 0 (MQ below (q_Qv D vwCl (q_ws 23 ad (cM ad cs res)) A) args s 0 0 A) (F0 m 0 ls []) := by
    intro H locs I
    refine lv_aload_n hx hb d_Mo_put_0 rfl (q_at hl 0 rfl) ?_
    refine G_Mo_Mo_screen hx hb htg hown hK hN I d_Mo_put_1 ?_
    refine lv_aload_n hx hb d_Mo_put_4 rfl (q_at hl 0 rfl) ?_
    refine G_Mo_Mo_shows hx hb htg hown hK hN I d_Mo_put_5 ?_
    refine lv_bipush (v := 100) hx hb d_Mo_put_8 (by decide) ?_
    refine lv_irem hx hb d_Mo_put_10 (by decide) ?_
    refine lv_iload_n hx hb d_Mo_put_11 rfl (q_at hl 1 rfl) ?_
    obtain ⟨o1, hf⟩ := q_grd_some hf
    refine T_M_screen hx hb hK I o1 d_Mo_put_12 (fun H locs I => ?_)
    refine lv_aload_n hx hb d_Mo_put_13 rfl (q_at hl 0 rfl) ?_
    refine lv_dup hx hb d_Mo_put_14 rfl ?_
    refine G_Mo_Mo_shows hx hb htg hown hK hN I d_Mo_put_15 ?_
    refine lv_iconst (v := 1) hx hb d_Mo_put_18 (by decide) ?_
    refine lv_iadd hx hb d_Mo_put_19 ?_
    refine P_Mo_Mo_shows hx hb htg hown hK hN I d_Mo_put_20 (fun H locs I => ?_)
    cases hf
    exact q_vret hx hb hr hlocks I d_Mo_put_23
  exact hgo _ _ I
-- JobTerminalModel show
def f_Mo_show_21 (σ : q_St) (x1 : Int32) : Option q_St := q_bnd (f_Mo_put σ x1) (fun r7 => some r7)
set_option maxHeartbeats 4000000 in
set_option maxRecDepth 100000 in
theorem k_Mo_show_21 {p : Program} {l : Launch} {e : Env} {s : State} {m : MethodId} {args : Array Value} {below : List Frame} {meth : Method} {c : Code} {D : va_G} {A : Nat → Prop} {ad : Nat → Nat} {cs : Nat → ClassId} (C0 : q_Cx "JobTerminalModel" b_Mo_show 2 none w_Mo_show D vwCl (tyL cs) NW p s m args meth c) (hA : ∀ q, s.heap.size ≤ q → A q) (res : q_St) : ∀ (σ : q_St) (x1 : Int32) , f_Mo_show_21 σ x1 = some res → ∀ (H : Heap) (locs : List Loc), q_I D vwCl A s.heap (q_ws 23 ad (cM ad cs σ)) H locs → ∀ ls : Array Slot, q_has ls 2 [(0, .ref (ad 0)), (1, .int x1)] → W p l e ({ frames := 1, cells := 0, slots := 0, locals := 21 } : Room) s m args below meth c H locs 0 0 (MQ below (q_Qv D vwCl (q_ws 23 ad (cM ad cs res)) A) args s 0 0 A) (F0 m 21 ls []) := by
  intro σ x1 hf H locs I ls hl
  unfold f_Mo_show_21 at hf
  obtain ⟨hx, hb, hr, hml, hown, hts, hlocks, hK, hN⟩ := id C0
  have htg : ∀ w ∈ GW, w.before args s = true := fun w h => hts w (List.mem_cons_of_mem _ h)
  refine lv_aload_n hx hb d_Mo_show_21 rfl (q_at hl 0 rfl) ?_
  refine lv_iload_n hx hb d_Mo_show_22 rfl (q_at hl 1 rfl) ?_
  obtain ⟨r7, e8, hf⟩ := q_bnd_some hf
  refine q_kv hA I (q_runV (C := "JobTerminalModel") (As := [.int x1]) (rest := []) ⟨hx, hb, hml, hown, hts⟩ (c_Mo_put (sz := H.size) e8) (cwV 1 hts (q_goodV mw386 mw387 mw388 mw389 mw366) rfl rfl rfl (by decide +kernel) ⟨Nat.le_of_ble_eq_true rfl, Nat.le_of_ble_eq_true rfl⟩) NW_ok hK hN I rfl (q_wsE (by decide) (a_M_Mo)) rfl (q_sz hl) rfl (Nat.le_of_ble_eq_true rfl) d_Mo_show_23 ⟨Nat.zero_le _, Nat.zero_le _⟩) (fun H locs I => ?_)
  cases hf
  exact q_vret hx hb hr hlocks I d_Mo_show_26
def f_Mo_show (σ : q_St) (p1 : Int32) : Option q_St := if p1 = 10 then (q_bnd (f_Mo_flagged σ 32) (fun r2 => if r2.1 = 0 then (f_Mo_show_21 r2.2 p1) else (q_bnd (f_Mo_put r2.2 13) (fun r5 => f_Mo_show_21 r5 p1)))) else (f_Mo_show_21 σ p1)
set_option maxHeartbeats 4000000 in
set_option maxRecDepth 100000 in
theorem c_Mo_show {l : Launch} {D : va_G} {ad : Nat → Nat} {cs : Nat → ClassId} {sz : Nat} {σ : q_St} {p1 : Int32} {res : q_St} (hf : f_Mo_show σ p1 = some res) : Met l y_Mo_show w_Mo_show ({ frames := 1, cells := 0, slots := 0, locals := 21 } : Room) (q_Pre D vwCl (tyL cs) NW [.ref (ad 0), .int p1] (q_ws 23 ad (cM ad cs σ)) sz) (q_Qv D vwCl (q_ws 23 ad (cM ad cs res)) (va_A (q_ws 23 ad (cM ad cs σ)) sz)) 0 0 (va_A (q_ws 23 ad (cM ad cs σ)) sz) := by
  refine Met.ofW (cc := b_Mo_show) (maxL := 2) (ret := none) (by decide) rfl ?_
  intro p e s m args below meth c s₁ B hml hv
  obtain ⟨hargs, hsz, hP, hK, hD0, hN⟩ := hv
  have hx := B.exec
  have hb := B.bytes
  have hr := B.returns
  have hts := atoms_spec (ws := w_Mo_show) B.pre
  have hown : s.vm.findClass "JobTerminalModel" = some m.cls := findClass_of_methodNamed B.named
  have hlocks := B.notSynchronized
  have htg : ∀ w ∈ GW, w.before args s = true := fun w h => hts w (List.mem_cons_of_mem _ h)
  subst hsz
  have hD := hD0.self (sz := s.heap.size)
  generalize hAe : va_A (q_ws 23 ad (cM ad cs σ)) s.heap.size = A at hD ⊢
  have hA : ∀ q : Nat, s.heap.size ≤ q → A q := fun q h => by rw [← hAe]; exact Or.inr h
  have I : q_I D vwCl A s.heap (q_ws 23 ad (cM ad cs σ)) s.heap [] := ⟨hP, hD, va_S.rf⟩
  obtain ⟨ls, hen, hl⟩ := q_entry (vs := [.ref (ad 0), .int p1]) (n := 2) (lv := [(0, .ref (ad 0)), (1, .int p1)]) (by intro v hv; simp only [List.mem_cons, List.not_mem_nil, or_false] at hv; rcases hv with rfl | rfl <;> first | rfl | exact q_cat) (Nat.le_of_ble_eq_true rfl) rfl
  rw [show entryFrame m args 2 = F0 m 0 ls [] from by rw [hargs]; exact hen m]
  have C0 : q_Cx "JobTerminalModel" b_Mo_show 2 none w_Mo_show D vwCl (tyL cs) NW p s m args meth c := ⟨hx, hb, hr, hml, hown, hts, hlocks, hK, hN⟩
  unfold f_Mo_show at hf
  have hgo : ∀ (H : Heap) (locs : List Loc), q_I D vwCl A s.heap (q_ws 23 ad (cM ad cs σ)) H locs → W p l e ({ frames := 1, cells := 0, slots := 0, locals := 21 } : Room) s m args below meth c H locs 0 0 (MQ below (q_Qv D vwCl (q_ws 23 ad (cM ad cs res)) A) args s 0 0 A) (F0 m 0 ls []) := by
    intro H locs I
    refine lv_iload_n hx hb d_Mo_show_0 rfl (q_at hl 1 rfl) ?_
    refine lv_bipush (v := 10) hx hb d_Mo_show_1 (by decide) ?_
    refine lv_icmp_ne (tgt := 21) hx hb d_Mo_show_3 (by decide) (fun c1 => ?_) (fun c1 => ?_)
    · rw [if_neg c1] at hf
      exact k_Mo_show_21 C0 hA res σ p1 hf H locs I ls (q_hsub hl [0, 1] rfl)
    · rw [if_pos c1] at hf
      refine lv_aload_n hx hb d_Mo_show_6 rfl (q_at hl 0 rfl) ?_
      refine lv_bipush (v := 32) hx hb d_Mo_show_7 (by decide) ?_
      obtain ⟨r2, e3, hf⟩ := q_bnd_some hf
      refine q_ki hA I (q_runV (C := "JobTerminalModel") (As := [.int 32]) (rest := []) ⟨hx, hb, hml, hown, hts⟩ (c_Mo_flagged (sz := H.size) e3) (cwV 1 hts (q_goodV mw382 mw383 mw384 mw385 mw366) rfl rfl rfl (by decide +kernel) ⟨Nat.le_of_ble_eq_true rfl, Nat.le_of_ble_eq_true rfl⟩) NW_ok hK hN I rfl (q_wsE (by decide) (a_M_Mo)) rfl (q_sz hl) rfl (Nat.le_of_ble_eq_true rfl) d_Mo_show_9 ⟨Nat.zero_le _, Nat.zero_le _⟩) (fun H locs I => ?_)
      refine lv_if_eq (tgt := 21) hx hb d_Mo_show_12 (by decide) (fun c4 => ?_) (fun c4 => ?_)
      · rw [if_pos c4] at hf
        exact k_Mo_show_21 C0 hA res r2.2 p1 hf H locs I ls (q_hsub hl [0, 1] rfl)
      · rw [if_neg c4] at hf
        refine lv_aload_n hx hb d_Mo_show_15 rfl (q_at hl 0 rfl) ?_
        refine lv_bipush (v := 13) hx hb d_Mo_show_16 (by decide) ?_
        obtain ⟨r5, e6, hf⟩ := q_bnd_some hf
        refine q_kv hA I (q_runV (C := "JobTerminalModel") (As := [.int 13]) (rest := []) ⟨hx, hb, hml, hown, hts⟩ (c_Mo_put (sz := H.size) e6) (cwV 1 hts (q_goodV mw386 mw387 mw388 mw389 mw366) rfl rfl rfl (by decide +kernel) ⟨Nat.le_of_ble_eq_true rfl, Nat.le_of_ble_eq_true rfl⟩) NW_ok hK hN I rfl (q_wsE (by decide) (a_M_Mo)) rfl (q_sz hl) rfl (Nat.le_of_ble_eq_true rfl) d_Mo_show_18 ⟨Nat.zero_le _, Nat.zero_le _⟩) (fun H locs I => ?_)
        exact k_Mo_show_21 C0 hA res r5 p1 hf H locs I ls (q_hsub hl [0, 1] rfl)
  exact hgo _ _ I
-- JobTerminalModel echo
def f_Mo_echo_60 (σ : q_St) : Option q_St := some σ
set_option maxHeartbeats 4000000 in
set_option maxRecDepth 100000 in
theorem k_Mo_echo_60 {p : Program} {l : Launch} {e : Env} {s : State} {m : MethodId} {args : Array Value} {below : List Frame} {meth : Method} {c : Code} {D : va_G} {A : Nat → Prop} {ad : Nat → Nat} {cs : Nat → ClassId} (C0 : q_Cx "JobTerminalModel" b_Mo_echo 2 none w_Mo_echo D vwCl (tyL cs) NW p s m args meth c) (hA : ∀ q, s.heap.size ≤ q → A q) (res : q_St) : ∀ (σ : q_St) , f_Mo_echo_60 σ  = some res → ∀ (H : Heap) (locs : List Loc), q_I D vwCl A s.heap (q_ws 23 ad (cM ad cs σ)) H locs → ∀ ls : Array Slot, q_has ls 2 [] → W p l e ({ frames := 2, cells := 0, slots := 0, locals := 42 } : Room) s m args below meth c H locs 0 0 (MQ below (q_Qv D vwCl (q_ws 23 ad (cM ad cs res)) A) args s 0 0 A) (F0 m 60 ls []) := by
  intro σ  hf H locs I ls hl
  unfold f_Mo_echo_60 at hf
  obtain ⟨hx, hb, hr, hml, hown, hts, hlocks, hK, hN⟩ := id C0
  have htg : ∀ w ∈ GW, w.before args s = true := fun w h => hts w (List.mem_cons_of_mem _ h)
  cases hf
  exact q_vret hx hb hr hlocks I d_Mo_echo_60
def f_Mo_echo_49 (σ : q_St) (y0 : Int32) : Option q_St := q_bnd (f_Mo_show σ y0) (fun r9 => f_Mo_echo_60 r9)
set_option maxHeartbeats 4000000 in
set_option maxRecDepth 100000 in
theorem k_Mo_echo_49 {p : Program} {l : Launch} {e : Env} {s : State} {m : MethodId} {args : Array Value} {below : List Frame} {meth : Method} {c : Code} {D : va_G} {A : Nat → Prop} {ad : Nat → Nat} {cs : Nat → ClassId} (C0 : q_Cx "JobTerminalModel" b_Mo_echo 2 none w_Mo_echo D vwCl (tyL cs) NW p s m args meth c) (hA : ∀ q, s.heap.size ≤ q → A q) (res : q_St) : ∀ (σ : q_St) (y0 : Int32) , f_Mo_echo_49 σ y0 = some res → ∀ (H : Heap) (locs : List Loc), q_I D vwCl A s.heap (q_ws 23 ad (cM ad cs σ)) H locs → ∀ ls : Array Slot, q_has ls 2 [] → W p l e ({ frames := 2, cells := 0, slots := 0, locals := 42 } : Room) s m args below meth c H locs 0 0 (MQ below (q_Qv D vwCl (q_ws 23 ad (cM ad cs res)) A) args s 0 0 A) (F0 m 49 ls [.int y0, .ref (ad 0)]) := by
  intro σ y0 hf H locs I ls hl
  unfold f_Mo_echo_49 at hf
  obtain ⟨hx, hb, hr, hml, hown, hts, hlocks, hK, hN⟩ := id C0
  have htg : ∀ w ∈ GW, w.before args s = true := fun w h => hts w (List.mem_cons_of_mem _ h)
  obtain ⟨r9, e10, hf⟩ := q_bnd_some hf
  refine q_kv hA I (q_runV (C := "JobTerminalModel") (As := [.int y0]) (rest := []) ⟨hx, hb, hml, hown, hts⟩ (c_Mo_show (sz := H.size) e10) (cwV 1 hts (q_goodV mw390 mw391 mw392 mw393 mw366) rfl rfl rfl (by decide +kernel) ⟨Nat.le_of_ble_eq_true rfl, Nat.le_of_ble_eq_true rfl⟩) NW_ok hK hN I rfl (q_wsE (by decide) (a_M_Mo)) rfl (q_sz hl) rfl (Nat.le_of_ble_eq_true rfl) d_Mo_echo_49 ⟨Nat.zero_le _, Nat.zero_le _⟩) (fun H locs I => ?_)
  refine lv_goto (tgt := 60) hx hb d_Mo_echo_52 (by decide) ?_
  exact k_Mo_echo_60 C0 hA res r9 hf H locs I ls (q_hsub hl [] rfl)
def f_Mo_echo_27 (σ : q_St) (x1 : Int32) : Option q_St := q_bnd (f_Mo_show σ 94) (fun r6 => if x1 = 127 then (f_Mo_echo_49 r6 63) else (f_Mo_echo_49 r6 (64 + x1)))
set_option maxHeartbeats 4000000 in
set_option maxRecDepth 100000 in
theorem k_Mo_echo_27 {p : Program} {l : Launch} {e : Env} {s : State} {m : MethodId} {args : Array Value} {below : List Frame} {meth : Method} {c : Code} {D : va_G} {A : Nat → Prop} {ad : Nat → Nat} {cs : Nat → ClassId} (C0 : q_Cx "JobTerminalModel" b_Mo_echo 2 none w_Mo_echo D vwCl (tyL cs) NW p s m args meth c) (hA : ∀ q, s.heap.size ≤ q → A q) (res : q_St) : ∀ (σ : q_St) (x1 : Int32) , f_Mo_echo_27 σ x1 = some res → ∀ (H : Heap) (locs : List Loc), q_I D vwCl A s.heap (q_ws 23 ad (cM ad cs σ)) H locs → ∀ ls : Array Slot, q_has ls 2 [(0, .ref (ad 0)), (1, .int x1)] → W p l e ({ frames := 2, cells := 0, slots := 0, locals := 42 } : Room) s m args below meth c H locs 0 0 (MQ below (q_Qv D vwCl (q_ws 23 ad (cM ad cs res)) A) args s 0 0 A) (F0 m 27 ls []) := by
  intro σ x1 hf H locs I ls hl
  unfold f_Mo_echo_27 at hf
  obtain ⟨hx, hb, hr, hml, hown, hts, hlocks, hK, hN⟩ := id C0
  have htg : ∀ w ∈ GW, w.before args s = true := fun w h => hts w (List.mem_cons_of_mem _ h)
  refine lv_aload_n hx hb d_Mo_echo_27 rfl (q_at hl 0 rfl) ?_
  refine lv_bipush (v := 94) hx hb d_Mo_echo_28 (by decide) ?_
  obtain ⟨r6, e7, hf⟩ := q_bnd_some hf
  refine q_kv hA I (q_runV (C := "JobTerminalModel") (As := [.int 94]) (rest := []) ⟨hx, hb, hml, hown, hts⟩ (c_Mo_show (sz := H.size) e7) (cwV 1 hts (q_goodV mw390 mw391 mw392 mw393 mw366) rfl rfl rfl (by decide +kernel) ⟨Nat.le_of_ble_eq_true rfl, Nat.le_of_ble_eq_true rfl⟩) NW_ok hK hN I rfl (q_wsE (by decide) (a_M_Mo)) rfl (q_sz hl) rfl (Nat.le_of_ble_eq_true rfl) d_Mo_echo_30 ⟨Nat.zero_le _, Nat.zero_le _⟩) (fun H locs I => ?_)
  refine lv_aload_n hx hb d_Mo_echo_33 rfl (q_at hl 0 rfl) ?_
  refine lv_iload_n hx hb d_Mo_echo_34 rfl (q_at hl 1 rfl) ?_
  refine lv_bipush (v := 127) hx hb d_Mo_echo_35 (by decide) ?_
  refine lv_icmp_ne (tgt := 45) hx hb d_Mo_echo_37 (by decide) (fun c8 => ?_) (fun c8 => ?_)
  · rw [if_neg c8] at hf
    refine lv_bipush (v := 64) hx hb d_Mo_echo_45 (by decide) ?_
    refine lv_iload_n hx hb d_Mo_echo_47 rfl (q_at hl 1 rfl) ?_
    refine lv_iadd hx hb d_Mo_echo_48 ?_
    exact k_Mo_echo_49 C0 hA res r6 (64 + x1) hf H locs I ls (q_hsub hl [] rfl)
  · rw [if_pos c8] at hf
    refine lv_bipush (v := 63) hx hb d_Mo_echo_40 (by decide) ?_
    refine lv_goto (tgt := 49) hx hb d_Mo_echo_42 (by decide) ?_
    exact k_Mo_echo_49 C0 hA res r6 63 hf H locs I ls (q_hsub hl [] rfl)
def f_Mo_echo_21 (σ : q_St) (x1 : Int32) : Option q_St := if x1 = 127 then (f_Mo_echo_27 σ x1) else (q_bnd (f_Mo_show σ x1) (fun r12 => f_Mo_echo_60 r12))
set_option maxHeartbeats 4000000 in
set_option maxRecDepth 100000 in
theorem k_Mo_echo_21 {p : Program} {l : Launch} {e : Env} {s : State} {m : MethodId} {args : Array Value} {below : List Frame} {meth : Method} {c : Code} {D : va_G} {A : Nat → Prop} {ad : Nat → Nat} {cs : Nat → ClassId} (C0 : q_Cx "JobTerminalModel" b_Mo_echo 2 none w_Mo_echo D vwCl (tyL cs) NW p s m args meth c) (hA : ∀ q, s.heap.size ≤ q → A q) (res : q_St) : ∀ (σ : q_St) (x1 : Int32) , f_Mo_echo_21 σ x1 = some res → ∀ (H : Heap) (locs : List Loc), q_I D vwCl A s.heap (q_ws 23 ad (cM ad cs σ)) H locs → ∀ ls : Array Slot, q_has ls 2 [(0, .ref (ad 0)), (1, .int x1)] → W p l e ({ frames := 2, cells := 0, slots := 0, locals := 42 } : Room) s m args below meth c H locs 0 0 (MQ below (q_Qv D vwCl (q_ws 23 ad (cM ad cs res)) A) args s 0 0 A) (F0 m 21 ls []) := by
  intro σ x1 hf H locs I ls hl
  unfold f_Mo_echo_21 at hf
  obtain ⟨hx, hb, hr, hml, hown, hts, hlocks, hK, hN⟩ := id C0
  have htg : ∀ w ∈ GW, w.before args s = true := fun w h => hts w (List.mem_cons_of_mem _ h)
  refine lv_iload_n hx hb d_Mo_echo_21 rfl (q_at hl 1 rfl) ?_
  refine lv_bipush (v := 127) hx hb d_Mo_echo_22 (by decide) ?_
  refine lv_icmp_ne (tgt := 55) hx hb d_Mo_echo_24 (by decide) (fun c11 => ?_) (fun c11 => ?_)
  · rw [if_neg c11] at hf
    refine lv_aload_n hx hb d_Mo_echo_55 rfl (q_at hl 0 rfl) ?_
    refine lv_iload_n hx hb d_Mo_echo_56 rfl (q_at hl 1 rfl) ?_
    obtain ⟨r12, e13, hf⟩ := q_bnd_some hf
    refine q_kv hA I (q_runV (C := "JobTerminalModel") (As := [.int x1]) (rest := []) ⟨hx, hb, hml, hown, hts⟩ (c_Mo_show (sz := H.size) e13) (cwV 1 hts (q_goodV mw390 mw391 mw392 mw393 mw366) rfl rfl rfl (by decide +kernel) ⟨Nat.le_of_ble_eq_true rfl, Nat.le_of_ble_eq_true rfl⟩) NW_ok hK hN I rfl (q_wsE (by decide) (a_M_Mo)) rfl (q_sz hl) rfl (Nat.le_of_ble_eq_true rfl) d_Mo_echo_57 ⟨Nat.zero_le _, Nat.zero_le _⟩) (fun H locs I => ?_)
    exact k_Mo_echo_60 C0 hA res r12 hf H locs I ls (q_hsub hl [] rfl)
  · rw [if_pos c11] at hf
    exact k_Mo_echo_27 C0 hA res σ x1 hf H locs I ls (q_hsub hl [0, 1] rfl)
def f_Mo_echo (σ : q_St) (p1 : Int32) : Option q_St := q_bnd (f_Mo_flagged σ 2) (fun r1 => if r1.1 = 0 then (some r1.2) else (if p1 = 10 then (f_Mo_echo_21 r1.2 p1) else (if p1 < 32 then (f_Mo_echo_27 r1.2 p1) else (f_Mo_echo_21 r1.2 p1))))
set_option maxHeartbeats 4000000 in
set_option maxRecDepth 100000 in
theorem c_Mo_echo {l : Launch} {D : va_G} {ad : Nat → Nat} {cs : Nat → ClassId} {sz : Nat} {σ : q_St} {p1 : Int32} {res : q_St} (hf : f_Mo_echo σ p1 = some res) : Met l y_Mo_echo w_Mo_echo ({ frames := 2, cells := 0, slots := 0, locals := 42 } : Room) (q_Pre D vwCl (tyL cs) NW [.ref (ad 0), .int p1] (q_ws 23 ad (cM ad cs σ)) sz) (q_Qv D vwCl (q_ws 23 ad (cM ad cs res)) (va_A (q_ws 23 ad (cM ad cs σ)) sz)) 0 0 (va_A (q_ws 23 ad (cM ad cs σ)) sz) := by
  refine Met.ofW (cc := b_Mo_echo) (maxL := 2) (ret := none) (by decide) rfl ?_
  intro p e s m args below meth c s₁ B hml hv
  obtain ⟨hargs, hsz, hP, hK, hD0, hN⟩ := hv
  have hx := B.exec
  have hb := B.bytes
  have hr := B.returns
  have hts := atoms_spec (ws := w_Mo_echo) B.pre
  have hown : s.vm.findClass "JobTerminalModel" = some m.cls := findClass_of_methodNamed B.named
  have hlocks := B.notSynchronized
  have htg : ∀ w ∈ GW, w.before args s = true := fun w h => hts w (List.mem_cons_of_mem _ h)
  subst hsz
  have hD := hD0.self (sz := s.heap.size)
  generalize hAe : va_A (q_ws 23 ad (cM ad cs σ)) s.heap.size = A at hD ⊢
  have hA : ∀ q : Nat, s.heap.size ≤ q → A q := fun q h => by rw [← hAe]; exact Or.inr h
  have I : q_I D vwCl A s.heap (q_ws 23 ad (cM ad cs σ)) s.heap [] := ⟨hP, hD, va_S.rf⟩
  obtain ⟨ls, hen, hl⟩ := q_entry (vs := [.ref (ad 0), .int p1]) (n := 2) (lv := [(0, .ref (ad 0)), (1, .int p1)]) (by intro v hv; simp only [List.mem_cons, List.not_mem_nil, or_false] at hv; rcases hv with rfl | rfl <;> first | rfl | exact q_cat) (Nat.le_of_ble_eq_true rfl) rfl
  rw [show entryFrame m args 2 = F0 m 0 ls [] from by rw [hargs]; exact hen m]
  have C0 : q_Cx "JobTerminalModel" b_Mo_echo 2 none w_Mo_echo D vwCl (tyL cs) NW p s m args meth c := ⟨hx, hb, hr, hml, hown, hts, hlocks, hK, hN⟩
  unfold f_Mo_echo at hf
  have hgo : ∀ (H : Heap) (locs : List Loc), q_I D vwCl A s.heap (q_ws 23 ad (cM ad cs σ)) H locs → W p l e ({ frames := 2, cells := 0, slots := 0, locals := 42 } : Room) s m args below meth c H locs 0 0 (MQ below (q_Qv D vwCl (q_ws 23 ad (cM ad cs res)) A) args s 0 0 A) (F0 m 0 ls []) := by
    intro H locs I
    refine lv_aload_n hx hb d_Mo_echo_0 rfl (q_at hl 0 rfl) ?_
    refine lv_iconst (v := 2) hx hb d_Mo_echo_1 (by decide) ?_
    obtain ⟨r1, e2, hf⟩ := q_bnd_some hf
    refine q_ki hA I (q_runV (C := "JobTerminalModel") (As := [.int 2]) (rest := []) ⟨hx, hb, hml, hown, hts⟩ (c_Mo_flagged (sz := H.size) e2) (cwV 1 hts (q_goodV mw382 mw383 mw384 mw385 mw366) rfl rfl rfl (by decide +kernel) ⟨Nat.le_of_ble_eq_true rfl, Nat.le_of_ble_eq_true rfl⟩) NW_ok hK hN I rfl (q_wsE (by decide) (a_M_Mo)) rfl (q_sz hl) rfl (Nat.le_of_ble_eq_true rfl) d_Mo_echo_2 ⟨Nat.zero_le _, Nat.zero_le _⟩) (fun H locs I => ?_)
    refine lv_if_ne (tgt := 9) hx hb d_Mo_echo_5 (by decide) (fun c3 => ?_) (fun c3 => ?_)
    · rw [if_neg c3] at hf
      refine lv_iload_n hx hb d_Mo_echo_9 rfl (q_at hl 1 rfl) ?_
      refine lv_bipush (v := 10) hx hb d_Mo_echo_10 (by decide) ?_
      refine lv_icmp_eq (tgt := 21) hx hb d_Mo_echo_12 (by decide) (fun c4 => ?_) (fun c4 => ?_)
      · rw [if_pos c4] at hf
        exact k_Mo_echo_21 C0 hA res r1.2 p1 hf H locs I ls (q_hsub hl [0, 1] rfl)
      · rw [if_neg c4] at hf
        refine lv_iload_n hx hb d_Mo_echo_15 rfl (q_at hl 1 rfl) ?_
        refine lv_bipush (v := 32) hx hb d_Mo_echo_16 (by decide) ?_
        refine lv_icmp_lt (tgt := 27) hx hb d_Mo_echo_18 (by decide) (fun c5 => ?_) (fun c5 => ?_)
        · rw [if_pos c5] at hf
          exact k_Mo_echo_27 C0 hA res r1.2 p1 hf H locs I ls (q_hsub hl [0, 1] rfl)
        · rw [if_neg c5] at hf
          exact k_Mo_echo_21 C0 hA res r1.2 p1 hf H locs I ls (q_hsub hl [0, 1] rfl)
    · rw [if_pos c3] at hf
      cases hf
      exact q_vret hx hb hr hlocks I d_Mo_echo_8
  exact hgo _ _ I
-- JobTerminalModel rubOut
def f_Mo_rubOut_69 (σ : q_St) : Option q_St := some σ
set_option maxHeartbeats 4000000 in
set_option maxRecDepth 100000 in
theorem k_Mo_rubOut_69 {p : Program} {l : Launch} {e : Env} {s : State} {m : MethodId} {args : Array Value} {below : List Frame} {meth : Method} {c : Code} {D : va_G} {A : Nat → Prop} {ad : Nat → Nat} {cs : Nat → ClassId} (C0 : q_Cx "JobTerminalModel" b_Mo_rubOut 3 none w_Mo_rubOut D vwCl (tyL cs) NW p s m args meth c) (hA : ∀ q, s.heap.size ≤ q → A q) (res : q_St) : ∀ (σ : q_St) , f_Mo_rubOut_69 σ  = some res → ∀ (H : Heap) (locs : List Loc), q_I D vwCl A s.heap (q_ws 23 ad (cM ad cs σ)) H locs → ∀ ls : Array Slot, q_has ls 3 [] → W p l e ({ frames := 2, cells := 0, slots := 0, locals := 42 } : Room) s m args below meth c H locs 0 0 (MQ below (q_Qv D vwCl (q_ws 23 ad (cM ad cs res)) A) args s 0 0 A) (F0 m 69 ls []) := by
  intro σ  hf H locs I ls hl
  unfold f_Mo_rubOut_69 at hf
  obtain ⟨hx, hb, hr, hml, hown, hts, hlocks, hK, hN⟩ := id C0
  have htg : ∀ w ∈ GW, w.before args s = true := fun w h => hts w (List.mem_cons_of_mem _ h)
  cases hf
  exact q_vret hx hb hr hlocks I d_Mo_rubOut_69
def f_Mo_rubOut_32 : Nat → q_St → Int32 → Int32 → Option q_St
  | 0, _, _, _ => none
  | n + 1, σ, x1, x2 => if x1 ≤ x2 then (f_Mo_rubOut_69 σ) else (q_bnd (f_Mo_flagged σ 2) (fun r4 => if r4.1 = 0 then (f_Mo_rubOut_69 r4.2) else (q_bnd (f_Mo_show r4.2 8) (fun r7 => q_bnd (f_Mo_show r7 32) (fun r9 => q_bnd (f_Mo_show r9 8) (fun r11 => f_Mo_rubOut_32 n r11 x1 (x2 + 1)))))))
set_option maxHeartbeats 4000000 in
set_option maxRecDepth 100000 in
theorem k_Mo_rubOut_32 {p : Program} {l : Launch} {e : Env} {s : State} {m : MethodId} {args : Array Value} {below : List Frame} {meth : Method} {c : Code} {D : va_G} {A : Nat → Prop} {ad : Nat → Nat} {cs : Nat → ClassId} (C0 : q_Cx "JobTerminalModel" b_Mo_rubOut 3 none w_Mo_rubOut D vwCl (tyL cs) NW p s m args meth c) (hA : ∀ q, s.heap.size ≤ q → A q) (res : q_St) : ∀ (n : Nat) (σ : q_St) (x1 : Int32) (x2 : Int32) , f_Mo_rubOut_32 n σ x1 x2 = some res → ∀ (H : Heap) (locs : List Loc), q_I D vwCl A s.heap (q_ws 23 ad (cM ad cs σ)) H locs → ∀ ls : Array Slot, q_has ls 3 [(0, .ref (ad 0)), (1, .int x1), (2, .int x2)] → W p l e ({ frames := 2, cells := 0, slots := 0, locals := 42 } : Room) s m args below meth c H locs 0 0 (MQ below (q_Qv D vwCl (q_ws 23 ad (cM ad cs res)) A) args s 0 0 A) (F0 m 32 ls []) := by
  intro n
  induction n with
  | zero => intro σ x1 x2 hf; cases hf
  | succ n ih =>
    intro σ x1 x2 hf H locs I ls hl
    have ih := ih
    rw [f_Mo_rubOut_32] at hf
    have C0 := C0
    obtain ⟨hx, hb, hr, hml, hown, hts, hlocks, hK, hN⟩ := id C0
    have htg : ∀ w ∈ GW, w.before args s = true := fun w h => hts w (List.mem_cons_of_mem _ h)
    refine lv_iload_n hx hb d_Mo_rubOut_32 rfl (q_at hl 2 rfl) ?_
    refine lv_iload_n hx hb d_Mo_rubOut_33 rfl (q_at hl 1 rfl) ?_
    refine lv_icmp_ge (tgt := 69) hx hb d_Mo_rubOut_34 (by decide) (fun c3 => ?_) (fun c3 => ?_)
    · rw [if_pos c3] at hf
      exact k_Mo_rubOut_69 C0 hA res σ hf H locs I ls (q_hsub hl [] rfl)
    · rw [if_neg c3] at hf
      refine lv_aload_n hx hb d_Mo_rubOut_37 rfl (q_at hl 0 rfl) ?_
      refine lv_iconst (v := 2) hx hb d_Mo_rubOut_38 (by decide) ?_
      obtain ⟨r4, e5, hf⟩ := q_bnd_some hf
      refine q_ki hA I (q_runV (C := "JobTerminalModel") (As := [.int 2]) (rest := []) ⟨hx, hb, hml, hown, hts⟩ (c_Mo_flagged (sz := H.size) e5) (cwV 1 hts (q_goodV mw382 mw383 mw384 mw385 mw366) rfl rfl rfl (by decide +kernel) ⟨Nat.le_of_ble_eq_true rfl, Nat.le_of_ble_eq_true rfl⟩) NW_ok hK hN I rfl (q_wsE (by decide) (a_M_Mo)) rfl (q_sz hl) rfl (Nat.le_of_ble_eq_true rfl) d_Mo_rubOut_39 ⟨Nat.zero_le _, Nat.zero_le _⟩) (fun H locs I => ?_)
      refine lv_if_eq (tgt := 69) hx hb d_Mo_rubOut_42 (by decide) (fun c6 => ?_) (fun c6 => ?_)
      · rw [if_pos c6] at hf
        exact k_Mo_rubOut_69 C0 hA res r4.2 hf H locs I ls (q_hsub hl [] rfl)
      · rw [if_neg c6] at hf
        refine lv_aload_n hx hb d_Mo_rubOut_45 rfl (q_at hl 0 rfl) ?_
        refine lv_bipush (v := 8) hx hb d_Mo_rubOut_46 (by decide) ?_
        obtain ⟨r7, e8, hf⟩ := q_bnd_some hf
        refine q_kv hA I (q_runV (C := "JobTerminalModel") (As := [.int 8]) (rest := []) ⟨hx, hb, hml, hown, hts⟩ (c_Mo_show (sz := H.size) e8) (cwV 1 hts (q_goodV mw390 mw391 mw392 mw393 mw366) rfl rfl rfl (by decide +kernel) ⟨Nat.le_of_ble_eq_true rfl, Nat.le_of_ble_eq_true rfl⟩) NW_ok hK hN I rfl (q_wsE (by decide) (a_M_Mo)) rfl (q_sz hl) rfl (Nat.le_of_ble_eq_true rfl) d_Mo_rubOut_48 ⟨Nat.zero_le _, Nat.zero_le _⟩) (fun H locs I => ?_)
        refine lv_aload_n hx hb d_Mo_rubOut_51 rfl (q_at hl 0 rfl) ?_
        refine lv_bipush (v := 32) hx hb d_Mo_rubOut_52 (by decide) ?_
        obtain ⟨r9, e10, hf⟩ := q_bnd_some hf
        refine q_kv hA I (q_runV (C := "JobTerminalModel") (As := [.int 32]) (rest := []) ⟨hx, hb, hml, hown, hts⟩ (c_Mo_show (sz := H.size) e10) (cwV 1 hts (q_goodV mw390 mw391 mw392 mw393 mw366) rfl rfl rfl (by decide +kernel) ⟨Nat.le_of_ble_eq_true rfl, Nat.le_of_ble_eq_true rfl⟩) NW_ok hK hN I rfl (q_wsE (by decide) (a_M_Mo)) rfl (q_sz hl) rfl (Nat.le_of_ble_eq_true rfl) d_Mo_rubOut_54 ⟨Nat.zero_le _, Nat.zero_le _⟩) (fun H locs I => ?_)
        refine lv_aload_n hx hb d_Mo_rubOut_57 rfl (q_at hl 0 rfl) ?_
        refine lv_bipush (v := 8) hx hb d_Mo_rubOut_58 (by decide) ?_
        obtain ⟨r11, e12, hf⟩ := q_bnd_some hf
        refine q_kv hA I (q_runV (C := "JobTerminalModel") (As := [.int 8]) (rest := []) ⟨hx, hb, hml, hown, hts⟩ (c_Mo_show (sz := H.size) e12) (cwV 1 hts (q_goodV mw390 mw391 mw392 mw393 mw366) rfl rfl rfl (by decide +kernel) ⟨Nat.le_of_ble_eq_true rfl, Nat.le_of_ble_eq_true rfl⟩) NW_ok hK hN I rfl (q_wsE (by decide) (a_M_Mo)) rfl (q_sz hl) rfl (Nat.le_of_ble_eq_true rfl) d_Mo_rubOut_60 ⟨Nat.zero_le _, Nat.zero_le _⟩) (fun H locs I => ?_)
        refine q_iinc (v := x2 + 1) (lv' := [(2, .int (x2 + 1)), (0, .ref (ad 0)), (1, .int x1)]) hx hb d_Mo_rubOut_63 hl (k := 2) rfl rfl (by decide) rfl (fun ls hl => ?_)
        refine lv_goto (tgt := 32) hx hb d_Mo_rubOut_66 (by decide) ?_
        exact ih r11 x1 (x2 + 1) hf H locs I ls (q_hsub hl [1, 2, 0] rfl)
def f_Mo_rubOut_29 (σ : q_St) (y0 : Int32) : Option q_St := f_Mo_rubOut_32 200 σ y0 0
set_option maxHeartbeats 4000000 in
set_option maxRecDepth 100000 in
theorem k_Mo_rubOut_29 {p : Program} {l : Launch} {e : Env} {s : State} {m : MethodId} {args : Array Value} {below : List Frame} {meth : Method} {c : Code} {D : va_G} {A : Nat → Prop} {ad : Nat → Nat} {cs : Nat → ClassId} (C0 : q_Cx "JobTerminalModel" b_Mo_rubOut 3 none w_Mo_rubOut D vwCl (tyL cs) NW p s m args meth c) (hA : ∀ q, s.heap.size ≤ q → A q) (res : q_St) : ∀ (σ : q_St) (y0 : Int32) , f_Mo_rubOut_29 σ y0 = some res → ∀ (H : Heap) (locs : List Loc), q_I D vwCl A s.heap (q_ws 23 ad (cM ad cs σ)) H locs → ∀ ls : Array Slot, q_has ls 3 [(0, .ref (ad 0))] → W p l e ({ frames := 2, cells := 0, slots := 0, locals := 42 } : Room) s m args below meth c H locs 0 0 (MQ below (q_Qv D vwCl (q_ws 23 ad (cM ad cs res)) A) args s 0 0 A) (F0 m 29 ls [.int y0]) := by
  intro σ y0 hf H locs I ls hl
  unfold f_Mo_rubOut_29 at hf
  obtain ⟨hx, hb, hr, hml, hown, hts, hlocks, hK, hN⟩ := id C0
  have htg : ∀ w ∈ GW, w.before args s = true := fun w h => hts w (List.mem_cons_of_mem _ h)
  refine q_istore_n (lv' := [(1, .int y0), (0, .ref (ad 0))]) hx hb d_Mo_rubOut_29 rfl hl (by decide) rfl (fun ls hl => ?_)
  refine lv_iconst (v := 0) hx hb d_Mo_rubOut_30 (by decide) ?_
  refine q_istore_n (lv' := [(2, .int 0), (1, .int y0), (0, .ref (ad 0))]) hx hb d_Mo_rubOut_31 rfl hl (by decide) rfl (fun ls hl => ?_)
  exact k_Mo_rubOut_32 C0 hA res 200 σ y0 0 hf H locs I ls (q_hsub hl [2, 1, 0] rfl)
def f_Mo_rubOut (σ : q_St) : Option q_St := q_grd (q_in ((q_up σ 44 0 ((σ 44 0) - 1)) 44 0) 20) (if 32 ≤ ((q_up σ 44 0 ((σ 44 0) - 1)) 19 ((q_up σ 44 0 ((σ 44 0) - 1)) 44 0).toNatClampNeg) then (f_Mo_rubOut_29 (q_up σ 44 0 ((σ 44 0) - 1)) 1) else (f_Mo_rubOut_29 (q_up σ 44 0 ((σ 44 0) - 1)) 2))
set_option maxHeartbeats 4000000 in
set_option maxRecDepth 100000 in
theorem c_Mo_rubOut {l : Launch} {D : va_G} {ad : Nat → Nat} {cs : Nat → ClassId} {sz : Nat} {σ : q_St} {res : q_St} (hf : f_Mo_rubOut σ  = some res) : Met l y_Mo_rubOut w_Mo_rubOut ({ frames := 2, cells := 0, slots := 0, locals := 42 } : Room) (q_Pre D vwCl (tyL cs) NW [.ref (ad 0)] (q_ws 23 ad (cM ad cs σ)) sz) (q_Qv D vwCl (q_ws 23 ad (cM ad cs res)) (va_A (q_ws 23 ad (cM ad cs σ)) sz)) 0 0 (va_A (q_ws 23 ad (cM ad cs σ)) sz) := by
  refine Met.ofW (cc := b_Mo_rubOut) (maxL := 3) (ret := none) (by decide) rfl ?_
  intro p e s m args below meth c s₁ B hml hv
  obtain ⟨hargs, hsz, hP, hK, hD0, hN⟩ := hv
  have hx := B.exec
  have hb := B.bytes
  have hr := B.returns
  have hts := atoms_spec (ws := w_Mo_rubOut) B.pre
  have hown : s.vm.findClass "JobTerminalModel" = some m.cls := findClass_of_methodNamed B.named
  have hlocks := B.notSynchronized
  have htg : ∀ w ∈ GW, w.before args s = true := fun w h => hts w (List.mem_cons_of_mem _ h)
  subst hsz
  have hD := hD0.self (sz := s.heap.size)
  generalize hAe : va_A (q_ws 23 ad (cM ad cs σ)) s.heap.size = A at hD ⊢
  have hA : ∀ q : Nat, s.heap.size ≤ q → A q := fun q h => by rw [← hAe]; exact Or.inr h
  have I : q_I D vwCl A s.heap (q_ws 23 ad (cM ad cs σ)) s.heap [] := ⟨hP, hD, va_S.rf⟩
  obtain ⟨ls, hen, hl⟩ := q_entry (vs := [.ref (ad 0)]) (n := 3) (lv := [(0, .ref (ad 0))]) (by intro v hv; simp only [List.mem_cons, List.not_mem_nil, or_false] at hv; rcases hv with rfl <;> first | rfl | exact q_cat) (Nat.le_of_ble_eq_true rfl) rfl
  rw [show entryFrame m args 3 = F0 m 0 ls [] from by rw [hargs]; exact hen m]
  have C0 : q_Cx "JobTerminalModel" b_Mo_rubOut 3 none w_Mo_rubOut D vwCl (tyL cs) NW p s m args meth c := ⟨hx, hb, hr, hml, hown, hts, hlocks, hK, hN⟩
  unfold f_Mo_rubOut at hf
  have hgo : ∀ (H : Heap) (locs : List Loc), q_I D vwCl A s.heap (q_ws 23 ad (cM ad cs σ)) H locs → W p l e ({ frames := 2, cells := 0, slots := 0, locals := 42 } : Room) s m args below meth c H locs 0 0 (MQ below (q_Qv D vwCl (q_ws 23 ad (cM ad cs res)) A) args s 0 0 A) (F0 m 0 ls []) := by
    intro H locs I
    refine lv_aload_n hx hb d_Mo_rubOut_0 rfl (q_at hl 0 rfl) ?_
    refine lv_dup hx hb d_Mo_rubOut_1 rfl ?_
    refine G_Mo_Mo_edited hx hb htg hown hK hN I d_Mo_rubOut_2 ?_
    refine lv_iconst (v := 1) hx hb d_Mo_rubOut_5 (by decide) ?_
    refine lv_isub hx hb d_Mo_rubOut_6 ?_
    refine P_Mo_Mo_edited hx hb htg hown hK hN I d_Mo_rubOut_7 (fun H locs I => ?_)
    refine lv_aload_n hx hb d_Mo_rubOut_10 rfl (q_at hl 0 rfl) ?_
    refine G_Mo_Mo_edit hx hb htg hown hK hN I d_Mo_rubOut_11 ?_
    refine lv_aload_n hx hb d_Mo_rubOut_14 rfl (q_at hl 0 rfl) ?_
    refine G_Mo_Mo_edited hx hb htg hown hK hN I d_Mo_rubOut_15 ?_
    obtain ⟨o1, hf⟩ := q_grd_some hf
    refine A_M_edit hx hb hK I o1 d_Mo_rubOut_18 ?_
    refine lv_bipush (v := 32) hx hb d_Mo_rubOut_19 (by decide) ?_
    refine lv_icmp_ge (tgt := 28) hx hb d_Mo_rubOut_21 (by decide) (fun c2 => ?_) (fun c2 => ?_)
    · rw [if_pos c2] at hf
      refine lv_iconst (v := 1) hx hb d_Mo_rubOut_28 (by decide) ?_
      exact k_Mo_rubOut_29 C0 hA res (q_up σ 44 0 ((σ 44 0) - 1)) 1 hf H locs I ls (q_hsub hl [0] rfl)
    · rw [if_neg c2] at hf
      refine lv_iconst (v := 2) hx hb d_Mo_rubOut_24 (by decide) ?_
      refine lv_goto (tgt := 29) hx hb d_Mo_rubOut_25 (by decide) ?_
      exact k_Mo_rubOut_29 C0 hA res (q_up σ 44 0 ((σ 44 0) - 1)) 2 hf H locs I ls (q_hsub hl [0] rfl)
  exact hgo _ _ I
-- JobTerminalModel enter
def f_Mo_enter_89 (σ : q_St) : Option (Int32 × q_St) := some (1, σ)
set_option maxHeartbeats 4000000 in
set_option maxRecDepth 100000 in
theorem k_Mo_enter_89 {p : Program} {l : Launch} {e : Env} {s : State} {m : MethodId} {args : Array Value} {below : List Frame} {meth : Method} {c : Code} {D : va_G} {A : Nat → Prop} {ad : Nat → Nat} {cs : Nat → ClassId} (C0 : q_Cx "JobTerminalModel" b_Mo_enter 4 (some .boolean) w_Mo_enter D vwCl (tyL cs) NW p s m args meth c) (hA : ∀ q, s.heap.size ≤ q → A q) (res : (Int32 × q_St)) : ∀ (σ : q_St) , f_Mo_enter_89 σ  = some res → ∀ (H : Heap) (locs : List Loc), q_I D vwCl A s.heap (q_ws 23 ad (cM ad cs σ)) H locs → ∀ ls : Array Slot, q_has ls 4 [] → W p l e ({ frames := 0, cells := 0, slots := 0, locals := 0 } : Room) s m args below meth c H locs 0 0 (MQ below (q_Qi D vwCl res.1 (q_ws 23 ad (cM ad cs res.2)) A) args s 0 0 A) (F0 m 89 ls []) := by
  intro σ  hf H locs I ls hl
  unfold f_Mo_enter_89 at hf
  obtain ⟨hx, hb, hr, hml, hown, hts, hlocks, hK, hN⟩ := id C0
  have htg : ∀ w ∈ GW, w.before args s = true := fun w h => hts w (List.mem_cons_of_mem _ h)
  refine lv_iconst (v := 1) hx hb d_Mo_enter_89 (by decide) ?_
  cases hf
  exact q_zret (r0 := 1) hx hb hr hlocks (by decide) I d_Mo_enter_90
def f_Mo_enter_20 : Nat → q_St → Int32 → Int32 → Int32 → Option (Int32 × q_St)
  | 0, _, _, _, _ => none
  | n + 1, σ, x1, x2, x3 => if (σ 44 0) ≤ x3 then (if x1 = 1 then (q_grd (q_in ((q_up σ 44 0 0) 45 0) 40) (f_Mo_enter_89 (q_up (q_up (q_up σ 44 0 0) 20 ((q_up σ 44 0 0) 45 0).toNatClampNeg x2) 45 0 (((q_up (q_up σ 44 0 0) 20 ((q_up σ 44 0 0) 45 0).toNatClampNeg x2) 45 0) + 1)))) else (f_Mo_enter_89 (q_up σ 44 0 0))) else (q_grd (q_in x3 20) (q_grd (q_in (σ 45 0) 40) (f_Mo_enter_20 n (q_up (q_up σ 20 (σ 45 0).toNatClampNeg (σ 19 x3.toNatClampNeg)) 45 0 (((q_up σ 20 (σ 45 0).toNatClampNeg (σ 19 x3.toNatClampNeg)) 45 0) + 1)) x1 x2 (x3 + 1))))
set_option maxHeartbeats 4000000 in
set_option maxRecDepth 100000 in
theorem k_Mo_enter_20 {p : Program} {l : Launch} {e : Env} {s : State} {m : MethodId} {args : Array Value} {below : List Frame} {meth : Method} {c : Code} {D : va_G} {A : Nat → Prop} {ad : Nat → Nat} {cs : Nat → ClassId} (C0 : q_Cx "JobTerminalModel" b_Mo_enter 4 (some .boolean) w_Mo_enter D vwCl (tyL cs) NW p s m args meth c) (hA : ∀ q, s.heap.size ≤ q → A q) (res : (Int32 × q_St)) : ∀ (n : Nat) (σ : q_St) (x1 : Int32) (x2 : Int32) (x3 : Int32) , f_Mo_enter_20 n σ x1 x2 x3 = some res → ∀ (H : Heap) (locs : List Loc), q_I D vwCl A s.heap (q_ws 23 ad (cM ad cs σ)) H locs → ∀ ls : Array Slot, q_has ls 4 [(0, .ref (ad 0)), (1, .int x1), (2, .int x2), (3, .int x3)] → W p l e ({ frames := 0, cells := 0, slots := 0, locals := 0 } : Room) s m args below meth c H locs 0 0 (MQ below (q_Qi D vwCl res.1 (q_ws 23 ad (cM ad cs res.2)) A) args s 0 0 A) (F0 m 20 ls []) := by
  intro n
  induction n with
  | zero => intro σ x1 x2 x3 hf; cases hf
  | succ n ih =>
    intro σ x1 x2 x3 hf H locs I ls hl
    have ih := ih
    rw [f_Mo_enter_20] at hf
    have C0 := C0
    obtain ⟨hx, hb, hr, hml, hown, hts, hlocks, hK, hN⟩ := id C0
    have htg : ∀ w ∈ GW, w.before args s = true := fun w h => hts w (List.mem_cons_of_mem _ h)
    refine lv_iload_n hx hb d_Mo_enter_20 rfl (q_at hl 3 rfl) ?_
    refine lv_aload_n hx hb d_Mo_enter_21 rfl (q_at hl 0 rfl) ?_
    refine G_Mo_Mo_edited hx hb htg hown hK hN I d_Mo_enter_22 ?_
    refine lv_icmp_ge (tgt := 59) hx hb d_Mo_enter_25 (by decide) (fun c2 => ?_) (fun c2 => ?_)
    · rw [if_pos c2] at hf
      refine lv_aload_n hx hb d_Mo_enter_59 rfl (q_at hl 0 rfl) ?_
      refine lv_iconst (v := 0) hx hb d_Mo_enter_60 (by decide) ?_
      refine P_Mo_Mo_edited hx hb htg hown hK hN I d_Mo_enter_61 (fun H locs I => ?_)
      refine lv_iload_n hx hb d_Mo_enter_64 rfl (q_at hl 1 rfl) ?_
      refine lv_iconst (v := 1) hx hb d_Mo_enter_65 (by decide) ?_
      refine lv_icmp_ne (tgt := 89) hx hb d_Mo_enter_66 (by decide) (fun c3 => ?_) (fun c3 => ?_)
      · rw [if_neg c3] at hf
        exact k_Mo_enter_89 C0 hA res (q_up σ 44 0 0) hf H locs I ls (q_hsub hl [] rfl)
      · rw [if_pos c3] at hf
        refine lv_aload_n hx hb d_Mo_enter_69 rfl (q_at hl 0 rfl) ?_
        refine G_Mo_Mo_queue hx hb htg hown hK hN I d_Mo_enter_70 ?_
        refine lv_aload_n hx hb d_Mo_enter_73 rfl (q_at hl 0 rfl) ?_
        refine G_Mo_Mo_queued hx hb htg hown hK hN I d_Mo_enter_74 ?_
        refine lv_iload_n hx hb d_Mo_enter_77 rfl (q_at hl 2 rfl) ?_
        obtain ⟨o4, hf⟩ := q_grd_some hf
        refine T_M_queue hx hb hK I o4 d_Mo_enter_78 (fun H locs I => ?_)
        refine lv_aload_n hx hb d_Mo_enter_79 rfl (q_at hl 0 rfl) ?_
        refine lv_dup hx hb d_Mo_enter_80 rfl ?_
        refine G_Mo_Mo_queued hx hb htg hown hK hN I d_Mo_enter_81 ?_
        refine lv_iconst (v := 1) hx hb d_Mo_enter_84 (by decide) ?_
        refine lv_iadd hx hb d_Mo_enter_85 ?_
        refine P_Mo_Mo_queued hx hb htg hown hK hN I d_Mo_enter_86 (fun H locs I => ?_)
        exact k_Mo_enter_89 C0 hA res (q_up (q_up (q_up σ 44 0 0) 20 ((q_up σ 44 0 0) 45 0).toNatClampNeg x2) 45 0 (((q_up (q_up σ 44 0 0) 20 ((q_up σ 44 0 0) 45 0).toNatClampNeg x2) 45 0) + 1)) hf H locs I ls (q_hsub hl [] rfl)
    · rw [if_neg c2] at hf
      refine lv_aload_n hx hb d_Mo_enter_28 rfl (q_at hl 0 rfl) ?_
      refine G_Mo_Mo_queue hx hb htg hown hK hN I d_Mo_enter_29 ?_
      refine lv_aload_n hx hb d_Mo_enter_32 rfl (q_at hl 0 rfl) ?_
      refine G_Mo_Mo_queued hx hb htg hown hK hN I d_Mo_enter_33 ?_
      refine lv_aload_n hx hb d_Mo_enter_36 rfl (q_at hl 0 rfl) ?_
      refine G_Mo_Mo_edit hx hb htg hown hK hN I d_Mo_enter_37 ?_
      refine lv_iload_n hx hb d_Mo_enter_40 rfl (q_at hl 3 rfl) ?_
      obtain ⟨o5, hf⟩ := q_grd_some hf
      refine A_M_edit hx hb hK I o5 d_Mo_enter_41 ?_
      obtain ⟨o6, hf⟩ := q_grd_some hf
      refine T_M_queue hx hb hK I o6 d_Mo_enter_42 (fun H locs I => ?_)
      refine lv_aload_n hx hb d_Mo_enter_43 rfl (q_at hl 0 rfl) ?_
      refine lv_dup hx hb d_Mo_enter_44 rfl ?_
      refine G_Mo_Mo_queued hx hb htg hown hK hN I d_Mo_enter_45 ?_
      refine lv_iconst (v := 1) hx hb d_Mo_enter_48 (by decide) ?_
      refine lv_iadd hx hb d_Mo_enter_49 ?_
      refine P_Mo_Mo_queued hx hb htg hown hK hN I d_Mo_enter_50 (fun H locs I => ?_)
      refine q_iinc (v := x3 + 1) (lv' := [(3, .int (x3 + 1)), (0, .ref (ad 0)), (1, .int x1), (2, .int x2)]) hx hb d_Mo_enter_53 hl (k := 3) rfl rfl (by decide) rfl (fun ls hl => ?_)
      refine lv_goto (tgt := 20) hx hb d_Mo_enter_56 (by decide) ?_
      exact ih (q_up (q_up σ 20 (σ 45 0).toNatClampNeg (σ 19 x3.toNatClampNeg)) 45 0 (((q_up σ 20 (σ 45 0).toNatClampNeg (σ 19 x3.toNatClampNeg)) 45 0) + 1)) x1 x2 (x3 + 1) hf H locs I ls (q_hsub hl [1, 2, 3, 0] rfl)
def f_Mo_enter (σ : q_St) (p1 : Int32) (p2 : Int32) : Option (Int32 × q_St) := if (((σ 45 0) + (σ 44 0)) + p1) ≤ 40 then (f_Mo_enter_20 200 σ p1 p2 0) else (some (0, σ))
set_option maxHeartbeats 4000000 in
set_option maxRecDepth 100000 in
theorem c_Mo_enter {l : Launch} {D : va_G} {ad : Nat → Nat} {cs : Nat → ClassId} {sz : Nat} {σ : q_St} {p1 : Int32} {p2 : Int32} {res : (Int32 × q_St)} (hf : f_Mo_enter σ p1 p2 = some res) : Met l y_Mo_enter w_Mo_enter ({ frames := 0, cells := 0, slots := 0, locals := 0 } : Room) (q_Pre D vwCl (tyL cs) NW [.ref (ad 0), .int p1, .int p2] (q_ws 23 ad (cM ad cs σ)) sz) (q_Qi D vwCl res.1 (q_ws 23 ad (cM ad cs res.2)) (va_A (q_ws 23 ad (cM ad cs σ)) sz)) 0 0 (va_A (q_ws 23 ad (cM ad cs σ)) sz) := by
  refine Met.ofW (cc := b_Mo_enter) (maxL := 4) (ret := (some .boolean)) (by decide) rfl ?_
  intro p e s m args below meth c s₁ B hml hv
  obtain ⟨hargs, hsz, hP, hK, hD0, hN⟩ := hv
  have hx := B.exec
  have hb := B.bytes
  have hr := B.returns
  have hts := atoms_spec (ws := w_Mo_enter) B.pre
  have hown : s.vm.findClass "JobTerminalModel" = some m.cls := findClass_of_methodNamed B.named
  have hlocks := B.notSynchronized
  have htg : ∀ w ∈ GW, w.before args s = true := fun w h => hts w (List.mem_cons_of_mem _ h)
  subst hsz
  have hD := hD0.self (sz := s.heap.size)
  generalize hAe : va_A (q_ws 23 ad (cM ad cs σ)) s.heap.size = A at hD ⊢
  have hA : ∀ q : Nat, s.heap.size ≤ q → A q := fun q h => by rw [← hAe]; exact Or.inr h
  have I : q_I D vwCl A s.heap (q_ws 23 ad (cM ad cs σ)) s.heap [] := ⟨hP, hD, va_S.rf⟩
  obtain ⟨ls, hen, hl⟩ := q_entry (vs := [.ref (ad 0), .int p1, .int p2]) (n := 4) (lv := [(0, .ref (ad 0)), (1, .int p1), (2, .int p2)]) (by intro v hv; simp only [List.mem_cons, List.not_mem_nil, or_false] at hv; rcases hv with rfl | rfl | rfl <;> first | rfl | exact q_cat) (Nat.le_of_ble_eq_true rfl) rfl
  rw [show entryFrame m args 4 = F0 m 0 ls [] from by rw [hargs]; exact hen m]
  have C0 : q_Cx "JobTerminalModel" b_Mo_enter 4 (some .boolean) w_Mo_enter D vwCl (tyL cs) NW p s m args meth c := ⟨hx, hb, hr, hml, hown, hts, hlocks, hK, hN⟩
  unfold f_Mo_enter at hf
  have hgo : ∀ (H : Heap) (locs : List Loc), q_I D vwCl A s.heap (q_ws 23 ad (cM ad cs σ)) H locs → W p l e ({ frames := 0, cells := 0, slots := 0, locals := 0 } : Room) s m args below meth c H locs 0 0 (MQ below (q_Qi D vwCl res.1 (q_ws 23 ad (cM ad cs res.2)) A) args s 0 0 A) (F0 m 0 ls []) := by
    intro H locs I
    refine lv_aload_n hx hb d_Mo_enter_0 rfl (q_at hl 0 rfl) ?_
    refine G_Mo_Mo_queued hx hb htg hown hK hN I d_Mo_enter_1 ?_
    refine lv_aload_n hx hb d_Mo_enter_4 rfl (q_at hl 0 rfl) ?_
    refine G_Mo_Mo_edited hx hb htg hown hK hN I d_Mo_enter_5 ?_
    refine lv_iadd hx hb d_Mo_enter_8 ?_
    refine lv_iload_n hx hb d_Mo_enter_9 rfl (q_at hl 1 rfl) ?_
    refine lv_iadd hx hb d_Mo_enter_10 ?_
    refine lv_bipush (v := 40) hx hb d_Mo_enter_11 (by decide) ?_
    refine lv_icmp_le (tgt := 18) hx hb d_Mo_enter_13 (by decide) (fun c1 => ?_) (fun c1 => ?_)
    · rw [if_pos c1] at hf
      refine lv_iconst (v := 0) hx hb d_Mo_enter_18 (by decide) ?_
      refine q_istore_n (lv' := [(3, .int 0), (0, .ref (ad 0)), (1, .int p1), (2, .int p2)]) hx hb d_Mo_enter_19 rfl hl (by decide) rfl (fun ls hl => ?_)
      exact k_Mo_enter_20 C0 hA res 200 σ p1 p2 0 hf H locs I ls (q_hsub hl [1, 2, 3, 0] rfl)
    · rw [if_neg c1] at hf
      refine lv_iconst (v := 0) hx hb d_Mo_enter_16 (by decide) ?_
      cases hf
      exact q_zret (r0 := 0) hx hb hr hlocks (by decide) I d_Mo_enter_17
  exact hgo _ _ I
-- JobTerminalModel keyOfLine
def f_Mo_keyOfLine_105 (σ : q_St) (x2 : Int32) : Option (Int32 × q_St) := q_grd (q_isB x2) (some (x2, σ))
set_option maxHeartbeats 4000000 in
set_option maxRecDepth 100000 in
theorem k_Mo_keyOfLine_105 {p : Program} {l : Launch} {e : Env} {s : State} {m : MethodId} {args : Array Value} {below : List Frame} {meth : Method} {c : Code} {D : va_G} {A : Nat → Prop} {ad : Nat → Nat} {cs : Nat → ClassId} (C0 : q_Cx "JobTerminalModel" b_Mo_keyOfLine 3 (some .boolean) w_Mo_keyOfLine D vwCl (tyL cs) NW p s m args meth c) (hA : ∀ q, s.heap.size ≤ q → A q) (res : (Int32 × q_St)) : ∀ (σ : q_St) (x2 : Int32) , f_Mo_keyOfLine_105 σ x2 = some res → ∀ (H : Heap) (locs : List Loc), q_I D vwCl A s.heap (q_ws 23 ad (cM ad cs σ)) H locs → ∀ ls : Array Slot, q_has ls 3 [(2, .int x2)] → W p l e ({ frames := 3, cells := 0, slots := 0, locals := 64 } : Room) s m args below meth c H locs 0 0 (MQ below (q_Qi D vwCl res.1 (q_ws 23 ad (cM ad cs res.2)) A) args s 0 0 A) (F0 m 105 ls []) := by
  intro σ x2 hf H locs I ls hl
  unfold f_Mo_keyOfLine_105 at hf
  obtain ⟨hx, hb, hr, hml, hown, hts, hlocks, hK, hN⟩ := id C0
  have htg : ∀ w ∈ GW, w.before args s = true := fun w h => hts w (List.mem_cons_of_mem _ h)
  refine lv_iload_n hx hb d_Mo_keyOfLine_105 rfl (q_at hl 0 rfl) ?_
  obtain ⟨o20, hf⟩ := q_grd_some hf
  cases hf
  exact q_zret hx hb hr hlocks o20 I d_Mo_keyOfLine_106
def f_Mo_keyOfLine_80 (σ : q_St) (y0 : Int32) : Option (Int32 × q_St) := q_grd (q_isB y0) (some (y0, σ))
set_option maxHeartbeats 4000000 in
set_option maxRecDepth 100000 in
theorem k_Mo_keyOfLine_80 {p : Program} {l : Launch} {e : Env} {s : State} {m : MethodId} {args : Array Value} {below : List Frame} {meth : Method} {c : Code} {D : va_G} {A : Nat → Prop} {ad : Nat → Nat} {cs : Nat → ClassId} (C0 : q_Cx "JobTerminalModel" b_Mo_keyOfLine 3 (some .boolean) w_Mo_keyOfLine D vwCl (tyL cs) NW p s m args meth c) (hA : ∀ q, s.heap.size ≤ q → A q) (res : (Int32 × q_St)) : ∀ (σ : q_St) (y0 : Int32) , f_Mo_keyOfLine_80 σ y0 = some res → ∀ (H : Heap) (locs : List Loc), q_I D vwCl A s.heap (q_ws 23 ad (cM ad cs σ)) H locs → ∀ ls : Array Slot, q_has ls 3 [] → W p l e ({ frames := 3, cells := 0, slots := 0, locals := 64 } : Room) s m args below meth c H locs 0 0 (MQ below (q_Qi D vwCl res.1 (q_ws 23 ad (cM ad cs res.2)) A) args s 0 0 A) (F0 m 80 ls [.int y0]) := by
  intro σ y0 hf H locs I ls hl
  unfold f_Mo_keyOfLine_80 at hf
  obtain ⟨hx, hb, hr, hml, hown, hts, hlocks, hK, hN⟩ := id C0
  have htg : ∀ w ∈ GW, w.before args s = true := fun w h => hts w (List.mem_cons_of_mem _ h)
  obtain ⟨o19, hf⟩ := q_grd_some hf
  cases hf
  exact q_zret hx hb hr hlocks o19 I d_Mo_keyOfLine_80
def f_Mo_keyOfLine_36 : Nat → q_St → Int32 → Option (Int32 × q_St)
  | 0, _, _ => none
  | n + 1, σ, x2 => if (σ 44 0) ≤ x2 then (some (1, σ)) else (q_bnd (f_Mo_rubOut σ) (fun r24 => f_Mo_keyOfLine_36 n r24 x2))
set_option maxHeartbeats 4000000 in
set_option maxRecDepth 100000 in
theorem k_Mo_keyOfLine_36 {p : Program} {l : Launch} {e : Env} {s : State} {m : MethodId} {args : Array Value} {below : List Frame} {meth : Method} {c : Code} {D : va_G} {A : Nat → Prop} {ad : Nat → Nat} {cs : Nat → ClassId} (C0 : q_Cx "JobTerminalModel" b_Mo_keyOfLine 3 (some .boolean) w_Mo_keyOfLine D vwCl (tyL cs) NW p s m args meth c) (hA : ∀ q, s.heap.size ≤ q → A q) (res : (Int32 × q_St)) : ∀ (n : Nat) (σ : q_St) (x2 : Int32) , f_Mo_keyOfLine_36 n σ x2 = some res → ∀ (H : Heap) (locs : List Loc), q_I D vwCl A s.heap (q_ws 23 ad (cM ad cs σ)) H locs → ∀ ls : Array Slot, q_has ls 3 [(0, .ref (ad 0)), (2, .int x2)] → W p l e ({ frames := 3, cells := 0, slots := 0, locals := 64 } : Room) s m args below meth c H locs 0 0 (MQ below (q_Qi D vwCl res.1 (q_ws 23 ad (cM ad cs res.2)) A) args s 0 0 A) (F0 m 36 ls []) := by
  intro n
  induction n with
  | zero => intro σ x2 hf; cases hf
  | succ n ih =>
    intro σ x2 hf H locs I ls hl
    have ih := ih
    rw [f_Mo_keyOfLine_36] at hf
    have C0 := C0
    obtain ⟨hx, hb, hr, hml, hown, hts, hlocks, hK, hN⟩ := id C0
    have htg : ∀ w ∈ GW, w.before args s = true := fun w h => hts w (List.mem_cons_of_mem _ h)
    refine lv_aload_n hx hb d_Mo_keyOfLine_36 rfl (q_at hl 0 rfl) ?_
    refine G_Mo_Mo_edited hx hb htg hown hK hN I d_Mo_keyOfLine_37 ?_
    refine lv_iload_n hx hb d_Mo_keyOfLine_40 rfl (q_at hl 1 rfl) ?_
    refine lv_icmp_le (tgt := 51) hx hb d_Mo_keyOfLine_41 (by decide) (fun c23 => ?_) (fun c23 => ?_)
    · rw [if_pos c23] at hf
      refine lv_iconst (v := 1) hx hb d_Mo_keyOfLine_51 (by decide) ?_
      cases hf
      exact q_zret (r0 := 1) hx hb hr hlocks (by decide) I d_Mo_keyOfLine_52
    · rw [if_neg c23] at hf
      refine lv_aload_n hx hb d_Mo_keyOfLine_44 rfl (q_at hl 0 rfl) ?_
      obtain ⟨r24, e25, hf⟩ := q_bnd_some hf
      refine q_kv hA I (q_runV (C := "JobTerminalModel") (As := []) (rest := []) ⟨hx, hb, hml, hown, hts⟩ (c_Mo_rubOut (sz := H.size) e25) (cwV 0 hts (q_goodV mw402 mw403 mw404 mw405 mw366) rfl rfl rfl (by decide +kernel) ⟨Nat.le_of_ble_eq_true rfl, Nat.le_of_ble_eq_true rfl⟩) NW_ok hK hN I rfl (q_wsE (by decide) (a_M_Mo)) rfl (q_sz hl) rfl (Nat.le_of_ble_eq_true rfl) d_Mo_keyOfLine_45 ⟨Nat.zero_le _, Nat.zero_le _⟩) (fun H locs I => ?_)
      refine lv_goto (tgt := 36) hx hb d_Mo_keyOfLine_48 (by decide) ?_
      exact ih r24 x2 hf H locs I ls (q_hsub hl [0, 1] rfl)
def f_Mo_keyOfLine_35 (σ : q_St) (y0 : Int32) : Option (Int32 × q_St) := f_Mo_keyOfLine_36 200 σ y0
set_option maxHeartbeats 4000000 in
set_option maxRecDepth 100000 in
theorem k_Mo_keyOfLine_35 {p : Program} {l : Launch} {e : Env} {s : State} {m : MethodId} {args : Array Value} {below : List Frame} {meth : Method} {c : Code} {D : va_G} {A : Nat → Prop} {ad : Nat → Nat} {cs : Nat → ClassId} (C0 : q_Cx "JobTerminalModel" b_Mo_keyOfLine 3 (some .boolean) w_Mo_keyOfLine D vwCl (tyL cs) NW p s m args meth c) (hA : ∀ q, s.heap.size ≤ q → A q) (res : (Int32 × q_St)) : ∀ (σ : q_St) (y0 : Int32) , f_Mo_keyOfLine_35 σ y0 = some res → ∀ (H : Heap) (locs : List Loc), q_I D vwCl A s.heap (q_ws 23 ad (cM ad cs σ)) H locs → ∀ ls : Array Slot, q_has ls 3 [(0, .ref (ad 0))] → W p l e ({ frames := 3, cells := 0, slots := 0, locals := 64 } : Room) s m args below meth c H locs 0 0 (MQ below (q_Qi D vwCl res.1 (q_ws 23 ad (cM ad cs res.2)) A) args s 0 0 A) (F0 m 35 ls [.int y0]) := by
  intro σ y0 hf H locs I ls hl
  unfold f_Mo_keyOfLine_35 at hf
  obtain ⟨hx, hb, hr, hml, hown, hts, hlocks, hK, hN⟩ := id C0
  have htg : ∀ w ∈ GW, w.before args s = true := fun w h => hts w (List.mem_cons_of_mem _ h)
  refine q_istore_n (lv' := [(2, .int y0), (0, .ref (ad 0))]) hx hb d_Mo_keyOfLine_35 rfl hl (by decide) rfl (fun ls hl => ?_)
  exact k_Mo_keyOfLine_36 C0 hA res 200 σ y0 hf H locs I ls (q_hsub hl [1, 0] rfl)
def f_Mo_keyOfLine_25 (σ : q_St) : Option (Int32 × q_St) := f_Mo_keyOfLine_35 σ 0
set_option maxHeartbeats 4000000 in
set_option maxRecDepth 100000 in
theorem k_Mo_keyOfLine_25 {p : Program} {l : Launch} {e : Env} {s : State} {m : MethodId} {args : Array Value} {below : List Frame} {meth : Method} {c : Code} {D : va_G} {A : Nat → Prop} {ad : Nat → Nat} {cs : Nat → ClassId} (C0 : q_Cx "JobTerminalModel" b_Mo_keyOfLine 3 (some .boolean) w_Mo_keyOfLine D vwCl (tyL cs) NW p s m args meth c) (hA : ∀ q, s.heap.size ≤ q → A q) (res : (Int32 × q_St)) : ∀ (σ : q_St) , f_Mo_keyOfLine_25 σ  = some res → ∀ (H : Heap) (locs : List Loc), q_I D vwCl A s.heap (q_ws 23 ad (cM ad cs σ)) H locs → ∀ ls : Array Slot, q_has ls 3 [(0, .ref (ad 0))] → W p l e ({ frames := 3, cells := 0, slots := 0, locals := 64 } : Room) s m args below meth c H locs 0 0 (MQ below (q_Qi D vwCl res.1 (q_ws 23 ad (cM ad cs res.2)) A) args s 0 0 A) (F0 m 25 ls []) := by
  intro σ  hf H locs I ls hl
  unfold f_Mo_keyOfLine_25 at hf
  obtain ⟨hx, hb, hr, hml, hown, hts, hlocks, hK, hN⟩ := id C0
  have htg : ∀ w ∈ GW, w.before args s = true := fun w h => hts w (List.mem_cons_of_mem _ h)
  refine lv_iconst (v := 0) hx hb d_Mo_keyOfLine_25 (by decide) ?_
  refine lv_goto (tgt := 35) hx hb d_Mo_keyOfLine_26 (by decide) ?_
  exact k_Mo_keyOfLine_35 C0 hA res σ 0 hf H locs I ls (q_hsub hl [0] rfl)
def f_Mo_keyOfLine_12 (σ : q_St) (x1 : Int32) : Option (Int32 × q_St) := if x1 = 21 then (f_Mo_keyOfLine_25 σ) else (if (σ 44 0) = 0 then (f_Mo_keyOfLine_25 σ) else (f_Mo_keyOfLine_35 σ ((σ 44 0) - 1)))
set_option maxHeartbeats 4000000 in
set_option maxRecDepth 100000 in
theorem k_Mo_keyOfLine_12 {p : Program} {l : Launch} {e : Env} {s : State} {m : MethodId} {args : Array Value} {below : List Frame} {meth : Method} {c : Code} {D : va_G} {A : Nat → Prop} {ad : Nat → Nat} {cs : Nat → ClassId} (C0 : q_Cx "JobTerminalModel" b_Mo_keyOfLine 3 (some .boolean) w_Mo_keyOfLine D vwCl (tyL cs) NW p s m args meth c) (hA : ∀ q, s.heap.size ≤ q → A q) (res : (Int32 × q_St)) : ∀ (σ : q_St) (x1 : Int32) , f_Mo_keyOfLine_12 σ x1 = some res → ∀ (H : Heap) (locs : List Loc), q_I D vwCl A s.heap (q_ws 23 ad (cM ad cs σ)) H locs → ∀ ls : Array Slot, q_has ls 3 [(0, .ref (ad 0)), (1, .int x1)] → W p l e ({ frames := 3, cells := 0, slots := 0, locals := 64 } : Room) s m args below meth c H locs 0 0 (MQ below (q_Qi D vwCl res.1 (q_ws 23 ad (cM ad cs res.2)) A) args s 0 0 A) (F0 m 12 ls []) := by
  intro σ x1 hf H locs I ls hl
  unfold f_Mo_keyOfLine_12 at hf
  obtain ⟨hx, hb, hr, hml, hown, hts, hlocks, hK, hN⟩ := id C0
  have htg : ∀ w ∈ GW, w.before args s = true := fun w h => hts w (List.mem_cons_of_mem _ h)
  refine lv_iload_n hx hb d_Mo_keyOfLine_12 rfl (q_at hl 1 rfl) ?_
  refine lv_bipush (v := 21) hx hb d_Mo_keyOfLine_13 (by decide) ?_
  refine lv_icmp_eq (tgt := 25) hx hb d_Mo_keyOfLine_15 (by decide) (fun c21 => ?_) (fun c21 => ?_)
  · rw [if_pos c21] at hf
    exact k_Mo_keyOfLine_25 C0 hA res σ hf H locs I ls (q_hsub hl [0] rfl)
  · rw [if_neg c21] at hf
    refine lv_aload_n hx hb d_Mo_keyOfLine_18 rfl (q_at hl 0 rfl) ?_
    refine G_Mo_Mo_edited hx hb htg hown hK hN I d_Mo_keyOfLine_19 ?_
    refine lv_if_ne (tgt := 29) hx hb d_Mo_keyOfLine_22 (by decide) (fun c22 => ?_) (fun c22 => ?_)
    · rw [if_neg c22] at hf
      refine lv_aload_n hx hb d_Mo_keyOfLine_29 rfl (q_at hl 0 rfl) ?_
      refine G_Mo_Mo_edited hx hb htg hown hK hN I d_Mo_keyOfLine_30 ?_
      refine lv_iconst (v := 1) hx hb d_Mo_keyOfLine_33 (by decide) ?_
      refine lv_isub hx hb d_Mo_keyOfLine_34 ?_
      exact k_Mo_keyOfLine_35 C0 hA res σ ((σ 44 0) - 1) hf H locs I ls (q_hsub hl [0] rfl)
    · rw [if_pos c22] at hf
      exact k_Mo_keyOfLine_25 C0 hA res σ hf H locs I ls (q_hsub hl [0] rfl)
def f_Mo_keyOfLine (σ : q_St) (p1 : Int32) : Option (Int32 × q_St) := if p1 = 127 then (f_Mo_keyOfLine_12 σ p1) else (if p1 = 21 then (f_Mo_keyOfLine_12 σ p1) else (if p1 = 4 then (if (σ 44 0) = 0 then (q_bnd (f_Mo_enter σ 1 (-1)) (fun r17 => f_Mo_keyOfLine_80 r17.2 r17.1)) else (q_bnd (f_Mo_enter σ 0 0) (fun r15 => f_Mo_keyOfLine_80 r15.2 r15.1))) else (if p1 = 10 then (q_bnd (f_Mo_enter σ 1 10) (fun r9 => if r9.1 = 0 then (f_Mo_keyOfLine_105 r9.2 r9.1) else (q_bnd (f_Mo_echo r9.2 10) (fun r12 => f_Mo_keyOfLine_105 r12 r9.1)))) else (if (σ 44 0) = 20 then (some (0, σ)) else (q_grd (q_in (σ 44 0) 20) (q_bnd (f_Mo_echo (q_up (q_up σ 19 (σ 44 0).toNatClampNeg p1) 44 0 (((q_up σ 19 (σ 44 0).toNatClampNeg p1) 44 0) + 1)) p1) (fun r7 => some (1, r7))))))))
set_option maxHeartbeats 4000000 in
set_option maxRecDepth 100000 in
theorem c_Mo_keyOfLine {l : Launch} {D : va_G} {ad : Nat → Nat} {cs : Nat → ClassId} {sz : Nat} {σ : q_St} {p1 : Int32} {res : (Int32 × q_St)} (hf : f_Mo_keyOfLine σ p1 = some res) : Met l y_Mo_keyOfLine w_Mo_keyOfLine ({ frames := 3, cells := 0, slots := 0, locals := 64 } : Room) (q_Pre D vwCl (tyL cs) NW [.ref (ad 0), .int p1] (q_ws 23 ad (cM ad cs σ)) sz) (q_Qi D vwCl res.1 (q_ws 23 ad (cM ad cs res.2)) (va_A (q_ws 23 ad (cM ad cs σ)) sz)) 0 0 (va_A (q_ws 23 ad (cM ad cs σ)) sz) := by
  refine Met.ofW (cc := b_Mo_keyOfLine) (maxL := 3) (ret := (some .boolean)) (by decide) rfl ?_
  intro p e s m args below meth c s₁ B hml hv
  obtain ⟨hargs, hsz, hP, hK, hD0, hN⟩ := hv
  have hx := B.exec
  have hb := B.bytes
  have hr := B.returns
  have hts := atoms_spec (ws := w_Mo_keyOfLine) B.pre
  have hown : s.vm.findClass "JobTerminalModel" = some m.cls := findClass_of_methodNamed B.named
  have hlocks := B.notSynchronized
  have htg : ∀ w ∈ GW, w.before args s = true := fun w h => hts w (List.mem_cons_of_mem _ h)
  subst hsz
  have hD := hD0.self (sz := s.heap.size)
  generalize hAe : va_A (q_ws 23 ad (cM ad cs σ)) s.heap.size = A at hD ⊢
  have hA : ∀ q : Nat, s.heap.size ≤ q → A q := fun q h => by rw [← hAe]; exact Or.inr h
  have I : q_I D vwCl A s.heap (q_ws 23 ad (cM ad cs σ)) s.heap [] := ⟨hP, hD, va_S.rf⟩
  obtain ⟨ls, hen, hl⟩ := q_entry (vs := [.ref (ad 0), .int p1]) (n := 3) (lv := [(0, .ref (ad 0)), (1, .int p1)]) (by intro v hv; simp only [List.mem_cons, List.not_mem_nil, or_false] at hv; rcases hv with rfl | rfl <;> first | rfl | exact q_cat) (Nat.le_of_ble_eq_true rfl) rfl
  rw [show entryFrame m args 3 = F0 m 0 ls [] from by rw [hargs]; exact hen m]
  have C0 : q_Cx "JobTerminalModel" b_Mo_keyOfLine 3 (some .boolean) w_Mo_keyOfLine D vwCl (tyL cs) NW p s m args meth c := ⟨hx, hb, hr, hml, hown, hts, hlocks, hK, hN⟩
  unfold f_Mo_keyOfLine at hf
  have hgo : ∀ (H : Heap) (locs : List Loc), q_I D vwCl A s.heap (q_ws 23 ad (cM ad cs σ)) H locs → W p l e ({ frames := 3, cells := 0, slots := 0, locals := 64 } : Room) s m args below meth c H locs 0 0 (MQ below (q_Qi D vwCl res.1 (q_ws 23 ad (cM ad cs res.2)) A) args s 0 0 A) (F0 m 0 ls []) := by
    intro H locs I
    refine lv_iload_n hx hb d_Mo_keyOfLine_0 rfl (q_at hl 1 rfl) ?_
    refine lv_bipush (v := 127) hx hb d_Mo_keyOfLine_1 (by decide) ?_
    refine lv_icmp_eq (tgt := 12) hx hb d_Mo_keyOfLine_3 (by decide) (fun c1 => ?_) (fun c1 => ?_)
    · rw [if_pos c1] at hf
      exact k_Mo_keyOfLine_12 C0 hA res σ p1 hf H locs I ls (q_hsub hl [0, 1] rfl)
    · rw [if_neg c1] at hf
      refine lv_iload_n hx hb d_Mo_keyOfLine_6 rfl (q_at hl 1 rfl) ?_
      refine lv_bipush (v := 21) hx hb d_Mo_keyOfLine_7 (by decide) ?_
      refine lv_icmp_ne (tgt := 53) hx hb d_Mo_keyOfLine_9 (by decide) (fun c2 => ?_) (fun c2 => ?_)
      · rw [if_neg c2] at hf
        refine lv_iload_n hx hb d_Mo_keyOfLine_53 rfl (q_at hl 1 rfl) ?_
        refine lv_iconst (v := 4) hx hb d_Mo_keyOfLine_54 (by decide) ?_
        refine lv_icmp_ne (tgt := 81) hx hb d_Mo_keyOfLine_55 (by decide) (fun c3 => ?_) (fun c3 => ?_)
        · rw [if_neg c3] at hf
          refine lv_iload_n hx hb d_Mo_keyOfLine_81 rfl (q_at hl 1 rfl) ?_
          refine lv_bipush (v := 10) hx hb d_Mo_keyOfLine_82 (by decide) ?_
          refine lv_icmp_ne (tgt := 107) hx hb d_Mo_keyOfLine_84 (by decide) (fun c4 => ?_) (fun c4 => ?_)
          · rw [if_neg c4] at hf
            refine lv_aload_n hx hb d_Mo_keyOfLine_107 rfl (q_at hl 0 rfl) ?_
            refine G_Mo_Mo_edited hx hb htg hown hK hN I d_Mo_keyOfLine_108 ?_
            refine lv_bipush (v := 20) hx hb d_Mo_keyOfLine_111 (by decide) ?_
            refine lv_icmp_ne (tgt := 118) hx hb d_Mo_keyOfLine_113 (by decide) (fun c5 => ?_) (fun c5 => ?_)
            · rw [if_neg c5] at hf
              refine lv_aload_n hx hb d_Mo_keyOfLine_118 rfl (q_at hl 0 rfl) ?_
              refine G_Mo_Mo_edit hx hb htg hown hK hN I d_Mo_keyOfLine_119 ?_
              refine lv_aload_n hx hb d_Mo_keyOfLine_122 rfl (q_at hl 0 rfl) ?_
              refine G_Mo_Mo_edited hx hb htg hown hK hN I d_Mo_keyOfLine_123 ?_
              refine lv_iload_n hx hb d_Mo_keyOfLine_126 rfl (q_at hl 1 rfl) ?_
              obtain ⟨o6, hf⟩ := q_grd_some hf
              refine T_M_edit hx hb hK I o6 d_Mo_keyOfLine_127 (fun H locs I => ?_)
              refine lv_aload_n hx hb d_Mo_keyOfLine_128 rfl (q_at hl 0 rfl) ?_
              refine lv_dup hx hb d_Mo_keyOfLine_129 rfl ?_
              refine G_Mo_Mo_edited hx hb htg hown hK hN I d_Mo_keyOfLine_130 ?_
              refine lv_iconst (v := 1) hx hb d_Mo_keyOfLine_133 (by decide) ?_
              refine lv_iadd hx hb d_Mo_keyOfLine_134 ?_
              refine P_Mo_Mo_edited hx hb htg hown hK hN I d_Mo_keyOfLine_135 (fun H locs I => ?_)
              refine lv_aload_n hx hb d_Mo_keyOfLine_138 rfl (q_at hl 0 rfl) ?_
              refine lv_iload_n hx hb d_Mo_keyOfLine_139 rfl (q_at hl 1 rfl) ?_
              obtain ⟨r7, e8, hf⟩ := q_bnd_some hf
              refine q_kv hA I (q_runV (C := "JobTerminalModel") (As := [.int p1]) (rest := []) ⟨hx, hb, hml, hown, hts⟩ (c_Mo_echo (sz := H.size) e8) (cwV 1 hts (q_goodV mw394 mw395 mw396 mw397 mw366) rfl rfl rfl (by decide +kernel) ⟨Nat.le_of_ble_eq_true rfl, Nat.le_of_ble_eq_true rfl⟩) NW_ok hK hN I rfl (q_wsE (by decide) (a_M_Mo)) rfl (q_sz hl) rfl (Nat.le_of_ble_eq_true rfl) d_Mo_keyOfLine_140 ⟨Nat.zero_le _, Nat.zero_le _⟩) (fun H locs I => ?_)
              refine lv_iconst (v := 1) hx hb d_Mo_keyOfLine_143 (by decide) ?_
              cases hf
              exact q_zret (r0 := 1) hx hb hr hlocks (by decide) I d_Mo_keyOfLine_144
            · rw [if_pos c5] at hf
              refine lv_iconst (v := 0) hx hb d_Mo_keyOfLine_116 (by decide) ?_
              cases hf
              exact q_zret (r0 := 0) hx hb hr hlocks (by decide) I d_Mo_keyOfLine_117
          · rw [if_pos c4] at hf
            refine lv_aload_n hx hb d_Mo_keyOfLine_87 rfl (q_at hl 0 rfl) ?_
            refine lv_iconst (v := 1) hx hb d_Mo_keyOfLine_88 (by decide) ?_
            refine lv_bipush (v := 10) hx hb d_Mo_keyOfLine_89 (by decide) ?_
            obtain ⟨r9, e10, hf⟩ := q_bnd_some hf
            refine q_ki hA I (q_runV (C := "JobTerminalModel") (As := [.int 1, .int 10]) (rest := []) ⟨hx, hb, hml, hown, hts⟩ (c_Mo_enter (sz := H.size) e10) (cwV 2 hts (q_goodV mw398 mw399 mw400 mw401 mw366) rfl rfl rfl (by decide +kernel) ⟨Nat.le_of_ble_eq_true rfl, Nat.le_of_ble_eq_true rfl⟩) NW_ok hK hN I rfl (q_wsE (by decide) (a_M_Mo)) rfl (q_sz hl) rfl (Nat.le_of_ble_eq_true rfl) d_Mo_keyOfLine_91 ⟨Nat.zero_le _, Nat.zero_le _⟩) (fun H locs I => ?_)
            refine q_istore_n (lv' := [(2, .int r9.1), (0, .ref (ad 0)), (1, .int p1)]) hx hb d_Mo_keyOfLine_94 rfl hl (by decide) rfl (fun ls hl => ?_)
            refine lv_iload_n hx hb d_Mo_keyOfLine_95 rfl (q_at hl 0 rfl) ?_
            refine lv_if_eq (tgt := 105) hx hb d_Mo_keyOfLine_96 (by decide) (fun c11 => ?_) (fun c11 => ?_)
            · rw [if_pos c11] at hf
              exact k_Mo_keyOfLine_105 C0 hA res r9.2 r9.1 hf H locs I ls (q_hsub hl [0] rfl)
            · rw [if_neg c11] at hf
              refine lv_aload_n hx hb d_Mo_keyOfLine_99 rfl (q_at hl 1 rfl) ?_
              refine lv_bipush (v := 10) hx hb d_Mo_keyOfLine_100 (by decide) ?_
              obtain ⟨r12, e13, hf⟩ := q_bnd_some hf
              refine q_kv hA I (q_runV (C := "JobTerminalModel") (As := [.int 10]) (rest := []) ⟨hx, hb, hml, hown, hts⟩ (c_Mo_echo (sz := H.size) e13) (cwV 1 hts (q_goodV mw394 mw395 mw396 mw397 mw366) rfl rfl rfl (by decide +kernel) ⟨Nat.le_of_ble_eq_true rfl, Nat.le_of_ble_eq_true rfl⟩) NW_ok hK hN I rfl (q_wsE (by decide) (a_M_Mo)) rfl (q_sz hl) rfl (Nat.le_of_ble_eq_true rfl) d_Mo_keyOfLine_102 ⟨Nat.zero_le _, Nat.zero_le _⟩) (fun H locs I => ?_)
              exact k_Mo_keyOfLine_105 C0 hA res r12 r9.1 hf H locs I ls (q_hsub hl [0] rfl)
        · rw [if_pos c3] at hf
          refine lv_aload_n hx hb d_Mo_keyOfLine_58 rfl (q_at hl 0 rfl) ?_
          refine G_Mo_Mo_edited hx hb htg hown hK hN I d_Mo_keyOfLine_59 ?_
          refine lv_if_ne (tgt := 74) hx hb d_Mo_keyOfLine_62 (by decide) (fun c14 => ?_) (fun c14 => ?_)
          · rw [if_neg c14] at hf
            refine lv_aload_n hx hb d_Mo_keyOfLine_74 rfl (q_at hl 0 rfl) ?_
            refine lv_iconst (v := 0) hx hb d_Mo_keyOfLine_75 (by decide) ?_
            refine lv_iconst (v := 0) hx hb d_Mo_keyOfLine_76 (by decide) ?_
            obtain ⟨r15, e16, hf⟩ := q_bnd_some hf
            refine q_ki hA I (q_runV (C := "JobTerminalModel") (As := [.int 0, .int 0]) (rest := []) ⟨hx, hb, hml, hown, hts⟩ (c_Mo_enter (sz := H.size) e16) (cwV 2 hts (q_goodV mw398 mw399 mw400 mw401 mw366) rfl rfl rfl (by decide +kernel) ⟨Nat.le_of_ble_eq_true rfl, Nat.le_of_ble_eq_true rfl⟩) NW_ok hK hN I rfl (q_wsE (by decide) (a_M_Mo)) rfl (q_sz hl) rfl (Nat.le_of_ble_eq_true rfl) d_Mo_keyOfLine_77 ⟨Nat.zero_le _, Nat.zero_le _⟩) (fun H locs I => ?_)
            exact k_Mo_keyOfLine_80 C0 hA res r15.2 r15.1 hf H locs I ls (q_hsub hl [] rfl)
          · rw [if_pos c14] at hf
            refine lv_aload_n hx hb d_Mo_keyOfLine_65 rfl (q_at hl 0 rfl) ?_
            refine lv_iconst (v := 1) hx hb d_Mo_keyOfLine_66 (by decide) ?_
            refine lv_iconst (v := -1) hx hb d_Mo_keyOfLine_67 (by decide) ?_
            obtain ⟨r17, e18, hf⟩ := q_bnd_some hf
            refine q_ki hA I (q_runV (C := "JobTerminalModel") (As := [.int 1, .int (-1)]) (rest := []) ⟨hx, hb, hml, hown, hts⟩ (c_Mo_enter (sz := H.size) e18) (cwV 2 hts (q_goodV mw398 mw399 mw400 mw401 mw366) rfl rfl rfl (by decide +kernel) ⟨Nat.le_of_ble_eq_true rfl, Nat.le_of_ble_eq_true rfl⟩) NW_ok hK hN I rfl (q_wsE (by decide) (a_M_Mo)) rfl (q_sz hl) rfl (Nat.le_of_ble_eq_true rfl) d_Mo_keyOfLine_68 ⟨Nat.zero_le _, Nat.zero_le _⟩) (fun H locs I => ?_)
            refine lv_goto (tgt := 80) hx hb d_Mo_keyOfLine_71 (by decide) ?_
            exact k_Mo_keyOfLine_80 C0 hA res r17.2 r17.1 hf H locs I ls (q_hsub hl [] rfl)
      · rw [if_pos c2] at hf
        exact k_Mo_keyOfLine_12 C0 hA res σ p1 hf H locs I ls (q_hsub hl [0, 1] rfl)
  exact hgo _ _ I
-- JobTerminalModel key
def f_Mo_key_172 (σ : q_St) (x3 : Int32) : Option (Int32 × q_St) := q_bnd (f_Mo_compare σ) (fun r19 => q_grd (q_isB x3) (some (x3, r19)))
set_option maxHeartbeats 4000000 in
set_option maxRecDepth 100000 in
theorem k_Mo_key_172 {p : Program} {l : Launch} {e : Env} {s : State} {m : MethodId} {args : Array Value} {below : List Frame} {meth : Method} {c : Code} {D : va_G} {A : Nat → Prop} {ad : Nat → Nat} {cs : Nat → ClassId} (C0 : q_Cx "JobTerminalModel" b_Mo_key 4 (some .boolean) w_Mo_key D vwCl (tyL cs) NW p s m args meth c) (hA : ∀ q, s.heap.size ≤ q → A q) (res : (Int32 × q_St)) : ∀ (σ : q_St) (x3 : Int32) , f_Mo_key_172 σ x3 = some res → ∀ (H : Heap) (locs : List Loc), q_I D vwCl A s.heap (q_ws 23 ad (cM ad cs σ)) H locs → ∀ ls : Array Slot, q_has ls 4 [(0, .ref (ad 0)), (3, .int x3)] → W p l e ({ frames := 4, cells := 0, slots := 0, locals := 88 } : Room) s m args below meth c H locs 0 0 (MQ below (q_Qi D vwCl res.1 (q_ws 23 ad (cM ad cs res.2)) A) args s 0 0 A) (F0 m 172 ls []) := by
  intro σ x3 hf H locs I ls hl
  unfold f_Mo_key_172 at hf
  obtain ⟨hx, hb, hr, hml, hown, hts, hlocks, hK, hN⟩ := id C0
  have htg : ∀ w ∈ GW, w.before args s = true := fun w h => hts w (List.mem_cons_of_mem _ h)
  refine lv_aload_n hx hb d_Mo_key_172 rfl (q_at hl 0 rfl) ?_
  obtain ⟨r19, e20, hf⟩ := q_bnd_some hf
  refine q_kv hA I (q_runV (C := "JobTerminalModel") (As := []) (rest := []) ⟨hx, hb, hml, hown, hts⟩ (c_Mo_compare (sz := H.size) e20) (cwV 0 hts (q_goodV mw410 mw411 mw412 mw413 mw366) rfl rfl rfl (by decide +kernel) ⟨Nat.le_of_ble_eq_true rfl, Nat.le_of_ble_eq_true rfl⟩) NW_ok hK hN I rfl (q_wsE (by decide) (a_M_Mo)) rfl (q_sz hl) rfl (Nat.le_of_ble_eq_true rfl) d_Mo_key_173 ⟨Nat.zero_le _, Nat.zero_le _⟩) (fun H locs I => ?_)
  refine lv_iload_n hx hb d_Mo_key_176 rfl (q_at hl 1 rfl) ?_
  obtain ⟨o21, hf⟩ := q_grd_some hf
  cases hf
  exact q_zret hx hb hr hlocks o21 I d_Mo_key_177
def f_Mo_key_142 (σ : q_St) (x2 : Int32) (y0 : Int32) : Option (Int32 × q_St) := if y0 = 0 then (f_Mo_key_172 σ y0) else (q_grd (q_in (σ 45 0) 40) (q_bnd (f_Mo_echo (q_up (q_up σ 20 (σ 45 0).toNatClampNeg x2) 45 0 (((q_up σ 20 (σ 45 0).toNatClampNeg x2) 45 0) + 1)) x2) (fun r30 => f_Mo_key_172 r30 y0)))
set_option maxHeartbeats 4000000 in
set_option maxRecDepth 100000 in
theorem k_Mo_key_142 {p : Program} {l : Launch} {e : Env} {s : State} {m : MethodId} {args : Array Value} {below : List Frame} {meth : Method} {c : Code} {D : va_G} {A : Nat → Prop} {ad : Nat → Nat} {cs : Nat → ClassId} (C0 : q_Cx "JobTerminalModel" b_Mo_key 4 (some .boolean) w_Mo_key D vwCl (tyL cs) NW p s m args meth c) (hA : ∀ q, s.heap.size ≤ q → A q) (res : (Int32 × q_St)) : ∀ (σ : q_St) (x2 : Int32) (y0 : Int32) , f_Mo_key_142 σ x2 y0 = some res → ∀ (H : Heap) (locs : List Loc), q_I D vwCl A s.heap (q_ws 23 ad (cM ad cs σ)) H locs → ∀ ls : Array Slot, q_has ls 4 [(0, .ref (ad 0)), (2, .int x2)] → W p l e ({ frames := 4, cells := 0, slots := 0, locals := 88 } : Room) s m args below meth c H locs 0 0 (MQ below (q_Qi D vwCl res.1 (q_ws 23 ad (cM ad cs res.2)) A) args s 0 0 A) (F0 m 142 ls [.int y0]) := by
  intro σ x2 y0 hf H locs I ls hl
  unfold f_Mo_key_142 at hf
  obtain ⟨hx, hb, hr, hml, hown, hts, hlocks, hK, hN⟩ := id C0
  have htg : ∀ w ∈ GW, w.before args s = true := fun w h => hts w (List.mem_cons_of_mem _ h)
  refine q_istore_n (lv' := [(3, .int y0), (0, .ref (ad 0)), (2, .int x2)]) hx hb d_Mo_key_142 rfl hl (by decide) rfl (fun ls hl => ?_)
  refine lv_iload_n hx hb d_Mo_key_143 rfl (q_at hl 0 rfl) ?_
  refine lv_if_eq (tgt := 172) hx hb d_Mo_key_144 (by decide) (fun c28 => ?_) (fun c28 => ?_)
  · rw [if_pos c28] at hf
    exact k_Mo_key_172 C0 hA res σ y0 hf H locs I ls (q_hsub hl [1, 0] rfl)
  · rw [if_neg c28] at hf
    refine lv_aload_n hx hb d_Mo_key_147 rfl (q_at hl 1 rfl) ?_
    refine G_Mo_Mo_queue hx hb htg hown hK hN I d_Mo_key_148 ?_
    refine lv_aload_n hx hb d_Mo_key_151 rfl (q_at hl 1 rfl) ?_
    refine G_Mo_Mo_queued hx hb htg hown hK hN I d_Mo_key_152 ?_
    refine lv_iload_n hx hb d_Mo_key_155 rfl (q_at hl 2 rfl) ?_
    obtain ⟨o29, hf⟩ := q_grd_some hf
    refine T_M_queue hx hb hK I o29 d_Mo_key_156 (fun H locs I => ?_)
    refine lv_aload_n hx hb d_Mo_key_157 rfl (q_at hl 1 rfl) ?_
    refine lv_dup hx hb d_Mo_key_158 rfl ?_
    refine G_Mo_Mo_queued hx hb htg hown hK hN I d_Mo_key_159 ?_
    refine lv_iconst (v := 1) hx hb d_Mo_key_162 (by decide) ?_
    refine lv_iadd hx hb d_Mo_key_163 ?_
    refine P_Mo_Mo_queued hx hb htg hown hK hN I d_Mo_key_164 (fun H locs I => ?_)
    refine lv_aload_n hx hb d_Mo_key_167 rfl (q_at hl 1 rfl) ?_
    refine lv_iload_n hx hb d_Mo_key_168 rfl (q_at hl 2 rfl) ?_
    obtain ⟨r30, e31, hf⟩ := q_bnd_some hf
    refine q_kv hA I (q_runV (C := "JobTerminalModel") (As := [.int x2]) (rest := []) ⟨hx, hb, hml, hown, hts⟩ (c_Mo_echo (sz := H.size) e31) (cwV 1 hts (q_goodV mw394 mw395 mw396 mw397 mw366) rfl rfl rfl (by decide +kernel) ⟨Nat.le_of_ble_eq_true rfl, Nat.le_of_ble_eq_true rfl⟩) NW_ok hK hN I rfl (q_wsE (by decide) (a_M_Mo)) rfl (q_sz hl) rfl (Nat.le_of_ble_eq_true rfl) d_Mo_key_169 ⟨Nat.zero_le _, Nat.zero_le _⟩) (fun H locs I => ?_)
    exact k_Mo_key_172 C0 hA res r30 y0 hf H locs I ls (q_hsub hl [1, 0] rfl)
def f_Mo_key_111 (σ : q_St) (x2 : Int32) : Option (Int32 × q_St) := q_bnd (f_Mo_flagged σ 1) (fun r22 => if r22.1 = 0 then (if 40 ≤ (r22.2 45 0) then (f_Mo_key_142 r22.2 x2 0) else (f_Mo_key_142 r22.2 x2 1)) else (q_bnd (f_Mo_keyOfLine r22.2 x2) (fun r26 => f_Mo_key_172 r26.2 r26.1)))
set_option maxHeartbeats 4000000 in
set_option maxRecDepth 100000 in
theorem k_Mo_key_111 {p : Program} {l : Launch} {e : Env} {s : State} {m : MethodId} {args : Array Value} {below : List Frame} {meth : Method} {c : Code} {D : va_G} {A : Nat → Prop} {ad : Nat → Nat} {cs : Nat → ClassId} (C0 : q_Cx "JobTerminalModel" b_Mo_key 4 (some .boolean) w_Mo_key D vwCl (tyL cs) NW p s m args meth c) (hA : ∀ q, s.heap.size ≤ q → A q) (res : (Int32 × q_St)) : ∀ (σ : q_St) (x2 : Int32) , f_Mo_key_111 σ x2 = some res → ∀ (H : Heap) (locs : List Loc), q_I D vwCl A s.heap (q_ws 23 ad (cM ad cs σ)) H locs → ∀ ls : Array Slot, q_has ls 4 [(0, .ref (ad 0)), (2, .int x2)] → W p l e ({ frames := 4, cells := 0, slots := 0, locals := 88 } : Room) s m args below meth c H locs 0 0 (MQ below (q_Qi D vwCl res.1 (q_ws 23 ad (cM ad cs res.2)) A) args s 0 0 A) (F0 m 111 ls []) := by
  intro σ x2 hf H locs I ls hl
  unfold f_Mo_key_111 at hf
  obtain ⟨hx, hb, hr, hml, hown, hts, hlocks, hK, hN⟩ := id C0
  have htg : ∀ w ∈ GW, w.before args s = true := fun w h => hts w (List.mem_cons_of_mem _ h)
  refine lv_aload_n hx hb d_Mo_key_111 rfl (q_at hl 0 rfl) ?_
  refine lv_iconst (v := 1) hx hb d_Mo_key_112 (by decide) ?_
  obtain ⟨r22, e23, hf⟩ := q_bnd_some hf
  refine q_ki hA I (q_runV (C := "JobTerminalModel") (As := [.int 1]) (rest := []) ⟨hx, hb, hml, hown, hts⟩ (c_Mo_flagged (sz := H.size) e23) (cwV 1 hts (q_goodV mw382 mw383 mw384 mw385 mw366) rfl rfl rfl (by decide +kernel) ⟨Nat.le_of_ble_eq_true rfl, Nat.le_of_ble_eq_true rfl⟩) NW_ok hK hN I rfl (q_wsE (by decide) (a_M_Mo)) rfl (q_sz hl) rfl (Nat.le_of_ble_eq_true rfl) d_Mo_key_113 ⟨Nat.zero_le _, Nat.zero_le _⟩) (fun H locs I => ?_)
  refine lv_if_eq (tgt := 128) hx hb d_Mo_key_116 (by decide) (fun c24 => ?_) (fun c24 => ?_)
  · rw [if_pos c24] at hf
    refine lv_aload_n hx hb d_Mo_key_128 rfl (q_at hl 0 rfl) ?_
    refine G_Mo_Mo_queued hx hb htg hown hK hN I d_Mo_key_129 ?_
    refine lv_bipush (v := 40) hx hb d_Mo_key_132 (by decide) ?_
    refine lv_icmp_ge (tgt := 141) hx hb d_Mo_key_134 (by decide) (fun c25 => ?_) (fun c25 => ?_)
    · rw [if_pos c25] at hf
      refine lv_iconst (v := 0) hx hb d_Mo_key_141 (by decide) ?_
      exact k_Mo_key_142 C0 hA res r22.2 x2 0 hf H locs I ls (q_hsub hl [0, 1] rfl)
    · rw [if_neg c25] at hf
      refine lv_iconst (v := 1) hx hb d_Mo_key_137 (by decide) ?_
      refine lv_goto (tgt := 142) hx hb d_Mo_key_138 (by decide) ?_
      exact k_Mo_key_142 C0 hA res r22.2 x2 1 hf H locs I ls (q_hsub hl [0, 1] rfl)
  · rw [if_neg c24] at hf
    refine lv_aload_n hx hb d_Mo_key_119 rfl (q_at hl 0 rfl) ?_
    refine lv_iload_n hx hb d_Mo_key_120 rfl (q_at hl 1 rfl) ?_
    obtain ⟨r26, e27, hf⟩ := q_bnd_some hf
    refine q_ki hA I (q_runV (C := "JobTerminalModel") (As := [.int x2]) (rest := []) ⟨hx, hb, hml, hown, hts⟩ (c_Mo_keyOfLine (sz := H.size) e27) (cwV 1 hts (q_goodV mw414 mw415 mw416 mw417 mw366) rfl rfl rfl (by decide +kernel) ⟨Nat.le_of_ble_eq_true rfl, Nat.le_of_ble_eq_true rfl⟩) NW_ok hK hN I rfl (q_wsE (by decide) (a_M_Mo)) rfl (q_sz hl) rfl (Nat.le_of_ble_eq_true rfl) d_Mo_key_121 ⟨Nat.zero_le _, Nat.zero_le _⟩) (fun H locs I => ?_)
    refine q_istore_n (lv' := [(3, .int r26.1), (0, .ref (ad 0)), (2, .int x2)]) hx hb d_Mo_key_124 rfl hl (by decide) rfl (fun ls hl => ?_)
    refine lv_goto (tgt := 172) hx hb d_Mo_key_125 (by decide) ?_
    exact k_Mo_key_172 C0 hA res r26.2 r26.1 hf H locs I ls (q_hsub hl [1, 0] rfl)
def f_Mo_key_98 (σ : q_St) (x2 : Int32) (x3 : Int32) : Option (Int32 × q_St) := q_bnd (f_Mo_echo σ x2) (fun r17 => f_Mo_key_172 (q_up r17 44 0 0) x3)
set_option maxHeartbeats 4000000 in
set_option maxRecDepth 100000 in
theorem k_Mo_key_98 {p : Program} {l : Launch} {e : Env} {s : State} {m : MethodId} {args : Array Value} {below : List Frame} {meth : Method} {c : Code} {D : va_G} {A : Nat → Prop} {ad : Nat → Nat} {cs : Nat → ClassId} (C0 : q_Cx "JobTerminalModel" b_Mo_key 4 (some .boolean) w_Mo_key D vwCl (tyL cs) NW p s m args meth c) (hA : ∀ q, s.heap.size ≤ q → A q) (res : (Int32 × q_St)) : ∀ (σ : q_St) (x2 : Int32) (x3 : Int32) , f_Mo_key_98 σ x2 x3 = some res → ∀ (H : Heap) (locs : List Loc), q_I D vwCl A s.heap (q_ws 23 ad (cM ad cs σ)) H locs → ∀ ls : Array Slot, q_has ls 4 [(0, .ref (ad 0)), (2, .int x2), (3, .int x3)] → W p l e ({ frames := 4, cells := 0, slots := 0, locals := 88 } : Room) s m args below meth c H locs 0 0 (MQ below (q_Qi D vwCl res.1 (q_ws 23 ad (cM ad cs res.2)) A) args s 0 0 A) (F0 m 98 ls []) := by
  intro σ x2 x3 hf H locs I ls hl
  unfold f_Mo_key_98 at hf
  obtain ⟨hx, hb, hr, hml, hown, hts, hlocks, hK, hN⟩ := id C0
  have htg : ∀ w ∈ GW, w.before args s = true := fun w h => hts w (List.mem_cons_of_mem _ h)
  refine lv_aload_n hx hb d_Mo_key_98 rfl (q_at hl 0 rfl) ?_
  refine lv_iload_n hx hb d_Mo_key_99 rfl (q_at hl 1 rfl) ?_
  obtain ⟨r17, e18, hf⟩ := q_bnd_some hf
  refine q_kv hA I (q_runV (C := "JobTerminalModel") (As := [.int x2]) (rest := []) ⟨hx, hb, hml, hown, hts⟩ (c_Mo_echo (sz := H.size) e18) (cwV 1 hts (q_goodV mw394 mw395 mw396 mw397 mw366) rfl rfl rfl (by decide +kernel) ⟨Nat.le_of_ble_eq_true rfl, Nat.le_of_ble_eq_true rfl⟩) NW_ok hK hN I rfl (q_wsE (by decide) (a_M_Mo)) rfl (q_sz hl) rfl (Nat.le_of_ble_eq_true rfl) d_Mo_key_100 ⟨Nat.zero_le _, Nat.zero_le _⟩) (fun H locs I => ?_)
  refine lv_aload_n hx hb d_Mo_key_103 rfl (q_at hl 0 rfl) ?_
  refine lv_iconst (v := 0) hx hb d_Mo_key_104 (by decide) ?_
  refine P_Mo_Mo_edited hx hb htg hown hK hN I d_Mo_key_105 (fun H locs I => ?_)
  refine lv_goto (tgt := 172) hx hb d_Mo_key_108 (by decide) ?_
  exact k_Mo_key_172 C0 hA res (q_up r17 44 0 0) x3 hf H locs I ls (q_hsub hl [0, 2] rfl)
def f_Mo_key_95 (σ : q_St) (x2 : Int32) (x3 : Int32) (y0 : Int32) (y1 : Int32) : Option (Int32 × q_St) := q_bnd (f_Mo_sendJob σ y1 y0) (fun r15 => f_Mo_key_98 r15 x2 x3)
set_option maxHeartbeats 4000000 in
set_option maxRecDepth 100000 in
theorem k_Mo_key_95 {p : Program} {l : Launch} {e : Env} {s : State} {m : MethodId} {args : Array Value} {below : List Frame} {meth : Method} {c : Code} {D : va_G} {A : Nat → Prop} {ad : Nat → Nat} {cs : Nat → ClassId} (C0 : q_Cx "JobTerminalModel" b_Mo_key 4 (some .boolean) w_Mo_key D vwCl (tyL cs) NW p s m args meth c) (hA : ∀ q, s.heap.size ≤ q → A q) (res : (Int32 × q_St)) : ∀ (σ : q_St) (x2 : Int32) (x3 : Int32) (y0 : Int32) (y1 : Int32) , f_Mo_key_95 σ x2 x3 y0 y1 = some res → ∀ (H : Heap) (locs : List Loc), q_I D vwCl A s.heap (q_ws 23 ad (cM ad cs σ)) H locs → ∀ ls : Array Slot, q_has ls 4 [(0, .ref (ad 0)), (2, .int x2), (3, .int x3)] → W p l e ({ frames := 4, cells := 0, slots := 0, locals := 88 } : Room) s m args below meth c H locs 0 0 (MQ below (q_Qi D vwCl res.1 (q_ws 23 ad (cM ad cs res.2)) A) args s 0 0 A) (F0 m 95 ls [.int y0, .int y1, .ref (ad 0)]) := by
  intro σ x2 x3 y0 y1 hf H locs I ls hl
  unfold f_Mo_key_95 at hf
  obtain ⟨hx, hb, hr, hml, hown, hts, hlocks, hK, hN⟩ := id C0
  have htg : ∀ w ∈ GW, w.before args s = true := fun w h => hts w (List.mem_cons_of_mem _ h)
  obtain ⟨r15, e16, hf⟩ := q_bnd_some hf
  refine q_kv hA I (q_runV (C := "JobTerminalModel") (As := [.int y1, .int y0]) (rest := []) ⟨hx, hb, hml, hown, hts⟩ (c_Mo_sendJob (sz := H.size) e16) (cwV 2 hts (q_goodV mw406 mw407 mw408 mw409 mw366) rfl rfl rfl (by decide +kernel) ⟨Nat.le_of_ble_eq_true rfl, Nat.le_of_ble_eq_true rfl⟩) NW_ok hK hN I rfl (q_wsE (by decide) (a_M_Mo)) rfl (q_sz hl) rfl (Nat.le_of_ble_eq_true rfl) d_Mo_key_95 ⟨Nat.zero_le _, Nat.zero_le _⟩) (fun H locs I => ?_)
  exact k_Mo_key_98 C0 hA res r15 x2 x3 hf H locs I ls (q_hsub hl [0, 1, 2] rfl)
def f_Mo_key_62 (σ : q_St) (x2 : Int32) (x3 : Int32) : Option (Int32 × q_St) := if (σ 41 0) < 0 then (f_Mo_key_98 σ x2 x3) else (if x2 = 3 then (f_Mo_key_95 σ x2 x3 1 (σ 41 0)) else (if x2 = 28 then (f_Mo_key_95 σ x2 x3 2 (σ 41 0)) else (f_Mo_key_95 σ x2 x3 7 (σ 41 0))))
set_option maxHeartbeats 4000000 in
set_option maxRecDepth 100000 in
theorem k_Mo_key_62 {p : Program} {l : Launch} {e : Env} {s : State} {m : MethodId} {args : Array Value} {below : List Frame} {meth : Method} {c : Code} {D : va_G} {A : Nat → Prop} {ad : Nat → Nat} {cs : Nat → ClassId} (C0 : q_Cx "JobTerminalModel" b_Mo_key 4 (some .boolean) w_Mo_key D vwCl (tyL cs) NW p s m args meth c) (hA : ∀ q, s.heap.size ≤ q → A q) (res : (Int32 × q_St)) : ∀ (σ : q_St) (x2 : Int32) (x3 : Int32) , f_Mo_key_62 σ x2 x3 = some res → ∀ (H : Heap) (locs : List Loc), q_I D vwCl A s.heap (q_ws 23 ad (cM ad cs σ)) H locs → ∀ ls : Array Slot, q_has ls 4 [(0, .ref (ad 0)), (2, .int x2), (3, .int x3)] → W p l e ({ frames := 4, cells := 0, slots := 0, locals := 88 } : Room) s m args below meth c H locs 0 0 (MQ below (q_Qi D vwCl res.1 (q_ws 23 ad (cM ad cs res.2)) A) args s 0 0 A) (F0 m 62 ls []) := by
  intro σ x2 x3 hf H locs I ls hl
  unfold f_Mo_key_62 at hf
  obtain ⟨hx, hb, hr, hml, hown, hts, hlocks, hK, hN⟩ := id C0
  have htg : ∀ w ∈ GW, w.before args s = true := fun w h => hts w (List.mem_cons_of_mem _ h)
  refine lv_aload_n hx hb d_Mo_key_62 rfl (q_at hl 0 rfl) ?_
  refine G_Mo_Mo_front hx hb htg hown hK hN I d_Mo_key_63 ?_
  refine lv_if_lt (tgt := 98) hx hb d_Mo_key_66 (by decide) (fun c12 => ?_) (fun c12 => ?_)
  · rw [if_pos c12] at hf
    exact k_Mo_key_98 C0 hA res σ x2 x3 hf H locs I ls (q_hsub hl [0, 1, 2] rfl)
  · rw [if_neg c12] at hf
    refine lv_aload_n hx hb d_Mo_key_69 rfl (q_at hl 0 rfl) ?_
    refine lv_aload_n hx hb d_Mo_key_70 rfl (q_at hl 0 rfl) ?_
    refine G_Mo_Mo_front hx hb htg hown hK hN I d_Mo_key_71 ?_
    refine lv_iload_n hx hb d_Mo_key_74 rfl (q_at hl 1 rfl) ?_
    refine lv_iconst (v := 3) hx hb d_Mo_key_75 (by decide) ?_
    refine lv_icmp_ne (tgt := 83) hx hb d_Mo_key_76 (by decide) (fun c13 => ?_) (fun c13 => ?_)
    · rw [if_neg c13] at hf
      refine lv_iload_n hx hb d_Mo_key_83 rfl (q_at hl 1 rfl) ?_
      refine lv_bipush (v := 28) hx hb d_Mo_key_84 (by decide) ?_
      refine lv_icmp_ne (tgt := 93) hx hb d_Mo_key_86 (by decide) (fun c14 => ?_) (fun c14 => ?_)
      · rw [if_neg c14] at hf
        refine lv_bipush (v := 7) hx hb d_Mo_key_93 (by decide) ?_
        exact k_Mo_key_95 C0 hA res σ x2 x3 7 (σ 41 0) hf H locs I ls (q_hsub hl [0, 1, 2] rfl)
      · rw [if_pos c14] at hf
        refine lv_iconst (v := 2) hx hb d_Mo_key_89 (by decide) ?_
        refine lv_goto (tgt := 95) hx hb d_Mo_key_90 (by decide) ?_
        exact k_Mo_key_95 C0 hA res σ x2 x3 2 (σ 41 0) hf H locs I ls (q_hsub hl [0, 1, 2] rfl)
    · rw [if_pos c13] at hf
      refine lv_iconst (v := 1) hx hb d_Mo_key_79 (by decide) ?_
      refine lv_goto (tgt := 95) hx hb d_Mo_key_80 (by decide) ?_
      exact k_Mo_key_95 C0 hA res σ x2 x3 1 (σ 41 0) hf H locs I ls (q_hsub hl [0, 1, 2] rfl)
def f_Mo_key_34 (σ : q_St) (y0 : Int32) : Option (Int32 × q_St) := q_bnd (f_Mo_flagged σ 4) (fun r6 => if r6.1 = 0 then (f_Mo_key_111 r6.2 y0) else (if y0 = 3 then (f_Mo_key_62 r6.2 y0 1) else (if y0 = 28 then (f_Mo_key_62 r6.2 y0 1) else (if y0 = 26 then (f_Mo_key_62 r6.2 y0 1) else (f_Mo_key_111 r6.2 y0)))))
set_option maxHeartbeats 4000000 in
set_option maxRecDepth 100000 in
theorem k_Mo_key_34 {p : Program} {l : Launch} {e : Env} {s : State} {m : MethodId} {args : Array Value} {below : List Frame} {meth : Method} {c : Code} {D : va_G} {A : Nat → Prop} {ad : Nat → Nat} {cs : Nat → ClassId} (C0 : q_Cx "JobTerminalModel" b_Mo_key 4 (some .boolean) w_Mo_key D vwCl (tyL cs) NW p s m args meth c) (hA : ∀ q, s.heap.size ≤ q → A q) (res : (Int32 × q_St)) : ∀ (σ : q_St) (y0 : Int32) , f_Mo_key_34 σ y0 = some res → ∀ (H : Heap) (locs : List Loc), q_I D vwCl A s.heap (q_ws 23 ad (cM ad cs σ)) H locs → ∀ ls : Array Slot, q_has ls 4 [(0, .ref (ad 0))] → W p l e ({ frames := 4, cells := 0, slots := 0, locals := 88 } : Room) s m args below meth c H locs 0 0 (MQ below (q_Qi D vwCl res.1 (q_ws 23 ad (cM ad cs res.2)) A) args s 0 0 A) (F0 m 34 ls [.int y0]) := by
  intro σ y0 hf H locs I ls hl
  unfold f_Mo_key_34 at hf
  obtain ⟨hx, hb, hr, hml, hown, hts, hlocks, hK, hN⟩ := id C0
  have htg : ∀ w ∈ GW, w.before args s = true := fun w h => hts w (List.mem_cons_of_mem _ h)
  refine q_istore_n (lv' := [(2, .int y0), (0, .ref (ad 0))]) hx hb d_Mo_key_34 rfl hl (by decide) rfl (fun ls hl => ?_)
  refine lv_iconst (v := 1) hx hb d_Mo_key_35 (by decide) ?_
  refine q_istore_n (lv' := [(3, .int 1), (2, .int y0), (0, .ref (ad 0))]) hx hb d_Mo_key_36 rfl hl (by decide) rfl (fun ls hl => ?_)
  refine lv_aload_n hx hb d_Mo_key_37 rfl (q_at hl 2 rfl) ?_
  refine lv_iconst (v := 4) hx hb d_Mo_key_38 (by decide) ?_
  obtain ⟨r6, e7, hf⟩ := q_bnd_some hf
  refine q_ki hA I (q_runV (C := "JobTerminalModel") (As := [.int 4]) (rest := []) ⟨hx, hb, hml, hown, hts⟩ (c_Mo_flagged (sz := H.size) e7) (cwV 1 hts (q_goodV mw382 mw383 mw384 mw385 mw366) rfl rfl rfl (by decide +kernel) ⟨Nat.le_of_ble_eq_true rfl, Nat.le_of_ble_eq_true rfl⟩) NW_ok hK hN I rfl (q_wsE (by decide) (a_M_Mo)) rfl (q_sz hl) rfl (Nat.le_of_ble_eq_true rfl) d_Mo_key_39 ⟨Nat.zero_le _, Nat.zero_le _⟩) (fun H locs I => ?_)
  refine lv_if_eq (tgt := 111) hx hb d_Mo_key_42 (by decide) (fun c8 => ?_) (fun c8 => ?_)
  · rw [if_pos c8] at hf
    exact k_Mo_key_111 C0 hA res r6.2 y0 hf H locs I ls (q_hsub hl [2, 1] rfl)
  · rw [if_neg c8] at hf
    refine lv_iload_n hx hb d_Mo_key_45 rfl (q_at hl 1 rfl) ?_
    refine lv_iconst (v := 3) hx hb d_Mo_key_46 (by decide) ?_
    refine lv_icmp_eq (tgt := 62) hx hb d_Mo_key_47 (by decide) (fun c9 => ?_) (fun c9 => ?_)
    · rw [if_pos c9] at hf
      exact k_Mo_key_62 C0 hA res r6.2 y0 1 hf H locs I ls (q_hsub hl [2, 1, 0] rfl)
    · rw [if_neg c9] at hf
      refine lv_iload_n hx hb d_Mo_key_50 rfl (q_at hl 1 rfl) ?_
      refine lv_bipush (v := 28) hx hb d_Mo_key_51 (by decide) ?_
      refine lv_icmp_eq (tgt := 62) hx hb d_Mo_key_53 (by decide) (fun c10 => ?_) (fun c10 => ?_)
      · rw [if_pos c10] at hf
        exact k_Mo_key_62 C0 hA res r6.2 y0 1 hf H locs I ls (q_hsub hl [2, 1, 0] rfl)
      · rw [if_neg c10] at hf
        refine lv_iload_n hx hb d_Mo_key_56 rfl (q_at hl 1 rfl) ?_
        refine lv_bipush (v := 26) hx hb d_Mo_key_57 (by decide) ?_
        refine lv_icmp_ne (tgt := 111) hx hb d_Mo_key_59 (by decide) (fun c11 => ?_) (fun c11 => ?_)
        · rw [if_neg c11] at hf
          exact k_Mo_key_111 C0 hA res r6.2 y0 hf H locs I ls (q_hsub hl [2, 1] rfl)
        · rw [if_pos c11] at hf
          exact k_Mo_key_62 C0 hA res r6.2 y0 1 hf H locs I ls (q_hsub hl [2, 1, 0] rfl)
def f_Mo_key_33 (σ : q_St) (x1 : Int32) : Option (Int32 × q_St) := f_Mo_key_34 σ x1
set_option maxHeartbeats 4000000 in
set_option maxRecDepth 100000 in
theorem k_Mo_key_33 {p : Program} {l : Launch} {e : Env} {s : State} {m : MethodId} {args : Array Value} {below : List Frame} {meth : Method} {c : Code} {D : va_G} {A : Nat → Prop} {ad : Nat → Nat} {cs : Nat → ClassId} (C0 : q_Cx "JobTerminalModel" b_Mo_key 4 (some .boolean) w_Mo_key D vwCl (tyL cs) NW p s m args meth c) (hA : ∀ q, s.heap.size ≤ q → A q) (res : (Int32 × q_St)) : ∀ (σ : q_St) (x1 : Int32) , f_Mo_key_33 σ x1 = some res → ∀ (H : Heap) (locs : List Loc), q_I D vwCl A s.heap (q_ws 23 ad (cM ad cs σ)) H locs → ∀ ls : Array Slot, q_has ls 4 [(0, .ref (ad 0)), (1, .int x1)] → W p l e ({ frames := 4, cells := 0, slots := 0, locals := 88 } : Room) s m args below meth c H locs 0 0 (MQ below (q_Qi D vwCl res.1 (q_ws 23 ad (cM ad cs res.2)) A) args s 0 0 A) (F0 m 33 ls []) := by
  intro σ x1 hf H locs I ls hl
  unfold f_Mo_key_33 at hf
  obtain ⟨hx, hb, hr, hml, hown, hts, hlocks, hK, hN⟩ := id C0
  have htg : ∀ w ∈ GW, w.before args s = true := fun w h => hts w (List.mem_cons_of_mem _ h)
  refine lv_iload_n hx hb d_Mo_key_33 rfl (q_at hl 1 rfl) ?_
  exact k_Mo_key_34 C0 hA res σ x1 hf H locs I ls (q_hsub hl [0] rfl)
def f_Mo_key (σ : q_St) (p1 : Int32) : Option (Int32 × q_St) := if p1 ≤ 127 then (q_bnd (f_Mo_flagged (q_up σ 48 0 0) 8) (fun r2 => if r2.1 = 0 then (f_Mo_key_33 r2.2 p1) else (if p1 = 13 then (f_Mo_key_34 r2.2 10) else (f_Mo_key_33 r2.2 p1)))) else (some (0, q_up σ 48 0 0))
set_option maxHeartbeats 4000000 in
set_option maxRecDepth 100000 in
theorem c_Mo_key {l : Launch} {D : va_G} {ad : Nat → Nat} {cs : Nat → ClassId} {sz : Nat} {σ : q_St} {p1 : Int32} {res : (Int32 × q_St)} (hf : f_Mo_key σ p1 = some res) : Met l y_Mo_key w_Mo_key ({ frames := 4, cells := 0, slots := 0, locals := 88 } : Room) (q_Pre D vwCl (tyL cs) NW [.ref (ad 0), .int p1] (q_ws 23 ad (cM ad cs σ)) sz) (q_Qi D vwCl res.1 (q_ws 23 ad (cM ad cs res.2)) (va_A (q_ws 23 ad (cM ad cs σ)) sz)) 0 0 (va_A (q_ws 23 ad (cM ad cs σ)) sz) := by
  refine Met.ofW (cc := b_Mo_key) (maxL := 4) (ret := (some .boolean)) (by decide) rfl ?_
  intro p e s m args below meth c s₁ B hml hv
  obtain ⟨hargs, hsz, hP, hK, hD0, hN⟩ := hv
  have hx := B.exec
  have hb := B.bytes
  have hr := B.returns
  have hts := atoms_spec (ws := w_Mo_key) B.pre
  have hown : s.vm.findClass "JobTerminalModel" = some m.cls := findClass_of_methodNamed B.named
  have hlocks := B.notSynchronized
  have htg : ∀ w ∈ GW, w.before args s = true := fun w h => hts w (List.mem_cons_of_mem _ h)
  subst hsz
  have hD := hD0.self (sz := s.heap.size)
  generalize hAe : va_A (q_ws 23 ad (cM ad cs σ)) s.heap.size = A at hD ⊢
  have hA : ∀ q : Nat, s.heap.size ≤ q → A q := fun q h => by rw [← hAe]; exact Or.inr h
  have I : q_I D vwCl A s.heap (q_ws 23 ad (cM ad cs σ)) s.heap [] := ⟨hP, hD, va_S.rf⟩
  obtain ⟨ls, hen, hl⟩ := q_entry (vs := [.ref (ad 0), .int p1]) (n := 4) (lv := [(0, .ref (ad 0)), (1, .int p1)]) (by intro v hv; simp only [List.mem_cons, List.not_mem_nil, or_false] at hv; rcases hv with rfl | rfl <;> first | rfl | exact q_cat) (Nat.le_of_ble_eq_true rfl) rfl
  rw [show entryFrame m args 4 = F0 m 0 ls [] from by rw [hargs]; exact hen m]
  have C0 : q_Cx "JobTerminalModel" b_Mo_key 4 (some .boolean) w_Mo_key D vwCl (tyL cs) NW p s m args meth c := ⟨hx, hb, hr, hml, hown, hts, hlocks, hK, hN⟩
  unfold f_Mo_key at hf
  have hgo : ∀ (H : Heap) (locs : List Loc), q_I D vwCl A s.heap (q_ws 23 ad (cM ad cs σ)) H locs → W p l e ({ frames := 4, cells := 0, slots := 0, locals := 88 } : Room) s m args below meth c H locs 0 0 (MQ below (q_Qi D vwCl res.1 (q_ws 23 ad (cM ad cs res.2)) A) args s 0 0 A) (F0 m 0 ls []) := by
    intro H locs I
    refine lv_aload_n hx hb d_Mo_key_0 rfl (q_at hl 0 rfl) ?_
    refine lv_iconst (v := 0) hx hb d_Mo_key_1 (by decide) ?_
    refine P_Mo_Mo_code hx hb htg hown hK hN I d_Mo_key_2 (fun H locs I => ?_)
    refine lv_iload_n hx hb d_Mo_key_5 rfl (q_at hl 1 rfl) ?_
    refine lv_bipush (v := 127) hx hb d_Mo_key_6 (by decide) ?_
    refine lv_icmp_le (tgt := 13) hx hb d_Mo_key_8 (by decide) (fun c1 => ?_) (fun c1 => ?_)
    · rw [if_pos c1] at hf
      refine lv_aload_n hx hb d_Mo_key_13 rfl (q_at hl 0 rfl) ?_
      refine lv_bipush (v := 8) hx hb d_Mo_key_14 (by decide) ?_
      obtain ⟨r2, e3, hf⟩ := q_bnd_some hf
      refine q_ki hA I (q_runV (C := "JobTerminalModel") (As := [.int 8]) (rest := []) ⟨hx, hb, hml, hown, hts⟩ (c_Mo_flagged (sz := H.size) e3) (cwV 1 hts (q_goodV mw382 mw383 mw384 mw385 mw366) rfl rfl rfl (by decide +kernel) ⟨Nat.le_of_ble_eq_true rfl, Nat.le_of_ble_eq_true rfl⟩) NW_ok hK hN I rfl (q_wsE (by decide) (a_M_Mo)) rfl (q_sz hl) rfl (Nat.le_of_ble_eq_true rfl) d_Mo_key_16 ⟨Nat.zero_le _, Nat.zero_le _⟩) (fun H locs I => ?_)
      refine lv_if_eq (tgt := 33) hx hb d_Mo_key_19 (by decide) (fun c4 => ?_) (fun c4 => ?_)
      · rw [if_pos c4] at hf
        exact k_Mo_key_33 C0 hA res r2.2 p1 hf H locs I ls (q_hsub hl [0, 1] rfl)
      · rw [if_neg c4] at hf
        refine lv_iload_n hx hb d_Mo_key_22 rfl (q_at hl 1 rfl) ?_
        refine lv_bipush (v := 13) hx hb d_Mo_key_23 (by decide) ?_
        refine lv_icmp_ne (tgt := 33) hx hb d_Mo_key_25 (by decide) (fun c5 => ?_) (fun c5 => ?_)
        · rw [if_neg c5] at hf
          exact k_Mo_key_33 C0 hA res r2.2 p1 hf H locs I ls (q_hsub hl [0, 1] rfl)
        · rw [if_pos c5] at hf
          refine lv_bipush (v := 10) hx hb d_Mo_key_28 (by decide) ?_
          refine lv_goto (tgt := 34) hx hb d_Mo_key_30 (by decide) ?_
          exact k_Mo_key_34 C0 hA res r2.2 10 hf H locs I ls (q_hsub hl [0] rfl)
    · rw [if_neg c1] at hf
      refine lv_iconst (v := 0) hx hb d_Mo_key_11 (by decide) ?_
      cases hf
      exact q_zret (r0 := 0) hx hb hr hlocks (by decide) I d_Mo_key_12
  exact hgo _ _ I
-- JobTerminalModel flags
def f_Mo_flags_15 (σ : q_St) : Option (Int32 × q_St) := some (-1, σ)
set_option maxHeartbeats 4000000 in
set_option maxRecDepth 100000 in
theorem k_Mo_flags_15 {p : Program} {l : Launch} {e : Env} {s : State} {m : MethodId} {args : Array Value} {below : List Frame} {meth : Method} {c : Code} {D : va_G} {A : Nat → Prop} {ad : Nat → Nat} {cs : Nat → ClassId} (C0 : q_Cx "JobTerminalModel" b_Mo_flags 3 (some .int) w_Mo_flags D vwCl (tyL cs) NW p s m args meth c) (hA : ∀ q, s.heap.size ≤ q → A q) (res : (Int32 × q_St)) : ∀ (σ : q_St) , f_Mo_flags_15 σ  = some res → ∀ (H : Heap) (locs : List Loc), q_I D vwCl A s.heap (q_ws 23 ad (cM ad cs σ)) H locs → ∀ ls : Array Slot, q_has ls 3 [] → W p l e ({ frames := 0, cells := 0, slots := 0, locals := 0 } : Room) s m args below meth c H locs 0 0 (MQ below (q_Qi D vwCl res.1 (q_ws 23 ad (cM ad cs res.2)) A) args s 0 0 A) (F0 m 15 ls []) := by
  intro σ  hf H locs I ls hl
  unfold f_Mo_flags_15 at hf
  obtain ⟨hx, hb, hr, hml, hown, hts, hlocks, hK, hN⟩ := id C0
  have htg : ∀ w ∈ GW, w.before args s = true := fun w h => hts w (List.mem_cons_of_mem _ h)
  refine lv_iconst (v := -1) hx hb d_Mo_flags_15 (by decide) ?_
  cases hf
  exact q_iret hx hb hr hlocks I d_Mo_flags_16
def f_Mo_flags (σ : q_St) (p1 : Int32) : Option (Int32 × q_St) := if p1 < 0 then (f_Mo_flags_15 (q_up σ 48 0 0)) else (if p1 ≤ 63 then (some ((q_up σ 48 0 0) 42 0, q_up (q_up σ 48 0 0) 42 0 p1)) else (f_Mo_flags_15 (q_up σ 48 0 0)))
set_option maxHeartbeats 4000000 in
set_option maxRecDepth 100000 in
theorem c_Mo_flags {l : Launch} {D : va_G} {ad : Nat → Nat} {cs : Nat → ClassId} {sz : Nat} {σ : q_St} {p1 : Int32} {res : (Int32 × q_St)} (hf : f_Mo_flags σ p1 = some res) : Met l y_Mo_flags w_Mo_flags ({ frames := 0, cells := 0, slots := 0, locals := 0 } : Room) (q_Pre D vwCl (tyL cs) NW [.ref (ad 0), .int p1] (q_ws 23 ad (cM ad cs σ)) sz) (q_Qi D vwCl res.1 (q_ws 23 ad (cM ad cs res.2)) (va_A (q_ws 23 ad (cM ad cs σ)) sz)) 0 0 (va_A (q_ws 23 ad (cM ad cs σ)) sz) := by
  refine Met.ofW (cc := b_Mo_flags) (maxL := 3) (ret := (some .int)) (by decide) rfl ?_
  intro p e s m args below meth c s₁ B hml hv
  obtain ⟨hargs, hsz, hP, hK, hD0, hN⟩ := hv
  have hx := B.exec
  have hb := B.bytes
  have hr := B.returns
  have hts := atoms_spec (ws := w_Mo_flags) B.pre
  have hown : s.vm.findClass "JobTerminalModel" = some m.cls := findClass_of_methodNamed B.named
  have hlocks := B.notSynchronized
  have htg : ∀ w ∈ GW, w.before args s = true := fun w h => hts w (List.mem_cons_of_mem _ h)
  subst hsz
  have hD := hD0.self (sz := s.heap.size)
  generalize hAe : va_A (q_ws 23 ad (cM ad cs σ)) s.heap.size = A at hD ⊢
  have hA : ∀ q : Nat, s.heap.size ≤ q → A q := fun q h => by rw [← hAe]; exact Or.inr h
  have I : q_I D vwCl A s.heap (q_ws 23 ad (cM ad cs σ)) s.heap [] := ⟨hP, hD, va_S.rf⟩
  obtain ⟨ls, hen, hl⟩ := q_entry (vs := [.ref (ad 0), .int p1]) (n := 3) (lv := [(0, .ref (ad 0)), (1, .int p1)]) (by intro v hv; simp only [List.mem_cons, List.not_mem_nil, or_false] at hv; rcases hv with rfl | rfl <;> first | rfl | exact q_cat) (Nat.le_of_ble_eq_true rfl) rfl
  rw [show entryFrame m args 3 = F0 m 0 ls [] from by rw [hargs]; exact hen m]
  have C0 : q_Cx "JobTerminalModel" b_Mo_flags 3 (some .int) w_Mo_flags D vwCl (tyL cs) NW p s m args meth c := ⟨hx, hb, hr, hml, hown, hts, hlocks, hK, hN⟩
  unfold f_Mo_flags at hf
  have hgo : ∀ (H : Heap) (locs : List Loc), q_I D vwCl A s.heap (q_ws 23 ad (cM ad cs σ)) H locs → W p l e ({ frames := 0, cells := 0, slots := 0, locals := 0 } : Room) s m args below meth c H locs 0 0 (MQ below (q_Qi D vwCl res.1 (q_ws 23 ad (cM ad cs res.2)) A) args s 0 0 A) (F0 m 0 ls []) := by
    intro H locs I
    refine lv_aload_n hx hb d_Mo_flags_0 rfl (q_at hl 0 rfl) ?_
    refine lv_iconst (v := 0) hx hb d_Mo_flags_1 (by decide) ?_
    refine P_Mo_Mo_code hx hb htg hown hK hN I d_Mo_flags_2 (fun H locs I => ?_)
    refine lv_iload_n hx hb d_Mo_flags_5 rfl (q_at hl 1 rfl) ?_
    refine lv_if_lt (tgt := 15) hx hb d_Mo_flags_6 (by decide) (fun c1 => ?_) (fun c1 => ?_)
    · rw [if_pos c1] at hf
      exact k_Mo_flags_15 C0 hA res (q_up σ 48 0 0) hf H locs I ls (q_hsub hl [] rfl)
    · rw [if_neg c1] at hf
      refine lv_iload_n hx hb d_Mo_flags_9 rfl (q_at hl 1 rfl) ?_
      refine lv_bipush (v := 63) hx hb d_Mo_flags_10 (by decide) ?_
      refine lv_icmp_le (tgt := 17) hx hb d_Mo_flags_12 (by decide) (fun c2 => ?_) (fun c2 => ?_)
      · rw [if_pos c2] at hf
        refine lv_aload_n hx hb d_Mo_flags_17 rfl (q_at hl 0 rfl) ?_
        refine G_Mo_Mo_flag hx hb htg hown hK hN I d_Mo_flags_18 ?_
        refine q_istore_n (lv' := [(2, .int ((q_up σ 48 0 0) 42 0)), (0, .ref (ad 0)), (1, .int p1)]) hx hb d_Mo_flags_21 rfl hl (by decide) rfl (fun ls hl => ?_)
        refine lv_aload_n hx hb d_Mo_flags_22 rfl (q_at hl 1 rfl) ?_
        refine lv_iload_n hx hb d_Mo_flags_23 rfl (q_at hl 2 rfl) ?_
        refine P_Mo_Mo_flag hx hb htg hown hK hN I d_Mo_flags_24 (fun H locs I => ?_)
        refine lv_iload_n hx hb d_Mo_flags_27 rfl (q_at hl 0 rfl) ?_
        cases hf
        exact q_iret hx hb hr hlocks I d_Mo_flags_28
      · rw [if_neg c2] at hf
        exact k_Mo_flags_15 C0 hA res (q_up σ 48 0 0) hf H locs I ls (q_hsub hl [] rfl)
  exact hgo _ _ I
-- JobTerminalModel program
def f_Mo_program_24 (σ : q_St) : Option (Int32 × q_St) := some (0, σ)
set_option maxHeartbeats 4000000 in
set_option maxRecDepth 100000 in
theorem k_Mo_program_24 {p : Program} {l : Launch} {e : Env} {s : State} {m : MethodId} {args : Array Value} {below : List Frame} {meth : Method} {c : Code} {D : va_G} {A : Nat → Prop} {ad : Nat → Nat} {cs : Nat → ClassId} (C0 : q_Cx "JobTerminalModel" b_Mo_program 5 (some .boolean) w_Mo_program D vwCl (tyL cs) NW p s m args meth c) (hA : ∀ q, s.heap.size ≤ q → A q) (res : (Int32 × q_St)) : ∀ (σ : q_St) , f_Mo_program_24 σ  = some res → ∀ (H : Heap) (locs : List Loc), q_I D vwCl A s.heap (q_ws 23 ad (cM ad cs σ)) H locs → ∀ ls : Array Slot, q_has ls 5 [] → W p l e ({ frames := 0, cells := 0, slots := 0, locals := 0 } : Room) s m args below meth c H locs 0 0 (MQ below (q_Qi D vwCl res.1 (q_ws 23 ad (cM ad cs res.2)) A) args s 0 0 A) (F0 m 24 ls []) := by
  intro σ  hf H locs I ls hl
  unfold f_Mo_program_24 at hf
  obtain ⟨hx, hb, hr, hml, hown, hts, hlocks, hK, hN⟩ := id C0
  have htg : ∀ w ∈ GW, w.before args s = true := fun w h => hts w (List.mem_cons_of_mem _ h)
  refine lv_iconst (v := 0) hx hb d_Mo_program_24 (by decide) ?_
  cases hf
  exact q_zret (r0 := 0) hx hb hr hlocks (by decide) I d_Mo_program_25
def f_Mo_program (σ : q_St) (p1 : Int32) (p2 : Int32) (p3 : Int32) (p4 : Int32) : Option (Int32 × q_St) := if p1 < 0 then (f_Mo_program_24 (q_up σ 48 0 0)) else (if 3 < p1 then (f_Mo_program_24 (q_up σ 48 0 0)) else (if p2 < 0 then (f_Mo_program_24 (q_up σ 48 0 0)) else (if p2 ≤ 15 then (q_grd (q_in ((16 * p1) + p2) 64) (q_grd (q_in ((16 * p1) + p2) 64) (some (1, q_up (q_up (q_up σ 48 0 0) 0 ((16 * p1) + p2).toNatClampNeg p3) 1 ((16 * p1) + p2).toNatClampNeg p4)))) else (f_Mo_program_24 (q_up σ 48 0 0)))))
set_option maxHeartbeats 4000000 in
set_option maxRecDepth 100000 in
theorem c_Mo_program {l : Launch} {D : va_G} {ad : Nat → Nat} {cs : Nat → ClassId} {sz : Nat} {σ : q_St} {p1 : Int32} {p2 : Int32} {p3 : Int32} {p4 : Int32} {res : (Int32 × q_St)} (hf : f_Mo_program σ p1 p2 p3 p4 = some res) : Met l y_Mo_program w_Mo_program ({ frames := 0, cells := 0, slots := 0, locals := 0 } : Room) (q_Pre D vwCl (tyL cs) NW [.ref (ad 0), .int p1, .int p2, .int p3, .int p4] (q_ws 23 ad (cM ad cs σ)) sz) (q_Qi D vwCl res.1 (q_ws 23 ad (cM ad cs res.2)) (va_A (q_ws 23 ad (cM ad cs σ)) sz)) 0 0 (va_A (q_ws 23 ad (cM ad cs σ)) sz) := by
  refine Met.ofW (cc := b_Mo_program) (maxL := 5) (ret := (some .boolean)) (by decide) rfl ?_
  intro p e s m args below meth c s₁ B hml hv
  obtain ⟨hargs, hsz, hP, hK, hD0, hN⟩ := hv
  have hx := B.exec
  have hb := B.bytes
  have hr := B.returns
  have hts := atoms_spec (ws := w_Mo_program) B.pre
  have hown : s.vm.findClass "JobTerminalModel" = some m.cls := findClass_of_methodNamed B.named
  have hlocks := B.notSynchronized
  have htg : ∀ w ∈ GW, w.before args s = true := fun w h => hts w (List.mem_cons_of_mem _ h)
  subst hsz
  have hD := hD0.self (sz := s.heap.size)
  generalize hAe : va_A (q_ws 23 ad (cM ad cs σ)) s.heap.size = A at hD ⊢
  have hA : ∀ q : Nat, s.heap.size ≤ q → A q := fun q h => by rw [← hAe]; exact Or.inr h
  have I : q_I D vwCl A s.heap (q_ws 23 ad (cM ad cs σ)) s.heap [] := ⟨hP, hD, va_S.rf⟩
  obtain ⟨ls, hen, hl⟩ := q_entry (vs := [.ref (ad 0), .int p1, .int p2, .int p3, .int p4]) (n := 5) (lv := [(0, .ref (ad 0)), (1, .int p1), (2, .int p2), (3, .int p3), (4, .int p4)]) (by intro v hv; simp only [List.mem_cons, List.not_mem_nil, or_false] at hv; rcases hv with rfl | rfl | rfl | rfl | rfl <;> first | rfl | exact q_cat) (Nat.le_of_ble_eq_true rfl) rfl
  rw [show entryFrame m args 5 = F0 m 0 ls [] from by rw [hargs]; exact hen m]
  have C0 : q_Cx "JobTerminalModel" b_Mo_program 5 (some .boolean) w_Mo_program D vwCl (tyL cs) NW p s m args meth c := ⟨hx, hb, hr, hml, hown, hts, hlocks, hK, hN⟩
  unfold f_Mo_program at hf
  have hgo : ∀ (H : Heap) (locs : List Loc), q_I D vwCl A s.heap (q_ws 23 ad (cM ad cs σ)) H locs → W p l e ({ frames := 0, cells := 0, slots := 0, locals := 0 } : Room) s m args below meth c H locs 0 0 (MQ below (q_Qi D vwCl res.1 (q_ws 23 ad (cM ad cs res.2)) A) args s 0 0 A) (F0 m 0 ls []) := by
    intro H locs I
    refine lv_aload_n hx hb d_Mo_program_0 rfl (q_at hl 0 rfl) ?_
    refine lv_iconst (v := 0) hx hb d_Mo_program_1 (by decide) ?_
    refine P_Mo_Mo_code hx hb htg hown hK hN I d_Mo_program_2 (fun H locs I => ?_)
    refine lv_iload_n hx hb d_Mo_program_5 rfl (q_at hl 1 rfl) ?_
    refine lv_if_lt (tgt := 24) hx hb d_Mo_program_6 (by decide) (fun c1 => ?_) (fun c1 => ?_)
    · rw [if_pos c1] at hf
      exact k_Mo_program_24 C0 hA res (q_up σ 48 0 0) hf H locs I ls (q_hsub hl [] rfl)
    · rw [if_neg c1] at hf
      refine lv_iload_n hx hb d_Mo_program_9 rfl (q_at hl 1 rfl) ?_
      refine lv_iconst (v := 3) hx hb d_Mo_program_10 (by decide) ?_
      refine lv_icmp_gt (tgt := 24) hx hb d_Mo_program_11 (by decide) (fun c2 => ?_) (fun c2 => ?_)
      · rw [if_pos c2] at hf
        exact k_Mo_program_24 C0 hA res (q_up σ 48 0 0) hf H locs I ls (q_hsub hl [] rfl)
      · rw [if_neg c2] at hf
        refine lv_iload_n hx hb d_Mo_program_14 rfl (q_at hl 2 rfl) ?_
        refine lv_if_lt (tgt := 24) hx hb d_Mo_program_15 (by decide) (fun c3 => ?_) (fun c3 => ?_)
        · rw [if_pos c3] at hf
          exact k_Mo_program_24 C0 hA res (q_up σ 48 0 0) hf H locs I ls (q_hsub hl [] rfl)
        · rw [if_neg c3] at hf
          refine lv_iload_n hx hb d_Mo_program_18 rfl (q_at hl 2 rfl) ?_
          refine lv_bipush (v := 15) hx hb d_Mo_program_19 (by decide) ?_
          refine lv_icmp_le (tgt := 26) hx hb d_Mo_program_21 (by decide) (fun c4 => ?_) (fun c4 => ?_)
          · rw [if_pos c4] at hf
            refine lv_aload_n hx hb d_Mo_program_26 rfl (q_at hl 0 rfl) ?_
            refine G_Mo_Mo_ops hx hb htg hown hK hN I d_Mo_program_27 ?_
            refine lv_bipush (v := 16) hx hb d_Mo_program_30 (by decide) ?_
            refine lv_iload_n hx hb d_Mo_program_32 rfl (q_at hl 1 rfl) ?_
            refine lv_imul hx hb d_Mo_program_33 ?_
            refine lv_iload_n hx hb d_Mo_program_34 rfl (q_at hl 2 rfl) ?_
            refine lv_iadd hx hb d_Mo_program_35 ?_
            refine lv_iload_n hx hb d_Mo_program_36 rfl (q_at hl 3 rfl) ?_
            obtain ⟨o5, hf⟩ := q_grd_some hf
            refine T_M_ops hx hb hK I o5 d_Mo_program_37 (fun H locs I => ?_)
            refine lv_aload_n hx hb d_Mo_program_38 rfl (q_at hl 0 rfl) ?_
            refine G_Mo_Mo_numbers hx hb htg hown hK hN I d_Mo_program_39 ?_
            refine lv_bipush (v := 16) hx hb d_Mo_program_42 (by decide) ?_
            refine lv_iload_n hx hb d_Mo_program_44 rfl (q_at hl 1 rfl) ?_
            refine lv_imul hx hb d_Mo_program_45 ?_
            refine lv_iload_n hx hb d_Mo_program_46 rfl (q_at hl 2 rfl) ?_
            refine lv_iadd hx hb d_Mo_program_47 ?_
            refine lv_iload hx hb d_Mo_program_48 (q_at hl 4 rfl) ?_
            obtain ⟨o6, hf⟩ := q_grd_some hf
            refine T_M_numbers hx hb hK I o6 d_Mo_program_50 (fun H locs I => ?_)
            refine lv_iconst (v := 1) hx hb d_Mo_program_51 (by decide) ?_
            cases hf
            exact q_zret (r0 := 1) hx hb hr hlocks (by decide) I d_Mo_program_52
          · rw [if_neg c4] at hf
            exact k_Mo_program_24 C0 hA res (q_up σ 48 0 0) hf H locs I ls (q_hsub hl [] rfl)
  exact hgo _ _ I
-- JobTerminalModel begin
def f_Mo_begin_2 : Nat → q_St → Int32 → Int32 → Int32 → Option (Int32 × q_St)
  | 0, _, _, _, _ => none
  | n + 1, σ, x1, x2, x3 => q_grd (q_in x3 8) (if (σ 2 x3.toNatClampNeg) = 0 then (q_grd (q_in x3 8) (q_grd (q_in x3 8) (q_grd (q_in x3 8) (q_grd (q_in x3 8) (q_grd (q_in x3 8) (q_grd (q_in x3 8) (q_grd (q_in x3 8) (q_grd (q_in x3 8) (q_grd (q_in x3 8) (q_grd (q_in x3 8) (some (x3, q_up (q_up (q_up (q_up (q_up (q_up (q_up (q_up (q_up (q_up σ 2 x3.toNatClampNeg 1) 3 x3.toNatClampNeg x2) 4 x3.toNatClampNeg x1) 5 x3.toNatClampNeg 0) 6 x3.toNatClampNeg 0) 7 x3.toNatClampNeg 0) 8 x3.toNatClampNeg 0) 9 x3.toNatClampNeg 0) 10 x3.toNatClampNeg 0) 11 x3.toNatClampNeg 0)))))))))))) else (f_Mo_begin_2 n σ x1 x2 (x3 + 1)))
set_option maxHeartbeats 4000000 in
set_option maxRecDepth 100000 in
theorem k_Mo_begin_2 {p : Program} {l : Launch} {e : Env} {s : State} {m : MethodId} {args : Array Value} {below : List Frame} {meth : Method} {c : Code} {D : va_G} {A : Nat → Prop} {ad : Nat → Nat} {cs : Nat → ClassId} (C0 : q_Cx "JobTerminalModel" b_Mo_begin 4 (some .int) w_Mo_begin D vwCl (tyL cs) NW p s m args meth c) (hA : ∀ q, s.heap.size ≤ q → A q) (res : (Int32 × q_St)) : ∀ (n : Nat) (σ : q_St) (x1 : Int32) (x2 : Int32) (x3 : Int32) , f_Mo_begin_2 n σ x1 x2 x3 = some res → ∀ (H : Heap) (locs : List Loc), q_I D vwCl A s.heap (q_ws 23 ad (cM ad cs σ)) H locs → ∀ ls : Array Slot, q_has ls 4 [(0, .ref (ad 0)), (1, .int x1), (2, .int x2), (3, .int x3)] → W p l e ({ frames := 0, cells := 0, slots := 0, locals := 0 } : Room) s m args below meth c H locs 0 0 (MQ below (q_Qi D vwCl res.1 (q_ws 23 ad (cM ad cs res.2)) A) args s 0 0 A) (F0 m 2 ls []) := by
  intro n
  induction n with
  | zero => intro σ x1 x2 x3 hf; cases hf
  | succ n ih =>
    intro σ x1 x2 x3 hf H locs I ls hl
    have ih := ih
    rw [f_Mo_begin_2] at hf
    have C0 := C0
    obtain ⟨hx, hb, hr, hml, hown, hts, hlocks, hK, hN⟩ := id C0
    have htg : ∀ w ∈ GW, w.before args s = true := fun w h => hts w (List.mem_cons_of_mem _ h)
    refine lv_aload_n hx hb d_Mo_begin_2 rfl (q_at hl 0 rfl) ?_
    refine G_Mo_Mo_state hx hb htg hown hK hN I d_Mo_begin_3 ?_
    refine lv_iload_n hx hb d_Mo_begin_6 rfl (q_at hl 3 rfl) ?_
    obtain ⟨o1, hf⟩ := q_grd_some hf
    refine A_M_state hx hb hK I o1 d_Mo_begin_7 ?_
    refine lv_if_eq (tgt := 17) hx hb d_Mo_begin_8 (by decide) (fun c2 => ?_) (fun c2 => ?_)
    · rw [if_pos c2] at hf
      refine lv_aload_n hx hb d_Mo_begin_17 rfl (q_at hl 0 rfl) ?_
      refine G_Mo_Mo_state hx hb htg hown hK hN I d_Mo_begin_18 ?_
      refine lv_iload_n hx hb d_Mo_begin_21 rfl (q_at hl 3 rfl) ?_
      refine lv_iconst (v := 1) hx hb d_Mo_begin_22 (by decide) ?_
      obtain ⟨o3, hf⟩ := q_grd_some hf
      refine T_M_state hx hb hK I o3 d_Mo_begin_23 (fun H locs I => ?_)
      refine lv_aload_n hx hb d_Mo_begin_24 rfl (q_at hl 0 rfl) ?_
      refine G_Mo_Mo_jobOf hx hb htg hown hK hN I d_Mo_begin_25 ?_
      refine lv_iload_n hx hb d_Mo_begin_28 rfl (q_at hl 3 rfl) ?_
      refine lv_iload_n hx hb d_Mo_begin_29 rfl (q_at hl 2 rfl) ?_
      obtain ⟨o4, hf⟩ := q_grd_some hf
      refine T_M_jobOf hx hb hK I o4 d_Mo_begin_30 (fun H locs I => ?_)
      refine lv_aload_n hx hb d_Mo_begin_31 rfl (q_at hl 0 rfl) ?_
      refine G_Mo_Mo_programOf hx hb htg hown hK hN I d_Mo_begin_32 ?_
      refine lv_iload_n hx hb d_Mo_begin_35 rfl (q_at hl 3 rfl) ?_
      refine lv_iload_n hx hb d_Mo_begin_36 rfl (q_at hl 1 rfl) ?_
      obtain ⟨o5, hf⟩ := q_grd_some hf
      refine T_M_programOf hx hb hK I o5 d_Mo_begin_37 (fun H locs I => ?_)
      refine lv_aload_n hx hb d_Mo_begin_38 rfl (q_at hl 0 rfl) ?_
      refine G_Mo_Mo_line hx hb htg hown hK hN I d_Mo_begin_39 ?_
      refine lv_iload_n hx hb d_Mo_begin_42 rfl (q_at hl 3 rfl) ?_
      refine lv_iconst (v := 0) hx hb d_Mo_begin_43 (by decide) ?_
      obtain ⟨o6, hf⟩ := q_grd_some hf
      refine T_M_line hx hb hK I o6 d_Mo_begin_44 (fun H locs I => ?_)
      refine lv_aload_n hx hb d_Mo_begin_45 rfl (q_at hl 0 rfl) ?_
      refine G_Mo_Mo_register hx hb htg hown hK hN I d_Mo_begin_46 ?_
      refine lv_iload_n hx hb d_Mo_begin_49 rfl (q_at hl 3 rfl) ?_
      refine lv_iconst (v := 0) hx hb d_Mo_begin_50 (by decide) ?_
      obtain ⟨o7, hf⟩ := q_grd_some hf
      refine T_M_register hx hb hK I o7 d_Mo_begin_51 (fun H locs I => ?_)
      refine lv_aload_n hx hb d_Mo_begin_52 rfl (q_at hl 0 rfl) ?_
      refine G_Mo_Mo_ends hx hb htg hown hK hN I d_Mo_begin_53 ?_
      refine lv_iload_n hx hb d_Mo_begin_56 rfl (q_at hl 3 rfl) ?_
      refine lv_iconst (v := 0) hx hb d_Mo_begin_57 (by decide) ?_
      obtain ⟨o8, hf⟩ := q_grd_some hf
      refine T_M_ends hx hb hK I o8 d_Mo_begin_58 (fun H locs I => ?_)
      refine lv_aload_n hx hb d_Mo_begin_59 rfl (q_at hl 0 rfl) ?_
      refine G_Mo_Mo_pending hx hb htg hown hK hN I d_Mo_begin_60 ?_
      refine lv_iload_n hx hb d_Mo_begin_63 rfl (q_at hl 3 rfl) ?_
      refine lv_iconst (v := 0) hx hb d_Mo_begin_64 (by decide) ?_
      obtain ⟨o9, hf⟩ := q_grd_some hf
      refine T_M_pending hx hb hK I o9 d_Mo_begin_65 (fun H locs I => ?_)
      refine lv_aload_n hx hb d_Mo_begin_66 rfl (q_at hl 0 rfl) ?_
      refine G_Mo_Mo_blocked hx hb htg hown hK hN I d_Mo_begin_67 ?_
      refine lv_iload_n hx hb d_Mo_begin_70 rfl (q_at hl 3 rfl) ?_
      refine lv_iconst (v := 0) hx hb d_Mo_begin_71 (by decide) ?_
      obtain ⟨o10, hf⟩ := q_grd_some hf
      refine T_M_blocked hx hb hK I o10 d_Mo_begin_72 (fun H locs I => ?_)
      refine lv_aload_n hx hb d_Mo_begin_73 rfl (q_at hl 0 rfl) ?_
      refine G_Mo_Mo_ignored hx hb htg hown hK hN I d_Mo_begin_74 ?_
      refine lv_iload_n hx hb d_Mo_begin_77 rfl (q_at hl 3 rfl) ?_
      refine lv_iconst (v := 0) hx hb d_Mo_begin_78 (by decide) ?_
      obtain ⟨o11, hf⟩ := q_grd_some hf
      refine T_M_ignored hx hb hK I o11 d_Mo_begin_79 (fun H locs I => ?_)
      refine lv_aload_n hx hb d_Mo_begin_80 rfl (q_at hl 0 rfl) ?_
      refine G_Mo_Mo_nap hx hb htg hown hK hN I d_Mo_begin_81 ?_
      refine lv_iload_n hx hb d_Mo_begin_84 rfl (q_at hl 3 rfl) ?_
      refine lv_iconst (v := 0) hx hb d_Mo_begin_85 (by decide) ?_
      obtain ⟨o12, hf⟩ := q_grd_some hf
      refine T_M_nap hx hb hK I o12 d_Mo_begin_86 (fun H locs I => ?_)
      refine lv_iload_n hx hb d_Mo_begin_87 rfl (q_at hl 3 rfl) ?_
      cases hf
      exact q_iret hx hb hr hlocks I d_Mo_begin_88
    · rw [if_neg c2] at hf
      refine q_iinc (v := x3 + 1) (lv' := [(3, .int (x3 + 1)), (0, .ref (ad 0)), (1, .int x1), (2, .int x2)]) hx hb d_Mo_begin_11 hl (k := 3) rfl rfl (by decide) rfl (fun ls hl => ?_)
      refine lv_goto (tgt := 2) hx hb d_Mo_begin_14 (by decide) ?_
      exact ih σ x1 x2 (x3 + 1) hf H locs I ls (q_hsub hl [1, 2, 3, 0] rfl)
def f_Mo_begin (σ : q_St) (p1 : Int32) (p2 : Int32) : Option (Int32 × q_St) := f_Mo_begin_2 200 σ p1 p2 0
set_option maxHeartbeats 4000000 in
set_option maxRecDepth 100000 in
theorem c_Mo_begin {l : Launch} {D : va_G} {ad : Nat → Nat} {cs : Nat → ClassId} {sz : Nat} {σ : q_St} {p1 : Int32} {p2 : Int32} {res : (Int32 × q_St)} (hf : f_Mo_begin σ p1 p2 = some res) : Met l y_Mo_begin w_Mo_begin ({ frames := 0, cells := 0, slots := 0, locals := 0 } : Room) (q_Pre D vwCl (tyL cs) NW [.ref (ad 0), .int p1, .int p2] (q_ws 23 ad (cM ad cs σ)) sz) (q_Qi D vwCl res.1 (q_ws 23 ad (cM ad cs res.2)) (va_A (q_ws 23 ad (cM ad cs σ)) sz)) 0 0 (va_A (q_ws 23 ad (cM ad cs σ)) sz) := by
  refine Met.ofW (cc := b_Mo_begin) (maxL := 4) (ret := (some .int)) (by decide) rfl ?_
  intro p e s m args below meth c s₁ B hml hv
  obtain ⟨hargs, hsz, hP, hK, hD0, hN⟩ := hv
  have hx := B.exec
  have hb := B.bytes
  have hr := B.returns
  have hts := atoms_spec (ws := w_Mo_begin) B.pre
  have hown : s.vm.findClass "JobTerminalModel" = some m.cls := findClass_of_methodNamed B.named
  have hlocks := B.notSynchronized
  have htg : ∀ w ∈ GW, w.before args s = true := fun w h => hts w (List.mem_cons_of_mem _ h)
  subst hsz
  have hD := hD0.self (sz := s.heap.size)
  generalize hAe : va_A (q_ws 23 ad (cM ad cs σ)) s.heap.size = A at hD ⊢
  have hA : ∀ q : Nat, s.heap.size ≤ q → A q := fun q h => by rw [← hAe]; exact Or.inr h
  have I : q_I D vwCl A s.heap (q_ws 23 ad (cM ad cs σ)) s.heap [] := ⟨hP, hD, va_S.rf⟩
  obtain ⟨ls, hen, hl⟩ := q_entry (vs := [.ref (ad 0), .int p1, .int p2]) (n := 4) (lv := [(0, .ref (ad 0)), (1, .int p1), (2, .int p2)]) (by intro v hv; simp only [List.mem_cons, List.not_mem_nil, or_false] at hv; rcases hv with rfl | rfl | rfl <;> first | rfl | exact q_cat) (Nat.le_of_ble_eq_true rfl) rfl
  rw [show entryFrame m args 4 = F0 m 0 ls [] from by rw [hargs]; exact hen m]
  have C0 : q_Cx "JobTerminalModel" b_Mo_begin 4 (some .int) w_Mo_begin D vwCl (tyL cs) NW p s m args meth c := ⟨hx, hb, hr, hml, hown, hts, hlocks, hK, hN⟩
  unfold f_Mo_begin at hf
  have hgo : ∀ (H : Heap) (locs : List Loc), q_I D vwCl A s.heap (q_ws 23 ad (cM ad cs σ)) H locs → W p l e ({ frames := 0, cells := 0, slots := 0, locals := 0 } : Room) s m args below meth c H locs 0 0 (MQ below (q_Qi D vwCl res.1 (q_ws 23 ad (cM ad cs res.2)) A) args s 0 0 A) (F0 m 0 ls []) := by
    intro H locs I
    refine lv_iconst (v := 0) hx hb d_Mo_begin_0 (by decide) ?_
    refine q_istore_n (lv' := [(3, .int 0), (0, .ref (ad 0)), (1, .int p1), (2, .int p2)]) hx hb d_Mo_begin_1 rfl hl (by decide) rfl (fun ls hl => ?_)
    exact k_Mo_begin_2 C0 hA res 200 σ p1 p2 0 hf H locs I ls (q_hsub hl [1, 2, 3, 0] rfl)
  exact hgo _ _ I
-- JobTerminalModel launch
def f_Mo_launch_224 (σ : q_St) (x5 : Int32) (y0 : Int32) : Option (Int32 × q_St) := some (x5, q_up σ 41 0 y0)
set_option maxHeartbeats 4000000 in
set_option maxRecDepth 100000 in
theorem k_Mo_launch_224 {p : Program} {l : Launch} {e : Env} {s : State} {m : MethodId} {args : Array Value} {below : List Frame} {meth : Method} {c : Code} {D : va_G} {A : Nat → Prop} {ad : Nat → Nat} {cs : Nat → ClassId} (C0 : q_Cx "JobTerminalModel" b_Mo_launch 6 (some .int) w_Mo_launch D vwCl (tyL cs) NW p s m args meth c) (hA : ∀ q, s.heap.size ≤ q → A q) (res : (Int32 × q_St)) : ∀ (σ : q_St) (x5 : Int32) (y0 : Int32) , f_Mo_launch_224 σ x5 y0 = some res → ∀ (H : Heap) (locs : List Loc), q_I D vwCl A s.heap (q_ws 23 ad (cM ad cs σ)) H locs → ∀ ls : Array Slot, q_has ls 6 [(5, .int x5)] → W p l e ({ frames := 1, cells := 0, slots := 0, locals := 23 } : Room) s m args below meth c H locs 0 0 (MQ below (q_Qi D vwCl res.1 (q_ws 23 ad (cM ad cs res.2)) A) args s 0 0 A) (F0 m 224 ls [.int y0, .ref (ad 0)]) := by
  intro σ x5 y0 hf H locs I ls hl
  unfold f_Mo_launch_224 at hf
  obtain ⟨hx, hb, hr, hml, hown, hts, hlocks, hK, hN⟩ := id C0
  have htg : ∀ w ∈ GW, w.before args s = true := fun w h => hts w (List.mem_cons_of_mem _ h)
  refine P_Mo_Mo_front hx hb htg hown hK hN I d_Mo_launch_224 (fun H locs I => ?_)
  refine lv_iload hx hb d_Mo_launch_227 (q_at hl 0 rfl) ?_
  cases hf
  exact q_iret hx hb hr hlocks I d_Mo_launch_229
def f_Mo_launch_185 (σ : q_St) (x3 : Int32) (x5 : Int32) (y0 : Int32) (y1 : Int32) : Option (Int32 × q_St) := q_grd (q_in y1 4) (q_grd (q_in x5 4) (q_grd (q_in x5 4) (q_grd (q_in x5 4) (if x3 = 0 then (f_Mo_launch_224 (q_up (q_up (q_up (q_up σ 14 y1.toNatClampNeg y0) 15 x5.toNatClampNeg 1) 16 x5.toNatClampNeg 0) 17 x5.toNatClampNeg 0) x5 x5) else (f_Mo_launch_224 (q_up (q_up (q_up (q_up σ 14 y1.toNatClampNeg y0) 15 x5.toNatClampNeg 1) 16 x5.toNatClampNeg 0) 17 x5.toNatClampNeg 0) x5 ((q_up (q_up (q_up (q_up σ 14 y1.toNatClampNeg y0) 15 x5.toNatClampNeg 1) 16 x5.toNatClampNeg 0) 17 x5.toNatClampNeg 0) 41 0))))))
set_option maxHeartbeats 4000000 in
set_option maxRecDepth 100000 in
theorem k_Mo_launch_185 {p : Program} {l : Launch} {e : Env} {s : State} {m : MethodId} {args : Array Value} {below : List Frame} {meth : Method} {c : Code} {D : va_G} {A : Nat → Prop} {ad : Nat → Nat} {cs : Nat → ClassId} (C0 : q_Cx "JobTerminalModel" b_Mo_launch 6 (some .int) w_Mo_launch D vwCl (tyL cs) NW p s m args meth c) (hA : ∀ q, s.heap.size ≤ q → A q) (res : (Int32 × q_St)) : ∀ (σ : q_St) (x3 : Int32) (x5 : Int32) (y0 : Int32) (y1 : Int32) , f_Mo_launch_185 σ x3 x5 y0 y1 = some res → ∀ (H : Heap) (locs : List Loc), q_I D vwCl A s.heap (q_ws 23 ad (cM ad cs σ)) H locs → ∀ ls : Array Slot, q_has ls 6 [(0, .ref (ad 0)), (3, .int x3), (5, .int x5)] → W p l e ({ frames := 1, cells := 0, slots := 0, locals := 23 } : Room) s m args below meth c H locs 0 0 (MQ below (q_Qi D vwCl res.1 (q_ws 23 ad (cM ad cs res.2)) A) args s 0 0 A) (F0 m 185 ls [.int y0, .int y1, .ref (ad 15)]) := by
  intro σ x3 x5 y0 y1 hf H locs I ls hl
  unfold f_Mo_launch_185 at hf
  obtain ⟨hx, hb, hr, hml, hown, hts, hlocks, hK, hN⟩ := id C0
  have htg : ∀ w ∈ GW, w.before args s = true := fun w h => hts w (List.mem_cons_of_mem _ h)
  obtain ⟨o21, hf⟩ := q_grd_some hf
  refine T_M_second hx hb hK I o21 d_Mo_launch_185 (fun H locs I => ?_)
  refine lv_aload_n hx hb d_Mo_launch_186 rfl (q_at hl 0 rfl) ?_
  refine G_Mo_Mo_was hx hb htg hown hK hN I d_Mo_launch_187 ?_
  refine lv_iload hx hb d_Mo_launch_190 (q_at hl 2 rfl) ?_
  refine lv_iconst (v := 1) hx hb d_Mo_launch_192 (by decide) ?_
  obtain ⟨o22, hf⟩ := q_grd_some hf
  refine T_M_was hx hb hK I o22 d_Mo_launch_193 (fun H locs I => ?_)
  refine lv_aload_n hx hb d_Mo_launch_194 rfl (q_at hl 0 rfl) ?_
  refine G_Mo_Mo_untold hx hb htg hown hK hN I d_Mo_launch_195 ?_
  refine lv_iload hx hb d_Mo_launch_198 (q_at hl 2 rfl) ?_
  refine lv_iconst (v := 0) hx hb d_Mo_launch_200 (by decide) ?_
  obtain ⟨o23, hf⟩ := q_grd_some hf
  refine T_M_untold hx hb hK I o23 (by decide) d_Mo_launch_201 (fun H locs I => ?_)
  refine lv_aload_n hx hb d_Mo_launch_202 rfl (q_at hl 0 rfl) ?_
  refine G_Mo_Mo_piped hx hb htg hown hK hN I d_Mo_launch_203 ?_
  refine lv_iload hx hb d_Mo_launch_206 (q_at hl 2 rfl) ?_
  refine lv_iconst (v := 0) hx hb d_Mo_launch_208 (by decide) ?_
  obtain ⟨o24, hf⟩ := q_grd_some hf
  refine T_M_piped hx hb hK I o24 d_Mo_launch_209 (fun H locs I => ?_)
  refine lv_aload_n hx hb d_Mo_launch_210 rfl (q_at hl 0 rfl) ?_
  refine lv_iload_n hx hb d_Mo_launch_211 rfl (q_at hl 1 rfl) ?_
  refine lv_if_eq (tgt := 222) hx hb d_Mo_launch_212 (by decide) (fun c25 => ?_) (fun c25 => ?_)
  · rw [if_pos c25] at hf
    refine lv_iload hx hb d_Mo_launch_222 (q_at hl 2 rfl) ?_
    exact k_Mo_launch_224 C0 hA res (q_up (q_up (q_up (q_up σ 14 y1.toNatClampNeg y0) 15 x5.toNatClampNeg 1) 16 x5.toNatClampNeg 0) 17 x5.toNatClampNeg 0) x5 x5 hf H locs I ls (q_hsub hl [2] rfl)
  · rw [if_neg c25] at hf
    refine lv_aload_n hx hb d_Mo_launch_215 rfl (q_at hl 0 rfl) ?_
    refine G_Mo_Mo_front hx hb htg hown hK hN I d_Mo_launch_216 ?_
    refine lv_goto (tgt := 224) hx hb d_Mo_launch_219 (by decide) ?_
    exact k_Mo_launch_224 C0 hA res (q_up (q_up (q_up (q_up σ 14 y1.toNatClampNeg y0) 15 x5.toNatClampNeg 1) 16 x5.toNatClampNeg 0) 17 x5.toNatClampNeg 0) x5 ((q_up (q_up (q_up (q_up σ 14 y1.toNatClampNeg y0) 15 x5.toNatClampNeg 1) 16 x5.toNatClampNeg 0) 17 x5.toNatClampNeg 0) 41 0) hf H locs I ls (q_hsub hl [2] rfl)
def f_Mo_launch_133 (σ : q_St) (x1 : Int32) (x2 : Int32) (x3 : Int32) (x5 : Int32) : Option (Int32 × q_St) := if (σ 48 0) ≤ 0 then (q_grd (q_in x5 4) (q_bnd (f_Mo_begin (q_up σ 12 x5.toNatClampNeg 1) x1 x5) (fun r15 => q_grd (q_in x5 4) (if 0 ≤ x2 then (q_bnd (f_Mo_begin (q_up r15.2 13 x5.toNatClampNeg r15.1) x2 x5) (fun r19 => f_Mo_launch_185 r19.2 x3 x5 r19.1 x5)) else (f_Mo_launch_185 (q_up r15.2 13 x5.toNatClampNeg r15.1) x3 x5 (-1) x5))))) else (some (0, σ))
set_option maxHeartbeats 4000000 in
set_option maxRecDepth 100000 in
theorem k_Mo_launch_133 {p : Program} {l : Launch} {e : Env} {s : State} {m : MethodId} {args : Array Value} {below : List Frame} {meth : Method} {c : Code} {D : va_G} {A : Nat → Prop} {ad : Nat → Nat} {cs : Nat → ClassId} (C0 : q_Cx "JobTerminalModel" b_Mo_launch 6 (some .int) w_Mo_launch D vwCl (tyL cs) NW p s m args meth c) (hA : ∀ q, s.heap.size ≤ q → A q) (res : (Int32 × q_St)) : ∀ (σ : q_St) (x1 : Int32) (x2 : Int32) (x3 : Int32) (x5 : Int32) , f_Mo_launch_133 σ x1 x2 x3 x5 = some res → ∀ (H : Heap) (locs : List Loc), q_I D vwCl A s.heap (q_ws 23 ad (cM ad cs σ)) H locs → ∀ ls : Array Slot, q_has ls 6 [(0, .ref (ad 0)), (1, .int x1), (2, .int x2), (3, .int x3), (5, .int x5)] → W p l e ({ frames := 1, cells := 0, slots := 0, locals := 23 } : Room) s m args below meth c H locs 0 0 (MQ below (q_Qi D vwCl res.1 (q_ws 23 ad (cM ad cs res.2)) A) args s 0 0 A) (F0 m 133 ls []) := by
  intro σ x1 x2 x3 x5 hf H locs I ls hl
  unfold f_Mo_launch_133 at hf
  obtain ⟨hx, hb, hr, hml, hown, hts, hlocks, hK, hN⟩ := id C0
  have htg : ∀ w ∈ GW, w.before args s = true := fun w h => hts w (List.mem_cons_of_mem _ h)
  refine lv_aload_n hx hb d_Mo_launch_133 rfl (q_at hl 0 rfl) ?_
  refine G_Mo_Mo_code hx hb htg hown hK hN I d_Mo_launch_134 ?_
  refine lv_if_le (tgt := 142) hx hb d_Mo_launch_137 (by decide) (fun c13 => ?_) (fun c13 => ?_)
  · rw [if_pos c13] at hf
    refine lv_aload_n hx hb d_Mo_launch_142 rfl (q_at hl 0 rfl) ?_
    refine G_Mo_Mo_there hx hb htg hown hK hN I d_Mo_launch_143 ?_
    refine lv_iload hx hb d_Mo_launch_146 (q_at hl 4 rfl) ?_
    refine lv_iconst (v := 1) hx hb d_Mo_launch_148 (by decide) ?_
    obtain ⟨o14, hf⟩ := q_grd_some hf
    refine T_M_there hx hb hK I o14 (by decide) d_Mo_launch_149 (fun H locs I => ?_)
    refine lv_aload_n hx hb d_Mo_launch_150 rfl (q_at hl 0 rfl) ?_
    refine G_Mo_Mo_first hx hb htg hown hK hN I d_Mo_launch_151 ?_
    refine lv_iload hx hb d_Mo_launch_154 (q_at hl 4 rfl) ?_
    refine lv_aload_n hx hb d_Mo_launch_156 rfl (q_at hl 0 rfl) ?_
    refine lv_iload_n hx hb d_Mo_launch_157 rfl (q_at hl 1 rfl) ?_
    refine lv_iload hx hb d_Mo_launch_158 (q_at hl 4 rfl) ?_
    obtain ⟨r15, e16, hf⟩ := q_bnd_some hf
    refine q_ki hA I (q_runV (C := "JobTerminalModel") (As := [.int x1, .int x5]) (rest := [.int x5, .ref (ad 14)]) ⟨hx, hb, hml, hown, hts⟩ (c_Mo_begin (sz := H.size) e16) (cwV 2 hts (q_goodV mw418 mw419 mw420 mw421 mw366) rfl rfl rfl (by decide +kernel) ⟨Nat.le_of_ble_eq_true rfl, Nat.le_of_ble_eq_true rfl⟩) NW_ok hK hN I rfl (q_wsE (by decide) (a_M_Mo)) rfl (q_sz hl) rfl (Nat.le_of_ble_eq_true rfl) d_Mo_launch_160 ⟨Nat.zero_le _, Nat.zero_le _⟩) (fun H locs I => ?_)
    obtain ⟨o17, hf⟩ := q_grd_some hf
    refine T_M_first hx hb hK I o17 d_Mo_launch_163 (fun H locs I => ?_)
    refine lv_aload_n hx hb d_Mo_launch_164 rfl (q_at hl 0 rfl) ?_
    refine G_Mo_Mo_second hx hb htg hown hK hN I d_Mo_launch_165 ?_
    refine lv_iload hx hb d_Mo_launch_168 (q_at hl 4 rfl) ?_
    refine lv_iload_n hx hb d_Mo_launch_170 rfl (q_at hl 2 rfl) ?_
    refine lv_if_ge (tgt := 178) hx hb d_Mo_launch_171 (by decide) (fun c18 => ?_) (fun c18 => ?_)
    · rw [if_pos c18] at hf
      refine lv_aload_n hx hb d_Mo_launch_178 rfl (q_at hl 0 rfl) ?_
      refine lv_iload_n hx hb d_Mo_launch_179 rfl (q_at hl 2 rfl) ?_
      refine lv_iload hx hb d_Mo_launch_180 (q_at hl 4 rfl) ?_
      obtain ⟨r19, e20, hf⟩ := q_bnd_some hf
      refine q_ki hA I (q_runV (C := "JobTerminalModel") (As := [.int x2, .int x5]) (rest := [.int x5, .ref (ad 15)]) ⟨hx, hb, hml, hown, hts⟩ (c_Mo_begin (sz := H.size) e20) (cwV 2 hts (q_goodV mw418 mw419 mw420 mw421 mw366) rfl rfl rfl (by decide +kernel) ⟨Nat.le_of_ble_eq_true rfl, Nat.le_of_ble_eq_true rfl⟩) NW_ok hK hN I rfl (q_wsE (by decide) (a_M_Mo)) rfl (q_sz hl) rfl (Nat.le_of_ble_eq_true rfl) d_Mo_launch_182 ⟨Nat.zero_le _, Nat.zero_le _⟩) (fun H locs I => ?_)
      exact k_Mo_launch_185 C0 hA res r19.2 x3 x5 r19.1 x5 hf H locs I ls (q_hsub hl [0, 3, 4] rfl)
    · rw [if_neg c18] at hf
      refine lv_iconst (v := -1) hx hb d_Mo_launch_174 (by decide) ?_
      refine lv_goto (tgt := 185) hx hb d_Mo_launch_175 (by decide) ?_
      exact k_Mo_launch_185 C0 hA res (q_up r15.2 13 x5.toNatClampNeg r15.1) x3 x5 (-1) x5 hf H locs I ls (q_hsub hl [0, 3, 4] rfl)
  · rw [if_neg c13] at hf
    refine lv_iconst (v := 0) hx hb d_Mo_launch_140 (by decide) ?_
    cases hf
    exact q_iret hx hb hr hlocks I d_Mo_launch_141
def f_Mo_launch_128 (σ : q_St) (x1 : Int32) (x2 : Int32) (x3 : Int32) (x5 : Int32) : Option (Int32 × q_St) := f_Mo_launch_133 (q_up σ 48 0 2) x1 x2 x3 x5
set_option maxHeartbeats 4000000 in
set_option maxRecDepth 100000 in
theorem k_Mo_launch_128 {p : Program} {l : Launch} {e : Env} {s : State} {m : MethodId} {args : Array Value} {below : List Frame} {meth : Method} {c : Code} {D : va_G} {A : Nat → Prop} {ad : Nat → Nat} {cs : Nat → ClassId} (C0 : q_Cx "JobTerminalModel" b_Mo_launch 6 (some .int) w_Mo_launch D vwCl (tyL cs) NW p s m args meth c) (hA : ∀ q, s.heap.size ≤ q → A q) (res : (Int32 × q_St)) : ∀ (σ : q_St) (x1 : Int32) (x2 : Int32) (x3 : Int32) (x5 : Int32) , f_Mo_launch_128 σ x1 x2 x3 x5 = some res → ∀ (H : Heap) (locs : List Loc), q_I D vwCl A s.heap (q_ws 23 ad (cM ad cs σ)) H locs → ∀ ls : Array Slot, q_has ls 6 [(0, .ref (ad 0)), (1, .int x1), (2, .int x2), (3, .int x3), (5, .int x5)] → W p l e ({ frames := 1, cells := 0, slots := 0, locals := 23 } : Room) s m args below meth c H locs 0 0 (MQ below (q_Qi D vwCl res.1 (q_ws 23 ad (cM ad cs res.2)) A) args s 0 0 A) (F0 m 128 ls []) := by
  intro σ x1 x2 x3 x5 hf H locs I ls hl
  unfold f_Mo_launch_128 at hf
  obtain ⟨hx, hb, hr, hml, hown, hts, hlocks, hK, hN⟩ := id C0
  have htg : ∀ w ∈ GW, w.before args s = true := fun w h => hts w (List.mem_cons_of_mem _ h)
  refine lv_aload_n hx hb d_Mo_launch_128 rfl (q_at hl 0 rfl) ?_
  refine lv_iconst (v := 2) hx hb d_Mo_launch_129 (by decide) ?_
  refine P_Mo_Mo_code hx hb htg hown hK hN I d_Mo_launch_130 (fun H locs I => ?_)
  exact k_Mo_launch_133 C0 hA res (q_up σ 48 0 2) x1 x2 x3 x5 hf H locs I ls (q_hsub hl [0, 1, 2, 3, 4] rfl)
def f_Mo_launch_125 (σ : q_St) (x1 : Int32) (x2 : Int32) (x3 : Int32) (x5 : Int32) (y0 : Int32) (y1 : Int32) : Option (Int32 × q_St) := if y0 ≤ y1 then (f_Mo_launch_133 σ x1 x2 x3 x5) else (f_Mo_launch_128 σ x1 x2 x3 x5)
set_option maxHeartbeats 4000000 in
set_option maxRecDepth 100000 in
theorem k_Mo_launch_125 {p : Program} {l : Launch} {e : Env} {s : State} {m : MethodId} {args : Array Value} {below : List Frame} {meth : Method} {c : Code} {D : va_G} {A : Nat → Prop} {ad : Nat → Nat} {cs : Nat → ClassId} (C0 : q_Cx "JobTerminalModel" b_Mo_launch 6 (some .int) w_Mo_launch D vwCl (tyL cs) NW p s m args meth c) (hA : ∀ q, s.heap.size ≤ q → A q) (res : (Int32 × q_St)) : ∀ (σ : q_St) (x1 : Int32) (x2 : Int32) (x3 : Int32) (x5 : Int32) (y0 : Int32) (y1 : Int32) , f_Mo_launch_125 σ x1 x2 x3 x5 y0 y1 = some res → ∀ (H : Heap) (locs : List Loc), q_I D vwCl A s.heap (q_ws 23 ad (cM ad cs σ)) H locs → ∀ ls : Array Slot, q_has ls 6 [(0, .ref (ad 0)), (1, .int x1), (2, .int x2), (3, .int x3), (5, .int x5)] → W p l e ({ frames := 1, cells := 0, slots := 0, locals := 23 } : Room) s m args below meth c H locs 0 0 (MQ below (q_Qi D vwCl res.1 (q_ws 23 ad (cM ad cs res.2)) A) args s 0 0 A) (F0 m 125 ls [.int y0, .int y1]) := by
  intro σ x1 x2 x3 x5 y0 y1 hf H locs I ls hl
  unfold f_Mo_launch_125 at hf
  obtain ⟨hx, hb, hr, hml, hown, hts, hlocks, hK, hN⟩ := id C0
  have htg : ∀ w ∈ GW, w.before args s = true := fun w h => hts w (List.mem_cons_of_mem _ h)
  refine lv_icmp_ge (tgt := 133) hx hb d_Mo_launch_125 (by decide) (fun c28 => ?_) (fun c28 => ?_)
  · rw [if_pos c28] at hf
    exact k_Mo_launch_133 C0 hA res σ x1 x2 x3 x5 hf H locs I ls (q_hsub hl [0, 1, 2, 3, 4] rfl)
  · rw [if_neg c28] at hf
    exact k_Mo_launch_128 C0 hA res σ x1 x2 x3 x5 hf H locs I ls (q_hsub hl [0, 1, 2, 3, 4] rfl)
def f_Mo_launch_108 (σ : q_St) (x1 : Int32) (x2 : Int32) (x3 : Int32) (x4 : Int32) (x5 : Int32) : Option (Int32 × q_St) := if x5 = 4 then (f_Mo_launch_128 σ x1 x2 x3 x5) else (if 0 ≤ x2 then (f_Mo_launch_125 σ x1 x2 x3 x5 2 x4) else (f_Mo_launch_125 σ x1 x2 x3 x5 1 x4))
set_option maxHeartbeats 4000000 in
set_option maxRecDepth 100000 in
theorem k_Mo_launch_108 {p : Program} {l : Launch} {e : Env} {s : State} {m : MethodId} {args : Array Value} {below : List Frame} {meth : Method} {c : Code} {D : va_G} {A : Nat → Prop} {ad : Nat → Nat} {cs : Nat → ClassId} (C0 : q_Cx "JobTerminalModel" b_Mo_launch 6 (some .int) w_Mo_launch D vwCl (tyL cs) NW p s m args meth c) (hA : ∀ q, s.heap.size ≤ q → A q) (res : (Int32 × q_St)) : ∀ (σ : q_St) (x1 : Int32) (x2 : Int32) (x3 : Int32) (x4 : Int32) (x5 : Int32) , f_Mo_launch_108 σ x1 x2 x3 x4 x5 = some res → ∀ (H : Heap) (locs : List Loc), q_I D vwCl A s.heap (q_ws 23 ad (cM ad cs σ)) H locs → ∀ ls : Array Slot, q_has ls 6 [(0, .ref (ad 0)), (1, .int x1), (2, .int x2), (3, .int x3), (4, .int x4), (5, .int x5)] → W p l e ({ frames := 1, cells := 0, slots := 0, locals := 23 } : Room) s m args below meth c H locs 0 0 (MQ below (q_Qi D vwCl res.1 (q_ws 23 ad (cM ad cs res.2)) A) args s 0 0 A) (F0 m 108 ls []) := by
  intro σ x1 x2 x3 x4 x5 hf H locs I ls hl
  unfold f_Mo_launch_108 at hf
  obtain ⟨hx, hb, hr, hml, hown, hts, hlocks, hK, hN⟩ := id C0
  have htg : ∀ w ∈ GW, w.before args s = true := fun w h => hts w (List.mem_cons_of_mem _ h)
  refine lv_iload hx hb d_Mo_launch_108 (q_at hl 5 rfl) ?_
  refine lv_iconst (v := 4) hx hb d_Mo_launch_110 (by decide) ?_
  refine lv_icmp_eq (tgt := 128) hx hb d_Mo_launch_111 (by decide) (fun c26 => ?_) (fun c26 => ?_)
  · rw [if_pos c26] at hf
    exact k_Mo_launch_128 C0 hA res σ x1 x2 x3 x5 hf H locs I ls (q_hsub hl [0, 1, 2, 3, 5] rfl)
  · rw [if_neg c26] at hf
    refine lv_iload hx hb d_Mo_launch_114 (q_at hl 4 rfl) ?_
    refine lv_iload_n hx hb d_Mo_launch_116 rfl (q_at hl 2 rfl) ?_
    refine lv_if_ge (tgt := 124) hx hb d_Mo_launch_117 (by decide) (fun c27 => ?_) (fun c27 => ?_)
    · rw [if_pos c27] at hf
      refine lv_iconst (v := 2) hx hb d_Mo_launch_124 (by decide) ?_
      exact k_Mo_launch_125 C0 hA res σ x1 x2 x3 x5 2 x4 hf H locs I ls (q_hsub hl [0, 1, 2, 3, 5] rfl)
    · rw [if_neg c27] at hf
      refine lv_iconst (v := 1) hx hb d_Mo_launch_120 (by decide) ?_
      refine lv_goto (tgt := 125) hx hb d_Mo_launch_121 (by decide) ?_
      exact k_Mo_launch_125 C0 hA res σ x1 x2 x3 x5 1 x4 hf H locs I ls (q_hsub hl [0, 1, 2, 3, 5] rfl)
def f_Mo_launch_89 (σ : q_St) (x1 : Int32) (x2 : Int32) (x3 : Int32) (x5 : Int32) : Option (Int32 × q_St) := f_Mo_launch_133 (q_up σ 48 0 1) x1 x2 x3 x5
set_option maxHeartbeats 4000000 in
set_option maxRecDepth 100000 in
theorem k_Mo_launch_89 {p : Program} {l : Launch} {e : Env} {s : State} {m : MethodId} {args : Array Value} {below : List Frame} {meth : Method} {c : Code} {D : va_G} {A : Nat → Prop} {ad : Nat → Nat} {cs : Nat → ClassId} (C0 : q_Cx "JobTerminalModel" b_Mo_launch 6 (some .int) w_Mo_launch D vwCl (tyL cs) NW p s m args meth c) (hA : ∀ q, s.heap.size ≤ q → A q) (res : (Int32 × q_St)) : ∀ (σ : q_St) (x1 : Int32) (x2 : Int32) (x3 : Int32) (x5 : Int32) , f_Mo_launch_89 σ x1 x2 x3 x5 = some res → ∀ (H : Heap) (locs : List Loc), q_I D vwCl A s.heap (q_ws 23 ad (cM ad cs σ)) H locs → ∀ ls : Array Slot, q_has ls 6 [(0, .ref (ad 0)), (1, .int x1), (2, .int x2), (3, .int x3), (5, .int x5)] → W p l e ({ frames := 1, cells := 0, slots := 0, locals := 23 } : Room) s m args below meth c H locs 0 0 (MQ below (q_Qi D vwCl res.1 (q_ws 23 ad (cM ad cs res.2)) A) args s 0 0 A) (F0 m 89 ls []) := by
  intro σ x1 x2 x3 x5 hf H locs I ls hl
  unfold f_Mo_launch_89 at hf
  obtain ⟨hx, hb, hr, hml, hown, hts, hlocks, hK, hN⟩ := id C0
  have htg : ∀ w ∈ GW, w.before args s = true := fun w h => hts w (List.mem_cons_of_mem _ h)
  refine lv_aload_n hx hb d_Mo_launch_89 rfl (q_at hl 0 rfl) ?_
  refine lv_iconst (v := 1) hx hb d_Mo_launch_90 (by decide) ?_
  refine P_Mo_Mo_code hx hb htg hown hK hN I d_Mo_launch_91 (fun H locs I => ?_)
  refine lv_goto (tgt := 133) hx hb d_Mo_launch_94 (by decide) ?_
  exact k_Mo_launch_133 C0 hA res (q_up σ 48 0 1) x1 x2 x3 x5 hf H locs I ls (q_hsub hl [0, 1, 2, 3, 4] rfl)
def f_Mo_launch_70 (σ : q_St) (x1 : Int32) (x2 : Int32) (x3 : Int32) (x4 : Int32) (x5 : Int32) : Option (Int32 × q_St) := if x1 < 0 then (f_Mo_launch_89 σ x1 x2 x3 x5) else (if 3 < x1 then (f_Mo_launch_89 σ x1 x2 x3 x5) else (if x2 < (-1) then (f_Mo_launch_89 σ x1 x2 x3 x5) else (if x2 ≤ 3 then (if (σ 41 0) < 0 then (f_Mo_launch_108 σ x1 x2 x3 x4 x5) else (if x3 = 0 then (f_Mo_launch_128 σ x1 x2 x3 x5) else (f_Mo_launch_108 σ x1 x2 x3 x4 x5))) else (f_Mo_launch_89 σ x1 x2 x3 x5))))
set_option maxHeartbeats 4000000 in
set_option maxRecDepth 100000 in
theorem k_Mo_launch_70 {p : Program} {l : Launch} {e : Env} {s : State} {m : MethodId} {args : Array Value} {below : List Frame} {meth : Method} {c : Code} {D : va_G} {A : Nat → Prop} {ad : Nat → Nat} {cs : Nat → ClassId} (C0 : q_Cx "JobTerminalModel" b_Mo_launch 6 (some .int) w_Mo_launch D vwCl (tyL cs) NW p s m args meth c) (hA : ∀ q, s.heap.size ≤ q → A q) (res : (Int32 × q_St)) : ∀ (σ : q_St) (x1 : Int32) (x2 : Int32) (x3 : Int32) (x4 : Int32) (x5 : Int32) , f_Mo_launch_70 σ x1 x2 x3 x4 x5 = some res → ∀ (H : Heap) (locs : List Loc), q_I D vwCl A s.heap (q_ws 23 ad (cM ad cs σ)) H locs → ∀ ls : Array Slot, q_has ls 6 [(0, .ref (ad 0)), (1, .int x1), (2, .int x2), (3, .int x3), (4, .int x4), (5, .int x5)] → W p l e ({ frames := 1, cells := 0, slots := 0, locals := 23 } : Room) s m args below meth c H locs 0 0 (MQ below (q_Qi D vwCl res.1 (q_ws 23 ad (cM ad cs res.2)) A) args s 0 0 A) (F0 m 70 ls []) := by
  intro σ x1 x2 x3 x4 x5 hf H locs I ls hl
  unfold f_Mo_launch_70 at hf
  obtain ⟨hx, hb, hr, hml, hown, hts, hlocks, hK, hN⟩ := id C0
  have htg : ∀ w ∈ GW, w.before args s = true := fun w h => hts w (List.mem_cons_of_mem _ h)
  refine lv_iload_n hx hb d_Mo_launch_70 rfl (q_at hl 1 rfl) ?_
  refine lv_if_lt (tgt := 89) hx hb d_Mo_launch_71 (by decide) (fun c7 => ?_) (fun c7 => ?_)
  · rw [if_pos c7] at hf
    exact k_Mo_launch_89 C0 hA res σ x1 x2 x3 x5 hf H locs I ls (q_hsub hl [0, 1, 2, 3, 5] rfl)
  · rw [if_neg c7] at hf
    refine lv_iload_n hx hb d_Mo_launch_74 rfl (q_at hl 1 rfl) ?_
    refine lv_iconst (v := 3) hx hb d_Mo_launch_75 (by decide) ?_
    refine lv_icmp_gt (tgt := 89) hx hb d_Mo_launch_76 (by decide) (fun c8 => ?_) (fun c8 => ?_)
    · rw [if_pos c8] at hf
      exact k_Mo_launch_89 C0 hA res σ x1 x2 x3 x5 hf H locs I ls (q_hsub hl [0, 1, 2, 3, 5] rfl)
    · rw [if_neg c8] at hf
      refine lv_iload_n hx hb d_Mo_launch_79 rfl (q_at hl 2 rfl) ?_
      refine lv_iconst (v := -1) hx hb d_Mo_launch_80 (by decide) ?_
      refine lv_icmp_lt (tgt := 89) hx hb d_Mo_launch_81 (by decide) (fun c9 => ?_) (fun c9 => ?_)
      · rw [if_pos c9] at hf
        exact k_Mo_launch_89 C0 hA res σ x1 x2 x3 x5 hf H locs I ls (q_hsub hl [0, 1, 2, 3, 5] rfl)
      · rw [if_neg c9] at hf
        refine lv_iload_n hx hb d_Mo_launch_84 rfl (q_at hl 2 rfl) ?_
        refine lv_iconst (v := 3) hx hb d_Mo_launch_85 (by decide) ?_
        refine lv_icmp_le (tgt := 97) hx hb d_Mo_launch_86 (by decide) (fun c10 => ?_) (fun c10 => ?_)
        · rw [if_pos c10] at hf
          refine lv_aload_n hx hb d_Mo_launch_97 rfl (q_at hl 0 rfl) ?_
          refine G_Mo_Mo_front hx hb htg hown hK hN I d_Mo_launch_98 ?_
          refine lv_if_lt (tgt := 108) hx hb d_Mo_launch_101 (by decide) (fun c11 => ?_) (fun c11 => ?_)
          · rw [if_pos c11] at hf
            exact k_Mo_launch_108 C0 hA res σ x1 x2 x3 x4 x5 hf H locs I ls (q_hsub hl [0, 1, 2, 3, 4, 5] rfl)
          · rw [if_neg c11] at hf
            refine lv_iload_n hx hb d_Mo_launch_104 rfl (q_at hl 3 rfl) ?_
            refine lv_if_eq (tgt := 128) hx hb d_Mo_launch_105 (by decide) (fun c12 => ?_) (fun c12 => ?_)
            · rw [if_pos c12] at hf
              exact k_Mo_launch_128 C0 hA res σ x1 x2 x3 x5 hf H locs I ls (q_hsub hl [0, 1, 2, 3, 5] rfl)
            · rw [if_neg c12] at hf
              exact k_Mo_launch_108 C0 hA res σ x1 x2 x3 x4 x5 hf H locs I ls (q_hsub hl [0, 1, 2, 3, 4, 5] rfl)
        · rw [if_neg c10] at hf
          exact k_Mo_launch_89 C0 hA res σ x1 x2 x3 x5 hf H locs I ls (q_hsub hl [0, 1, 2, 3, 5] rfl)
def f_Mo_launch_48 : Nat → q_St → Int32 → Int32 → Int32 → Int32 → Int32 → Option (Int32 × q_St)
  | 0, _, _, _, _, _, _ => none
  | n + 1, σ, x1, x2, x3, x4, x5 => if 4 ≤ x5 then (f_Mo_launch_70 σ x1 x2 x3 x4 x5) else (q_grd (q_in x5 4) (if (σ 12 x5.toNatClampNeg) = 0 then (f_Mo_launch_70 σ x1 x2 x3 x4 x5) else (f_Mo_launch_48 n σ x1 x2 x3 x4 (x5 + 1))))
set_option maxHeartbeats 4000000 in
set_option maxRecDepth 100000 in
theorem k_Mo_launch_48 {p : Program} {l : Launch} {e : Env} {s : State} {m : MethodId} {args : Array Value} {below : List Frame} {meth : Method} {c : Code} {D : va_G} {A : Nat → Prop} {ad : Nat → Nat} {cs : Nat → ClassId} (C0 : q_Cx "JobTerminalModel" b_Mo_launch 6 (some .int) w_Mo_launch D vwCl (tyL cs) NW p s m args meth c) (hA : ∀ q, s.heap.size ≤ q → A q) (res : (Int32 × q_St)) : ∀ (n : Nat) (σ : q_St) (x1 : Int32) (x2 : Int32) (x3 : Int32) (x4 : Int32) (x5 : Int32) , f_Mo_launch_48 n σ x1 x2 x3 x4 x5 = some res → ∀ (H : Heap) (locs : List Loc), q_I D vwCl A s.heap (q_ws 23 ad (cM ad cs σ)) H locs → ∀ ls : Array Slot, q_has ls 6 [(0, .ref (ad 0)), (1, .int x1), (2, .int x2), (3, .int x3), (4, .int x4), (5, .int x5)] → W p l e ({ frames := 1, cells := 0, slots := 0, locals := 23 } : Room) s m args below meth c H locs 0 0 (MQ below (q_Qi D vwCl res.1 (q_ws 23 ad (cM ad cs res.2)) A) args s 0 0 A) (F0 m 48 ls []) := by
  intro n
  induction n with
  | zero => intro σ x1 x2 x3 x4 x5 hf; cases hf
  | succ n ih =>
    intro σ x1 x2 x3 x4 x5 hf H locs I ls hl
    have ih := ih
    rw [f_Mo_launch_48] at hf
    have C0 := C0
    obtain ⟨hx, hb, hr, hml, hown, hts, hlocks, hK, hN⟩ := id C0
    have htg : ∀ w ∈ GW, w.before args s = true := fun w h => hts w (List.mem_cons_of_mem _ h)
    refine lv_iload hx hb d_Mo_launch_48 (q_at hl 5 rfl) ?_
    refine lv_iconst (v := 4) hx hb d_Mo_launch_50 (by decide) ?_
    refine lv_icmp_ge (tgt := 70) hx hb d_Mo_launch_51 (by decide) (fun c4 => ?_) (fun c4 => ?_)
    · rw [if_pos c4] at hf
      exact k_Mo_launch_70 C0 hA res σ x1 x2 x3 x4 x5 hf H locs I ls (q_hsub hl [0, 1, 2, 3, 4, 5] rfl)
    · rw [if_neg c4] at hf
      refine lv_aload_n hx hb d_Mo_launch_54 rfl (q_at hl 0 rfl) ?_
      refine G_Mo_Mo_there hx hb htg hown hK hN I d_Mo_launch_55 ?_
      refine lv_iload hx hb d_Mo_launch_58 (q_at hl 5 rfl) ?_
      obtain ⟨o5, hf⟩ := q_grd_some hf
      refine A_M_there hx hb hK I o5 d_Mo_launch_60 ?_
      refine lv_if_eq (tgt := 70) hx hb d_Mo_launch_61 (by decide) (fun c6 => ?_) (fun c6 => ?_)
      · rw [if_pos c6] at hf
        exact k_Mo_launch_70 C0 hA res σ x1 x2 x3 x4 x5 hf H locs I ls (q_hsub hl [0, 1, 2, 3, 4, 5] rfl)
      · rw [if_neg c6] at hf
        refine q_iinc (v := x5 + 1) (lv' := [(5, .int (x5 + 1)), (0, .ref (ad 0)), (1, .int x1), (2, .int x2), (3, .int x3), (4, .int x4)]) hx hb d_Mo_launch_64 hl (k := 5) rfl rfl (by decide) rfl (fun ls hl => ?_)
        refine lv_goto (tgt := 48) hx hb d_Mo_launch_67 (by decide) ?_
        exact ih σ x1 x2 x3 x4 (x5 + 1) hf H locs I ls (q_hsub hl [1, 2, 3, 4, 5, 0] rfl)
def f_Mo_launch_37 (K11 : q_St → Int32 → Int32 → Int32 → Int32 → Int32 → Option (Int32 × q_St)) (σ : q_St) (x1 : Int32) (x2 : Int32) (x3 : Int32) (x5 : Int32) (y0 : Int32) : Option (Int32 × q_St) := K11 σ x1 x2 x3 y0 (x5 + 1)
set_option maxHeartbeats 4000000 in
set_option maxRecDepth 100000 in
theorem k_Mo_launch_37 {p : Program} {l : Launch} {e : Env} {s : State} {m : MethodId} {args : Array Value} {below : List Frame} {meth : Method} {c : Code} {D : va_G} {A : Nat → Prop} {ad : Nat → Nat} {cs : Nat → ClassId} (C0 : q_Cx "JobTerminalModel" b_Mo_launch 6 (some .int) w_Mo_launch D vwCl (tyL cs) NW p s m args meth c) (hA : ∀ q, s.heap.size ≤ q → A q) (res : (Int32 × q_St)) {K11 : q_St → Int32 → Int32 → Int32 → Int32 → Int32 → Option (Int32 × q_St)} (hk11 : ∀ (σ : q_St) (x1 : Int32) (x2 : Int32) (x3 : Int32) (x4 : Int32) (x5 : Int32) , K11 σ x1 x2 x3 x4 x5 = some res → ∀ (H : Heap) (locs : List Loc), q_I D vwCl A s.heap (q_ws 23 ad (cM ad cs σ)) H locs → ∀ ls : Array Slot, q_has ls 6 [(0, .ref (ad 0)), (1, .int x1), (2, .int x2), (3, .int x3), (4, .int x4), (5, .int x5)] → W p l e ({ frames := 1, cells := 0, slots := 0, locals := 23 } : Room) s m args below meth c H locs 0 0 (MQ below (q_Qi D vwCl res.1 (q_ws 23 ad (cM ad cs res.2)) A) args s 0 0 A) (F0 m 11 ls [])) : ∀ (σ : q_St) (x1 : Int32) (x2 : Int32) (x3 : Int32) (x5 : Int32) (y0 : Int32) , f_Mo_launch_37 K11 σ x1 x2 x3 x5 y0 = some res → ∀ (H : Heap) (locs : List Loc), q_I D vwCl A s.heap (q_ws 23 ad (cM ad cs σ)) H locs → ∀ ls : Array Slot, q_has ls 6 [(0, .ref (ad 0)), (1, .int x1), (2, .int x2), (3, .int x3), (5, .int x5)] → W p l e ({ frames := 1, cells := 0, slots := 0, locals := 23 } : Room) s m args below meth c H locs 0 0 (MQ below (q_Qi D vwCl res.1 (q_ws 23 ad (cM ad cs res.2)) A) args s 0 0 A) (F0 m 37 ls [.int y0]) := by
  intro σ x1 x2 x3 x5 y0 hf H locs I ls hl
  unfold f_Mo_launch_37 at hf
  obtain ⟨hx, hb, hr, hml, hown, hts, hlocks, hK, hN⟩ := id C0
  have htg : ∀ w ∈ GW, w.before args s = true := fun w h => hts w (List.mem_cons_of_mem _ h)
  refine q_istore (lv' := [(4, .int y0), (0, .ref (ad 0)), (1, .int x1), (2, .int x2), (3, .int x3), (5, .int x5)]) hx hb d_Mo_launch_37 hl (by decide) rfl (fun ls hl => ?_)
  refine q_iinc (v := x5 + 1) (lv' := [(5, .int (x5 + 1)), (4, .int y0), (0, .ref (ad 0)), (1, .int x1), (2, .int x2), (3, .int x3)]) hx hb d_Mo_launch_39 hl (k := 5) rfl rfl (by decide) rfl (fun ls hl => ?_)
  refine lv_goto (tgt := 11) hx hb d_Mo_launch_42 (by decide) ?_
  exact hk11 σ x1 x2 x3 y0 (x5 + 1) hf H locs I ls (q_hsub hl [2, 3, 4, 5, 1, 0] rfl)
def f_Mo_launch_11 : Nat → q_St → Int32 → Int32 → Int32 → Int32 → Int32 → Option (Int32 × q_St)
  | 0, _, _, _, _, _, _ => none
  | n + 1, σ, x1, x2, x3, x4, x5 => if 8 ≤ x5 then (f_Mo_launch_48 200 σ x1 x2 x3 x4 0) else (q_grd (q_in x5 8) (if (σ 2 x5.toNatClampNeg) = 0 then (f_Mo_launch_37 (f_Mo_launch_11 n) σ x1 x2 x3 x5 (x4 + 1)) else (f_Mo_launch_37 (f_Mo_launch_11 n) σ x1 x2 x3 x5 x4)))
set_option maxHeartbeats 4000000 in
set_option maxRecDepth 100000 in
theorem k_Mo_launch_11 {p : Program} {l : Launch} {e : Env} {s : State} {m : MethodId} {args : Array Value} {below : List Frame} {meth : Method} {c : Code} {D : va_G} {A : Nat → Prop} {ad : Nat → Nat} {cs : Nat → ClassId} (C0 : q_Cx "JobTerminalModel" b_Mo_launch 6 (some .int) w_Mo_launch D vwCl (tyL cs) NW p s m args meth c) (hA : ∀ q, s.heap.size ≤ q → A q) (res : (Int32 × q_St)) : ∀ (n : Nat) (σ : q_St) (x1 : Int32) (x2 : Int32) (x3 : Int32) (x4 : Int32) (x5 : Int32) , f_Mo_launch_11 n σ x1 x2 x3 x4 x5 = some res → ∀ (H : Heap) (locs : List Loc), q_I D vwCl A s.heap (q_ws 23 ad (cM ad cs σ)) H locs → ∀ ls : Array Slot, q_has ls 6 [(0, .ref (ad 0)), (1, .int x1), (2, .int x2), (3, .int x3), (4, .int x4), (5, .int x5)] → W p l e ({ frames := 1, cells := 0, slots := 0, locals := 23 } : Room) s m args below meth c H locs 0 0 (MQ below (q_Qi D vwCl res.1 (q_ws 23 ad (cM ad cs res.2)) A) args s 0 0 A) (F0 m 11 ls []) := by
  intro n
  induction n with
  | zero => intro σ x1 x2 x3 x4 x5 hf; cases hf
  | succ n ih =>
    intro σ x1 x2 x3 x4 x5 hf H locs I ls hl
    have ih := ih
    rw [f_Mo_launch_11] at hf
    have C0 := C0
    obtain ⟨hx, hb, hr, hml, hown, hts, hlocks, hK, hN⟩ := id C0
    have htg : ∀ w ∈ GW, w.before args s = true := fun w h => hts w (List.mem_cons_of_mem _ h)
    refine lv_iload hx hb d_Mo_launch_11 (q_at hl 5 rfl) ?_
    refine lv_bipush (v := 8) hx hb d_Mo_launch_13 (by decide) ?_
    refine lv_icmp_ge (tgt := 45) hx hb d_Mo_launch_15 (by decide) (fun c1 => ?_) (fun c1 => ?_)
    · rw [if_pos c1] at hf
      refine lv_iconst (v := 0) hx hb d_Mo_launch_45 (by decide) ?_
      refine q_istore (lv' := [(5, .int 0), (0, .ref (ad 0)), (1, .int x1), (2, .int x2), (3, .int x3), (4, .int x4)]) hx hb d_Mo_launch_46 hl (by decide) rfl (fun ls hl => ?_)
      exact k_Mo_launch_48 C0 hA res 200 σ x1 x2 x3 x4 0 hf H locs I ls (q_hsub hl [1, 2, 3, 4, 5, 0] rfl)
    · rw [if_neg c1] at hf
      refine lv_aload_n hx hb d_Mo_launch_18 rfl (q_at hl 0 rfl) ?_
      refine G_Mo_Mo_state hx hb htg hown hK hN I d_Mo_launch_19 ?_
      refine lv_iload hx hb d_Mo_launch_22 (q_at hl 5 rfl) ?_
      obtain ⟨o2, hf⟩ := q_grd_some hf
      refine A_M_state hx hb hK I o2 d_Mo_launch_24 ?_
      refine lv_if_ne (tgt := 35) hx hb d_Mo_launch_25 (by decide) (fun c3 => ?_) (fun c3 => ?_)
      · rw [if_neg c3] at hf
        refine lv_iload hx hb d_Mo_launch_35 (q_at hl 4 rfl) ?_
        exact k_Mo_launch_37 C0 hA res (K11 := f_Mo_launch_11 n) ih σ x1 x2 x3 x5 x4 hf H locs I ls (q_hsub hl [0, 1, 2, 3, 5] rfl)
      · rw [if_pos c3] at hf
        refine lv_iload hx hb d_Mo_launch_28 (q_at hl 4 rfl) ?_
        refine lv_iconst (v := 1) hx hb d_Mo_launch_30 (by decide) ?_
        refine lv_iadd hx hb d_Mo_launch_31 ?_
        refine lv_goto (tgt := 37) hx hb d_Mo_launch_32 (by decide) ?_
        exact k_Mo_launch_37 C0 hA res (K11 := f_Mo_launch_11 n) ih σ x1 x2 x3 x5 (x4 + 1) hf H locs I ls (q_hsub hl [0, 1, 2, 3, 5] rfl)
def f_Mo_launch (σ : q_St) (p1 : Int32) (p2 : Int32) (p3 : Int32) : Option (Int32 × q_St) := f_Mo_launch_11 200 (q_up σ 48 0 0) p1 p2 p3 0 0
set_option maxHeartbeats 4000000 in
set_option maxRecDepth 100000 in
theorem c_Mo_launch {l : Launch} {D : va_G} {ad : Nat → Nat} {cs : Nat → ClassId} {sz : Nat} {σ : q_St} {p1 : Int32} {p2 : Int32} {p3 : Int32} {res : (Int32 × q_St)} (hf : f_Mo_launch σ p1 p2 p3 = some res) : Met l y_Mo_launch w_Mo_launch ({ frames := 1, cells := 0, slots := 0, locals := 23 } : Room) (q_Pre D vwCl (tyL cs) NW [.ref (ad 0), .int p1, .int p2, .int p3] (q_ws 23 ad (cM ad cs σ)) sz) (q_Qi D vwCl res.1 (q_ws 23 ad (cM ad cs res.2)) (va_A (q_ws 23 ad (cM ad cs σ)) sz)) 0 0 (va_A (q_ws 23 ad (cM ad cs σ)) sz) := by
  refine Met.ofW (cc := b_Mo_launch) (maxL := 6) (ret := (some .int)) (by decide) rfl ?_
  intro p e s m args below meth c s₁ B hml hv
  obtain ⟨hargs, hsz, hP, hK, hD0, hN⟩ := hv
  have hx := B.exec
  have hb := B.bytes
  have hr := B.returns
  have hts := atoms_spec (ws := w_Mo_launch) B.pre
  have hown : s.vm.findClass "JobTerminalModel" = some m.cls := findClass_of_methodNamed B.named
  have hlocks := B.notSynchronized
  have htg : ∀ w ∈ GW, w.before args s = true := fun w h => hts w (List.mem_cons_of_mem _ h)
  subst hsz
  have hD := hD0.self (sz := s.heap.size)
  generalize hAe : va_A (q_ws 23 ad (cM ad cs σ)) s.heap.size = A at hD ⊢
  have hA : ∀ q : Nat, s.heap.size ≤ q → A q := fun q h => by rw [← hAe]; exact Or.inr h
  have I : q_I D vwCl A s.heap (q_ws 23 ad (cM ad cs σ)) s.heap [] := ⟨hP, hD, va_S.rf⟩
  obtain ⟨ls, hen, hl⟩ := q_entry (vs := [.ref (ad 0), .int p1, .int p2, .int p3]) (n := 6) (lv := [(0, .ref (ad 0)), (1, .int p1), (2, .int p2), (3, .int p3)]) (by intro v hv; simp only [List.mem_cons, List.not_mem_nil, or_false] at hv; rcases hv with rfl | rfl | rfl | rfl <;> first | rfl | exact q_cat) (Nat.le_of_ble_eq_true rfl) rfl
  rw [show entryFrame m args 6 = F0 m 0 ls [] from by rw [hargs]; exact hen m]
  have C0 : q_Cx "JobTerminalModel" b_Mo_launch 6 (some .int) w_Mo_launch D vwCl (tyL cs) NW p s m args meth c := ⟨hx, hb, hr, hml, hown, hts, hlocks, hK, hN⟩
  unfold f_Mo_launch at hf
  have hgo : ∀ (H : Heap) (locs : List Loc), q_I D vwCl A s.heap (q_ws 23 ad (cM ad cs σ)) H locs → W p l e ({ frames := 1, cells := 0, slots := 0, locals := 23 } : Room) s m args below meth c H locs 0 0 (MQ below (q_Qi D vwCl res.1 (q_ws 23 ad (cM ad cs res.2)) A) args s 0 0 A) (F0 m 0 ls []) := by
    intro H locs I
    refine lv_aload_n hx hb d_Mo_launch_0 rfl (q_at hl 0 rfl) ?_
    refine lv_iconst (v := 0) hx hb d_Mo_launch_1 (by decide) ?_
    refine P_Mo_Mo_code hx hb htg hown hK hN I d_Mo_launch_2 (fun H locs I => ?_)
    refine lv_iconst (v := 0) hx hb d_Mo_launch_5 (by decide) ?_
    refine q_istore (lv' := [(4, .int 0), (0, .ref (ad 0)), (1, .int p1), (2, .int p2), (3, .int p3)]) hx hb d_Mo_launch_6 hl (by decide) rfl (fun ls hl => ?_)
    refine lv_iconst (v := 0) hx hb d_Mo_launch_8 (by decide) ?_
    refine q_istore (lv' := [(5, .int 0), (4, .int 0), (0, .ref (ad 0)), (1, .int p1), (2, .int p2), (3, .int p3)]) hx hb d_Mo_launch_9 hl (by decide) rfl (fun ls hl => ?_)
    exact k_Mo_launch_11 C0 hA res 200 (q_up σ 48 0 0) p1 p2 p3 0 0 hf H locs I ls (q_hsub hl [2, 3, 4, 5, 1, 0] rfl)
  exact hgo _ _ I
-- JobTerminalModel goOn
def f_Mo_goOn (σ : q_St) (p1 : Int32) : Option (Int32 × q_St) := q_bnd (f_Mo_sendJob σ p1 5) (fun r1 => q_bnd (f_Mo_compare r1) (fun r3 => q_bnd (f_Mo_stateOf r3 p1) (fun r5 => some (r5.1, r5.2))))
set_option maxHeartbeats 4000000 in
set_option maxRecDepth 100000 in
theorem c_Mo_goOn {l : Launch} {D : va_G} {ad : Nat → Nat} {cs : Nat → ClassId} {sz : Nat} {σ : q_St} {p1 : Int32} {res : (Int32 × q_St)} (hf : f_Mo_goOn σ p1 = some res) : Met l y_Mo_goOn w_Mo_goOn ({ frames := 4, cells := 0, slots := 0, locals := 88 } : Room) (q_Pre D vwCl (tyL cs) NW [.ref (ad 0), .int p1] (q_ws 23 ad (cM ad cs σ)) sz) (q_Qi D vwCl res.1 (q_ws 23 ad (cM ad cs res.2)) (va_A (q_ws 23 ad (cM ad cs σ)) sz)) 0 0 (va_A (q_ws 23 ad (cM ad cs σ)) sz) := by
  refine Met.ofW (cc := b_Mo_goOn) (maxL := 2) (ret := (some .int)) (by decide) rfl ?_
  intro p e s m args below meth c s₁ B hml hv
  obtain ⟨hargs, hsz, hP, hK, hD0, hN⟩ := hv
  have hx := B.exec
  have hb := B.bytes
  have hr := B.returns
  have hts := atoms_spec (ws := w_Mo_goOn) B.pre
  have hown : s.vm.findClass "JobTerminalModel" = some m.cls := findClass_of_methodNamed B.named
  have hlocks := B.notSynchronized
  have htg : ∀ w ∈ GW, w.before args s = true := fun w h => hts w (List.mem_cons_of_mem _ h)
  subst hsz
  have hD := hD0.self (sz := s.heap.size)
  generalize hAe : va_A (q_ws 23 ad (cM ad cs σ)) s.heap.size = A at hD ⊢
  have hA : ∀ q : Nat, s.heap.size ≤ q → A q := fun q h => by rw [← hAe]; exact Or.inr h
  have I : q_I D vwCl A s.heap (q_ws 23 ad (cM ad cs σ)) s.heap [] := ⟨hP, hD, va_S.rf⟩
  obtain ⟨ls, hen, hl⟩ := q_entry (vs := [.ref (ad 0), .int p1]) (n := 2) (lv := [(0, .ref (ad 0)), (1, .int p1)]) (by intro v hv; simp only [List.mem_cons, List.not_mem_nil, or_false] at hv; rcases hv with rfl | rfl <;> first | rfl | exact q_cat) (Nat.le_of_ble_eq_true rfl) rfl
  rw [show entryFrame m args 2 = F0 m 0 ls [] from by rw [hargs]; exact hen m]
  have C0 : q_Cx "JobTerminalModel" b_Mo_goOn 2 (some .int) w_Mo_goOn D vwCl (tyL cs) NW p s m args meth c := ⟨hx, hb, hr, hml, hown, hts, hlocks, hK, hN⟩
  unfold f_Mo_goOn at hf
  have hgo : ∀ (H : Heap) (locs : List Loc), q_I D vwCl A s.heap (q_ws 23 ad (cM ad cs σ)) H locs → W p l e ({ frames := 4, cells := 0, slots := 0, locals := 88 } : Room) s m args below meth c H locs 0 0 (MQ below (q_Qi D vwCl res.1 (q_ws 23 ad (cM ad cs res.2)) A) args s 0 0 A) (F0 m 0 ls []) := by
    intro H locs I
    refine lv_aload_n hx hb d_Mo_goOn_0 rfl (q_at hl 0 rfl) ?_
    refine lv_iload_n hx hb d_Mo_goOn_1 rfl (q_at hl 1 rfl) ?_
    refine lv_iconst (v := 5) hx hb d_Mo_goOn_2 (by decide) ?_
    obtain ⟨r1, e2, hf⟩ := q_bnd_some hf
    refine q_kv hA I (q_runV (C := "JobTerminalModel") (As := [.int p1, .int 5]) (rest := []) ⟨hx, hb, hml, hown, hts⟩ (c_Mo_sendJob (sz := H.size) e2) (cwV 2 hts (q_goodV mw406 mw407 mw408 mw409 mw366) rfl rfl rfl (by decide +kernel) ⟨Nat.le_of_ble_eq_true rfl, Nat.le_of_ble_eq_true rfl⟩) NW_ok hK hN I rfl (q_wsE (by decide) (a_M_Mo)) rfl (q_sz hl) rfl (Nat.le_of_ble_eq_true rfl) d_Mo_goOn_3 ⟨Nat.zero_le _, Nat.zero_le _⟩) (fun H locs I => ?_)
    refine lv_aload_n hx hb d_Mo_goOn_6 rfl (q_at hl 0 rfl) ?_
    obtain ⟨r3, e4, hf⟩ := q_bnd_some hf
    refine q_kv hA I (q_runV (C := "JobTerminalModel") (As := []) (rest := []) ⟨hx, hb, hml, hown, hts⟩ (c_Mo_compare (sz := H.size) e4) (cwV 0 hts (q_goodV mw410 mw411 mw412 mw413 mw366) rfl rfl rfl (by decide +kernel) ⟨Nat.le_of_ble_eq_true rfl, Nat.le_of_ble_eq_true rfl⟩) NW_ok hK hN I rfl (q_wsE (by decide) (a_M_Mo)) rfl (q_sz hl) rfl (Nat.le_of_ble_eq_true rfl) d_Mo_goOn_7 ⟨Nat.zero_le _, Nat.zero_le _⟩) (fun H locs I => ?_)
    refine lv_aload_n hx hb d_Mo_goOn_10 rfl (q_at hl 0 rfl) ?_
    refine lv_iload_n hx hb d_Mo_goOn_11 rfl (q_at hl 1 rfl) ?_
    obtain ⟨r5, e6, hf⟩ := q_bnd_some hf
    refine q_ki hA I (q_runV (C := "JobTerminalModel") (As := [.int p1]) (rest := []) ⟨hx, hb, hml, hown, hts⟩ (c_Mo_stateOf (sz := H.size) e6) (cwV 1 hts (q_goodV mw362 mw363 mw364 mw365 mw366) rfl rfl rfl (by decide +kernel) ⟨Nat.le_of_ble_eq_true rfl, Nat.le_of_ble_eq_true rfl⟩) NW_ok hK hN I rfl (q_wsE (by decide) (a_M_Mo)) rfl (q_sz hl) rfl (Nat.le_of_ble_eq_true rfl) d_Mo_goOn_12 ⟨Nat.zero_le _, Nat.zero_le _⟩) (fun H locs I => ?_)
    cases hf
    exact q_iret hx hb hr hlocks I d_Mo_goOn_15
  exact hgo _ _ I
-- JobTerminalModel front
def f_Mo_front_42 (σ : q_St) (x1 : Int32) (y0 : Int32) : Option (Int32 × q_St) := if ((q_up σ 48 0 y0) 48 0) ≤ 0 then (q_bnd (f_Mo_goOn (q_up (q_up σ 48 0 y0) 41 0 x1) x1) (fun r7 => some (r7.1, r7.2))) else (some (0, q_up σ 48 0 y0))
set_option maxHeartbeats 4000000 in
set_option maxRecDepth 100000 in
theorem k_Mo_front_42 {p : Program} {l : Launch} {e : Env} {s : State} {m : MethodId} {args : Array Value} {below : List Frame} {meth : Method} {c : Code} {D : va_G} {A : Nat → Prop} {ad : Nat → Nat} {cs : Nat → ClassId} (C0 : q_Cx "JobTerminalModel" b_Mo_front 2 (some .int) w_Mo_front D vwCl (tyL cs) NW p s m args meth c) (hA : ∀ q, s.heap.size ≤ q → A q) (res : (Int32 × q_St)) : ∀ (σ : q_St) (x1 : Int32) (y0 : Int32) , f_Mo_front_42 σ x1 y0 = some res → ∀ (H : Heap) (locs : List Loc), q_I D vwCl A s.heap (q_ws 23 ad (cM ad cs σ)) H locs → ∀ ls : Array Slot, q_has ls 2 [(0, .ref (ad 0)), (1, .int x1)] → W p l e ({ frames := 5, cells := 0, slots := 0, locals := 109 } : Room) s m args below meth c H locs 0 0 (MQ below (q_Qi D vwCl res.1 (q_ws 23 ad (cM ad cs res.2)) A) args s 0 0 A) (F0 m 42 ls [.int y0, .ref (ad 0)]) := by
  intro σ x1 y0 hf H locs I ls hl
  unfold f_Mo_front_42 at hf
  obtain ⟨hx, hb, hr, hml, hown, hts, hlocks, hK, hN⟩ := id C0
  have htg : ∀ w ∈ GW, w.before args s = true := fun w h => hts w (List.mem_cons_of_mem _ h)
  refine P_Mo_Mo_code hx hb htg hown hK hN I d_Mo_front_42 (fun H locs I => ?_)
  refine lv_aload_n hx hb d_Mo_front_45 rfl (q_at hl 0 rfl) ?_
  refine G_Mo_Mo_code hx hb htg hown hK hN I d_Mo_front_46 ?_
  refine lv_if_le (tgt := 54) hx hb d_Mo_front_49 (by decide) (fun c6 => ?_) (fun c6 => ?_)
  · rw [if_pos c6] at hf
    refine lv_aload_n hx hb d_Mo_front_54 rfl (q_at hl 0 rfl) ?_
    refine lv_iload_n hx hb d_Mo_front_55 rfl (q_at hl 1 rfl) ?_
    refine P_Mo_Mo_front hx hb htg hown hK hN I d_Mo_front_56 (fun H locs I => ?_)
    refine lv_aload_n hx hb d_Mo_front_59 rfl (q_at hl 0 rfl) ?_
    refine lv_iload_n hx hb d_Mo_front_60 rfl (q_at hl 1 rfl) ?_
    obtain ⟨r7, e8, hf⟩ := q_bnd_some hf
    refine q_ki hA I (q_runV (C := "JobTerminalModel") (As := [.int x1]) (rest := []) ⟨hx, hb, hml, hown, hts⟩ (c_Mo_goOn (sz := H.size) e8) (cwV 1 hts (q_goodV mw426 mw427 mw428 mw429 mw366) rfl rfl rfl (by decide +kernel) ⟨Nat.le_of_ble_eq_true rfl, Nat.le_of_ble_eq_true rfl⟩) NW_ok hK hN I rfl (q_wsE (by decide) (a_M_Mo)) rfl (q_sz hl) rfl (Nat.le_of_ble_eq_true rfl) d_Mo_front_61 ⟨Nat.zero_le _, Nat.zero_le _⟩) (fun H locs I => ?_)
    cases hf
    exact q_iret hx hb hr hlocks I d_Mo_front_64
  · rw [if_neg c6] at hf
    refine lv_iconst (v := 0) hx hb d_Mo_front_52 (by decide) ?_
    cases hf
    exact q_iret hx hb hr hlocks I d_Mo_front_53
def f_Mo_front_37 (σ : q_St) (x1 : Int32) : Option (Int32 × q_St) := f_Mo_front_42 σ x1 2
set_option maxHeartbeats 4000000 in
set_option maxRecDepth 100000 in
theorem k_Mo_front_37 {p : Program} {l : Launch} {e : Env} {s : State} {m : MethodId} {args : Array Value} {below : List Frame} {meth : Method} {c : Code} {D : va_G} {A : Nat → Prop} {ad : Nat → Nat} {cs : Nat → ClassId} (C0 : q_Cx "JobTerminalModel" b_Mo_front 2 (some .int) w_Mo_front D vwCl (tyL cs) NW p s m args meth c) (hA : ∀ q, s.heap.size ≤ q → A q) (res : (Int32 × q_St)) : ∀ (σ : q_St) (x1 : Int32) , f_Mo_front_37 σ x1 = some res → ∀ (H : Heap) (locs : List Loc), q_I D vwCl A s.heap (q_ws 23 ad (cM ad cs σ)) H locs → ∀ ls : Array Slot, q_has ls 2 [(0, .ref (ad 0)), (1, .int x1)] → W p l e ({ frames := 5, cells := 0, slots := 0, locals := 109 } : Room) s m args below meth c H locs 0 0 (MQ below (q_Qi D vwCl res.1 (q_ws 23 ad (cM ad cs res.2)) A) args s 0 0 A) (F0 m 37 ls [.ref (ad 0)]) := by
  intro σ x1 hf H locs I ls hl
  unfold f_Mo_front_37 at hf
  obtain ⟨hx, hb, hr, hml, hown, hts, hlocks, hK, hN⟩ := id C0
  have htg : ∀ w ∈ GW, w.before args s = true := fun w h => hts w (List.mem_cons_of_mem _ h)
  refine lv_iconst (v := 2) hx hb d_Mo_front_37 (by decide) ?_
  refine lv_goto (tgt := 42) hx hb d_Mo_front_38 (by decide) ?_
  exact k_Mo_front_42 C0 hA res σ x1 2 hf H locs I ls (q_hsub hl [0, 1] rfl)
def f_Mo_front_28 (σ : q_St) (x1 : Int32) : Option (Int32 × q_St) := q_bnd (f_Mo_stateOf σ x1) (fun r9 => if r9.1 = 3 then (f_Mo_front_37 r9.2 x1) else (f_Mo_front_42 r9.2 x1 0))
set_option maxHeartbeats 4000000 in
set_option maxRecDepth 100000 in
theorem k_Mo_front_28 {p : Program} {l : Launch} {e : Env} {s : State} {m : MethodId} {args : Array Value} {below : List Frame} {meth : Method} {c : Code} {D : va_G} {A : Nat → Prop} {ad : Nat → Nat} {cs : Nat → ClassId} (C0 : q_Cx "JobTerminalModel" b_Mo_front 2 (some .int) w_Mo_front D vwCl (tyL cs) NW p s m args meth c) (hA : ∀ q, s.heap.size ≤ q → A q) (res : (Int32 × q_St)) : ∀ (σ : q_St) (x1 : Int32) , f_Mo_front_28 σ x1 = some res → ∀ (H : Heap) (locs : List Loc), q_I D vwCl A s.heap (q_ws 23 ad (cM ad cs σ)) H locs → ∀ ls : Array Slot, q_has ls 2 [(0, .ref (ad 0)), (1, .int x1)] → W p l e ({ frames := 5, cells := 0, slots := 0, locals := 109 } : Room) s m args below meth c H locs 0 0 (MQ below (q_Qi D vwCl res.1 (q_ws 23 ad (cM ad cs res.2)) A) args s 0 0 A) (F0 m 28 ls [.ref (ad 0)]) := by
  intro σ x1 hf H locs I ls hl
  unfold f_Mo_front_28 at hf
  obtain ⟨hx, hb, hr, hml, hown, hts, hlocks, hK, hN⟩ := id C0
  have htg : ∀ w ∈ GW, w.before args s = true := fun w h => hts w (List.mem_cons_of_mem _ h)
  refine lv_aload_n hx hb d_Mo_front_28 rfl (q_at hl 0 rfl) ?_
  refine lv_iload_n hx hb d_Mo_front_29 rfl (q_at hl 1 rfl) ?_
  obtain ⟨r9, e10, hf⟩ := q_bnd_some hf
  refine q_ki hA I (q_runV (C := "JobTerminalModel") (As := [.int x1]) (rest := [.ref (ad 0)]) ⟨hx, hb, hml, hown, hts⟩ (c_Mo_stateOf (sz := H.size) e10) (cwV 1 hts (q_goodV mw362 mw363 mw364 mw365 mw366) rfl rfl rfl (by decide +kernel) ⟨Nat.le_of_ble_eq_true rfl, Nat.le_of_ble_eq_true rfl⟩) NW_ok hK hN I rfl (q_wsE (by decide) (a_M_Mo)) rfl (q_sz hl) rfl (Nat.le_of_ble_eq_true rfl) d_Mo_front_30 ⟨Nat.zero_le _, Nat.zero_le _⟩) (fun H locs I => ?_)
  refine lv_iconst (v := 3) hx hb d_Mo_front_33 (by decide) ?_
  refine lv_icmp_ne (tgt := 41) hx hb d_Mo_front_34 (by decide) (fun c11 => ?_) (fun c11 => ?_)
  · rw [if_neg c11] at hf
    refine lv_iconst (v := 0) hx hb d_Mo_front_41 (by decide) ?_
    exact k_Mo_front_42 C0 hA res r9.2 x1 0 hf H locs I ls (q_hsub hl [0, 1] rfl)
  · rw [if_pos c11] at hf
    exact k_Mo_front_37 C0 hA res r9.2 x1 hf H locs I ls (q_hsub hl [0, 1] rfl)
def f_Mo_front (σ : q_St) (p1 : Int32) : Option (Int32 × q_St) := q_bnd (f_Mo_isJob σ p1) (fun r1 => if r1.1 = 0 then (f_Mo_front_42 r1.2 p1 1) else (if (r1.2 41 0) < 0 then (f_Mo_front_28 r1.2 p1) else (if (r1.2 41 0) = p1 then (f_Mo_front_28 r1.2 p1) else (f_Mo_front_37 r1.2 p1))))
set_option maxHeartbeats 4000000 in
set_option maxRecDepth 100000 in
theorem c_Mo_front {l : Launch} {D : va_G} {ad : Nat → Nat} {cs : Nat → ClassId} {sz : Nat} {σ : q_St} {p1 : Int32} {res : (Int32 × q_St)} (hf : f_Mo_front σ p1 = some res) : Met l y_Mo_front w_Mo_front ({ frames := 5, cells := 0, slots := 0, locals := 109 } : Room) (q_Pre D vwCl (tyL cs) NW [.ref (ad 0), .int p1] (q_ws 23 ad (cM ad cs σ)) sz) (q_Qi D vwCl res.1 (q_ws 23 ad (cM ad cs res.2)) (va_A (q_ws 23 ad (cM ad cs σ)) sz)) 0 0 (va_A (q_ws 23 ad (cM ad cs σ)) sz) := by
  refine Met.ofW (cc := b_Mo_front) (maxL := 2) (ret := (some .int)) (by decide) rfl ?_
  intro p e s m args below meth c s₁ B hml hv
  obtain ⟨hargs, hsz, hP, hK, hD0, hN⟩ := hv
  have hx := B.exec
  have hb := B.bytes
  have hr := B.returns
  have hts := atoms_spec (ws := w_Mo_front) B.pre
  have hown : s.vm.findClass "JobTerminalModel" = some m.cls := findClass_of_methodNamed B.named
  have hlocks := B.notSynchronized
  have htg : ∀ w ∈ GW, w.before args s = true := fun w h => hts w (List.mem_cons_of_mem _ h)
  subst hsz
  have hD := hD0.self (sz := s.heap.size)
  generalize hAe : va_A (q_ws 23 ad (cM ad cs σ)) s.heap.size = A at hD ⊢
  have hA : ∀ q : Nat, s.heap.size ≤ q → A q := fun q h => by rw [← hAe]; exact Or.inr h
  have I : q_I D vwCl A s.heap (q_ws 23 ad (cM ad cs σ)) s.heap [] := ⟨hP, hD, va_S.rf⟩
  obtain ⟨ls, hen, hl⟩ := q_entry (vs := [.ref (ad 0), .int p1]) (n := 2) (lv := [(0, .ref (ad 0)), (1, .int p1)]) (by intro v hv; simp only [List.mem_cons, List.not_mem_nil, or_false] at hv; rcases hv with rfl | rfl <;> first | rfl | exact q_cat) (Nat.le_of_ble_eq_true rfl) rfl
  rw [show entryFrame m args 2 = F0 m 0 ls [] from by rw [hargs]; exact hen m]
  have C0 : q_Cx "JobTerminalModel" b_Mo_front 2 (some .int) w_Mo_front D vwCl (tyL cs) NW p s m args meth c := ⟨hx, hb, hr, hml, hown, hts, hlocks, hK, hN⟩
  unfold f_Mo_front at hf
  have hgo : ∀ (H : Heap) (locs : List Loc), q_I D vwCl A s.heap (q_ws 23 ad (cM ad cs σ)) H locs → W p l e ({ frames := 5, cells := 0, slots := 0, locals := 109 } : Room) s m args below meth c H locs 0 0 (MQ below (q_Qi D vwCl res.1 (q_ws 23 ad (cM ad cs res.2)) A) args s 0 0 A) (F0 m 0 ls []) := by
    intro H locs I
    refine lv_aload_n hx hb d_Mo_front_0 rfl (q_at hl 0 rfl) ?_
    refine lv_aload_n hx hb d_Mo_front_1 rfl (q_at hl 0 rfl) ?_
    refine lv_iload_n hx hb d_Mo_front_2 rfl (q_at hl 1 rfl) ?_
    obtain ⟨r1, e2, hf⟩ := q_bnd_some hf
    refine q_ki hA I (q_runV (C := "JobTerminalModel") (As := [.int p1]) (rest := [.ref (ad 0)]) ⟨hx, hb, hml, hown, hts⟩ (c_Mo_isJob (sz := H.size) e2) (cwV 1 hts (q_goodV mw422 mw423 mw424 mw425 mw366) rfl rfl rfl (by decide +kernel) ⟨Nat.le_of_ble_eq_true rfl, Nat.le_of_ble_eq_true rfl⟩) NW_ok hK hN I rfl (q_wsE (by decide) (a_M_Mo)) rfl (q_sz hl) rfl (Nat.le_of_ble_eq_true rfl) d_Mo_front_3 ⟨Nat.zero_le _, Nat.zero_le _⟩) (fun H locs I => ?_)
    refine lv_if_ne (tgt := 13) hx hb d_Mo_front_6 (by decide) (fun c3 => ?_) (fun c3 => ?_)
    · rw [if_neg c3] at hf
      refine lv_aload_n hx hb d_Mo_front_13 rfl (q_at hl 0 rfl) ?_
      refine G_Mo_Mo_front hx hb htg hown hK hN I d_Mo_front_14 ?_
      refine lv_if_lt (tgt := 28) hx hb d_Mo_front_17 (by decide) (fun c4 => ?_) (fun c4 => ?_)
      · rw [if_pos c4] at hf
        exact k_Mo_front_28 C0 hA res r1.2 p1 hf H locs I ls (q_hsub hl [0, 1] rfl)
      · rw [if_neg c4] at hf
        refine lv_aload_n hx hb d_Mo_front_20 rfl (q_at hl 0 rfl) ?_
        refine G_Mo_Mo_front hx hb htg hown hK hN I d_Mo_front_21 ?_
        refine lv_iload_n hx hb d_Mo_front_24 rfl (q_at hl 1 rfl) ?_
        refine lv_icmp_ne (tgt := 37) hx hb d_Mo_front_25 (by decide) (fun c5 => ?_) (fun c5 => ?_)
        · rw [if_neg c5] at hf
          exact k_Mo_front_37 C0 hA res r1.2 p1 hf H locs I ls (q_hsub hl [0, 1] rfl)
        · rw [if_pos c5] at hf
          exact k_Mo_front_28 C0 hA res r1.2 p1 hf H locs I ls (q_hsub hl [0, 1] rfl)
    · rw [if_pos c3] at hf
      refine lv_iconst (v := 1) hx hb d_Mo_front_9 (by decide) ?_
      refine lv_goto (tgt := 42) hx hb d_Mo_front_10 (by decide) ?_
      exact k_Mo_front_42 C0 hA res r1.2 p1 1 hf H locs I ls (q_hsub hl [0, 1] rfl)
  exact hgo _ _ I
-- JobTerminalModel back
def f_Mo_back_56 (σ : q_St) (x1 : Int32) (y0 : Int32) : Option (Int32 × q_St) := q_bnd (f_Mo_goOn (q_up σ 41 0 y0) x1) (fun r9 => some (r9.1, r9.2))
set_option maxHeartbeats 4000000 in
set_option maxRecDepth 100000 in
theorem k_Mo_back_56 {p : Program} {l : Launch} {e : Env} {s : State} {m : MethodId} {args : Array Value} {below : List Frame} {meth : Method} {c : Code} {D : va_G} {A : Nat → Prop} {ad : Nat → Nat} {cs : Nat → ClassId} (C0 : q_Cx "JobTerminalModel" b_Mo_back 2 (some .int) w_Mo_back D vwCl (tyL cs) NW p s m args meth c) (hA : ∀ q, s.heap.size ≤ q → A q) (res : (Int32 × q_St)) : ∀ (σ : q_St) (x1 : Int32) (y0 : Int32) , f_Mo_back_56 σ x1 y0 = some res → ∀ (H : Heap) (locs : List Loc), q_I D vwCl A s.heap (q_ws 23 ad (cM ad cs σ)) H locs → ∀ ls : Array Slot, q_has ls 2 [(0, .ref (ad 0)), (1, .int x1)] → W p l e ({ frames := 5, cells := 0, slots := 0, locals := 109 } : Room) s m args below meth c H locs 0 0 (MQ below (q_Qi D vwCl res.1 (q_ws 23 ad (cM ad cs res.2)) A) args s 0 0 A) (F0 m 56 ls [.int y0, .ref (ad 0)]) := by
  intro σ x1 y0 hf H locs I ls hl
  unfold f_Mo_back_56 at hf
  obtain ⟨hx, hb, hr, hml, hown, hts, hlocks, hK, hN⟩ := id C0
  have htg : ∀ w ∈ GW, w.before args s = true := fun w h => hts w (List.mem_cons_of_mem _ h)
  refine P_Mo_Mo_front hx hb htg hown hK hN I d_Mo_back_56 (fun H locs I => ?_)
  refine lv_aload_n hx hb d_Mo_back_59 rfl (q_at hl 0 rfl) ?_
  refine lv_iload_n hx hb d_Mo_back_60 rfl (q_at hl 1 rfl) ?_
  obtain ⟨r9, e10, hf⟩ := q_bnd_some hf
  refine q_ki hA I (q_runV (C := "JobTerminalModel") (As := [.int x1]) (rest := []) ⟨hx, hb, hml, hown, hts⟩ (c_Mo_goOn (sz := H.size) e10) (cwV 1 hts (q_goodV mw426 mw427 mw428 mw429 mw366) rfl rfl rfl (by decide +kernel) ⟨Nat.le_of_ble_eq_true rfl, Nat.le_of_ble_eq_true rfl⟩) NW_ok hK hN I rfl (q_wsE (by decide) (a_M_Mo)) rfl (q_sz hl) rfl (Nat.le_of_ble_eq_true rfl) d_Mo_back_61 ⟨Nat.zero_le _, Nat.zero_le _⟩) (fun H locs I => ?_)
  cases hf
  exact q_iret hx hb hr hlocks I d_Mo_back_64
def f_Mo_back_27 (σ : q_St) (x1 : Int32) (y0 : Int32) : Option (Int32 × q_St) := if ((q_up σ 48 0 y0) 48 0) ≤ 0 then (if ((q_up σ 48 0 y0) 41 0) = x1 then (f_Mo_back_56 (q_up σ 48 0 y0) x1 (-1)) else (f_Mo_back_56 (q_up σ 48 0 y0) x1 ((q_up σ 48 0 y0) 41 0))) else (some (0, q_up σ 48 0 y0))
set_option maxHeartbeats 4000000 in
set_option maxRecDepth 100000 in
theorem k_Mo_back_27 {p : Program} {l : Launch} {e : Env} {s : State} {m : MethodId} {args : Array Value} {below : List Frame} {meth : Method} {c : Code} {D : va_G} {A : Nat → Prop} {ad : Nat → Nat} {cs : Nat → ClassId} (C0 : q_Cx "JobTerminalModel" b_Mo_back 2 (some .int) w_Mo_back D vwCl (tyL cs) NW p s m args meth c) (hA : ∀ q, s.heap.size ≤ q → A q) (res : (Int32 × q_St)) : ∀ (σ : q_St) (x1 : Int32) (y0 : Int32) , f_Mo_back_27 σ x1 y0 = some res → ∀ (H : Heap) (locs : List Loc), q_I D vwCl A s.heap (q_ws 23 ad (cM ad cs σ)) H locs → ∀ ls : Array Slot, q_has ls 2 [(0, .ref (ad 0)), (1, .int x1)] → W p l e ({ frames := 5, cells := 0, slots := 0, locals := 109 } : Room) s m args below meth c H locs 0 0 (MQ below (q_Qi D vwCl res.1 (q_ws 23 ad (cM ad cs res.2)) A) args s 0 0 A) (F0 m 27 ls [.int y0, .ref (ad 0)]) := by
  intro σ x1 y0 hf H locs I ls hl
  unfold f_Mo_back_27 at hf
  obtain ⟨hx, hb, hr, hml, hown, hts, hlocks, hK, hN⟩ := id C0
  have htg : ∀ w ∈ GW, w.before args s = true := fun w h => hts w (List.mem_cons_of_mem _ h)
  refine P_Mo_Mo_code hx hb htg hown hK hN I d_Mo_back_27 (fun H locs I => ?_)
  refine lv_aload_n hx hb d_Mo_back_30 rfl (q_at hl 0 rfl) ?_
  refine G_Mo_Mo_code hx hb htg hown hK hN I d_Mo_back_31 ?_
  refine lv_if_le (tgt := 39) hx hb d_Mo_back_34 (by decide) (fun c7 => ?_) (fun c7 => ?_)
  · rw [if_pos c7] at hf
    refine lv_aload_n hx hb d_Mo_back_39 rfl (q_at hl 0 rfl) ?_
    refine lv_aload_n hx hb d_Mo_back_40 rfl (q_at hl 0 rfl) ?_
    refine G_Mo_Mo_front hx hb htg hown hK hN I d_Mo_back_41 ?_
    refine lv_iload_n hx hb d_Mo_back_44 rfl (q_at hl 1 rfl) ?_
    refine lv_icmp_ne (tgt := 52) hx hb d_Mo_back_45 (by decide) (fun c8 => ?_) (fun c8 => ?_)
    · rw [if_neg c8] at hf
      refine lv_aload_n hx hb d_Mo_back_52 rfl (q_at hl 0 rfl) ?_
      refine G_Mo_Mo_front hx hb htg hown hK hN I d_Mo_back_53 ?_
      exact k_Mo_back_56 C0 hA res (q_up σ 48 0 y0) x1 ((q_up σ 48 0 y0) 41 0) hf H locs I ls (q_hsub hl [0, 1] rfl)
    · rw [if_pos c8] at hf
      refine lv_iconst (v := -1) hx hb d_Mo_back_48 (by decide) ?_
      refine lv_goto (tgt := 56) hx hb d_Mo_back_49 (by decide) ?_
      exact k_Mo_back_56 C0 hA res (q_up σ 48 0 y0) x1 (-1) hf H locs I ls (q_hsub hl [0, 1] rfl)
  · rw [if_neg c7] at hf
    refine lv_iconst (v := 0) hx hb d_Mo_back_37 (by decide) ?_
    cases hf
    exact q_iret hx hb hr hlocks I d_Mo_back_38
def f_Mo_back (σ : q_St) (p1 : Int32) : Option (Int32 × q_St) := q_bnd (f_Mo_isJob σ p1) (fun r1 => if r1.1 = 0 then (f_Mo_back_27 r1.2 p1 1) else (q_bnd (f_Mo_stateOf r1.2 p1) (fun r4 => if r4.1 = 3 then (f_Mo_back_27 r4.2 p1 2) else (f_Mo_back_27 r4.2 p1 0))))
set_option maxHeartbeats 4000000 in
set_option maxRecDepth 100000 in
theorem c_Mo_back {l : Launch} {D : va_G} {ad : Nat → Nat} {cs : Nat → ClassId} {sz : Nat} {σ : q_St} {p1 : Int32} {res : (Int32 × q_St)} (hf : f_Mo_back σ p1 = some res) : Met l y_Mo_back w_Mo_back ({ frames := 5, cells := 0, slots := 0, locals := 109 } : Room) (q_Pre D vwCl (tyL cs) NW [.ref (ad 0), .int p1] (q_ws 23 ad (cM ad cs σ)) sz) (q_Qi D vwCl res.1 (q_ws 23 ad (cM ad cs res.2)) (va_A (q_ws 23 ad (cM ad cs σ)) sz)) 0 0 (va_A (q_ws 23 ad (cM ad cs σ)) sz) := by
  refine Met.ofW (cc := b_Mo_back) (maxL := 2) (ret := (some .int)) (by decide) rfl ?_
  intro p e s m args below meth c s₁ B hml hv
  obtain ⟨hargs, hsz, hP, hK, hD0, hN⟩ := hv
  have hx := B.exec
  have hb := B.bytes
  have hr := B.returns
  have hts := atoms_spec (ws := w_Mo_back) B.pre
  have hown : s.vm.findClass "JobTerminalModel" = some m.cls := findClass_of_methodNamed B.named
  have hlocks := B.notSynchronized
  have htg : ∀ w ∈ GW, w.before args s = true := fun w h => hts w (List.mem_cons_of_mem _ h)
  subst hsz
  have hD := hD0.self (sz := s.heap.size)
  generalize hAe : va_A (q_ws 23 ad (cM ad cs σ)) s.heap.size = A at hD ⊢
  have hA : ∀ q : Nat, s.heap.size ≤ q → A q := fun q h => by rw [← hAe]; exact Or.inr h
  have I : q_I D vwCl A s.heap (q_ws 23 ad (cM ad cs σ)) s.heap [] := ⟨hP, hD, va_S.rf⟩
  obtain ⟨ls, hen, hl⟩ := q_entry (vs := [.ref (ad 0), .int p1]) (n := 2) (lv := [(0, .ref (ad 0)), (1, .int p1)]) (by intro v hv; simp only [List.mem_cons, List.not_mem_nil, or_false] at hv; rcases hv with rfl | rfl <;> first | rfl | exact q_cat) (Nat.le_of_ble_eq_true rfl) rfl
  rw [show entryFrame m args 2 = F0 m 0 ls [] from by rw [hargs]; exact hen m]
  have C0 : q_Cx "JobTerminalModel" b_Mo_back 2 (some .int) w_Mo_back D vwCl (tyL cs) NW p s m args meth c := ⟨hx, hb, hr, hml, hown, hts, hlocks, hK, hN⟩
  unfold f_Mo_back at hf
  have hgo : ∀ (H : Heap) (locs : List Loc), q_I D vwCl A s.heap (q_ws 23 ad (cM ad cs σ)) H locs → W p l e ({ frames := 5, cells := 0, slots := 0, locals := 109 } : Room) s m args below meth c H locs 0 0 (MQ below (q_Qi D vwCl res.1 (q_ws 23 ad (cM ad cs res.2)) A) args s 0 0 A) (F0 m 0 ls []) := by
    intro H locs I
    refine lv_aload_n hx hb d_Mo_back_0 rfl (q_at hl 0 rfl) ?_
    refine lv_aload_n hx hb d_Mo_back_1 rfl (q_at hl 0 rfl) ?_
    refine lv_iload_n hx hb d_Mo_back_2 rfl (q_at hl 1 rfl) ?_
    obtain ⟨r1, e2, hf⟩ := q_bnd_some hf
    refine q_ki hA I (q_runV (C := "JobTerminalModel") (As := [.int p1]) (rest := [.ref (ad 0)]) ⟨hx, hb, hml, hown, hts⟩ (c_Mo_isJob (sz := H.size) e2) (cwV 1 hts (q_goodV mw422 mw423 mw424 mw425 mw366) rfl rfl rfl (by decide +kernel) ⟨Nat.le_of_ble_eq_true rfl, Nat.le_of_ble_eq_true rfl⟩) NW_ok hK hN I rfl (q_wsE (by decide) (a_M_Mo)) rfl (q_sz hl) rfl (Nat.le_of_ble_eq_true rfl) d_Mo_back_3 ⟨Nat.zero_le _, Nat.zero_le _⟩) (fun H locs I => ?_)
    refine lv_if_ne (tgt := 13) hx hb d_Mo_back_6 (by decide) (fun c3 => ?_) (fun c3 => ?_)
    · rw [if_neg c3] at hf
      refine lv_aload_n hx hb d_Mo_back_13 rfl (q_at hl 0 rfl) ?_
      refine lv_iload_n hx hb d_Mo_back_14 rfl (q_at hl 1 rfl) ?_
      obtain ⟨r4, e5, hf⟩ := q_bnd_some hf
      refine q_ki hA I (q_runV (C := "JobTerminalModel") (As := [.int p1]) (rest := [.ref (ad 0)]) ⟨hx, hb, hml, hown, hts⟩ (c_Mo_stateOf (sz := H.size) e5) (cwV 1 hts (q_goodV mw362 mw363 mw364 mw365 mw366) rfl rfl rfl (by decide +kernel) ⟨Nat.le_of_ble_eq_true rfl, Nat.le_of_ble_eq_true rfl⟩) NW_ok hK hN I rfl (q_wsE (by decide) (a_M_Mo)) rfl (q_sz hl) rfl (Nat.le_of_ble_eq_true rfl) d_Mo_back_15 ⟨Nat.zero_le _, Nat.zero_le _⟩) (fun H locs I => ?_)
      refine lv_iconst (v := 3) hx hb d_Mo_back_18 (by decide) ?_
      refine lv_icmp_ne (tgt := 26) hx hb d_Mo_back_19 (by decide) (fun c6 => ?_) (fun c6 => ?_)
      · rw [if_neg c6] at hf
        refine lv_iconst (v := 0) hx hb d_Mo_back_26 (by decide) ?_
        exact k_Mo_back_27 C0 hA res r4.2 p1 0 hf H locs I ls (q_hsub hl [0, 1] rfl)
      · rw [if_pos c6] at hf
        refine lv_iconst (v := 2) hx hb d_Mo_back_22 (by decide) ?_
        refine lv_goto (tgt := 27) hx hb d_Mo_back_23 (by decide) ?_
        exact k_Mo_back_27 C0 hA res r4.2 p1 2 hf H locs I ls (q_hsub hl [0, 1] rfl)
    · rw [if_pos c3] at hf
      refine lv_iconst (v := 1) hx hb d_Mo_back_9 (by decide) ?_
      refine lv_goto (tgt := 27) hx hb d_Mo_back_10 (by decide) ?_
      exact k_Mo_back_27 C0 hA res r1.2 p1 1 hf H locs I ls (q_hsub hl [0, 1] rfl)
  exact hgo _ _ I
-- JobTerminalModel send
def f_Mo_send_24 (σ : q_St) (x1 : Int32) (x2 : Int32) (y0 : Int32) : Option (Int32 × q_St) := if ((q_up σ 48 0 y0) 48 0) ≤ 0 then (q_bnd (f_Mo_sendJob (q_up σ 48 0 y0) x1 x2) (fun r7 => q_bnd (f_Mo_compare r7) (fun r9 => q_bnd (f_Mo_stateOf r9 x1) (fun r11 => some (r11.1, r11.2))))) else (some (0, q_up σ 48 0 y0))
set_option maxHeartbeats 4000000 in
set_option maxRecDepth 100000 in
theorem k_Mo_send_24 {p : Program} {l : Launch} {e : Env} {s : State} {m : MethodId} {args : Array Value} {below : List Frame} {meth : Method} {c : Code} {D : va_G} {A : Nat → Prop} {ad : Nat → Nat} {cs : Nat → ClassId} (C0 : q_Cx "JobTerminalModel" b_Mo_send 3 (some .int) w_Mo_send D vwCl (tyL cs) NW p s m args meth c) (hA : ∀ q, s.heap.size ≤ q → A q) (res : (Int32 × q_St)) : ∀ (σ : q_St) (x1 : Int32) (x2 : Int32) (y0 : Int32) , f_Mo_send_24 σ x1 x2 y0 = some res → ∀ (H : Heap) (locs : List Loc), q_I D vwCl A s.heap (q_ws 23 ad (cM ad cs σ)) H locs → ∀ ls : Array Slot, q_has ls 3 [(0, .ref (ad 0)), (1, .int x1), (2, .int x2)] → W p l e ({ frames := 4, cells := 0, slots := 0, locals := 88 } : Room) s m args below meth c H locs 0 0 (MQ below (q_Qi D vwCl res.1 (q_ws 23 ad (cM ad cs res.2)) A) args s 0 0 A) (F0 m 24 ls [.int y0, .ref (ad 0)]) := by
  intro σ x1 x2 y0 hf H locs I ls hl
  unfold f_Mo_send_24 at hf
  obtain ⟨hx, hb, hr, hml, hown, hts, hlocks, hK, hN⟩ := id C0
  have htg : ∀ w ∈ GW, w.before args s = true := fun w h => hts w (List.mem_cons_of_mem _ h)
  refine P_Mo_Mo_code hx hb htg hown hK hN I d_Mo_send_24 (fun H locs I => ?_)
  refine lv_aload_n hx hb d_Mo_send_27 rfl (q_at hl 0 rfl) ?_
  refine G_Mo_Mo_code hx hb htg hown hK hN I d_Mo_send_28 ?_
  refine lv_if_le (tgt := 36) hx hb d_Mo_send_31 (by decide) (fun c6 => ?_) (fun c6 => ?_)
  · rw [if_pos c6] at hf
    refine lv_aload_n hx hb d_Mo_send_36 rfl (q_at hl 0 rfl) ?_
    refine lv_iload_n hx hb d_Mo_send_37 rfl (q_at hl 1 rfl) ?_
    refine lv_iload_n hx hb d_Mo_send_38 rfl (q_at hl 2 rfl) ?_
    obtain ⟨r7, e8, hf⟩ := q_bnd_some hf
    refine q_kv hA I (q_runV (C := "JobTerminalModel") (As := [.int x1, .int x2]) (rest := []) ⟨hx, hb, hml, hown, hts⟩ (c_Mo_sendJob (sz := H.size) e8) (cwV 2 hts (q_goodV mw406 mw407 mw408 mw409 mw366) rfl rfl rfl (by decide +kernel) ⟨Nat.le_of_ble_eq_true rfl, Nat.le_of_ble_eq_true rfl⟩) NW_ok hK hN I rfl (q_wsE (by decide) (a_M_Mo)) rfl (q_sz hl) rfl (Nat.le_of_ble_eq_true rfl) d_Mo_send_39 ⟨Nat.zero_le _, Nat.zero_le _⟩) (fun H locs I => ?_)
    refine lv_aload_n hx hb d_Mo_send_42 rfl (q_at hl 0 rfl) ?_
    obtain ⟨r9, e10, hf⟩ := q_bnd_some hf
    refine q_kv hA I (q_runV (C := "JobTerminalModel") (As := []) (rest := []) ⟨hx, hb, hml, hown, hts⟩ (c_Mo_compare (sz := H.size) e10) (cwV 0 hts (q_goodV mw410 mw411 mw412 mw413 mw366) rfl rfl rfl (by decide +kernel) ⟨Nat.le_of_ble_eq_true rfl, Nat.le_of_ble_eq_true rfl⟩) NW_ok hK hN I rfl (q_wsE (by decide) (a_M_Mo)) rfl (q_sz hl) rfl (Nat.le_of_ble_eq_true rfl) d_Mo_send_43 ⟨Nat.zero_le _, Nat.zero_le _⟩) (fun H locs I => ?_)
    refine lv_aload_n hx hb d_Mo_send_46 rfl (q_at hl 0 rfl) ?_
    refine lv_iload_n hx hb d_Mo_send_47 rfl (q_at hl 1 rfl) ?_
    obtain ⟨r11, e12, hf⟩ := q_bnd_some hf
    refine q_ki hA I (q_runV (C := "JobTerminalModel") (As := [.int x1]) (rest := []) ⟨hx, hb, hml, hown, hts⟩ (c_Mo_stateOf (sz := H.size) e12) (cwV 1 hts (q_goodV mw362 mw363 mw364 mw365 mw366) rfl rfl rfl (by decide +kernel) ⟨Nat.le_of_ble_eq_true rfl, Nat.le_of_ble_eq_true rfl⟩) NW_ok hK hN I rfl (q_wsE (by decide) (a_M_Mo)) rfl (q_sz hl) rfl (Nat.le_of_ble_eq_true rfl) d_Mo_send_48 ⟨Nat.zero_le _, Nat.zero_le _⟩) (fun H locs I => ?_)
    cases hf
    exact q_iret hx hb hr hlocks I d_Mo_send_51
  · rw [if_neg c6] at hf
    refine lv_iconst (v := 0) hx hb d_Mo_send_34 (by decide) ?_
    cases hf
    exact q_iret hx hb hr hlocks I d_Mo_send_35
def f_Mo_send_19 (σ : q_St) (x1 : Int32) (x2 : Int32) : Option (Int32 × q_St) := f_Mo_send_24 σ x1 x2 1
set_option maxHeartbeats 4000000 in
set_option maxRecDepth 100000 in
theorem k_Mo_send_19 {p : Program} {l : Launch} {e : Env} {s : State} {m : MethodId} {args : Array Value} {below : List Frame} {meth : Method} {c : Code} {D : va_G} {A : Nat → Prop} {ad : Nat → Nat} {cs : Nat → ClassId} (C0 : q_Cx "JobTerminalModel" b_Mo_send 3 (some .int) w_Mo_send D vwCl (tyL cs) NW p s m args meth c) (hA : ∀ q, s.heap.size ≤ q → A q) (res : (Int32 × q_St)) : ∀ (σ : q_St) (x1 : Int32) (x2 : Int32) , f_Mo_send_19 σ x1 x2 = some res → ∀ (H : Heap) (locs : List Loc), q_I D vwCl A s.heap (q_ws 23 ad (cM ad cs σ)) H locs → ∀ ls : Array Slot, q_has ls 3 [(0, .ref (ad 0)), (1, .int x1), (2, .int x2)] → W p l e ({ frames := 4, cells := 0, slots := 0, locals := 88 } : Room) s m args below meth c H locs 0 0 (MQ below (q_Qi D vwCl res.1 (q_ws 23 ad (cM ad cs res.2)) A) args s 0 0 A) (F0 m 19 ls [.ref (ad 0)]) := by
  intro σ x1 x2 hf H locs I ls hl
  unfold f_Mo_send_19 at hf
  obtain ⟨hx, hb, hr, hml, hown, hts, hlocks, hK, hN⟩ := id C0
  have htg : ∀ w ∈ GW, w.before args s = true := fun w h => hts w (List.mem_cons_of_mem _ h)
  refine lv_iconst (v := 1) hx hb d_Mo_send_19 (by decide) ?_
  refine lv_goto (tgt := 24) hx hb d_Mo_send_20 (by decide) ?_
  exact k_Mo_send_24 C0 hA res σ x1 x2 1 hf H locs I ls (q_hsub hl [0, 1, 2] rfl)
def f_Mo_send (σ : q_St) (p1 : Int32) (p2 : Int32) : Option (Int32 × q_St) := q_bnd (f_Mo_isJob σ p1) (fun r1 => if r1.1 = 0 then (f_Mo_send_19 r1.2 p1 p2) else (if p2 < 0 then (f_Mo_send_19 r1.2 p1 p2) else (if p2 ≤ 9 then (f_Mo_send_24 r1.2 p1 p2 0) else (f_Mo_send_19 r1.2 p1 p2))))
set_option maxHeartbeats 4000000 in
set_option maxRecDepth 100000 in
theorem c_Mo_send {l : Launch} {D : va_G} {ad : Nat → Nat} {cs : Nat → ClassId} {sz : Nat} {σ : q_St} {p1 : Int32} {p2 : Int32} {res : (Int32 × q_St)} (hf : f_Mo_send σ p1 p2 = some res) : Met l y_Mo_send w_Mo_send ({ frames := 4, cells := 0, slots := 0, locals := 88 } : Room) (q_Pre D vwCl (tyL cs) NW [.ref (ad 0), .int p1, .int p2] (q_ws 23 ad (cM ad cs σ)) sz) (q_Qi D vwCl res.1 (q_ws 23 ad (cM ad cs res.2)) (va_A (q_ws 23 ad (cM ad cs σ)) sz)) 0 0 (va_A (q_ws 23 ad (cM ad cs σ)) sz) := by
  refine Met.ofW (cc := b_Mo_send) (maxL := 3) (ret := (some .int)) (by decide) rfl ?_
  intro p e s m args below meth c s₁ B hml hv
  obtain ⟨hargs, hsz, hP, hK, hD0, hN⟩ := hv
  have hx := B.exec
  have hb := B.bytes
  have hr := B.returns
  have hts := atoms_spec (ws := w_Mo_send) B.pre
  have hown : s.vm.findClass "JobTerminalModel" = some m.cls := findClass_of_methodNamed B.named
  have hlocks := B.notSynchronized
  have htg : ∀ w ∈ GW, w.before args s = true := fun w h => hts w (List.mem_cons_of_mem _ h)
  subst hsz
  have hD := hD0.self (sz := s.heap.size)
  generalize hAe : va_A (q_ws 23 ad (cM ad cs σ)) s.heap.size = A at hD ⊢
  have hA : ∀ q : Nat, s.heap.size ≤ q → A q := fun q h => by rw [← hAe]; exact Or.inr h
  have I : q_I D vwCl A s.heap (q_ws 23 ad (cM ad cs σ)) s.heap [] := ⟨hP, hD, va_S.rf⟩
  obtain ⟨ls, hen, hl⟩ := q_entry (vs := [.ref (ad 0), .int p1, .int p2]) (n := 3) (lv := [(0, .ref (ad 0)), (1, .int p1), (2, .int p2)]) (by intro v hv; simp only [List.mem_cons, List.not_mem_nil, or_false] at hv; rcases hv with rfl | rfl | rfl <;> first | rfl | exact q_cat) (Nat.le_of_ble_eq_true rfl) rfl
  rw [show entryFrame m args 3 = F0 m 0 ls [] from by rw [hargs]; exact hen m]
  have C0 : q_Cx "JobTerminalModel" b_Mo_send 3 (some .int) w_Mo_send D vwCl (tyL cs) NW p s m args meth c := ⟨hx, hb, hr, hml, hown, hts, hlocks, hK, hN⟩
  unfold f_Mo_send at hf
  have hgo : ∀ (H : Heap) (locs : List Loc), q_I D vwCl A s.heap (q_ws 23 ad (cM ad cs σ)) H locs → W p l e ({ frames := 4, cells := 0, slots := 0, locals := 88 } : Room) s m args below meth c H locs 0 0 (MQ below (q_Qi D vwCl res.1 (q_ws 23 ad (cM ad cs res.2)) A) args s 0 0 A) (F0 m 0 ls []) := by
    intro H locs I
    refine lv_aload_n hx hb d_Mo_send_0 rfl (q_at hl 0 rfl) ?_
    refine lv_aload_n hx hb d_Mo_send_1 rfl (q_at hl 0 rfl) ?_
    refine lv_iload_n hx hb d_Mo_send_2 rfl (q_at hl 1 rfl) ?_
    obtain ⟨r1, e2, hf⟩ := q_bnd_some hf
    refine q_ki hA I (q_runV (C := "JobTerminalModel") (As := [.int p1]) (rest := [.ref (ad 0)]) ⟨hx, hb, hml, hown, hts⟩ (c_Mo_isJob (sz := H.size) e2) (cwV 1 hts (q_goodV mw422 mw423 mw424 mw425 mw366) rfl rfl rfl (by decide +kernel) ⟨Nat.le_of_ble_eq_true rfl, Nat.le_of_ble_eq_true rfl⟩) NW_ok hK hN I rfl (q_wsE (by decide) (a_M_Mo)) rfl (q_sz hl) rfl (Nat.le_of_ble_eq_true rfl) d_Mo_send_3 ⟨Nat.zero_le _, Nat.zero_le _⟩) (fun H locs I => ?_)
    refine lv_if_eq (tgt := 19) hx hb d_Mo_send_6 (by decide) (fun c3 => ?_) (fun c3 => ?_)
    · rw [if_pos c3] at hf
      exact k_Mo_send_19 C0 hA res r1.2 p1 p2 hf H locs I ls (q_hsub hl [0, 1, 2] rfl)
    · rw [if_neg c3] at hf
      refine lv_iload_n hx hb d_Mo_send_9 rfl (q_at hl 2 rfl) ?_
      refine lv_if_lt (tgt := 19) hx hb d_Mo_send_10 (by decide) (fun c4 => ?_) (fun c4 => ?_)
      · rw [if_pos c4] at hf
        exact k_Mo_send_19 C0 hA res r1.2 p1 p2 hf H locs I ls (q_hsub hl [0, 1, 2] rfl)
      · rw [if_neg c4] at hf
        refine lv_iload_n hx hb d_Mo_send_13 rfl (q_at hl 2 rfl) ?_
        refine lv_bipush (v := 9) hx hb d_Mo_send_14 (by decide) ?_
        refine lv_icmp_le (tgt := 23) hx hb d_Mo_send_16 (by decide) (fun c5 => ?_) (fun c5 => ?_)
        · rw [if_pos c5] at hf
          refine lv_iconst (v := 0) hx hb d_Mo_send_23 (by decide) ?_
          exact k_Mo_send_24 C0 hA res r1.2 p1 p2 0 hf H locs I ls (q_hsub hl [0, 1, 2] rfl)
        · rw [if_neg c5] at hf
          exact k_Mo_send_19 C0 hA res r1.2 p1 p2 hf H locs I ls (q_hsub hl [0, 1, 2] rfl)
  exact hgo _ _ I
-- JobTerminalModel report
def f_Mo_report_101 (σ : q_St) (x1 : Int32) (x2 : Int32) : Option (Int32 × q_St) := some ((4 * x1) + x2, σ)
set_option maxHeartbeats 4000000 in
set_option maxRecDepth 100000 in
theorem k_Mo_report_101 {p : Program} {l : Launch} {e : Env} {s : State} {m : MethodId} {args : Array Value} {below : List Frame} {meth : Method} {c : Code} {D : va_G} {A : Nat → Prop} {ad : Nat → Nat} {cs : Nat → ClassId} (C0 : q_Cx "JobTerminalModel" b_Mo_report 3 (some .int) w_Mo_report D vwCl (tyL cs) NW p s m args meth c) (hA : ∀ q, s.heap.size ≤ q → A q) (res : (Int32 × q_St)) : ∀ (σ : q_St) (x1 : Int32) (x2 : Int32) , f_Mo_report_101 σ x1 x2 = some res → ∀ (H : Heap) (locs : List Loc), q_I D vwCl A s.heap (q_ws 23 ad (cM ad cs σ)) H locs → ∀ ls : Array Slot, q_has ls 3 [(1, .int x1), (2, .int x2)] → W p l e ({ frames := 1, cells := 0, slots := 0, locals := 23 } : Room) s m args below meth c H locs 0 0 (MQ below (q_Qi D vwCl res.1 (q_ws 23 ad (cM ad cs res.2)) A) args s 0 0 A) (F0 m 101 ls []) := by
  intro σ x1 x2 hf H locs I ls hl
  unfold f_Mo_report_101 at hf
  obtain ⟨hx, hb, hr, hml, hown, hts, hlocks, hK, hN⟩ := id C0
  have htg : ∀ w ∈ GW, w.before args s = true := fun w h => hts w (List.mem_cons_of_mem _ h)
  refine lv_iconst (v := 4) hx hb d_Mo_report_101 (by decide) ?_
  refine lv_iload_n hx hb d_Mo_report_102 rfl (q_at hl 0 rfl) ?_
  refine lv_imul hx hb d_Mo_report_103 ?_
  refine lv_iload_n hx hb d_Mo_report_104 rfl (q_at hl 1 rfl) ?_
  refine lv_iadd hx hb d_Mo_report_105 ?_
  cases hf
  exact q_iret hx hb hr hlocks I d_Mo_report_106
def f_Mo_report_36 (σ : q_St) (x1 : Int32) : Option (Int32 × q_St) := if x1 = 4 then (some (-1, σ)) else (q_grd (q_in x1 4) (q_bnd (f_Mo_stateOf (q_up σ 16 x1.toNatClampNeg 0) x1) (fun r8 => if r8.1 = 3 then (q_grd (q_in x1 4) (q_grd (q_in x1 4) (q_grd (q_in ((q_up r8.2 12 x1.toNatClampNeg 0) 13 x1.toNatClampNeg) 8) (q_grd (q_in x1 4) (if ((q_up (q_up r8.2 12 x1.toNatClampNeg 0) 2 ((q_up r8.2 12 x1.toNatClampNeg 0) 13 x1.toNatClampNeg).toNatClampNeg 0) 14 x1.toNatClampNeg) < 0 then (f_Mo_report_101 (q_up (q_up r8.2 12 x1.toNatClampNeg 0) 2 ((q_up r8.2 12 x1.toNatClampNeg 0) 13 x1.toNatClampNeg).toNatClampNeg 0) x1 r8.1) else (q_grd (q_in x1 4) (q_grd (q_in ((q_up (q_up r8.2 12 x1.toNatClampNeg 0) 2 ((q_up r8.2 12 x1.toNatClampNeg 0) 13 x1.toNatClampNeg).toNatClampNeg 0) 14 x1.toNatClampNeg) 8) (f_Mo_report_101 (q_up (q_up (q_up r8.2 12 x1.toNatClampNeg 0) 2 ((q_up r8.2 12 x1.toNatClampNeg 0) 13 x1.toNatClampNeg).toNatClampNeg 0) 2 ((q_up (q_up r8.2 12 x1.toNatClampNeg 0) 2 ((q_up r8.2 12 x1.toNatClampNeg 0) 13 x1.toNatClampNeg).toNatClampNeg 0) 14 x1.toNatClampNeg).toNatClampNeg 0) x1 r8.1)))))))) else (f_Mo_report_101 r8.2 x1 r8.1))))
set_option maxHeartbeats 4000000 in
set_option maxRecDepth 100000 in
theorem k_Mo_report_36 {p : Program} {l : Launch} {e : Env} {s : State} {m : MethodId} {args : Array Value} {below : List Frame} {meth : Method} {c : Code} {D : va_G} {A : Nat → Prop} {ad : Nat → Nat} {cs : Nat → ClassId} (C0 : q_Cx "JobTerminalModel" b_Mo_report 3 (some .int) w_Mo_report D vwCl (tyL cs) NW p s m args meth c) (hA : ∀ q, s.heap.size ≤ q → A q) (res : (Int32 × q_St)) : ∀ (σ : q_St) (x1 : Int32) , f_Mo_report_36 σ x1 = some res → ∀ (H : Heap) (locs : List Loc), q_I D vwCl A s.heap (q_ws 23 ad (cM ad cs σ)) H locs → ∀ ls : Array Slot, q_has ls 3 [(0, .ref (ad 0)), (1, .int x1)] → W p l e ({ frames := 1, cells := 0, slots := 0, locals := 23 } : Room) s m args below meth c H locs 0 0 (MQ below (q_Qi D vwCl res.1 (q_ws 23 ad (cM ad cs res.2)) A) args s 0 0 A) (F0 m 36 ls []) := by
  intro σ x1 hf H locs I ls hl
  unfold f_Mo_report_36 at hf
  obtain ⟨hx, hb, hr, hml, hown, hts, hlocks, hK, hN⟩ := id C0
  have htg : ∀ w ∈ GW, w.before args s = true := fun w h => hts w (List.mem_cons_of_mem _ h)
  refine lv_iload_n hx hb d_Mo_report_36 rfl (q_at hl 1 rfl) ?_
  refine lv_iconst (v := 4) hx hb d_Mo_report_37 (by decide) ?_
  refine lv_icmp_ne (tgt := 43) hx hb d_Mo_report_38 (by decide) (fun c6 => ?_) (fun c6 => ?_)
  · rw [if_neg c6] at hf
    refine lv_aload_n hx hb d_Mo_report_43 rfl (q_at hl 0 rfl) ?_
    refine G_Mo_Mo_untold hx hb htg hown hK hN I d_Mo_report_44 ?_
    refine lv_iload_n hx hb d_Mo_report_47 rfl (q_at hl 1 rfl) ?_
    refine lv_iconst (v := 0) hx hb d_Mo_report_48 (by decide) ?_
    obtain ⟨o7, hf⟩ := q_grd_some hf
    refine T_M_untold hx hb hK I o7 (by decide) d_Mo_report_49 (fun H locs I => ?_)
    refine lv_aload_n hx hb d_Mo_report_50 rfl (q_at hl 0 rfl) ?_
    refine lv_iload_n hx hb d_Mo_report_51 rfl (q_at hl 1 rfl) ?_
    obtain ⟨r8, e9, hf⟩ := q_bnd_some hf
    refine q_ki hA I (q_runV (C := "JobTerminalModel") (As := [.int x1]) (rest := []) ⟨hx, hb, hml, hown, hts⟩ (c_Mo_stateOf (sz := H.size) e9) (cwV 1 hts (q_goodV mw362 mw363 mw364 mw365 mw366) rfl rfl rfl (by decide +kernel) ⟨Nat.le_of_ble_eq_true rfl, Nat.le_of_ble_eq_true rfl⟩) NW_ok hK hN I rfl (q_wsE (by decide) (a_M_Mo)) rfl (q_sz hl) rfl (Nat.le_of_ble_eq_true rfl) d_Mo_report_52 ⟨Nat.zero_le _, Nat.zero_le _⟩) (fun H locs I => ?_)
    refine q_istore_n (lv' := [(2, .int r8.1), (0, .ref (ad 0)), (1, .int x1)]) hx hb d_Mo_report_55 rfl hl (by decide) rfl (fun ls hl => ?_)
    refine lv_iload_n hx hb d_Mo_report_56 rfl (q_at hl 0 rfl) ?_
    refine lv_iconst (v := 3) hx hb d_Mo_report_57 (by decide) ?_
    refine lv_icmp_ne (tgt := 101) hx hb d_Mo_report_58 (by decide) (fun c10 => ?_) (fun c10 => ?_)
    · rw [if_neg c10] at hf
      exact k_Mo_report_101 C0 hA res r8.2 x1 r8.1 hf H locs I ls (q_hsub hl [2, 0] rfl)
    · rw [if_pos c10] at hf
      refine lv_aload_n hx hb d_Mo_report_61 rfl (q_at hl 1 rfl) ?_
      refine G_Mo_Mo_there hx hb htg hown hK hN I d_Mo_report_62 ?_
      refine lv_iload_n hx hb d_Mo_report_65 rfl (q_at hl 2 rfl) ?_
      refine lv_iconst (v := 0) hx hb d_Mo_report_66 (by decide) ?_
      obtain ⟨o11, hf⟩ := q_grd_some hf
      refine T_M_there hx hb hK I o11 (by decide) d_Mo_report_67 (fun H locs I => ?_)
      refine lv_aload_n hx hb d_Mo_report_68 rfl (q_at hl 1 rfl) ?_
      refine G_Mo_Mo_state hx hb htg hown hK hN I d_Mo_report_69 ?_
      refine lv_aload_n hx hb d_Mo_report_72 rfl (q_at hl 1 rfl) ?_
      refine G_Mo_Mo_first hx hb htg hown hK hN I d_Mo_report_73 ?_
      refine lv_iload_n hx hb d_Mo_report_76 rfl (q_at hl 2 rfl) ?_
      obtain ⟨o12, hf⟩ := q_grd_some hf
      refine A_M_first hx hb hK I o12 d_Mo_report_77 ?_
      refine lv_iconst (v := 0) hx hb d_Mo_report_78 (by decide) ?_
      obtain ⟨o13, hf⟩ := q_grd_some hf
      refine T_M_state hx hb hK I o13 d_Mo_report_79 (fun H locs I => ?_)
      refine lv_aload_n hx hb d_Mo_report_80 rfl (q_at hl 1 rfl) ?_
      refine G_Mo_Mo_second hx hb htg hown hK hN I d_Mo_report_81 ?_
      refine lv_iload_n hx hb d_Mo_report_84 rfl (q_at hl 2 rfl) ?_
      obtain ⟨o14, hf⟩ := q_grd_some hf
      refine A_M_second hx hb hK I o14 d_Mo_report_85 ?_
      refine lv_if_lt (tgt := 101) hx hb d_Mo_report_86 (by decide) (fun c15 => ?_) (fun c15 => ?_)
      · rw [if_pos c15] at hf
        exact k_Mo_report_101 C0 hA res (q_up (q_up r8.2 12 x1.toNatClampNeg 0) 2 ((q_up r8.2 12 x1.toNatClampNeg 0) 13 x1.toNatClampNeg).toNatClampNeg 0) x1 r8.1 hf H locs I ls (q_hsub hl [2, 0] rfl)
      · rw [if_neg c15] at hf
        refine lv_aload_n hx hb d_Mo_report_89 rfl (q_at hl 1 rfl) ?_
        refine G_Mo_Mo_state hx hb htg hown hK hN I d_Mo_report_90 ?_
        refine lv_aload_n hx hb d_Mo_report_93 rfl (q_at hl 1 rfl) ?_
        refine G_Mo_Mo_second hx hb htg hown hK hN I d_Mo_report_94 ?_
        refine lv_iload_n hx hb d_Mo_report_97 rfl (q_at hl 2 rfl) ?_
        obtain ⟨o16, hf⟩ := q_grd_some hf
        refine A_M_second hx hb hK I o16 d_Mo_report_98 ?_
        refine lv_iconst (v := 0) hx hb d_Mo_report_99 (by decide) ?_
        obtain ⟨o17, hf⟩ := q_grd_some hf
        refine T_M_state hx hb hK I o17 d_Mo_report_100 (fun H locs I => ?_)
        exact k_Mo_report_101 C0 hA res (q_up (q_up (q_up r8.2 12 x1.toNatClampNeg 0) 2 ((q_up r8.2 12 x1.toNatClampNeg 0) 13 x1.toNatClampNeg).toNatClampNeg 0) 2 ((q_up (q_up r8.2 12 x1.toNatClampNeg 0) 2 ((q_up r8.2 12 x1.toNatClampNeg 0) 13 x1.toNatClampNeg).toNatClampNeg 0) 14 x1.toNatClampNeg).toNatClampNeg 0) x1 r8.1 hf H locs I ls (q_hsub hl [2, 0] rfl)
  · rw [if_pos c6] at hf
    refine lv_iconst (v := -1) hx hb d_Mo_report_41 (by decide) ?_
    cases hf
    exact q_iret hx hb hr hlocks I d_Mo_report_42
def f_Mo_report_30 (K7 : q_St → Int32 → Option (Int32 × q_St)) (σ : q_St) (x1 : Int32) : Option (Int32 × q_St) := K7 σ (x1 + 1)
set_option maxHeartbeats 4000000 in
set_option maxRecDepth 100000 in
theorem k_Mo_report_30 {p : Program} {l : Launch} {e : Env} {s : State} {m : MethodId} {args : Array Value} {below : List Frame} {meth : Method} {c : Code} {D : va_G} {A : Nat → Prop} {ad : Nat → Nat} {cs : Nat → ClassId} (C0 : q_Cx "JobTerminalModel" b_Mo_report 3 (some .int) w_Mo_report D vwCl (tyL cs) NW p s m args meth c) (hA : ∀ q, s.heap.size ≤ q → A q) (res : (Int32 × q_St)) {K7 : q_St → Int32 → Option (Int32 × q_St)} (hk7 : ∀ (σ : q_St) (x1 : Int32) , K7 σ x1 = some res → ∀ (H : Heap) (locs : List Loc), q_I D vwCl A s.heap (q_ws 23 ad (cM ad cs σ)) H locs → ∀ ls : Array Slot, q_has ls 3 [(0, .ref (ad 0)), (1, .int x1)] → W p l e ({ frames := 1, cells := 0, slots := 0, locals := 23 } : Room) s m args below meth c H locs 0 0 (MQ below (q_Qi D vwCl res.1 (q_ws 23 ad (cM ad cs res.2)) A) args s 0 0 A) (F0 m 7 ls [])) : ∀ (σ : q_St) (x1 : Int32) , f_Mo_report_30 K7 σ x1 = some res → ∀ (H : Heap) (locs : List Loc), q_I D vwCl A s.heap (q_ws 23 ad (cM ad cs σ)) H locs → ∀ ls : Array Slot, q_has ls 3 [(0, .ref (ad 0)), (1, .int x1)] → W p l e ({ frames := 1, cells := 0, slots := 0, locals := 23 } : Room) s m args below meth c H locs 0 0 (MQ below (q_Qi D vwCl res.1 (q_ws 23 ad (cM ad cs res.2)) A) args s 0 0 A) (F0 m 30 ls []) := by
  intro σ x1 hf H locs I ls hl
  unfold f_Mo_report_30 at hf
  obtain ⟨hx, hb, hr, hml, hown, hts, hlocks, hK, hN⟩ := id C0
  have htg : ∀ w ∈ GW, w.before args s = true := fun w h => hts w (List.mem_cons_of_mem _ h)
  refine q_iinc (v := x1 + 1) (lv' := [(1, .int (x1 + 1)), (0, .ref (ad 0))]) hx hb d_Mo_report_30 hl (k := 1) rfl rfl (by decide) rfl (fun ls hl => ?_)
  refine lv_goto (tgt := 7) hx hb d_Mo_report_33 (by decide) ?_
  exact hk7 σ (x1 + 1) hf H locs I ls (q_hsub hl [1, 0] rfl)
def f_Mo_report_7 : Nat → q_St → Int32 → Option (Int32 × q_St)
  | 0, _, _ => none
  | n + 1, σ, x1 => if 4 ≤ x1 then (f_Mo_report_36 σ x1) else (q_grd (q_in x1 4) (if (σ 12 x1.toNatClampNeg) = 0 then (f_Mo_report_30 (f_Mo_report_7 n) σ x1) else (q_grd (q_in x1 4) (if (σ 16 x1.toNatClampNeg) = 0 then (f_Mo_report_30 (f_Mo_report_7 n) σ x1) else (f_Mo_report_36 σ x1)))))
set_option maxHeartbeats 4000000 in
set_option maxRecDepth 100000 in
theorem k_Mo_report_7 {p : Program} {l : Launch} {e : Env} {s : State} {m : MethodId} {args : Array Value} {below : List Frame} {meth : Method} {c : Code} {D : va_G} {A : Nat → Prop} {ad : Nat → Nat} {cs : Nat → ClassId} (C0 : q_Cx "JobTerminalModel" b_Mo_report 3 (some .int) w_Mo_report D vwCl (tyL cs) NW p s m args meth c) (hA : ∀ q, s.heap.size ≤ q → A q) (res : (Int32 × q_St)) : ∀ (n : Nat) (σ : q_St) (x1 : Int32) , f_Mo_report_7 n σ x1 = some res → ∀ (H : Heap) (locs : List Loc), q_I D vwCl A s.heap (q_ws 23 ad (cM ad cs σ)) H locs → ∀ ls : Array Slot, q_has ls 3 [(0, .ref (ad 0)), (1, .int x1)] → W p l e ({ frames := 1, cells := 0, slots := 0, locals := 23 } : Room) s m args below meth c H locs 0 0 (MQ below (q_Qi D vwCl res.1 (q_ws 23 ad (cM ad cs res.2)) A) args s 0 0 A) (F0 m 7 ls []) := by
  intro n
  induction n with
  | zero => intro σ x1 hf; cases hf
  | succ n ih =>
    intro σ x1 hf H locs I ls hl
    have ih := ih
    rw [f_Mo_report_7] at hf
    have C0 := C0
    obtain ⟨hx, hb, hr, hml, hown, hts, hlocks, hK, hN⟩ := id C0
    have htg : ∀ w ∈ GW, w.before args s = true := fun w h => hts w (List.mem_cons_of_mem _ h)
    refine lv_iload_n hx hb d_Mo_report_7 rfl (q_at hl 1 rfl) ?_
    refine lv_iconst (v := 4) hx hb d_Mo_report_8 (by decide) ?_
    refine lv_icmp_ge (tgt := 36) hx hb d_Mo_report_9 (by decide) (fun c1 => ?_) (fun c1 => ?_)
    · rw [if_pos c1] at hf
      exact k_Mo_report_36 C0 hA res σ x1 hf H locs I ls (q_hsub hl [0, 1] rfl)
    · rw [if_neg c1] at hf
      refine lv_aload_n hx hb d_Mo_report_12 rfl (q_at hl 0 rfl) ?_
      refine G_Mo_Mo_there hx hb htg hown hK hN I d_Mo_report_13 ?_
      refine lv_iload_n hx hb d_Mo_report_16 rfl (q_at hl 1 rfl) ?_
      obtain ⟨o2, hf⟩ := q_grd_some hf
      refine A_M_there hx hb hK I o2 d_Mo_report_17 ?_
      refine lv_if_eq (tgt := 30) hx hb d_Mo_report_18 (by decide) (fun c3 => ?_) (fun c3 => ?_)
      · rw [if_pos c3] at hf
        exact k_Mo_report_30 C0 hA res (K7 := f_Mo_report_7 n) ih σ x1 hf H locs I ls (q_hsub hl [0, 1] rfl)
      · rw [if_neg c3] at hf
        refine lv_aload_n hx hb d_Mo_report_21 rfl (q_at hl 0 rfl) ?_
        refine G_Mo_Mo_untold hx hb htg hown hK hN I d_Mo_report_22 ?_
        refine lv_iload_n hx hb d_Mo_report_25 rfl (q_at hl 1 rfl) ?_
        obtain ⟨o4, hf⟩ := q_grd_some hf
        refine A_M_untold hx hb hK I o4 d_Mo_report_26 ?_
        refine lv_if_ne (tgt := 36) hx hb d_Mo_report_27 (by decide) (fun c5 => ?_) (fun c5 => ?_)
        · rw [if_neg c5] at hf
          exact k_Mo_report_36 C0 hA res σ x1 hf H locs I ls (q_hsub hl [0, 1] rfl)
        · rw [if_pos c5] at hf
          exact k_Mo_report_30 C0 hA res (K7 := f_Mo_report_7 n) ih σ x1 hf H locs I ls (q_hsub hl [0, 1] rfl)
def f_Mo_report (σ : q_St) : Option (Int32 × q_St) := f_Mo_report_7 200 (q_up σ 48 0 0) 0
set_option maxHeartbeats 4000000 in
set_option maxRecDepth 100000 in
theorem c_Mo_report {l : Launch} {D : va_G} {ad : Nat → Nat} {cs : Nat → ClassId} {sz : Nat} {σ : q_St} {res : (Int32 × q_St)} (hf : f_Mo_report σ  = some res) : Met l y_Mo_report w_Mo_report ({ frames := 1, cells := 0, slots := 0, locals := 23 } : Room) (q_Pre D vwCl (tyL cs) NW [.ref (ad 0)] (q_ws 23 ad (cM ad cs σ)) sz) (q_Qi D vwCl res.1 (q_ws 23 ad (cM ad cs res.2)) (va_A (q_ws 23 ad (cM ad cs σ)) sz)) 0 0 (va_A (q_ws 23 ad (cM ad cs σ)) sz) := by
  refine Met.ofW (cc := b_Mo_report) (maxL := 3) (ret := (some .int)) (by decide) rfl ?_
  intro p e s m args below meth c s₁ B hml hv
  obtain ⟨hargs, hsz, hP, hK, hD0, hN⟩ := hv
  have hx := B.exec
  have hb := B.bytes
  have hr := B.returns
  have hts := atoms_spec (ws := w_Mo_report) B.pre
  have hown : s.vm.findClass "JobTerminalModel" = some m.cls := findClass_of_methodNamed B.named
  have hlocks := B.notSynchronized
  have htg : ∀ w ∈ GW, w.before args s = true := fun w h => hts w (List.mem_cons_of_mem _ h)
  subst hsz
  have hD := hD0.self (sz := s.heap.size)
  generalize hAe : va_A (q_ws 23 ad (cM ad cs σ)) s.heap.size = A at hD ⊢
  have hA : ∀ q : Nat, s.heap.size ≤ q → A q := fun q h => by rw [← hAe]; exact Or.inr h
  have I : q_I D vwCl A s.heap (q_ws 23 ad (cM ad cs σ)) s.heap [] := ⟨hP, hD, va_S.rf⟩
  obtain ⟨ls, hen, hl⟩ := q_entry (vs := [.ref (ad 0)]) (n := 3) (lv := [(0, .ref (ad 0))]) (by intro v hv; simp only [List.mem_cons, List.not_mem_nil, or_false] at hv; rcases hv with rfl <;> first | rfl | exact q_cat) (Nat.le_of_ble_eq_true rfl) rfl
  rw [show entryFrame m args 3 = F0 m 0 ls [] from by rw [hargs]; exact hen m]
  have C0 : q_Cx "JobTerminalModel" b_Mo_report 3 (some .int) w_Mo_report D vwCl (tyL cs) NW p s m args meth c := ⟨hx, hb, hr, hml, hown, hts, hlocks, hK, hN⟩
  unfold f_Mo_report at hf
  have hgo : ∀ (H : Heap) (locs : List Loc), q_I D vwCl A s.heap (q_ws 23 ad (cM ad cs σ)) H locs → W p l e ({ frames := 1, cells := 0, slots := 0, locals := 23 } : Room) s m args below meth c H locs 0 0 (MQ below (q_Qi D vwCl res.1 (q_ws 23 ad (cM ad cs res.2)) A) args s 0 0 A) (F0 m 0 ls []) := by
    intro H locs I
    refine lv_aload_n hx hb d_Mo_report_0 rfl (q_at hl 0 rfl) ?_
    refine lv_iconst (v := 0) hx hb d_Mo_report_1 (by decide) ?_
    refine P_Mo_Mo_code hx hb htg hown hK hN I d_Mo_report_2 (fun H locs I => ?_)
    refine lv_iconst (v := 0) hx hb d_Mo_report_5 (by decide) ?_
    refine q_istore_n (lv' := [(1, .int 0), (0, .ref (ad 0))]) hx hb d_Mo_report_6 rfl hl (by decide) rfl (fun ls hl => ?_)
    exact k_Mo_report_7 C0 hA res 200 (q_up σ 48 0 0) 0 hf H locs I ls (q_hsub hl [1, 0] rfl)
  exact hgo _ _ I
-- JobTerminalModel hang
def f_Mo_hang_92 (K52 : q_St → Int32 → Int32 → Option (Int32 × q_St)) (σ : q_St) (x1 : Int32) (x2 : Int32) : Option (Int32 × q_St) := K52 σ x1 (x2 + 1)
set_option maxHeartbeats 4000000 in
set_option maxRecDepth 100000 in
theorem k_Mo_hang_92 {p : Program} {l : Launch} {e : Env} {s : State} {m : MethodId} {args : Array Value} {below : List Frame} {meth : Method} {c : Code} {D : va_G} {A : Nat → Prop} {ad : Nat → Nat} {cs : Nat → ClassId} (C0 : q_Cx "JobTerminalModel" b_Mo_hang 3 (some .boolean) w_Mo_hang D vwCl (tyL cs) NW p s m args meth c) (hA : ∀ q, s.heap.size ≤ q → A q) (res : (Int32 × q_St)) {K52 : q_St → Int32 → Int32 → Option (Int32 × q_St)} (hk52 : ∀ (σ : q_St) (x1 : Int32) (x2 : Int32) , K52 σ x1 x2 = some res → ∀ (H : Heap) (locs : List Loc), q_I D vwCl A s.heap (q_ws 23 ad (cM ad cs σ)) H locs → ∀ ls : Array Slot, q_has ls 3 [(0, .ref (ad 0)), (1, .int x1), (2, .int x2)] → W p l e ({ frames := 4, cells := 0, slots := 0, locals := 88 } : Room) s m args below meth c H locs 0 0 (MQ below (q_Qi D vwCl res.1 (q_ws 23 ad (cM ad cs res.2)) A) args s 0 0 A) (F0 m 52 ls [])) : ∀ (σ : q_St) (x1 : Int32) (x2 : Int32) , f_Mo_hang_92 K52 σ x1 x2 = some res → ∀ (H : Heap) (locs : List Loc), q_I D vwCl A s.heap (q_ws 23 ad (cM ad cs σ)) H locs → ∀ ls : Array Slot, q_has ls 3 [(0, .ref (ad 0)), (1, .int x1), (2, .int x2)] → W p l e ({ frames := 4, cells := 0, slots := 0, locals := 88 } : Room) s m args below meth c H locs 0 0 (MQ below (q_Qi D vwCl res.1 (q_ws 23 ad (cM ad cs res.2)) A) args s 0 0 A) (F0 m 92 ls []) := by
  intro σ x1 x2 hf H locs I ls hl
  unfold f_Mo_hang_92 at hf
  obtain ⟨hx, hb, hr, hml, hown, hts, hlocks, hK, hN⟩ := id C0
  have htg : ∀ w ∈ GW, w.before args s = true := fun w h => hts w (List.mem_cons_of_mem _ h)
  refine q_iinc (v := x2 + 1) (lv' := [(2, .int (x2 + 1)), (0, .ref (ad 0)), (1, .int x1)]) hx hb d_Mo_hang_92 hl (k := 2) rfl rfl (by decide) rfl (fun ls hl => ?_)
  refine lv_goto (tgt := 52) hx hb d_Mo_hang_95 (by decide) ?_
  exact hk52 σ x1 (x2 + 1) hf H locs I ls (q_hsub hl [1, 2, 0] rfl)
def f_Mo_hang_52 : Nat → q_St → Int32 → Int32 → Option (Int32 × q_St)
  | 0, _, _, _ => none
  | n + 1, σ, x1, x2 => if 4 ≤ x2 then (q_bnd (f_Mo_compare σ) (fun r8 => some (1, r8))) else (q_grd (q_in x2 4) (if (σ 12 x2.toNatClampNeg) = 0 then (f_Mo_hang_92 (f_Mo_hang_52 n) σ x1 x2) else (if x2 = x1 then (f_Mo_hang_92 (f_Mo_hang_52 n) σ x1 x2) else (q_bnd (f_Mo_stateOf σ x2) (fun r13 => if r13.1 = 2 then (q_bnd (f_Mo_sendJob r13.2 x2 0) (fun r16 => q_bnd (f_Mo_sendJob r16 x2 5) (fun r18 => f_Mo_hang_92 (f_Mo_hang_52 n) r18 x1 x2))) else (f_Mo_hang_92 (f_Mo_hang_52 n) r13.2 x1 x2))))))
set_option maxHeartbeats 4000000 in
set_option maxRecDepth 100000 in
theorem k_Mo_hang_52 {p : Program} {l : Launch} {e : Env} {s : State} {m : MethodId} {args : Array Value} {below : List Frame} {meth : Method} {c : Code} {D : va_G} {A : Nat → Prop} {ad : Nat → Nat} {cs : Nat → ClassId} (C0 : q_Cx "JobTerminalModel" b_Mo_hang 3 (some .boolean) w_Mo_hang D vwCl (tyL cs) NW p s m args meth c) (hA : ∀ q, s.heap.size ≤ q → A q) (res : (Int32 × q_St)) : ∀ (n : Nat) (σ : q_St) (x1 : Int32) (x2 : Int32) , f_Mo_hang_52 n σ x1 x2 = some res → ∀ (H : Heap) (locs : List Loc), q_I D vwCl A s.heap (q_ws 23 ad (cM ad cs σ)) H locs → ∀ ls : Array Slot, q_has ls 3 [(0, .ref (ad 0)), (1, .int x1), (2, .int x2)] → W p l e ({ frames := 4, cells := 0, slots := 0, locals := 88 } : Room) s m args below meth c H locs 0 0 (MQ below (q_Qi D vwCl res.1 (q_ws 23 ad (cM ad cs res.2)) A) args s 0 0 A) (F0 m 52 ls []) := by
  intro n
  induction n with
  | zero => intro σ x1 x2 hf; cases hf
  | succ n ih =>
    intro σ x1 x2 hf H locs I ls hl
    have ih := ih
    rw [f_Mo_hang_52] at hf
    have C0 := C0
    obtain ⟨hx, hb, hr, hml, hown, hts, hlocks, hK, hN⟩ := id C0
    have htg : ∀ w ∈ GW, w.before args s = true := fun w h => hts w (List.mem_cons_of_mem _ h)
    refine lv_iload_n hx hb d_Mo_hang_52 rfl (q_at hl 2 rfl) ?_
    refine lv_iconst (v := 4) hx hb d_Mo_hang_53 (by decide) ?_
    refine lv_icmp_ge (tgt := 98) hx hb d_Mo_hang_54 (by decide) (fun c7 => ?_) (fun c7 => ?_)
    · rw [if_pos c7] at hf
      refine lv_aload_n hx hb d_Mo_hang_98 rfl (q_at hl 0 rfl) ?_
      obtain ⟨r8, e9, hf⟩ := q_bnd_some hf
      refine q_kv hA I (q_runV (C := "JobTerminalModel") (As := []) (rest := []) ⟨hx, hb, hml, hown, hts⟩ (c_Mo_compare (sz := H.size) e9) (cwV 0 hts (q_goodV mw410 mw411 mw412 mw413 mw366) rfl rfl rfl (by decide +kernel) ⟨Nat.le_of_ble_eq_true rfl, Nat.le_of_ble_eq_true rfl⟩) NW_ok hK hN I rfl (q_wsE (by decide) (a_M_Mo)) rfl (q_sz hl) rfl (Nat.le_of_ble_eq_true rfl) d_Mo_hang_99 ⟨Nat.zero_le _, Nat.zero_le _⟩) (fun H locs I => ?_)
      refine lv_iconst (v := 1) hx hb d_Mo_hang_102 (by decide) ?_
      cases hf
      exact q_zret (r0 := 1) hx hb hr hlocks (by decide) I d_Mo_hang_103
    · rw [if_neg c7] at hf
      refine lv_aload_n hx hb d_Mo_hang_57 rfl (q_at hl 0 rfl) ?_
      refine G_Mo_Mo_there hx hb htg hown hK hN I d_Mo_hang_58 ?_
      refine lv_iload_n hx hb d_Mo_hang_61 rfl (q_at hl 2 rfl) ?_
      obtain ⟨o10, hf⟩ := q_grd_some hf
      refine A_M_there hx hb hK I o10 d_Mo_hang_62 ?_
      refine lv_if_eq (tgt := 92) hx hb d_Mo_hang_63 (by decide) (fun c11 => ?_) (fun c11 => ?_)
      · rw [if_pos c11] at hf
        exact k_Mo_hang_92 C0 hA res (K52 := f_Mo_hang_52 n) ih σ x1 x2 hf H locs I ls (q_hsub hl [0, 1, 2] rfl)
      · rw [if_neg c11] at hf
        refine lv_iload_n hx hb d_Mo_hang_66 rfl (q_at hl 2 rfl) ?_
        refine lv_iload_n hx hb d_Mo_hang_67 rfl (q_at hl 1 rfl) ?_
        refine lv_icmp_eq (tgt := 92) hx hb d_Mo_hang_68 (by decide) (fun c12 => ?_) (fun c12 => ?_)
        · rw [if_pos c12] at hf
          exact k_Mo_hang_92 C0 hA res (K52 := f_Mo_hang_52 n) ih σ x1 x2 hf H locs I ls (q_hsub hl [0, 1, 2] rfl)
        · rw [if_neg c12] at hf
          refine lv_aload_n hx hb d_Mo_hang_71 rfl (q_at hl 0 rfl) ?_
          refine lv_iload_n hx hb d_Mo_hang_72 rfl (q_at hl 2 rfl) ?_
          obtain ⟨r13, e14, hf⟩ := q_bnd_some hf
          refine q_ki hA I (q_runV (C := "JobTerminalModel") (As := [.int x2]) (rest := []) ⟨hx, hb, hml, hown, hts⟩ (c_Mo_stateOf (sz := H.size) e14) (cwV 1 hts (q_goodV mw362 mw363 mw364 mw365 mw366) rfl rfl rfl (by decide +kernel) ⟨Nat.le_of_ble_eq_true rfl, Nat.le_of_ble_eq_true rfl⟩) NW_ok hK hN I rfl (q_wsE (by decide) (a_M_Mo)) rfl (q_sz hl) rfl (Nat.le_of_ble_eq_true rfl) d_Mo_hang_73 ⟨Nat.zero_le _, Nat.zero_le _⟩) (fun H locs I => ?_)
          refine lv_iconst (v := 2) hx hb d_Mo_hang_76 (by decide) ?_
          refine lv_icmp_ne (tgt := 92) hx hb d_Mo_hang_77 (by decide) (fun c15 => ?_) (fun c15 => ?_)
          · rw [if_neg c15] at hf
            exact k_Mo_hang_92 C0 hA res (K52 := f_Mo_hang_52 n) ih r13.2 x1 x2 hf H locs I ls (q_hsub hl [0, 1, 2] rfl)
          · rw [if_pos c15] at hf
            refine lv_aload_n hx hb d_Mo_hang_80 rfl (q_at hl 0 rfl) ?_
            refine lv_iload_n hx hb d_Mo_hang_81 rfl (q_at hl 2 rfl) ?_
            refine lv_iconst (v := 0) hx hb d_Mo_hang_82 (by decide) ?_
            obtain ⟨r16, e17, hf⟩ := q_bnd_some hf
            refine q_kv hA I (q_runV (C := "JobTerminalModel") (As := [.int x2, .int 0]) (rest := []) ⟨hx, hb, hml, hown, hts⟩ (c_Mo_sendJob (sz := H.size) e17) (cwV 2 hts (q_goodV mw406 mw407 mw408 mw409 mw366) rfl rfl rfl (by decide +kernel) ⟨Nat.le_of_ble_eq_true rfl, Nat.le_of_ble_eq_true rfl⟩) NW_ok hK hN I rfl (q_wsE (by decide) (a_M_Mo)) rfl (q_sz hl) rfl (Nat.le_of_ble_eq_true rfl) d_Mo_hang_83 ⟨Nat.zero_le _, Nat.zero_le _⟩) (fun H locs I => ?_)
            refine lv_aload_n hx hb d_Mo_hang_86 rfl (q_at hl 0 rfl) ?_
            refine lv_iload_n hx hb d_Mo_hang_87 rfl (q_at hl 2 rfl) ?_
            refine lv_iconst (v := 5) hx hb d_Mo_hang_88 (by decide) ?_
            obtain ⟨r18, e19, hf⟩ := q_bnd_some hf
            refine q_kv hA I (q_runV (C := "JobTerminalModel") (As := [.int x2, .int 5]) (rest := []) ⟨hx, hb, hml, hown, hts⟩ (c_Mo_sendJob (sz := H.size) e19) (cwV 2 hts (q_goodV mw406 mw407 mw408 mw409 mw366) rfl rfl rfl (by decide +kernel) ⟨Nat.le_of_ble_eq_true rfl, Nat.le_of_ble_eq_true rfl⟩) NW_ok hK hN I rfl (q_wsE (by decide) (a_M_Mo)) rfl (q_sz hl) rfl (Nat.le_of_ble_eq_true rfl) d_Mo_hang_89 ⟨Nat.zero_le _, Nat.zero_le _⟩) (fun H locs I => ?_)
            exact k_Mo_hang_92 C0 hA res (K52 := f_Mo_hang_52 n) ih r18 x1 x2 hf H locs I ls (q_hsub hl [0, 1, 2] rfl)
def f_Mo_hang_50 (σ : q_St) (x1 : Int32) : Option (Int32 × q_St) := f_Mo_hang_52 200 σ x1 0
set_option maxHeartbeats 4000000 in
set_option maxRecDepth 100000 in
theorem k_Mo_hang_50 {p : Program} {l : Launch} {e : Env} {s : State} {m : MethodId} {args : Array Value} {below : List Frame} {meth : Method} {c : Code} {D : va_G} {A : Nat → Prop} {ad : Nat → Nat} {cs : Nat → ClassId} (C0 : q_Cx "JobTerminalModel" b_Mo_hang 3 (some .boolean) w_Mo_hang D vwCl (tyL cs) NW p s m args meth c) (hA : ∀ q, s.heap.size ≤ q → A q) (res : (Int32 × q_St)) : ∀ (σ : q_St) (x1 : Int32) , f_Mo_hang_50 σ x1 = some res → ∀ (H : Heap) (locs : List Loc), q_I D vwCl A s.heap (q_ws 23 ad (cM ad cs σ)) H locs → ∀ ls : Array Slot, q_has ls 3 [(0, .ref (ad 0)), (1, .int x1)] → W p l e ({ frames := 4, cells := 0, slots := 0, locals := 88 } : Room) s m args below meth c H locs 0 0 (MQ below (q_Qi D vwCl res.1 (q_ws 23 ad (cM ad cs res.2)) A) args s 0 0 A) (F0 m 50 ls []) := by
  intro σ x1 hf H locs I ls hl
  unfold f_Mo_hang_50 at hf
  obtain ⟨hx, hb, hr, hml, hown, hts, hlocks, hK, hN⟩ := id C0
  have htg : ∀ w ∈ GW, w.before args s = true := fun w h => hts w (List.mem_cons_of_mem _ h)
  refine lv_iconst (v := 0) hx hb d_Mo_hang_50 (by decide) ?_
  refine q_istore_n (lv' := [(2, .int 0), (0, .ref (ad 0)), (1, .int x1)]) hx hb d_Mo_hang_51 rfl hl (by decide) rfl (fun ls hl => ?_)
  exact k_Mo_hang_52 C0 hA res 200 σ x1 0 hf H locs I ls (q_hsub hl [1, 2, 0] rfl)
def f_Mo_hang (σ : q_St) : Option (Int32 × q_St) := if ((q_up σ 48 0 0) 43 0) = 0 then (if ((q_up (q_up (q_up (q_up σ 48 0 0) 43 0 1) 44 0 0) 45 0 0) 41 0) < 0 then (f_Mo_hang_50 (q_up (q_up (q_up (q_up σ 48 0 0) 43 0 1) 44 0 0) 45 0 0) ((q_up (q_up (q_up (q_up σ 48 0 0) 43 0 1) 44 0 0) 45 0 0) 41 0)) else (q_bnd (f_Mo_sendJob (q_up (q_up (q_up (q_up σ 48 0 0) 43 0 1) 44 0 0) 45 0 0) ((q_up (q_up (q_up (q_up σ 48 0 0) 43 0 1) 44 0 0) 45 0 0) 41 0) 0) (fun r3 => q_bnd (f_Mo_sendJob r3 ((q_up (q_up (q_up (q_up σ 48 0 0) 43 0 1) 44 0 0) 45 0 0) 41 0) 5) (fun r5 => f_Mo_hang_50 r5 ((q_up (q_up (q_up (q_up σ 48 0 0) 43 0 1) 44 0 0) 45 0 0) 41 0))))) else (some (0, q_up σ 48 0 0))
set_option maxHeartbeats 4000000 in
set_option maxRecDepth 100000 in
theorem c_Mo_hang {l : Launch} {D : va_G} {ad : Nat → Nat} {cs : Nat → ClassId} {sz : Nat} {σ : q_St} {res : (Int32 × q_St)} (hf : f_Mo_hang σ  = some res) : Met l y_Mo_hang w_Mo_hang ({ frames := 4, cells := 0, slots := 0, locals := 88 } : Room) (q_Pre D vwCl (tyL cs) NW [.ref (ad 0)] (q_ws 23 ad (cM ad cs σ)) sz) (q_Qi D vwCl res.1 (q_ws 23 ad (cM ad cs res.2)) (va_A (q_ws 23 ad (cM ad cs σ)) sz)) 0 0 (va_A (q_ws 23 ad (cM ad cs σ)) sz) := by
  refine Met.ofW (cc := b_Mo_hang) (maxL := 3) (ret := (some .boolean)) (by decide) rfl ?_
  intro p e s m args below meth c s₁ B hml hv
  obtain ⟨hargs, hsz, hP, hK, hD0, hN⟩ := hv
  have hx := B.exec
  have hb := B.bytes
  have hr := B.returns
  have hts := atoms_spec (ws := w_Mo_hang) B.pre
  have hown : s.vm.findClass "JobTerminalModel" = some m.cls := findClass_of_methodNamed B.named
  have hlocks := B.notSynchronized
  have htg : ∀ w ∈ GW, w.before args s = true := fun w h => hts w (List.mem_cons_of_mem _ h)
  subst hsz
  have hD := hD0.self (sz := s.heap.size)
  generalize hAe : va_A (q_ws 23 ad (cM ad cs σ)) s.heap.size = A at hD ⊢
  have hA : ∀ q : Nat, s.heap.size ≤ q → A q := fun q h => by rw [← hAe]; exact Or.inr h
  have I : q_I D vwCl A s.heap (q_ws 23 ad (cM ad cs σ)) s.heap [] := ⟨hP, hD, va_S.rf⟩
  obtain ⟨ls, hen, hl⟩ := q_entry (vs := [.ref (ad 0)]) (n := 3) (lv := [(0, .ref (ad 0))]) (by intro v hv; simp only [List.mem_cons, List.not_mem_nil, or_false] at hv; rcases hv with rfl <;> first | rfl | exact q_cat) (Nat.le_of_ble_eq_true rfl) rfl
  rw [show entryFrame m args 3 = F0 m 0 ls [] from by rw [hargs]; exact hen m]
  have C0 : q_Cx "JobTerminalModel" b_Mo_hang 3 (some .boolean) w_Mo_hang D vwCl (tyL cs) NW p s m args meth c := ⟨hx, hb, hr, hml, hown, hts, hlocks, hK, hN⟩
  unfold f_Mo_hang at hf
  have hgo : ∀ (H : Heap) (locs : List Loc), q_I D vwCl A s.heap (q_ws 23 ad (cM ad cs σ)) H locs → W p l e ({ frames := 4, cells := 0, slots := 0, locals := 88 } : Room) s m args below meth c H locs 0 0 (MQ below (q_Qi D vwCl res.1 (q_ws 23 ad (cM ad cs res.2)) A) args s 0 0 A) (F0 m 0 ls []) := by
    intro H locs I
    refine lv_aload_n hx hb d_Mo_hang_0 rfl (q_at hl 0 rfl) ?_
    refine lv_iconst (v := 0) hx hb d_Mo_hang_1 (by decide) ?_
    refine P_Mo_Mo_code hx hb htg hown hK hN I d_Mo_hang_2 (fun H locs I => ?_)
    refine lv_aload_n hx hb d_Mo_hang_5 rfl (q_at hl 0 rfl) ?_
    refine G_Mo_Mo_hung hx hb htg hown hK hN I d_Mo_hang_6 ?_
    refine lv_if_eq (tgt := 14) hx hb d_Mo_hang_9 (by decide) (fun c1 => ?_) (fun c1 => ?_)
    · rw [if_pos c1] at hf
      refine lv_aload_n hx hb d_Mo_hang_14 rfl (q_at hl 0 rfl) ?_
      refine lv_iconst (v := 1) hx hb d_Mo_hang_15 (by decide) ?_
      refine P_Mo_Mo_hung hx hb htg hown hK hN I (by decide) d_Mo_hang_16 (fun H locs I => ?_)
      refine lv_aload_n hx hb d_Mo_hang_19 rfl (q_at hl 0 rfl) ?_
      refine lv_iconst (v := 0) hx hb d_Mo_hang_20 (by decide) ?_
      refine P_Mo_Mo_edited hx hb htg hown hK hN I d_Mo_hang_21 (fun H locs I => ?_)
      refine lv_aload_n hx hb d_Mo_hang_24 rfl (q_at hl 0 rfl) ?_
      refine lv_iconst (v := 0) hx hb d_Mo_hang_25 (by decide) ?_
      refine P_Mo_Mo_queued hx hb htg hown hK hN I d_Mo_hang_26 (fun H locs I => ?_)
      refine lv_aload_n hx hb d_Mo_hang_29 rfl (q_at hl 0 rfl) ?_
      refine G_Mo_Mo_front hx hb htg hown hK hN I d_Mo_hang_30 ?_
      refine q_istore_n (lv' := [(1, .int ((q_up (q_up (q_up (q_up σ 48 0 0) 43 0 1) 44 0 0) 45 0 0) 41 0)), (0, .ref (ad 0))]) hx hb d_Mo_hang_33 rfl hl (by decide) rfl (fun ls hl => ?_)
      refine lv_iload_n hx hb d_Mo_hang_34 rfl (q_at hl 0 rfl) ?_
      refine lv_if_lt (tgt := 50) hx hb d_Mo_hang_35 (by decide) (fun c2 => ?_) (fun c2 => ?_)
      · rw [if_pos c2] at hf
        exact k_Mo_hang_50 C0 hA res (q_up (q_up (q_up (q_up σ 48 0 0) 43 0 1) 44 0 0) 45 0 0) ((q_up (q_up (q_up (q_up σ 48 0 0) 43 0 1) 44 0 0) 45 0 0) 41 0) hf H locs I ls (q_hsub hl [1, 0] rfl)
      · rw [if_neg c2] at hf
        refine lv_aload_n hx hb d_Mo_hang_38 rfl (q_at hl 1 rfl) ?_
        refine lv_iload_n hx hb d_Mo_hang_39 rfl (q_at hl 0 rfl) ?_
        refine lv_iconst (v := 0) hx hb d_Mo_hang_40 (by decide) ?_
        obtain ⟨r3, e4, hf⟩ := q_bnd_some hf
        refine q_kv hA I (q_runV (C := "JobTerminalModel") (As := [.int ((q_up (q_up (q_up (q_up σ 48 0 0) 43 0 1) 44 0 0) 45 0 0) 41 0), .int 0]) (rest := []) ⟨hx, hb, hml, hown, hts⟩ (c_Mo_sendJob (sz := H.size) e4) (cwV 2 hts (q_goodV mw406 mw407 mw408 mw409 mw366) rfl rfl rfl (by decide +kernel) ⟨Nat.le_of_ble_eq_true rfl, Nat.le_of_ble_eq_true rfl⟩) NW_ok hK hN I rfl (q_wsE (by decide) (a_M_Mo)) rfl (q_sz hl) rfl (Nat.le_of_ble_eq_true rfl) d_Mo_hang_41 ⟨Nat.zero_le _, Nat.zero_le _⟩) (fun H locs I => ?_)
        refine lv_aload_n hx hb d_Mo_hang_44 rfl (q_at hl 1 rfl) ?_
        refine lv_iload_n hx hb d_Mo_hang_45 rfl (q_at hl 0 rfl) ?_
        refine lv_iconst (v := 5) hx hb d_Mo_hang_46 (by decide) ?_
        obtain ⟨r5, e6, hf⟩ := q_bnd_some hf
        refine q_kv hA I (q_runV (C := "JobTerminalModel") (As := [.int ((q_up (q_up (q_up (q_up σ 48 0 0) 43 0 1) 44 0 0) 45 0 0) 41 0), .int 5]) (rest := []) ⟨hx, hb, hml, hown, hts⟩ (c_Mo_sendJob (sz := H.size) e6) (cwV 2 hts (q_goodV mw406 mw407 mw408 mw409 mw366) rfl rfl rfl (by decide +kernel) ⟨Nat.le_of_ble_eq_true rfl, Nat.le_of_ble_eq_true rfl⟩) NW_ok hK hN I rfl (q_wsE (by decide) (a_M_Mo)) rfl (q_sz hl) rfl (Nat.le_of_ble_eq_true rfl) d_Mo_hang_47 ⟨Nat.zero_le _, Nat.zero_le _⟩) (fun H locs I => ?_)
        exact k_Mo_hang_50 C0 hA res r5 ((q_up (q_up (q_up (q_up σ 48 0 0) 43 0 1) 44 0 0) 45 0 0) 41 0) hf H locs I ls (q_hsub hl [1, 0] rfl)
    · rw [if_neg c1] at hf
      refine lv_iconst (v := 0) hx hb d_Mo_hang_12 (by decide) ?_
      cases hf
      exact q_zret (r0 := 0) hx hb hr hlocks (by decide) I d_Mo_hang_13
  exact hgo _ _ I
-- JobTerminalModel opOf
def f_Mo_opOf_52 (σ : q_St) (y0 : Int32) : Option (Int32 × q_St) := some (y0, σ)
set_option maxHeartbeats 4000000 in
set_option maxRecDepth 100000 in
theorem k_Mo_opOf_52 {p : Program} {l : Launch} {e : Env} {s : State} {m : MethodId} {args : Array Value} {below : List Frame} {meth : Method} {c : Code} {D : va_G} {A : Nat → Prop} {ad : Nat → Nat} {cs : Nat → ClassId} (C0 : q_Cx "JobTerminalModel" b_Mo_opOf 3 (some .int) w_Mo_opOf D vwCl (tyL cs) NW p s m args meth c) (hA : ∀ q, s.heap.size ≤ q → A q) (res : (Int32 × q_St)) : ∀ (σ : q_St) (y0 : Int32) , f_Mo_opOf_52 σ y0 = some res → ∀ (H : Heap) (locs : List Loc), q_I D vwCl A s.heap (q_ws 23 ad (cM ad cs σ)) H locs → ∀ ls : Array Slot, q_has ls 3 [] → W p l e ({ frames := 0, cells := 0, slots := 0, locals := 0 } : Room) s m args below meth c H locs 0 0 (MQ below (q_Qi D vwCl res.1 (q_ws 23 ad (cM ad cs res.2)) A) args s 0 0 A) (F0 m 52 ls [.int y0]) := by
  intro σ y0 hf H locs I ls hl
  unfold f_Mo_opOf_52 at hf
  obtain ⟨hx, hb, hr, hml, hown, hts, hlocks, hK, hN⟩ := id C0
  have htg : ∀ w ∈ GW, w.before args s = true := fun w h => hts w (List.mem_cons_of_mem _ h)
  cases hf
  exact q_iret hx hb hr hlocks I d_Mo_opOf_52
def f_Mo_opOf_47 (σ : q_St) : Option (Int32 × q_St) := f_Mo_opOf_52 σ 0
set_option maxHeartbeats 4000000 in
set_option maxRecDepth 100000 in
theorem k_Mo_opOf_47 {p : Program} {l : Launch} {e : Env} {s : State} {m : MethodId} {args : Array Value} {below : List Frame} {meth : Method} {c : Code} {D : va_G} {A : Nat → Prop} {ad : Nat → Nat} {cs : Nat → ClassId} (C0 : q_Cx "JobTerminalModel" b_Mo_opOf 3 (some .int) w_Mo_opOf D vwCl (tyL cs) NW p s m args meth c) (hA : ∀ q, s.heap.size ≤ q → A q) (res : (Int32 × q_St)) : ∀ (σ : q_St) , f_Mo_opOf_47 σ  = some res → ∀ (H : Heap) (locs : List Loc), q_I D vwCl A s.heap (q_ws 23 ad (cM ad cs σ)) H locs → ∀ ls : Array Slot, q_has ls 3 [] → W p l e ({ frames := 0, cells := 0, slots := 0, locals := 0 } : Room) s m args below meth c H locs 0 0 (MQ below (q_Qi D vwCl res.1 (q_ws 23 ad (cM ad cs res.2)) A) args s 0 0 A) (F0 m 47 ls []) := by
  intro σ  hf H locs I ls hl
  unfold f_Mo_opOf_47 at hf
  obtain ⟨hx, hb, hr, hml, hown, hts, hlocks, hK, hN⟩ := id C0
  have htg : ∀ w ∈ GW, w.before args s = true := fun w h => hts w (List.mem_cons_of_mem _ h)
  refine lv_iconst (v := 0) hx hb d_Mo_opOf_47 (by decide) ?_
  refine lv_goto (tgt := 52) hx hb d_Mo_opOf_48 (by decide) ?_
  exact k_Mo_opOf_52 C0 hA res σ 0 hf H locs I ls (q_hsub hl [] rfl)
def f_Mo_opOf_36 (σ : q_St) (y0 : Int32) : Option (Int32 × q_St) := if y0 < 0 then (f_Mo_opOf_47 σ) else (if y0 ≤ 11 then (f_Mo_opOf_52 σ y0) else (f_Mo_opOf_47 σ))
set_option maxHeartbeats 4000000 in
set_option maxRecDepth 100000 in
theorem k_Mo_opOf_36 {p : Program} {l : Launch} {e : Env} {s : State} {m : MethodId} {args : Array Value} {below : List Frame} {meth : Method} {c : Code} {D : va_G} {A : Nat → Prop} {ad : Nat → Nat} {cs : Nat → ClassId} (C0 : q_Cx "JobTerminalModel" b_Mo_opOf 3 (some .int) w_Mo_opOf D vwCl (tyL cs) NW p s m args meth c) (hA : ∀ q, s.heap.size ≤ q → A q) (res : (Int32 × q_St)) : ∀ (σ : q_St) (y0 : Int32) , f_Mo_opOf_36 σ y0 = some res → ∀ (H : Heap) (locs : List Loc), q_I D vwCl A s.heap (q_ws 23 ad (cM ad cs σ)) H locs → ∀ ls : Array Slot, q_has ls 3 [] → W p l e ({ frames := 0, cells := 0, slots := 0, locals := 0 } : Room) s m args below meth c H locs 0 0 (MQ below (q_Qi D vwCl res.1 (q_ws 23 ad (cM ad cs res.2)) A) args s 0 0 A) (F0 m 36 ls [.int y0]) := by
  intro σ y0 hf H locs I ls hl
  unfold f_Mo_opOf_36 at hf
  obtain ⟨hx, hb, hr, hml, hown, hts, hlocks, hK, hN⟩ := id C0
  have htg : ∀ w ∈ GW, w.before args s = true := fun w h => hts w (List.mem_cons_of_mem _ h)
  refine q_istore_n (lv' := [(2, .int y0)]) hx hb d_Mo_opOf_36 rfl hl (by decide) rfl (fun ls hl => ?_)
  refine lv_iload_n hx hb d_Mo_opOf_37 rfl (q_at hl 0 rfl) ?_
  refine lv_if_lt (tgt := 47) hx hb d_Mo_opOf_38 (by decide) (fun c6 => ?_) (fun c6 => ?_)
  · rw [if_pos c6] at hf
    exact k_Mo_opOf_47 C0 hA res σ hf H locs I ls (q_hsub hl [] rfl)
  · rw [if_neg c6] at hf
    refine lv_iload_n hx hb d_Mo_opOf_41 rfl (q_at hl 0 rfl) ?_
    refine lv_bipush (v := 11) hx hb d_Mo_opOf_42 (by decide) ?_
    refine lv_icmp_le (tgt := 51) hx hb d_Mo_opOf_44 (by decide) (fun c7 => ?_) (fun c7 => ?_)
    · rw [if_pos c7] at hf
      refine lv_iload_n hx hb d_Mo_opOf_51 rfl (q_at hl 0 rfl) ?_
      exact k_Mo_opOf_52 C0 hA res σ y0 hf H locs I ls (q_hsub hl [] rfl)
    · rw [if_neg c7] at hf
      exact k_Mo_opOf_47 C0 hA res σ hf H locs I ls (q_hsub hl [] rfl)
def f_Mo_opOf (σ : q_St) (p1 : Int32) : Option (Int32 × q_St) := q_grd (q_in p1 8) (if (σ 5 p1.toNatClampNeg) ≤ 15 then (q_grd (q_in p1 8) (q_grd (q_in p1 8) (q_grd (q_in ((16 * (σ 4 p1.toNatClampNeg)) + (σ 5 p1.toNatClampNeg)) 64) (f_Mo_opOf_36 σ (σ 0 ((16 * (σ 4 p1.toNatClampNeg)) + (σ 5 p1.toNatClampNeg)).toNatClampNeg))))) else (f_Mo_opOf_36 σ 0))
set_option maxHeartbeats 4000000 in
set_option maxRecDepth 100000 in
theorem c_Mo_opOf {l : Launch} {D : va_G} {ad : Nat → Nat} {cs : Nat → ClassId} {sz : Nat} {σ : q_St} {p1 : Int32} {res : (Int32 × q_St)} (hf : f_Mo_opOf σ p1 = some res) : Met l y_Mo_opOf w_Mo_opOf ({ frames := 0, cells := 0, slots := 0, locals := 0 } : Room) (q_Pre D vwCl (tyL cs) NW [.ref (ad 0), .int p1] (q_ws 23 ad (cM ad cs σ)) sz) (q_Qi D vwCl res.1 (q_ws 23 ad (cM ad cs res.2)) (va_A (q_ws 23 ad (cM ad cs σ)) sz)) 0 0 (va_A (q_ws 23 ad (cM ad cs σ)) sz) := by
  refine Met.ofW (cc := b_Mo_opOf) (maxL := 3) (ret := (some .int)) (by decide) rfl ?_
  intro p e s m args below meth c s₁ B hml hv
  obtain ⟨hargs, hsz, hP, hK, hD0, hN⟩ := hv
  have hx := B.exec
  have hb := B.bytes
  have hr := B.returns
  have hts := atoms_spec (ws := w_Mo_opOf) B.pre
  have hown : s.vm.findClass "JobTerminalModel" = some m.cls := findClass_of_methodNamed B.named
  have hlocks := B.notSynchronized
  have htg : ∀ w ∈ GW, w.before args s = true := fun w h => hts w (List.mem_cons_of_mem _ h)
  subst hsz
  have hD := hD0.self (sz := s.heap.size)
  generalize hAe : va_A (q_ws 23 ad (cM ad cs σ)) s.heap.size = A at hD ⊢
  have hA : ∀ q : Nat, s.heap.size ≤ q → A q := fun q h => by rw [← hAe]; exact Or.inr h
  have I : q_I D vwCl A s.heap (q_ws 23 ad (cM ad cs σ)) s.heap [] := ⟨hP, hD, va_S.rf⟩
  obtain ⟨ls, hen, hl⟩ := q_entry (vs := [.ref (ad 0), .int p1]) (n := 3) (lv := [(0, .ref (ad 0)), (1, .int p1)]) (by intro v hv; simp only [List.mem_cons, List.not_mem_nil, or_false] at hv; rcases hv with rfl | rfl <;> first | rfl | exact q_cat) (Nat.le_of_ble_eq_true rfl) rfl
  rw [show entryFrame m args 3 = F0 m 0 ls [] from by rw [hargs]; exact hen m]
  have C0 : q_Cx "JobTerminalModel" b_Mo_opOf 3 (some .int) w_Mo_opOf D vwCl (tyL cs) NW p s m args meth c := ⟨hx, hb, hr, hml, hown, hts, hlocks, hK, hN⟩
  unfold f_Mo_opOf at hf
  have hgo : ∀ (H : Heap) (locs : List Loc), q_I D vwCl A s.heap (q_ws 23 ad (cM ad cs σ)) H locs → W p l e ({ frames := 0, cells := 0, slots := 0, locals := 0 } : Room) s m args below meth c H locs 0 0 (MQ below (q_Qi D vwCl res.1 (q_ws 23 ad (cM ad cs res.2)) A) args s 0 0 A) (F0 m 0 ls []) := by
    intro H locs I
    refine lv_aload_n hx hb d_Mo_opOf_0 rfl (q_at hl 0 rfl) ?_
    refine G_Mo_Mo_line hx hb htg hown hK hN I d_Mo_opOf_1 ?_
    refine lv_iload_n hx hb d_Mo_opOf_4 rfl (q_at hl 1 rfl) ?_
    obtain ⟨o1, hf⟩ := q_grd_some hf
    refine A_M_line hx hb hK I o1 d_Mo_opOf_5 ?_
    refine lv_bipush (v := 15) hx hb d_Mo_opOf_6 (by decide) ?_
    refine lv_icmp_le (tgt := 15) hx hb d_Mo_opOf_8 (by decide) (fun c2 => ?_) (fun c2 => ?_)
    · rw [if_pos c2] at hf
      refine lv_aload_n hx hb d_Mo_opOf_15 rfl (q_at hl 0 rfl) ?_
      refine G_Mo_Mo_ops hx hb htg hown hK hN I d_Mo_opOf_16 ?_
      refine lv_bipush (v := 16) hx hb d_Mo_opOf_19 (by decide) ?_
      refine lv_aload_n hx hb d_Mo_opOf_21 rfl (q_at hl 0 rfl) ?_
      refine G_Mo_Mo_programOf hx hb htg hown hK hN I d_Mo_opOf_22 ?_
      refine lv_iload_n hx hb d_Mo_opOf_25 rfl (q_at hl 1 rfl) ?_
      obtain ⟨o3, hf⟩ := q_grd_some hf
      refine A_M_programOf hx hb hK I o3 d_Mo_opOf_26 ?_
      refine lv_imul hx hb d_Mo_opOf_27 ?_
      refine lv_aload_n hx hb d_Mo_opOf_28 rfl (q_at hl 0 rfl) ?_
      refine G_Mo_Mo_line hx hb htg hown hK hN I d_Mo_opOf_29 ?_
      refine lv_iload_n hx hb d_Mo_opOf_32 rfl (q_at hl 1 rfl) ?_
      obtain ⟨o4, hf⟩ := q_grd_some hf
      refine A_M_line hx hb hK I o4 d_Mo_opOf_33 ?_
      refine lv_iadd hx hb d_Mo_opOf_34 ?_
      obtain ⟨o5, hf⟩ := q_grd_some hf
      refine A_M_ops hx hb hK I o5 d_Mo_opOf_35 ?_
      exact k_Mo_opOf_36 C0 hA res σ (σ 0 ((16 * (σ 4 p1.toNatClampNeg)) + (σ 5 p1.toNatClampNeg)).toNatClampNeg) hf H locs I ls (q_hsub hl [] rfl)
    · rw [if_neg c2] at hf
      refine lv_iconst (v := 0) hx hb d_Mo_opOf_11 (by decide) ?_
      refine lv_goto (tgt := 36) hx hb d_Mo_opOf_12 (by decide) ?_
      exact k_Mo_opOf_36 C0 hA res σ 0 hf H locs I ls (q_hsub hl [] rfl)
  exact hgo _ _ I
-- JobTerminalModel numberOf
def f_Mo_numberOf_36 (σ : q_St) (y0 : Int32) : Option (Int32 × q_St) := some (y0, σ)
set_option maxHeartbeats 4000000 in
set_option maxRecDepth 100000 in
theorem k_Mo_numberOf_36 {p : Program} {l : Launch} {e : Env} {s : State} {m : MethodId} {args : Array Value} {below : List Frame} {meth : Method} {c : Code} {D : va_G} {A : Nat → Prop} {ad : Nat → Nat} {cs : Nat → ClassId} (C0 : q_Cx "JobTerminalModel" b_Mo_numberOf 2 (some .int) w_Mo_numberOf D vwCl (tyL cs) NW p s m args meth c) (hA : ∀ q, s.heap.size ≤ q → A q) (res : (Int32 × q_St)) : ∀ (σ : q_St) (y0 : Int32) , f_Mo_numberOf_36 σ y0 = some res → ∀ (H : Heap) (locs : List Loc), q_I D vwCl A s.heap (q_ws 23 ad (cM ad cs σ)) H locs → ∀ ls : Array Slot, q_has ls 2 [] → W p l e ({ frames := 0, cells := 0, slots := 0, locals := 0 } : Room) s m args below meth c H locs 0 0 (MQ below (q_Qi D vwCl res.1 (q_ws 23 ad (cM ad cs res.2)) A) args s 0 0 A) (F0 m 36 ls [.int y0]) := by
  intro σ y0 hf H locs I ls hl
  unfold f_Mo_numberOf_36 at hf
  obtain ⟨hx, hb, hr, hml, hown, hts, hlocks, hK, hN⟩ := id C0
  have htg : ∀ w ∈ GW, w.before args s = true := fun w h => hts w (List.mem_cons_of_mem _ h)
  cases hf
  exact q_iret hx hb hr hlocks I d_Mo_numberOf_36
def f_Mo_numberOf (σ : q_St) (p1 : Int32) : Option (Int32 × q_St) := q_grd (q_in p1 8) (if (σ 5 p1.toNatClampNeg) ≤ 15 then (q_grd (q_in p1 8) (q_grd (q_in p1 8) (q_grd (q_in ((16 * (σ 4 p1.toNatClampNeg)) + (σ 5 p1.toNatClampNeg)) 64) (f_Mo_numberOf_36 σ (σ 1 ((16 * (σ 4 p1.toNatClampNeg)) + (σ 5 p1.toNatClampNeg)).toNatClampNeg))))) else (f_Mo_numberOf_36 σ 0))
set_option maxHeartbeats 4000000 in
set_option maxRecDepth 100000 in
theorem c_Mo_numberOf {l : Launch} {D : va_G} {ad : Nat → Nat} {cs : Nat → ClassId} {sz : Nat} {σ : q_St} {p1 : Int32} {res : (Int32 × q_St)} (hf : f_Mo_numberOf σ p1 = some res) : Met l y_Mo_numberOf w_Mo_numberOf ({ frames := 0, cells := 0, slots := 0, locals := 0 } : Room) (q_Pre D vwCl (tyL cs) NW [.ref (ad 0), .int p1] (q_ws 23 ad (cM ad cs σ)) sz) (q_Qi D vwCl res.1 (q_ws 23 ad (cM ad cs res.2)) (va_A (q_ws 23 ad (cM ad cs σ)) sz)) 0 0 (va_A (q_ws 23 ad (cM ad cs σ)) sz) := by
  refine Met.ofW (cc := b_Mo_numberOf) (maxL := 2) (ret := (some .int)) (by decide) rfl ?_
  intro p e s m args below meth c s₁ B hml hv
  obtain ⟨hargs, hsz, hP, hK, hD0, hN⟩ := hv
  have hx := B.exec
  have hb := B.bytes
  have hr := B.returns
  have hts := atoms_spec (ws := w_Mo_numberOf) B.pre
  have hown : s.vm.findClass "JobTerminalModel" = some m.cls := findClass_of_methodNamed B.named
  have hlocks := B.notSynchronized
  have htg : ∀ w ∈ GW, w.before args s = true := fun w h => hts w (List.mem_cons_of_mem _ h)
  subst hsz
  have hD := hD0.self (sz := s.heap.size)
  generalize hAe : va_A (q_ws 23 ad (cM ad cs σ)) s.heap.size = A at hD ⊢
  have hA : ∀ q : Nat, s.heap.size ≤ q → A q := fun q h => by rw [← hAe]; exact Or.inr h
  have I : q_I D vwCl A s.heap (q_ws 23 ad (cM ad cs σ)) s.heap [] := ⟨hP, hD, va_S.rf⟩
  obtain ⟨ls, hen, hl⟩ := q_entry (vs := [.ref (ad 0), .int p1]) (n := 2) (lv := [(0, .ref (ad 0)), (1, .int p1)]) (by intro v hv; simp only [List.mem_cons, List.not_mem_nil, or_false] at hv; rcases hv with rfl | rfl <;> first | rfl | exact q_cat) (Nat.le_of_ble_eq_true rfl) rfl
  rw [show entryFrame m args 2 = F0 m 0 ls [] from by rw [hargs]; exact hen m]
  have C0 : q_Cx "JobTerminalModel" b_Mo_numberOf 2 (some .int) w_Mo_numberOf D vwCl (tyL cs) NW p s m args meth c := ⟨hx, hb, hr, hml, hown, hts, hlocks, hK, hN⟩
  unfold f_Mo_numberOf at hf
  have hgo : ∀ (H : Heap) (locs : List Loc), q_I D vwCl A s.heap (q_ws 23 ad (cM ad cs σ)) H locs → W p l e ({ frames := 0, cells := 0, slots := 0, locals := 0 } : Room) s m args below meth c H locs 0 0 (MQ below (q_Qi D vwCl res.1 (q_ws 23 ad (cM ad cs res.2)) A) args s 0 0 A) (F0 m 0 ls []) := by
    intro H locs I
    refine lv_aload_n hx hb d_Mo_numberOf_0 rfl (q_at hl 0 rfl) ?_
    refine G_Mo_Mo_line hx hb htg hown hK hN I d_Mo_numberOf_1 ?_
    refine lv_iload_n hx hb d_Mo_numberOf_4 rfl (q_at hl 1 rfl) ?_
    obtain ⟨o1, hf⟩ := q_grd_some hf
    refine A_M_line hx hb hK I o1 d_Mo_numberOf_5 ?_
    refine lv_bipush (v := 15) hx hb d_Mo_numberOf_6 (by decide) ?_
    refine lv_icmp_le (tgt := 15) hx hb d_Mo_numberOf_8 (by decide) (fun c2 => ?_) (fun c2 => ?_)
    · rw [if_pos c2] at hf
      refine lv_aload_n hx hb d_Mo_numberOf_15 rfl (q_at hl 0 rfl) ?_
      refine G_Mo_Mo_numbers hx hb htg hown hK hN I d_Mo_numberOf_16 ?_
      refine lv_bipush (v := 16) hx hb d_Mo_numberOf_19 (by decide) ?_
      refine lv_aload_n hx hb d_Mo_numberOf_21 rfl (q_at hl 0 rfl) ?_
      refine G_Mo_Mo_programOf hx hb htg hown hK hN I d_Mo_numberOf_22 ?_
      refine lv_iload_n hx hb d_Mo_numberOf_25 rfl (q_at hl 1 rfl) ?_
      obtain ⟨o3, hf⟩ := q_grd_some hf
      refine A_M_programOf hx hb hK I o3 d_Mo_numberOf_26 ?_
      refine lv_imul hx hb d_Mo_numberOf_27 ?_
      refine lv_aload_n hx hb d_Mo_numberOf_28 rfl (q_at hl 0 rfl) ?_
      refine G_Mo_Mo_line hx hb htg hown hK hN I d_Mo_numberOf_29 ?_
      refine lv_iload_n hx hb d_Mo_numberOf_32 rfl (q_at hl 1 rfl) ?_
      obtain ⟨o4, hf⟩ := q_grd_some hf
      refine A_M_line hx hb hK I o4 d_Mo_numberOf_33 ?_
      refine lv_iadd hx hb d_Mo_numberOf_34 ?_
      obtain ⟨o5, hf⟩ := q_grd_some hf
      refine A_M_numbers hx hb hK I o5 d_Mo_numberOf_35 ?_
      exact k_Mo_numberOf_36 C0 hA res σ (σ 1 ((16 * (σ 4 p1.toNatClampNeg)) + (σ 5 p1.toNatClampNeg)).toNatClampNeg) hf H locs I ls (q_hsub hl [] rfl)
    · rw [if_neg c2] at hf
      refine lv_iconst (v := 0) hx hb d_Mo_numberOf_11 (by decide) ?_
      refine lv_goto (tgt := 36) hx hb d_Mo_numberOf_12 (by decide) ?_
      exact k_Mo_numberOf_36 C0 hA res σ 0 hf H locs I ls (q_hsub hl [] rfl)
  exact hgo _ _ I
-- JobTerminalModel readsPipe
def f_Mo_readsPipe_20 (σ : q_St) (y0 : Int32) : Option (Int32 × q_St) := q_grd (q_isB y0) (some (y0, σ))
set_option maxHeartbeats 4000000 in
set_option maxRecDepth 100000 in
theorem k_Mo_readsPipe_20 {p : Program} {l : Launch} {e : Env} {s : State} {m : MethodId} {args : Array Value} {below : List Frame} {meth : Method} {c : Code} {D : va_G} {A : Nat → Prop} {ad : Nat → Nat} {cs : Nat → ClassId} (C0 : q_Cx "JobTerminalModel" b_Mo_readsPipe 2 (some .boolean) w_Mo_readsPipe D vwCl (tyL cs) NW p s m args meth c) (hA : ∀ q, s.heap.size ≤ q → A q) (res : (Int32 × q_St)) : ∀ (σ : q_St) (y0 : Int32) , f_Mo_readsPipe_20 σ y0 = some res → ∀ (H : Heap) (locs : List Loc), q_I D vwCl A s.heap (q_ws 23 ad (cM ad cs σ)) H locs → ∀ ls : Array Slot, q_has ls 2 [] → W p l e ({ frames := 0, cells := 0, slots := 0, locals := 0 } : Room) s m args below meth c H locs 0 0 (MQ below (q_Qi D vwCl res.1 (q_ws 23 ad (cM ad cs res.2)) A) args s 0 0 A) (F0 m 20 ls [.int y0]) := by
  intro σ y0 hf H locs I ls hl
  unfold f_Mo_readsPipe_20 at hf
  obtain ⟨hx, hb, hr, hml, hown, hts, hlocks, hK, hN⟩ := id C0
  have htg : ∀ w ∈ GW, w.before args s = true := fun w h => hts w (List.mem_cons_of_mem _ h)
  obtain ⟨o4, hf⟩ := q_grd_some hf
  cases hf
  exact q_zret hx hb hr hlocks o4 I d_Mo_readsPipe_20
def f_Mo_readsPipe (σ : q_St) (p1 : Int32) : Option (Int32 × q_St) := q_grd (q_in p1 8) (q_grd (q_in (σ 3 p1.toNatClampNeg) 4) (if (σ 14 (σ 3 p1.toNatClampNeg).toNatClampNeg) = p1 then (f_Mo_readsPipe_20 σ 1) else (f_Mo_readsPipe_20 σ 0)))
set_option maxHeartbeats 4000000 in
set_option maxRecDepth 100000 in
theorem c_Mo_readsPipe {l : Launch} {D : va_G} {ad : Nat → Nat} {cs : Nat → ClassId} {sz : Nat} {σ : q_St} {p1 : Int32} {res : (Int32 × q_St)} (hf : f_Mo_readsPipe σ p1 = some res) : Met l y_Mo_readsPipe w_Mo_readsPipe ({ frames := 0, cells := 0, slots := 0, locals := 0 } : Room) (q_Pre D vwCl (tyL cs) NW [.ref (ad 0), .int p1] (q_ws 23 ad (cM ad cs σ)) sz) (q_Qi D vwCl res.1 (q_ws 23 ad (cM ad cs res.2)) (va_A (q_ws 23 ad (cM ad cs σ)) sz)) 0 0 (va_A (q_ws 23 ad (cM ad cs σ)) sz) := by
  refine Met.ofW (cc := b_Mo_readsPipe) (maxL := 2) (ret := (some .boolean)) (by decide) rfl ?_
  intro p e s m args below meth c s₁ B hml hv
  obtain ⟨hargs, hsz, hP, hK, hD0, hN⟩ := hv
  have hx := B.exec
  have hb := B.bytes
  have hr := B.returns
  have hts := atoms_spec (ws := w_Mo_readsPipe) B.pre
  have hown : s.vm.findClass "JobTerminalModel" = some m.cls := findClass_of_methodNamed B.named
  have hlocks := B.notSynchronized
  have htg : ∀ w ∈ GW, w.before args s = true := fun w h => hts w (List.mem_cons_of_mem _ h)
  subst hsz
  have hD := hD0.self (sz := s.heap.size)
  generalize hAe : va_A (q_ws 23 ad (cM ad cs σ)) s.heap.size = A at hD ⊢
  have hA : ∀ q : Nat, s.heap.size ≤ q → A q := fun q h => by rw [← hAe]; exact Or.inr h
  have I : q_I D vwCl A s.heap (q_ws 23 ad (cM ad cs σ)) s.heap [] := ⟨hP, hD, va_S.rf⟩
  obtain ⟨ls, hen, hl⟩ := q_entry (vs := [.ref (ad 0), .int p1]) (n := 2) (lv := [(0, .ref (ad 0)), (1, .int p1)]) (by intro v hv; simp only [List.mem_cons, List.not_mem_nil, or_false] at hv; rcases hv with rfl | rfl <;> first | rfl | exact q_cat) (Nat.le_of_ble_eq_true rfl) rfl
  rw [show entryFrame m args 2 = F0 m 0 ls [] from by rw [hargs]; exact hen m]
  have C0 : q_Cx "JobTerminalModel" b_Mo_readsPipe 2 (some .boolean) w_Mo_readsPipe D vwCl (tyL cs) NW p s m args meth c := ⟨hx, hb, hr, hml, hown, hts, hlocks, hK, hN⟩
  unfold f_Mo_readsPipe at hf
  have hgo : ∀ (H : Heap) (locs : List Loc), q_I D vwCl A s.heap (q_ws 23 ad (cM ad cs σ)) H locs → W p l e ({ frames := 0, cells := 0, slots := 0, locals := 0 } : Room) s m args below meth c H locs 0 0 (MQ below (q_Qi D vwCl res.1 (q_ws 23 ad (cM ad cs res.2)) A) args s 0 0 A) (F0 m 0 ls []) := by
    intro H locs I
    refine lv_aload_n hx hb d_Mo_readsPipe_0 rfl (q_at hl 0 rfl) ?_
    refine G_Mo_Mo_second hx hb htg hown hK hN I d_Mo_readsPipe_1 ?_
    refine lv_aload_n hx hb d_Mo_readsPipe_4 rfl (q_at hl 0 rfl) ?_
    refine G_Mo_Mo_jobOf hx hb htg hown hK hN I d_Mo_readsPipe_5 ?_
    refine lv_iload_n hx hb d_Mo_readsPipe_8 rfl (q_at hl 1 rfl) ?_
    obtain ⟨o1, hf⟩ := q_grd_some hf
    refine A_M_jobOf hx hb hK I o1 d_Mo_readsPipe_9 ?_
    obtain ⟨o2, hf⟩ := q_grd_some hf
    refine A_M_second hx hb hK I o2 d_Mo_readsPipe_10 ?_
    refine lv_iload_n hx hb d_Mo_readsPipe_11 rfl (q_at hl 1 rfl) ?_
    refine lv_icmp_ne (tgt := 19) hx hb d_Mo_readsPipe_12 (by decide) (fun c3 => ?_) (fun c3 => ?_)
    · rw [if_neg c3] at hf
      refine lv_iconst (v := 0) hx hb d_Mo_readsPipe_19 (by decide) ?_
      exact k_Mo_readsPipe_20 C0 hA res σ 0 hf H locs I ls (q_hsub hl [] rfl)
    · rw [if_pos c3] at hf
      refine lv_iconst (v := 1) hx hb d_Mo_readsPipe_15 (by decide) ?_
      refine lv_goto (tgt := 20) hx hb d_Mo_readsPipe_16 (by decide) ?_
      exact k_Mo_readsPipe_20 C0 hA res σ 1 hf H locs I ls (q_hsub hl [] rfl)
  exact hgo _ _ I
-- JobTerminalModel writesPipe
def f_Mo_writesPipe_34 (σ : q_St) (y0 : Int32) : Option (Int32 × q_St) := q_grd (q_isB y0) (some (y0, σ))
set_option maxHeartbeats 4000000 in
set_option maxRecDepth 100000 in
theorem k_Mo_writesPipe_34 {p : Program} {l : Launch} {e : Env} {s : State} {m : MethodId} {args : Array Value} {below : List Frame} {meth : Method} {c : Code} {D : va_G} {A : Nat → Prop} {ad : Nat → Nat} {cs : Nat → ClassId} (C0 : q_Cx "JobTerminalModel" b_Mo_writesPipe 2 (some .boolean) w_Mo_writesPipe D vwCl (tyL cs) NW p s m args meth c) (hA : ∀ q, s.heap.size ≤ q → A q) (res : (Int32 × q_St)) : ∀ (σ : q_St) (y0 : Int32) , f_Mo_writesPipe_34 σ y0 = some res → ∀ (H : Heap) (locs : List Loc), q_I D vwCl A s.heap (q_ws 23 ad (cM ad cs σ)) H locs → ∀ ls : Array Slot, q_has ls 2 [] → W p l e ({ frames := 0, cells := 0, slots := 0, locals := 0 } : Room) s m args below meth c H locs 0 0 (MQ below (q_Qi D vwCl res.1 (q_ws 23 ad (cM ad cs res.2)) A) args s 0 0 A) (F0 m 34 ls [.int y0]) := by
  intro σ y0 hf H locs I ls hl
  unfold f_Mo_writesPipe_34 at hf
  obtain ⟨hx, hb, hr, hml, hown, hts, hlocks, hK, hN⟩ := id C0
  have htg : ∀ w ∈ GW, w.before args s = true := fun w h => hts w (List.mem_cons_of_mem _ h)
  obtain ⟨o7, hf⟩ := q_grd_some hf
  cases hf
  exact q_zret hx hb hr hlocks o7 I d_Mo_writesPipe_34
def f_Mo_writesPipe_33 (σ : q_St) : Option (Int32 × q_St) := f_Mo_writesPipe_34 σ 0
set_option maxHeartbeats 4000000 in
set_option maxRecDepth 100000 in
theorem k_Mo_writesPipe_33 {p : Program} {l : Launch} {e : Env} {s : State} {m : MethodId} {args : Array Value} {below : List Frame} {meth : Method} {c : Code} {D : va_G} {A : Nat → Prop} {ad : Nat → Nat} {cs : Nat → ClassId} (C0 : q_Cx "JobTerminalModel" b_Mo_writesPipe 2 (some .boolean) w_Mo_writesPipe D vwCl (tyL cs) NW p s m args meth c) (hA : ∀ q, s.heap.size ≤ q → A q) (res : (Int32 × q_St)) : ∀ (σ : q_St) , f_Mo_writesPipe_33 σ  = some res → ∀ (H : Heap) (locs : List Loc), q_I D vwCl A s.heap (q_ws 23 ad (cM ad cs σ)) H locs → ∀ ls : Array Slot, q_has ls 2 [] → W p l e ({ frames := 0, cells := 0, slots := 0, locals := 0 } : Room) s m args below meth c H locs 0 0 (MQ below (q_Qi D vwCl res.1 (q_ws 23 ad (cM ad cs res.2)) A) args s 0 0 A) (F0 m 33 ls []) := by
  intro σ  hf H locs I ls hl
  unfold f_Mo_writesPipe_33 at hf
  obtain ⟨hx, hb, hr, hml, hown, hts, hlocks, hK, hN⟩ := id C0
  have htg : ∀ w ∈ GW, w.before args s = true := fun w h => hts w (List.mem_cons_of_mem _ h)
  refine lv_iconst (v := 0) hx hb d_Mo_writesPipe_33 (by decide) ?_
  exact k_Mo_writesPipe_34 C0 hA res σ 0 hf H locs I ls (q_hsub hl [] rfl)
def f_Mo_writesPipe (σ : q_St) (p1 : Int32) : Option (Int32 × q_St) := q_grd (q_in p1 8) (q_grd (q_in (σ 3 p1.toNatClampNeg) 4) (if (σ 14 (σ 3 p1.toNatClampNeg).toNatClampNeg) < 0 then (f_Mo_writesPipe_33 σ) else (q_grd (q_in p1 8) (q_grd (q_in (σ 3 p1.toNatClampNeg) 4) (if (σ 13 (σ 3 p1.toNatClampNeg).toNatClampNeg) = p1 then (f_Mo_writesPipe_34 σ 1) else (f_Mo_writesPipe_33 σ))))))
set_option maxHeartbeats 4000000 in
set_option maxRecDepth 100000 in
theorem c_Mo_writesPipe {l : Launch} {D : va_G} {ad : Nat → Nat} {cs : Nat → ClassId} {sz : Nat} {σ : q_St} {p1 : Int32} {res : (Int32 × q_St)} (hf : f_Mo_writesPipe σ p1 = some res) : Met l y_Mo_writesPipe w_Mo_writesPipe ({ frames := 0, cells := 0, slots := 0, locals := 0 } : Room) (q_Pre D vwCl (tyL cs) NW [.ref (ad 0), .int p1] (q_ws 23 ad (cM ad cs σ)) sz) (q_Qi D vwCl res.1 (q_ws 23 ad (cM ad cs res.2)) (va_A (q_ws 23 ad (cM ad cs σ)) sz)) 0 0 (va_A (q_ws 23 ad (cM ad cs σ)) sz) := by
  refine Met.ofW (cc := b_Mo_writesPipe) (maxL := 2) (ret := (some .boolean)) (by decide) rfl ?_
  intro p e s m args below meth c s₁ B hml hv
  obtain ⟨hargs, hsz, hP, hK, hD0, hN⟩ := hv
  have hx := B.exec
  have hb := B.bytes
  have hr := B.returns
  have hts := atoms_spec (ws := w_Mo_writesPipe) B.pre
  have hown : s.vm.findClass "JobTerminalModel" = some m.cls := findClass_of_methodNamed B.named
  have hlocks := B.notSynchronized
  have htg : ∀ w ∈ GW, w.before args s = true := fun w h => hts w (List.mem_cons_of_mem _ h)
  subst hsz
  have hD := hD0.self (sz := s.heap.size)
  generalize hAe : va_A (q_ws 23 ad (cM ad cs σ)) s.heap.size = A at hD ⊢
  have hA : ∀ q : Nat, s.heap.size ≤ q → A q := fun q h => by rw [← hAe]; exact Or.inr h
  have I : q_I D vwCl A s.heap (q_ws 23 ad (cM ad cs σ)) s.heap [] := ⟨hP, hD, va_S.rf⟩
  obtain ⟨ls, hen, hl⟩ := q_entry (vs := [.ref (ad 0), .int p1]) (n := 2) (lv := [(0, .ref (ad 0)), (1, .int p1)]) (by intro v hv; simp only [List.mem_cons, List.not_mem_nil, or_false] at hv; rcases hv with rfl | rfl <;> first | rfl | exact q_cat) (Nat.le_of_ble_eq_true rfl) rfl
  rw [show entryFrame m args 2 = F0 m 0 ls [] from by rw [hargs]; exact hen m]
  have C0 : q_Cx "JobTerminalModel" b_Mo_writesPipe 2 (some .boolean) w_Mo_writesPipe D vwCl (tyL cs) NW p s m args meth c := ⟨hx, hb, hr, hml, hown, hts, hlocks, hK, hN⟩
  unfold f_Mo_writesPipe at hf
  have hgo : ∀ (H : Heap) (locs : List Loc), q_I D vwCl A s.heap (q_ws 23 ad (cM ad cs σ)) H locs → W p l e ({ frames := 0, cells := 0, slots := 0, locals := 0 } : Room) s m args below meth c H locs 0 0 (MQ below (q_Qi D vwCl res.1 (q_ws 23 ad (cM ad cs res.2)) A) args s 0 0 A) (F0 m 0 ls []) := by
    intro H locs I
    refine lv_aload_n hx hb d_Mo_writesPipe_0 rfl (q_at hl 0 rfl) ?_
    refine G_Mo_Mo_second hx hb htg hown hK hN I d_Mo_writesPipe_1 ?_
    refine lv_aload_n hx hb d_Mo_writesPipe_4 rfl (q_at hl 0 rfl) ?_
    refine G_Mo_Mo_jobOf hx hb htg hown hK hN I d_Mo_writesPipe_5 ?_
    refine lv_iload_n hx hb d_Mo_writesPipe_8 rfl (q_at hl 1 rfl) ?_
    obtain ⟨o1, hf⟩ := q_grd_some hf
    refine A_M_jobOf hx hb hK I o1 d_Mo_writesPipe_9 ?_
    obtain ⟨o2, hf⟩ := q_grd_some hf
    refine A_M_second hx hb hK I o2 d_Mo_writesPipe_10 ?_
    refine lv_if_lt (tgt := 33) hx hb d_Mo_writesPipe_11 (by decide) (fun c3 => ?_) (fun c3 => ?_)
    · rw [if_pos c3] at hf
      exact k_Mo_writesPipe_33 C0 hA res σ hf H locs I ls (q_hsub hl [] rfl)
    · rw [if_neg c3] at hf
      refine lv_aload_n hx hb d_Mo_writesPipe_14 rfl (q_at hl 0 rfl) ?_
      refine G_Mo_Mo_first hx hb htg hown hK hN I d_Mo_writesPipe_15 ?_
      refine lv_aload_n hx hb d_Mo_writesPipe_18 rfl (q_at hl 0 rfl) ?_
      refine G_Mo_Mo_jobOf hx hb htg hown hK hN I d_Mo_writesPipe_19 ?_
      refine lv_iload_n hx hb d_Mo_writesPipe_22 rfl (q_at hl 1 rfl) ?_
      obtain ⟨o4, hf⟩ := q_grd_some hf
      refine A_M_jobOf hx hb hK I o4 d_Mo_writesPipe_23 ?_
      obtain ⟨o5, hf⟩ := q_grd_some hf
      refine A_M_first hx hb hK I o5 d_Mo_writesPipe_24 ?_
      refine lv_iload_n hx hb d_Mo_writesPipe_25 rfl (q_at hl 1 rfl) ?_
      refine lv_icmp_ne (tgt := 33) hx hb d_Mo_writesPipe_26 (by decide) (fun c6 => ?_) (fun c6 => ?_)
      · rw [if_neg c6] at hf
        exact k_Mo_writesPipe_33 C0 hA res σ hf H locs I ls (q_hsub hl [] rfl)
      · rw [if_pos c6] at hf
        refine lv_iconst (v := 1) hx hb d_Mo_writesPipe_29 (by decide) ?_
        refine lv_goto (tgt := 34) hx hb d_Mo_writesPipe_30 (by decide) ?_
        exact k_Mo_writesPipe_34 C0 hA res σ 1 hf H locs I ls (q_hsub hl [] rfl)
  exact hgo _ _ I
-- JobTerminalModel writes
def f_Mo_writes_32 (σ : q_St) (y0 : Int32) : Option (Int32 × q_St) := q_grd (q_isB y0) (some (y0, σ))
set_option maxHeartbeats 4000000 in
set_option maxRecDepth 100000 in
theorem k_Mo_writes_32 {p : Program} {l : Launch} {e : Env} {s : State} {m : MethodId} {args : Array Value} {below : List Frame} {meth : Method} {c : Code} {D : va_G} {A : Nat → Prop} {ad : Nat → Nat} {cs : Nat → ClassId} (C0 : q_Cx "JobTerminalModel" b_Mo_writes 2 (some .boolean) w_Mo_writes D vwCl (tyL cs) NW p s m args meth c) (hA : ∀ q, s.heap.size ≤ q → A q) (res : (Int32 × q_St)) : ∀ (σ : q_St) (y0 : Int32) , f_Mo_writes_32 σ y0 = some res → ∀ (H : Heap) (locs : List Loc), q_I D vwCl A s.heap (q_ws 23 ad (cM ad cs σ)) H locs → ∀ ls : Array Slot, q_has ls 2 [] → W p l e ({ frames := 1, cells := 0, slots := 0, locals := 22 } : Room) s m args below meth c H locs 0 0 (MQ below (q_Qi D vwCl res.1 (q_ws 23 ad (cM ad cs res.2)) A) args s 0 0 A) (F0 m 32 ls [.int y0]) := by
  intro σ y0 hf H locs I ls hl
  unfold f_Mo_writes_32 at hf
  obtain ⟨hx, hb, hr, hml, hown, hts, hlocks, hK, hN⟩ := id C0
  have htg : ∀ w ∈ GW, w.before args s = true := fun w h => hts w (List.mem_cons_of_mem _ h)
  obtain ⟨o9, hf⟩ := q_grd_some hf
  cases hf
  exact q_zret hx hb hr hlocks o9 I d_Mo_writes_32
def f_Mo_writes_31 (σ : q_St) : Option (Int32 × q_St) := f_Mo_writes_32 σ 0
set_option maxHeartbeats 4000000 in
set_option maxRecDepth 100000 in
theorem k_Mo_writes_31 {p : Program} {l : Launch} {e : Env} {s : State} {m : MethodId} {args : Array Value} {below : List Frame} {meth : Method} {c : Code} {D : va_G} {A : Nat → Prop} {ad : Nat → Nat} {cs : Nat → ClassId} (C0 : q_Cx "JobTerminalModel" b_Mo_writes 2 (some .boolean) w_Mo_writes D vwCl (tyL cs) NW p s m args meth c) (hA : ∀ q, s.heap.size ≤ q → A q) (res : (Int32 × q_St)) : ∀ (σ : q_St) , f_Mo_writes_31 σ  = some res → ∀ (H : Heap) (locs : List Loc), q_I D vwCl A s.heap (q_ws 23 ad (cM ad cs σ)) H locs → ∀ ls : Array Slot, q_has ls 2 [] → W p l e ({ frames := 1, cells := 0, slots := 0, locals := 22 } : Room) s m args below meth c H locs 0 0 (MQ below (q_Qi D vwCl res.1 (q_ws 23 ad (cM ad cs res.2)) A) args s 0 0 A) (F0 m 31 ls []) := by
  intro σ  hf H locs I ls hl
  unfold f_Mo_writes_31 at hf
  obtain ⟨hx, hb, hr, hml, hown, hts, hlocks, hK, hN⟩ := id C0
  have htg : ∀ w ∈ GW, w.before args s = true := fun w h => hts w (List.mem_cons_of_mem _ h)
  refine lv_iconst (v := 0) hx hb d_Mo_writes_31 (by decide) ?_
  exact k_Mo_writes_32 C0 hA res σ 0 hf H locs I ls (q_hsub hl [] rfl)
def f_Mo_writes_27 (σ : q_St) : Option (Int32 × q_St) := f_Mo_writes_32 σ 1
set_option maxHeartbeats 4000000 in
set_option maxRecDepth 100000 in
theorem k_Mo_writes_27 {p : Program} {l : Launch} {e : Env} {s : State} {m : MethodId} {args : Array Value} {below : List Frame} {meth : Method} {c : Code} {D : va_G} {A : Nat → Prop} {ad : Nat → Nat} {cs : Nat → ClassId} (C0 : q_Cx "JobTerminalModel" b_Mo_writes 2 (some .boolean) w_Mo_writes D vwCl (tyL cs) NW p s m args meth c) (hA : ∀ q, s.heap.size ≤ q → A q) (res : (Int32 × q_St)) : ∀ (σ : q_St) , f_Mo_writes_27 σ  = some res → ∀ (H : Heap) (locs : List Loc), q_I D vwCl A s.heap (q_ws 23 ad (cM ad cs σ)) H locs → ∀ ls : Array Slot, q_has ls 2 [] → W p l e ({ frames := 1, cells := 0, slots := 0, locals := 22 } : Room) s m args below meth c H locs 0 0 (MQ below (q_Qi D vwCl res.1 (q_ws 23 ad (cM ad cs res.2)) A) args s 0 0 A) (F0 m 27 ls []) := by
  intro σ  hf H locs I ls hl
  unfold f_Mo_writes_27 at hf
  obtain ⟨hx, hb, hr, hml, hown, hts, hlocks, hK, hN⟩ := id C0
  have htg : ∀ w ∈ GW, w.before args s = true := fun w h => hts w (List.mem_cons_of_mem _ h)
  refine lv_iconst (v := 1) hx hb d_Mo_writes_27 (by decide) ?_
  refine lv_goto (tgt := 32) hx hb d_Mo_writes_28 (by decide) ?_
  exact k_Mo_writes_32 C0 hA res σ 1 hf H locs I ls (q_hsub hl [] rfl)
def f_Mo_writes (σ : q_St) (p1 : Int32) : Option (Int32 × q_St) := q_bnd (f_Mo_opOf σ p1) (fun r1 => if r1.1 = 1 then (f_Mo_writes_27 r1.2) else (q_bnd (f_Mo_opOf r1.2 p1) (fun r4 => if r4.1 = 3 then (q_grd (q_in p1 8) (if (r4.2 6 p1.toNatClampNeg) < 0 then (f_Mo_writes_31 r4.2) else (f_Mo_writes_27 r4.2))) else (f_Mo_writes_31 r4.2))))
set_option maxHeartbeats 4000000 in
set_option maxRecDepth 100000 in
theorem c_Mo_writes {l : Launch} {D : va_G} {ad : Nat → Nat} {cs : Nat → ClassId} {sz : Nat} {σ : q_St} {p1 : Int32} {res : (Int32 × q_St)} (hf : f_Mo_writes σ p1 = some res) : Met l y_Mo_writes w_Mo_writes ({ frames := 1, cells := 0, slots := 0, locals := 22 } : Room) (q_Pre D vwCl (tyL cs) NW [.ref (ad 0), .int p1] (q_ws 23 ad (cM ad cs σ)) sz) (q_Qi D vwCl res.1 (q_ws 23 ad (cM ad cs res.2)) (va_A (q_ws 23 ad (cM ad cs σ)) sz)) 0 0 (va_A (q_ws 23 ad (cM ad cs σ)) sz) := by
  refine Met.ofW (cc := b_Mo_writes) (maxL := 2) (ret := (some .boolean)) (by decide) rfl ?_
  intro p e s m args below meth c s₁ B hml hv
  obtain ⟨hargs, hsz, hP, hK, hD0, hN⟩ := hv
  have hx := B.exec
  have hb := B.bytes
  have hr := B.returns
  have hts := atoms_spec (ws := w_Mo_writes) B.pre
  have hown : s.vm.findClass "JobTerminalModel" = some m.cls := findClass_of_methodNamed B.named
  have hlocks := B.notSynchronized
  have htg : ∀ w ∈ GW, w.before args s = true := fun w h => hts w (List.mem_cons_of_mem _ h)
  subst hsz
  have hD := hD0.self (sz := s.heap.size)
  generalize hAe : va_A (q_ws 23 ad (cM ad cs σ)) s.heap.size = A at hD ⊢
  have hA : ∀ q : Nat, s.heap.size ≤ q → A q := fun q h => by rw [← hAe]; exact Or.inr h
  have I : q_I D vwCl A s.heap (q_ws 23 ad (cM ad cs σ)) s.heap [] := ⟨hP, hD, va_S.rf⟩
  obtain ⟨ls, hen, hl⟩ := q_entry (vs := [.ref (ad 0), .int p1]) (n := 2) (lv := [(0, .ref (ad 0)), (1, .int p1)]) (by intro v hv; simp only [List.mem_cons, List.not_mem_nil, or_false] at hv; rcases hv with rfl | rfl <;> first | rfl | exact q_cat) (Nat.le_of_ble_eq_true rfl) rfl
  rw [show entryFrame m args 2 = F0 m 0 ls [] from by rw [hargs]; exact hen m]
  have C0 : q_Cx "JobTerminalModel" b_Mo_writes 2 (some .boolean) w_Mo_writes D vwCl (tyL cs) NW p s m args meth c := ⟨hx, hb, hr, hml, hown, hts, hlocks, hK, hN⟩
  unfold f_Mo_writes at hf
  have hgo : ∀ (H : Heap) (locs : List Loc), q_I D vwCl A s.heap (q_ws 23 ad (cM ad cs σ)) H locs → W p l e ({ frames := 1, cells := 0, slots := 0, locals := 22 } : Room) s m args below meth c H locs 0 0 (MQ below (q_Qi D vwCl res.1 (q_ws 23 ad (cM ad cs res.2)) A) args s 0 0 A) (F0 m 0 ls []) := by
    intro H locs I
    refine lv_aload_n hx hb d_Mo_writes_0 rfl (q_at hl 0 rfl) ?_
    refine lv_iload_n hx hb d_Mo_writes_1 rfl (q_at hl 1 rfl) ?_
    obtain ⟨r1, e2, hf⟩ := q_bnd_some hf
    refine q_ki hA I (q_runV (C := "JobTerminalModel") (As := [.int p1]) (rest := []) ⟨hx, hb, hml, hown, hts⟩ (c_Mo_opOf (sz := H.size) e2) (cwV 1 hts (q_goodV mw430 mw431 mw432 mw433 mw366) rfl rfl rfl (by decide +kernel) ⟨Nat.le_of_ble_eq_true rfl, Nat.le_of_ble_eq_true rfl⟩) NW_ok hK hN I rfl (q_wsE (by decide) (a_M_Mo)) rfl (q_sz hl) rfl (Nat.le_of_ble_eq_true rfl) d_Mo_writes_2 ⟨Nat.zero_le _, Nat.zero_le _⟩) (fun H locs I => ?_)
    refine lv_iconst (v := 1) hx hb d_Mo_writes_5 (by decide) ?_
    refine lv_icmp_eq (tgt := 27) hx hb d_Mo_writes_6 (by decide) (fun c3 => ?_) (fun c3 => ?_)
    · rw [if_pos c3] at hf
      exact k_Mo_writes_27 C0 hA res r1.2 hf H locs I ls (q_hsub hl [] rfl)
    · rw [if_neg c3] at hf
      refine lv_aload_n hx hb d_Mo_writes_9 rfl (q_at hl 0 rfl) ?_
      refine lv_iload_n hx hb d_Mo_writes_10 rfl (q_at hl 1 rfl) ?_
      obtain ⟨r4, e5, hf⟩ := q_bnd_some hf
      refine q_ki hA I (q_runV (C := "JobTerminalModel") (As := [.int p1]) (rest := []) ⟨hx, hb, hml, hown, hts⟩ (c_Mo_opOf (sz := H.size) e5) (cwV 1 hts (q_goodV mw430 mw431 mw432 mw433 mw366) rfl rfl rfl (by decide +kernel) ⟨Nat.le_of_ble_eq_true rfl, Nat.le_of_ble_eq_true rfl⟩) NW_ok hK hN I rfl (q_wsE (by decide) (a_M_Mo)) rfl (q_sz hl) rfl (Nat.le_of_ble_eq_true rfl) d_Mo_writes_11 ⟨Nat.zero_le _, Nat.zero_le _⟩) (fun H locs I => ?_)
      refine lv_iconst (v := 3) hx hb d_Mo_writes_14 (by decide) ?_
      refine lv_icmp_ne (tgt := 31) hx hb d_Mo_writes_15 (by decide) (fun c6 => ?_) (fun c6 => ?_)
      · rw [if_neg c6] at hf
        exact k_Mo_writes_31 C0 hA res r4.2 hf H locs I ls (q_hsub hl [] rfl)
      · rw [if_pos c6] at hf
        refine lv_aload_n hx hb d_Mo_writes_18 rfl (q_at hl 0 rfl) ?_
        refine G_Mo_Mo_register hx hb htg hown hK hN I d_Mo_writes_19 ?_
        refine lv_iload_n hx hb d_Mo_writes_22 rfl (q_at hl 1 rfl) ?_
        obtain ⟨o7, hf⟩ := q_grd_some hf
        refine A_M_register hx hb hK I o7 d_Mo_writes_23 ?_
        refine lv_if_lt (tgt := 31) hx hb d_Mo_writes_24 (by decide) (fun c8 => ?_) (fun c8 => ?_)
        · rw [if_pos c8] at hf
          exact k_Mo_writes_31 C0 hA res r4.2 hf H locs I ls (q_hsub hl [] rfl)
        · rw [if_neg c8] at hf
          exact k_Mo_writes_27 C0 hA res r4.2 hf H locs I ls (q_hsub hl [] rfl)
  exact hgo _ _ I
-- JobTerminalModel canGoOn
def f_Mo_canGoOn_151 (σ : q_St) (y0 : Int32) : Option (Int32 × q_St) := q_grd (q_isB y0) (some (y0, σ))
set_option maxHeartbeats 4000000 in
set_option maxRecDepth 100000 in
theorem k_Mo_canGoOn_151 {p : Program} {l : Launch} {e : Env} {s : State} {m : MethodId} {args : Array Value} {below : List Frame} {meth : Method} {c : Code} {D : va_G} {A : Nat → Prop} {ad : Nat → Nat} {cs : Nat → ClassId} (C0 : q_Cx "JobTerminalModel" b_Mo_canGoOn 3 (some .boolean) w_Mo_canGoOn D vwCl (tyL cs) NW p s m args meth c) (hA : ∀ q, s.heap.size ≤ q → A q) (res : (Int32 × q_St)) : ∀ (σ : q_St) (y0 : Int32) , f_Mo_canGoOn_151 σ y0 = some res → ∀ (H : Heap) (locs : List Loc), q_I D vwCl A s.heap (q_ws 23 ad (cM ad cs σ)) H locs → ∀ ls : Array Slot, q_has ls 3 [] → W p l e ({ frames := 2, cells := 0, slots := 0, locals := 43 } : Room) s m args below meth c H locs 0 0 (MQ below (q_Qi D vwCl res.1 (q_ws 23 ad (cM ad cs res.2)) A) args s 0 0 A) (F0 m 151 ls [.int y0]) := by
  intro σ y0 hf H locs I ls hl
  unfold f_Mo_canGoOn_151 at hf
  obtain ⟨hx, hb, hr, hml, hown, hts, hlocks, hK, hN⟩ := id C0
  have htg : ∀ w ∈ GW, w.before args s = true := fun w h => hts w (List.mem_cons_of_mem _ h)
  obtain ⟨o32, hf⟩ := q_grd_some hf
  cases hf
  exact q_zret hx hb hr hlocks o32 I d_Mo_canGoOn_151
def f_Mo_canGoOn_146 (σ : q_St) : Option (Int32 × q_St) := f_Mo_canGoOn_151 σ 1
set_option maxHeartbeats 4000000 in
set_option maxRecDepth 100000 in
theorem k_Mo_canGoOn_146 {p : Program} {l : Launch} {e : Env} {s : State} {m : MethodId} {args : Array Value} {below : List Frame} {meth : Method} {c : Code} {D : va_G} {A : Nat → Prop} {ad : Nat → Nat} {cs : Nat → ClassId} (C0 : q_Cx "JobTerminalModel" b_Mo_canGoOn 3 (some .boolean) w_Mo_canGoOn D vwCl (tyL cs) NW p s m args meth c) (hA : ∀ q, s.heap.size ≤ q → A q) (res : (Int32 × q_St)) : ∀ (σ : q_St) , f_Mo_canGoOn_146 σ  = some res → ∀ (H : Heap) (locs : List Loc), q_I D vwCl A s.heap (q_ws 23 ad (cM ad cs σ)) H locs → ∀ ls : Array Slot, q_has ls 3 [] → W p l e ({ frames := 2, cells := 0, slots := 0, locals := 43 } : Room) s m args below meth c H locs 0 0 (MQ below (q_Qi D vwCl res.1 (q_ws 23 ad (cM ad cs res.2)) A) args s 0 0 A) (F0 m 146 ls []) := by
  intro σ  hf H locs I ls hl
  unfold f_Mo_canGoOn_146 at hf
  obtain ⟨hx, hb, hr, hml, hown, hts, hlocks, hK, hN⟩ := id C0
  have htg : ∀ w ∈ GW, w.before args s = true := fun w h => hts w (List.mem_cons_of_mem _ h)
  refine lv_iconst (v := 1) hx hb d_Mo_canGoOn_146 (by decide) ?_
  refine lv_goto (tgt := 151) hx hb d_Mo_canGoOn_147 (by decide) ?_
  exact k_Mo_canGoOn_151 C0 hA res σ 1 hf H locs I ls (q_hsub hl [] rfl)
def f_Mo_canGoOn_104 (σ : q_St) (y0 : Int32) : Option (Int32 × q_St) := q_grd (q_isB y0) (some (y0, σ))
set_option maxHeartbeats 4000000 in
set_option maxRecDepth 100000 in
theorem k_Mo_canGoOn_104 {p : Program} {l : Launch} {e : Env} {s : State} {m : MethodId} {args : Array Value} {below : List Frame} {meth : Method} {c : Code} {D : va_G} {A : Nat → Prop} {ad : Nat → Nat} {cs : Nat → ClassId} (C0 : q_Cx "JobTerminalModel" b_Mo_canGoOn 3 (some .boolean) w_Mo_canGoOn D vwCl (tyL cs) NW p s m args meth c) (hA : ∀ q, s.heap.size ≤ q → A q) (res : (Int32 × q_St)) : ∀ (σ : q_St) (y0 : Int32) , f_Mo_canGoOn_104 σ y0 = some res → ∀ (H : Heap) (locs : List Loc), q_I D vwCl A s.heap (q_ws 23 ad (cM ad cs σ)) H locs → ∀ ls : Array Slot, q_has ls 3 [] → W p l e ({ frames := 2, cells := 0, slots := 0, locals := 43 } : Room) s m args below meth c H locs 0 0 (MQ below (q_Qi D vwCl res.1 (q_ws 23 ad (cM ad cs res.2)) A) args s 0 0 A) (F0 m 104 ls [.int y0]) := by
  intro σ y0 hf H locs I ls hl
  unfold f_Mo_canGoOn_104 at hf
  obtain ⟨hx, hb, hr, hml, hown, hts, hlocks, hK, hN⟩ := id C0
  have htg : ∀ w ∈ GW, w.before args s = true := fun w h => hts w (List.mem_cons_of_mem _ h)
  obtain ⟨o31, hf⟩ := q_grd_some hf
  cases hf
  exact q_zret hx hb hr hlocks o31 I d_Mo_canGoOn_104
def f_Mo_canGoOn_99 (σ : q_St) : Option (Int32 × q_St) := f_Mo_canGoOn_104 σ 1
set_option maxHeartbeats 4000000 in
set_option maxRecDepth 100000 in
theorem k_Mo_canGoOn_99 {p : Program} {l : Launch} {e : Env} {s : State} {m : MethodId} {args : Array Value} {below : List Frame} {meth : Method} {c : Code} {D : va_G} {A : Nat → Prop} {ad : Nat → Nat} {cs : Nat → ClassId} (C0 : q_Cx "JobTerminalModel" b_Mo_canGoOn 3 (some .boolean) w_Mo_canGoOn D vwCl (tyL cs) NW p s m args meth c) (hA : ∀ q, s.heap.size ≤ q → A q) (res : (Int32 × q_St)) : ∀ (σ : q_St) , f_Mo_canGoOn_99 σ  = some res → ∀ (H : Heap) (locs : List Loc), q_I D vwCl A s.heap (q_ws 23 ad (cM ad cs σ)) H locs → ∀ ls : Array Slot, q_has ls 3 [] → W p l e ({ frames := 2, cells := 0, slots := 0, locals := 43 } : Room) s m args below meth c H locs 0 0 (MQ below (q_Qi D vwCl res.1 (q_ws 23 ad (cM ad cs res.2)) A) args s 0 0 A) (F0 m 99 ls []) := by
  intro σ  hf H locs I ls hl
  unfold f_Mo_canGoOn_99 at hf
  obtain ⟨hx, hb, hr, hml, hown, hts, hlocks, hK, hN⟩ := id C0
  have htg : ∀ w ∈ GW, w.before args s = true := fun w h => hts w (List.mem_cons_of_mem _ h)
  refine lv_iconst (v := 1) hx hb d_Mo_canGoOn_99 (by decide) ?_
  refine lv_goto (tgt := 104) hx hb d_Mo_canGoOn_100 (by decide) ?_
  exact k_Mo_canGoOn_104 C0 hA res σ 1 hf H locs I ls (q_hsub hl [] rfl)
def f_Mo_canGoOn_69 (σ : q_St) : Option (Int32 × q_St) := f_Mo_canGoOn_104 σ 1
set_option maxHeartbeats 4000000 in
set_option maxRecDepth 100000 in
theorem k_Mo_canGoOn_69 {p : Program} {l : Launch} {e : Env} {s : State} {m : MethodId} {args : Array Value} {below : List Frame} {meth : Method} {c : Code} {D : va_G} {A : Nat → Prop} {ad : Nat → Nat} {cs : Nat → ClassId} (C0 : q_Cx "JobTerminalModel" b_Mo_canGoOn 3 (some .boolean) w_Mo_canGoOn D vwCl (tyL cs) NW p s m args meth c) (hA : ∀ q, s.heap.size ≤ q → A q) (res : (Int32 × q_St)) : ∀ (σ : q_St) , f_Mo_canGoOn_69 σ  = some res → ∀ (H : Heap) (locs : List Loc), q_I D vwCl A s.heap (q_ws 23 ad (cM ad cs σ)) H locs → ∀ ls : Array Slot, q_has ls 3 [] → W p l e ({ frames := 2, cells := 0, slots := 0, locals := 43 } : Room) s m args below meth c H locs 0 0 (MQ below (q_Qi D vwCl res.1 (q_ws 23 ad (cM ad cs res.2)) A) args s 0 0 A) (F0 m 69 ls []) := by
  intro σ  hf H locs I ls hl
  unfold f_Mo_canGoOn_69 at hf
  obtain ⟨hx, hb, hr, hml, hown, hts, hlocks, hK, hN⟩ := id C0
  have htg : ∀ w ∈ GW, w.before args s = true := fun w h => hts w (List.mem_cons_of_mem _ h)
  refine lv_iconst (v := 1) hx hb d_Mo_canGoOn_69 (by decide) ?_
  refine lv_goto (tgt := 104) hx hb d_Mo_canGoOn_70 (by decide) ?_
  exact k_Mo_canGoOn_104 C0 hA res σ 1 hf H locs I ls (q_hsub hl [] rfl)
def f_Mo_canGoOn_19 (σ : q_St) : Option (Int32 × q_St) := some (0, σ)
set_option maxHeartbeats 4000000 in
set_option maxRecDepth 100000 in
theorem k_Mo_canGoOn_19 {p : Program} {l : Launch} {e : Env} {s : State} {m : MethodId} {args : Array Value} {below : List Frame} {meth : Method} {c : Code} {D : va_G} {A : Nat → Prop} {ad : Nat → Nat} {cs : Nat → ClassId} (C0 : q_Cx "JobTerminalModel" b_Mo_canGoOn 3 (some .boolean) w_Mo_canGoOn D vwCl (tyL cs) NW p s m args meth c) (hA : ∀ q, s.heap.size ≤ q → A q) (res : (Int32 × q_St)) : ∀ (σ : q_St) , f_Mo_canGoOn_19 σ  = some res → ∀ (H : Heap) (locs : List Loc), q_I D vwCl A s.heap (q_ws 23 ad (cM ad cs σ)) H locs → ∀ ls : Array Slot, q_has ls 3 [] → W p l e ({ frames := 2, cells := 0, slots := 0, locals := 43 } : Room) s m args below meth c H locs 0 0 (MQ below (q_Qi D vwCl res.1 (q_ws 23 ad (cM ad cs res.2)) A) args s 0 0 A) (F0 m 19 ls []) := by
  intro σ  hf H locs I ls hl
  unfold f_Mo_canGoOn_19 at hf
  obtain ⟨hx, hb, hr, hml, hown, hts, hlocks, hK, hN⟩ := id C0
  have htg : ∀ w ∈ GW, w.before args s = true := fun w h => hts w (List.mem_cons_of_mem _ h)
  refine lv_iconst (v := 0) hx hb d_Mo_canGoOn_19 (by decide) ?_
  cases hf
  exact q_zret (r0 := 0) hx hb hr hlocks (by decide) I d_Mo_canGoOn_20
def f_Mo_canGoOn (σ : q_St) (p1 : Int32) : Option (Int32 × q_St) := q_grd (q_in p1 8) (if (σ 2 p1.toNatClampNeg) = 1 then (q_grd (q_in p1 8) (if (σ 11 p1.toNatClampNeg) ≤ 0 then (q_grd (q_in p1 8) (q_bnd (f_Mo_opOf σ p1) (fun r6 => if r6.1 = 2 then (q_bnd (f_Mo_readsPipe r6.2 p1) (fun r20 => if r20.1 = 0 then (if (r20.2 43 0) = 0 then (if (r20.2 41 0) = (σ 3 p1.toNatClampNeg) then (if (r20.2 45 0) ≤ 0 then (f_Mo_canGoOn_104 r20.2 0) else (f_Mo_canGoOn_99 r20.2)) else (f_Mo_canGoOn_99 r20.2)) else (f_Mo_canGoOn_99 r20.2)) else (q_grd (q_in (σ 3 p1.toNatClampNeg) 4) (if 0 < (r20.2 17 (σ 3 p1.toNatClampNeg).toNatClampNeg) then (f_Mo_canGoOn_69 r20.2) else (q_grd (q_in (σ 3 p1.toNatClampNeg) 4) (q_grd (q_in (r20.2 13 (σ 3 p1.toNatClampNeg).toNatClampNeg) 8) (if (r20.2 2 (r20.2 13 (σ 3 p1.toNatClampNeg).toNatClampNeg).toNatClampNeg) = 3 then (f_Mo_canGoOn_69 r20.2) else (f_Mo_canGoOn_104 r20.2 0)))))))) else (q_bnd (f_Mo_writes r6.2 p1) (fun r9 => if r9.1 = 0 then (f_Mo_canGoOn_146 r9.2) else (q_bnd (f_Mo_writesPipe r9.2 p1) (fun r12 => if r12.1 = 0 then (f_Mo_canGoOn_146 r12.2) else (q_grd (q_in (σ 3 p1.toNatClampNeg) 4) (if (r12.2 17 (σ 3 p1.toNatClampNeg).toNatClampNeg) < 4 then (f_Mo_canGoOn_146 r12.2) else (q_grd (q_in (σ 3 p1.toNatClampNeg) 4) (q_grd (q_in (r12.2 14 (σ 3 p1.toNatClampNeg).toNatClampNeg) 8) (if (r12.2 2 (r12.2 14 (σ 3 p1.toNatClampNeg).toNatClampNeg).toNatClampNeg) = 3 then (f_Mo_canGoOn_146 r12.2) else (f_Mo_canGoOn_151 r12.2 0))))))))))))) else (f_Mo_canGoOn_19 σ))) else (f_Mo_canGoOn_19 σ))
set_option maxHeartbeats 4000000 in
set_option maxRecDepth 100000 in
theorem c_Mo_canGoOn {l : Launch} {D : va_G} {ad : Nat → Nat} {cs : Nat → ClassId} {sz : Nat} {σ : q_St} {p1 : Int32} {res : (Int32 × q_St)} (hf : f_Mo_canGoOn σ p1 = some res) : Met l y_Mo_canGoOn w_Mo_canGoOn ({ frames := 2, cells := 0, slots := 0, locals := 43 } : Room) (q_Pre D vwCl (tyL cs) NW [.ref (ad 0), .int p1] (q_ws 23 ad (cM ad cs σ)) sz) (q_Qi D vwCl res.1 (q_ws 23 ad (cM ad cs res.2)) (va_A (q_ws 23 ad (cM ad cs σ)) sz)) 0 0 (va_A (q_ws 23 ad (cM ad cs σ)) sz) := by
  refine Met.ofW (cc := b_Mo_canGoOn) (maxL := 3) (ret := (some .boolean)) (by decide) rfl ?_
  intro p e s m args below meth c s₁ B hml hv
  obtain ⟨hargs, hsz, hP, hK, hD0, hN⟩ := hv
  have hx := B.exec
  have hb := B.bytes
  have hr := B.returns
  have hts := atoms_spec (ws := w_Mo_canGoOn) B.pre
  have hown : s.vm.findClass "JobTerminalModel" = some m.cls := findClass_of_methodNamed B.named
  have hlocks := B.notSynchronized
  have htg : ∀ w ∈ GW, w.before args s = true := fun w h => hts w (List.mem_cons_of_mem _ h)
  subst hsz
  have hD := hD0.self (sz := s.heap.size)
  generalize hAe : va_A (q_ws 23 ad (cM ad cs σ)) s.heap.size = A at hD ⊢
  have hA : ∀ q : Nat, s.heap.size ≤ q → A q := fun q h => by rw [← hAe]; exact Or.inr h
  have I : q_I D vwCl A s.heap (q_ws 23 ad (cM ad cs σ)) s.heap [] := ⟨hP, hD, va_S.rf⟩
  obtain ⟨ls, hen, hl⟩ := q_entry (vs := [.ref (ad 0), .int p1]) (n := 3) (lv := [(0, .ref (ad 0)), (1, .int p1)]) (by intro v hv; simp only [List.mem_cons, List.not_mem_nil, or_false] at hv; rcases hv with rfl | rfl <;> first | rfl | exact q_cat) (Nat.le_of_ble_eq_true rfl) rfl
  rw [show entryFrame m args 3 = F0 m 0 ls [] from by rw [hargs]; exact hen m]
  have C0 : q_Cx "JobTerminalModel" b_Mo_canGoOn 3 (some .boolean) w_Mo_canGoOn D vwCl (tyL cs) NW p s m args meth c := ⟨hx, hb, hr, hml, hown, hts, hlocks, hK, hN⟩
  unfold f_Mo_canGoOn at hf
  have hgo : ∀ (H : Heap) (locs : List Loc), q_I D vwCl A s.heap (q_ws 23 ad (cM ad cs σ)) H locs → W p l e ({ frames := 2, cells := 0, slots := 0, locals := 43 } : Room) s m args below meth c H locs 0 0 (MQ below (q_Qi D vwCl res.1 (q_ws 23 ad (cM ad cs res.2)) A) args s 0 0 A) (F0 m 0 ls []) := by
    intro H locs I
    refine lv_aload_n hx hb d_Mo_canGoOn_0 rfl (q_at hl 0 rfl) ?_
    refine G_Mo_Mo_state hx hb htg hown hK hN I d_Mo_canGoOn_1 ?_
    refine lv_iload_n hx hb d_Mo_canGoOn_4 rfl (q_at hl 1 rfl) ?_
    obtain ⟨o1, hf⟩ := q_grd_some hf
    refine A_M_state hx hb hK I o1 d_Mo_canGoOn_5 ?_
    refine lv_iconst (v := 1) hx hb d_Mo_canGoOn_6 (by decide) ?_
    refine lv_icmp_ne (tgt := 19) hx hb d_Mo_canGoOn_7 (by decide) (fun c2 => ?_) (fun c2 => ?_)
    · rw [if_neg c2] at hf
      exact k_Mo_canGoOn_19 C0 hA res σ hf H locs I ls (q_hsub hl [] rfl)
    · rw [if_pos c2] at hf
      refine lv_aload_n hx hb d_Mo_canGoOn_10 rfl (q_at hl 0 rfl) ?_
      refine G_Mo_Mo_nap hx hb htg hown hK hN I d_Mo_canGoOn_11 ?_
      refine lv_iload_n hx hb d_Mo_canGoOn_14 rfl (q_at hl 1 rfl) ?_
      obtain ⟨o3, hf⟩ := q_grd_some hf
      refine A_M_nap hx hb hK I o3 d_Mo_canGoOn_15 ?_
      refine lv_if_le (tgt := 21) hx hb d_Mo_canGoOn_16 (by decide) (fun c4 => ?_) (fun c4 => ?_)
      · rw [if_pos c4] at hf
        refine lv_aload_n hx hb d_Mo_canGoOn_21 rfl (q_at hl 0 rfl) ?_
        refine G_Mo_Mo_jobOf hx hb htg hown hK hN I d_Mo_canGoOn_22 ?_
        refine lv_iload_n hx hb d_Mo_canGoOn_25 rfl (q_at hl 1 rfl) ?_
        obtain ⟨o5, hf⟩ := q_grd_some hf
        refine A_M_jobOf hx hb hK I o5 d_Mo_canGoOn_26 ?_
        refine q_istore_n (lv' := [(2, .int (σ 3 p1.toNatClampNeg)), (0, .ref (ad 0)), (1, .int p1)]) hx hb d_Mo_canGoOn_27 rfl hl (by decide) rfl (fun ls hl => ?_)
        refine lv_aload_n hx hb d_Mo_canGoOn_28 rfl (q_at hl 1 rfl) ?_
        refine lv_iload_n hx hb d_Mo_canGoOn_29 rfl (q_at hl 2 rfl) ?_
        obtain ⟨r6, e7, hf⟩ := q_bnd_some hf
        refine q_ki hA I (q_runV (C := "JobTerminalModel") (As := [.int p1]) (rest := []) ⟨hx, hb, hml, hown, hts⟩ (c_Mo_opOf (sz := H.size) e7) (cwV 1 hts (q_goodV mw430 mw431 mw432 mw433 mw366) rfl rfl rfl (by decide +kernel) ⟨Nat.le_of_ble_eq_true rfl, Nat.le_of_ble_eq_true rfl⟩) NW_ok hK hN I rfl (q_wsE (by decide) (a_M_Mo)) rfl (q_sz hl) rfl (Nat.le_of_ble_eq_true rfl) d_Mo_canGoOn_30 ⟨Nat.zero_le _, Nat.zero_le _⟩) (fun H locs I => ?_)
        refine lv_iconst (v := 2) hx hb d_Mo_canGoOn_33 (by decide) ?_
        refine lv_icmp_ne (tgt := 105) hx hb d_Mo_canGoOn_34 (by decide) (fun c8 => ?_) (fun c8 => ?_)
        · rw [if_neg c8] at hf
          refine lv_aload_n hx hb d_Mo_canGoOn_105 rfl (q_at hl 1 rfl) ?_
          refine lv_iload_n hx hb d_Mo_canGoOn_106 rfl (q_at hl 2 rfl) ?_
          obtain ⟨r9, e10, hf⟩ := q_bnd_some hf
          refine q_ki hA I (q_runV (C := "JobTerminalModel") (As := [.int p1]) (rest := []) ⟨hx, hb, hml, hown, hts⟩ (c_Mo_writes (sz := H.size) e10) (cwV 1 hts (q_goodV mw434 mw435 mw436 mw437 mw366) rfl rfl rfl (by decide +kernel) ⟨Nat.le_of_ble_eq_true rfl, Nat.le_of_ble_eq_true rfl⟩) NW_ok hK hN I rfl (q_wsE (by decide) (a_M_Mo)) rfl (q_sz hl) rfl (Nat.le_of_ble_eq_true rfl) d_Mo_canGoOn_107 ⟨Nat.zero_le _, Nat.zero_le _⟩) (fun H locs I => ?_)
          refine lv_if_eq (tgt := 146) hx hb d_Mo_canGoOn_110 (by decide) (fun c11 => ?_) (fun c11 => ?_)
          · rw [if_pos c11] at hf
            exact k_Mo_canGoOn_146 C0 hA res r9.2 hf H locs I ls (q_hsub hl [] rfl)
          · rw [if_neg c11] at hf
            refine lv_aload_n hx hb d_Mo_canGoOn_113 rfl (q_at hl 1 rfl) ?_
            refine lv_iload_n hx hb d_Mo_canGoOn_114 rfl (q_at hl 2 rfl) ?_
            obtain ⟨r12, e13, hf⟩ := q_bnd_some hf
            refine q_ki hA I (q_runV (C := "JobTerminalModel") (As := [.int p1]) (rest := []) ⟨hx, hb, hml, hown, hts⟩ (c_Mo_writesPipe (sz := H.size) e13) (cwV 1 hts (q_goodV mw438 mw439 mw440 mw441 mw366) rfl rfl rfl (by decide +kernel) ⟨Nat.le_of_ble_eq_true rfl, Nat.le_of_ble_eq_true rfl⟩) NW_ok hK hN I rfl (q_wsE (by decide) (a_M_Mo)) rfl (q_sz hl) rfl (Nat.le_of_ble_eq_true rfl) d_Mo_canGoOn_115 ⟨Nat.zero_le _, Nat.zero_le _⟩) (fun H locs I => ?_)
            refine lv_if_eq (tgt := 146) hx hb d_Mo_canGoOn_118 (by decide) (fun c14 => ?_) (fun c14 => ?_)
            · rw [if_pos c14] at hf
              exact k_Mo_canGoOn_146 C0 hA res r12.2 hf H locs I ls (q_hsub hl [] rfl)
            · rw [if_neg c14] at hf
              refine lv_aload_n hx hb d_Mo_canGoOn_121 rfl (q_at hl 1 rfl) ?_
              refine G_Mo_Mo_piped hx hb htg hown hK hN I d_Mo_canGoOn_122 ?_
              refine lv_iload_n hx hb d_Mo_canGoOn_125 rfl (q_at hl 0 rfl) ?_
              obtain ⟨o15, hf⟩ := q_grd_some hf
              refine A_M_piped hx hb hK I o15 d_Mo_canGoOn_126 ?_
              refine lv_iconst (v := 4) hx hb d_Mo_canGoOn_127 (by decide) ?_
              refine lv_icmp_lt (tgt := 146) hx hb d_Mo_canGoOn_128 (by decide) (fun c16 => ?_) (fun c16 => ?_)
              · rw [if_pos c16] at hf
                exact k_Mo_canGoOn_146 C0 hA res r12.2 hf H locs I ls (q_hsub hl [] rfl)
              · rw [if_neg c16] at hf
                refine lv_aload_n hx hb d_Mo_canGoOn_131 rfl (q_at hl 1 rfl) ?_
                refine G_Mo_Mo_state hx hb htg hown hK hN I d_Mo_canGoOn_132 ?_
                refine lv_aload_n hx hb d_Mo_canGoOn_135 rfl (q_at hl 1 rfl) ?_
                refine G_Mo_Mo_second hx hb htg hown hK hN I d_Mo_canGoOn_136 ?_
                refine lv_iload_n hx hb d_Mo_canGoOn_139 rfl (q_at hl 0 rfl) ?_
                obtain ⟨o17, hf⟩ := q_grd_some hf
                refine A_M_second hx hb hK I o17 d_Mo_canGoOn_140 ?_
                obtain ⟨o18, hf⟩ := q_grd_some hf
                refine A_M_state hx hb hK I o18 d_Mo_canGoOn_141 ?_
                refine lv_iconst (v := 3) hx hb d_Mo_canGoOn_142 (by decide) ?_
                refine lv_icmp_ne (tgt := 150) hx hb d_Mo_canGoOn_143 (by decide) (fun c19 => ?_) (fun c19 => ?_)
                · rw [if_neg c19] at hf
                  refine lv_iconst (v := 0) hx hb d_Mo_canGoOn_150 (by decide) ?_
                  exact k_Mo_canGoOn_151 C0 hA res r12.2 0 hf H locs I ls (q_hsub hl [] rfl)
                · rw [if_pos c19] at hf
                  exact k_Mo_canGoOn_146 C0 hA res r12.2 hf H locs I ls (q_hsub hl [] rfl)
        · rw [if_pos c8] at hf
          refine lv_aload_n hx hb d_Mo_canGoOn_37 rfl (q_at hl 1 rfl) ?_
          refine lv_iload_n hx hb d_Mo_canGoOn_38 rfl (q_at hl 2 rfl) ?_
          obtain ⟨r20, e21, hf⟩ := q_bnd_some hf
          refine q_ki hA I (q_runV (C := "JobTerminalModel") (As := [.int p1]) (rest := []) ⟨hx, hb, hml, hown, hts⟩ (c_Mo_readsPipe (sz := H.size) e21) (cwV 1 hts (q_goodV mw442 mw443 mw444 mw445 mw366) rfl rfl rfl (by decide +kernel) ⟨Nat.le_of_ble_eq_true rfl, Nat.le_of_ble_eq_true rfl⟩) NW_ok hK hN I rfl (q_wsE (by decide) (a_M_Mo)) rfl (q_sz hl) rfl (Nat.le_of_ble_eq_true rfl) d_Mo_canGoOn_39 ⟨Nat.zero_le _, Nat.zero_le _⟩) (fun H locs I => ?_)
          refine lv_if_eq (tgt := 77) hx hb d_Mo_canGoOn_42 (by decide) (fun c22 => ?_) (fun c22 => ?_)
          · rw [if_pos c22] at hf
            refine lv_aload_n hx hb d_Mo_canGoOn_77 rfl (q_at hl 1 rfl) ?_
            refine G_Mo_Mo_hung hx hb htg hown hK hN I d_Mo_canGoOn_78 ?_
            refine lv_if_ne (tgt := 99) hx hb d_Mo_canGoOn_81 (by decide) (fun c23 => ?_) (fun c23 => ?_)
            · rw [if_neg c23] at hf
              exact k_Mo_canGoOn_99 C0 hA res r20.2 hf H locs I ls (q_hsub hl [] rfl)
            · rw [if_pos c23] at hf
              refine lv_aload_n hx hb d_Mo_canGoOn_84 rfl (q_at hl 1 rfl) ?_
              refine G_Mo_Mo_front hx hb htg hown hK hN I d_Mo_canGoOn_85 ?_
              refine lv_iload_n hx hb d_Mo_canGoOn_88 rfl (q_at hl 0 rfl) ?_
              refine lv_icmp_ne (tgt := 99) hx hb d_Mo_canGoOn_89 (by decide) (fun c24 => ?_) (fun c24 => ?_)
              · rw [if_neg c24] at hf
                exact k_Mo_canGoOn_99 C0 hA res r20.2 hf H locs I ls (q_hsub hl [] rfl)
              · rw [if_pos c24] at hf
                refine lv_aload_n hx hb d_Mo_canGoOn_92 rfl (q_at hl 1 rfl) ?_
                refine G_Mo_Mo_queued hx hb htg hown hK hN I d_Mo_canGoOn_93 ?_
                refine lv_if_le (tgt := 103) hx hb d_Mo_canGoOn_96 (by decide) (fun c25 => ?_) (fun c25 => ?_)
                · rw [if_pos c25] at hf
                  refine lv_iconst (v := 0) hx hb d_Mo_canGoOn_103 (by decide) ?_
                  exact k_Mo_canGoOn_104 C0 hA res r20.2 0 hf H locs I ls (q_hsub hl [] rfl)
                · rw [if_neg c25] at hf
                  exact k_Mo_canGoOn_99 C0 hA res r20.2 hf H locs I ls (q_hsub hl [] rfl)
          · rw [if_neg c22] at hf
            refine lv_aload_n hx hb d_Mo_canGoOn_45 rfl (q_at hl 1 rfl) ?_
            refine G_Mo_Mo_piped hx hb htg hown hK hN I d_Mo_canGoOn_46 ?_
            refine lv_iload_n hx hb d_Mo_canGoOn_49 rfl (q_at hl 0 rfl) ?_
            obtain ⟨o26, hf⟩ := q_grd_some hf
            refine A_M_piped hx hb hK I o26 d_Mo_canGoOn_50 ?_
            refine lv_if_gt (tgt := 69) hx hb d_Mo_canGoOn_51 (by decide) (fun c27 => ?_) (fun c27 => ?_)
            · rw [if_pos c27] at hf
              exact k_Mo_canGoOn_69 C0 hA res r20.2 hf H locs I ls (q_hsub hl [] rfl)
            · rw [if_neg c27] at hf
              refine lv_aload_n hx hb d_Mo_canGoOn_54 rfl (q_at hl 1 rfl) ?_
              refine G_Mo_Mo_state hx hb htg hown hK hN I d_Mo_canGoOn_55 ?_
              refine lv_aload_n hx hb d_Mo_canGoOn_58 rfl (q_at hl 1 rfl) ?_
              refine G_Mo_Mo_first hx hb htg hown hK hN I d_Mo_canGoOn_59 ?_
              refine lv_iload_n hx hb d_Mo_canGoOn_62 rfl (q_at hl 0 rfl) ?_
              obtain ⟨o28, hf⟩ := q_grd_some hf
              refine A_M_first hx hb hK I o28 d_Mo_canGoOn_63 ?_
              obtain ⟨o29, hf⟩ := q_grd_some hf
              refine A_M_state hx hb hK I o29 d_Mo_canGoOn_64 ?_
              refine lv_iconst (v := 3) hx hb d_Mo_canGoOn_65 (by decide) ?_
              refine lv_icmp_ne (tgt := 73) hx hb d_Mo_canGoOn_66 (by decide) (fun c30 => ?_) (fun c30 => ?_)
              · rw [if_neg c30] at hf
                refine lv_iconst (v := 0) hx hb d_Mo_canGoOn_73 (by decide) ?_
                refine lv_goto (tgt := 104) hx hb d_Mo_canGoOn_74 (by decide) ?_
                exact k_Mo_canGoOn_104 C0 hA res r20.2 0 hf H locs I ls (q_hsub hl [] rfl)
              · rw [if_pos c30] at hf
                exact k_Mo_canGoOn_69 C0 hA res r20.2 hf H locs I ls (q_hsub hl [] rfl)
      · rw [if_neg c4] at hf
        exact k_Mo_canGoOn_19 C0 hA res σ hf H locs I ls (q_hsub hl [] rfl)
  exact hgo _ _ I
-- JobTerminalModel fail
def f_Mo_fail (σ : q_St) (p1 : Int32) : Option q_St := q_grd (q_in p1 8) (q_grd (q_in p1 8) (q_grd (q_in p1 8) (some (q_up (q_up (q_up σ 47 0 1) 6 p1.toNatClampNeg (-2)) 5 p1.toNatClampNeg (((q_up (q_up σ 47 0 1) 6 p1.toNatClampNeg (-2)) 5 p1.toNatClampNeg) + 1)))))
set_option maxHeartbeats 4000000 in
set_option maxRecDepth 100000 in
theorem c_Mo_fail {l : Launch} {D : va_G} {ad : Nat → Nat} {cs : Nat → ClassId} {sz : Nat} {σ : q_St} {p1 : Int32} {res : q_St} (hf : f_Mo_fail σ p1 = some res) : Met l y_Mo_fail w_Mo_fail ({ frames := 0, cells := 0, slots := 0, locals := 0 } : Room) (q_Pre D vwCl (tyL cs) NW [.ref (ad 0), .int p1] (q_ws 23 ad (cM ad cs σ)) sz) (q_Qv D vwCl (q_ws 23 ad (cM ad cs res)) (va_A (q_ws 23 ad (cM ad cs σ)) sz)) 0 0 (va_A (q_ws 23 ad (cM ad cs σ)) sz) := by
  refine Met.ofW (cc := b_Mo_fail) (maxL := 2) (ret := none) (by decide) rfl ?_
  intro p e s m args below meth c s₁ B hml hv
  obtain ⟨hargs, hsz, hP, hK, hD0, hN⟩ := hv
  have hx := B.exec
  have hb := B.bytes
  have hr := B.returns
  have hts := atoms_spec (ws := w_Mo_fail) B.pre
  have hown : s.vm.findClass "JobTerminalModel" = some m.cls := findClass_of_methodNamed B.named
  have hlocks := B.notSynchronized
  have htg : ∀ w ∈ GW, w.before args s = true := fun w h => hts w (List.mem_cons_of_mem _ h)
  subst hsz
  have hD := hD0.self (sz := s.heap.size)
  generalize hAe : va_A (q_ws 23 ad (cM ad cs σ)) s.heap.size = A at hD ⊢
  have hA : ∀ q : Nat, s.heap.size ≤ q → A q := fun q h => by rw [← hAe]; exact Or.inr h
  have I : q_I D vwCl A s.heap (q_ws 23 ad (cM ad cs σ)) s.heap [] := ⟨hP, hD, va_S.rf⟩
  obtain ⟨ls, hen, hl⟩ := q_entry (vs := [.ref (ad 0), .int p1]) (n := 2) (lv := [(0, .ref (ad 0)), (1, .int p1)]) (by intro v hv; simp only [List.mem_cons, List.not_mem_nil, or_false] at hv; rcases hv with rfl | rfl <;> first | rfl | exact q_cat) (Nat.le_of_ble_eq_true rfl) rfl
  rw [show entryFrame m args 2 = F0 m 0 ls [] from by rw [hargs]; exact hen m]
  have C0 : q_Cx "JobTerminalModel" b_Mo_fail 2 none w_Mo_fail D vwCl (tyL cs) NW p s m args meth c := ⟨hx, hb, hr, hml, hown, hts, hlocks, hK, hN⟩
  unfold f_Mo_fail at hf
  have hgo : ∀ (H : Heap) (locs : List Loc), q_I D vwCl A s.heap (q_ws 23 ad (cM ad cs σ)) H locs → W p l e ({ frames := 0, cells := 0, slots := 0, locals := 0 } : Room) s m args below meth c H locs 0 0 (MQ below (q_Qv D vwCl (q_ws 23 ad (cM ad cs res)) A) args s 0 0 A) (F0 m 0 ls []) := by
    intro H locs I
    refine lv_aload_n hx hb d_Mo_fail_0 rfl (q_at hl 0 rfl) ?_
    refine lv_iconst (v := 1) hx hb d_Mo_fail_1 (by decide) ?_
    refine P_Mo_Mo_failed hx hb htg hown hK hN I (by decide) d_Mo_fail_2 (fun H locs I => ?_)
    refine lv_aload_n hx hb d_Mo_fail_5 rfl (q_at hl 0 rfl) ?_
    refine G_Mo_Mo_register hx hb htg hown hK hN I d_Mo_fail_6 ?_
    refine lv_iload_n hx hb d_Mo_fail_9 rfl (q_at hl 1 rfl) ?_
    refine lv_bipush (v := -2) hx hb d_Mo_fail_10 (by decide) ?_
    obtain ⟨o1, hf⟩ := q_grd_some hf
    refine T_M_register hx hb hK I o1 d_Mo_fail_12 (fun H locs I => ?_)
    refine lv_aload_n hx hb d_Mo_fail_13 rfl (q_at hl 0 rfl) ?_
    refine G_Mo_Mo_line hx hb htg hown hK hN I d_Mo_fail_14 ?_
    refine lv_iload_n hx hb d_Mo_fail_17 rfl (q_at hl 1 rfl) ?_
    refine lv_dup2_11 hx hb d_Mo_fail_18 rfl rfl ?_
    obtain ⟨o2, hf⟩ := q_grd_some hf
    refine A_M_line hx hb hK I o2 d_Mo_fail_19 ?_
    refine lv_iconst (v := 1) hx hb d_Mo_fail_20 (by decide) ?_
    refine lv_iadd hx hb d_Mo_fail_21 ?_
    obtain ⟨o3, hf⟩ := q_grd_some hf
    refine T_M_line hx hb hK I o3 d_Mo_fail_22 (fun H locs I => ?_)
    cases hf
    exact q_vret hx hb hr hlocks I d_Mo_fail_23
  exact hgo _ _ I
-- JobTerminalModel read
def f_Mo_read_258 (σ : q_St) : Option q_St := some σ
set_option maxHeartbeats 4000000 in
set_option maxRecDepth 100000 in
theorem k_Mo_read_258 {p : Program} {l : Launch} {e : Env} {s : State} {m : MethodId} {args : Array Value} {below : List Frame} {meth : Method} {c : Code} {D : va_G} {A : Nat → Prop} {ad : Nat → Nat} {cs : Nat → ClassId} (C0 : q_Cx "JobTerminalModel" b_Mo_read 4 none w_Mo_read D vwCl (tyL cs) NW p s m args meth c) (hA : ∀ q, s.heap.size ≤ q → A q) (res : q_St) : ∀ (σ : q_St) , f_Mo_read_258 σ  = some res → ∀ (H : Heap) (locs : List Loc), q_I D vwCl A s.heap (q_ws 23 ad (cM ad cs σ)) H locs → ∀ ls : Array Slot, q_has ls 4 [] → W p l e ({ frames := 4, cells := 0, slots := 0, locals := 88 } : Room) s m args below meth c H locs 0 0 (MQ below (q_Qv D vwCl (q_ws 23 ad (cM ad cs res)) A) args s 0 0 A) (F0 m 258 ls []) := by
  intro σ  hf H locs I ls hl
  unfold f_Mo_read_258 at hf
  obtain ⟨hx, hb, hr, hml, hown, hts, hlocks, hK, hN⟩ := id C0
  have htg : ∀ w ∈ GW, w.before args s = true := fun w h => hts w (List.mem_cons_of_mem _ h)
  cases hf
  exact q_vret hx hb hr hlocks I d_Mo_read_258
def f_Mo_read_220 : Nat → q_St → Int32 → Int32 → Option q_St
  | 0, _, _, _ => none
  | n + 1, σ, x1, x3 => if (σ 45 0) ≤ x3 then (q_grd (q_in x1 8) (q_grd (q_in x1 8) (f_Mo_read_258 (q_up σ 5 x1.toNatClampNeg ((σ 5 x1.toNatClampNeg) + 1))))) else (q_grd (q_in (x3 + 1) 40) (q_grd (q_in x3 40) (f_Mo_read_220 n (q_up σ 20 x3.toNatClampNeg (σ 20 (x3 + 1).toNatClampNeg)) x1 (x3 + 1))))
set_option maxHeartbeats 4000000 in
set_option maxRecDepth 100000 in
theorem k_Mo_read_220 {p : Program} {l : Launch} {e : Env} {s : State} {m : MethodId} {args : Array Value} {below : List Frame} {meth : Method} {c : Code} {D : va_G} {A : Nat → Prop} {ad : Nat → Nat} {cs : Nat → ClassId} (C0 : q_Cx "JobTerminalModel" b_Mo_read 4 none w_Mo_read D vwCl (tyL cs) NW p s m args meth c) (hA : ∀ q, s.heap.size ≤ q → A q) (res : q_St) : ∀ (n : Nat) (σ : q_St) (x1 : Int32) (x3 : Int32) , f_Mo_read_220 n σ x1 x3 = some res → ∀ (H : Heap) (locs : List Loc), q_I D vwCl A s.heap (q_ws 23 ad (cM ad cs σ)) H locs → ∀ ls : Array Slot, q_has ls 4 [(0, .ref (ad 0)), (1, .int x1), (3, .int x3)] → W p l e ({ frames := 4, cells := 0, slots := 0, locals := 88 } : Room) s m args below meth c H locs 0 0 (MQ below (q_Qv D vwCl (q_ws 23 ad (cM ad cs res)) A) args s 0 0 A) (F0 m 220 ls []) := by
  intro n
  induction n with
  | zero => intro σ x1 x3 hf; cases hf
  | succ n ih =>
    intro σ x1 x3 hf H locs I ls hl
    have ih := ih
    rw [f_Mo_read_220] at hf
    have C0 := C0
    obtain ⟨hx, hb, hr, hml, hown, hts, hlocks, hK, hN⟩ := id C0
    have htg : ∀ w ∈ GW, w.before args s = true := fun w h => hts w (List.mem_cons_of_mem _ h)
    refine lv_iload_n hx hb d_Mo_read_220 rfl (q_at hl 2 rfl) ?_
    refine lv_aload_n hx hb d_Mo_read_221 rfl (q_at hl 0 rfl) ?_
    refine G_Mo_Mo_queued hx hb htg hown hK hN I d_Mo_read_222 ?_
    refine lv_icmp_ge (tgt := 248) hx hb d_Mo_read_225 (by decide) (fun c35 => ?_) (fun c35 => ?_)
    · rw [if_pos c35] at hf
      refine lv_aload_n hx hb d_Mo_read_248 rfl (q_at hl 0 rfl) ?_
      refine G_Mo_Mo_line hx hb htg hown hK hN I d_Mo_read_249 ?_
      refine lv_iload_n hx hb d_Mo_read_252 rfl (q_at hl 1 rfl) ?_
      refine lv_dup2_11 hx hb d_Mo_read_253 rfl rfl ?_
      obtain ⟨o36, hf⟩ := q_grd_some hf
      refine A_M_line hx hb hK I o36 d_Mo_read_254 ?_
      refine lv_iconst (v := 1) hx hb d_Mo_read_255 (by decide) ?_
      refine lv_iadd hx hb d_Mo_read_256 ?_
      obtain ⟨o37, hf⟩ := q_grd_some hf
      refine T_M_line hx hb hK I o37 d_Mo_read_257 (fun H locs I => ?_)
      exact k_Mo_read_258 C0 hA res (q_up σ 5 x1.toNatClampNeg ((σ 5 x1.toNatClampNeg) + 1)) hf H locs I ls (q_hsub hl [] rfl)
    · rw [if_neg c35] at hf
      refine lv_aload_n hx hb d_Mo_read_228 rfl (q_at hl 0 rfl) ?_
      refine G_Mo_Mo_queue hx hb htg hown hK hN I d_Mo_read_229 ?_
      refine lv_iload_n hx hb d_Mo_read_232 rfl (q_at hl 2 rfl) ?_
      refine lv_aload_n hx hb d_Mo_read_233 rfl (q_at hl 0 rfl) ?_
      refine G_Mo_Mo_queue hx hb htg hown hK hN I d_Mo_read_234 ?_
      refine lv_iload_n hx hb d_Mo_read_237 rfl (q_at hl 2 rfl) ?_
      refine lv_iconst (v := 1) hx hb d_Mo_read_238 (by decide) ?_
      refine lv_iadd hx hb d_Mo_read_239 ?_
      obtain ⟨o38, hf⟩ := q_grd_some hf
      refine A_M_queue hx hb hK I o38 d_Mo_read_240 ?_
      obtain ⟨o39, hf⟩ := q_grd_some hf
      refine T_M_queue hx hb hK I o39 d_Mo_read_241 (fun H locs I => ?_)
      refine q_iinc (v := x3 + 1) (lv' := [(3, .int (x3 + 1)), (0, .ref (ad 0)), (1, .int x1)]) hx hb d_Mo_read_242 hl (k := 2) rfl rfl (by decide) rfl (fun ls hl => ?_)
      refine lv_goto (tgt := 220) hx hb d_Mo_read_245 (by decide) ?_
      exact ih (q_up σ 20 x3.toNatClampNeg (σ 20 (x3 + 1).toNatClampNeg)) x1 (x3 + 1) hf H locs I ls (q_hsub hl [1, 2, 0] rfl)
def f_Mo_read_71 : Nat → q_St → Int32 → Int32 → Int32 → Option q_St
  | 0, _, _, _, _ => none
  | n + 1, σ, x1, x2, x3 => q_grd (q_in x2 4) (if (σ 17 x2.toNatClampNeg) ≤ x3 then (q_grd (q_in x1 8) (q_grd (q_in x1 8) (f_Mo_read_258 (q_up σ 5 x1.toNatClampNeg ((σ 5 x1.toNatClampNeg) + 1))))) else (q_grd (q_in (((4 * x2) + x3) + 1) 16) (q_grd (q_in ((4 * x2) + x3) 16) (f_Mo_read_71 n (q_up σ 18 ((4 * x2) + x3).toNatClampNeg (σ 18 (((4 * x2) + x3) + 1).toNatClampNeg)) x1 x2 (x3 + 1)))))
set_option maxHeartbeats 4000000 in
set_option maxRecDepth 100000 in
theorem k_Mo_read_71 {p : Program} {l : Launch} {e : Env} {s : State} {m : MethodId} {args : Array Value} {below : List Frame} {meth : Method} {c : Code} {D : va_G} {A : Nat → Prop} {ad : Nat → Nat} {cs : Nat → ClassId} (C0 : q_Cx "JobTerminalModel" b_Mo_read 4 none w_Mo_read D vwCl (tyL cs) NW p s m args meth c) (hA : ∀ q, s.heap.size ≤ q → A q) (res : q_St) : ∀ (n : Nat) (σ : q_St) (x1 : Int32) (x2 : Int32) (x3 : Int32) , f_Mo_read_71 n σ x1 x2 x3 = some res → ∀ (H : Heap) (locs : List Loc), q_I D vwCl A s.heap (q_ws 23 ad (cM ad cs σ)) H locs → ∀ ls : Array Slot, q_has ls 4 [(0, .ref (ad 0)), (1, .int x1), (2, .int x2), (3, .int x3)] → W p l e ({ frames := 4, cells := 0, slots := 0, locals := 88 } : Room) s m args below meth c H locs 0 0 (MQ below (q_Qv D vwCl (q_ws 23 ad (cM ad cs res)) A) args s 0 0 A) (F0 m 71 ls []) := by
  intro n
  induction n with
  | zero => intro σ x1 x2 x3 hf; cases hf
  | succ n ih =>
    intro σ x1 x2 x3 hf H locs I ls hl
    have ih := ih
    rw [f_Mo_read_71] at hf
    have C0 := C0
    obtain ⟨hx, hb, hr, hml, hown, hts, hlocks, hK, hN⟩ := id C0
    have htg : ∀ w ∈ GW, w.before args s = true := fun w h => hts w (List.mem_cons_of_mem _ h)
    refine lv_iload_n hx hb d_Mo_read_71 rfl (q_at hl 3 rfl) ?_
    refine lv_aload_n hx hb d_Mo_read_72 rfl (q_at hl 0 rfl) ?_
    refine G_Mo_Mo_piped hx hb htg hown hK hN I d_Mo_read_73 ?_
    refine lv_iload_n hx hb d_Mo_read_76 rfl (q_at hl 2 rfl) ?_
    obtain ⟨o29, hf⟩ := q_grd_some hf
    refine A_M_piped hx hb hK I o29 d_Mo_read_77 ?_
    refine lv_icmp_ge (tgt := 109) hx hb d_Mo_read_78 (by decide) (fun c30 => ?_) (fun c30 => ?_)
    · rw [if_pos c30] at hf
      refine lv_aload_n hx hb d_Mo_read_109 rfl (q_at hl 0 rfl) ?_
      refine G_Mo_Mo_line hx hb htg hown hK hN I d_Mo_read_110 ?_
      refine lv_iload_n hx hb d_Mo_read_113 rfl (q_at hl 1 rfl) ?_
      refine lv_dup2_11 hx hb d_Mo_read_114 rfl rfl ?_
      obtain ⟨o31, hf⟩ := q_grd_some hf
      refine A_M_line hx hb hK I o31 d_Mo_read_115 ?_
      refine lv_iconst (v := 1) hx hb d_Mo_read_116 (by decide) ?_
      refine lv_iadd hx hb d_Mo_read_117 ?_
      obtain ⟨o32, hf⟩ := q_grd_some hf
      refine T_M_line hx hb hK I o32 d_Mo_read_118 (fun H locs I => ?_)
      refine lv_goto (tgt := 258) hx hb d_Mo_read_119 (by decide) ?_
      exact k_Mo_read_258 C0 hA res (q_up σ 5 x1.toNatClampNeg ((σ 5 x1.toNatClampNeg) + 1)) hf H locs I ls (q_hsub hl [] rfl)
    · rw [if_neg c30] at hf
      refine lv_aload_n hx hb d_Mo_read_81 rfl (q_at hl 0 rfl) ?_
      refine G_Mo_Mo_pipe hx hb htg hown hK hN I d_Mo_read_82 ?_
      refine lv_iconst (v := 4) hx hb d_Mo_read_85 (by decide) ?_
      refine lv_iload_n hx hb d_Mo_read_86 rfl (q_at hl 2 rfl) ?_
      refine lv_imul hx hb d_Mo_read_87 ?_
      refine lv_iload_n hx hb d_Mo_read_88 rfl (q_at hl 3 rfl) ?_
      refine lv_iadd hx hb d_Mo_read_89 ?_
      refine lv_aload_n hx hb d_Mo_read_90 rfl (q_at hl 0 rfl) ?_
      refine G_Mo_Mo_pipe hx hb htg hown hK hN I d_Mo_read_91 ?_
      refine lv_iconst (v := 4) hx hb d_Mo_read_94 (by decide) ?_
      refine lv_iload_n hx hb d_Mo_read_95 rfl (q_at hl 2 rfl) ?_
      refine lv_imul hx hb d_Mo_read_96 ?_
      refine lv_iload_n hx hb d_Mo_read_97 rfl (q_at hl 3 rfl) ?_
      refine lv_iadd hx hb d_Mo_read_98 ?_
      refine lv_iconst (v := 1) hx hb d_Mo_read_99 (by decide) ?_
      refine lv_iadd hx hb d_Mo_read_100 ?_
      obtain ⟨o33, hf⟩ := q_grd_some hf
      refine A_M_pipe hx hb hK I o33 d_Mo_read_101 ?_
      obtain ⟨o34, hf⟩ := q_grd_some hf
      refine T_M_pipe hx hb hK I o34 d_Mo_read_102 (fun H locs I => ?_)
      refine q_iinc (v := x3 + 1) (lv' := [(3, .int (x3 + 1)), (0, .ref (ad 0)), (1, .int x1), (2, .int x2)]) hx hb d_Mo_read_103 hl (k := 3) rfl rfl (by decide) rfl (fun ls hl => ?_)
      refine lv_goto (tgt := 71) hx hb d_Mo_read_106 (by decide) ?_
      exact ih (q_up σ 18 ((4 * x2) + x3).toNatClampNeg (σ 18 (((4 * x2) + x3) + 1).toNatClampNeg)) x1 x2 (x3 + 1) hf H locs I ls (q_hsub hl [1, 2, 3, 0] rfl)
def f_Mo_read_68 (σ : q_St) (x1 : Int32) (x2 : Int32) (y0 : Int32) (y1 : Int32) : Option q_St := q_grd (q_in y1 4) (f_Mo_read_71 200 (q_up σ 17 y1.toNatClampNeg y0) x1 x2 0)
set_option maxHeartbeats 4000000 in
set_option maxRecDepth 100000 in
theorem k_Mo_read_68 {p : Program} {l : Launch} {e : Env} {s : State} {m : MethodId} {args : Array Value} {below : List Frame} {meth : Method} {c : Code} {D : va_G} {A : Nat → Prop} {ad : Nat → Nat} {cs : Nat → ClassId} (C0 : q_Cx "JobTerminalModel" b_Mo_read 4 none w_Mo_read D vwCl (tyL cs) NW p s m args meth c) (hA : ∀ q, s.heap.size ≤ q → A q) (res : q_St) : ∀ (σ : q_St) (x1 : Int32) (x2 : Int32) (y0 : Int32) (y1 : Int32) , f_Mo_read_68 σ x1 x2 y0 y1 = some res → ∀ (H : Heap) (locs : List Loc), q_I D vwCl A s.heap (q_ws 23 ad (cM ad cs σ)) H locs → ∀ ls : Array Slot, q_has ls 4 [(0, .ref (ad 0)), (1, .int x1), (2, .int x2)] → W p l e ({ frames := 4, cells := 0, slots := 0, locals := 88 } : Room) s m args below meth c H locs 0 0 (MQ below (q_Qv D vwCl (q_ws 23 ad (cM ad cs res)) A) args s 0 0 A) (F0 m 68 ls [.int y0, .int y1, .ref (ad 18)]) := by
  intro σ x1 x2 y0 y1 hf H locs I ls hl
  unfold f_Mo_read_68 at hf
  obtain ⟨hx, hb, hr, hml, hown, hts, hlocks, hK, hN⟩ := id C0
  have htg : ∀ w ∈ GW, w.before args s = true := fun w h => hts w (List.mem_cons_of_mem _ h)
  obtain ⟨o28, hf⟩ := q_grd_some hf
  refine T_M_piped hx hb hK I o28 d_Mo_read_68 (fun H locs I => ?_)
  refine lv_iconst (v := 0) hx hb d_Mo_read_69 (by decide) ?_
  refine q_istore_n (lv' := [(3, .int 0), (0, .ref (ad 0)), (1, .int x1), (2, .int x2)]) hx hb d_Mo_read_70 rfl hl (by decide) rfl (fun ls hl => ?_)
  exact k_Mo_read_71 C0 hA res 200 (q_up σ 17 y1.toNatClampNeg y0) x1 x2 0 hf H locs I ls (q_hsub hl [1, 2, 3, 0] rfl)
def f_Mo_read_41 (σ : q_St) (x1 : Int32) (x2 : Int32) (y0 : Int32) (y1 : Int32) : Option q_St := q_grd (q_in y1 8) (q_grd (q_in x2 4) (if ((q_up σ 6 y1.toNatClampNeg y0) 17 x2.toNatClampNeg) ≤ 0 then (f_Mo_read_68 (q_up σ 6 y1.toNatClampNeg y0) x1 x2 0 x2) else (q_grd (q_in x2 4) (f_Mo_read_68 (q_up σ 6 y1.toNatClampNeg y0) x1 x2 (((q_up σ 6 y1.toNatClampNeg y0) 17 x2.toNatClampNeg) - 1) x2))))
set_option maxHeartbeats 4000000 in
set_option maxRecDepth 100000 in
theorem k_Mo_read_41 {p : Program} {l : Launch} {e : Env} {s : State} {m : MethodId} {args : Array Value} {below : List Frame} {meth : Method} {c : Code} {D : va_G} {A : Nat → Prop} {ad : Nat → Nat} {cs : Nat → ClassId} (C0 : q_Cx "JobTerminalModel" b_Mo_read 4 none w_Mo_read D vwCl (tyL cs) NW p s m args meth c) (hA : ∀ q, s.heap.size ≤ q → A q) (res : q_St) : ∀ (σ : q_St) (x1 : Int32) (x2 : Int32) (y0 : Int32) (y1 : Int32) , f_Mo_read_41 σ x1 x2 y0 y1 = some res → ∀ (H : Heap) (locs : List Loc), q_I D vwCl A s.heap (q_ws 23 ad (cM ad cs σ)) H locs → ∀ ls : Array Slot, q_has ls 4 [(0, .ref (ad 0)), (1, .int x1), (2, .int x2)] → W p l e ({ frames := 4, cells := 0, slots := 0, locals := 88 } : Room) s m args below meth c H locs 0 0 (MQ below (q_Qv D vwCl (q_ws 23 ad (cM ad cs res)) A) args s 0 0 A) (F0 m 41 ls [.int y0, .int y1, .ref (ad 7)]) := by
  intro σ x1 x2 y0 y1 hf H locs I ls hl
  unfold f_Mo_read_41 at hf
  obtain ⟨hx, hb, hr, hml, hown, hts, hlocks, hK, hN⟩ := id C0
  have htg : ∀ w ∈ GW, w.before args s = true := fun w h => hts w (List.mem_cons_of_mem _ h)
  obtain ⟨o24, hf⟩ := q_grd_some hf
  refine T_M_register hx hb hK I o24 d_Mo_read_41 (fun H locs I => ?_)
  refine lv_aload_n hx hb d_Mo_read_42 rfl (q_at hl 0 rfl) ?_
  refine G_Mo_Mo_piped hx hb htg hown hK hN I d_Mo_read_43 ?_
  refine lv_iload_n hx hb d_Mo_read_46 rfl (q_at hl 2 rfl) ?_
  refine lv_aload_n hx hb d_Mo_read_47 rfl (q_at hl 0 rfl) ?_
  refine G_Mo_Mo_piped hx hb htg hown hK hN I d_Mo_read_48 ?_
  refine lv_iload_n hx hb d_Mo_read_51 rfl (q_at hl 2 rfl) ?_
  obtain ⟨o25, hf⟩ := q_grd_some hf
  refine A_M_piped hx hb hK I o25 d_Mo_read_52 ?_
  refine lv_if_le (tgt := 67) hx hb d_Mo_read_53 (by decide) (fun c26 => ?_) (fun c26 => ?_)
  · rw [if_pos c26] at hf
    refine lv_iconst (v := 0) hx hb d_Mo_read_67 (by decide) ?_
    exact k_Mo_read_68 C0 hA res (q_up σ 6 y1.toNatClampNeg y0) x1 x2 0 x2 hf H locs I ls (q_hsub hl [0, 1, 2] rfl)
  · rw [if_neg c26] at hf
    refine lv_aload_n hx hb d_Mo_read_56 rfl (q_at hl 0 rfl) ?_
    refine G_Mo_Mo_piped hx hb htg hown hK hN I d_Mo_read_57 ?_
    refine lv_iload_n hx hb d_Mo_read_60 rfl (q_at hl 2 rfl) ?_
    obtain ⟨o27, hf⟩ := q_grd_some hf
    refine A_M_piped hx hb hK I o27 d_Mo_read_61 ?_
    refine lv_iconst (v := 1) hx hb d_Mo_read_62 (by decide) ?_
    refine lv_isub hx hb d_Mo_read_63 ?_
    refine lv_goto (tgt := 68) hx hb d_Mo_read_64 (by decide) ?_
    exact k_Mo_read_68 C0 hA res (q_up σ 6 y1.toNatClampNeg y0) x1 x2 (((q_up σ 6 y1.toNatClampNeg y0) 17 x2.toNatClampNeg) - 1) x2 hf H locs I ls (q_hsub hl [0, 1, 2] rfl)
def f_Mo_read (σ : q_St) (p1 : Int32) : Option q_St := q_grd (q_in p1 8) (q_bnd (f_Mo_readsPipe σ p1) (fun r2 => if r2.1 = 0 then (if (r2.2 43 0) = 0 then (if (r2.2 41 0) = (σ 3 p1.toNatClampNeg) then (q_grd (q_in 0 40) (q_grd (q_in p1 8) (f_Mo_read_220 200 (q_up (q_up r2.2 6 p1.toNatClampNeg (r2.2 20 (0 : Int32).toNatClampNeg)) 45 0 (((q_up r2.2 6 p1.toNatClampNeg (r2.2 20 (0 : Int32).toNatClampNeg)) 45 0) - 1)) p1 0))) else (q_grd (q_in p1 8) (q_grd (q_in p1 8) (q_bnd (f_Mo_has r2.2 ((r2.2 9 p1.toNatClampNeg) ||| (r2.2 10 p1.toNatClampNeg)) 8) (fun r11 => if r11.1 = 0 then (q_bnd (f_Mo_sendJob r11.2 (σ 3 p1.toNatClampNeg) 8) (fun r14 => f_Mo_read_258 r14)) else (q_bnd (f_Mo_fail r11.2 p1) (fun r16 => f_Mo_read_258 r16))))))) else (q_grd (q_in p1 8) (q_grd (q_in p1 8) (q_grd (q_in p1 8) (f_Mo_read_258 (q_up (q_up r2.2 6 p1.toNatClampNeg (-1)) 5 p1.toNatClampNeg (((q_up r2.2 6 p1.toNatClampNeg (-1)) 5 p1.toNatClampNeg) + 1))))))) else (q_grd (q_in (σ 3 p1.toNatClampNeg) 4) (if (r2.2 17 (σ 3 p1.toNatClampNeg).toNatClampNeg) ≤ 0 then (f_Mo_read_41 r2.2 p1 (σ 3 p1.toNatClampNeg) (-1) p1) else (q_grd (q_in (4 * (σ 3 p1.toNatClampNeg)) 16) (f_Mo_read_41 r2.2 p1 (σ 3 p1.toNatClampNeg) (r2.2 18 (4 * (σ 3 p1.toNatClampNeg)).toNatClampNeg) p1))))))
set_option maxHeartbeats 4000000 in
set_option maxRecDepth 100000 in
theorem c_Mo_read {l : Launch} {D : va_G} {ad : Nat → Nat} {cs : Nat → ClassId} {sz : Nat} {σ : q_St} {p1 : Int32} {res : q_St} (hf : f_Mo_read σ p1 = some res) : Met l y_Mo_read w_Mo_read ({ frames := 4, cells := 0, slots := 0, locals := 88 } : Room) (q_Pre D vwCl (tyL cs) NW [.ref (ad 0), .int p1] (q_ws 23 ad (cM ad cs σ)) sz) (q_Qv D vwCl (q_ws 23 ad (cM ad cs res)) (va_A (q_ws 23 ad (cM ad cs σ)) sz)) 0 0 (va_A (q_ws 23 ad (cM ad cs σ)) sz) := by
  refine Met.ofW (cc := b_Mo_read) (maxL := 4) (ret := none) (by decide) rfl ?_
  intro p e s m args below meth c s₁ B hml hv
  obtain ⟨hargs, hsz, hP, hK, hD0, hN⟩ := hv
  have hx := B.exec
  have hb := B.bytes
  have hr := B.returns
  have hts := atoms_spec (ws := w_Mo_read) B.pre
  have hown : s.vm.findClass "JobTerminalModel" = some m.cls := findClass_of_methodNamed B.named
  have hlocks := B.notSynchronized
  have htg : ∀ w ∈ GW, w.before args s = true := fun w h => hts w (List.mem_cons_of_mem _ h)
  subst hsz
  have hD := hD0.self (sz := s.heap.size)
  generalize hAe : va_A (q_ws 23 ad (cM ad cs σ)) s.heap.size = A at hD ⊢
  have hA : ∀ q : Nat, s.heap.size ≤ q → A q := fun q h => by rw [← hAe]; exact Or.inr h
  have I : q_I D vwCl A s.heap (q_ws 23 ad (cM ad cs σ)) s.heap [] := ⟨hP, hD, va_S.rf⟩
  obtain ⟨ls, hen, hl⟩ := q_entry (vs := [.ref (ad 0), .int p1]) (n := 4) (lv := [(0, .ref (ad 0)), (1, .int p1)]) (by intro v hv; simp only [List.mem_cons, List.not_mem_nil, or_false] at hv; rcases hv with rfl | rfl <;> first | rfl | exact q_cat) (Nat.le_of_ble_eq_true rfl) rfl
  rw [show entryFrame m args 4 = F0 m 0 ls [] from by rw [hargs]; exact hen m]
  have C0 : q_Cx "JobTerminalModel" b_Mo_read 4 none w_Mo_read D vwCl (tyL cs) NW p s m args meth c := ⟨hx, hb, hr, hml, hown, hts, hlocks, hK, hN⟩
  unfold f_Mo_read at hf
  have hgo : ∀ (H : Heap) (locs : List Loc), q_I D vwCl A s.heap (q_ws 23 ad (cM ad cs σ)) H locs → W p l e ({ frames := 4, cells := 0, slots := 0, locals := 88 } : Room) s m args below meth c H locs 0 0 (MQ below (q_Qv D vwCl (q_ws 23 ad (cM ad cs res)) A) args s 0 0 A) (F0 m 0 ls []) := by
    intro H locs I
    refine lv_aload_n hx hb d_Mo_read_0 rfl (q_at hl 0 rfl) ?_
    refine G_Mo_Mo_jobOf hx hb htg hown hK hN I d_Mo_read_1 ?_
    refine lv_iload_n hx hb d_Mo_read_4 rfl (q_at hl 1 rfl) ?_
    obtain ⟨o1, hf⟩ := q_grd_some hf
    refine A_M_jobOf hx hb hK I o1 d_Mo_read_5 ?_
    refine q_istore_n (lv' := [(2, .int (σ 3 p1.toNatClampNeg)), (0, .ref (ad 0)), (1, .int p1)]) hx hb d_Mo_read_6 rfl hl (by decide) rfl (fun ls hl => ?_)
    refine lv_aload_n hx hb d_Mo_read_7 rfl (q_at hl 1 rfl) ?_
    refine lv_iload_n hx hb d_Mo_read_8 rfl (q_at hl 2 rfl) ?_
    obtain ⟨r2, e3, hf⟩ := q_bnd_some hf
    refine q_ki hA I (q_runV (C := "JobTerminalModel") (As := [.int p1]) (rest := []) ⟨hx, hb, hml, hown, hts⟩ (c_Mo_readsPipe (sz := H.size) e3) (cwV 1 hts (q_goodV mw442 mw443 mw444 mw445 mw366) rfl rfl rfl (by decide +kernel) ⟨Nat.le_of_ble_eq_true rfl, Nat.le_of_ble_eq_true rfl⟩) NW_ok hK hN I rfl (q_wsE (by decide) (a_M_Mo)) rfl (q_sz hl) rfl (Nat.le_of_ble_eq_true rfl) d_Mo_read_9 ⟨Nat.zero_le _, Nat.zero_le _⟩) (fun H locs I => ?_)
    refine lv_if_eq (tgt := 122) hx hb d_Mo_read_12 (by decide) (fun c4 => ?_) (fun c4 => ?_)
    · rw [if_pos c4] at hf
      refine lv_aload_n hx hb d_Mo_read_122 rfl (q_at hl 1 rfl) ?_
      refine G_Mo_Mo_hung hx hb htg hown hK hN I d_Mo_read_123 ?_
      refine lv_if_eq (tgt := 149) hx hb d_Mo_read_126 (by decide) (fun c5 => ?_) (fun c5 => ?_)
      · rw [if_pos c5] at hf
        refine lv_aload_n hx hb d_Mo_read_149 rfl (q_at hl 1 rfl) ?_
        refine G_Mo_Mo_front hx hb htg hown hK hN I d_Mo_read_150 ?_
        refine lv_iload_n hx hb d_Mo_read_153 rfl (q_at hl 0 rfl) ?_
        refine lv_icmp_eq (tgt := 196) hx hb d_Mo_read_154 (by decide) (fun c6 => ?_) (fun c6 => ?_)
        · rw [if_pos c6] at hf
          refine lv_aload_n hx hb d_Mo_read_196 rfl (q_at hl 1 rfl) ?_
          refine G_Mo_Mo_register hx hb htg hown hK hN I d_Mo_read_197 ?_
          refine lv_iload_n hx hb d_Mo_read_200 rfl (q_at hl 2 rfl) ?_
          refine lv_aload_n hx hb d_Mo_read_201 rfl (q_at hl 1 rfl) ?_
          refine G_Mo_Mo_queue hx hb htg hown hK hN I d_Mo_read_202 ?_
          refine lv_iconst (v := 0) hx hb d_Mo_read_205 (by decide) ?_
          obtain ⟨o7, hf⟩ := q_grd_some hf
          refine A_M_queue hx hb hK I o7 d_Mo_read_206 ?_
          obtain ⟨o8, hf⟩ := q_grd_some hf
          refine T_M_register hx hb hK I o8 d_Mo_read_207 (fun H locs I => ?_)
          refine lv_aload_n hx hb d_Mo_read_208 rfl (q_at hl 1 rfl) ?_
          refine lv_dup hx hb d_Mo_read_209 rfl ?_
          refine G_Mo_Mo_queued hx hb htg hown hK hN I d_Mo_read_210 ?_
          refine lv_iconst (v := 1) hx hb d_Mo_read_213 (by decide) ?_
          refine lv_isub hx hb d_Mo_read_214 ?_
          refine P_Mo_Mo_queued hx hb htg hown hK hN I d_Mo_read_215 (fun H locs I => ?_)
          refine lv_iconst (v := 0) hx hb d_Mo_read_218 (by decide) ?_
          refine q_istore_n (lv' := [(3, .int 0), (2, .int (σ 3 p1.toNatClampNeg)), (0, .ref (ad 0)), (1, .int p1)]) hx hb d_Mo_read_219 rfl hl (by decide) rfl (fun ls hl => ?_)
          exact k_Mo_read_220 C0 hA res 200 (q_up (q_up r2.2 6 p1.toNatClampNeg (r2.2 20 (0 : Int32).toNatClampNeg)) 45 0 (((q_up r2.2 6 p1.toNatClampNeg (r2.2 20 (0 : Int32).toNatClampNeg)) 45 0) - 1)) p1 0 hf H locs I ls (q_hsub hl [2, 3, 0] rfl)
        · rw [if_neg c6] at hf
          refine lv_aload_n hx hb d_Mo_read_157 rfl (q_at hl 1 rfl) ?_
          refine G_Mo_Mo_blocked hx hb htg hown hK hN I d_Mo_read_158 ?_
          refine lv_iload_n hx hb d_Mo_read_161 rfl (q_at hl 2 rfl) ?_
          obtain ⟨o9, hf⟩ := q_grd_some hf
          refine A_M_blocked hx hb hK I o9 d_Mo_read_162 ?_
          refine lv_aload_n hx hb d_Mo_read_163 rfl (q_at hl 1 rfl) ?_
          refine G_Mo_Mo_ignored hx hb htg hown hK hN I d_Mo_read_164 ?_
          refine lv_iload_n hx hb d_Mo_read_167 rfl (q_at hl 2 rfl) ?_
          obtain ⟨o10, hf⟩ := q_grd_some hf
          refine A_M_ignored hx hb hK I o10 d_Mo_read_168 ?_
          refine lv_ior hx hb d_Mo_read_169 ?_
          refine lv_bipush (v := 8) hx hb d_Mo_read_170 (by decide) ?_
          obtain ⟨r11, e12, hf⟩ := q_bnd_some hf
          refine q_ki hA I (q_runS (As := [.int ((r2.2 9 p1.toNatClampNeg) ||| (r2.2 10 p1.toNatClampNeg)), .int 8]) (rest := []) ⟨hx, hb, hml, hown, hts⟩ (c_Mo_has (sz := H.size) e12) (va_cwS 2 hts (q_goodS mw367 mw368 mw369 mw366) rfl rfl rfl (by decide +kernel) ⟨Nat.le_of_ble_eq_true rfl, Nat.le_of_ble_eq_true rfl⟩) NW_ok hK hN I rfl (q_sz hl) rfl (Nat.le_of_ble_eq_true rfl) d_Mo_read_172 ⟨Nat.zero_le _, Nat.zero_le _⟩) (fun H locs I => ?_)
          refine lv_if_eq (tgt := 186) hx hb d_Mo_read_175 (by decide) (fun c13 => ?_) (fun c13 => ?_)
          · rw [if_pos c13] at hf
            refine lv_aload_n hx hb d_Mo_read_186 rfl (q_at hl 1 rfl) ?_
            refine lv_iload_n hx hb d_Mo_read_187 rfl (q_at hl 0 rfl) ?_
            refine lv_bipush (v := 8) hx hb d_Mo_read_188 (by decide) ?_
            obtain ⟨r14, e15, hf⟩ := q_bnd_some hf
            refine q_kv hA I (q_runV (C := "JobTerminalModel") (As := [.int (σ 3 p1.toNatClampNeg), .int 8]) (rest := []) ⟨hx, hb, hml, hown, hts⟩ (c_Mo_sendJob (sz := H.size) e15) (cwV 2 hts (q_goodV mw406 mw407 mw408 mw409 mw366) rfl rfl rfl (by decide +kernel) ⟨Nat.le_of_ble_eq_true rfl, Nat.le_of_ble_eq_true rfl⟩) NW_ok hK hN I rfl (q_wsE (by decide) (a_M_Mo)) rfl (q_sz hl) rfl (Nat.le_of_ble_eq_true rfl) d_Mo_read_190 ⟨Nat.zero_le _, Nat.zero_le _⟩) (fun H locs I => ?_)
            refine lv_goto (tgt := 258) hx hb d_Mo_read_193 (by decide) ?_
            exact k_Mo_read_258 C0 hA res r14 hf H locs I ls (q_hsub hl [] rfl)
          · rw [if_neg c13] at hf
            refine lv_aload_n hx hb d_Mo_read_178 rfl (q_at hl 1 rfl) ?_
            refine lv_iload_n hx hb d_Mo_read_179 rfl (q_at hl 2 rfl) ?_
            obtain ⟨r16, e17, hf⟩ := q_bnd_some hf
            refine q_kv hA I (q_runV (C := "JobTerminalModel") (As := [.int p1]) (rest := []) ⟨hx, hb, hml, hown, hts⟩ (c_Mo_fail (sz := H.size) e17) (cwV 1 hts (q_goodV mw446 mw447 mw448 mw449 mw366) rfl rfl rfl (by decide +kernel) ⟨Nat.le_of_ble_eq_true rfl, Nat.le_of_ble_eq_true rfl⟩) NW_ok hK hN I rfl (q_wsE (by decide) (a_M_Mo)) rfl (q_sz hl) rfl (Nat.le_of_ble_eq_true rfl) d_Mo_read_180 ⟨Nat.zero_le _, Nat.zero_le _⟩) (fun H locs I => ?_)
            refine lv_goto (tgt := 258) hx hb d_Mo_read_183 (by decide) ?_
            exact k_Mo_read_258 C0 hA res r16 hf H locs I ls (q_hsub hl [] rfl)
      · rw [if_neg c5] at hf
        refine lv_aload_n hx hb d_Mo_read_129 rfl (q_at hl 1 rfl) ?_
        refine G_Mo_Mo_register hx hb htg hown hK hN I d_Mo_read_130 ?_
        refine lv_iload_n hx hb d_Mo_read_133 rfl (q_at hl 2 rfl) ?_
        refine lv_iconst (v := -1) hx hb d_Mo_read_134 (by decide) ?_
        obtain ⟨o18, hf⟩ := q_grd_some hf
        refine T_M_register hx hb hK I o18 d_Mo_read_135 (fun H locs I => ?_)
        refine lv_aload_n hx hb d_Mo_read_136 rfl (q_at hl 1 rfl) ?_
        refine G_Mo_Mo_line hx hb htg hown hK hN I d_Mo_read_137 ?_
        refine lv_iload_n hx hb d_Mo_read_140 rfl (q_at hl 2 rfl) ?_
        refine lv_dup2_11 hx hb d_Mo_read_141 rfl rfl ?_
        obtain ⟨o19, hf⟩ := q_grd_some hf
        refine A_M_line hx hb hK I o19 d_Mo_read_142 ?_
        refine lv_iconst (v := 1) hx hb d_Mo_read_143 (by decide) ?_
        refine lv_iadd hx hb d_Mo_read_144 ?_
        obtain ⟨o20, hf⟩ := q_grd_some hf
        refine T_M_line hx hb hK I o20 d_Mo_read_145 (fun H locs I => ?_)
        refine lv_goto (tgt := 258) hx hb d_Mo_read_146 (by decide) ?_
        exact k_Mo_read_258 C0 hA res (q_up (q_up r2.2 6 p1.toNatClampNeg (-1)) 5 p1.toNatClampNeg (((q_up r2.2 6 p1.toNatClampNeg (-1)) 5 p1.toNatClampNeg) + 1)) hf H locs I ls (q_hsub hl [] rfl)
    · rw [if_neg c4] at hf
      refine lv_aload_n hx hb d_Mo_read_15 rfl (q_at hl 1 rfl) ?_
      refine G_Mo_Mo_register hx hb htg hown hK hN I d_Mo_read_16 ?_
      refine lv_iload_n hx hb d_Mo_read_19 rfl (q_at hl 2 rfl) ?_
      refine lv_aload_n hx hb d_Mo_read_20 rfl (q_at hl 1 rfl) ?_
      refine G_Mo_Mo_piped hx hb htg hown hK hN I d_Mo_read_21 ?_
      refine lv_iload_n hx hb d_Mo_read_24 rfl (q_at hl 0 rfl) ?_
      obtain ⟨o21, hf⟩ := q_grd_some hf
      refine A_M_piped hx hb hK I o21 d_Mo_read_25 ?_
      refine lv_if_le (tgt := 40) hx hb d_Mo_read_26 (by decide) (fun c22 => ?_) (fun c22 => ?_)
      · rw [if_pos c22] at hf
        refine lv_iconst (v := -1) hx hb d_Mo_read_40 (by decide) ?_
        exact k_Mo_read_41 C0 hA res r2.2 p1 (σ 3 p1.toNatClampNeg) (-1) p1 hf H locs I ls (q_hsub hl [1, 2, 0] rfl)
      · rw [if_neg c22] at hf
        refine lv_aload_n hx hb d_Mo_read_29 rfl (q_at hl 1 rfl) ?_
        refine G_Mo_Mo_pipe hx hb htg hown hK hN I d_Mo_read_30 ?_
        refine lv_iconst (v := 4) hx hb d_Mo_read_33 (by decide) ?_
        refine lv_iload_n hx hb d_Mo_read_34 rfl (q_at hl 0 rfl) ?_
        refine lv_imul hx hb d_Mo_read_35 ?_
        obtain ⟨o23, hf⟩ := q_grd_some hf
        refine A_M_pipe hx hb hK I o23 d_Mo_read_36 ?_
        refine lv_goto (tgt := 41) hx hb d_Mo_read_37 (by decide) ?_
        exact k_Mo_read_41 C0 hA res r2.2 p1 (σ 3 p1.toNatClampNeg) (r2.2 18 (4 * (σ 3 p1.toNatClampNeg)).toNatClampNeg) p1 hf H locs I ls (q_hsub hl [1, 2, 0] rfl)
  exact hgo _ _ I
-- JobTerminalModel write
def f_Mo_write_155 (σ : q_St) : Option q_St := some σ
set_option maxHeartbeats 4000000 in
set_option maxRecDepth 100000 in
theorem k_Mo_write_155 {p : Program} {l : Launch} {e : Env} {s : State} {m : MethodId} {args : Array Value} {below : List Frame} {meth : Method} {c : Code} {D : va_G} {A : Nat → Prop} {ad : Nat → Nat} {cs : Nat → ClassId} (C0 : q_Cx "JobTerminalModel" b_Mo_write 4 none w_Mo_write D vwCl (tyL cs) NW p s m args meth c) (hA : ∀ q, s.heap.size ≤ q → A q) (res : q_St) : ∀ (σ : q_St) , f_Mo_write_155 σ  = some res → ∀ (H : Heap) (locs : List Loc), q_I D vwCl A s.heap (q_ws 23 ad (cM ad cs σ)) H locs → ∀ ls : Array Slot, q_has ls 4 [] → W p l e ({ frames := 4, cells := 0, slots := 0, locals := 88 } : Room) s m args below meth c H locs 0 0 (MQ below (q_Qv D vwCl (q_ws 23 ad (cM ad cs res)) A) args s 0 0 A) (F0 m 155 ls []) := by
  intro σ  hf H locs I ls hl
  unfold f_Mo_write_155 at hf
  obtain ⟨hx, hb, hr, hml, hown, hts, hlocks, hK, hN⟩ := id C0
  have htg : ∀ w ∈ GW, w.before args s = true := fun w h => hts w (List.mem_cons_of_mem _ h)
  cases hf
  exact q_vret hx hb hr hlocks I d_Mo_write_155
def f_Mo_write_140 (σ : q_St) (x1 : Int32) (x2 : Int32) : Option q_St := q_bnd (f_Mo_show σ x2) (fun r30 => q_grd (q_in x1 8) (q_grd (q_in x1 8) (f_Mo_write_155 (q_up r30 5 x1.toNatClampNeg ((r30 5 x1.toNatClampNeg) + 1)))))
set_option maxHeartbeats 4000000 in
set_option maxRecDepth 100000 in
theorem k_Mo_write_140 {p : Program} {l : Launch} {e : Env} {s : State} {m : MethodId} {args : Array Value} {below : List Frame} {meth : Method} {c : Code} {D : va_G} {A : Nat → Prop} {ad : Nat → Nat} {cs : Nat → ClassId} (C0 : q_Cx "JobTerminalModel" b_Mo_write 4 none w_Mo_write D vwCl (tyL cs) NW p s m args meth c) (hA : ∀ q, s.heap.size ≤ q → A q) (res : q_St) : ∀ (σ : q_St) (x1 : Int32) (x2 : Int32) , f_Mo_write_140 σ x1 x2 = some res → ∀ (H : Heap) (locs : List Loc), q_I D vwCl A s.heap (q_ws 23 ad (cM ad cs σ)) H locs → ∀ ls : Array Slot, q_has ls 4 [(0, .ref (ad 0)), (1, .int x1), (2, .int x2)] → W p l e ({ frames := 4, cells := 0, slots := 0, locals := 88 } : Room) s m args below meth c H locs 0 0 (MQ below (q_Qv D vwCl (q_ws 23 ad (cM ad cs res)) A) args s 0 0 A) (F0 m 140 ls []) := by
  intro σ x1 x2 hf H locs I ls hl
  unfold f_Mo_write_140 at hf
  obtain ⟨hx, hb, hr, hml, hown, hts, hlocks, hK, hN⟩ := id C0
  have htg : ∀ w ∈ GW, w.before args s = true := fun w h => hts w (List.mem_cons_of_mem _ h)
  refine lv_aload_n hx hb d_Mo_write_140 rfl (q_at hl 0 rfl) ?_
  refine lv_iload_n hx hb d_Mo_write_141 rfl (q_at hl 2 rfl) ?_
  obtain ⟨r30, e31, hf⟩ := q_bnd_some hf
  refine q_kv hA I (q_runV (C := "JobTerminalModel") (As := [.int x2]) (rest := []) ⟨hx, hb, hml, hown, hts⟩ (c_Mo_show (sz := H.size) e31) (cwV 1 hts (q_goodV mw390 mw391 mw392 mw393 mw366) rfl rfl rfl (by decide +kernel) ⟨Nat.le_of_ble_eq_true rfl, Nat.le_of_ble_eq_true rfl⟩) NW_ok hK hN I rfl (q_wsE (by decide) (a_M_Mo)) rfl (q_sz hl) rfl (Nat.le_of_ble_eq_true rfl) d_Mo_write_142 ⟨Nat.zero_le _, Nat.zero_le _⟩) (fun H locs I => ?_)
  refine lv_aload_n hx hb d_Mo_write_145 rfl (q_at hl 0 rfl) ?_
  refine G_Mo_Mo_line hx hb htg hown hK hN I d_Mo_write_146 ?_
  refine lv_iload_n hx hb d_Mo_write_149 rfl (q_at hl 1 rfl) ?_
  refine lv_dup2_11 hx hb d_Mo_write_150 rfl rfl ?_
  obtain ⟨o32, hf⟩ := q_grd_some hf
  refine A_M_line hx hb hK I o32 d_Mo_write_151 ?_
  refine lv_iconst (v := 1) hx hb d_Mo_write_152 (by decide) ?_
  refine lv_iadd hx hb d_Mo_write_153 ?_
  obtain ⟨o33, hf⟩ := q_grd_some hf
  refine T_M_line hx hb hK I o33 d_Mo_write_154 (fun H locs I => ?_)
  exact k_Mo_write_155 C0 hA res (q_up r30 5 x1.toNatClampNeg ((r30 5 x1.toNatClampNeg) + 1)) hf H locs I ls (q_hsub hl [] rfl)
def f_Mo_write (σ : q_St) (p1 : Int32) (p2 : Int32) : Option q_St := q_grd (q_in p1 8) (q_bnd (f_Mo_writesPipe σ p1) (fun r2 => if r2.1 = 0 then (if (r2.2 43 0) = 0 then (q_bnd (f_Mo_flagged r2.2 16) (fun r6 => if r6.1 = 0 then (f_Mo_write_140 r6.2 p1 p2) else (if (r6.2 41 0) = (σ 3 p1.toNatClampNeg) then (f_Mo_write_140 r6.2 p1 p2) else (q_grd (q_in p1 8) (q_grd (q_in p1 8) (q_bnd (f_Mo_has r6.2 ((r6.2 9 p1.toNatClampNeg) ||| (r6.2 10 p1.toNatClampNeg)) 9) (fun r12 => if r12.1 = 0 then (q_bnd (f_Mo_sendJob r12.2 (σ 3 p1.toNatClampNeg) 9) (fun r15 => f_Mo_write_155 r15)) else (f_Mo_write_140 r12.2 p1 p2)))))))) else (q_bnd (f_Mo_fail r2.2 p1) (fun r17 => f_Mo_write_155 r17))) else (q_grd (q_in (σ 3 p1.toNatClampNeg) 4) (q_grd (q_in (r2.2 14 (σ 3 p1.toNatClampNeg).toNatClampNeg) 8) (if (r2.2 2 (r2.2 14 (σ 3 p1.toNatClampNeg).toNatClampNeg).toNatClampNeg) = 3 then (q_bnd (f_Mo_fail r2.2 p1) (fun r28 => f_Mo_write_155 r28)) else (q_grd (q_in (σ 3 p1.toNatClampNeg) 4) (q_grd (q_in ((4 * (σ 3 p1.toNatClampNeg)) + (r2.2 17 (σ 3 p1.toNatClampNeg).toNatClampNeg)) 16) (q_grd (q_in (σ 3 p1.toNatClampNeg) 4) (q_grd (q_in (σ 3 p1.toNatClampNeg) 4) (q_grd (q_in p1 8) (q_grd (q_in p1 8) (f_Mo_write_155 (q_up (q_up (q_up r2.2 18 ((4 * (σ 3 p1.toNatClampNeg)) + (r2.2 17 (σ 3 p1.toNatClampNeg).toNatClampNeg)).toNatClampNeg p2) 17 (σ 3 p1.toNatClampNeg).toNatClampNeg (((q_up r2.2 18 ((4 * (σ 3 p1.toNatClampNeg)) + (r2.2 17 (σ 3 p1.toNatClampNeg).toNatClampNeg)).toNatClampNeg p2) 17 (σ 3 p1.toNatClampNeg).toNatClampNeg) + 1)) 5 p1.toNatClampNeg (((q_up (q_up r2.2 18 ((4 * (σ 3 p1.toNatClampNeg)) + (r2.2 17 (σ 3 p1.toNatClampNeg).toNatClampNeg)).toNatClampNeg p2) 17 (σ 3 p1.toNatClampNeg).toNatClampNeg (((q_up r2.2 18 ((4 * (σ 3 p1.toNatClampNeg)) + (r2.2 17 (σ 3 p1.toNatClampNeg).toNatClampNeg)).toNatClampNeg p2) 17 (σ 3 p1.toNatClampNeg).toNatClampNeg) + 1)) 5 p1.toNatClampNeg) + 1))))))))))))))
set_option maxHeartbeats 4000000 in
set_option maxRecDepth 100000 in
theorem c_Mo_write {l : Launch} {D : va_G} {ad : Nat → Nat} {cs : Nat → ClassId} {sz : Nat} {σ : q_St} {p1 : Int32} {p2 : Int32} {res : q_St} (hf : f_Mo_write σ p1 p2 = some res) : Met l y_Mo_write w_Mo_write ({ frames := 4, cells := 0, slots := 0, locals := 88 } : Room) (q_Pre D vwCl (tyL cs) NW [.ref (ad 0), .int p1, .int p2] (q_ws 23 ad (cM ad cs σ)) sz) (q_Qv D vwCl (q_ws 23 ad (cM ad cs res)) (va_A (q_ws 23 ad (cM ad cs σ)) sz)) 0 0 (va_A (q_ws 23 ad (cM ad cs σ)) sz) := by
  refine Met.ofW (cc := b_Mo_write) (maxL := 4) (ret := none) (by decide) rfl ?_
  intro p e s m args below meth c s₁ B hml hv
  obtain ⟨hargs, hsz, hP, hK, hD0, hN⟩ := hv
  have hx := B.exec
  have hb := B.bytes
  have hr := B.returns
  have hts := atoms_spec (ws := w_Mo_write) B.pre
  have hown : s.vm.findClass "JobTerminalModel" = some m.cls := findClass_of_methodNamed B.named
  have hlocks := B.notSynchronized
  have htg : ∀ w ∈ GW, w.before args s = true := fun w h => hts w (List.mem_cons_of_mem _ h)
  subst hsz
  have hD := hD0.self (sz := s.heap.size)
  generalize hAe : va_A (q_ws 23 ad (cM ad cs σ)) s.heap.size = A at hD ⊢
  have hA : ∀ q : Nat, s.heap.size ≤ q → A q := fun q h => by rw [← hAe]; exact Or.inr h
  have I : q_I D vwCl A s.heap (q_ws 23 ad (cM ad cs σ)) s.heap [] := ⟨hP, hD, va_S.rf⟩
  obtain ⟨ls, hen, hl⟩ := q_entry (vs := [.ref (ad 0), .int p1, .int p2]) (n := 4) (lv := [(0, .ref (ad 0)), (1, .int p1), (2, .int p2)]) (by intro v hv; simp only [List.mem_cons, List.not_mem_nil, or_false] at hv; rcases hv with rfl | rfl | rfl <;> first | rfl | exact q_cat) (Nat.le_of_ble_eq_true rfl) rfl
  rw [show entryFrame m args 4 = F0 m 0 ls [] from by rw [hargs]; exact hen m]
  have C0 : q_Cx "JobTerminalModel" b_Mo_write 4 none w_Mo_write D vwCl (tyL cs) NW p s m args meth c := ⟨hx, hb, hr, hml, hown, hts, hlocks, hK, hN⟩
  unfold f_Mo_write at hf
  have hgo : ∀ (H : Heap) (locs : List Loc), q_I D vwCl A s.heap (q_ws 23 ad (cM ad cs σ)) H locs → W p l e ({ frames := 4, cells := 0, slots := 0, locals := 88 } : Room) s m args below meth c H locs 0 0 (MQ below (q_Qv D vwCl (q_ws 23 ad (cM ad cs res)) A) args s 0 0 A) (F0 m 0 ls []) := by
    intro H locs I
    refine lv_aload_n hx hb d_Mo_write_0 rfl (q_at hl 0 rfl) ?_
    refine G_Mo_Mo_jobOf hx hb htg hown hK hN I d_Mo_write_1 ?_
    refine lv_iload_n hx hb d_Mo_write_4 rfl (q_at hl 1 rfl) ?_
    obtain ⟨o1, hf⟩ := q_grd_some hf
    refine A_M_jobOf hx hb hK I o1 d_Mo_write_5 ?_
    refine q_istore_n (lv' := [(3, .int (σ 3 p1.toNatClampNeg)), (0, .ref (ad 0)), (1, .int p1), (2, .int p2)]) hx hb d_Mo_write_6 rfl hl (by decide) rfl (fun ls hl => ?_)
    refine lv_aload_n hx hb d_Mo_write_7 rfl (q_at hl 1 rfl) ?_
    refine lv_iload_n hx hb d_Mo_write_8 rfl (q_at hl 2 rfl) ?_
    obtain ⟨r2, e3, hf⟩ := q_bnd_some hf
    refine q_ki hA I (q_runV (C := "JobTerminalModel") (As := [.int p1]) (rest := []) ⟨hx, hb, hml, hown, hts⟩ (c_Mo_writesPipe (sz := H.size) e3) (cwV 1 hts (q_goodV mw438 mw439 mw440 mw441 mw366) rfl rfl rfl (by decide +kernel) ⟨Nat.le_of_ble_eq_true rfl, Nat.le_of_ble_eq_true rfl⟩) NW_ok hK hN I rfl (q_wsE (by decide) (a_M_Mo)) rfl (q_sz hl) rfl (Nat.le_of_ble_eq_true rfl) d_Mo_write_9 ⟨Nat.zero_le _, Nat.zero_le _⟩) (fun H locs I => ?_)
    refine lv_if_eq (tgt := 77) hx hb d_Mo_write_12 (by decide) (fun c4 => ?_) (fun c4 => ?_)
    · rw [if_pos c4] at hf
      refine lv_aload_n hx hb d_Mo_write_77 rfl (q_at hl 1 rfl) ?_
      refine G_Mo_Mo_hung hx hb htg hown hK hN I d_Mo_write_78 ?_
      refine lv_if_eq (tgt := 92) hx hb d_Mo_write_81 (by decide) (fun c5 => ?_) (fun c5 => ?_)
      · rw [if_pos c5] at hf
        refine lv_aload_n hx hb d_Mo_write_92 rfl (q_at hl 1 rfl) ?_
        refine lv_bipush (v := 16) hx hb d_Mo_write_93 (by decide) ?_
        obtain ⟨r6, e7, hf⟩ := q_bnd_some hf
        refine q_ki hA I (q_runV (C := "JobTerminalModel") (As := [.int 16]) (rest := []) ⟨hx, hb, hml, hown, hts⟩ (c_Mo_flagged (sz := H.size) e7) (cwV 1 hts (q_goodV mw382 mw383 mw384 mw385 mw366) rfl rfl rfl (by decide +kernel) ⟨Nat.le_of_ble_eq_true rfl, Nat.le_of_ble_eq_true rfl⟩) NW_ok hK hN I rfl (q_wsE (by decide) (a_M_Mo)) rfl (q_sz hl) rfl (Nat.le_of_ble_eq_true rfl) d_Mo_write_95 ⟨Nat.zero_le _, Nat.zero_le _⟩) (fun H locs I => ?_)
        refine lv_if_eq (tgt := 140) hx hb d_Mo_write_98 (by decide) (fun c8 => ?_) (fun c8 => ?_)
        · rw [if_pos c8] at hf
          exact k_Mo_write_140 C0 hA res r6.2 p1 p2 hf H locs I ls (q_hsub hl [1, 2, 3] rfl)
        · rw [if_neg c8] at hf
          refine lv_aload_n hx hb d_Mo_write_101 rfl (q_at hl 1 rfl) ?_
          refine G_Mo_Mo_front hx hb htg hown hK hN I d_Mo_write_102 ?_
          refine lv_iload_n hx hb d_Mo_write_105 rfl (q_at hl 0 rfl) ?_
          refine lv_icmp_eq (tgt := 140) hx hb d_Mo_write_106 (by decide) (fun c9 => ?_) (fun c9 => ?_)
          · rw [if_pos c9] at hf
            exact k_Mo_write_140 C0 hA res r6.2 p1 p2 hf H locs I ls (q_hsub hl [1, 2, 3] rfl)
          · rw [if_neg c9] at hf
            refine lv_aload_n hx hb d_Mo_write_109 rfl (q_at hl 1 rfl) ?_
            refine G_Mo_Mo_blocked hx hb htg hown hK hN I d_Mo_write_110 ?_
            refine lv_iload_n hx hb d_Mo_write_113 rfl (q_at hl 2 rfl) ?_
            obtain ⟨o10, hf⟩ := q_grd_some hf
            refine A_M_blocked hx hb hK I o10 d_Mo_write_114 ?_
            refine lv_aload_n hx hb d_Mo_write_115 rfl (q_at hl 1 rfl) ?_
            refine G_Mo_Mo_ignored hx hb htg hown hK hN I d_Mo_write_116 ?_
            refine lv_iload_n hx hb d_Mo_write_119 rfl (q_at hl 2 rfl) ?_
            obtain ⟨o11, hf⟩ := q_grd_some hf
            refine A_M_ignored hx hb hK I o11 d_Mo_write_120 ?_
            refine lv_ior hx hb d_Mo_write_121 ?_
            refine lv_bipush (v := 9) hx hb d_Mo_write_122 (by decide) ?_
            obtain ⟨r12, e13, hf⟩ := q_bnd_some hf
            refine q_ki hA I (q_runS (As := [.int ((r6.2 9 p1.toNatClampNeg) ||| (r6.2 10 p1.toNatClampNeg)), .int 9]) (rest := []) ⟨hx, hb, hml, hown, hts⟩ (c_Mo_has (sz := H.size) e13) (va_cwS 2 hts (q_goodS mw367 mw368 mw369 mw366) rfl rfl rfl (by decide +kernel) ⟨Nat.le_of_ble_eq_true rfl, Nat.le_of_ble_eq_true rfl⟩) NW_ok hK hN I rfl (q_sz hl) rfl (Nat.le_of_ble_eq_true rfl) d_Mo_write_124 ⟨Nat.zero_le _, Nat.zero_le _⟩) (fun H locs I => ?_)
            refine lv_if_ne (tgt := 140) hx hb d_Mo_write_127 (by decide) (fun c14 => ?_) (fun c14 => ?_)
            · rw [if_neg c14] at hf
              exact k_Mo_write_140 C0 hA res r12.2 p1 p2 hf H locs I ls (q_hsub hl [1, 2, 3] rfl)
            · rw [if_pos c14] at hf
              refine lv_aload_n hx hb d_Mo_write_130 rfl (q_at hl 1 rfl) ?_
              refine lv_iload_n hx hb d_Mo_write_131 rfl (q_at hl 0 rfl) ?_
              refine lv_bipush (v := 9) hx hb d_Mo_write_132 (by decide) ?_
              obtain ⟨r15, e16, hf⟩ := q_bnd_some hf
              refine q_kv hA I (q_runV (C := "JobTerminalModel") (As := [.int (σ 3 p1.toNatClampNeg), .int 9]) (rest := []) ⟨hx, hb, hml, hown, hts⟩ (c_Mo_sendJob (sz := H.size) e16) (cwV 2 hts (q_goodV mw406 mw407 mw408 mw409 mw366) rfl rfl rfl (by decide +kernel) ⟨Nat.le_of_ble_eq_true rfl, Nat.le_of_ble_eq_true rfl⟩) NW_ok hK hN I rfl (q_wsE (by decide) (a_M_Mo)) rfl (q_sz hl) rfl (Nat.le_of_ble_eq_true rfl) d_Mo_write_134 ⟨Nat.zero_le _, Nat.zero_le _⟩) (fun H locs I => ?_)
              refine lv_goto (tgt := 155) hx hb d_Mo_write_137 (by decide) ?_
              exact k_Mo_write_155 C0 hA res r15 hf H locs I ls (q_hsub hl [] rfl)
      · rw [if_neg c5] at hf
        refine lv_aload_n hx hb d_Mo_write_84 rfl (q_at hl 1 rfl) ?_
        refine lv_iload_n hx hb d_Mo_write_85 rfl (q_at hl 2 rfl) ?_
        obtain ⟨r17, e18, hf⟩ := q_bnd_some hf
        refine q_kv hA I (q_runV (C := "JobTerminalModel") (As := [.int p1]) (rest := []) ⟨hx, hb, hml, hown, hts⟩ (c_Mo_fail (sz := H.size) e18) (cwV 1 hts (q_goodV mw446 mw447 mw448 mw449 mw366) rfl rfl rfl (by decide +kernel) ⟨Nat.le_of_ble_eq_true rfl, Nat.le_of_ble_eq_true rfl⟩) NW_ok hK hN I rfl (q_wsE (by decide) (a_M_Mo)) rfl (q_sz hl) rfl (Nat.le_of_ble_eq_true rfl) d_Mo_write_86 ⟨Nat.zero_le _, Nat.zero_le _⟩) (fun H locs I => ?_)
        refine lv_goto (tgt := 155) hx hb d_Mo_write_89 (by decide) ?_
        exact k_Mo_write_155 C0 hA res r17 hf H locs I ls (q_hsub hl [] rfl)
    · rw [if_neg c4] at hf
      refine lv_aload_n hx hb d_Mo_write_15 rfl (q_at hl 1 rfl) ?_
      refine G_Mo_Mo_state hx hb htg hown hK hN I d_Mo_write_16 ?_
      refine lv_aload_n hx hb d_Mo_write_19 rfl (q_at hl 1 rfl) ?_
      refine G_Mo_Mo_second hx hb htg hown hK hN I d_Mo_write_20 ?_
      refine lv_iload_n hx hb d_Mo_write_23 rfl (q_at hl 0 rfl) ?_
      obtain ⟨o19, hf⟩ := q_grd_some hf
      refine A_M_second hx hb hK I o19 d_Mo_write_24 ?_
      obtain ⟨o20, hf⟩ := q_grd_some hf
      refine A_M_state hx hb hK I o20 d_Mo_write_25 ?_
      refine lv_iconst (v := 3) hx hb d_Mo_write_26 (by decide) ?_
      refine lv_icmp_ne (tgt := 38) hx hb d_Mo_write_27 (by decide) (fun c21 => ?_) (fun c21 => ?_)
      · rw [if_neg c21] at hf
        refine lv_aload_n hx hb d_Mo_write_38 rfl (q_at hl 1 rfl) ?_
        refine G_Mo_Mo_pipe hx hb htg hown hK hN I d_Mo_write_39 ?_
        refine lv_iconst (v := 4) hx hb d_Mo_write_42 (by decide) ?_
        refine lv_iload_n hx hb d_Mo_write_43 rfl (q_at hl 0 rfl) ?_
        refine lv_imul hx hb d_Mo_write_44 ?_
        refine lv_aload_n hx hb d_Mo_write_45 rfl (q_at hl 1 rfl) ?_
        refine G_Mo_Mo_piped hx hb htg hown hK hN I d_Mo_write_46 ?_
        refine lv_iload_n hx hb d_Mo_write_49 rfl (q_at hl 0 rfl) ?_
        obtain ⟨o22, hf⟩ := q_grd_some hf
        refine A_M_piped hx hb hK I o22 d_Mo_write_50 ?_
        refine lv_iadd hx hb d_Mo_write_51 ?_
        refine lv_iload_n hx hb d_Mo_write_52 rfl (q_at hl 3 rfl) ?_
        obtain ⟨o23, hf⟩ := q_grd_some hf
        refine T_M_pipe hx hb hK I o23 d_Mo_write_53 (fun H locs I => ?_)
        refine lv_aload_n hx hb d_Mo_write_54 rfl (q_at hl 1 rfl) ?_
        refine G_Mo_Mo_piped hx hb htg hown hK hN I d_Mo_write_55 ?_
        refine lv_iload_n hx hb d_Mo_write_58 rfl (q_at hl 0 rfl) ?_
        refine lv_dup2_11 hx hb d_Mo_write_59 rfl rfl ?_
        obtain ⟨o24, hf⟩ := q_grd_some hf
        refine A_M_piped hx hb hK I o24 d_Mo_write_60 ?_
        refine lv_iconst (v := 1) hx hb d_Mo_write_61 (by decide) ?_
        refine lv_iadd hx hb d_Mo_write_62 ?_
        obtain ⟨o25, hf⟩ := q_grd_some hf
        refine T_M_piped hx hb hK I o25 d_Mo_write_63 (fun H locs I => ?_)
        refine lv_aload_n hx hb d_Mo_write_64 rfl (q_at hl 1 rfl) ?_
        refine G_Mo_Mo_line hx hb htg hown hK hN I d_Mo_write_65 ?_
        refine lv_iload_n hx hb d_Mo_write_68 rfl (q_at hl 2 rfl) ?_
        refine lv_dup2_11 hx hb d_Mo_write_69 rfl rfl ?_
        obtain ⟨o26, hf⟩ := q_grd_some hf
        refine A_M_line hx hb hK I o26 d_Mo_write_70 ?_
        refine lv_iconst (v := 1) hx hb d_Mo_write_71 (by decide) ?_
        refine lv_iadd hx hb d_Mo_write_72 ?_
        obtain ⟨o27, hf⟩ := q_grd_some hf
        refine T_M_line hx hb hK I o27 d_Mo_write_73 (fun H locs I => ?_)
        refine lv_goto (tgt := 155) hx hb d_Mo_write_74 (by decide) ?_
        exact k_Mo_write_155 C0 hA res (q_up (q_up (q_up r2.2 18 ((4 * (σ 3 p1.toNatClampNeg)) + (r2.2 17 (σ 3 p1.toNatClampNeg).toNatClampNeg)).toNatClampNeg p2) 17 (σ 3 p1.toNatClampNeg).toNatClampNeg (((q_up r2.2 18 ((4 * (σ 3 p1.toNatClampNeg)) + (r2.2 17 (σ 3 p1.toNatClampNeg).toNatClampNeg)).toNatClampNeg p2) 17 (σ 3 p1.toNatClampNeg).toNatClampNeg) + 1)) 5 p1.toNatClampNeg (((q_up (q_up r2.2 18 ((4 * (σ 3 p1.toNatClampNeg)) + (r2.2 17 (σ 3 p1.toNatClampNeg).toNatClampNeg)).toNatClampNeg p2) 17 (σ 3 p1.toNatClampNeg).toNatClampNeg (((q_up r2.2 18 ((4 * (σ 3 p1.toNatClampNeg)) + (r2.2 17 (σ 3 p1.toNatClampNeg).toNatClampNeg)).toNatClampNeg p2) 17 (σ 3 p1.toNatClampNeg).toNatClampNeg) + 1)) 5 p1.toNatClampNeg) + 1)) hf H locs I ls (q_hsub hl [] rfl)
      · rw [if_pos c21] at hf
        refine lv_aload_n hx hb d_Mo_write_30 rfl (q_at hl 1 rfl) ?_
        refine lv_iload_n hx hb d_Mo_write_31 rfl (q_at hl 2 rfl) ?_
        obtain ⟨r28, e29, hf⟩ := q_bnd_some hf
        refine q_kv hA I (q_runV (C := "JobTerminalModel") (As := [.int p1]) (rest := []) ⟨hx, hb, hml, hown, hts⟩ (c_Mo_fail (sz := H.size) e29) (cwV 1 hts (q_goodV mw446 mw447 mw448 mw449 mw366) rfl rfl rfl (by decide +kernel) ⟨Nat.le_of_ble_eq_true rfl, Nat.le_of_ble_eq_true rfl⟩) NW_ok hK hN I rfl (q_wsE (by decide) (a_M_Mo)) rfl (q_sz hl) rfl (Nat.le_of_ble_eq_true rfl) d_Mo_write_32 ⟨Nat.zero_le _, Nat.zero_le _⟩) (fun H locs I => ?_)
        refine lv_goto (tgt := 155) hx hb d_Mo_write_35 (by decide) ?_
        exact k_Mo_write_155 C0 hA res r28 hf H locs I ls (q_hsub hl [] rfl)
  exact hgo _ _ I
-- JobTerminalModel plain
def f_Mo_plain_146 (σ : q_St) : Option q_St := some σ
set_option maxHeartbeats 4000000 in
set_option maxRecDepth 100000 in
theorem k_Mo_plain_146 {p : Program} {l : Launch} {e : Env} {s : State} {m : MethodId} {args : Array Value} {below : List Frame} {meth : Method} {c : Code} {D : va_G} {A : Nat → Prop} {ad : Nat → Nat} {cs : Nat → ClassId} (C0 : q_Cx "JobTerminalModel" b_Mo_plain 4 none w_Mo_plain D vwCl (tyL cs) NW p s m args meth c) (hA : ∀ q, s.heap.size ≤ q → A q) (res : q_St) : ∀ (σ : q_St) , f_Mo_plain_146 σ  = some res → ∀ (H : Heap) (locs : List Loc), q_I D vwCl A s.heap (q_ws 23 ad (cM ad cs σ)) H locs → ∀ ls : Array Slot, q_has ls 4 [] → W p l e ({ frames := 3, cells := 0, slots := 0, locals := 66 } : Room) s m args below meth c H locs 0 0 (MQ below (q_Qv D vwCl (q_ws 23 ad (cM ad cs res)) A) args s 0 0 A) (F0 m 146 ls []) := by
  intro σ  hf H locs I ls hl
  unfold f_Mo_plain_146 at hf
  obtain ⟨hx, hb, hr, hml, hown, hts, hlocks, hK, hN⟩ := id C0
  have htg : ∀ w ∈ GW, w.before args s = true := fun w h => hts w (List.mem_cons_of_mem _ h)
  cases hf
  exact q_vret hx hb hr hlocks I d_Mo_plain_146
def f_Mo_plain (σ : q_St) (p1 : Int32) (p2 : Int32) (p3 : Int32) : Option q_St := if p2 = (6 : Int32) then (q_grd (q_in p1 8) (q_bnd (f_Mo_actPending (q_up σ 9 p1.toNatClampNeg (p3 &&& 919)) p1) (fun r3 => f_Mo_plain_146 r3))) else (if p2 = (7 : Int32) then (q_grd (q_in p1 8) (q_grd (q_in p1 8) (q_grd (q_in p1 8) (q_grd (q_in p1 8) (f_Mo_plain_146 (q_up (q_up σ 10 p1.toNatClampNeg (p3 &&& 919)) 8 p1.toNatClampNeg (((q_up σ 10 p1.toNatClampNeg (p3 &&& 919)) 8 p1.toNatClampNeg) &&& (((q_up σ 10 p1.toNatClampNeg (p3 &&& 919)) 10 p1.toNatClampNeg) ^^^ (-1))))))))) else (if p2 = (8 : Int32) then (q_grd (q_in p1 8) (f_Mo_plain_146 (q_up σ 11 p1.toNatClampNeg (p3 &&& 7)))) else (if p2 = (9 : Int32) then (q_bnd (f_Mo_sendTo σ p1 (p3 &&& 15)) (fun r13 => f_Mo_plain_146 r13)) else (if p2 = (10 : Int32) then (q_grd (q_in p1 8) (f_Mo_plain_146 (q_up σ 6 p1.toNatClampNeg p3))) else (if p2 = (11 : Int32) then (q_grd (q_in p1 8) (q_grd (q_in p1 8) (f_Mo_plain_146 (q_up σ 6 p1.toNatClampNeg ((σ 6 p1.toNatClampNeg) + p3))))) else (f_Mo_plain_146 σ))))))
set_option maxHeartbeats 4000000 in
set_option maxRecDepth 100000 in
theorem c_Mo_plain {l : Launch} {D : va_G} {ad : Nat → Nat} {cs : Nat → ClassId} {sz : Nat} {σ : q_St} {p1 : Int32} {p2 : Int32} {p3 : Int32} {res : q_St} (hf : f_Mo_plain σ p1 p2 p3 = some res) : Met l y_Mo_plain w_Mo_plain ({ frames := 3, cells := 0, slots := 0, locals := 66 } : Room) (q_Pre D vwCl (tyL cs) NW [.ref (ad 0), .int p1, .int p2, .int p3] (q_ws 23 ad (cM ad cs σ)) sz) (q_Qv D vwCl (q_ws 23 ad (cM ad cs res)) (va_A (q_ws 23 ad (cM ad cs σ)) sz)) 0 0 (va_A (q_ws 23 ad (cM ad cs σ)) sz) := by
  refine Met.ofW (cc := b_Mo_plain) (maxL := 4) (ret := none) (by decide) rfl ?_
  intro p e s m args below meth c s₁ B hml hv
  obtain ⟨hargs, hsz, hP, hK, hD0, hN⟩ := hv
  have hx := B.exec
  have hb := B.bytes
  have hr := B.returns
  have hts := atoms_spec (ws := w_Mo_plain) B.pre
  have hown : s.vm.findClass "JobTerminalModel" = some m.cls := findClass_of_methodNamed B.named
  have hlocks := B.notSynchronized
  have htg : ∀ w ∈ GW, w.before args s = true := fun w h => hts w (List.mem_cons_of_mem _ h)
  subst hsz
  have hD := hD0.self (sz := s.heap.size)
  generalize hAe : va_A (q_ws 23 ad (cM ad cs σ)) s.heap.size = A at hD ⊢
  have hA : ∀ q : Nat, s.heap.size ≤ q → A q := fun q h => by rw [← hAe]; exact Or.inr h
  have I : q_I D vwCl A s.heap (q_ws 23 ad (cM ad cs σ)) s.heap [] := ⟨hP, hD, va_S.rf⟩
  obtain ⟨ls, hen, hl⟩ := q_entry (vs := [.ref (ad 0), .int p1, .int p2, .int p3]) (n := 4) (lv := [(0, .ref (ad 0)), (1, .int p1), (2, .int p2), (3, .int p3)]) (by intro v hv; simp only [List.mem_cons, List.not_mem_nil, or_false] at hv; rcases hv with rfl | rfl | rfl | rfl <;> first | rfl | exact q_cat) (Nat.le_of_ble_eq_true rfl) rfl
  rw [show entryFrame m args 4 = F0 m 0 ls [] from by rw [hargs]; exact hen m]
  have C0 : q_Cx "JobTerminalModel" b_Mo_plain 4 none w_Mo_plain D vwCl (tyL cs) NW p s m args meth c := ⟨hx, hb, hr, hml, hown, hts, hlocks, hK, hN⟩
  unfold f_Mo_plain at hf
  have hgo : ∀ (H : Heap) (locs : List Loc), q_I D vwCl A s.heap (q_ws 23 ad (cM ad cs σ)) H locs → W p l e ({ frames := 3, cells := 0, slots := 0, locals := 66 } : Room) s m args below meth c H locs 0 0 (MQ below (q_Qv D vwCl (q_ws 23 ad (cM ad cs res)) A) args s 0 0 A) (F0 m 0 ls []) := by
    intro H locs I
    refine lv_iload_n hx hb d_Mo_plain_0 rfl (q_at hl 2 rfl) ?_
    by_cases c1 : p2 = (6 : Int32)
    · rw [if_pos c1] at hf
      refine lv_tableIn (tgt := 40) hx hb d_Mo_plain_1 (by rw [c1] <;> decide) (by rw [c1] <;> decide) (by rw [c1] <;> rfl) (by decide) ?_
      refine lv_aload_n hx hb d_Mo_plain_40 rfl (q_at hl 0 rfl) ?_
      refine G_Mo_Mo_blocked hx hb htg hown hK hN I d_Mo_plain_41 ?_
      refine lv_iload_n hx hb d_Mo_plain_44 rfl (q_at hl 1 rfl) ?_
      refine lv_iload_n hx hb d_Mo_plain_45 rfl (q_at hl 3 rfl) ?_
      refine lv_sipush (v := 919) hx hb d_Mo_plain_46 (by decide) ?_
      refine lv_iand hx hb d_Mo_plain_49 ?_
      obtain ⟨o2, hf⟩ := q_grd_some hf
      refine T_M_blocked hx hb hK I o2 d_Mo_plain_50 (fun H locs I => ?_)
      refine lv_aload_n hx hb d_Mo_plain_51 rfl (q_at hl 0 rfl) ?_
      refine lv_iload_n hx hb d_Mo_plain_52 rfl (q_at hl 1 rfl) ?_
      obtain ⟨r3, e4, hf⟩ := q_bnd_some hf
      refine q_kv hA I (q_runV (C := "JobTerminalModel") (As := [.int p1]) (rest := []) ⟨hx, hb, hml, hown, hts⟩ (c_Mo_actPending (sz := H.size) e4) (cwV 1 hts (q_goodV mw374 mw375 mw376 mw377 mw366) rfl rfl rfl (by decide +kernel) ⟨Nat.le_of_ble_eq_true rfl, Nat.le_of_ble_eq_true rfl⟩) NW_ok hK hN I rfl (q_wsE (by decide) (a_M_Mo)) rfl (q_sz hl) rfl (Nat.le_of_ble_eq_true rfl) d_Mo_plain_53 ⟨Nat.zero_le _, Nat.zero_le _⟩) (fun H locs I => ?_)
      refine lv_goto (tgt := 146) hx hb d_Mo_plain_56 (by decide) ?_
      exact k_Mo_plain_146 C0 hA res r3 hf H locs I ls (q_hsub hl [] rfl)
    rw [if_neg c1] at hf
    by_cases c5 : p2 = (7 : Int32)
    · rw [if_pos c5] at hf
      refine lv_tableIn (tgt := 59) hx hb d_Mo_plain_1 (by rw [c5] <;> decide) (by rw [c5] <;> decide) (by rw [c5] <;> rfl) (by decide) ?_
      refine lv_aload_n hx hb d_Mo_plain_59 rfl (q_at hl 0 rfl) ?_
      refine G_Mo_Mo_ignored hx hb htg hown hK hN I d_Mo_plain_60 ?_
      refine lv_iload_n hx hb d_Mo_plain_63 rfl (q_at hl 1 rfl) ?_
      refine lv_iload_n hx hb d_Mo_plain_64 rfl (q_at hl 3 rfl) ?_
      refine lv_sipush (v := 919) hx hb d_Mo_plain_65 (by decide) ?_
      refine lv_iand hx hb d_Mo_plain_68 ?_
      obtain ⟨o6, hf⟩ := q_grd_some hf
      refine T_M_ignored hx hb hK I o6 d_Mo_plain_69 (fun H locs I => ?_)
      refine lv_aload_n hx hb d_Mo_plain_70 rfl (q_at hl 0 rfl) ?_
      refine G_Mo_Mo_pending hx hb htg hown hK hN I d_Mo_plain_71 ?_
      refine lv_iload_n hx hb d_Mo_plain_74 rfl (q_at hl 1 rfl) ?_
      refine lv_aload_n hx hb d_Mo_plain_75 rfl (q_at hl 0 rfl) ?_
      refine G_Mo_Mo_pending hx hb htg hown hK hN I d_Mo_plain_76 ?_
      refine lv_iload_n hx hb d_Mo_plain_79 rfl (q_at hl 1 rfl) ?_
      obtain ⟨o7, hf⟩ := q_grd_some hf
      refine A_M_pending hx hb hK I o7 d_Mo_plain_80 ?_
      refine lv_aload_n hx hb d_Mo_plain_81 rfl (q_at hl 0 rfl) ?_
      refine G_Mo_Mo_ignored hx hb htg hown hK hN I d_Mo_plain_82 ?_
      refine lv_iload_n hx hb d_Mo_plain_85 rfl (q_at hl 1 rfl) ?_
      obtain ⟨o8, hf⟩ := q_grd_some hf
      refine A_M_ignored hx hb hK I o8 d_Mo_plain_86 ?_
      refine lv_iconst (v := -1) hx hb d_Mo_plain_87 (by decide) ?_
      refine lv_ixor hx hb d_Mo_plain_88 ?_
      refine lv_iand hx hb d_Mo_plain_89 ?_
      obtain ⟨o9, hf⟩ := q_grd_some hf
      refine T_M_pending hx hb hK I o9 d_Mo_plain_90 (fun H locs I => ?_)
      refine lv_goto (tgt := 146) hx hb d_Mo_plain_91 (by decide) ?_
      exact k_Mo_plain_146 C0 hA res (q_up (q_up σ 10 p1.toNatClampNeg (p3 &&& 919)) 8 p1.toNatClampNeg (((q_up σ 10 p1.toNatClampNeg (p3 &&& 919)) 8 p1.toNatClampNeg) &&& (((q_up σ 10 p1.toNatClampNeg (p3 &&& 919)) 10 p1.toNatClampNeg) ^^^ (-1)))) hf H locs I ls (q_hsub hl [] rfl)
    rw [if_neg c5] at hf
    by_cases c10 : p2 = (8 : Int32)
    · rw [if_pos c10] at hf
      refine lv_tableIn (tgt := 94) hx hb d_Mo_plain_1 (by rw [c10] <;> decide) (by rw [c10] <;> decide) (by rw [c10] <;> rfl) (by decide) ?_
      refine lv_aload_n hx hb d_Mo_plain_94 rfl (q_at hl 0 rfl) ?_
      refine G_Mo_Mo_nap hx hb htg hown hK hN I d_Mo_plain_95 ?_
      refine lv_iload_n hx hb d_Mo_plain_98 rfl (q_at hl 1 rfl) ?_
      refine lv_iload_n hx hb d_Mo_plain_99 rfl (q_at hl 3 rfl) ?_
      refine lv_bipush (v := 7) hx hb d_Mo_plain_100 (by decide) ?_
      refine lv_iand hx hb d_Mo_plain_102 ?_
      obtain ⟨o11, hf⟩ := q_grd_some hf
      refine T_M_nap hx hb hK I o11 d_Mo_plain_103 (fun H locs I => ?_)
      refine lv_goto (tgt := 146) hx hb d_Mo_plain_104 (by decide) ?_
      exact k_Mo_plain_146 C0 hA res (q_up σ 11 p1.toNatClampNeg (p3 &&& 7)) hf H locs I ls (q_hsub hl [] rfl)
    rw [if_neg c10] at hf
    by_cases c12 : p2 = (9 : Int32)
    · rw [if_pos c12] at hf
      refine lv_tableIn (tgt := 107) hx hb d_Mo_plain_1 (by rw [c12] <;> decide) (by rw [c12] <;> decide) (by rw [c12] <;> rfl) (by decide) ?_
      refine lv_aload_n hx hb d_Mo_plain_107 rfl (q_at hl 0 rfl) ?_
      refine lv_iload_n hx hb d_Mo_plain_108 rfl (q_at hl 1 rfl) ?_
      refine lv_iload_n hx hb d_Mo_plain_109 rfl (q_at hl 3 rfl) ?_
      refine lv_bipush (v := 15) hx hb d_Mo_plain_110 (by decide) ?_
      refine lv_iand hx hb d_Mo_plain_112 ?_
      obtain ⟨r13, e14, hf⟩ := q_bnd_some hf
      refine q_kv hA I (q_runV (C := "JobTerminalModel") (As := [.int p1, .int (p3 &&& 15)]) (rest := []) ⟨hx, hb, hml, hown, hts⟩ (c_Mo_sendTo (sz := H.size) e14) (cwV 2 hts (q_goodV mw378 mw379 mw380 mw381 mw366) rfl rfl rfl (by decide +kernel) ⟨Nat.le_of_ble_eq_true rfl, Nat.le_of_ble_eq_true rfl⟩) NW_ok hK hN I rfl (q_wsE (by decide) (a_M_Mo)) rfl (q_sz hl) rfl (Nat.le_of_ble_eq_true rfl) d_Mo_plain_113 ⟨Nat.zero_le _, Nat.zero_le _⟩) (fun H locs I => ?_)
      refine lv_goto (tgt := 146) hx hb d_Mo_plain_116 (by decide) ?_
      exact k_Mo_plain_146 C0 hA res r13 hf H locs I ls (q_hsub hl [] rfl)
    rw [if_neg c12] at hf
    by_cases c15 : p2 = (10 : Int32)
    · rw [if_pos c15] at hf
      refine lv_tableIn (tgt := 119) hx hb d_Mo_plain_1 (by rw [c15] <;> decide) (by rw [c15] <;> decide) (by rw [c15] <;> rfl) (by decide) ?_
      refine lv_aload_n hx hb d_Mo_plain_119 rfl (q_at hl 0 rfl) ?_
      refine G_Mo_Mo_register hx hb htg hown hK hN I d_Mo_plain_120 ?_
      refine lv_iload_n hx hb d_Mo_plain_123 rfl (q_at hl 1 rfl) ?_
      refine lv_iload_n hx hb d_Mo_plain_124 rfl (q_at hl 3 rfl) ?_
      obtain ⟨o16, hf⟩ := q_grd_some hf
      refine T_M_register hx hb hK I o16 d_Mo_plain_125 (fun H locs I => ?_)
      refine lv_goto (tgt := 146) hx hb d_Mo_plain_126 (by decide) ?_
      exact k_Mo_plain_146 C0 hA res (q_up σ 6 p1.toNatClampNeg p3) hf H locs I ls (q_hsub hl [] rfl)
    rw [if_neg c15] at hf
    by_cases c17 : p2 = (11 : Int32)
    · rw [if_pos c17] at hf
      refine lv_tableIn (tgt := 129) hx hb d_Mo_plain_1 (by rw [c17] <;> decide) (by rw [c17] <;> decide) (by rw [c17] <;> rfl) (by decide) ?_
      refine lv_aload_n hx hb d_Mo_plain_129 rfl (q_at hl 0 rfl) ?_
      refine G_Mo_Mo_register hx hb htg hown hK hN I d_Mo_plain_130 ?_
      refine lv_iload_n hx hb d_Mo_plain_133 rfl (q_at hl 1 rfl) ?_
      refine lv_aload_n hx hb d_Mo_plain_134 rfl (q_at hl 0 rfl) ?_
      refine G_Mo_Mo_register hx hb htg hown hK hN I d_Mo_plain_135 ?_
      refine lv_iload_n hx hb d_Mo_plain_138 rfl (q_at hl 1 rfl) ?_
      obtain ⟨o18, hf⟩ := q_grd_some hf
      refine A_M_register hx hb hK I o18 d_Mo_plain_139 ?_
      refine lv_iload_n hx hb d_Mo_plain_140 rfl (q_at hl 3 rfl) ?_
      refine lv_iadd hx hb d_Mo_plain_141 ?_
      obtain ⟨o19, hf⟩ := q_grd_some hf
      refine T_M_register hx hb hK I o19 d_Mo_plain_142 (fun H locs I => ?_)
      refine lv_goto (tgt := 146) hx hb d_Mo_plain_143 (by decide) ?_
      exact k_Mo_plain_146 C0 hA res (q_up σ 6 p1.toNatClampNeg ((σ 6 p1.toNatClampNeg) + p3)) hf H locs I ls (q_hsub hl [] rfl)
    rw [if_neg c17] at hf
    refine lv_tableOut (tgt := 146) hx hb d_Mo_plain_1 (by have := lv_neT (a := 6) c1 (by decide); have := lv_neT (a := 7) c5 (by decide); have := lv_neT (a := 8) c10 (by decide); have := lv_neT (a := 9) c12 (by decide); have := lv_neT (a := 10) c15 (by decide); have := lv_neT (a := 11) c17 (by decide); omega) (by decide) ?_
    exact k_Mo_plain_146 C0 hA res σ hf H locs I ls (q_hsub hl [] rfl)
  exact hgo _ _ I
-- JobTerminalModel perform
def f_Mo_perform_133 (σ : q_St) : Option q_St := some σ
set_option maxHeartbeats 4000000 in
set_option maxRecDepth 100000 in
theorem k_Mo_perform_133 {p : Program} {l : Launch} {e : Env} {s : State} {m : MethodId} {args : Array Value} {below : List Frame} {meth : Method} {c : Code} {D : va_G} {A : Nat → Prop} {ad : Nat → Nat} {cs : Nat → ClassId} (C0 : q_Cx "JobTerminalModel" b_Mo_perform 4 none w_Mo_perform D vwCl (tyL cs) NW p s m args meth c) (hA : ∀ q, s.heap.size ≤ q → A q) (res : q_St) : ∀ (σ : q_St) , f_Mo_perform_133 σ  = some res → ∀ (H : Heap) (locs : List Loc), q_I D vwCl A s.heap (q_ws 23 ad (cM ad cs σ)) H locs → ∀ ls : Array Slot, q_has ls 4 [] → W p l e ({ frames := 5, cells := 0, slots := 0, locals := 111 } : Room) s m args below meth c H locs 0 0 (MQ below (q_Qv D vwCl (q_ws 23 ad (cM ad cs res)) A) args s 0 0 A) (F0 m 133 ls []) := by
  intro σ  hf H locs I ls hl
  unfold f_Mo_perform_133 at hf
  obtain ⟨hx, hb, hr, hml, hown, hts, hlocks, hK, hN⟩ := id C0
  have htg : ∀ w ∈ GW, w.before args s = true := fun w h => hts w (List.mem_cons_of_mem _ h)
  cases hf
  exact q_vret hx hb hr hlocks I d_Mo_perform_133
def f_Mo_perform_116 (σ : q_St) (x1 : Int32) (x2 : Int32) (x3 : Int32) : Option q_St := q_grd (q_in x1 8) (q_grd (q_in x1 8) (q_bnd (f_Mo_plain (q_up σ 5 x1.toNatClampNeg ((σ 5 x1.toNatClampNeg) + 1)) x1 x3 x2) (fun r24 => f_Mo_perform_133 r24)))
set_option maxHeartbeats 4000000 in
set_option maxRecDepth 100000 in
theorem k_Mo_perform_116 {p : Program} {l : Launch} {e : Env} {s : State} {m : MethodId} {args : Array Value} {below : List Frame} {meth : Method} {c : Code} {D : va_G} {A : Nat → Prop} {ad : Nat → Nat} {cs : Nat → ClassId} (C0 : q_Cx "JobTerminalModel" b_Mo_perform 4 none w_Mo_perform D vwCl (tyL cs) NW p s m args meth c) (hA : ∀ q, s.heap.size ≤ q → A q) (res : q_St) : ∀ (σ : q_St) (x1 : Int32) (x2 : Int32) (x3 : Int32) , f_Mo_perform_116 σ x1 x2 x3 = some res → ∀ (H : Heap) (locs : List Loc), q_I D vwCl A s.heap (q_ws 23 ad (cM ad cs σ)) H locs → ∀ ls : Array Slot, q_has ls 4 [(0, .ref (ad 0)), (1, .int x1), (2, .int x2), (3, .int x3)] → W p l e ({ frames := 5, cells := 0, slots := 0, locals := 111 } : Room) s m args below meth c H locs 0 0 (MQ below (q_Qv D vwCl (q_ws 23 ad (cM ad cs res)) A) args s 0 0 A) (F0 m 116 ls []) := by
  intro σ x1 x2 x3 hf H locs I ls hl
  unfold f_Mo_perform_116 at hf
  obtain ⟨hx, hb, hr, hml, hown, hts, hlocks, hK, hN⟩ := id C0
  have htg : ∀ w ∈ GW, w.before args s = true := fun w h => hts w (List.mem_cons_of_mem _ h)
  refine lv_aload_n hx hb d_Mo_perform_116 rfl (q_at hl 0 rfl) ?_
  refine G_Mo_Mo_line hx hb htg hown hK hN I d_Mo_perform_117 ?_
  refine lv_iload_n hx hb d_Mo_perform_120 rfl (q_at hl 1 rfl) ?_
  refine lv_dup2_11 hx hb d_Mo_perform_121 rfl rfl ?_
  obtain ⟨o22, hf⟩ := q_grd_some hf
  refine A_M_line hx hb hK I o22 d_Mo_perform_122 ?_
  refine lv_iconst (v := 1) hx hb d_Mo_perform_123 (by decide) ?_
  refine lv_iadd hx hb d_Mo_perform_124 ?_
  obtain ⟨o23, hf⟩ := q_grd_some hf
  refine T_M_line hx hb hK I o23 d_Mo_perform_125 (fun H locs I => ?_)
  refine lv_aload_n hx hb d_Mo_perform_126 rfl (q_at hl 0 rfl) ?_
  refine lv_iload_n hx hb d_Mo_perform_127 rfl (q_at hl 1 rfl) ?_
  refine lv_iload_n hx hb d_Mo_perform_128 rfl (q_at hl 3 rfl) ?_
  refine lv_iload_n hx hb d_Mo_perform_129 rfl (q_at hl 2 rfl) ?_
  obtain ⟨r24, e25, hf⟩ := q_bnd_some hf
  refine q_kv hA I (q_runV (C := "JobTerminalModel") (As := [.int x1, .int x3, .int x2]) (rest := []) ⟨hx, hb, hml, hown, hts⟩ (c_Mo_plain (sz := H.size) e25) (cwV 3 hts (q_goodV mw462 mw463 mw464 mw465 mw366) rfl rfl rfl (by decide +kernel) ⟨Nat.le_of_ble_eq_true rfl, Nat.le_of_ble_eq_true rfl⟩) NW_ok hK hN I rfl (q_wsE (by decide) (a_M_Mo)) rfl (q_sz hl) rfl (Nat.le_of_ble_eq_true rfl) d_Mo_perform_130 ⟨Nat.zero_le _, Nat.zero_le _⟩) (fun H locs I => ?_)
  exact k_Mo_perform_133 C0 hA res r24 hf H locs I ls (q_hsub hl [] rfl)
def f_Mo_perform_103 (σ : q_St) (x1 : Int32) (x2 : Int32) : Option q_St := q_grd (q_in x1 8) (f_Mo_perform_133 (q_up σ 5 x1.toNatClampNeg (x2 &&& 15)))
set_option maxHeartbeats 4000000 in
set_option maxRecDepth 100000 in
theorem k_Mo_perform_103 {p : Program} {l : Launch} {e : Env} {s : State} {m : MethodId} {args : Array Value} {below : List Frame} {meth : Method} {c : Code} {D : va_G} {A : Nat → Prop} {ad : Nat → Nat} {cs : Nat → ClassId} (C0 : q_Cx "JobTerminalModel" b_Mo_perform 4 none w_Mo_perform D vwCl (tyL cs) NW p s m args meth c) (hA : ∀ q, s.heap.size ≤ q → A q) (res : q_St) : ∀ (σ : q_St) (x1 : Int32) (x2 : Int32) , f_Mo_perform_103 σ x1 x2 = some res → ∀ (H : Heap) (locs : List Loc), q_I D vwCl A s.heap (q_ws 23 ad (cM ad cs σ)) H locs → ∀ ls : Array Slot, q_has ls 4 [(0, .ref (ad 0)), (1, .int x1), (2, .int x2)] → W p l e ({ frames := 5, cells := 0, slots := 0, locals := 111 } : Room) s m args below meth c H locs 0 0 (MQ below (q_Qv D vwCl (q_ws 23 ad (cM ad cs res)) A) args s 0 0 A) (F0 m 103 ls []) := by
  intro σ x1 x2 hf H locs I ls hl
  unfold f_Mo_perform_103 at hf
  obtain ⟨hx, hb, hr, hml, hown, hts, hlocks, hK, hN⟩ := id C0
  have htg : ∀ w ∈ GW, w.before args s = true := fun w h => hts w (List.mem_cons_of_mem _ h)
  refine lv_aload_n hx hb d_Mo_perform_103 rfl (q_at hl 0 rfl) ?_
  refine G_Mo_Mo_line hx hb htg hown hK hN I d_Mo_perform_104 ?_
  refine lv_iload_n hx hb d_Mo_perform_107 rfl (q_at hl 1 rfl) ?_
  refine lv_iload_n hx hb d_Mo_perform_108 rfl (q_at hl 2 rfl) ?_
  refine lv_bipush (v := 15) hx hb d_Mo_perform_109 (by decide) ?_
  refine lv_iand hx hb d_Mo_perform_111 ?_
  obtain ⟨o26, hf⟩ := q_grd_some hf
  refine T_M_line hx hb hK I o26 d_Mo_perform_112 (fun H locs I => ?_)
  refine lv_goto (tgt := 133) hx hb d_Mo_perform_113 (by decide) ?_
  exact k_Mo_perform_133 C0 hA res (q_up σ 5 x1.toNatClampNeg (x2 &&& 15)) hf H locs I ls (q_hsub hl [] rfl)
def f_Mo_perform_50 (σ : q_St) (y0 : Int32) (y1 : Int32) : Option q_St := q_bnd (f_Mo_write σ y1 (y0 &&& 127)) (fun r20 => f_Mo_perform_133 r20)
set_option maxHeartbeats 4000000 in
set_option maxRecDepth 100000 in
theorem k_Mo_perform_50 {p : Program} {l : Launch} {e : Env} {s : State} {m : MethodId} {args : Array Value} {below : List Frame} {meth : Method} {c : Code} {D : va_G} {A : Nat → Prop} {ad : Nat → Nat} {cs : Nat → ClassId} (C0 : q_Cx "JobTerminalModel" b_Mo_perform 4 none w_Mo_perform D vwCl (tyL cs) NW p s m args meth c) (hA : ∀ q, s.heap.size ≤ q → A q) (res : q_St) : ∀ (σ : q_St) (y0 : Int32) (y1 : Int32) , f_Mo_perform_50 σ y0 y1 = some res → ∀ (H : Heap) (locs : List Loc), q_I D vwCl A s.heap (q_ws 23 ad (cM ad cs σ)) H locs → ∀ ls : Array Slot, q_has ls 4 [] → W p l e ({ frames := 5, cells := 0, slots := 0, locals := 111 } : Room) s m args below meth c H locs 0 0 (MQ below (q_Qv D vwCl (q_ws 23 ad (cM ad cs res)) A) args s 0 0 A) (F0 m 50 ls [.int y0, .int y1, .ref (ad 0)]) := by
  intro σ y0 y1 hf H locs I ls hl
  unfold f_Mo_perform_50 at hf
  obtain ⟨hx, hb, hr, hml, hown, hts, hlocks, hK, hN⟩ := id C0
  have htg : ∀ w ∈ GW, w.before args s = true := fun w h => hts w (List.mem_cons_of_mem _ h)
  refine lv_bipush (v := 127) hx hb d_Mo_perform_50 (by decide) ?_
  refine lv_iand hx hb d_Mo_perform_52 ?_
  obtain ⟨r20, e21, hf⟩ := q_bnd_some hf
  refine q_kv hA I (q_runV (C := "JobTerminalModel") (As := [.int y1, .int (y0 &&& 127)]) (rest := []) ⟨hx, hb, hml, hown, hts⟩ (c_Mo_write (sz := H.size) e21) (cwV 2 hts (q_goodV mw458 mw459 mw460 mw461 mw366) rfl rfl rfl (by decide +kernel) ⟨Nat.le_of_ble_eq_true rfl, Nat.le_of_ble_eq_true rfl⟩) NW_ok hK hN I rfl (q_wsE (by decide) (a_M_Mo)) rfl (q_sz hl) rfl (Nat.le_of_ble_eq_true rfl) d_Mo_perform_53 ⟨Nat.zero_le _, Nat.zero_le _⟩) (fun H locs I => ?_)
  refine lv_goto (tgt := 133) hx hb d_Mo_perform_56 (by decide) ?_
  exact k_Mo_perform_133 C0 hA res r20 hf H locs I ls (q_hsub hl [] rfl)
def f_Mo_perform (σ : q_St) (p1 : Int32) : Option q_St := q_bnd (f_Mo_numberOf σ p1) (fun r1 => q_bnd (f_Mo_opOf r1.2 p1) (fun r3 => if r3.1 = 2 then (q_bnd (f_Mo_read r3.2 p1) (fun r18 => f_Mo_perform_133 r18)) else (q_bnd (f_Mo_writes r3.2 p1) (fun r6 => if r6.1 = 0 then (if r3.1 = 0 then (q_grd (q_in p1 8) (q_grd (q_in p1 8) (f_Mo_perform_133 (q_up (q_up r6.2 2 p1.toNatClampNeg 3) 7 p1.toNatClampNeg (r1.1 &&& 255))))) else (if r3.1 = 4 then (f_Mo_perform_103 r6.2 p1 r1.1) else (if r3.1 = 5 then (q_grd (q_in p1 8) (if 0 ≤ (r6.2 6 p1.toNatClampNeg) then (f_Mo_perform_116 r6.2 p1 r1.1 r3.1) else (f_Mo_perform_103 r6.2 p1 r1.1))) else (f_Mo_perform_116 r6.2 p1 r1.1 r3.1)))) else (if r3.1 = 1 then (f_Mo_perform_50 r6.2 r1.1 p1) else (q_grd (q_in p1 8) (f_Mo_perform_50 r6.2 (r6.2 6 p1.toNatClampNeg) p1)))))))
set_option maxHeartbeats 4000000 in
set_option maxRecDepth 100000 in
theorem c_Mo_perform {l : Launch} {D : va_G} {ad : Nat → Nat} {cs : Nat → ClassId} {sz : Nat} {σ : q_St} {p1 : Int32} {res : q_St} (hf : f_Mo_perform σ p1 = some res) : Met l y_Mo_perform w_Mo_perform ({ frames := 5, cells := 0, slots := 0, locals := 111 } : Room) (q_Pre D vwCl (tyL cs) NW [.ref (ad 0), .int p1] (q_ws 23 ad (cM ad cs σ)) sz) (q_Qv D vwCl (q_ws 23 ad (cM ad cs res)) (va_A (q_ws 23 ad (cM ad cs σ)) sz)) 0 0 (va_A (q_ws 23 ad (cM ad cs σ)) sz) := by
  refine Met.ofW (cc := b_Mo_perform) (maxL := 4) (ret := none) (by decide) rfl ?_
  intro p e s m args below meth c s₁ B hml hv
  obtain ⟨hargs, hsz, hP, hK, hD0, hN⟩ := hv
  have hx := B.exec
  have hb := B.bytes
  have hr := B.returns
  have hts := atoms_spec (ws := w_Mo_perform) B.pre
  have hown : s.vm.findClass "JobTerminalModel" = some m.cls := findClass_of_methodNamed B.named
  have hlocks := B.notSynchronized
  have htg : ∀ w ∈ GW, w.before args s = true := fun w h => hts w (List.mem_cons_of_mem _ h)
  subst hsz
  have hD := hD0.self (sz := s.heap.size)
  generalize hAe : va_A (q_ws 23 ad (cM ad cs σ)) s.heap.size = A at hD ⊢
  have hA : ∀ q : Nat, s.heap.size ≤ q → A q := fun q h => by rw [← hAe]; exact Or.inr h
  have I : q_I D vwCl A s.heap (q_ws 23 ad (cM ad cs σ)) s.heap [] := ⟨hP, hD, va_S.rf⟩
  obtain ⟨ls, hen, hl⟩ := q_entry (vs := [.ref (ad 0), .int p1]) (n := 4) (lv := [(0, .ref (ad 0)), (1, .int p1)]) (by intro v hv; simp only [List.mem_cons, List.not_mem_nil, or_false] at hv; rcases hv with rfl | rfl <;> first | rfl | exact q_cat) (Nat.le_of_ble_eq_true rfl) rfl
  rw [show entryFrame m args 4 = F0 m 0 ls [] from by rw [hargs]; exact hen m]
  have C0 : q_Cx "JobTerminalModel" b_Mo_perform 4 none w_Mo_perform D vwCl (tyL cs) NW p s m args meth c := ⟨hx, hb, hr, hml, hown, hts, hlocks, hK, hN⟩
  unfold f_Mo_perform at hf
  have hgo : ∀ (H : Heap) (locs : List Loc), q_I D vwCl A s.heap (q_ws 23 ad (cM ad cs σ)) H locs → W p l e ({ frames := 5, cells := 0, slots := 0, locals := 111 } : Room) s m args below meth c H locs 0 0 (MQ below (q_Qv D vwCl (q_ws 23 ad (cM ad cs res)) A) args s 0 0 A) (F0 m 0 ls []) := by
    intro H locs I
    refine lv_aload_n hx hb d_Mo_perform_0 rfl (q_at hl 0 rfl) ?_
    refine lv_iload_n hx hb d_Mo_perform_1 rfl (q_at hl 1 rfl) ?_
    obtain ⟨r1, e2, hf⟩ := q_bnd_some hf
    refine q_ki hA I (q_runV (C := "JobTerminalModel") (As := [.int p1]) (rest := []) ⟨hx, hb, hml, hown, hts⟩ (c_Mo_numberOf (sz := H.size) e2) (cwV 1 hts (q_goodV mw450 mw451 mw452 mw453 mw366) rfl rfl rfl (by decide +kernel) ⟨Nat.le_of_ble_eq_true rfl, Nat.le_of_ble_eq_true rfl⟩) NW_ok hK hN I rfl (q_wsE (by decide) (a_M_Mo)) rfl (q_sz hl) rfl (Nat.le_of_ble_eq_true rfl) d_Mo_perform_2 ⟨Nat.zero_le _, Nat.zero_le _⟩) (fun H locs I => ?_)
    refine q_istore_n (lv' := [(2, .int r1.1), (0, .ref (ad 0)), (1, .int p1)]) hx hb d_Mo_perform_5 rfl hl (by decide) rfl (fun ls hl => ?_)
    refine lv_aload_n hx hb d_Mo_perform_6 rfl (q_at hl 1 rfl) ?_
    refine lv_iload_n hx hb d_Mo_perform_7 rfl (q_at hl 2 rfl) ?_
    obtain ⟨r3, e4, hf⟩ := q_bnd_some hf
    refine q_ki hA I (q_runV (C := "JobTerminalModel") (As := [.int p1]) (rest := []) ⟨hx, hb, hml, hown, hts⟩ (c_Mo_opOf (sz := H.size) e4) (cwV 1 hts (q_goodV mw430 mw431 mw432 mw433 mw366) rfl rfl rfl (by decide +kernel) ⟨Nat.le_of_ble_eq_true rfl, Nat.le_of_ble_eq_true rfl⟩) NW_ok hK hN I rfl (q_wsE (by decide) (a_M_Mo)) rfl (q_sz hl) rfl (Nat.le_of_ble_eq_true rfl) d_Mo_perform_8 ⟨Nat.zero_le _, Nat.zero_le _⟩) (fun H locs I => ?_)
    refine q_istore_n (lv' := [(3, .int r3.1), (2, .int r1.1), (0, .ref (ad 0)), (1, .int p1)]) hx hb d_Mo_perform_11 rfl hl (by decide) rfl (fun ls hl => ?_)
    refine lv_iload_n hx hb d_Mo_perform_12 rfl (q_at hl 0 rfl) ?_
    refine lv_iconst (v := 2) hx hb d_Mo_perform_13 (by decide) ?_
    refine lv_icmp_ne (tgt := 25) hx hb d_Mo_perform_14 (by decide) (fun c5 => ?_) (fun c5 => ?_)
    · rw [if_neg c5] at hf
      refine lv_aload_n hx hb d_Mo_perform_25 rfl (q_at hl 2 rfl) ?_
      refine lv_iload_n hx hb d_Mo_perform_26 rfl (q_at hl 3 rfl) ?_
      obtain ⟨r6, e7, hf⟩ := q_bnd_some hf
      refine q_ki hA I (q_runV (C := "JobTerminalModel") (As := [.int p1]) (rest := []) ⟨hx, hb, hml, hown, hts⟩ (c_Mo_writes (sz := H.size) e7) (cwV 1 hts (q_goodV mw434 mw435 mw436 mw437 mw366) rfl rfl rfl (by decide +kernel) ⟨Nat.le_of_ble_eq_true rfl, Nat.le_of_ble_eq_true rfl⟩) NW_ok hK hN I rfl (q_wsE (by decide) (a_M_Mo)) rfl (q_sz hl) rfl (Nat.le_of_ble_eq_true rfl) d_Mo_perform_27 ⟨Nat.zero_le _, Nat.zero_le _⟩) (fun H locs I => ?_)
      refine lv_if_eq (tgt := 59) hx hb d_Mo_perform_30 (by decide) (fun c8 => ?_) (fun c8 => ?_)
      · rw [if_pos c8] at hf
        refine lv_iload_n hx hb d_Mo_perform_59 rfl (q_at hl 0 rfl) ?_
        refine lv_if_ne (tgt := 84) hx hb d_Mo_perform_60 (by decide) (fun c9 => ?_) (fun c9 => ?_)
        · rw [if_neg c9] at hf
          refine lv_iload_n hx hb d_Mo_perform_84 rfl (q_at hl 0 rfl) ?_
          refine lv_iconst (v := 4) hx hb d_Mo_perform_85 (by decide) ?_
          refine lv_icmp_eq (tgt := 103) hx hb d_Mo_perform_86 (by decide) (fun c10 => ?_) (fun c10 => ?_)
          · rw [if_pos c10] at hf
            exact k_Mo_perform_103 C0 hA res r6.2 p1 r1.1 hf H locs I ls (q_hsub hl [2, 3, 1] rfl)
          · rw [if_neg c10] at hf
            refine lv_iload_n hx hb d_Mo_perform_89 rfl (q_at hl 0 rfl) ?_
            refine lv_iconst (v := 5) hx hb d_Mo_perform_90 (by decide) ?_
            refine lv_icmp_ne (tgt := 116) hx hb d_Mo_perform_91 (by decide) (fun c11 => ?_) (fun c11 => ?_)
            · rw [if_neg c11] at hf
              exact k_Mo_perform_116 C0 hA res r6.2 p1 r1.1 r3.1 hf H locs I ls (q_hsub hl [2, 3, 1, 0] rfl)
            · rw [if_pos c11] at hf
              refine lv_aload_n hx hb d_Mo_perform_94 rfl (q_at hl 2 rfl) ?_
              refine G_Mo_Mo_register hx hb htg hown hK hN I d_Mo_perform_95 ?_
              refine lv_iload_n hx hb d_Mo_perform_98 rfl (q_at hl 3 rfl) ?_
              obtain ⟨o12, hf⟩ := q_grd_some hf
              refine A_M_register hx hb hK I o12 d_Mo_perform_99 ?_
              refine lv_if_ge (tgt := 116) hx hb d_Mo_perform_100 (by decide) (fun c13 => ?_) (fun c13 => ?_)
              · rw [if_pos c13] at hf
                exact k_Mo_perform_116 C0 hA res r6.2 p1 r1.1 r3.1 hf H locs I ls (q_hsub hl [2, 3, 1, 0] rfl)
              · rw [if_neg c13] at hf
                exact k_Mo_perform_103 C0 hA res r6.2 p1 r1.1 hf H locs I ls (q_hsub hl [2, 3, 1] rfl)
        · rw [if_pos c9] at hf
          refine lv_aload_n hx hb d_Mo_perform_63 rfl (q_at hl 2 rfl) ?_
          refine G_Mo_Mo_state hx hb htg hown hK hN I d_Mo_perform_64 ?_
          refine lv_iload_n hx hb d_Mo_perform_67 rfl (q_at hl 3 rfl) ?_
          refine lv_iconst (v := 3) hx hb d_Mo_perform_68 (by decide) ?_
          obtain ⟨o14, hf⟩ := q_grd_some hf
          refine T_M_state hx hb hK I o14 d_Mo_perform_69 (fun H locs I => ?_)
          refine lv_aload_n hx hb d_Mo_perform_70 rfl (q_at hl 2 rfl) ?_
          refine G_Mo_Mo_ends hx hb htg hown hK hN I d_Mo_perform_71 ?_
          refine lv_iload_n hx hb d_Mo_perform_74 rfl (q_at hl 3 rfl) ?_
          refine lv_iload_n hx hb d_Mo_perform_75 rfl (q_at hl 1 rfl) ?_
          refine lv_sipush (v := 255) hx hb d_Mo_perform_76 (by decide) ?_
          refine lv_iand hx hb d_Mo_perform_79 ?_
          obtain ⟨o15, hf⟩ := q_grd_some hf
          refine T_M_ends hx hb hK I o15 d_Mo_perform_80 (fun H locs I => ?_)
          refine lv_goto (tgt := 133) hx hb d_Mo_perform_81 (by decide) ?_
          exact k_Mo_perform_133 C0 hA res (q_up (q_up r6.2 2 p1.toNatClampNeg 3) 7 p1.toNatClampNeg (r1.1 &&& 255)) hf H locs I ls (q_hsub hl [] rfl)
      · rw [if_neg c8] at hf
        refine lv_aload_n hx hb d_Mo_perform_33 rfl (q_at hl 2 rfl) ?_
        refine lv_iload_n hx hb d_Mo_perform_34 rfl (q_at hl 3 rfl) ?_
        refine lv_iload_n hx hb d_Mo_perform_35 rfl (q_at hl 0 rfl) ?_
        refine lv_iconst (v := 1) hx hb d_Mo_perform_36 (by decide) ?_
        refine lv_icmp_ne (tgt := 44) hx hb d_Mo_perform_37 (by decide) (fun c16 => ?_) (fun c16 => ?_)
        · rw [if_neg c16] at hf
          refine lv_aload_n hx hb d_Mo_perform_44 rfl (q_at hl 2 rfl) ?_
          refine G_Mo_Mo_register hx hb htg hown hK hN I d_Mo_perform_45 ?_
          refine lv_iload_n hx hb d_Mo_perform_48 rfl (q_at hl 3 rfl) ?_
          obtain ⟨o17, hf⟩ := q_grd_some hf
          refine A_M_register hx hb hK I o17 d_Mo_perform_49 ?_
          exact k_Mo_perform_50 C0 hA res r6.2 (r6.2 6 p1.toNatClampNeg) p1 hf H locs I ls (q_hsub hl [] rfl)
        · rw [if_pos c16] at hf
          refine lv_iload_n hx hb d_Mo_perform_40 rfl (q_at hl 1 rfl) ?_
          refine lv_goto (tgt := 50) hx hb d_Mo_perform_41 (by decide) ?_
          exact k_Mo_perform_50 C0 hA res r6.2 r1.1 p1 hf H locs I ls (q_hsub hl [] rfl)
    · rw [if_pos c5] at hf
      refine lv_aload_n hx hb d_Mo_perform_17 rfl (q_at hl 2 rfl) ?_
      refine lv_iload_n hx hb d_Mo_perform_18 rfl (q_at hl 3 rfl) ?_
      obtain ⟨r18, e19, hf⟩ := q_bnd_some hf
      refine q_kv hA I (q_runV (C := "JobTerminalModel") (As := [.int p1]) (rest := []) ⟨hx, hb, hml, hown, hts⟩ (c_Mo_read (sz := H.size) e19) (cwV 1 hts (q_goodV mw454 mw455 mw456 mw457 mw366) rfl rfl rfl (by decide +kernel) ⟨Nat.le_of_ble_eq_true rfl, Nat.le_of_ble_eq_true rfl⟩) NW_ok hK hN I rfl (q_wsE (by decide) (a_M_Mo)) rfl (q_sz hl) rfl (Nat.le_of_ble_eq_true rfl) d_Mo_perform_19 ⟨Nat.zero_le _, Nat.zero_le _⟩) (fun H locs I => ?_)
      refine lv_goto (tgt := 133) hx hb d_Mo_perform_22 (by decide) ?_
      exact k_Mo_perform_133 C0 hA res r18 hf H locs I ls (q_hsub hl [] rfl)
  exact hgo _ _ I
-- JobTerminalModel step
def f_Mo_step_127 (σ : q_St) (x2 : Int32) : Option (Int32 × q_St) := some (x2, σ)
set_option maxHeartbeats 4000000 in
set_option maxRecDepth 100000 in
theorem k_Mo_step_127 {p : Program} {l : Launch} {e : Env} {s : State} {m : MethodId} {args : Array Value} {below : List Frame} {meth : Method} {c : Code} {D : va_G} {A : Nat → Prop} {ad : Nat → Nat} {cs : Nat → ClassId} (C0 : q_Cx "JobTerminalModel" b_Mo_step 6 (some .int) w_Mo_step D vwCl (tyL cs) NW p s m args meth c) (hA : ∀ q, s.heap.size ≤ q → A q) (res : (Int32 × q_St)) : ∀ (σ : q_St) (x2 : Int32) , f_Mo_step_127 σ x2 = some res → ∀ (H : Heap) (locs : List Loc), q_I D vwCl A s.heap (q_ws 23 ad (cM ad cs σ)) H locs → ∀ ls : Array Slot, q_has ls 6 [(2, .int x2)] → W p l e ({ frames := 6, cells := 0, slots := 0, locals := 134 } : Room) s m args below meth c H locs 0 0 (MQ below (q_Qi D vwCl res.1 (q_ws 23 ad (cM ad cs res.2)) A) args s 0 0 A) (F0 m 127 ls []) := by
  intro σ x2 hf H locs I ls hl
  unfold f_Mo_step_127 at hf
  obtain ⟨hx, hb, hr, hml, hown, hts, hlocks, hK, hN⟩ := id C0
  have htg : ∀ w ∈ GW, w.before args s = true := fun w h => hts w (List.mem_cons_of_mem _ h)
  refine lv_iload_n hx hb d_Mo_step_127 rfl (q_at hl 0 rfl) ?_
  cases hf
  exact q_iret hx hb hr hlocks I d_Mo_step_128
def f_Mo_step_124 (K27 : q_St → Int32 → Int32 → Int32 → Option (Int32 × q_St)) (σ : q_St) (x1 : Int32) (x2 : Int32) (x3 : Int32) : Option (Int32 × q_St) := K27 σ x1 x2 x3
set_option maxHeartbeats 4000000 in
set_option maxRecDepth 100000 in
theorem k_Mo_step_124 {p : Program} {l : Launch} {e : Env} {s : State} {m : MethodId} {args : Array Value} {below : List Frame} {meth : Method} {c : Code} {D : va_G} {A : Nat → Prop} {ad : Nat → Nat} {cs : Nat → ClassId} (C0 : q_Cx "JobTerminalModel" b_Mo_step 6 (some .int) w_Mo_step D vwCl (tyL cs) NW p s m args meth c) (hA : ∀ q, s.heap.size ≤ q → A q) (res : (Int32 × q_St)) {K27 : q_St → Int32 → Int32 → Int32 → Option (Int32 × q_St)} (hk27 : ∀ (σ : q_St) (x1 : Int32) (x2 : Int32) (x3 : Int32) , K27 σ x1 x2 x3 = some res → ∀ (H : Heap) (locs : List Loc), q_I D vwCl A s.heap (q_ws 23 ad (cM ad cs σ)) H locs → ∀ ls : Array Slot, q_has ls 6 [(0, .ref (ad 0)), (1, .int x1), (2, .int x2), (3, .int x3)] → W p l e ({ frames := 6, cells := 0, slots := 0, locals := 134 } : Room) s m args below meth c H locs 0 0 (MQ below (q_Qi D vwCl res.1 (q_ws 23 ad (cM ad cs res.2)) A) args s 0 0 A) (F0 m 27 ls [])) : ∀ (σ : q_St) (x1 : Int32) (x2 : Int32) (x3 : Int32) , f_Mo_step_124 K27 σ x1 x2 x3 = some res → ∀ (H : Heap) (locs : List Loc), q_I D vwCl A s.heap (q_ws 23 ad (cM ad cs σ)) H locs → ∀ ls : Array Slot, q_has ls 6 [(0, .ref (ad 0)), (1, .int x1), (2, .int x2), (3, .int x3)] → W p l e ({ frames := 6, cells := 0, slots := 0, locals := 134 } : Room) s m args below meth c H locs 0 0 (MQ below (q_Qi D vwCl res.1 (q_ws 23 ad (cM ad cs res.2)) A) args s 0 0 A) (F0 m 124 ls []) := by
  intro σ x1 x2 x3 hf H locs I ls hl
  unfold f_Mo_step_124 at hf
  obtain ⟨hx, hb, hr, hml, hown, hts, hlocks, hK, hN⟩ := id C0
  have htg : ∀ w ∈ GW, w.before args s = true := fun w h => hts w (List.mem_cons_of_mem _ h)
  refine lv_goto (tgt := 27) hx hb d_Mo_step_124 (by decide) ?_
  exact hk27 σ x1 x2 x3 hf H locs I ls (q_hsub hl [0, 1, 2, 3] rfl)
def f_Mo_step_95 (K27 : q_St → Int32 → Int32 → Int32 → Option (Int32 × q_St)) (σ : q_St) (x1 : Int32) (x2 : Int32) (x4 : Int32) (y0 : Int32) : Option (Int32 × q_St) := if y0 = 0 then (f_Mo_step_124 K27 σ x1 x2 y0) else (q_bnd (f_Mo_perform (q_up σ 40 0 ((x4 + 1) - (x4 + 1) / 8 * 8)) x4) (fun r12 => q_bnd (f_Mo_compare r12) (fun r14 => f_Mo_step_124 K27 r14 x1 (x2 + 1) y0)))
set_option maxHeartbeats 4000000 in
set_option maxRecDepth 100000 in
theorem k_Mo_step_95 {p : Program} {l : Launch} {e : Env} {s : State} {m : MethodId} {args : Array Value} {below : List Frame} {meth : Method} {c : Code} {D : va_G} {A : Nat → Prop} {ad : Nat → Nat} {cs : Nat → ClassId} (C0 : q_Cx "JobTerminalModel" b_Mo_step 6 (some .int) w_Mo_step D vwCl (tyL cs) NW p s m args meth c) (hA : ∀ q, s.heap.size ≤ q → A q) (res : (Int32 × q_St)) {K27 : q_St → Int32 → Int32 → Int32 → Option (Int32 × q_St)} (hk27 : ∀ (σ : q_St) (x1 : Int32) (x2 : Int32) (x3 : Int32) , K27 σ x1 x2 x3 = some res → ∀ (H : Heap) (locs : List Loc), q_I D vwCl A s.heap (q_ws 23 ad (cM ad cs σ)) H locs → ∀ ls : Array Slot, q_has ls 6 [(0, .ref (ad 0)), (1, .int x1), (2, .int x2), (3, .int x3)] → W p l e ({ frames := 6, cells := 0, slots := 0, locals := 134 } : Room) s m args below meth c H locs 0 0 (MQ below (q_Qi D vwCl res.1 (q_ws 23 ad (cM ad cs res.2)) A) args s 0 0 A) (F0 m 27 ls [])) : ∀ (σ : q_St) (x1 : Int32) (x2 : Int32) (x4 : Int32) (y0 : Int32) , f_Mo_step_95 K27 σ x1 x2 x4 y0 = some res → ∀ (H : Heap) (locs : List Loc), q_I D vwCl A s.heap (q_ws 23 ad (cM ad cs σ)) H locs → ∀ ls : Array Slot, q_has ls 6 [(0, .ref (ad 0)), (1, .int x1), (2, .int x2), (4, .int x4)] → W p l e ({ frames := 6, cells := 0, slots := 0, locals := 134 } : Room) s m args below meth c H locs 0 0 (MQ below (q_Qi D vwCl res.1 (q_ws 23 ad (cM ad cs res.2)) A) args s 0 0 A) (F0 m 95 ls [.int y0]) := by
  intro σ x1 x2 x4 y0 hf H locs I ls hl
  unfold f_Mo_step_95 at hf
  obtain ⟨hx, hb, hr, hml, hown, hts, hlocks, hK, hN⟩ := id C0
  have htg : ∀ w ∈ GW, w.before args s = true := fun w h => hts w (List.mem_cons_of_mem _ h)
  refine q_istore_n (lv' := [(3, .int y0), (0, .ref (ad 0)), (1, .int x1), (2, .int x2), (4, .int x4)]) hx hb d_Mo_step_95 rfl hl (by decide) rfl (fun ls hl => ?_)
  refine lv_iload_n hx hb d_Mo_step_96 rfl (q_at hl 0 rfl) ?_
  refine lv_if_eq (tgt := 124) hx hb d_Mo_step_97 (by decide) (fun c11 => ?_) (fun c11 => ?_)
  · rw [if_pos c11] at hf
    exact k_Mo_step_124 C0 hA res (K27 := K27) hk27 σ x1 x2 y0 hf H locs I ls (q_hsub hl [1, 2, 3, 0] rfl)
  · rw [if_neg c11] at hf
    refine lv_aload_n hx hb d_Mo_step_100 rfl (q_at hl 1 rfl) ?_
    refine lv_iload hx hb d_Mo_step_101 (q_at hl 4 rfl) ?_
    refine lv_iconst (v := 1) hx hb d_Mo_step_103 (by decide) ?_
    refine lv_iadd hx hb d_Mo_step_104 ?_
    refine lv_bipush (v := 8) hx hb d_Mo_step_105 (by decide) ?_
    refine lv_irem hx hb d_Mo_step_107 (by decide) ?_
    refine P_Mo_Mo_turn hx hb htg hown hK hN I d_Mo_step_108 (fun H locs I => ?_)
    refine lv_aload_n hx hb d_Mo_step_111 rfl (q_at hl 1 rfl) ?_
    refine lv_iload hx hb d_Mo_step_112 (q_at hl 4 rfl) ?_
    obtain ⟨r12, e13, hf⟩ := q_bnd_some hf
    refine q_kv hA I (q_runV (C := "JobTerminalModel") (As := [.int x4]) (rest := []) ⟨hx, hb, hml, hown, hts⟩ (c_Mo_perform (sz := H.size) e13) (cwV 1 hts (q_goodV mw470 mw471 mw472 mw473 mw366) rfl rfl rfl (by decide +kernel) ⟨Nat.le_of_ble_eq_true rfl, Nat.le_of_ble_eq_true rfl⟩) NW_ok hK hN I rfl (q_wsE (by decide) (a_M_Mo)) rfl (q_sz hl) rfl (Nat.le_of_ble_eq_true rfl) d_Mo_step_114 ⟨Nat.zero_le _, Nat.zero_le _⟩) (fun H locs I => ?_)
    refine lv_aload_n hx hb d_Mo_step_117 rfl (q_at hl 1 rfl) ?_
    obtain ⟨r14, e15, hf⟩ := q_bnd_some hf
    refine q_kv hA I (q_runV (C := "JobTerminalModel") (As := []) (rest := []) ⟨hx, hb, hml, hown, hts⟩ (c_Mo_compare (sz := H.size) e15) (cwV 0 hts (q_goodV mw410 mw411 mw412 mw413 mw366) rfl rfl rfl (by decide +kernel) ⟨Nat.le_of_ble_eq_true rfl, Nat.le_of_ble_eq_true rfl⟩) NW_ok hK hN I rfl (q_wsE (by decide) (a_M_Mo)) rfl (q_sz hl) rfl (Nat.le_of_ble_eq_true rfl) d_Mo_step_118 ⟨Nat.zero_le _, Nat.zero_le _⟩) (fun H locs I => ?_)
    refine q_iinc (v := x2 + 1) (lv' := [(2, .int (x2 + 1)), (3, .int y0), (0, .ref (ad 0)), (1, .int x1), (4, .int x4)]) hx hb d_Mo_step_121 hl (k := 3) rfl rfl (by decide) rfl (fun ls hl => ?_)
    exact k_Mo_step_124 C0 hA res (K27 := K27) hk27 r14 x1 (x2 + 1) y0 hf H locs I ls (q_hsub hl [2, 3, 0, 1] rfl)
def f_Mo_step_83 (K27 : q_St → Int32 → Int32 → Int32 → Option (Int32 × q_St)) (σ : q_St) (x1 : Int32) (x2 : Int32) (x4 : Int32) (x5 : Int32) : Option (Int32 × q_St) := if 8 ≤ x5 then (f_Mo_step_95 K27 σ x1 x2 x4 0) else (f_Mo_step_95 K27 σ x1 x2 x4 1)
set_option maxHeartbeats 4000000 in
set_option maxRecDepth 100000 in
theorem k_Mo_step_83 {p : Program} {l : Launch} {e : Env} {s : State} {m : MethodId} {args : Array Value} {below : List Frame} {meth : Method} {c : Code} {D : va_G} {A : Nat → Prop} {ad : Nat → Nat} {cs : Nat → ClassId} (C0 : q_Cx "JobTerminalModel" b_Mo_step 6 (some .int) w_Mo_step D vwCl (tyL cs) NW p s m args meth c) (hA : ∀ q, s.heap.size ≤ q → A q) (res : (Int32 × q_St)) {K27 : q_St → Int32 → Int32 → Int32 → Option (Int32 × q_St)} (hk27 : ∀ (σ : q_St) (x1 : Int32) (x2 : Int32) (x3 : Int32) , K27 σ x1 x2 x3 = some res → ∀ (H : Heap) (locs : List Loc), q_I D vwCl A s.heap (q_ws 23 ad (cM ad cs σ)) H locs → ∀ ls : Array Slot, q_has ls 6 [(0, .ref (ad 0)), (1, .int x1), (2, .int x2), (3, .int x3)] → W p l e ({ frames := 6, cells := 0, slots := 0, locals := 134 } : Room) s m args below meth c H locs 0 0 (MQ below (q_Qi D vwCl res.1 (q_ws 23 ad (cM ad cs res.2)) A) args s 0 0 A) (F0 m 27 ls [])) : ∀ (σ : q_St) (x1 : Int32) (x2 : Int32) (x4 : Int32) (x5 : Int32) , f_Mo_step_83 K27 σ x1 x2 x4 x5 = some res → ∀ (H : Heap) (locs : List Loc), q_I D vwCl A s.heap (q_ws 23 ad (cM ad cs σ)) H locs → ∀ ls : Array Slot, q_has ls 6 [(0, .ref (ad 0)), (1, .int x1), (2, .int x2), (4, .int x4), (5, .int x5)] → W p l e ({ frames := 6, cells := 0, slots := 0, locals := 134 } : Room) s m args below meth c H locs 0 0 (MQ below (q_Qi D vwCl res.1 (q_ws 23 ad (cM ad cs res.2)) A) args s 0 0 A) (F0 m 83 ls []) := by
  intro σ x1 x2 x4 x5 hf H locs I ls hl
  unfold f_Mo_step_83 at hf
  obtain ⟨hx, hb, hr, hml, hown, hts, hlocks, hK, hN⟩ := id C0
  have htg : ∀ w ∈ GW, w.before args s = true := fun w h => hts w (List.mem_cons_of_mem _ h)
  refine lv_iload hx hb d_Mo_step_83 (q_at hl 4 rfl) ?_
  refine lv_bipush (v := 8) hx hb d_Mo_step_85 (by decide) ?_
  refine lv_icmp_ge (tgt := 94) hx hb d_Mo_step_87 (by decide) (fun c10 => ?_) (fun c10 => ?_)
  · rw [if_pos c10] at hf
    refine lv_iconst (v := 0) hx hb d_Mo_step_94 (by decide) ?_
    exact k_Mo_step_95 C0 hA res (K27 := K27) hk27 σ x1 x2 x4 0 hf H locs I ls (q_hsub hl [0, 1, 2, 3] rfl)
  · rw [if_neg c10] at hf
    refine lv_iconst (v := 1) hx hb d_Mo_step_90 (by decide) ?_
    refine lv_goto (tgt := 95) hx hb d_Mo_step_91 (by decide) ?_
    exact k_Mo_step_95 C0 hA res (K27 := K27) hk27 σ x1 x2 x4 1 hf H locs I ls (q_hsub hl [0, 1, 2, 3] rfl)
def f_Mo_step_52 (K27 : q_St → Int32 → Int32 → Int32 → Option (Int32 × q_St)) : Nat → q_St → Int32 → Int32 → Int32 → Int32 → Option (Int32 × q_St)
  | 0, _, _, _, _, _ => none
  | n + 1, σ, x1, x2, x4, x5 => if 8 ≤ x5 then (f_Mo_step_83 K27 σ x1 x2 x4 x5) else (q_bnd (f_Mo_canGoOn σ x4) (fun r7 => if r7.1 = 0 then (f_Mo_step_52 K27 n r7.2 x1 x2 ((x4 + 1) - (x4 + 1) / 8 * 8) (x5 + 1)) else (f_Mo_step_83 K27 r7.2 x1 x2 x4 x5)))
set_option maxHeartbeats 4000000 in
set_option maxRecDepth 100000 in
theorem k_Mo_step_52 {p : Program} {l : Launch} {e : Env} {s : State} {m : MethodId} {args : Array Value} {below : List Frame} {meth : Method} {c : Code} {D : va_G} {A : Nat → Prop} {ad : Nat → Nat} {cs : Nat → ClassId} (C0 : q_Cx "JobTerminalModel" b_Mo_step 6 (some .int) w_Mo_step D vwCl (tyL cs) NW p s m args meth c) (hA : ∀ q, s.heap.size ≤ q → A q) (res : (Int32 × q_St)) {K27 : q_St → Int32 → Int32 → Int32 → Option (Int32 × q_St)} (hk27 : ∀ (σ : q_St) (x1 : Int32) (x2 : Int32) (x3 : Int32) , K27 σ x1 x2 x3 = some res → ∀ (H : Heap) (locs : List Loc), q_I D vwCl A s.heap (q_ws 23 ad (cM ad cs σ)) H locs → ∀ ls : Array Slot, q_has ls 6 [(0, .ref (ad 0)), (1, .int x1), (2, .int x2), (3, .int x3)] → W p l e ({ frames := 6, cells := 0, slots := 0, locals := 134 } : Room) s m args below meth c H locs 0 0 (MQ below (q_Qi D vwCl res.1 (q_ws 23 ad (cM ad cs res.2)) A) args s 0 0 A) (F0 m 27 ls [])) : ∀ (n : Nat) (σ : q_St) (x1 : Int32) (x2 : Int32) (x4 : Int32) (x5 : Int32) , f_Mo_step_52 K27 n σ x1 x2 x4 x5 = some res → ∀ (H : Heap) (locs : List Loc), q_I D vwCl A s.heap (q_ws 23 ad (cM ad cs σ)) H locs → ∀ ls : Array Slot, q_has ls 6 [(0, .ref (ad 0)), (1, .int x1), (2, .int x2), (4, .int x4), (5, .int x5)] → W p l e ({ frames := 6, cells := 0, slots := 0, locals := 134 } : Room) s m args below meth c H locs 0 0 (MQ below (q_Qi D vwCl res.1 (q_ws 23 ad (cM ad cs res.2)) A) args s 0 0 A) (F0 m 52 ls []) := by
  intro n
  induction n with
  | zero => intro σ x1 x2 x4 x5 hf; cases hf
  | succ n ih =>
    intro σ x1 x2 x4 x5 hf H locs I ls hl
    have ih := ih
    rw [f_Mo_step_52] at hf
    have C0 := C0
    obtain ⟨hx, hb, hr, hml, hown, hts, hlocks, hK, hN⟩ := id C0
    have htg : ∀ w ∈ GW, w.before args s = true := fun w h => hts w (List.mem_cons_of_mem _ h)
    refine lv_iload hx hb d_Mo_step_52 (q_at hl 4 rfl) ?_
    refine lv_bipush (v := 8) hx hb d_Mo_step_54 (by decide) ?_
    refine lv_icmp_ge (tgt := 83) hx hb d_Mo_step_56 (by decide) (fun c6 => ?_) (fun c6 => ?_)
    · rw [if_pos c6] at hf
      exact k_Mo_step_83 C0 hA res (K27 := K27) hk27 σ x1 x2 x4 x5 hf H locs I ls (q_hsub hl [0, 1, 2, 3, 4] rfl)
    · rw [if_neg c6] at hf
      refine lv_aload_n hx hb d_Mo_step_59 rfl (q_at hl 0 rfl) ?_
      refine lv_iload hx hb d_Mo_step_60 (q_at hl 3 rfl) ?_
      obtain ⟨r7, e8, hf⟩ := q_bnd_some hf
      refine q_ki hA I (q_runV (C := "JobTerminalModel") (As := [.int x4]) (rest := []) ⟨hx, hb, hml, hown, hts⟩ (c_Mo_canGoOn (sz := H.size) e8) (cwV 1 hts (q_goodV mw466 mw467 mw468 mw469 mw366) rfl rfl rfl (by decide +kernel) ⟨Nat.le_of_ble_eq_true rfl, Nat.le_of_ble_eq_true rfl⟩) NW_ok hK hN I rfl (q_wsE (by decide) (a_M_Mo)) rfl (q_sz hl) rfl (Nat.le_of_ble_eq_true rfl) d_Mo_step_62 ⟨Nat.zero_le _, Nat.zero_le _⟩) (fun H locs I => ?_)
      refine lv_if_ne (tgt := 83) hx hb d_Mo_step_65 (by decide) (fun c9 => ?_) (fun c9 => ?_)
      · rw [if_neg c9] at hf
        exact k_Mo_step_83 C0 hA res (K27 := K27) hk27 r7.2 x1 x2 x4 x5 hf H locs I ls (q_hsub hl [0, 1, 2, 3, 4] rfl)
      · rw [if_pos c9] at hf
        refine lv_iload hx hb d_Mo_step_68 (q_at hl 3 rfl) ?_
        refine lv_iconst (v := 1) hx hb d_Mo_step_70 (by decide) ?_
        refine lv_iadd hx hb d_Mo_step_71 ?_
        refine lv_bipush (v := 8) hx hb d_Mo_step_72 (by decide) ?_
        refine lv_irem hx hb d_Mo_step_74 (by decide) ?_
        refine q_istore (lv' := [(4, .int ((x4 + 1) - (x4 + 1) / 8 * 8)), (0, .ref (ad 0)), (1, .int x1), (2, .int x2), (5, .int x5)]) hx hb d_Mo_step_75 hl (by decide) rfl (fun ls hl => ?_)
        refine q_iinc (v := x5 + 1) (lv' := [(5, .int (x5 + 1)), (4, .int ((x4 + 1) - (x4 + 1) / 8 * 8)), (0, .ref (ad 0)), (1, .int x1), (2, .int x2)]) hx hb d_Mo_step_77 hl (k := 4) rfl rfl (by decide) rfl (fun ls hl => ?_)
        refine lv_goto (tgt := 52) hx hb d_Mo_step_80 (by decide) ?_
        exact ih r7.2 x1 x2 ((x4 + 1) - (x4 + 1) / 8 * 8) (x5 + 1) hf H locs I ls (q_hsub hl [2, 3, 4, 1, 0] rfl)
def f_Mo_step_27 : Nat → q_St → Int32 → Int32 → Int32 → Option (Int32 × q_St)
  | 0, _, _, _, _ => none
  | n + 1, σ, x1, x2, x3 => if x3 = 0 then (f_Mo_step_127 σ x2) else (if x1 ≤ x2 then (f_Mo_step_127 σ x2) else (if (σ 47 0) = 0 then (f_Mo_step_52 (f_Mo_step_27 n) 200 σ x1 x2 (σ 40 0) 0) else (f_Mo_step_127 σ x2)))
set_option maxHeartbeats 4000000 in
set_option maxRecDepth 100000 in
theorem k_Mo_step_27 {p : Program} {l : Launch} {e : Env} {s : State} {m : MethodId} {args : Array Value} {below : List Frame} {meth : Method} {c : Code} {D : va_G} {A : Nat → Prop} {ad : Nat → Nat} {cs : Nat → ClassId} (C0 : q_Cx "JobTerminalModel" b_Mo_step 6 (some .int) w_Mo_step D vwCl (tyL cs) NW p s m args meth c) (hA : ∀ q, s.heap.size ≤ q → A q) (res : (Int32 × q_St)) : ∀ (n : Nat) (σ : q_St) (x1 : Int32) (x2 : Int32) (x3 : Int32) , f_Mo_step_27 n σ x1 x2 x3 = some res → ∀ (H : Heap) (locs : List Loc), q_I D vwCl A s.heap (q_ws 23 ad (cM ad cs σ)) H locs → ∀ ls : Array Slot, q_has ls 6 [(0, .ref (ad 0)), (1, .int x1), (2, .int x2), (3, .int x3)] → W p l e ({ frames := 6, cells := 0, slots := 0, locals := 134 } : Room) s m args below meth c H locs 0 0 (MQ below (q_Qi D vwCl res.1 (q_ws 23 ad (cM ad cs res.2)) A) args s 0 0 A) (F0 m 27 ls []) := by
  intro n
  induction n with
  | zero => intro σ x1 x2 x3 hf; cases hf
  | succ n ih =>
    intro σ x1 x2 x3 hf H locs I ls hl
    have ih := ih
    rw [f_Mo_step_27] at hf
    have C0 := C0
    obtain ⟨hx, hb, hr, hml, hown, hts, hlocks, hK, hN⟩ := id C0
    have htg : ∀ w ∈ GW, w.before args s = true := fun w h => hts w (List.mem_cons_of_mem _ h)
    refine lv_iload_n hx hb d_Mo_step_27 rfl (q_at hl 3 rfl) ?_
    refine lv_if_eq (tgt := 127) hx hb d_Mo_step_28 (by decide) (fun c3 => ?_) (fun c3 => ?_)
    · rw [if_pos c3] at hf
      exact k_Mo_step_127 C0 hA res σ x2 hf H locs I ls (q_hsub hl [2] rfl)
    · rw [if_neg c3] at hf
      refine lv_iload_n hx hb d_Mo_step_31 rfl (q_at hl 2 rfl) ?_
      refine lv_iload_n hx hb d_Mo_step_32 rfl (q_at hl 1 rfl) ?_
      refine lv_icmp_ge (tgt := 127) hx hb d_Mo_step_33 (by decide) (fun c4 => ?_) (fun c4 => ?_)
      · rw [if_pos c4] at hf
        exact k_Mo_step_127 C0 hA res σ x2 hf H locs I ls (q_hsub hl [2] rfl)
      · rw [if_neg c4] at hf
        refine lv_aload_n hx hb d_Mo_step_36 rfl (q_at hl 0 rfl) ?_
        refine G_Mo_Mo_failed hx hb htg hown hK hN I d_Mo_step_37 ?_
        refine lv_if_ne (tgt := 127) hx hb d_Mo_step_40 (by decide) (fun c5 => ?_) (fun c5 => ?_)
        · rw [if_neg c5] at hf
          exact k_Mo_step_127 C0 hA res σ x2 hf H locs I ls (q_hsub hl [2] rfl)
        · rw [if_pos c5] at hf
          refine lv_aload_n hx hb d_Mo_step_43 rfl (q_at hl 0 rfl) ?_
          refine G_Mo_Mo_turn hx hb htg hown hK hN I d_Mo_step_44 ?_
          refine q_istore (lv' := [(4, .int (σ 40 0)), (0, .ref (ad 0)), (1, .int x1), (2, .int x2), (3, .int x3)]) hx hb d_Mo_step_47 hl (by decide) rfl (fun ls hl => ?_)
          refine lv_iconst (v := 0) hx hb d_Mo_step_49 (by decide) ?_
          refine q_istore (lv' := [(5, .int 0), (4, .int (σ 40 0)), (0, .ref (ad 0)), (1, .int x1), (2, .int x2), (3, .int x3)]) hx hb d_Mo_step_50 hl (by decide) rfl (fun ls hl => ?_)
          exact k_Mo_step_52 C0 hA res (K27 := f_Mo_step_27 n) ih 200 σ x1 x2 (σ 40 0) 0 hf H locs I ls (q_hsub hl [2, 3, 4, 1, 0] rfl)
def f_Mo_step_16 (σ : q_St) : Option (Int32 × q_St) := some (-1, σ)
set_option maxHeartbeats 4000000 in
set_option maxRecDepth 100000 in
theorem k_Mo_step_16 {p : Program} {l : Launch} {e : Env} {s : State} {m : MethodId} {args : Array Value} {below : List Frame} {meth : Method} {c : Code} {D : va_G} {A : Nat → Prop} {ad : Nat → Nat} {cs : Nat → ClassId} (C0 : q_Cx "JobTerminalModel" b_Mo_step 6 (some .int) w_Mo_step D vwCl (tyL cs) NW p s m args meth c) (hA : ∀ q, s.heap.size ≤ q → A q) (res : (Int32 × q_St)) : ∀ (σ : q_St) , f_Mo_step_16 σ  = some res → ∀ (H : Heap) (locs : List Loc), q_I D vwCl A s.heap (q_ws 23 ad (cM ad cs σ)) H locs → ∀ ls : Array Slot, q_has ls 6 [] → W p l e ({ frames := 6, cells := 0, slots := 0, locals := 134 } : Room) s m args below meth c H locs 0 0 (MQ below (q_Qi D vwCl res.1 (q_ws 23 ad (cM ad cs res.2)) A) args s 0 0 A) (F0 m 16 ls []) := by
  intro σ  hf H locs I ls hl
  unfold f_Mo_step_16 at hf
  obtain ⟨hx, hb, hr, hml, hown, hts, hlocks, hK, hN⟩ := id C0
  have htg : ∀ w ∈ GW, w.before args s = true := fun w h => hts w (List.mem_cons_of_mem _ h)
  refine lv_iconst (v := -1) hx hb d_Mo_step_16 (by decide) ?_
  cases hf
  exact q_iret hx hb hr hlocks I d_Mo_step_17
def f_Mo_step (σ : q_St) (p1 : Int32) : Option (Int32 × q_St) := if p1 < 1 then (f_Mo_step_16 (q_up σ 48 0 0)) else (if p1 ≤ 64 then (f_Mo_step_27 200 (q_up (q_up σ 48 0 0) 47 0 0) p1 0 1) else (f_Mo_step_16 (q_up σ 48 0 0)))
set_option maxHeartbeats 4000000 in
set_option maxRecDepth 100000 in
theorem c_Mo_step {l : Launch} {D : va_G} {ad : Nat → Nat} {cs : Nat → ClassId} {sz : Nat} {σ : q_St} {p1 : Int32} {res : (Int32 × q_St)} (hf : f_Mo_step σ p1 = some res) : Met l y_Mo_step w_Mo_step ({ frames := 6, cells := 0, slots := 0, locals := 134 } : Room) (q_Pre D vwCl (tyL cs) NW [.ref (ad 0), .int p1] (q_ws 23 ad (cM ad cs σ)) sz) (q_Qi D vwCl res.1 (q_ws 23 ad (cM ad cs res.2)) (va_A (q_ws 23 ad (cM ad cs σ)) sz)) 0 0 (va_A (q_ws 23 ad (cM ad cs σ)) sz) := by
  refine Met.ofW (cc := b_Mo_step) (maxL := 6) (ret := (some .int)) (by decide) rfl ?_
  intro p e s m args below meth c s₁ B hml hv
  obtain ⟨hargs, hsz, hP, hK, hD0, hN⟩ := hv
  have hx := B.exec
  have hb := B.bytes
  have hr := B.returns
  have hts := atoms_spec (ws := w_Mo_step) B.pre
  have hown : s.vm.findClass "JobTerminalModel" = some m.cls := findClass_of_methodNamed B.named
  have hlocks := B.notSynchronized
  have htg : ∀ w ∈ GW, w.before args s = true := fun w h => hts w (List.mem_cons_of_mem _ h)
  subst hsz
  have hD := hD0.self (sz := s.heap.size)
  generalize hAe : va_A (q_ws 23 ad (cM ad cs σ)) s.heap.size = A at hD ⊢
  have hA : ∀ q : Nat, s.heap.size ≤ q → A q := fun q h => by rw [← hAe]; exact Or.inr h
  have I : q_I D vwCl A s.heap (q_ws 23 ad (cM ad cs σ)) s.heap [] := ⟨hP, hD, va_S.rf⟩
  obtain ⟨ls, hen, hl⟩ := q_entry (vs := [.ref (ad 0), .int p1]) (n := 6) (lv := [(0, .ref (ad 0)), (1, .int p1)]) (by intro v hv; simp only [List.mem_cons, List.not_mem_nil, or_false] at hv; rcases hv with rfl | rfl <;> first | rfl | exact q_cat) (Nat.le_of_ble_eq_true rfl) rfl
  rw [show entryFrame m args 6 = F0 m 0 ls [] from by rw [hargs]; exact hen m]
  have C0 : q_Cx "JobTerminalModel" b_Mo_step 6 (some .int) w_Mo_step D vwCl (tyL cs) NW p s m args meth c := ⟨hx, hb, hr, hml, hown, hts, hlocks, hK, hN⟩
  unfold f_Mo_step at hf
  have hgo : ∀ (H : Heap) (locs : List Loc), q_I D vwCl A s.heap (q_ws 23 ad (cM ad cs σ)) H locs → W p l e ({ frames := 6, cells := 0, slots := 0, locals := 134 } : Room) s m args below meth c H locs 0 0 (MQ below (q_Qi D vwCl res.1 (q_ws 23 ad (cM ad cs res.2)) A) args s 0 0 A) (F0 m 0 ls []) := by
    intro H locs I
    refine lv_aload_n hx hb d_Mo_step_0 rfl (q_at hl 0 rfl) ?_
    refine lv_iconst (v := 0) hx hb d_Mo_step_1 (by decide) ?_
    refine P_Mo_Mo_code hx hb htg hown hK hN I d_Mo_step_2 (fun H locs I => ?_)
    refine lv_iload_n hx hb d_Mo_step_5 rfl (q_at hl 1 rfl) ?_
    refine lv_iconst (v := 1) hx hb d_Mo_step_6 (by decide) ?_
    refine lv_icmp_lt (tgt := 16) hx hb d_Mo_step_7 (by decide) (fun c1 => ?_) (fun c1 => ?_)
    · rw [if_pos c1] at hf
      exact k_Mo_step_16 C0 hA res (q_up σ 48 0 0) hf H locs I ls (q_hsub hl [] rfl)
    · rw [if_neg c1] at hf
      refine lv_iload_n hx hb d_Mo_step_10 rfl (q_at hl 1 rfl) ?_
      refine lv_bipush (v := 64) hx hb d_Mo_step_11 (by decide) ?_
      refine lv_icmp_le (tgt := 18) hx hb d_Mo_step_13 (by decide) (fun c2 => ?_) (fun c2 => ?_)
      · rw [if_pos c2] at hf
        refine lv_iconst (v := 0) hx hb d_Mo_step_18 (by decide) ?_
        refine q_istore_n (lv' := [(2, .int 0), (0, .ref (ad 0)), (1, .int p1)]) hx hb d_Mo_step_19 rfl hl (by decide) rfl (fun ls hl => ?_)
        refine lv_aload_n hx hb d_Mo_step_20 rfl (q_at hl 1 rfl) ?_
        refine lv_iconst (v := 0) hx hb d_Mo_step_21 (by decide) ?_
        refine P_Mo_Mo_failed hx hb htg hown hK hN I (by decide) d_Mo_step_22 (fun H locs I => ?_)
        refine lv_iconst (v := 1) hx hb d_Mo_step_25 (by decide) ?_
        refine q_istore_n (lv' := [(3, .int 1), (2, .int 0), (0, .ref (ad 0)), (1, .int p1)]) hx hb d_Mo_step_26 rfl hl (by decide) rfl (fun ls hl => ?_)
        exact k_Mo_step_27 C0 hA res 200 (q_up (q_up σ 48 0 0) 47 0 0) p1 0 1 hf H locs I ls (q_hsub hl [2, 3, 1, 0] rfl)
      · rw [if_neg c2] at hf
        exact k_Mo_step_16 C0 hA res (q_up σ 48 0 0) hf H locs I ls (q_hsub hl [] rfl)
  exact hgo _ _ I
-- JobTerminalModel tick
def f_Mo_tick_47 (K9 : q_St → Int32 → Int32 → Option (Int32 × q_St)) (σ : q_St) (x1 : Int32) (x2 : Int32) : Option (Int32 × q_St) := K9 σ x1 (x2 + 1)
set_option maxHeartbeats 4000000 in
set_option maxRecDepth 100000 in
theorem k_Mo_tick_47 {p : Program} {l : Launch} {e : Env} {s : State} {m : MethodId} {args : Array Value} {below : List Frame} {meth : Method} {c : Code} {D : va_G} {A : Nat → Prop} {ad : Nat → Nat} {cs : Nat → ClassId} (C0 : q_Cx "JobTerminalModel" b_Mo_tick 3 (some .int) w_Mo_tick D vwCl (tyL cs) NW p s m args meth c) (hA : ∀ q, s.heap.size ≤ q → A q) (res : (Int32 × q_St)) {K9 : q_St → Int32 → Int32 → Option (Int32 × q_St)} (hk9 : ∀ (σ : q_St) (x1 : Int32) (x2 : Int32) , K9 σ x1 x2 = some res → ∀ (H : Heap) (locs : List Loc), q_I D vwCl A s.heap (q_ws 23 ad (cM ad cs σ)) H locs → ∀ ls : Array Slot, q_has ls 3 [(0, .ref (ad 0)), (1, .int x1), (2, .int x2)] → W p l e ({ frames := 0, cells := 0, slots := 0, locals := 0 } : Room) s m args below meth c H locs 0 0 (MQ below (q_Qi D vwCl res.1 (q_ws 23 ad (cM ad cs res.2)) A) args s 0 0 A) (F0 m 9 ls [])) : ∀ (σ : q_St) (x1 : Int32) (x2 : Int32) , f_Mo_tick_47 K9 σ x1 x2 = some res → ∀ (H : Heap) (locs : List Loc), q_I D vwCl A s.heap (q_ws 23 ad (cM ad cs σ)) H locs → ∀ ls : Array Slot, q_has ls 3 [(0, .ref (ad 0)), (1, .int x1), (2, .int x2)] → W p l e ({ frames := 0, cells := 0, slots := 0, locals := 0 } : Room) s m args below meth c H locs 0 0 (MQ below (q_Qi D vwCl res.1 (q_ws 23 ad (cM ad cs res.2)) A) args s 0 0 A) (F0 m 47 ls []) := by
  intro σ x1 x2 hf H locs I ls hl
  unfold f_Mo_tick_47 at hf
  obtain ⟨hx, hb, hr, hml, hown, hts, hlocks, hK, hN⟩ := id C0
  have htg : ∀ w ∈ GW, w.before args s = true := fun w h => hts w (List.mem_cons_of_mem _ h)
  refine q_iinc (v := x2 + 1) (lv' := [(2, .int (x2 + 1)), (0, .ref (ad 0)), (1, .int x1)]) hx hb d_Mo_tick_47 hl (k := 2) rfl rfl (by decide) rfl (fun ls hl => ?_)
  refine lv_goto (tgt := 9) hx hb d_Mo_tick_50 (by decide) ?_
  exact hk9 σ x1 (x2 + 1) hf H locs I ls (q_hsub hl [1, 2, 0] rfl)
def f_Mo_tick_9 : Nat → q_St → Int32 → Int32 → Option (Int32 × q_St)
  | 0, _, _, _ => none
  | n + 1, σ, x1, x2 => if 8 ≤ x2 then (some (x1, σ)) else (q_grd (q_in x2 8) (if (σ 2 x2.toNatClampNeg) = 1 then (q_grd (q_in x2 8) (if (σ 11 x2.toNatClampNeg) ≤ 0 then (f_Mo_tick_47 (f_Mo_tick_9 n) σ x1 x2) else (q_grd (q_in x2 8) (q_grd (q_in x2 8) (f_Mo_tick_47 (f_Mo_tick_9 n) (q_up σ 11 x2.toNatClampNeg ((σ 11 x2.toNatClampNeg) - 1)) (x1 + 1) x2))))) else (f_Mo_tick_47 (f_Mo_tick_9 n) σ x1 x2)))
set_option maxHeartbeats 4000000 in
set_option maxRecDepth 100000 in
theorem k_Mo_tick_9 {p : Program} {l : Launch} {e : Env} {s : State} {m : MethodId} {args : Array Value} {below : List Frame} {meth : Method} {c : Code} {D : va_G} {A : Nat → Prop} {ad : Nat → Nat} {cs : Nat → ClassId} (C0 : q_Cx "JobTerminalModel" b_Mo_tick 3 (some .int) w_Mo_tick D vwCl (tyL cs) NW p s m args meth c) (hA : ∀ q, s.heap.size ≤ q → A q) (res : (Int32 × q_St)) : ∀ (n : Nat) (σ : q_St) (x1 : Int32) (x2 : Int32) , f_Mo_tick_9 n σ x1 x2 = some res → ∀ (H : Heap) (locs : List Loc), q_I D vwCl A s.heap (q_ws 23 ad (cM ad cs σ)) H locs → ∀ ls : Array Slot, q_has ls 3 [(0, .ref (ad 0)), (1, .int x1), (2, .int x2)] → W p l e ({ frames := 0, cells := 0, slots := 0, locals := 0 } : Room) s m args below meth c H locs 0 0 (MQ below (q_Qi D vwCl res.1 (q_ws 23 ad (cM ad cs res.2)) A) args s 0 0 A) (F0 m 9 ls []) := by
  intro n
  induction n with
  | zero => intro σ x1 x2 hf; cases hf
  | succ n ih =>
    intro σ x1 x2 hf H locs I ls hl
    have ih := ih
    rw [f_Mo_tick_9] at hf
    have C0 := C0
    obtain ⟨hx, hb, hr, hml, hown, hts, hlocks, hK, hN⟩ := id C0
    have htg : ∀ w ∈ GW, w.before args s = true := fun w h => hts w (List.mem_cons_of_mem _ h)
    refine lv_iload_n hx hb d_Mo_tick_9 rfl (q_at hl 2 rfl) ?_
    refine lv_bipush (v := 8) hx hb d_Mo_tick_10 (by decide) ?_
    refine lv_icmp_ge (tgt := 53) hx hb d_Mo_tick_12 (by decide) (fun c1 => ?_) (fun c1 => ?_)
    · rw [if_pos c1] at hf
      refine lv_iload_n hx hb d_Mo_tick_53 rfl (q_at hl 1 rfl) ?_
      cases hf
      exact q_iret hx hb hr hlocks I d_Mo_tick_54
    · rw [if_neg c1] at hf
      refine lv_aload_n hx hb d_Mo_tick_15 rfl (q_at hl 0 rfl) ?_
      refine G_Mo_Mo_state hx hb htg hown hK hN I d_Mo_tick_16 ?_
      refine lv_iload_n hx hb d_Mo_tick_19 rfl (q_at hl 2 rfl) ?_
      obtain ⟨o2, hf⟩ := q_grd_some hf
      refine A_M_state hx hb hK I o2 d_Mo_tick_20 ?_
      refine lv_iconst (v := 1) hx hb d_Mo_tick_21 (by decide) ?_
      refine lv_icmp_ne (tgt := 47) hx hb d_Mo_tick_22 (by decide) (fun c3 => ?_) (fun c3 => ?_)
      · rw [if_neg c3] at hf
        exact k_Mo_tick_47 C0 hA res (K9 := f_Mo_tick_9 n) ih σ x1 x2 hf H locs I ls (q_hsub hl [0, 1, 2] rfl)
      · rw [if_pos c3] at hf
        refine lv_aload_n hx hb d_Mo_tick_25 rfl (q_at hl 0 rfl) ?_
        refine G_Mo_Mo_nap hx hb htg hown hK hN I d_Mo_tick_26 ?_
        refine lv_iload_n hx hb d_Mo_tick_29 rfl (q_at hl 2 rfl) ?_
        obtain ⟨o4, hf⟩ := q_grd_some hf
        refine A_M_nap hx hb hK I o4 d_Mo_tick_30 ?_
        refine lv_if_le (tgt := 47) hx hb d_Mo_tick_31 (by decide) (fun c5 => ?_) (fun c5 => ?_)
        · rw [if_pos c5] at hf
          exact k_Mo_tick_47 C0 hA res (K9 := f_Mo_tick_9 n) ih σ x1 x2 hf H locs I ls (q_hsub hl [0, 1, 2] rfl)
        · rw [if_neg c5] at hf
          refine lv_aload_n hx hb d_Mo_tick_34 rfl (q_at hl 0 rfl) ?_
          refine G_Mo_Mo_nap hx hb htg hown hK hN I d_Mo_tick_35 ?_
          refine lv_iload_n hx hb d_Mo_tick_38 rfl (q_at hl 2 rfl) ?_
          refine lv_dup2_11 hx hb d_Mo_tick_39 rfl rfl ?_
          obtain ⟨o6, hf⟩ := q_grd_some hf
          refine A_M_nap hx hb hK I o6 d_Mo_tick_40 ?_
          refine lv_iconst (v := 1) hx hb d_Mo_tick_41 (by decide) ?_
          refine lv_isub hx hb d_Mo_tick_42 ?_
          obtain ⟨o7, hf⟩ := q_grd_some hf
          refine T_M_nap hx hb hK I o7 d_Mo_tick_43 (fun H locs I => ?_)
          refine q_iinc (v := x1 + 1) (lv' := [(1, .int (x1 + 1)), (0, .ref (ad 0)), (2, .int x2)]) hx hb d_Mo_tick_44 hl (k := 1) rfl rfl (by decide) rfl (fun ls hl => ?_)
          exact k_Mo_tick_47 C0 hA res (K9 := f_Mo_tick_9 n) ih (q_up σ 11 x2.toNatClampNeg ((σ 11 x2.toNatClampNeg) - 1)) (x1 + 1) x2 hf H locs I ls (q_hsub hl [1, 0, 2] rfl)
def f_Mo_tick (σ : q_St) : Option (Int32 × q_St) := f_Mo_tick_9 200 (q_up σ 48 0 0) 0 0
set_option maxHeartbeats 4000000 in
set_option maxRecDepth 100000 in
theorem c_Mo_tick {l : Launch} {D : va_G} {ad : Nat → Nat} {cs : Nat → ClassId} {sz : Nat} {σ : q_St} {res : (Int32 × q_St)} (hf : f_Mo_tick σ  = some res) : Met l y_Mo_tick w_Mo_tick ({ frames := 0, cells := 0, slots := 0, locals := 0 } : Room) (q_Pre D vwCl (tyL cs) NW [.ref (ad 0)] (q_ws 23 ad (cM ad cs σ)) sz) (q_Qi D vwCl res.1 (q_ws 23 ad (cM ad cs res.2)) (va_A (q_ws 23 ad (cM ad cs σ)) sz)) 0 0 (va_A (q_ws 23 ad (cM ad cs σ)) sz) := by
  refine Met.ofW (cc := b_Mo_tick) (maxL := 3) (ret := (some .int)) (by decide) rfl ?_
  intro p e s m args below meth c s₁ B hml hv
  obtain ⟨hargs, hsz, hP, hK, hD0, hN⟩ := hv
  have hx := B.exec
  have hb := B.bytes
  have hr := B.returns
  have hts := atoms_spec (ws := w_Mo_tick) B.pre
  have hown : s.vm.findClass "JobTerminalModel" = some m.cls := findClass_of_methodNamed B.named
  have hlocks := B.notSynchronized
  have htg : ∀ w ∈ GW, w.before args s = true := fun w h => hts w (List.mem_cons_of_mem _ h)
  subst hsz
  have hD := hD0.self (sz := s.heap.size)
  generalize hAe : va_A (q_ws 23 ad (cM ad cs σ)) s.heap.size = A at hD ⊢
  have hA : ∀ q : Nat, s.heap.size ≤ q → A q := fun q h => by rw [← hAe]; exact Or.inr h
  have I : q_I D vwCl A s.heap (q_ws 23 ad (cM ad cs σ)) s.heap [] := ⟨hP, hD, va_S.rf⟩
  obtain ⟨ls, hen, hl⟩ := q_entry (vs := [.ref (ad 0)]) (n := 3) (lv := [(0, .ref (ad 0))]) (by intro v hv; simp only [List.mem_cons, List.not_mem_nil, or_false] at hv; rcases hv with rfl <;> first | rfl | exact q_cat) (Nat.le_of_ble_eq_true rfl) rfl
  rw [show entryFrame m args 3 = F0 m 0 ls [] from by rw [hargs]; exact hen m]
  have C0 : q_Cx "JobTerminalModel" b_Mo_tick 3 (some .int) w_Mo_tick D vwCl (tyL cs) NW p s m args meth c := ⟨hx, hb, hr, hml, hown, hts, hlocks, hK, hN⟩
  unfold f_Mo_tick at hf
  have hgo : ∀ (H : Heap) (locs : List Loc), q_I D vwCl A s.heap (q_ws 23 ad (cM ad cs σ)) H locs → W p l e ({ frames := 0, cells := 0, slots := 0, locals := 0 } : Room) s m args below meth c H locs 0 0 (MQ below (q_Qi D vwCl res.1 (q_ws 23 ad (cM ad cs res.2)) A) args s 0 0 A) (F0 m 0 ls []) := by
    intro H locs I
    refine lv_aload_n hx hb d_Mo_tick_0 rfl (q_at hl 0 rfl) ?_
    refine lv_iconst (v := 0) hx hb d_Mo_tick_1 (by decide) ?_
    refine P_Mo_Mo_code hx hb htg hown hK hN I d_Mo_tick_2 (fun H locs I => ?_)
    refine lv_iconst (v := 0) hx hb d_Mo_tick_5 (by decide) ?_
    refine q_istore_n (lv' := [(1, .int 0), (0, .ref (ad 0))]) hx hb d_Mo_tick_6 rfl hl (by decide) rfl (fun ls hl => ?_)
    refine lv_iconst (v := 0) hx hb d_Mo_tick_7 (by decide) ?_
    refine q_istore_n (lv' := [(2, .int 0), (1, .int 0), (0, .ref (ad 0))]) hx hb d_Mo_tick_8 rfl hl (by decide) rfl (fun ls hl => ?_)
    exact k_Mo_tick_9 C0 hA res 200 (q_up σ 48 0 0) 0 0 hf H locs I ls (q_hsub hl [2, 1, 0] rfl)
  exact hgo _ _ I
-- JobTerminalModel foreground
def f_Mo_foreground (σ : q_St) : Option (Int32 × q_St) := some ((q_up σ 48 0 0) 41 0, q_up σ 48 0 0)
set_option maxHeartbeats 4000000 in
set_option maxRecDepth 100000 in
theorem c_Mo_foreground {l : Launch} {D : va_G} {ad : Nat → Nat} {cs : Nat → ClassId} {sz : Nat} {σ : q_St} {res : (Int32 × q_St)} (hf : f_Mo_foreground σ  = some res) : Met l y_Mo_foreground w_Mo_foreground ({ frames := 0, cells := 0, slots := 0, locals := 0 } : Room) (q_Pre D vwCl (tyL cs) NW [.ref (ad 0)] (q_ws 23 ad (cM ad cs σ)) sz) (q_Qi D vwCl res.1 (q_ws 23 ad (cM ad cs res.2)) (va_A (q_ws 23 ad (cM ad cs σ)) sz)) 0 0 (va_A (q_ws 23 ad (cM ad cs σ)) sz) := by
  refine Met.ofW (cc := b_Mo_foreground) (maxL := 1) (ret := (some .int)) (by decide) rfl ?_
  intro p e s m args below meth c s₁ B hml hv
  obtain ⟨hargs, hsz, hP, hK, hD0, hN⟩ := hv
  have hx := B.exec
  have hb := B.bytes
  have hr := B.returns
  have hts := atoms_spec (ws := w_Mo_foreground) B.pre
  have hown : s.vm.findClass "JobTerminalModel" = some m.cls := findClass_of_methodNamed B.named
  have hlocks := B.notSynchronized
  have htg : ∀ w ∈ GW, w.before args s = true := fun w h => hts w (List.mem_cons_of_mem _ h)
  subst hsz
  have hD := hD0.self (sz := s.heap.size)
  generalize hAe : va_A (q_ws 23 ad (cM ad cs σ)) s.heap.size = A at hD ⊢
  have hA : ∀ q : Nat, s.heap.size ≤ q → A q := fun q h => by rw [← hAe]; exact Or.inr h
  have I : q_I D vwCl A s.heap (q_ws 23 ad (cM ad cs σ)) s.heap [] := ⟨hP, hD, va_S.rf⟩
  obtain ⟨ls, hen, hl⟩ := q_entry (vs := [.ref (ad 0)]) (n := 1) (lv := [(0, .ref (ad 0))]) (by intro v hv; simp only [List.mem_cons, List.not_mem_nil, or_false] at hv; rcases hv with rfl <;> first | rfl | exact q_cat) (Nat.le_of_ble_eq_true rfl) rfl
  rw [show entryFrame m args 1 = F0 m 0 ls [] from by rw [hargs]; exact hen m]
  have C0 : q_Cx "JobTerminalModel" b_Mo_foreground 1 (some .int) w_Mo_foreground D vwCl (tyL cs) NW p s m args meth c := ⟨hx, hb, hr, hml, hown, hts, hlocks, hK, hN⟩
  unfold f_Mo_foreground at hf
  have hgo : ∀ (H : Heap) (locs : List Loc), q_I D vwCl A s.heap (q_ws 23 ad (cM ad cs σ)) H locs → W p l e ({ frames := 0, cells := 0, slots := 0, locals := 0 } : Room) s m args below meth c H locs 0 0 (MQ below (q_Qi D vwCl res.1 (q_ws 23 ad (cM ad cs res.2)) A) args s 0 0 A) (F0 m 0 ls []) := by
    intro H locs I
    refine lv_aload_n hx hb d_Mo_foreground_0 rfl (q_at hl 0 rfl) ?_
    refine lv_iconst (v := 0) hx hb d_Mo_foreground_1 (by decide) ?_
    refine P_Mo_Mo_code hx hb htg hown hK hN I d_Mo_foreground_2 (fun H locs I => ?_)
    refine lv_aload_n hx hb d_Mo_foreground_5 rfl (q_at hl 0 rfl) ?_
    refine G_Mo_Mo_front hx hb htg hown hK hN I d_Mo_foreground_6 ?_
    cases hf
    exact q_iret hx hb hr hlocks I d_Mo_foreground_9
  exact hgo _ _ I
-- JobTerminalModel job
def f_Mo_job_22 (σ : q_St) (y0 : Int32) : Option (Int32 × q_St) := some (y0, σ)
set_option maxHeartbeats 4000000 in
set_option maxRecDepth 100000 in
theorem k_Mo_job_22 {p : Program} {l : Launch} {e : Env} {s : State} {m : MethodId} {args : Array Value} {below : List Frame} {meth : Method} {c : Code} {D : va_G} {A : Nat → Prop} {ad : Nat → Nat} {cs : Nat → ClassId} (C0 : q_Cx "JobTerminalModel" b_Mo_job 2 (some .int) w_Mo_job D vwCl (tyL cs) NW p s m args meth c) (hA : ∀ q, s.heap.size ≤ q → A q) (res : (Int32 × q_St)) : ∀ (σ : q_St) (y0 : Int32) , f_Mo_job_22 σ y0 = some res → ∀ (H : Heap) (locs : List Loc), q_I D vwCl A s.heap (q_ws 23 ad (cM ad cs σ)) H locs → ∀ ls : Array Slot, q_has ls 2 [] → W p l e ({ frames := 1, cells := 0, slots := 0, locals := 23 } : Room) s m args below meth c H locs 0 0 (MQ below (q_Qi D vwCl res.1 (q_ws 23 ad (cM ad cs res.2)) A) args s 0 0 A) (F0 m 22 ls [.int y0]) := by
  intro σ y0 hf H locs I ls hl
  unfold f_Mo_job_22 at hf
  obtain ⟨hx, hb, hr, hml, hown, hts, hlocks, hK, hN⟩ := id C0
  have htg : ∀ w ∈ GW, w.before args s = true := fun w h => hts w (List.mem_cons_of_mem _ h)
  cases hf
  exact q_iret hx hb hr hlocks I d_Mo_job_22
def f_Mo_job (σ : q_St) (p1 : Int32) : Option (Int32 × q_St) := q_bnd (f_Mo_isJob (q_up σ 48 0 0) p1) (fun r1 => if r1.1 = 0 then (f_Mo_job_22 r1.2 (-1)) else (q_bnd (f_Mo_stateOf r1.2 p1) (fun r4 => f_Mo_job_22 r4.2 r4.1)))
set_option maxHeartbeats 4000000 in
set_option maxRecDepth 100000 in
theorem c_Mo_job {l : Launch} {D : va_G} {ad : Nat → Nat} {cs : Nat → ClassId} {sz : Nat} {σ : q_St} {p1 : Int32} {res : (Int32 × q_St)} (hf : f_Mo_job σ p1 = some res) : Met l y_Mo_job w_Mo_job ({ frames := 1, cells := 0, slots := 0, locals := 23 } : Room) (q_Pre D vwCl (tyL cs) NW [.ref (ad 0), .int p1] (q_ws 23 ad (cM ad cs σ)) sz) (q_Qi D vwCl res.1 (q_ws 23 ad (cM ad cs res.2)) (va_A (q_ws 23 ad (cM ad cs σ)) sz)) 0 0 (va_A (q_ws 23 ad (cM ad cs σ)) sz) := by
  refine Met.ofW (cc := b_Mo_job) (maxL := 2) (ret := (some .int)) (by decide) rfl ?_
  intro p e s m args below meth c s₁ B hml hv
  obtain ⟨hargs, hsz, hP, hK, hD0, hN⟩ := hv
  have hx := B.exec
  have hb := B.bytes
  have hr := B.returns
  have hts := atoms_spec (ws := w_Mo_job) B.pre
  have hown : s.vm.findClass "JobTerminalModel" = some m.cls := findClass_of_methodNamed B.named
  have hlocks := B.notSynchronized
  have htg : ∀ w ∈ GW, w.before args s = true := fun w h => hts w (List.mem_cons_of_mem _ h)
  subst hsz
  have hD := hD0.self (sz := s.heap.size)
  generalize hAe : va_A (q_ws 23 ad (cM ad cs σ)) s.heap.size = A at hD ⊢
  have hA : ∀ q : Nat, s.heap.size ≤ q → A q := fun q h => by rw [← hAe]; exact Or.inr h
  have I : q_I D vwCl A s.heap (q_ws 23 ad (cM ad cs σ)) s.heap [] := ⟨hP, hD, va_S.rf⟩
  obtain ⟨ls, hen, hl⟩ := q_entry (vs := [.ref (ad 0), .int p1]) (n := 2) (lv := [(0, .ref (ad 0)), (1, .int p1)]) (by intro v hv; simp only [List.mem_cons, List.not_mem_nil, or_false] at hv; rcases hv with rfl | rfl <;> first | rfl | exact q_cat) (Nat.le_of_ble_eq_true rfl) rfl
  rw [show entryFrame m args 2 = F0 m 0 ls [] from by rw [hargs]; exact hen m]
  have C0 : q_Cx "JobTerminalModel" b_Mo_job 2 (some .int) w_Mo_job D vwCl (tyL cs) NW p s m args meth c := ⟨hx, hb, hr, hml, hown, hts, hlocks, hK, hN⟩
  unfold f_Mo_job at hf
  have hgo : ∀ (H : Heap) (locs : List Loc), q_I D vwCl A s.heap (q_ws 23 ad (cM ad cs σ)) H locs → W p l e ({ frames := 1, cells := 0, slots := 0, locals := 23 } : Room) s m args below meth c H locs 0 0 (MQ below (q_Qi D vwCl res.1 (q_ws 23 ad (cM ad cs res.2)) A) args s 0 0 A) (F0 m 0 ls []) := by
    intro H locs I
    refine lv_aload_n hx hb d_Mo_job_0 rfl (q_at hl 0 rfl) ?_
    refine lv_iconst (v := 0) hx hb d_Mo_job_1 (by decide) ?_
    refine P_Mo_Mo_code hx hb htg hown hK hN I d_Mo_job_2 (fun H locs I => ?_)
    refine lv_aload_n hx hb d_Mo_job_5 rfl (q_at hl 0 rfl) ?_
    refine lv_iload_n hx hb d_Mo_job_6 rfl (q_at hl 1 rfl) ?_
    obtain ⟨r1, e2, hf⟩ := q_bnd_some hf
    refine q_ki hA I (q_runV (C := "JobTerminalModel") (As := [.int p1]) (rest := []) ⟨hx, hb, hml, hown, hts⟩ (c_Mo_isJob (sz := H.size) e2) (cwV 1 hts (q_goodV mw422 mw423 mw424 mw425 mw366) rfl rfl rfl (by decide +kernel) ⟨Nat.le_of_ble_eq_true rfl, Nat.le_of_ble_eq_true rfl⟩) NW_ok hK hN I rfl (q_wsE (by decide) (a_M_Mo)) rfl (q_sz hl) rfl (Nat.le_of_ble_eq_true rfl) d_Mo_job_7 ⟨Nat.zero_le _, Nat.zero_le _⟩) (fun H locs I => ?_)
    refine lv_if_eq (tgt := 21) hx hb d_Mo_job_10 (by decide) (fun c3 => ?_) (fun c3 => ?_)
    · rw [if_pos c3] at hf
      refine lv_iconst (v := -1) hx hb d_Mo_job_21 (by decide) ?_
      exact k_Mo_job_22 C0 hA res r1.2 (-1) hf H locs I ls (q_hsub hl [] rfl)
    · rw [if_neg c3] at hf
      refine lv_aload_n hx hb d_Mo_job_13 rfl (q_at hl 0 rfl) ?_
      refine lv_iload_n hx hb d_Mo_job_14 rfl (q_at hl 1 rfl) ?_
      obtain ⟨r4, e5, hf⟩ := q_bnd_some hf
      refine q_ki hA I (q_runV (C := "JobTerminalModel") (As := [.int p1]) (rest := []) ⟨hx, hb, hml, hown, hts⟩ (c_Mo_stateOf (sz := H.size) e5) (cwV 1 hts (q_goodV mw362 mw363 mw364 mw365 mw366) rfl rfl rfl (by decide +kernel) ⟨Nat.le_of_ble_eq_true rfl, Nat.le_of_ble_eq_true rfl⟩) NW_ok hK hN I rfl (q_wsE (by decide) (a_M_Mo)) rfl (q_sz hl) rfl (Nat.le_of_ble_eq_true rfl) d_Mo_job_15 ⟨Nat.zero_le _, Nat.zero_le _⟩) (fun H locs I => ?_)
      refine lv_goto (tgt := 22) hx hb d_Mo_job_18 (by decide) ?_
      exact k_Mo_job_22 C0 hA res r4.2 r4.1 hf H locs I ls (q_hsub hl [] rfl)
  exact hgo _ _ I
-- JobTerminalModel process
def f_Mo_process_24 (σ : q_St) : Option (Int32 × q_St) := some (-1, σ)
set_option maxHeartbeats 4000000 in
set_option maxRecDepth 100000 in
theorem k_Mo_process_24 {p : Program} {l : Launch} {e : Env} {s : State} {m : MethodId} {args : Array Value} {below : List Frame} {meth : Method} {c : Code} {D : va_G} {A : Nat → Prop} {ad : Nat → Nat} {cs : Nat → ClassId} (C0 : q_Cx "JobTerminalModel" b_Mo_process 3 (some .int) w_Mo_process D vwCl (tyL cs) NW p s m args meth c) (hA : ∀ q, s.heap.size ≤ q → A q) (res : (Int32 × q_St)) : ∀ (σ : q_St) , f_Mo_process_24 σ  = some res → ∀ (H : Heap) (locs : List Loc), q_I D vwCl A s.heap (q_ws 23 ad (cM ad cs σ)) H locs → ∀ ls : Array Slot, q_has ls 3 [] → W p l e ({ frames := 0, cells := 0, slots := 0, locals := 0 } : Room) s m args below meth c H locs 0 0 (MQ below (q_Qi D vwCl res.1 (q_ws 23 ad (cM ad cs res.2)) A) args s 0 0 A) (F0 m 24 ls []) := by
  intro σ  hf H locs I ls hl
  unfold f_Mo_process_24 at hf
  obtain ⟨hx, hb, hr, hml, hown, hts, hlocks, hK, hN⟩ := id C0
  have htg : ∀ w ∈ GW, w.before args s = true := fun w h => hts w (List.mem_cons_of_mem _ h)
  refine lv_iconst (v := -1) hx hb d_Mo_process_24 (by decide) ?_
  cases hf
  exact q_iret hx hb hr hlocks I d_Mo_process_25
def f_Mo_process (σ : q_St) (p1 : Int32) (p2 : Int32) : Option (Int32 × q_St) := if p1 < 0 then (f_Mo_process_24 (q_up σ 48 0 0)) else (if 7 < p1 then (f_Mo_process_24 (q_up σ 48 0 0)) else (q_grd (q_in p1 8) (if ((q_up σ 48 0 0) 2 p1.toNatClampNeg) = 0 then (f_Mo_process_24 (q_up σ 48 0 0)) else (if p2 = (0 : Int32) then (q_grd (q_in p1 8) (some ((q_up σ 48 0 0) 2 p1.toNatClampNeg, q_up σ 48 0 0))) else (if p2 = (1 : Int32) then (q_grd (q_in p1 8) (some ((q_up σ 48 0 0) 3 p1.toNatClampNeg, q_up σ 48 0 0))) else (if p2 = (2 : Int32) then (q_grd (q_in p1 8) (some ((q_up σ 48 0 0) 5 p1.toNatClampNeg, q_up σ 48 0 0))) else (if p2 = (3 : Int32) then (q_grd (q_in p1 8) (some ((q_up σ 48 0 0) 6 p1.toNatClampNeg, q_up σ 48 0 0))) else (if p2 = (4 : Int32) then (q_grd (q_in p1 8) (some ((q_up σ 48 0 0) 8 p1.toNatClampNeg, q_up σ 48 0 0))) else (if p2 = (5 : Int32) then (q_grd (q_in p1 8) (some ((q_up σ 48 0 0) 9 p1.toNatClampNeg, q_up σ 48 0 0))) else (if p2 = (6 : Int32) then (q_grd (q_in p1 8) (some ((q_up σ 48 0 0) 10 p1.toNatClampNeg, q_up σ 48 0 0))) else (if p2 = (7 : Int32) then (q_grd (q_in p1 8) (some ((q_up σ 48 0 0) 11 p1.toNatClampNeg, q_up σ 48 0 0))) else (if p2 = (8 : Int32) then (q_grd (q_in p1 8) (some ((q_up σ 48 0 0) 7 p1.toNatClampNeg, q_up σ 48 0 0))) else (some (-1, q_up σ 48 0 0))))))))))))))
set_option maxHeartbeats 4000000 in
set_option maxRecDepth 100000 in
theorem c_Mo_process {l : Launch} {D : va_G} {ad : Nat → Nat} {cs : Nat → ClassId} {sz : Nat} {σ : q_St} {p1 : Int32} {p2 : Int32} {res : (Int32 × q_St)} (hf : f_Mo_process σ p1 p2 = some res) : Met l y_Mo_process w_Mo_process ({ frames := 0, cells := 0, slots := 0, locals := 0 } : Room) (q_Pre D vwCl (tyL cs) NW [.ref (ad 0), .int p1, .int p2] (q_ws 23 ad (cM ad cs σ)) sz) (q_Qi D vwCl res.1 (q_ws 23 ad (cM ad cs res.2)) (va_A (q_ws 23 ad (cM ad cs σ)) sz)) 0 0 (va_A (q_ws 23 ad (cM ad cs σ)) sz) := by
  refine Met.ofW (cc := b_Mo_process) (maxL := 3) (ret := (some .int)) (by decide) rfl ?_
  intro p e s m args below meth c s₁ B hml hv
  obtain ⟨hargs, hsz, hP, hK, hD0, hN⟩ := hv
  have hx := B.exec
  have hb := B.bytes
  have hr := B.returns
  have hts := atoms_spec (ws := w_Mo_process) B.pre
  have hown : s.vm.findClass "JobTerminalModel" = some m.cls := findClass_of_methodNamed B.named
  have hlocks := B.notSynchronized
  have htg : ∀ w ∈ GW, w.before args s = true := fun w h => hts w (List.mem_cons_of_mem _ h)
  subst hsz
  have hD := hD0.self (sz := s.heap.size)
  generalize hAe : va_A (q_ws 23 ad (cM ad cs σ)) s.heap.size = A at hD ⊢
  have hA : ∀ q : Nat, s.heap.size ≤ q → A q := fun q h => by rw [← hAe]; exact Or.inr h
  have I : q_I D vwCl A s.heap (q_ws 23 ad (cM ad cs σ)) s.heap [] := ⟨hP, hD, va_S.rf⟩
  obtain ⟨ls, hen, hl⟩ := q_entry (vs := [.ref (ad 0), .int p1, .int p2]) (n := 3) (lv := [(0, .ref (ad 0)), (1, .int p1), (2, .int p2)]) (by intro v hv; simp only [List.mem_cons, List.not_mem_nil, or_false] at hv; rcases hv with rfl | rfl | rfl <;> first | rfl | exact q_cat) (Nat.le_of_ble_eq_true rfl) rfl
  rw [show entryFrame m args 3 = F0 m 0 ls [] from by rw [hargs]; exact hen m]
  have C0 : q_Cx "JobTerminalModel" b_Mo_process 3 (some .int) w_Mo_process D vwCl (tyL cs) NW p s m args meth c := ⟨hx, hb, hr, hml, hown, hts, hlocks, hK, hN⟩
  unfold f_Mo_process at hf
  have hgo : ∀ (H : Heap) (locs : List Loc), q_I D vwCl A s.heap (q_ws 23 ad (cM ad cs σ)) H locs → W p l e ({ frames := 0, cells := 0, slots := 0, locals := 0 } : Room) s m args below meth c H locs 0 0 (MQ below (q_Qi D vwCl res.1 (q_ws 23 ad (cM ad cs res.2)) A) args s 0 0 A) (F0 m 0 ls []) := by
    intro H locs I
    refine lv_aload_n hx hb d_Mo_process_0 rfl (q_at hl 0 rfl) ?_
    refine lv_iconst (v := 0) hx hb d_Mo_process_1 (by decide) ?_
    refine P_Mo_Mo_code hx hb htg hown hK hN I d_Mo_process_2 (fun H locs I => ?_)
    refine lv_iload_n hx hb d_Mo_process_5 rfl (q_at hl 1 rfl) ?_
    refine lv_if_lt (tgt := 24) hx hb d_Mo_process_6 (by decide) (fun c1 => ?_) (fun c1 => ?_)
    · rw [if_pos c1] at hf
      exact k_Mo_process_24 C0 hA res (q_up σ 48 0 0) hf H locs I ls (q_hsub hl [] rfl)
    · rw [if_neg c1] at hf
      refine lv_iload_n hx hb d_Mo_process_9 rfl (q_at hl 1 rfl) ?_
      refine lv_bipush (v := 7) hx hb d_Mo_process_10 (by decide) ?_
      refine lv_icmp_gt (tgt := 24) hx hb d_Mo_process_12 (by decide) (fun c2 => ?_) (fun c2 => ?_)
      · rw [if_pos c2] at hf
        exact k_Mo_process_24 C0 hA res (q_up σ 48 0 0) hf H locs I ls (q_hsub hl [] rfl)
      · rw [if_neg c2] at hf
        refine lv_aload_n hx hb d_Mo_process_15 rfl (q_at hl 0 rfl) ?_
        refine G_Mo_Mo_state hx hb htg hown hK hN I d_Mo_process_16 ?_
        refine lv_iload_n hx hb d_Mo_process_19 rfl (q_at hl 1 rfl) ?_
        obtain ⟨o3, hf⟩ := q_grd_some hf
        refine A_M_state hx hb hK I o3 d_Mo_process_20 ?_
        refine lv_if_ne (tgt := 26) hx hb d_Mo_process_21 (by decide) (fun c4 => ?_) (fun c4 => ?_)
        · rw [if_neg c4] at hf
          refine lv_iload_n hx hb d_Mo_process_26 rfl (q_at hl 2 rfl) ?_
          by_cases c5 : p2 = (0 : Int32)
          · rw [if_pos c5] at hf
            refine lv_tableIn (tgt := 76) hx hb d_Mo_process_27 (by rw [c5] <;> decide) (by rw [c5] <;> decide) (by rw [c5] <;> rfl) (by decide) ?_
            refine lv_aload_n hx hb d_Mo_process_76 rfl (q_at hl 0 rfl) ?_
            refine G_Mo_Mo_state hx hb htg hown hK hN I d_Mo_process_77 ?_
            refine lv_iload_n hx hb d_Mo_process_80 rfl (q_at hl 1 rfl) ?_
            obtain ⟨o6, hf⟩ := q_grd_some hf
            refine A_M_state hx hb hK I o6 d_Mo_process_81 ?_
            cases hf
            exact q_iret hx hb hr hlocks I d_Mo_process_82
          rw [if_neg c5] at hf
          by_cases c7 : p2 = (1 : Int32)
          · rw [if_pos c7] at hf
            refine lv_tableIn (tgt := 83) hx hb d_Mo_process_27 (by rw [c7] <;> decide) (by rw [c7] <;> decide) (by rw [c7] <;> rfl) (by decide) ?_
            refine lv_aload_n hx hb d_Mo_process_83 rfl (q_at hl 0 rfl) ?_
            refine G_Mo_Mo_jobOf hx hb htg hown hK hN I d_Mo_process_84 ?_
            refine lv_iload_n hx hb d_Mo_process_87 rfl (q_at hl 1 rfl) ?_
            obtain ⟨o8, hf⟩ := q_grd_some hf
            refine A_M_jobOf hx hb hK I o8 d_Mo_process_88 ?_
            cases hf
            exact q_iret hx hb hr hlocks I d_Mo_process_89
          rw [if_neg c7] at hf
          by_cases c9 : p2 = (2 : Int32)
          · rw [if_pos c9] at hf
            refine lv_tableIn (tgt := 90) hx hb d_Mo_process_27 (by rw [c9] <;> decide) (by rw [c9] <;> decide) (by rw [c9] <;> rfl) (by decide) ?_
            refine lv_aload_n hx hb d_Mo_process_90 rfl (q_at hl 0 rfl) ?_
            refine G_Mo_Mo_line hx hb htg hown hK hN I d_Mo_process_91 ?_
            refine lv_iload_n hx hb d_Mo_process_94 rfl (q_at hl 1 rfl) ?_
            obtain ⟨o10, hf⟩ := q_grd_some hf
            refine A_M_line hx hb hK I o10 d_Mo_process_95 ?_
            cases hf
            exact q_iret hx hb hr hlocks I d_Mo_process_96
          rw [if_neg c9] at hf
          by_cases c11 : p2 = (3 : Int32)
          · rw [if_pos c11] at hf
            refine lv_tableIn (tgt := 97) hx hb d_Mo_process_27 (by rw [c11] <;> decide) (by rw [c11] <;> decide) (by rw [c11] <;> rfl) (by decide) ?_
            refine lv_aload_n hx hb d_Mo_process_97 rfl (q_at hl 0 rfl) ?_
            refine G_Mo_Mo_register hx hb htg hown hK hN I d_Mo_process_98 ?_
            refine lv_iload_n hx hb d_Mo_process_101 rfl (q_at hl 1 rfl) ?_
            obtain ⟨o12, hf⟩ := q_grd_some hf
            refine A_M_register hx hb hK I o12 d_Mo_process_102 ?_
            cases hf
            exact q_iret hx hb hr hlocks I d_Mo_process_103
          rw [if_neg c11] at hf
          by_cases c13 : p2 = (4 : Int32)
          · rw [if_pos c13] at hf
            refine lv_tableIn (tgt := 104) hx hb d_Mo_process_27 (by rw [c13] <;> decide) (by rw [c13] <;> decide) (by rw [c13] <;> rfl) (by decide) ?_
            refine lv_aload_n hx hb d_Mo_process_104 rfl (q_at hl 0 rfl) ?_
            refine G_Mo_Mo_pending hx hb htg hown hK hN I d_Mo_process_105 ?_
            refine lv_iload_n hx hb d_Mo_process_108 rfl (q_at hl 1 rfl) ?_
            obtain ⟨o14, hf⟩ := q_grd_some hf
            refine A_M_pending hx hb hK I o14 d_Mo_process_109 ?_
            cases hf
            exact q_iret hx hb hr hlocks I d_Mo_process_110
          rw [if_neg c13] at hf
          by_cases c15 : p2 = (5 : Int32)
          · rw [if_pos c15] at hf
            refine lv_tableIn (tgt := 111) hx hb d_Mo_process_27 (by rw [c15] <;> decide) (by rw [c15] <;> decide) (by rw [c15] <;> rfl) (by decide) ?_
            refine lv_aload_n hx hb d_Mo_process_111 rfl (q_at hl 0 rfl) ?_
            refine G_Mo_Mo_blocked hx hb htg hown hK hN I d_Mo_process_112 ?_
            refine lv_iload_n hx hb d_Mo_process_115 rfl (q_at hl 1 rfl) ?_
            obtain ⟨o16, hf⟩ := q_grd_some hf
            refine A_M_blocked hx hb hK I o16 d_Mo_process_116 ?_
            cases hf
            exact q_iret hx hb hr hlocks I d_Mo_process_117
          rw [if_neg c15] at hf
          by_cases c17 : p2 = (6 : Int32)
          · rw [if_pos c17] at hf
            refine lv_tableIn (tgt := 118) hx hb d_Mo_process_27 (by rw [c17] <;> decide) (by rw [c17] <;> decide) (by rw [c17] <;> rfl) (by decide) ?_
            refine lv_aload_n hx hb d_Mo_process_118 rfl (q_at hl 0 rfl) ?_
            refine G_Mo_Mo_ignored hx hb htg hown hK hN I d_Mo_process_119 ?_
            refine lv_iload_n hx hb d_Mo_process_122 rfl (q_at hl 1 rfl) ?_
            obtain ⟨o18, hf⟩ := q_grd_some hf
            refine A_M_ignored hx hb hK I o18 d_Mo_process_123 ?_
            cases hf
            exact q_iret hx hb hr hlocks I d_Mo_process_124
          rw [if_neg c17] at hf
          by_cases c19 : p2 = (7 : Int32)
          · rw [if_pos c19] at hf
            refine lv_tableIn (tgt := 125) hx hb d_Mo_process_27 (by rw [c19] <;> decide) (by rw [c19] <;> decide) (by rw [c19] <;> rfl) (by decide) ?_
            refine lv_aload_n hx hb d_Mo_process_125 rfl (q_at hl 0 rfl) ?_
            refine G_Mo_Mo_nap hx hb htg hown hK hN I d_Mo_process_126 ?_
            refine lv_iload_n hx hb d_Mo_process_129 rfl (q_at hl 1 rfl) ?_
            obtain ⟨o20, hf⟩ := q_grd_some hf
            refine A_M_nap hx hb hK I o20 d_Mo_process_130 ?_
            cases hf
            exact q_iret hx hb hr hlocks I d_Mo_process_131
          rw [if_neg c19] at hf
          by_cases c21 : p2 = (8 : Int32)
          · rw [if_pos c21] at hf
            refine lv_tableIn (tgt := 132) hx hb d_Mo_process_27 (by rw [c21] <;> decide) (by rw [c21] <;> decide) (by rw [c21] <;> rfl) (by decide) ?_
            refine lv_aload_n hx hb d_Mo_process_132 rfl (q_at hl 0 rfl) ?_
            refine G_Mo_Mo_ends hx hb htg hown hK hN I d_Mo_process_133 ?_
            refine lv_iload_n hx hb d_Mo_process_136 rfl (q_at hl 1 rfl) ?_
            obtain ⟨o22, hf⟩ := q_grd_some hf
            refine A_M_ends hx hb hK I o22 d_Mo_process_137 ?_
            cases hf
            exact q_iret hx hb hr hlocks I d_Mo_process_138
          rw [if_neg c21] at hf
          refine lv_tableOut (tgt := 139) hx hb d_Mo_process_27 (by have := lv_neT (a := 0) c5 (by decide); have := lv_neT (a := 1) c7 (by decide); have := lv_neT (a := 2) c9 (by decide); have := lv_neT (a := 3) c11 (by decide); have := lv_neT (a := 4) c13 (by decide); have := lv_neT (a := 5) c15 (by decide); have := lv_neT (a := 6) c17 (by decide); have := lv_neT (a := 7) c19 (by decide); have := lv_neT (a := 8) c21 (by decide); omega) (by decide) ?_
          refine lv_iconst (v := -1) hx hb d_Mo_process_139 (by decide) ?_
          cases hf
          exact q_iret hx hb hr hlocks I d_Mo_process_140
        · rw [if_pos c4] at hf
          exact k_Mo_process_24 C0 hA res (q_up σ 48 0 0) hf H locs I ls (q_hsub hl [] rfl)
  exact hgo _ _ I
-- JobTerminalModel shown
def f_Mo_shown (σ : q_St) : Option (Int32 × q_St) := some ((q_up σ 48 0 0) 46 0, q_up σ 48 0 0)
set_option maxHeartbeats 4000000 in
set_option maxRecDepth 100000 in
theorem c_Mo_shown {l : Launch} {D : va_G} {ad : Nat → Nat} {cs : Nat → ClassId} {sz : Nat} {σ : q_St} {res : (Int32 × q_St)} (hf : f_Mo_shown σ  = some res) : Met l y_Mo_shown w_Mo_shown ({ frames := 0, cells := 0, slots := 0, locals := 0 } : Room) (q_Pre D vwCl (tyL cs) NW [.ref (ad 0)] (q_ws 23 ad (cM ad cs σ)) sz) (q_Qi D vwCl res.1 (q_ws 23 ad (cM ad cs res.2)) (va_A (q_ws 23 ad (cM ad cs σ)) sz)) 0 0 (va_A (q_ws 23 ad (cM ad cs σ)) sz) := by
  refine Met.ofW (cc := b_Mo_shown) (maxL := 1) (ret := (some .int)) (by decide) rfl ?_
  intro p e s m args below meth c s₁ B hml hv
  obtain ⟨hargs, hsz, hP, hK, hD0, hN⟩ := hv
  have hx := B.exec
  have hb := B.bytes
  have hr := B.returns
  have hts := atoms_spec (ws := w_Mo_shown) B.pre
  have hown : s.vm.findClass "JobTerminalModel" = some m.cls := findClass_of_methodNamed B.named
  have hlocks := B.notSynchronized
  have htg : ∀ w ∈ GW, w.before args s = true := fun w h => hts w (List.mem_cons_of_mem _ h)
  subst hsz
  have hD := hD0.self (sz := s.heap.size)
  generalize hAe : va_A (q_ws 23 ad (cM ad cs σ)) s.heap.size = A at hD ⊢
  have hA : ∀ q : Nat, s.heap.size ≤ q → A q := fun q h => by rw [← hAe]; exact Or.inr h
  have I : q_I D vwCl A s.heap (q_ws 23 ad (cM ad cs σ)) s.heap [] := ⟨hP, hD, va_S.rf⟩
  obtain ⟨ls, hen, hl⟩ := q_entry (vs := [.ref (ad 0)]) (n := 1) (lv := [(0, .ref (ad 0))]) (by intro v hv; simp only [List.mem_cons, List.not_mem_nil, or_false] at hv; rcases hv with rfl <;> first | rfl | exact q_cat) (Nat.le_of_ble_eq_true rfl) rfl
  rw [show entryFrame m args 1 = F0 m 0 ls [] from by rw [hargs]; exact hen m]
  have C0 : q_Cx "JobTerminalModel" b_Mo_shown 1 (some .int) w_Mo_shown D vwCl (tyL cs) NW p s m args meth c := ⟨hx, hb, hr, hml, hown, hts, hlocks, hK, hN⟩
  unfold f_Mo_shown at hf
  have hgo : ∀ (H : Heap) (locs : List Loc), q_I D vwCl A s.heap (q_ws 23 ad (cM ad cs σ)) H locs → W p l e ({ frames := 0, cells := 0, slots := 0, locals := 0 } : Room) s m args below meth c H locs 0 0 (MQ below (q_Qi D vwCl res.1 (q_ws 23 ad (cM ad cs res.2)) A) args s 0 0 A) (F0 m 0 ls []) := by
    intro H locs I
    refine lv_aload_n hx hb d_Mo_shown_0 rfl (q_at hl 0 rfl) ?_
    refine lv_iconst (v := 0) hx hb d_Mo_shown_1 (by decide) ?_
    refine P_Mo_Mo_code hx hb htg hown hK hN I d_Mo_shown_2 (fun H locs I => ?_)
    refine lv_aload_n hx hb d_Mo_shown_5 rfl (q_at hl 0 rfl) ?_
    refine G_Mo_Mo_shows hx hb htg hown hK hN I d_Mo_shown_6 ?_
    cases hf
    exact q_iret hx hb hr hlocks I d_Mo_shown_9
  exact hgo _ _ I
-- JobTerminalModel screen
def f_Mo_screen_43 (σ : q_St) (y0 : Int32) : Option (Int32 × q_St) := some (y0, σ)
set_option maxHeartbeats 4000000 in
set_option maxRecDepth 100000 in
theorem k_Mo_screen_43 {p : Program} {l : Launch} {e : Env} {s : State} {m : MethodId} {args : Array Value} {below : List Frame} {meth : Method} {c : Code} {D : va_G} {A : Nat → Prop} {ad : Nat → Nat} {cs : Nat → ClassId} (C0 : q_Cx "JobTerminalModel" b_Mo_screen 2 (some .int) w_Mo_screen D vwCl (tyL cs) NW p s m args meth c) (hA : ∀ q, s.heap.size ≤ q → A q) (res : (Int32 × q_St)) : ∀ (σ : q_St) (y0 : Int32) , f_Mo_screen_43 σ y0 = some res → ∀ (H : Heap) (locs : List Loc), q_I D vwCl A s.heap (q_ws 23 ad (cM ad cs σ)) H locs → ∀ ls : Array Slot, q_has ls 2 [] → W p l e ({ frames := 0, cells := 0, slots := 0, locals := 0 } : Room) s m args below meth c H locs 0 0 (MQ below (q_Qi D vwCl res.1 (q_ws 23 ad (cM ad cs res.2)) A) args s 0 0 A) (F0 m 43 ls [.int y0]) := by
  intro σ y0 hf H locs I ls hl
  unfold f_Mo_screen_43 at hf
  obtain ⟨hx, hb, hr, hml, hown, hts, hlocks, hK, hN⟩ := id C0
  have htg : ∀ w ∈ GW, w.before args s = true := fun w h => hts w (List.mem_cons_of_mem _ h)
  cases hf
  exact q_iret hx hb hr hlocks I d_Mo_screen_43
def f_Mo_screen_23 (σ : q_St) : Option (Int32 × q_St) := f_Mo_screen_43 σ (-1)
set_option maxHeartbeats 4000000 in
set_option maxRecDepth 100000 in
theorem k_Mo_screen_23 {p : Program} {l : Launch} {e : Env} {s : State} {m : MethodId} {args : Array Value} {below : List Frame} {meth : Method} {c : Code} {D : va_G} {A : Nat → Prop} {ad : Nat → Nat} {cs : Nat → ClassId} (C0 : q_Cx "JobTerminalModel" b_Mo_screen 2 (some .int) w_Mo_screen D vwCl (tyL cs) NW p s m args meth c) (hA : ∀ q, s.heap.size ≤ q → A q) (res : (Int32 × q_St)) : ∀ (σ : q_St) , f_Mo_screen_23 σ  = some res → ∀ (H : Heap) (locs : List Loc), q_I D vwCl A s.heap (q_ws 23 ad (cM ad cs σ)) H locs → ∀ ls : Array Slot, q_has ls 2 [] → W p l e ({ frames := 0, cells := 0, slots := 0, locals := 0 } : Room) s m args below meth c H locs 0 0 (MQ below (q_Qi D vwCl res.1 (q_ws 23 ad (cM ad cs res.2)) A) args s 0 0 A) (F0 m 23 ls []) := by
  intro σ  hf H locs I ls hl
  unfold f_Mo_screen_23 at hf
  obtain ⟨hx, hb, hr, hml, hown, hts, hlocks, hK, hN⟩ := id C0
  have htg : ∀ w ∈ GW, w.before args s = true := fun w h => hts w (List.mem_cons_of_mem _ h)
  refine lv_iconst (v := -1) hx hb d_Mo_screen_23 (by decide) ?_
  refine lv_goto (tgt := 43) hx hb d_Mo_screen_24 (by decide) ?_
  exact k_Mo_screen_43 C0 hA res σ (-1) hf H locs I ls (q_hsub hl [] rfl)
def f_Mo_screen (σ : q_St) (p1 : Int32) : Option (Int32 × q_St) := if p1 < 0 then (f_Mo_screen_23 (q_up σ 48 0 0)) else (if 99 < p1 then (f_Mo_screen_23 (q_up σ 48 0 0)) else (if p1 < ((q_up σ 48 0 0) 46 0) then (q_grd (q_in (((((q_up σ 48 0 0) 46 0) - 1) - p1) - ((((q_up σ 48 0 0) 46 0) - 1) - p1) / 100 * 100) 100) (f_Mo_screen_43 (q_up σ 48 0 0) ((q_up σ 48 0 0) 21 (((((q_up σ 48 0 0) 46 0) - 1) - p1) - ((((q_up σ 48 0 0) 46 0) - 1) - p1) / 100 * 100).toNatClampNeg))) else (f_Mo_screen_23 (q_up σ 48 0 0))))
set_option maxHeartbeats 4000000 in
set_option maxRecDepth 100000 in
theorem c_Mo_screen {l : Launch} {D : va_G} {ad : Nat → Nat} {cs : Nat → ClassId} {sz : Nat} {σ : q_St} {p1 : Int32} {res : (Int32 × q_St)} (hf : f_Mo_screen σ p1 = some res) : Met l y_Mo_screen w_Mo_screen ({ frames := 0, cells := 0, slots := 0, locals := 0 } : Room) (q_Pre D vwCl (tyL cs) NW [.ref (ad 0), .int p1] (q_ws 23 ad (cM ad cs σ)) sz) (q_Qi D vwCl res.1 (q_ws 23 ad (cM ad cs res.2)) (va_A (q_ws 23 ad (cM ad cs σ)) sz)) 0 0 (va_A (q_ws 23 ad (cM ad cs σ)) sz) := by
  refine Met.ofW (cc := b_Mo_screen) (maxL := 2) (ret := (some .int)) (by decide) rfl ?_
  intro p e s m args below meth c s₁ B hml hv
  obtain ⟨hargs, hsz, hP, hK, hD0, hN⟩ := hv
  have hx := B.exec
  have hb := B.bytes
  have hr := B.returns
  have hts := atoms_spec (ws := w_Mo_screen) B.pre
  have hown : s.vm.findClass "JobTerminalModel" = some m.cls := findClass_of_methodNamed B.named
  have hlocks := B.notSynchronized
  have htg : ∀ w ∈ GW, w.before args s = true := fun w h => hts w (List.mem_cons_of_mem _ h)
  subst hsz
  have hD := hD0.self (sz := s.heap.size)
  generalize hAe : va_A (q_ws 23 ad (cM ad cs σ)) s.heap.size = A at hD ⊢
  have hA : ∀ q : Nat, s.heap.size ≤ q → A q := fun q h => by rw [← hAe]; exact Or.inr h
  have I : q_I D vwCl A s.heap (q_ws 23 ad (cM ad cs σ)) s.heap [] := ⟨hP, hD, va_S.rf⟩
  obtain ⟨ls, hen, hl⟩ := q_entry (vs := [.ref (ad 0), .int p1]) (n := 2) (lv := [(0, .ref (ad 0)), (1, .int p1)]) (by intro v hv; simp only [List.mem_cons, List.not_mem_nil, or_false] at hv; rcases hv with rfl | rfl <;> first | rfl | exact q_cat) (Nat.le_of_ble_eq_true rfl) rfl
  rw [show entryFrame m args 2 = F0 m 0 ls [] from by rw [hargs]; exact hen m]
  have C0 : q_Cx "JobTerminalModel" b_Mo_screen 2 (some .int) w_Mo_screen D vwCl (tyL cs) NW p s m args meth c := ⟨hx, hb, hr, hml, hown, hts, hlocks, hK, hN⟩
  unfold f_Mo_screen at hf
  have hgo : ∀ (H : Heap) (locs : List Loc), q_I D vwCl A s.heap (q_ws 23 ad (cM ad cs σ)) H locs → W p l e ({ frames := 0, cells := 0, slots := 0, locals := 0 } : Room) s m args below meth c H locs 0 0 (MQ below (q_Qi D vwCl res.1 (q_ws 23 ad (cM ad cs res.2)) A) args s 0 0 A) (F0 m 0 ls []) := by
    intro H locs I
    refine lv_aload_n hx hb d_Mo_screen_0 rfl (q_at hl 0 rfl) ?_
    refine lv_iconst (v := 0) hx hb d_Mo_screen_1 (by decide) ?_
    refine P_Mo_Mo_code hx hb htg hown hK hN I d_Mo_screen_2 (fun H locs I => ?_)
    refine lv_iload_n hx hb d_Mo_screen_5 rfl (q_at hl 1 rfl) ?_
    refine lv_if_lt (tgt := 23) hx hb d_Mo_screen_6 (by decide) (fun c1 => ?_) (fun c1 => ?_)
    · rw [if_pos c1] at hf
      exact k_Mo_screen_23 C0 hA res (q_up σ 48 0 0) hf H locs I ls (q_hsub hl [] rfl)
    · rw [if_neg c1] at hf
      refine lv_iload_n hx hb d_Mo_screen_9 rfl (q_at hl 1 rfl) ?_
      refine lv_bipush (v := 99) hx hb d_Mo_screen_10 (by decide) ?_
      refine lv_icmp_gt (tgt := 23) hx hb d_Mo_screen_12 (by decide) (fun c2 => ?_) (fun c2 => ?_)
      · rw [if_pos c2] at hf
        exact k_Mo_screen_23 C0 hA res (q_up σ 48 0 0) hf H locs I ls (q_hsub hl [] rfl)
      · rw [if_neg c2] at hf
        refine lv_iload_n hx hb d_Mo_screen_15 rfl (q_at hl 1 rfl) ?_
        refine lv_aload_n hx hb d_Mo_screen_16 rfl (q_at hl 0 rfl) ?_
        refine G_Mo_Mo_shows hx hb htg hown hK hN I d_Mo_screen_17 ?_
        refine lv_icmp_lt (tgt := 27) hx hb d_Mo_screen_20 (by decide) (fun c3 => ?_) (fun c3 => ?_)
        · rw [if_pos c3] at hf
          refine lv_aload_n hx hb d_Mo_screen_27 rfl (q_at hl 0 rfl) ?_
          refine G_Mo_Mo_screen hx hb htg hown hK hN I d_Mo_screen_28 ?_
          refine lv_aload_n hx hb d_Mo_screen_31 rfl (q_at hl 0 rfl) ?_
          refine G_Mo_Mo_shows hx hb htg hown hK hN I d_Mo_screen_32 ?_
          refine lv_iconst (v := 1) hx hb d_Mo_screen_35 (by decide) ?_
          refine lv_isub hx hb d_Mo_screen_36 ?_
          refine lv_iload_n hx hb d_Mo_screen_37 rfl (q_at hl 1 rfl) ?_
          refine lv_isub hx hb d_Mo_screen_38 ?_
          refine lv_bipush (v := 100) hx hb d_Mo_screen_39 (by decide) ?_
          refine lv_irem hx hb d_Mo_screen_41 (by decide) ?_
          obtain ⟨o4, hf⟩ := q_grd_some hf
          refine A_M_screen hx hb hK I o4 d_Mo_screen_42 ?_
          exact k_Mo_screen_43 C0 hA res (q_up σ 48 0 0) ((q_up σ 48 0 0) 21 (((((q_up σ 48 0 0) 46 0) - 1) - p1) - ((((q_up σ 48 0 0) 46 0) - 1) - p1) / 100 * 100).toNatClampNeg) hf H locs I ls (q_hsub hl [] rfl)
        · rw [if_neg c3] at hf
          exact k_Mo_screen_23 C0 hA res (q_up σ 48 0 0) hf H locs I ls (q_hsub hl [] rfl)
  exact hgo _ _ I
-- JobTerminalModel held
def f_Mo_held_71 (σ : q_St) (y0 : Int32) : Option (Int32 × q_St) := some (y0, σ)
set_option maxHeartbeats 4000000 in
set_option maxRecDepth 100000 in
theorem k_Mo_held_71 {p : Program} {l : Launch} {e : Env} {s : State} {m : MethodId} {args : Array Value} {below : List Frame} {meth : Method} {c : Code} {D : va_G} {A : Nat → Prop} {ad : Nat → Nat} {cs : Nat → ClassId} (C0 : q_Cx "JobTerminalModel" b_Mo_held 3 (some .int) w_Mo_held D vwCl (tyL cs) NW p s m args meth c) (hA : ∀ q, s.heap.size ≤ q → A q) (res : (Int32 × q_St)) : ∀ (σ : q_St) (y0 : Int32) , f_Mo_held_71 σ y0 = some res → ∀ (H : Heap) (locs : List Loc), q_I D vwCl A s.heap (q_ws 23 ad (cM ad cs σ)) H locs → ∀ ls : Array Slot, q_has ls 3 [] → W p l e ({ frames := 0, cells := 0, slots := 0, locals := 0 } : Room) s m args below meth c H locs 0 0 (MQ below (q_Qi D vwCl res.1 (q_ws 23 ad (cM ad cs res.2)) A) args s 0 0 A) (F0 m 71 ls [.int y0]) := by
  intro σ y0 hf H locs I ls hl
  unfold f_Mo_held_71 at hf
  obtain ⟨hx, hb, hr, hml, hown, hts, hlocks, hK, hN⟩ := id C0
  have htg : ∀ w ∈ GW, w.before args s = true := fun w h => hts w (List.mem_cons_of_mem _ h)
  cases hf
  exact q_iret hx hb hr hlocks I d_Mo_held_71
def f_Mo_held_70 (σ : q_St) : Option (Int32 × q_St) := f_Mo_held_71 σ (-1)
set_option maxHeartbeats 4000000 in
set_option maxRecDepth 100000 in
theorem k_Mo_held_70 {p : Program} {l : Launch} {e : Env} {s : State} {m : MethodId} {args : Array Value} {below : List Frame} {meth : Method} {c : Code} {D : va_G} {A : Nat → Prop} {ad : Nat → Nat} {cs : Nat → ClassId} (C0 : q_Cx "JobTerminalModel" b_Mo_held 3 (some .int) w_Mo_held D vwCl (tyL cs) NW p s m args meth c) (hA : ∀ q, s.heap.size ≤ q → A q) (res : (Int32 × q_St)) : ∀ (σ : q_St) , f_Mo_held_70 σ  = some res → ∀ (H : Heap) (locs : List Loc), q_I D vwCl A s.heap (q_ws 23 ad (cM ad cs σ)) H locs → ∀ ls : Array Slot, q_has ls 3 [] → W p l e ({ frames := 0, cells := 0, slots := 0, locals := 0 } : Room) s m args below meth c H locs 0 0 (MQ below (q_Qi D vwCl res.1 (q_ws 23 ad (cM ad cs res.2)) A) args s 0 0 A) (F0 m 70 ls []) := by
  intro σ  hf H locs I ls hl
  unfold f_Mo_held_70 at hf
  obtain ⟨hx, hb, hr, hml, hown, hts, hlocks, hK, hN⟩ := id C0
  have htg : ∀ w ∈ GW, w.before args s = true := fun w h => hts w (List.mem_cons_of_mem _ h)
  refine lv_iconst (v := -1) hx hb d_Mo_held_70 (by decide) ?_
  exact k_Mo_held_71 C0 hA res σ (-1) hf H locs I ls (q_hsub hl [] rfl)
def f_Mo_held_14 (σ : q_St) : Option (Int32 × q_St) := some (-1, σ)
set_option maxHeartbeats 4000000 in
set_option maxRecDepth 100000 in
theorem k_Mo_held_14 {p : Program} {l : Launch} {e : Env} {s : State} {m : MethodId} {args : Array Value} {below : List Frame} {meth : Method} {c : Code} {D : va_G} {A : Nat → Prop} {ad : Nat → Nat} {cs : Nat → ClassId} (C0 : q_Cx "JobTerminalModel" b_Mo_held 3 (some .int) w_Mo_held D vwCl (tyL cs) NW p s m args meth c) (hA : ∀ q, s.heap.size ≤ q → A q) (res : (Int32 × q_St)) : ∀ (σ : q_St) , f_Mo_held_14 σ  = some res → ∀ (H : Heap) (locs : List Loc), q_I D vwCl A s.heap (q_ws 23 ad (cM ad cs σ)) H locs → ∀ ls : Array Slot, q_has ls 3 [] → W p l e ({ frames := 0, cells := 0, slots := 0, locals := 0 } : Room) s m args below meth c H locs 0 0 (MQ below (q_Qi D vwCl res.1 (q_ws 23 ad (cM ad cs res.2)) A) args s 0 0 A) (F0 m 14 ls []) := by
  intro σ  hf H locs I ls hl
  unfold f_Mo_held_14 at hf
  obtain ⟨hx, hb, hr, hml, hown, hts, hlocks, hK, hN⟩ := id C0
  have htg : ∀ w ∈ GW, w.before args s = true := fun w h => hts w (List.mem_cons_of_mem _ h)
  refine lv_iconst (v := -1) hx hb d_Mo_held_14 (by decide) ?_
  cases hf
  exact q_iret hx hb hr hlocks I d_Mo_held_15
def f_Mo_held (σ : q_St) (p1 : Int32) : Option (Int32 × q_St) := if p1 < 0 then (f_Mo_held_14 (q_up σ 48 0 0)) else (if p1 ≤ 5 then (if p1 = 0 then (f_Mo_held_71 (q_up σ 48 0 0) ((q_up σ 48 0 0) 44 0)) else (if p1 = 1 then (f_Mo_held_71 (q_up σ 48 0 0) ((q_up σ 48 0 0) 45 0)) else (q_grd (q_in (p1 - 2) 4) (if ((q_up σ 48 0 0) 12 (p1 - 2).toNatClampNeg) = 0 then (f_Mo_held_70 (q_up σ 48 0 0)) else (q_grd (q_in (p1 - 2) 4) (if ((q_up σ 48 0 0) 14 (p1 - 2).toNatClampNeg) < 0 then (f_Mo_held_70 (q_up σ 48 0 0)) else (q_grd (q_in (p1 - 2) 4) (f_Mo_held_71 (q_up σ 48 0 0) ((q_up σ 48 0 0) 17 (p1 - 2).toNatClampNeg))))))))) else (f_Mo_held_14 (q_up σ 48 0 0)))
set_option maxHeartbeats 4000000 in
set_option maxRecDepth 100000 in
theorem c_Mo_held {l : Launch} {D : va_G} {ad : Nat → Nat} {cs : Nat → ClassId} {sz : Nat} {σ : q_St} {p1 : Int32} {res : (Int32 × q_St)} (hf : f_Mo_held σ p1 = some res) : Met l y_Mo_held w_Mo_held ({ frames := 0, cells := 0, slots := 0, locals := 0 } : Room) (q_Pre D vwCl (tyL cs) NW [.ref (ad 0), .int p1] (q_ws 23 ad (cM ad cs σ)) sz) (q_Qi D vwCl res.1 (q_ws 23 ad (cM ad cs res.2)) (va_A (q_ws 23 ad (cM ad cs σ)) sz)) 0 0 (va_A (q_ws 23 ad (cM ad cs σ)) sz) := by
  refine Met.ofW (cc := b_Mo_held) (maxL := 3) (ret := (some .int)) (by decide) rfl ?_
  intro p e s m args below meth c s₁ B hml hv
  obtain ⟨hargs, hsz, hP, hK, hD0, hN⟩ := hv
  have hx := B.exec
  have hb := B.bytes
  have hr := B.returns
  have hts := atoms_spec (ws := w_Mo_held) B.pre
  have hown : s.vm.findClass "JobTerminalModel" = some m.cls := findClass_of_methodNamed B.named
  have hlocks := B.notSynchronized
  have htg : ∀ w ∈ GW, w.before args s = true := fun w h => hts w (List.mem_cons_of_mem _ h)
  subst hsz
  have hD := hD0.self (sz := s.heap.size)
  generalize hAe : va_A (q_ws 23 ad (cM ad cs σ)) s.heap.size = A at hD ⊢
  have hA : ∀ q : Nat, s.heap.size ≤ q → A q := fun q h => by rw [← hAe]; exact Or.inr h
  have I : q_I D vwCl A s.heap (q_ws 23 ad (cM ad cs σ)) s.heap [] := ⟨hP, hD, va_S.rf⟩
  obtain ⟨ls, hen, hl⟩ := q_entry (vs := [.ref (ad 0), .int p1]) (n := 3) (lv := [(0, .ref (ad 0)), (1, .int p1)]) (by intro v hv; simp only [List.mem_cons, List.not_mem_nil, or_false] at hv; rcases hv with rfl | rfl <;> first | rfl | exact q_cat) (Nat.le_of_ble_eq_true rfl) rfl
  rw [show entryFrame m args 3 = F0 m 0 ls [] from by rw [hargs]; exact hen m]
  have C0 : q_Cx "JobTerminalModel" b_Mo_held 3 (some .int) w_Mo_held D vwCl (tyL cs) NW p s m args meth c := ⟨hx, hb, hr, hml, hown, hts, hlocks, hK, hN⟩
  unfold f_Mo_held at hf
  have hgo : ∀ (H : Heap) (locs : List Loc), q_I D vwCl A s.heap (q_ws 23 ad (cM ad cs σ)) H locs → W p l e ({ frames := 0, cells := 0, slots := 0, locals := 0 } : Room) s m args below meth c H locs 0 0 (MQ below (q_Qi D vwCl res.1 (q_ws 23 ad (cM ad cs res.2)) A) args s 0 0 A) (F0 m 0 ls []) := by
    intro H locs I
    refine lv_aload_n hx hb d_Mo_held_0 rfl (q_at hl 0 rfl) ?_
    refine lv_iconst (v := 0) hx hb d_Mo_held_1 (by decide) ?_
    refine P_Mo_Mo_code hx hb htg hown hK hN I d_Mo_held_2 (fun H locs I => ?_)
    refine lv_iload_n hx hb d_Mo_held_5 rfl (q_at hl 1 rfl) ?_
    refine lv_if_lt (tgt := 14) hx hb d_Mo_held_6 (by decide) (fun c1 => ?_) (fun c1 => ?_)
    · rw [if_pos c1] at hf
      exact k_Mo_held_14 C0 hA res (q_up σ 48 0 0) hf H locs I ls (q_hsub hl [] rfl)
    · rw [if_neg c1] at hf
      refine lv_iload_n hx hb d_Mo_held_9 rfl (q_at hl 1 rfl) ?_
      refine lv_iconst (v := 5) hx hb d_Mo_held_10 (by decide) ?_
      refine lv_icmp_le (tgt := 16) hx hb d_Mo_held_11 (by decide) (fun c2 => ?_) (fun c2 => ?_)
      · rw [if_pos c2] at hf
        refine lv_iload_n hx hb d_Mo_held_16 rfl (q_at hl 1 rfl) ?_
        refine lv_iconst (v := 2) hx hb d_Mo_held_17 (by decide) ?_
        refine lv_isub hx hb d_Mo_held_18 ?_
        refine q_istore_n (lv' := [(2, .int (p1 - 2)), (0, .ref (ad 0)), (1, .int p1)]) hx hb d_Mo_held_19 rfl hl (by decide) rfl (fun ls hl => ?_)
        refine lv_iload_n hx hb d_Mo_held_20 rfl (q_at hl 2 rfl) ?_
        refine lv_if_ne (tgt := 31) hx hb d_Mo_held_21 (by decide) (fun c3 => ?_) (fun c3 => ?_)
        · rw [if_neg c3] at hf
          refine lv_iload_n hx hb d_Mo_held_31 rfl (q_at hl 2 rfl) ?_
          refine lv_iconst (v := 1) hx hb d_Mo_held_32 (by decide) ?_
          refine lv_icmp_ne (tgt := 43) hx hb d_Mo_held_33 (by decide) (fun c4 => ?_) (fun c4 => ?_)
          · rw [if_neg c4] at hf
            refine lv_aload_n hx hb d_Mo_held_43 rfl (q_at hl 1 rfl) ?_
            refine G_Mo_Mo_there hx hb htg hown hK hN I d_Mo_held_44 ?_
            refine lv_iload_n hx hb d_Mo_held_47 rfl (q_at hl 0 rfl) ?_
            obtain ⟨o5, hf⟩ := q_grd_some hf
            refine A_M_there hx hb hK I o5 d_Mo_held_48 ?_
            refine lv_if_eq (tgt := 70) hx hb d_Mo_held_49 (by decide) (fun c6 => ?_) (fun c6 => ?_)
            · rw [if_pos c6] at hf
              exact k_Mo_held_70 C0 hA res (q_up σ 48 0 0) hf H locs I ls (q_hsub hl [] rfl)
            · rw [if_neg c6] at hf
              refine lv_aload_n hx hb d_Mo_held_52 rfl (q_at hl 1 rfl) ?_
              refine G_Mo_Mo_second hx hb htg hown hK hN I d_Mo_held_53 ?_
              refine lv_iload_n hx hb d_Mo_held_56 rfl (q_at hl 0 rfl) ?_
              obtain ⟨o7, hf⟩ := q_grd_some hf
              refine A_M_second hx hb hK I o7 d_Mo_held_57 ?_
              refine lv_if_lt (tgt := 70) hx hb d_Mo_held_58 (by decide) (fun c8 => ?_) (fun c8 => ?_)
              · rw [if_pos c8] at hf
                exact k_Mo_held_70 C0 hA res (q_up σ 48 0 0) hf H locs I ls (q_hsub hl [] rfl)
              · rw [if_neg c8] at hf
                refine lv_aload_n hx hb d_Mo_held_61 rfl (q_at hl 1 rfl) ?_
                refine G_Mo_Mo_piped hx hb htg hown hK hN I d_Mo_held_62 ?_
                refine lv_iload_n hx hb d_Mo_held_65 rfl (q_at hl 0 rfl) ?_
                obtain ⟨o9, hf⟩ := q_grd_some hf
                refine A_M_piped hx hb hK I o9 d_Mo_held_66 ?_
                refine lv_goto (tgt := 71) hx hb d_Mo_held_67 (by decide) ?_
                exact k_Mo_held_71 C0 hA res (q_up σ 48 0 0) ((q_up σ 48 0 0) 17 (p1 - 2).toNatClampNeg) hf H locs I ls (q_hsub hl [] rfl)
          · rw [if_pos c4] at hf
            refine lv_aload_n hx hb d_Mo_held_36 rfl (q_at hl 1 rfl) ?_
            refine G_Mo_Mo_queued hx hb htg hown hK hN I d_Mo_held_37 ?_
            refine lv_goto (tgt := 71) hx hb d_Mo_held_40 (by decide) ?_
            exact k_Mo_held_71 C0 hA res (q_up σ 48 0 0) ((q_up σ 48 0 0) 45 0) hf H locs I ls (q_hsub hl [] rfl)
        · rw [if_pos c3] at hf
          refine lv_aload_n hx hb d_Mo_held_24 rfl (q_at hl 1 rfl) ?_
          refine G_Mo_Mo_edited hx hb htg hown hK hN I d_Mo_held_25 ?_
          refine lv_goto (tgt := 71) hx hb d_Mo_held_28 (by decide) ?_
          exact k_Mo_held_71 C0 hA res (q_up σ 48 0 0) ((q_up σ 48 0 0) 44 0) hf H locs I ls (q_hsub hl [] rfl)
      · rw [if_neg c2] at hf
        exact k_Mo_held_14 C0 hA res (q_up σ 48 0 0) hf H locs I ls (q_hsub hl [] rfl)
  exact hgo _ _ I
