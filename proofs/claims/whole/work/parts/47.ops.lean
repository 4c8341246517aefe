/-! ONE OP, WHICHEVER -/
theorem up_up (σ : q_St) (f i : Nat) (x y : Int32) : q_up (q_up σ f i x) f i y = q_up σ f i y := by
  funext g k; unfold q_up; by_cases h : g = f ∧ k = i
  · rw [if_pos h, if_pos h]
  · rw [if_neg h, if_neg h, if_neg h]
theorem up_same {σ : q_St} {f i : Nat} {x : Int32} (h : σ f i = x) : q_up σ f i x = σ := by
  funext g k; unfold q_up; by_cases z : g = f ∧ k = i
  · rw [if_pos z, z.1, z.2, h]
  · rw [if_neg z]
theorem up_comm (σ : q_St) {f g : Nat} (i : Nat) (x y : Int32) (h : f ≠ g) : q_up (q_up σ f i x) g i y = q_up (q_up σ g i y) f i x := by
  funext a k; unfold q_up
  by_cases h1 : a = f
  · have h2 : ¬ a = g := fun z => h (h1.symm.trans z)
    simp [h1, h2, h]
  · simp [h1]
theorem RS_sl3 {σ σ' μ μ' : q_St} (HS : RS σ μ) {i j : Nat} (hj : j < 4) (hi : i < 8) (ho : σ 32 i = nI j) (a1 : sl3 σ σ' i) (a2 : ml3 μ μ' i) (a3 : sm3 σ' μ' i) (a4 : lo10 (σ' 38 i)) (a5 : st3 σ' i) : RS σ' μ' := by
  obtain ⟨⟨h3, p1, p2, p3, p4, p5, p6, p7, p8, p9⟩, -⟩ := HS i hi
  intro k hk
  by_cases hki : k = i
  · subst hki
    refine ⟨⟨a3, ?_, ?_, ?_, ?_, ?_, ?_, a4, ?_, ?_⟩, ?_⟩
    · rw [a1 34 k (by omega), a2 4 k (by omega)]; exact p1
    · rw [a1 35 k (by omega), a2 5 k (by omega)]; exact p2
    · rw [a1 36 k (by omega), a2 6 k (by omega)]; exact p3
    · rw [a1 39 k (by omega), a2 9 k (by omega)]; exact p4
    · rw [a1 40 k (by omega), a2 10 k (by omega)]; exact p5
    · rw [a1 41 k (by omega), a2 11 k (by omega)]; exact p6
    · rw [a1 34 k (by omega)]; exact p8
    · rw [a1 35 k (by omega)]; exact p9
    · rcases (HS k hi).2 with ⟨-, h⟩ | ⟨-, j', q1, q2, q3, q4⟩
      · exact absurd (ho.symm.trans h) (nIm1 j (by omega))
      · refine Or.inr ⟨a5, j', q1, ?_, ?_, ?_⟩
        · rw [a1 32 k (by omega)]; exact q2
        · rw [a2 3 k (by omega)]; exact q3
        · rw [a1 28 j' (by omega), a1 29 j' (by omega)]; exact q4
  · refine ⟨RS1_at (fun f => a1 f k (by omega)) (fun f => a2 f k (by omega)) (HS k hk).1, ?_⟩
    rcases (HS k hk).2 with ⟨h1, h2⟩ | ⟨h1, j', q1, q2, q3, q4⟩
    · exact Or.inl ⟨by rw [a1 33 k (by omega)]; exact h1, by rw [a1 32 k (by omega)]; exact h2⟩
    · refine Or.inr ⟨by unfold st3; rw [a1 33 k (by omega)]; exact h1, j', q1, ?_, ?_, ?_⟩
      · rw [a1 32 k (by omega)]; exact q2
      · rw [a2 3 k (by omega)]; exact q3
      · rw [a1 28 j' (by omega), a1 29 j' (by omega)]; exact q4
theorem lo10_and2 {x : Int32} (y : Int32) (h : lo10 x) : lo10 (x &&& y) := lo10_and y h
theorem perform_sim {B : Nat} (hB : B < 2 ^ 29) {σ μ : q_St} (H : R0 B σ μ) {i j : Nat} (hi : i < 8) (hj : j < 4) (h1 : σ 33 i = 1) (h47 : μ 47 0 = 0) (o1 : σ 32 i = nI j) (o2 : μ 3 i = nI j) (ht : there σ μ j) (go : ∀ op, f_Programs_opAt σ (σ 34 i) (σ 35 i) = some (op, σ) → GO σ i j op) : PF B σ μ j (f_JT_runLine σ (nI i)) (f_Mo_perform μ (nI i)) := by
  have hq := q_inT hi (show 8 < 2 ^ 31 by decide)
  have hc : (nI i).toNatClampNeg = i := nI_clamp (by omega)
  have hin : ¬ nI i < 0 := nI_pos (by omega)
  have H0 := H
  obtain ⟨HS, HJ, HT, HP, HQ, HD⟩ := H
  obtain ⟨op, x, e1, e2, e3, e4, hline, z, hz, hop⟩ := op_sim HS HP hi
  have go := go op e1
  obtain ⟨⟨h3, p1, p2, p3, p4, p5, p6, p7, p8, p9⟩, -⟩ := HS i hi
  have hw := writes_M (σ := σ) hi p3 e2
  unfold f_JT_runLine f_Mo_perform f_Mo_perform_133
  simp only [q_grd_t hq, hc, q_bnd_s e1, q_bnd_s e2, q_bnd_s e3, q_bnd_s e4, q_bnd_s hw]
  have hl2 : z = 0 ∨ ∃ b, b < 16 ∧ σ 35 i = nI b := by
    rcases hline with h | h
    · left
      refine (nI_eq (by omega) (by decide)).mp (hop.symm.trans (h.trans ?_))
      rfl
    · exact Or.inr h
  clear hw e1 e2 e3 e4
  subst hop
  by_cases z0 : z = 0
  · -- the end
    subst z0
    simp (config := { decide := true }) only [if_true, if_false, false_and, or_self]
    unfold f_JobProcess_runOwnOp f_JobProcess_runOwnOp_210
    simp (config := { decide := true }) only [if_true, if_false, q_bnd_v]
    refine slot_PF (σ' := q_up (q_up σ 33 i 3) 37 i (x &&& 255)) H0 h47 ?_ rfl o1 (eqx_tr (eqx_up (by decide)) (eqx_up (by decide))) (eqx_tr (eqx_up (by decide)) (eqx_up (by decide))) (fun k hk => by rw [q_up_f (by decide), q_up_i hk]) (RS_37 (RS_33 HS (Or.inr (Or.inr rfl)) (Or.inl h1)))
    have e : q_up (q_up (q_up (q_up σ 35 i (σ 35 i + 1)) 33 i 3) 37 i (x &&& 255)) 35 i (σ 35 i) = q_up (q_up σ 33 i 3) 37 i (x &&& 255) := by
      rw [up_comm _ i (σ 35 i + 1) 3 (by decide), up_comm _ i (σ 35 i + 1) (x &&& 255) (by decide), up_up, up_same]
      rw [q_up_f (by decide), q_up_f (by decide)]
    rw [e]
  · obtain ⟨b, hb, h35⟩ := hl2.resolve_left z0
    have hL := RS_line HS hi hb h35
    have E35 : eqx [33, 35, 36, 37, 38, 39, 40, 41] σ (q_up σ 35 i (σ 35 i + 1)) := eqx_up (by decide)
    have E5 : eqx [2, 5, 6, 7, 8, 9, 10, 11] μ (q_up μ 5 i (μ 5 i + 1)) := eqx_up (by decide)
    have line33 : ∀ k, k ≠ i → (q_up σ 35 i (σ 35 i + 1)) 33 k = σ 33 k := fun k _ => q_up_f (by decide)
    have step1 : ∀ {a : Option (Int32 × q_St)} {bb : Option q_St}, a = some (0, q_up σ 35 i (σ 35 i + 1)) → bb = some (q_up μ 5 i (μ 5 i + 1)) → PF B σ μ j a bb := fun ha hbb => slot_PF H0 h47 ha hbb o1 E35 E5 line33 hL
    have f5 : ∀ f : Nat, f ≠ 35 → (q_up σ 35 i (σ 35 i + 1)) f i = σ f i := fun f hf => q_up_f hf
    have g5 : ∀ f : Nat, f ≠ 5 → (q_up μ 5 i (μ 5 i + 1)) f i = μ f i := fun f hf => q_up_f hf
    have hz12 : z = 1 ∨ z = 2 ∨ z = 3 ∨ z = 4 ∨ z = 5 ∨ z = 6 ∨ z = 7 ∨ z = 8 ∨ z = 9 ∨ z = 10 ∨ z = 11 := by omega
    rcases hz12 with rfl | rfl | rfl | rfl | rfl | rfl | rfl | rfl | rfl | rfl | rfl
    · simp (config := { decide := true }) only [if_true, if_false, true_or]
      unfold f_Mo_perform_50 f_Mo_perform_133
      exact PF_isB (PF_some (write_sim hB H0 hi hj hb h35 h47 o1 o2 ht (go.2 (Or.inl rfl)) _))
    · simp (config := { decide := true }) only [if_true, if_false]
      exact PF_isB (PF_some (read_sim H0 hi hj hb h35 h47 o1 o2 ht go))
    · simp (config := { decide := true }) only [if_true, if_false, false_or, true_and]
      by_cases hneg : σ 36 i < 0
      · simp (config := { decide := true }) only [hneg, if_true, if_false]
        unfold f_Mo_perform_116 f_Mo_perform_133 f_Mo_plain f_Mo_plain_146
        simp (config := { decide := true }) only [if_false, q_grd_t hq, hc, q_bnd_v]
        exact step1 rfl rfl
      · simp (config := { decide := true }) only [hneg, if_true, if_false]
        unfold f_Mo_perform_50 f_Mo_perform_133
        rw [← p3]
        exact PF_isB (PF_some (write_sim hB H0 hi hj hb h35 h47 o1 o2 ht (go.2 (Or.inr ⟨rfl, hneg⟩)) _))
    · simp (config := { decide := true }) only [if_true, if_false, false_and, or_self]
      unfold f_JobProcess_runOwnOp f_JobProcess_runOwnOp_210 f_Mo_perform_103 f_Mo_perform_133
      simp (config := { decide := true }) only [if_true, if_false, q_bnd_v, q_grd_t hq, hc]
      rw [up_up]
      obtain ⟨y, hy, ey⟩ := and15 x
      exact slot_PF H0 h47 rfl rfl o1 (eqx_up (by decide)) (eqx_up (by decide)) (fun k _ => q_up_f (by decide)) (RS_35 HS ⟨y, by omega, ey⟩)
    · simp (config := { decide := true }) only [if_true, if_false, false_and, or_self]
      unfold f_JobProcess_runOwnOp f_JobProcess_runOwnOp_90 f_JobProcess_runOwnOp_210 f_Mo_perform_103 f_Mo_perform_116 f_Mo_perform_133 f_Mo_plain f_Mo_plain_146
      simp (config := { decide := true }) only [if_true, if_false, q_bnd_v, q_grd_t hq, hc, f5 36 (by decide), ← p3]
      by_cases hneg : (0 : Int32) ≤ σ 36 i
      · rw [if_pos hneg, if_pos hneg, q_bnd_v, up_up, q_up_self]
        exact step1 rfl rfl
      · rw [if_neg hneg, if_neg hneg, q_bnd_v, up_up]
        obtain ⟨y, hy, ey⟩ := and15 x
        exact slot_PF H0 h47 rfl rfl o1 (eqx_up (by decide)) (eqx_up (by decide)) (fun k _ => q_up_f (by decide)) (RS_35 HS ⟨y, by omega, ey⟩)
    · -- block
      simp (config := { decide := true }) only [if_true, if_false, false_and, or_self]
      unfold f_JobProcess_runOwnOp f_JobProcess_runOwnOp_210 f_Mo_perform_116 f_Mo_perform_133 f_Mo_plain f_Mo_plain_146
      simp (config := { decide := true }) only [if_true, if_false, q_bnd_v, q_grd_t hq, hc]
      have HS2 := RS_39 (i := i) (v := x &&& 919) hL
      generalize hσ2 : q_up (q_up σ 35 i (σ 35 i + 1)) 39 i (x &&& 919) = σ2 at HS2 ⊢
      generalize hμ2 : q_up (q_up μ 5 i (μ 5 i + 1)) 9 i (x &&& 919) = μ2 at HS2 ⊢
      have E1 : eqx [35, 39] σ σ2 := by rw [← hσ2]; exact eqx_tr (eqx_up (by decide)) (eqx_up (by decide))
      have E2 : eqx [5, 9] μ μ2 := by rw [← hμ2]; exact eqx_tr (eqx_up (by decide)) (eqx_up (by decide))
      obtain ⟨⟨k3, k1, k2, k3', k4, k5, k6, k7, k8, k9⟩, -⟩ := HS2 i hi
      obtain ⟨σ', μ', d1, d2, a1, a2, a3, a4, a5⟩ := pend_sim hi 10 0 200 200 σ2 μ2 rfl (by decide) (by decide) k3 k4 k7 (Or.inl (by rw [E1 33 (by decide)]; exact h1))
      have d1' : f_JobProcess_actOnPending σ2 i = some σ' := d1
      have d2' : f_Mo_actPending μ2 (nI i) = some μ' := d2
      rw [q_bnd_s d1', q_bnd_s d2', q_bnd_v, q_bnd_v]
      refine slot_PF H0 h47 rfl rfl o1 (eqx_un E1 (sl3_eqx a1) (by decide) (by decide)) (eqx_un E2 (ml3_eqx a2) (by decide) (by decide)) (fun k hk => by rw [a1 33 k (by omega), E1 33 (by decide)]) ?_
      exact RS_sl3 HS2 hj hi (by rw [E1 32 (by decide)]; exact o1) a1 a2 a3 a4 a5
    · -- ignore
      simp (config := { decide := true }) only [if_true, if_false, false_and, or_self]
      unfold f_JobProcess_runOwnOp f_JobProcess_runOwnOp_210 f_Mo_perform_116 f_Mo_perform_133 f_Mo_plain f_Mo_plain_146
      simp (config := { decide := true }) only [if_true, if_false, q_bnd_v, q_grd_t hq, hc, q_up_self, q_up_f (show 38 ≠ 40 by decide), q_up_f (show 38 ≠ 35 by decide), q_up_f (show 8 ≠ 10 by decide), q_up_f (show 8 ≠ 5 by decide), ← h3.2.2]
      refine slot_PF H0 h47 rfl rfl o1 (eqx_tr (eqx_tr (eqx_up (by decide)) (eqx_up (by decide))) (eqx_up (by decide))) (eqx_tr (eqx_tr (eqx_up (by decide)) (eqx_up (by decide))) (eqx_up (by decide))) (fun k _ => by rw [q_up_f (by decide), q_up_f (by decide), q_up_f (by decide)]) (RS_38 (RS_40 hL) (lo10_and _ p7))
    · -- nap
      simp (config := { decide := true }) only [if_true, if_false, false_and, or_self]
      unfold f_JobProcess_runOwnOp f_JobProcess_runOwnOp_210 f_Mo_perform_116 f_Mo_perform_133 f_Mo_plain f_Mo_plain_146
      simp (config := { decide := true }) only [if_true, if_false, q_bnd_v, q_grd_t hq, hc]
      exact slot_PF H0 h47 rfl rfl o1 (eqx_tr (eqx_up (by decide)) (eqx_up (by decide))) (eqx_tr (eqx_up (by decide)) (eqx_up (by decide))) (fun k _ => by rw [q_up_f (by decide), q_up_f (by decide)]) (RS_41 hL i _)
    · -- a signal to itself
      simp (config := { decide := true }) only [if_true, if_false, false_and, or_self]
      unfold f_JobProcess_runOwnOp f_JobProcess_runOwnOp_210 f_Mo_perform_116 f_Mo_perform_133 f_Mo_plain f_Mo_plain_146
      simp (config := { decide := true }) only [if_true, if_false, q_bnd_v, q_grd_t hq, hc]
      obtain ⟨y, hy, ey⟩ := and15 x
      rw [ey]
      by_cases hy9 : 9 < y
      · rw [if_pos (show (9 : Int32) < nI y by rw [show (9 : Int32) = nI 9 from rfl]; exact nI_lt hy9 (by omega))]
        have e : f_Mo_sendTo (q_up μ 5 i (μ 5 i + 1)) (nI i) (nI y) = some (q_up μ 5 i (μ 5 i + 1)) := by
          unfold f_Mo_sendTo f_Mo_sendTo_20
          rw [if_neg hin, q_grd_t hq, if_neg (show ¬ nI y ≤ (9 : Int32) by rw [show (9 : Int32) = nI 9 from rfl]; exact nI_ge hy9 (by omega))]
          exact ite_self _
        rw [q_bnd_s e, q_bnd_v, q_bnd_v]
        exact step1 rfl rfl
      · rw [if_neg (show ¬ (9 : Int32) < nI y by rw [show (9 : Int32) = nI 9 from rfl]; exact nI_nlt (by omega) (by decide))]
        obtain ⟨σ', μ', d1, d2, a1, a2, a3⟩ := slot_sim hL hi hj (by rw [q_up_f (by decide)]; exact o1) (show y < 10 by omega)
        rw [q_bnd_s d1, q_bnd_s d2, q_bnd_v, q_bnd_v]
        exact slot_PF H0 h47 rfl rfl o1 (eqx_un E35 (sl3_eqx a1) (by decide) (by decide)) (eqx_un E5 (ml3_eqx a2) (by decide) (by decide)) (fun k hk => by rw [a1 33 k (by omega)]; exact line33 k hk) a3
    · simp (config := { decide := true }) only [if_true, if_false, false_and, or_self]
      unfold f_JobProcess_runOwnOp f_JobProcess_runOwnOp_210 f_Mo_perform_116 f_Mo_perform_133 f_Mo_plain f_Mo_plain_146
      simp (config := { decide := true }) only [if_true, if_false, q_bnd_v, q_grd_t hq, hc]
      exact slot_PF H0 h47 rfl rfl o1 (eqx_tr (eqx_up (by decide)) (eqx_up (by decide))) (eqx_tr (eqx_up (by decide)) (eqx_up (by decide))) (fun k _ => by rw [q_up_f (by decide), q_up_f (by decide)]) (RS_36 hL)
    · simp (config := { decide := true }) only [if_true, if_false, false_and, or_self]
      unfold f_JobProcess_runOwnOp f_JobProcess_runOwnOp_210 f_Mo_perform_116 f_Mo_perform_133 f_Mo_plain f_Mo_plain_146
      simp (config := { decide := true }) only [if_true, if_false, q_bnd_v, q_grd_t hq, hc, f5 36 (by decide), g5 6 (by decide), ← p3]
      exact slot_PF H0 h47 rfl rfl o1 (eqx_tr (eqx_up (by decide)) (eqx_up (by decide))) (eqx_tr (eqx_up (by decide)) (eqx_up (by decide))) (fun k _ => by rw [q_up_f (by decide), q_up_f (by decide)]) (RS_36 hL)
