/-! JOBS: a signal to a job; its state told -/
theorem sl3_eqx {σ σ' : q_St} {i : Nat} (h : sl3 σ σ' i) : eqx [33, 37, 38] σ σ' := fun f z => by
  funext k
  exact h f k (fun w => z (by rcases w.2 with h | h | h <;> rw [h] <;> decide))
theorem ml3_eqx {σ σ' : q_St} {i : Nat} (h : ml3 σ σ' i) : eqx [2, 7, 8] σ σ' := fun f z => by
  funext k
  exact h f k (fun w => z (by rcases w.2 with h | h | h <;> rw [h] <;> decide))
theorem RS1_at {σ σ' μ μ' : q_St} {k : Nat} (h : ∀ f, σ' f k = σ f k) (g : ∀ f, μ' f k = μ f k) (H : RS1 σ μ k) : RS1 σ' μ' k := by
  unfold RS1 sm3
  rw [h 33, h 34, h 35, h 36, h 37, h 38, h 39, h 40, h 41, g 2, g 4, g 5, g 6, g 7, g 8, g 9, g 10, g 11]
  exact H
theorem slot_sim {σ μ : q_St} (HS : RS σ μ) {i j s : Nat} (hi : i < 8) (hj : j < 4) (ho : σ 32 i = nI j) (hs : s < 10) : ∃ σ' μ', f_JobProcess_receive σ i (nI s) = some σ' ∧ f_Mo_sendTo μ (nI i) (nI s) = some μ' ∧ sl3 σ σ' i ∧ ml3 μ μ' i ∧ RS σ' μ' := by
  obtain ⟨⟨h3, p1, p2, p3, p4, p5, p6, p7, p8, p9⟩, -⟩ := HS i hi
  obtain ⟨σ', μ', e1, e2, a1, a2, a3, a4, a5⟩ := recv_sim hi hs h3 p4 p5 p7 (own_st HS hi hj ho)
  refine ⟨σ', μ', e1, e2, a1, a2, fun k hk => ?_⟩
  by_cases hki : k = i
  · subst hki
    refine ⟨⟨a3, ?_, ?_, ?_, ?_, ?_, ?_, a4, ?_, ?_⟩, ?_⟩
    · rw [a1 34 k (by omega), a2 4 k (by omega)]; exact p1
    · rw [a1 35 k (by omega), a2 5 k (by omega)]; exact p2
    · rw [a1 36 k (by omega), a2 6 k (by omega)]; exact p3
    · rw [a1 39 k (by omega), a2 9 k (by omega)]; exact p4
    · rw [a1 40 k (by omega), a2 10 k (by omega)]; exact p5
    · rw [a1 41 k (by omega), a2 11 k (by omega)]; exact p6
    · rw [a1 34 k (by omega)]; exact p8
    · rw [a1 35 k (by omega)]; exact p9
    · rcases (HS k hi).2 with ⟨-, h⟩ | ⟨-, j', q1, q2, q3, q4⟩
      · exact absurd (ho.symm.trans h) (nIm1 j (by omega))
      · refine Or.inr ⟨a5, j', q1, ?_, ?_, ?_⟩
        · rw [a1 32 k (by omega)]; exact q2
        · rw [a2 3 k (by omega)]; exact q3
        · rw [a1 28 j' (by omega), a1 29 j' (by omega)]; exact q4
  · refine ⟨RS1_at (fun f => a1 f k (by omega)) (fun f => a2 f k (by omega)) (HS k hk).1, ?_⟩
    rcases (HS k hk).2 with ⟨h1, h2⟩ | ⟨h1, j', q1, q2, q3, q4⟩
    · exact Or.inl ⟨by rw [a1 33 k (by omega)]; exact h1, by rw [a1 32 k (by omega)]; exact h2⟩
    · refine Or.inr ⟨by unfold st3; rw [a1 33 k (by omega)]; exact h1, j', q1, ?_, ?_, ?_⟩
      · rw [a1 32 k (by omega)]; exact q2
      · rw [a2 3 k (by omega)]; exact q3
      · rw [a1 28 j' (by omega), a1 29 j' (by omega)]; exact q4
/-- a signal to a job that is there -/
theorem sendJob_sim {σ μ : q_St} (HS : RS σ μ) {j s : Nat} (hj : j < 4) (ht : there σ μ j) (hs : s < 10) : ∃ σ' μ', f_Job_receive σ j (nI s) = some σ' ∧ f_Mo_sendJob μ (nI j) (nI s) = some μ' ∧ eqx [33, 37, 38] σ σ' ∧ eqx [2, 7, 8] μ μ' ∧ RS σ' μ' ∧ ∀ i, ¬ σ 32 i = nI j → σ' 33 i = σ 33 i := by
  obtain ⟨h1, h2, a, ha, h3, h4, h5, h6⟩ := ht
  obtain ⟨σ1, μ1, e1, e2, a1, a2, a3⟩ := slot_sim HS ha hj h5 hs
  unfold f_Job_receive f_Job_receive_15 f_Job_receive_30 f_Mo_sendJob
  rw [h3, if_neg (nI_pos (show a < 2 ^ 31 by omega)), q_grd_t (q_inT ha (by decide)), nI_clamp (show a < 2 ^ 31 by omega), q_bnd_s e1]
  simp only [q_grd_t (q_inT hj (show 4 < 2 ^ 31 by decide)), nI_clamp (show j < 2 ^ 31 by omega), h4]
  rw [q_bnd_s e2, a1 29 j (by omega), a2 14 j (by omega)]
  rcases h6 with ⟨h6, h7⟩ | ⟨b, hb, h6, h7, h8, h9⟩
  · rw [h6, h7, if_pos m1lt]
    unfold f_Mo_sendTo f_Mo_sendTo_20
    rw [if_pos m1lt]
    exact ⟨σ1, μ1, rfl, rfl, sl3_eqx a1, ml3_eqx a2, a3, fun i hi => a1 33 i (fun w => hi (by rw [w.1]; exact h5))⟩
  · obtain ⟨σ2, μ2, e3, e4, c1, c2, c3⟩ := slot_sim a3 hb hj (by rw [a1 32 b (by omega)]; exact h8) hs
    rw [h6, h7, if_neg (nI_pos (show b < 2 ^ 31 by omega)), q_grd_t (q_inT hb (by decide)), nI_clamp (show b < 2 ^ 31 by omega), q_bnd_s e3, q_bnd_s e4]
    exact ⟨σ2, μ2, rfl, rfl, eqx_tr (sl3_eqx a1) (sl3_eqx c1), eqx_tr (ml3_eqx a2) (ml3_eqx c2), c3, fun i hi => (c1 33 i (fun w => hi (by rw [w.1]; exact h8))).trans (a1 33 i (fun w => hi (by rw [w.1]; exact h5)))⟩
theorem oknN {j n : Nat} (h : j < n) (hn : n < 2 ^ 31) : q_okn (nI j) n = true := by unfold q_okn; rw [q_inT h hn]; simp
theorem okn1 {n : Nat} : q_okn (-1) n = true := by unfold q_okn; simp
theorem okn_fg {σ μ : q_St} (HT : RT σ μ) : q_okn (σ 20 0) 4 = true := by
  obtain ⟨-, -, -, h, -⟩ := HT
  rcases h with h | ⟨j, hj, h, -⟩
  · rw [h]; exact okn1
  · rw [h]; exact oknN hj (by decide)
/-- a job's state is held against the one that was told -/
theorem settle_sim {B : Nat} {σ μ : q_St} (H : R0 B σ μ) {j : Nat} (hj : j < 4) : ∃ σ' μ', f_JT_settle σ (nI j) = some σ' ∧ (∀ n, f_Mo_compare_2 (n + 1) μ (nI j) = f_Mo_compare_2 n μ' (nI (j + 1))) ∧ R0 B σ' μ' ∧ eqx [20, 30, 31] σ σ' ∧ eqx [15, 16, 41] μ μ' ∧ σ' 31 j = stJ σ j ∧ (∀ k, ¬ k = j → σ' 31 k = σ 31 k) ∧ (σ 31 j = stJ σ j → σ' = σ ∧ μ' = μ) := by
  obtain ⟨HS, HJ, HT, HP, HQ, HD⟩ := H
  have hq := q_inT hj (show 4 < 2 ^ 31 by decide)
  have hc : (nI j).toNatClampNeg = j := nI_clamp (by omega)
  have hC := state_C HJ hj
  have h4 : ¬ (4 : Int32) ≤ nI j := by rw [show (4 : Int32) = nI 4 from rfl]; exact nI_ge (by omega) (by decide)
  have eC : f_JT_settle σ (nI j) = if stJ σ j = σ 31 j then some σ else if stJ σ j = 1 then some (q_up (q_up σ 31 j (stJ σ j)) 30 j 1) else if σ 20 0 = nI j then some (q_up (q_up (q_up σ 31 j (stJ σ j)) 30 j 1) 20 0 (-1)) else some (q_up (q_up σ 31 j (stJ σ j)) 30 j 1) := by
    unfold f_JT_settle f_JT_settle_15 f_JT_settle_50
    rw [if_neg (nI_pos (show j < 2 ^ 31 by omega)), q_grd_t hq, hc, q_bnd_s hC]
    simp only [q_bnd_s hC]
    have u1 : (q_up (q_up σ 31 j (stJ σ j)) 30 j 1) 31 j = stJ σ j := by simp [q_up]
    have u2 : (q_up (q_up σ 31 j (stJ σ j)) 30 j 1) 20 0 = σ 20 0 := by simp [q_up]
    rw [u1, u2, q_grd_t (okn_fg HT), q_grd_t (oknN hj (by decide))]
  obtain ⟨hun, hh⟩ := HJ j hj
  rcases hh with hg | ht
  · have hst : stJ σ j = σ 31 j := by unfold stJ; rw [hg.2.1, if_pos m1lt, hg.2.2.2]
    refine ⟨σ, μ, by rw [eC, if_pos hst], fun n => ?_, ⟨HS, HJ, HT, HP, HQ, HD⟩, eqx_rf _ _, eqx_rf _ _, hst.symm, fun _ _ => rfl, fun _ => ⟨rfl, rfl⟩⟩
    rw [f_Mo_compare_2, if_neg h4, q_grd_t hq, hc, if_pos hg.1]
    unfold f_Mo_compare_78
    rw [show nI j + 1 = nI (j + 1) from nI_1 j]
  · obtain ⟨hM, hv⟩ := state_M HS hj ht
    have eM : ∀ n, f_Mo_compare_2 (n + 1) μ (nI j) = if stJ σ j = σ 31 j then f_Mo_compare_2 n μ (nI (j + 1)) else f_Mo_compare_2 n (q_up (q_up (q_up μ 15 j (stJ σ j)) 16 j 1) 41 0 (if stJ σ j = 1 then μ 41 0 else if μ 41 0 = nI j then -1 else μ 41 0)) (nI (j + 1)) := by
      intro n
      rw [f_Mo_compare_2, if_neg h4, q_grd_t hq, hc, if_neg (show ¬ μ 12 j = 0 by rw [ht.1]; decide), q_bnd_s hM]
      simp only [q_grd_t hq, q_bnd_s hM]
      unfold f_Mo_compare_71 f_Mo_compare_75 f_Mo_compare_78
      have u1 : (q_up (q_up μ 15 j (stJ σ j)) 16 j 1) 15 j = stJ σ j := by simp [q_up]
      have u2 : (q_up (q_up μ 15 j (stJ σ j)) 16 j 1) 41 0 = μ 41 0 := by simp [q_up]
      rw [u1, u2, ← ht.2.1, show nI j + 1 = nI (j + 1) from nI_1 j]
      by_cases hs : stJ σ j = σ 31 j
      · rw [if_pos hs, if_pos hs]
      · rw [if_neg hs, if_neg hs]
        rcases hv with h | h | h
        · rw [h]; simp
        · rw [h]
          by_cases hf : μ 41 0 = nI j <;> simp [hf]
        · rw [h]
          by_cases hf : μ 41 0 = nI j <;> simp [hf]
    by_cases hs : stJ σ j = σ 31 j
    · exact ⟨σ, μ, by rw [eC, if_pos hs], fun n => by rw [eM n, if_pos hs], ⟨HS, HJ, HT, HP, HQ, HD⟩, eqx_rf _ _, eqx_rf _ _, hs.symm, fun _ _ => rfl, fun _ => ⟨rfl, rfl⟩⟩
    · -- another state: untold, and perhaps not before the terminal any more
      have mk : ∀ fg : Int32, (fg = -1 ∨ (fg = σ 20 0 ∧ (stJ σ j = 1 ∨ ¬ σ 20 0 = nI j))) → R0 B (q_up (q_up (q_up σ 31 j (stJ σ j)) 30 j 1) 20 0 fg) (q_up (q_up (q_up μ 15 j (stJ σ j)) 16 j 1) 41 0 fg) := by
        intro fg hfg
        have E1 : eqx [20, 30, 31] σ (q_up (q_up (q_up σ 31 j (stJ σ j)) 30 j 1) 20 0 fg) := eqx_tr (eqx_tr (eqx_up (by decide)) (eqx_up (by decide))) (eqx_up (by decide))
        have E2 : eqx [15, 16, 41] μ (q_up (q_up (q_up μ 15 j (stJ σ j)) 16 j 1) 41 0 fg) := eqx_tr (eqx_tr (eqx_up (by decide)) (eqx_up (by decide))) (eqx_up (by decide))
        refine ⟨RS_c E1 E2 (by decide) (by decide) HS, ?_, ?_, RP_c E1 E2 (by decide) (by decide) HP, RQ_c E1 E2 (by decide) (by decide) HQ, RD_c E1 E2 (by decide) (by decide) HD⟩
        · intro k hk
          obtain ⟨ku, kh⟩ := HJ k hk
          by_cases hkj : k = j
          · subst hkj
            refine ⟨by simp [q_up], Or.inr ?_⟩
            obtain ⟨t1, t2, t3⟩ := ht
            unfold there
            rw [E1 28 (by decide), E1 29 (by decide), E1 32 (by decide), E2 12 (by decide), E2 13 (by decide), E2 14 (by decide)]
            exact ⟨t1, by simp [q_up], t3⟩
          · refine ⟨by simp [q_up, hkj, ku], ?_⟩
            unfold gone there
            rw [E1 28 (by decide), E1 29 (by decide), E1 32 (by decide), E2 12 (by decide), E2 13 (by decide), E2 14 (by decide)]
            have v1 : (q_up (q_up (q_up σ 31 j (stJ σ j)) 30 j 1) 20 0 fg) 31 k = σ 31 k := by simp [q_up, hkj]
            have v2 : (q_up (q_up (q_up μ 15 j (stJ σ j)) 16 j 1) 41 0 fg) 15 k = μ 15 k := by simp [q_up, hkj]
            rw [v1, v2]
            exact kh
        · obtain ⟨t1, t2, t3, t4, t5⟩ := HT
          unfold RT
          rw [E1 21 (by decide), E1 22 (by decide), E1 23 (by decide), E2 40 (by decide), E2 42 (by decide), E2 43 (by decide), E2 12 (by decide), q_up_self, q_up_self]
          refine ⟨rfl, t2, t3, ?_, t5⟩
          rcases hfg with h | ⟨h, hor⟩
          · exact Or.inl h
          · rw [h]
            rcases t4 with t4 | ⟨k, k1, k2, k3, k4⟩
            · exact Or.inl t4
            · refine Or.inr ⟨k, k1, k2, k3, ?_⟩
              by_cases hkj : k = j
              · rcases hor with h1 | h1
                · subst hkj; simp [q_up, h1]
                · exact absurd (by rw [← hkj]; exact k2) h1
              · simp [q_up, hkj, k4]
      have same20 : ∀ x : q_St, x 20 0 = σ 20 0 → q_up x 20 0 (σ 20 0) = x := fun x hx => by
        funext f k
        unfold q_up
        by_cases h : f = 20 ∧ k = 0
        · rw [if_pos h, h.1, h.2, hx]
        · rw [if_neg h]
      have E1 : ∀ fg, eqx [20, 30, 31] σ (q_up (q_up (q_up σ 31 j (stJ σ j)) 30 j 1) 20 0 fg) := fun fg => eqx_tr (eqx_tr (eqx_up (by decide)) (eqx_up (by decide))) (eqx_up (by decide))
      have E2 : ∀ fg, eqx [15, 16, 41] μ (q_up (q_up (q_up μ 15 j (stJ σ j)) 16 j 1) 41 0 fg) := fun fg => eqx_tr (eqx_tr (eqx_up (by decide)) (eqx_up (by decide))) (eqx_up (by decide))
      have hx20 := same20 (q_up (q_up σ 31 j (stJ σ j)) 30 j 1) (by simp [q_up])
      have fin : ∀ fg, (fg = -1 ∨ (fg = σ 20 0 ∧ (stJ σ j = 1 ∨ ¬ σ 20 0 = nI j))) → f_JT_settle σ (nI j) = some (q_up (q_up (q_up σ 31 j (stJ σ j)) 30 j 1) 20 0 fg) → (if stJ σ j = 1 then μ 41 0 else if μ 41 0 = nI j then -1 else μ 41 0) = fg → ∃ σ' μ', f_JT_settle σ (nI j) = some σ' ∧ (∀ n, f_Mo_compare_2 (n + 1) μ (nI j) = f_Mo_compare_2 n μ' (nI (j + 1))) ∧ R0 B σ' μ' ∧ eqx [20, 30, 31] σ σ' ∧ eqx [15, 16, 41] μ μ' ∧ σ' 31 j = stJ σ j ∧ (∀ k, ¬ k = j → σ' 31 k = σ 31 k) ∧ (σ 31 j = stJ σ j → σ' = σ ∧ μ' = μ) := by
        intro fg hfg e1 e2
        refine ⟨_, _, e1, fun n => by rw [eM n, if_neg hs, e2], mk fg hfg, E1 fg, E2 fg, by simp [q_up], fun k hk => by simp [q_up, hk], fun z => absurd z.symm hs⟩
      have h41 : μ 41 0 = σ 20 0 := HT.1.symm
      rw [h41] at fin
      by_cases h1 : stJ σ j = 1
      · exact fin (σ 20 0) (Or.inr ⟨rfl, Or.inl h1⟩) (by rw [eC, if_neg hs, if_pos h1, hx20]) (by rw [if_pos h1])
      · by_cases hf : σ 20 0 = nI j
        · exact fin (-1) (Or.inl rfl) (by rw [eC, if_neg hs, if_neg h1, if_pos hf]) (by rw [if_neg h1, if_pos hf])
        · exact fin (σ 20 0) (Or.inr ⟨rfl, Or.inr hf⟩) (by rw [eC, if_neg hs, if_neg h1, if_neg hf, hx20]) (by rw [if_neg h1, if_neg hf])
