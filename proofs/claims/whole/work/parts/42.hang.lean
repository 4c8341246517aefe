/-! THE CALL hang -/
theorem hup_sim {B : Nat} {σ μ : q_St} (H : R0 B σ μ) {j : Nat} (hj : j < 4) (ht : there σ μ j) : ∃ σ' μ1 μ', f_Job_receiveHangUp σ j = some σ' ∧ f_Mo_sendJob μ (nI j) 0 = some μ1 ∧ f_Mo_sendJob μ1 (nI j) 5 = some μ' ∧ R0 B σ' μ' ∧ eqx [33, 37, 38] σ σ' ∧ eqx [2, 7, 8] μ μ' := by
  obtain ⟨σ1, μ1, e1, e2, E1, E2, HS1, -⟩ := sendJob_sim H.1 hj ht (show 0 < 10 by decide)
  have H1 := sent_R0 H E1 E2 HS1
  obtain ⟨σ2, μ2, e3, e4, E3, E4, HS2, -⟩ := sendJob_sim H1.1 hj (there_c E1 E2 (by decide) (by decide) ht) (show 5 < 10 by decide)
  refine ⟨σ2, μ1, μ2, ?_, e2, e4, sent_R0 H1 E3 E4 HS2, eqx_tr E1 E3, eqx_tr E2 E4⟩
  unfold f_Job_receiveHangUp
  rw [show (0 : Int32) = nI 0 from rfl, show (5 : Int32) = nI 5 from rfl, q_bnd_s e1, q_bnd_s e3]
theorem hang_loop {B : Nat} {fg : Int32} : ∀ (k j n m : Nat) (σ μ : q_St), j + k = 4 → k < n → k < m → R0 B σ μ → σ 20 0 = fg → SIM B (f_JT_hang_35 n σ (nI j)) (f_Mo_hang_52 m μ fg (nI j)) := by
  intro k
  induction k with
  | zero =>
    intro j n m σ μ hj hn hm H hfg
    obtain ⟨n, rfl⟩ : ∃ z, n = z + 1 := ⟨n - 1, by omega⟩
    obtain ⟨m, rfl⟩ : ∃ z, m = z + 1 := ⟨m - 1, by omega⟩
    obtain rfl : j = 4 := by omega
    rw [f_JT_hang_35, f_Mo_hang_52, if_pos (by decide), if_pos (by decide)]
    obtain ⟨σ3, μ3, e3, e4, H3, -, -⟩ := settleAll_sim H
    rw [q_bnd_s e3, q_bnd_s e4]
    exact ⟨1, σ3, μ3, rfl, rfl, RR_mono (by omega) H3⟩
  | succ k ih =>
    intro j n m σ μ hj hn hm H hfg
    obtain ⟨n, rfl⟩ : ∃ z, n = z + 1 := ⟨n - 1, by omega⟩
    obtain ⟨m, rfl⟩ : ∃ z, m = z + 1 := ⟨m - 1, by omega⟩
    have hj4 : j < 4 := by omega
    have h4 : ¬ (4 : Int32) ≤ nI j := by rw [show (4 : Int32) = nI 4 from rfl]; exact nI_ge hj4 (by decide)
    have hq := q_inT hj4 (show 4 < 2 ^ 31 by decide)
    have hc : (nI j).toNatClampNeg = j := nI_clamp (by omega)
    rw [f_JT_hang_35, f_Mo_hang_52]
    unfold f_JT_hang_67 f_Mo_hang_92
    rw [if_neg h4, if_neg h4, q_grd_t hq, q_grd_t hq, q_grd_t (oknN hj4 (by decide)), q_grd_t (okn_fg H.2.2.1), hc, nI_1, hfg]
    have next := ih (j + 1) n m σ μ (by omega) (by omega) (by omega) H hfg
    obtain ⟨ku, kh⟩ := H.2.1 j hj4
    rcases kh with kg | kt
    · rw [kg.1, if_pos rfl]
      by_cases hx : nI j = fg
      · rw [if_pos hx]; exact next
      · rw [if_neg hx, q_bnd_s (state_C H.2.1 hj4)]
        have hst : stJ σ j = -1 := by unfold stJ; rw [kg.2.1, if_pos m1lt]
        simp only [hst, if_neg (show ¬ (-1 : Int32) = 2 by decide)]
        exact next
    · rw [kt.1, if_neg (show ¬ (1 : Int32) = 0 by decide)]
      by_cases hx : nI j = fg
      · rw [if_pos hx, if_pos hx]; exact next
      · rw [if_neg hx, if_neg hx, q_bnd_s (state_C H.2.1 hj4), q_bnd_s (state_M H.1 hj4 kt).1]
        by_cases h2 : stJ σ j = 2
        · simp only [h2, if_true]
          obtain ⟨σ', μ1, μ', e1, e2, e3, H', E1, E2⟩ := hup_sim H hj4 kt
          rw [q_bnd_s e1, q_bnd_s e2, q_bnd_s e3]
          exact ih (j + 1) n m σ' μ' (by omega) (by omega) (by omega) H' (by rw [E1 20 (by decide)]; exact hfg)
        · simp only [h2, if_false]
          exact next
theorem hang_sim {B : Nat} {σ μ : q_St} (H : RR B σ μ) : SIM B (f_JT_hang σ) (f_Mo_hang μ) := by
  unfold f_JT_hang f_Mo_hang f_JT_hang_33 f_Mo_hang_50
  have H0 : RR B σ (q_up μ 48 0 0) := RR_48 0 H
  generalize q_up μ 48 0 0 = μ0 at H0 ⊢
  obtain ⟨⟨HS, HJ, HT, HP, HQ, HD⟩, Hs⟩ := H0
  rw [← HT.2.2.1]
  by_cases h : σ 23 0 = 0
  · rw [if_pos h, if_pos h]
    obtain ⟨⟨c0, a0, b0⟩, ⟨c1, a1, b1⟩, hp⟩ := HQ
    -- the terminal hangs; its rows are empty
    have E1 : eqx [23, 27] σ (q_up (q_up (q_up σ 23 0 1) 27 0 0) 27 1 0) := eqx_tr (eqx_tr (eqx_up (by decide)) (eqx_up (by decide))) (eqx_up (by decide))
    have E2 : eqx [43, 44, 45] μ0 (q_up (q_up (q_up μ0 43 0 1) 44 0 0) 45 0 0) := eqx_tr (eqx_tr (eqx_up (by decide)) (eqx_up (by decide))) (eqx_up (by decide))
    have eU : f_Terminal_hangUp σ = some (q_up (q_up (q_up σ 23 0 1) 27 0 0) 27 1 0) := rfl
    rw [q_bnd_s eU]
    have v0 : (q_up (q_up (q_up σ 23 0 1) 27 0 0) 27 1 0) 27 0 = 0 := by simp [q_up]
    have v1 : (q_up (q_up (q_up σ 23 0 1) 27 0 0) 27 1 0) 27 1 = 0 := by simp [q_up]
    have v2 : ∀ j, (q_up (q_up (q_up σ 23 0 1) 27 0 0) 27 1 0) 27 (2 + j) = σ 27 (2 + j) := fun j => by rw [q_up_i (by omega), q_up_i (by omega), q_up_f (by decide)]
    have v23 : (q_up (q_up (q_up σ 23 0 1) 27 0 0) 27 1 0) 23 0 = 1 := by simp [q_up]
    have w43 : (q_up (q_up (q_up μ0 43 0 1) 44 0 0) 45 0 0) 43 0 = 1 := by simp [q_up]
    have w44 : (q_up (q_up (q_up μ0 43 0 1) 44 0 0) 45 0 0) 44 0 = 0 := by simp [q_up]
    have w45 : (q_up (q_up (q_up μ0 43 0 1) 44 0 0) 45 0 0) 45 0 = 0 := by simp [q_up]
    generalize q_up (q_up (q_up σ 23 0 1) 27 0 0) 27 1 0 = σ1 at *
    generalize q_up (q_up (q_up μ0 43 0 1) 44 0 0) 45 0 0 = μ1 at *
    have H1 : R0 B σ1 μ1 := by
      refine ⟨RS_c E1 E2 (by decide) (by decide) HS, RJ_c E1 E2 (by decide) (by decide) HJ, ?_, RP_c E1 E2 (by decide) (by decide) HP, ?_, RD_c E1 E2 (by decide) (by decide) HD⟩
      · obtain ⟨t1, t2, t3, t4, t5⟩ := HT
        unfold RT
        rw [E1 20 (by decide), E1 21 (by decide), E1 22 (by decide), E1 31 (by decide), E2 40 (by decide), E2 41 (by decide), E2 42 (by decide), E2 12 (by decide), v23, w43]
        exact ⟨t1, t2, rfl, t4, t5⟩
      · refine ⟨⟨0, ?_, by rw [w44]; rfl⟩, ⟨0, ?_, by rw [w45]; rfl⟩, fun j hj => ?_⟩
        · obtain ⟨o, x1, x2, x3, x4, x5⟩ := a0
          exact ⟨o, x1, by rw [E1 26 (by decide)]; exact x2, by rw [v0]; rfl, by omega, fun k hk => absurd hk (Nat.not_lt_zero k)⟩
        · obtain ⟨o, x1, x2, x3, x4, x5⟩ := a1
          exact ⟨o, x1, by rw [E1 26 (by decide)]; exact x2, by rw [v1]; rfl, by omega, fun k hk => absurd hk (Nat.not_lt_zero k)⟩
        · obtain ⟨c, ⟨o, x1, x2, x3, x4, x5⟩, b⟩ := hp j hj
          exact ⟨c, ⟨o, x1, by rw [E1 26 (by decide)]; exact x2, by rw [v2]; exact x3, x4, fun k hk => by rw [E1 (10 + (2 + j)) (by simp; omega), E2 18 (by decide)]; exact x5 k hk⟩, by rw [E2 17 (by decide)]; exact b⟩
    have h41 : μ1 41 0 = σ1 20 0 := H1.2.2.1.1.symm
    rw [h41]
    rcases H1.2.2.1.2.2.2.1 with hf | ⟨j, hj, hf, h12, -⟩
    · rw [hf, if_pos m1lt, if_pos m1lt]
      exact hang_loop 4 0 200 200 σ1 μ1 rfl (by decide) (by decide) H1 hf
    · rw [hf, if_neg (nI_pos (show j < 2 ^ 31 by omega)), if_neg (nI_pos (show j < 2 ^ 31 by omega)), q_grd_t (q_inT hj (by decide)), nI_clamp (by omega)]
      obtain ⟨σ', μ2, μ', e1, e2, e3, H', E3, E4⟩ := hup_sim H1 hj (there_of H1.2.1 hj h12)
      rw [q_bnd_s e1, q_bnd_s e2, q_bnd_s e3]
      exact hang_loop 4 0 200 200 σ' μ' rfl (by decide) (by decide) H' (by rw [E3 20 (by decide)]; exact hf)
  · rw [if_neg h, if_neg h]
    exact ⟨0, σ, μ0, rfl, rfl, RR_mono (by omega) ⟨⟨HS, HJ, HT, HP, HQ, HD⟩, Hs⟩⟩
