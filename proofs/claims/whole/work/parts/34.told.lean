/-! ALL JOBS HELD AGAINST WHAT WAS TOLD; a job sent a signal, and told -/
theorem RD_mono {B C : Nat} {σ μ : q_St} (h : B ≤ C) (H : RD B σ μ) : RD C σ μ := by
  obtain ⟨T, h1, h2⟩ := H
  exact ⟨T, Nat.le_trans h1 h, h2⟩
theorem R0_mono {B C : Nat} {σ μ : q_St} (h : B ≤ C) (H : R0 B σ μ) : R0 C σ μ := ⟨H.1, H.2.1, H.2.2.1, H.2.2.2.1, H.2.2.2.2.1, RD_mono h H.2.2.2.2.2⟩
theorem RR_mono {B C : Nat} {σ μ : q_St} (h : B ≤ C) (H : RR B σ μ) : RR C σ μ := ⟨R0_mono h H.1, H.2⟩
theorem cmp_skip {B : Nat} {σ μ : q_St} (H : R0 B σ μ) {j : Nat} (hj : j < 4) (h : σ 31 j = stJ σ j) (n : Nat) : f_Mo_compare_2 (n + 1) μ (nI j) = f_Mo_compare_2 n μ (nI (j + 1)) := by
  obtain ⟨σ', μ', -, e, -, -, -, -, -, hz⟩ := settle_sim H hj
  rw [e n, (hz h).2]
theorem cmp_end (μ : q_St) (n : Nat) : f_Mo_compare_2 (n + 1) μ (nI 4) = some μ := by rw [f_Mo_compare_2, if_pos (by decide)]
theorem cmp_all {B : Nat} {σ μ : q_St} (H : R0 B σ μ) : ∀ (k j n : Nat), j + k = 4 → k < n → (∀ i, j ≤ i → i < 4 → σ 31 i = stJ σ i) → f_Mo_compare_2 n μ (nI j) = some μ := by
  intro k
  induction k with
  | zero =>
    intro j n hj hn _
    obtain ⟨n, rfl⟩ : ∃ z, n = z + 1 := ⟨n - 1, by omega⟩
    rw [show j = 4 by omega]; exact cmp_end μ n
  | succ k ih =>
    intro j n hj hn hs
    obtain ⟨n, rfl⟩ : ∃ z, n = z + 1 := ⟨n - 1, by omega⟩
    rw [cmp_skip H (by omega) (hs j (Nat.le_refl _) (by omega))]
    exact ih (j + 1) n (by omega) (by omega) (fun i h1 h2 => hs i (by omega) h2)
/-- one job is settled by the class, all by the reference: the others were already -/
theorem one_sim {B : Nat} {σ μ : q_St} (H : R0 B σ μ) {j : Nat} (hj : j < 4) (ho : ∀ k, k < 4 → ¬ k = j → σ 31 k = stJ σ k) : ∃ σ' μ', f_JT_settle σ (nI j) = some σ' ∧ f_Mo_compare μ = some μ' ∧ RR B σ' μ' ∧ eqx [20, 30, 31] σ σ' ∧ eqx [15, 16, 41] μ μ' := by
  obtain ⟨σ', μ', e1, e2, H', E1, E2, s1, s2, -⟩ := settle_sim H hj
  have hset : settled σ' := fun k hk => by
    rw [stJ_c E1 (by decide)]
    by_cases hkj : k = j
    · rw [hkj]; exact s1
    · rw [s2 k hkj]; exact ho k hk hkj
  have to : ∀ (i n : Nat), i ≤ j → f_Mo_compare_2 (n + i) μ (nI (j - i)) = f_Mo_compare_2 n μ (nI j) := by
    intro i
    induction i with
    | zero => intro n _; rfl
    | succ i ih =>
      intro n hi
      rw [show n + (i + 1) = (n + i) + 1 by omega, cmp_skip H (by omega) (ho (j - (i + 1)) (by omega) (by omega)), show j - (i + 1) + 1 = j - i by omega]
      exact ih n (by omega)
  refine ⟨σ', μ', e1, ?_, ⟨H', hset⟩, E1, E2⟩
  unfold f_Mo_compare
  have h1 := to j (200 - j) (Nat.le_refl _)
  rw [Nat.sub_self, show 200 - j + j = 200 by omega] at h1
  rw [show (0 : Int32) = nI 0 from rfl, h1, show 200 - j = (199 - j) + 1 by omega, e2]
  exact cmp_all H' (3 - j) (j + 1) (199 - j) (by omega) (by omega) (fun i _ hi => hset i hi)
/-- all are settled by both -/
theorem all_sim {B : Nat} : ∀ (k j n m : Nat) (σ μ : q_St), j + k = 4 → k < n → k < m → R0 B σ μ → (∀ i, i < j → σ 31 i = stJ σ i) → ∃ σ' μ', f_JT_settleAll_2 n σ (nI j) = some σ' ∧ f_Mo_compare_2 m μ (nI j) = some μ' ∧ RR B σ' μ' ∧ eqx [20, 30, 31] σ σ' ∧ eqx [15, 16, 41] μ μ' := by
  intro k
  induction k with
  | zero =>
    intro j n m σ μ hj hn hm H hs
    obtain ⟨n, rfl⟩ : ∃ z, n = z + 1 := ⟨n - 1, by omega⟩
    obtain ⟨m, rfl⟩ : ∃ z, m = z + 1 := ⟨m - 1, by omega⟩
    obtain rfl : j = 4 := by omega
    exact ⟨σ, μ, by rw [f_JT_settleAll_2, if_pos (by decide)], cmp_end μ m, ⟨H, hs⟩, eqx_rf _ _, eqx_rf _ _⟩
  | succ k ih =>
    intro j n m σ μ hj hn hm H hs
    obtain ⟨n, rfl⟩ : ∃ z, n = z + 1 := ⟨n - 1, by omega⟩
    obtain ⟨m, rfl⟩ : ∃ z, m = z + 1 := ⟨m - 1, by omega⟩
    obtain ⟨σ1, μ1, e1, e2, H1, E1, E2, s1, s2, -⟩ := settle_sim H (show j < 4 by omega)
    obtain ⟨σ2, μ2, e3, e4, H2, E3, E4⟩ := ih (j + 1) n m σ1 μ1 (by omega) (by omega) (by omega) H1 (fun i hi => by
      rw [stJ_c E1 (by decide)]
      by_cases hij : i = j
      · rw [hij]; exact s1
      · rw [s2 i hij]; exact hs i (by omega))
    refine ⟨σ2, μ2, ?_, by rw [e2 m]; exact e4, H2, eqx_tr E1 E3, eqx_tr E2 E4⟩
    rw [f_JT_settleAll_2, if_neg (by rw [show (4 : Int32) = nI 4 from rfl]; exact nI_ge (by omega) (by decide)), q_grd_t (q_inT (show j < 4 by omega) (by decide)), q_bnd_s e1, show nI j + 1 = nI (j + 1) from nI_1 j]
    exact e3
theorem settleAll_sim {B : Nat} {σ μ : q_St} (H : R0 B σ μ) : ∃ σ' μ', f_JT_settleAll σ = some σ' ∧ f_Mo_compare μ = some μ' ∧ RR B σ' μ' ∧ eqx [20, 30, 31] σ σ' ∧ eqx [15, 16, 41] μ μ' :=
  all_sim 4 0 200 200 σ μ rfl (by decide) (by decide) H (fun i hi => absurd hi (Nat.not_lt_zero i))
/-- another job's state stays -/
theorem stJ_other {σ σ' μ : q_St} (HJ : RJ σ μ) {k j : Nat} (hk : k < 4) (hj : j < 4) (hkj : ¬ k = j) (E : eqx [33, 37, 38] σ σ') (h : ∀ i, ¬ σ 32 i = nI j → σ' 33 i = σ 33 i) : stJ σ' k = stJ σ k := by
  unfold stJ
  rw [E 28 (by decide), E 29 (by decide)]
  obtain ⟨-, hh⟩ := HJ k hk
  have nn : ∀ x : Nat, σ 32 x = nI k → σ' 33 x = σ 33 x := fun x hx => h x (fun z => nI_ne (by omega) (by omega) hkj (hx.symm.trans z))
  rcases hh with ⟨h1, h2, h3, h4⟩ | ⟨h1, h2, a, ha, h3, h4, h5, h6⟩
  · rw [h2, if_pos m1lt, if_pos m1lt]
  · rw [h3, if_neg (nI_pos (show a < 2 ^ 31 by omega)), if_neg (nI_pos (show a < 2 ^ 31 by omega)), nI_clamp (show a < 2 ^ 31 by omega), nn a h5]
    rcases h6 with ⟨h6, h7⟩ | ⟨b, hb, h6, h7, h8, h9⟩
    · rw [h6, if_pos m1lt, if_pos m1lt]
    · rw [h6, if_neg (nI_pos (show b < 2 ^ 31 by omega)), if_neg (nI_pos (show b < 2 ^ 31 by omega)), nI_clamp (show b < 2 ^ 31 by omega), nn b h8]
/-- behind a signal to a job: all but 'settled' of that job -/
theorem sent_R0 {B : Nat} {σ σ' μ μ' : q_St} (H : R0 B σ μ) (E1 : eqx [33, 37, 38] σ σ') (E2 : eqx [2, 7, 8] μ μ') (HS : RS σ' μ') : R0 B σ' μ' :=
  ⟨HS, RJ_c E1 E2 (by decide) (by decide) H.2.1, RT_c E1 E2 (by decide) (by decide) H.2.2.1, RP_c E1 E2 (by decide) (by decide) H.2.2.2.1, RQ_c E1 E2 (by decide) (by decide) H.2.2.2.2.1, RD_c E1 E2 (by decide) (by decide) H.2.2.2.2.2⟩
theorem there_c {σ σ' μ μ' : q_St} {F G : List Nat} {j : Nat} (h : eqx F σ σ') (g : eqx G μ μ') (h1 : ∀ f ∈ [28, 29, 31, 32], f ∉ F) (g1 : ∀ f ∈ [12, 13, 14, 15], f ∉ G) (H : there σ μ j) : there σ' μ' j := by
  unfold there
  rw [h 28 (h1 28 (by decide)), h 29 (h1 29 (by decide)), h 31 (h1 31 (by decide)), h 32 (h1 32 (by decide)), g 12 (g1 12 (by decide)), g 13 (g1 13 (by decide)), g 14 (g1 14 (by decide)), g 15 (g1 15 (by decide))]
  exact H
theorem there_of {σ μ : q_St} (HJ : RJ σ μ) {j : Nat} (hj : j < 4) (h : μ 12 j = 1) : there σ μ j := by
  rcases (HJ j hj).2 with hg | ht
  · exact absurd (hg.1.symm.trans h) (by decide)
  · exact ht
/-- a job is sent a signal, and its state is answered -/
theorem sas_sim {B : Nat} {σ μ : q_St} (H0 : R0 B σ μ) {j s : Nat} (hj : j < 4) (hs : s < 10) (ht : there σ μ j) (hset : ∀ k, k < 4 → ¬ k = j → σ 31 k = stJ σ k) : ∃ r σ' μ', f_JT_sendAndSettle σ (nI j) (nI s) = some (r, σ') ∧ q_bnd (f_Mo_sendJob μ (nI j) (nI s)) (fun m1 => q_bnd (f_Mo_compare m1) (fun m2 => q_bnd (f_Mo_stateOf m2 (nI j)) (fun q => some (q.1, q.2)))) = some (r, μ') ∧ RR B σ' μ' ∧ eqx [33, 37, 38, 20, 30, 31] σ σ' ∧ eqx [2, 7, 8, 15, 16, 41] μ μ' := by
  obtain ⟨σ1, μ1, e1, e2, E1, E2, HS1, hx⟩ := sendJob_sim H0.1 hj ht hs
  have H1 := sent_R0 H0 E1 E2 HS1
  obtain ⟨σ2, μ2, e3, e4, H2, E3, E4⟩ := one_sim H1 hj (fun k hk hkj => by rw [stJ_other H0.2.1 hk hj hkj E1 hx, E1 31 (by decide)]; exact hset k hk hkj)
  have ht2 : there σ2 μ2 j := there_of H2.1.2.1 hj (by rw [E4 12 (by decide), E2 12 (by decide)]; exact ht.1)
  obtain ⟨e5, -⟩ := state_M H2.1.1 hj ht2
  refine ⟨stJ σ2 j, σ2, μ2, ?_, ?_, H2, ?_, ?_⟩
  · unfold f_JT_sendAndSettle
    rw [q_grd_t (q_inT hj (by decide)), nI_clamp (show j < 2 ^ 31 by omega), q_bnd_s e1, q_bnd_s e3, q_bnd_s (state_C H2.1.2.1 hj)]
  · rw [q_bnd_s e2, q_bnd_s e4, q_bnd_s e5]
  · exact eqx_tr (eqx_mono E1 (by decide)) (eqx_mono E3 (by decide))
  · exact eqx_tr (eqx_mono E2 (by decide)) (eqx_mono E4 (by decide))
