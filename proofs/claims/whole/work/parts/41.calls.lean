/-! THE CALLS tick, report, hang -/
theorem RS_41 {σ μ : q_St} (H : RS σ μ) (i : Nat) (v : Int32) : RS (q_up σ 41 i v) (q_up μ 11 i v) := by
  intro k hk
  obtain ⟨⟨h3, p1, p2, p3, p4, p5, p6, p7, p8, p9⟩, ho⟩ := H k hk
  unfold RS1 own1 sm3 st3
  simp only [q_up_f (show 28 ≠ 41 by decide), q_up_f (show 29 ≠ 41 by decide), q_up_f (show 32 ≠ 41 by decide), q_up_f (show 33 ≠ 41 by decide), q_up_f (show 34 ≠ 41 by decide), q_up_f (show 35 ≠ 41 by decide), q_up_f (show 36 ≠ 41 by decide), q_up_f (show 37 ≠ 41 by decide), q_up_f (show 38 ≠ 41 by decide), q_up_f (show 39 ≠ 41 by decide), q_up_f (show 40 ≠ 41 by decide), q_up_f (show 2 ≠ 11 by decide), q_up_f (show 3 ≠ 11 by decide), q_up_f (show 4 ≠ 11 by decide), q_up_f (show 5 ≠ 11 by decide), q_up_f (show 6 ≠ 11 by decide), q_up_f (show 7 ≠ 11 by decide), q_up_f (show 8 ≠ 11 by decide), q_up_f (show 9 ≠ 11 by decide), q_up_f (show 10 ≠ 11 by decide)]
  refine ⟨⟨h3, p1, p2, p3, p4, p5, ?_, p7, p8, p9⟩, ho⟩
  by_cases hki : k = i
  · subst hki; rw [q_up_self, q_up_self]
  · rw [q_up_i hki, q_up_i hki]; exact p6
theorem RR_41 {B : Nat} {σ μ : q_St} (H : RR B σ μ) (i : Nat) (v : Int32) : RR B (q_up σ 41 i v) (q_up μ 11 i v) := by
  have E1 : eqx [41] σ (q_up σ 41 i v) := eqx_up (by decide)
  have E2 : eqx [11] μ (q_up μ 11 i v) := eqx_up (by decide)
  obtain ⟨⟨HS, HJ, HT, HP, HQ, HD⟩, Hs⟩ := H
  exact ⟨⟨RS_41 HS i v, RJ_c E1 E2 (by decide) (by decide) HJ, RT_c E1 E2 (by decide) (by decide) HT, RP_c E1 E2 (by decide) (by decide) HP, RQ_c E1 E2 (by decide) (by decide) HQ, RD_c E1 E2 (by decide) (by decide) HD⟩, settled_c E1 (by decide) Hs⟩
theorem tick_loop {B : Nat} : ∀ (k i n m : Nat) (cnt : Int32) (σ μ : q_St), i + k = 8 → k < n → k < m → RR B σ μ → ∃ r σ' μ', f_JT_tick_4 n σ cnt (nI i) = some (r, σ') ∧ f_Mo_tick_9 m μ cnt (nI i) = some (r, μ') ∧ RR B σ' μ' := by
  intro k
  induction k with
  | zero =>
    intro i n m cnt σ μ hi hn hm H
    obtain ⟨n, rfl⟩ : ∃ z, n = z + 1 := ⟨n - 1, by omega⟩
    obtain ⟨m, rfl⟩ : ∃ z, m = z + 1 := ⟨m - 1, by omega⟩
    obtain rfl : i = 8 := by omega
    exact ⟨cnt, σ, μ, by rw [f_JT_tick_4, if_pos (by decide)], by rw [f_Mo_tick_9, if_pos (by decide)], H⟩
  | succ k ih =>
    intro i n m cnt σ μ hi hn hm H
    obtain ⟨n, rfl⟩ : ∃ z, n = z + 1 := ⟨n - 1, by omega⟩
    obtain ⟨m, rfl⟩ : ∃ z, m = z + 1 := ⟨m - 1, by omega⟩
    have hi8 : i < 8 := by omega
    have h8 : ¬ (8 : Int32) ≤ nI i := by rw [show (8 : Int32) = nI 8 from rfl]; exact nI_ge hi8 (by decide)
    have hq := q_inT hi8 (show 8 < 2 ^ 31 by decide)
    have hc : (nI i).toNatClampNeg = i := nI_clamp (by omega)
    obtain ⟨⟨h3, p1, p2, p3, p4, p5, p6, p7, p8, p9⟩, ho⟩ := H.1.1 i hi8
    rw [f_JT_tick_4, f_Mo_tick_9]
    unfold f_JT_tick_45 f_Mo_tick_47
    rw [if_neg h8, if_neg h8, nI_1]
    simp only [q_grd_t hq, hc]
    rw [← h3.1, ← p6]
    by_cases h1 : σ 33 i = 1
    · rw [if_pos h1, if_pos h1]
      by_cases h2 : σ 41 i ≤ 0
      · rw [if_pos h2, if_pos h2]
        exact ih (i + 1) n m cnt σ μ (by omega) (by omega) (by omega) H
      · rw [if_neg h2, if_neg h2]
        exact ih (i + 1) n m (cnt + 1) _ _ (by omega) (by omega) (by omega) (RR_41 H i _)
    · rw [if_neg h1, if_neg h1]
      exact ih (i + 1) n m cnt σ μ (by omega) (by omega) (by omega) H
theorem tick_sim {B : Nat} {σ μ : q_St} (H : RR B σ μ) : SIM B (f_JT_tick σ) (f_Mo_tick μ) := by
  unfold f_JT_tick f_Mo_tick
  obtain ⟨r, σ', μ', h1, h2, h3⟩ := tick_loop 8 0 200 200 0 σ (q_up μ 48 0 0) rfl (by decide) (by decide) (RR_48 0 H)
  exact ⟨r, σ', μ', h1, h2, RR_mono (by omega) h3⟩
/-- a job that is done and told is gone, and its slots are free -/
theorem slots_of {σ μ : q_St} (HS : RS σ μ) {j a : Nat} {b : Int32} (hj : j < 4) (h28 : σ 28 j = nI a) (h29 : σ 29 j = b) {k : Nat} (hk : k < 8) (h : σ 32 k = nI j) (ha : a < 8) : k = a ∨ b = nI k := by
  rcases (HS k hk).2 with ⟨-, h2⟩ | ⟨-, j', q1, q2, q3, q4⟩
  · exact absurd (h.symm.trans h2) (nIm1 j (by omega))
  · have : j = j' := (nI_eq (by omega) (by omega)).mp (h.symm.trans q2)
    subst this
    rcases q4 with q4 | q4
    · left; exact ((nI_eq (by omega) (by omega)).mp (h28.symm.trans q4)).symm
    · right; rw [← h29]; exact q4
theorem free1 {σ μ : q_St} (HS : ∀ k, k < 8 → RS1 σ μ k) (a : Nat) : ∀ k, k < 8 → RS1 (q_up (q_up σ 32 a (-1)) 33 a 0) (q_up μ 2 a 0) k := by
  intro k hk
  obtain ⟨h3, p⟩ := HS k hk
  unfold RS1 sm3 at *
  by_cases hka : k = a
  · subst hka
    simp only [q_up_f (show 34 ≠ 33 by decide), q_up_f (show 35 ≠ 33 by decide), q_up_f (show 36 ≠ 33 by decide), q_up_f (show 37 ≠ 33 by decide), q_up_f (show 38 ≠ 33 by decide), q_up_f (show 39 ≠ 33 by decide), q_up_f (show 40 ≠ 33 by decide), q_up_f (show 41 ≠ 33 by decide), q_up_f (show 34 ≠ 32 by decide), q_up_f (show 35 ≠ 32 by decide), q_up_f (show 36 ≠ 32 by decide), q_up_f (show 37 ≠ 32 by decide), q_up_f (show 38 ≠ 32 by decide), q_up_f (show 39 ≠ 32 by decide), q_up_f (show 40 ≠ 32 by decide), q_up_f (show 41 ≠ 32 by decide), q_up_f (show 4 ≠ 2 by decide), q_up_f (show 5 ≠ 2 by decide), q_up_f (show 6 ≠ 2 by decide), q_up_f (show 7 ≠ 2 by decide), q_up_f (show 8 ≠ 2 by decide), q_up_f (show 9 ≠ 2 by decide), q_up_f (show 10 ≠ 2 by decide), q_up_f (show 11 ≠ 2 by decide), q_up_self]
    exact ⟨⟨trivial, h3.2⟩, p⟩
  · simp only [q_up_i hka]
    exact ⟨h3, p⟩
theorem RS1_12 {σ μ : q_St} {k j : Nat} {x : Int32} (H : RS1 σ μ k) : RS1 σ (q_up μ 12 j x) k := by
  unfold RS1 sm3
  simp only [q_up_f (show 2 ≠ 12 by decide), q_up_f (show 4 ≠ 12 by decide), q_up_f (show 5 ≠ 12 by decide), q_up_f (show 6 ≠ 12 by decide), q_up_f (show 7 ≠ 12 by decide), q_up_f (show 8 ≠ 12 by decide), q_up_f (show 9 ≠ 12 by decide), q_up_f (show 10 ≠ 12 by decide), q_up_f (show 11 ≠ 12 by decide)]
  exact H
theorem vanish_sim {B : Nat} {σ μ : q_St} (H : RR B σ μ) {j : Nat} (hj : j < 4) (ht : there σ μ j) (hfg : ¬ σ 20 0 = nI j) : ∃ σ' μ', f_Job_vanish σ j = some σ' ∧ (∀ K : q_St → Option (Int32 × q_St), q_grd (q_in (nI j) 4) (q_grd (q_in (nI j) 4) (q_grd (q_in ((q_up μ 12 (nI j).toNatClampNeg 0) 13 (nI j).toNatClampNeg) 8) (q_grd (q_in (nI j) 4) (if ((q_up (q_up μ 12 (nI j).toNatClampNeg 0) 2 ((q_up μ 12 (nI j).toNatClampNeg 0) 13 (nI j).toNatClampNeg).toNatClampNeg 0) 14 (nI j).toNatClampNeg) < 0 then (K (q_up (q_up μ 12 (nI j).toNatClampNeg 0) 2 ((q_up μ 12 (nI j).toNatClampNeg 0) 13 (nI j).toNatClampNeg).toNatClampNeg 0)) else (q_grd (q_in (nI j) 4) (q_grd (q_in ((q_up (q_up μ 12 (nI j).toNatClampNeg 0) 2 ((q_up μ 12 (nI j).toNatClampNeg 0) 13 (nI j).toNatClampNeg).toNatClampNeg 0) 14 (nI j).toNatClampNeg) 8) (K (q_up (q_up (q_up μ 12 (nI j).toNatClampNeg 0) 2 ((q_up μ 12 (nI j).toNatClampNeg 0) 13 (nI j).toNatClampNeg).toNatClampNeg 0) 2 ((q_up (q_up μ 12 (nI j).toNatClampNeg 0) 2 ((q_up μ 12 (nI j).toNatClampNeg 0) 13 (nI j).toNatClampNeg).toNatClampNeg 0) 14 (nI j).toNatClampNeg).toNatClampNeg 0)))))))) = K μ') ∧ RR B σ' μ' := by
  obtain ⟨⟨HS, HJ, HT, HP, HQ, HD⟩, Hs⟩ := H
  obtain ⟨h1, h2, a, ha, h3, h4, h5, h6⟩ := id ht
  have hq := q_inT hj (show 4 < 2 ^ 31 by decide)
  have hc : (nI j).toNatClampNeg = j := nI_clamp (by omega)
  -- the new states, with b the second slot or none
  have main : ∀ (σ1 μ1 : q_St), (∀ k, k < 8 → RS1 σ1 μ1 k) → (∀ k, σ 32 k = nI j → k < 8 → σ1 33 k = 0 ∧ σ1 32 k = -1) → (∀ k, ¬ σ 32 k = nI j → σ1 33 k = σ 33 k ∧ σ1 32 k = σ 32 k) → eqx [32, 33] σ σ1 → eqx [2, 12] μ μ1 → μ1 12 j = 0 → (∀ k, ¬ k = j → μ1 12 k = μ 12 k) → RR B (q_up (q_up (q_up σ1 28 j (-1)) 29 j (-1)) 31 j (-1)) μ1 := by
    intro σ1 μ1 hS1 hin hout E1 E2 m12 m12'
    have E3 : eqx [28, 29, 31, 32, 33] σ (q_up (q_up (q_up σ1 28 j (-1)) 29 j (-1)) 31 j (-1)) := eqx_tr (eqx_tr (eqx_tr (eqx_mono E1 (by intro f; simp; omega)) (eqx_up (by decide))) (eqx_up (by decide))) (eqx_up (by decide))
    have w32 : ∀ k, (q_up (q_up (q_up σ1 28 j (-1)) 29 j (-1)) 31 j (-1)) 32 k = σ1 32 k := fun k => by rw [q_up_f (by decide), q_up_f (by decide), q_up_f (by decide)]
    have w33 : ∀ k, (q_up (q_up (q_up σ1 28 j (-1)) 29 j (-1)) 31 j (-1)) 33 k = σ1 33 k := fun k => by rw [q_up_f (by decide), q_up_f (by decide), q_up_f (by decide)]
    have w28 : ∀ k, (q_up (q_up (q_up σ1 28 j (-1)) 29 j (-1)) 31 j (-1)) 28 k = if k = j then -1 else σ 28 k := fun k => by rw [q_up_f (by decide), q_up_f (by decide)]; unfold q_up; rw [E1 28 (by decide)]; simp
    have w29 : ∀ k, (q_up (q_up (q_up σ1 28 j (-1)) 29 j (-1)) 31 j (-1)) 29 k = if k = j then -1 else σ 29 k := fun k => by rw [q_up_f (by decide)]; unfold q_up; rw [E1 29 (by decide)]; simp
    have w31 : ∀ k, (q_up (q_up (q_up σ1 28 j (-1)) 29 j (-1)) 31 j (-1)) 31 k = if k = j then -1 else σ 31 k := fun k => by unfold q_up; rw [E1 31 (by decide)]; simp
    generalize q_up (q_up (q_up σ1 28 j (-1)) 29 j (-1)) 31 j (-1) = σ2 at *
    have own_ne : ∀ k x, ¬ k = j → σ 32 x = nI k → k < 4 → ¬ σ 32 x = nI j := fun k x hk hx hk4 z => hk ((nI_eq (by omega) (by omega)).mp (hx.symm.trans z))
    refine ⟨⟨?_, ?_, ?_, RP_c E3 E2 (by decide) (by decide) HP, RQ_c E3 E2 (by decide) (by decide) HQ, RD_c E3 E2 (by decide) (by decide) HD⟩, ?_⟩
    · intro k hk
      have hr := hS1 k hk
      refine ⟨?_, ?_⟩
      · unfold RS1 sm3 at hr ⊢
        rw [w33, E3 34 (by decide), E3 35 (by decide), E3 36 (by decide), E3 37 (by decide), E3 38 (by decide), E3 39 (by decide), E3 40 (by decide), E3 41 (by decide)]
        rw [E1 34 (by decide), E1 35 (by decide), E1 36 (by decide), E1 37 (by decide), E1 38 (by decide), E1 39 (by decide), E1 40 (by decide), E1 41 (by decide)] at hr
        exact hr
      · by_cases hkj : σ 32 k = nI j
        · left
          rw [w33, w32]
          exact hin k hkj hk
        · obtain ⟨o1, o2⟩ := hout k hkj
          unfold own1 st3
          rw [w33, w32, o1, o2, E2 3 (by decide)]
          rcases (HS k hk).2 with hl | ⟨q0, j', q1, q2, q3, q4⟩
          · exact Or.inl hl
          · refine Or.inr ⟨q0, j', q1, q2, q3, ?_⟩
            have hjj : ¬ j' = j := fun z => hkj (by rw [← z]; exact q2)
            rw [w28, w29, if_neg hjj, if_neg hjj]
            exact q4
    · intro k hk
      obtain ⟨ku, kh⟩ := HJ k hk
      refine ⟨by rw [E3 30 (by decide), E2 16 (by decide)]; exact ku, ?_⟩
      by_cases hkj : k = j
      · left
        subst hkj
        exact ⟨m12, by rw [w28, if_pos rfl], by rw [w29, if_pos rfl], by rw [w31, if_pos rfl]⟩
      · rcases kh with kg | ⟨t1, t2, a', t3, t4, t5, t6, t7⟩
        · left
          exact ⟨by rw [m12' k hkj]; exact kg.1, by rw [w28, if_neg hkj]; exact kg.2.1, by rw [w29, if_neg hkj]; exact kg.2.2.1, by rw [w31, if_neg hkj]; exact kg.2.2.2⟩
        · right
          refine ⟨by rw [m12' k hkj]; exact t1, by rw [w31, if_neg hkj, E2 15 (by decide)]; exact t2, a', t3, by rw [w28, if_neg hkj]; exact t4, by rw [E2 13 (by decide)]; exact t5, by rw [w32, (hout a' (own_ne k a' hkj t6 hk)).2]; exact t6, ?_⟩
          rw [w29, if_neg hkj, E2 14 (by decide)]
          rcases t7 with t7 | ⟨b', s1, s2, s3, s4, s5⟩
          · exact Or.inl t7
          · exact Or.inr ⟨b', s1, s2, s3, by rw [w32, (hout b' (own_ne k b' hkj s4 hk)).2]; exact s4, s5⟩
    · obtain ⟨t1, t2, t3, t4, t5⟩ := HT
      unfold RT
      rw [E3 20 (by decide), E3 21 (by decide), E3 22 (by decide), E3 23 (by decide), E2 40 (by decide), E2 41 (by decide), E2 42 (by decide), E2 43 (by decide)]
      refine ⟨t1, t2, t3, ?_, t5⟩
      rcases t4 with t4 | ⟨k, k1, k2, k3, k4⟩
      · exact Or.inl t4
      · have hkj : ¬ k = j := fun z => hfg (by rw [← z]; exact k2)
        exact Or.inr ⟨k, k1, k2, by rw [m12' k hkj]; exact k3, by rw [w31, if_neg hkj]; exact k4⟩
    · intro k hk
      rw [w31]
      by_cases hkj : k = j
      · rw [if_pos hkj]; unfold stJ; rw [w28, if_pos hkj, if_pos m1lt]
      · rw [if_neg hkj, Hs k hk]
        unfold stJ
        rw [w28, w29, if_neg hkj, if_neg hkj]
        obtain ⟨-, kh⟩ := HJ k hk
        rcases kh with kg | ⟨t1, t2, a', t3, t4, t5, t6, t7⟩
        · rw [kg.2.1, if_pos m1lt, if_pos m1lt]
        · rw [t4, if_neg (nI_pos (show a' < 2 ^ 31 by omega)), if_neg (nI_pos (show a' < 2 ^ 31 by omega)), nI_clamp (show a' < 2 ^ 31 by omega), w33, (hout a' (own_ne k a' hkj t6 hk)).1]
          rcases t7 with ⟨s1, s2⟩ | ⟨b', s1, s2, s3, s4, s5⟩
          · rw [s1, if_pos m1lt, if_pos m1lt]
          · rw [s2, if_neg (nI_pos (show b' < 2 ^ 31 by omega)), if_neg (nI_pos (show b' < 2 ^ 31 by omega)), nI_clamp (show b' < 2 ^ 31 by omega), w33, (hout b' (own_ne k b' hkj s4 hk)).1]
  unfold f_Job_vanish f_Job_vanish_14 f_Job_vanish_28 f_JobProcess_vanish
  rw [h3, if_neg (nI_pos (show a < 2 ^ 31 by omega)), q_grd_t (q_inT ha (by decide)), nI_clamp (show a < 2 ^ 31 by omega)]
  simp only [q_bnd_v, q_grd_t hq, hc]
  have u13 : (q_up μ 12 j 0) 13 j = nI a := by rw [q_up_f (by decide)]; exact h4
  simp only [u13, q_grd_t (q_inT ha (show 8 < 2 ^ 31 by decide)), nI_clamp (show a < 2 ^ 31 by omega)]
  have u29 : (q_up (q_up σ 32 a (-1)) 33 a 0) 29 j = σ 29 j := by rw [q_up_f (by decide), q_up_f (by decide)]
  have u14 : (q_up (q_up μ 12 j 0) 2 a 0) 14 j = μ 14 j := by rw [q_up_f (by decide), q_up_f (by decide)]
  simp only [u29, u14]
  have S1 := free1 (σ := σ) (μ := q_up μ 12 j 0) (fun k hk => RS1_12 (HS k hk).1) a
  have n12 : ∀ k, ¬ k = j → (q_up μ 12 j 0) 12 k = μ 12 k := fun k hk => q_up_i hk
  rcases h6 with ⟨h6, h7⟩ | ⟨b, hb, h6, h7, h8, h9⟩
  · simp only [h6, h7, if_pos m1lt]
    refine ⟨_, _, rfl, fun K => rfl, main (q_up (q_up σ 32 a (-1)) 33 a 0) (q_up (q_up μ 12 j 0) 2 a 0) S1 ?_ ?_ (eqx_tr (eqx_up (by decide)) (eqx_up (by decide))) (eqx_tr (eqx_up (by decide)) (eqx_up (by decide))) ?_ ?_⟩
    · intro k hk1 hk2
      rcases slots_of HS hj h3 h6 hk2 hk1 ha with rfl | z
      · exact ⟨q_up_self _ _ _ _, by rw [q_up_f (by decide), q_up_self]⟩
      · exact absurd z.symm (nIm1 k (by omega))
    · intro k hk
      have hka : k ≠ a := fun z => hk (by rw [z]; exact h5)
      exact ⟨by rw [q_up_i hka, q_up_f (by decide)], by rw [q_up_f (by decide), q_up_i hka]⟩
    · rw [q_up_f (by decide), q_up_self]
    · intro k hk; rw [q_up_f (by decide)]; exact n12 k hk
  · simp only [h6, h7, if_neg (nI_pos (show b < 2 ^ 31 by omega)), q_grd_t (q_inT hb (show 8 < 2 ^ 31 by decide)), nI_clamp (show b < 2 ^ 31 by omega)]
    have S2 := free1 S1 b
    refine ⟨_, _, rfl, fun K => rfl, main (q_up (q_up (q_up (q_up σ 32 a (-1)) 33 a 0) 32 b (-1)) 33 b 0) (q_up (q_up (q_up μ 12 j 0) 2 a 0) 2 b 0) S2 ?_ ?_ (eqx_tr (eqx_tr (eqx_tr (eqx_up (by decide)) (eqx_up (by decide))) (eqx_up (by decide))) (eqx_up (by decide))) (eqx_tr (eqx_tr (eqx_up (by decide)) (eqx_up (by decide))) (eqx_up (by decide))) ?_ ?_⟩
    · intro k hk1 hk2
      by_cases hkb : k = b
      · subst hkb
        exact ⟨q_up_self _ _ _ _, by rw [q_up_f (by decide), q_up_self]⟩
      · rcases slots_of HS hj h3 h6 hk2 hk1 ha with rfl | z
        · exact ⟨by rw [q_up_i hkb, q_up_f (by decide), q_up_self], by rw [q_up_f (by decide), q_up_i hkb, q_up_f (by decide), q_up_self]⟩
        · exact absurd ((nI_eq (by omega) (by omega)).mp z).symm hkb
    · intro k hk
      have hka : k ≠ a := fun z => hk (by rw [z]; exact h5)
      have hkb : k ≠ b := fun z => hk (by rw [z]; exact h8)
      exact ⟨by rw [q_up_i hkb, q_up_f (by decide), q_up_i hka, q_up_f (by decide)], by rw [q_up_f (by decide), q_up_i hkb, q_up_f (by decide), q_up_i hka]⟩
    · rw [q_up_f (by decide), q_up_f (by decide), q_up_self]
    · intro k hk; rw [q_up_f (by decide), q_up_f (by decide)]; exact n12 k hk

theorem RR_told {B : Nat} {σ μ : q_St} (H : RR B σ μ) (j : Nat) : RR B (q_up σ 30 j 0) (q_up μ 16 j 0) := by
  have E1 : eqx [30] σ (q_up σ 30 j 0) := eqx_up (by decide)
  have E2 : eqx [16] μ (q_up μ 16 j 0) := eqx_up (by decide)
  obtain ⟨⟨HS, HJ, HT, HP, HQ, HD⟩, Hs⟩ := H
  refine ⟨⟨RS_c E1 E2 (by decide) (by decide) HS, ?_, RT_c E1 E2 (by decide) (by decide) HT, RP_c E1 E2 (by decide) (by decide) HP, RQ_c E1 E2 (by decide) (by decide) HQ, RD_c E1 E2 (by decide) (by decide) HD⟩, settled_c E1 (by decide) Hs⟩
  intro k hk
  obtain ⟨ku, kh⟩ := HJ k hk
  refine ⟨?_, ?_⟩
  · by_cases hkj : k = j
    · subst hkj; rw [q_up_self, q_up_self]
    · rw [q_up_i hkj, q_up_i hkj]; exact ku
  · unfold gone there
    rw [E1 28 (by decide), E1 29 (by decide), E1 31 (by decide), E1 32 (by decide), E2 12 (by decide), E2 13 (by decide), E2 14 (by decide), E2 15 (by decide)]
    exact kh
theorem tell_sim {B : Nat} {σ μ : q_St} (H : RR B σ μ) {j : Nat} (hj : j < 4) (ht : there σ μ j) : ∃ r σ' μ', f_JT_tell σ (nI j) = some (r, σ') ∧ f_Mo_report_36 μ (nI j) = some (r, μ') ∧ RR B σ' μ' := by
  have hq := q_inT hj (show 4 < 2 ^ 31 by decide)
  have hc : (nI j).toNatClampNeg = j := nI_clamp (by omega)
  have H1 := RR_told H j
  have ht1 : there (q_up σ 30 j 0) (q_up μ 16 j 0) j := there_c (F := [30]) (G := [16]) (eqx_up (by decide)) (eqx_up (by decide)) (by decide) (by decide) ht
  have eS : stJ (q_up σ 30 j 0) j = stJ σ j := stJ_c (F := [30]) (eqx_up (by decide)) (by decide) j
  obtain ⟨e2, -⟩ := state_M H1.1.1 hj ht1
  rw [eS] at e2
  unfold f_JT_tell f_JT_tell_19 f_Mo_report_36 f_Mo_report_101
  rw [q_grd_t hq, hc, q_bnd_s (state_C H.1.2.1 hj), if_neg (show ¬ nI j = (4 : Int32) from nI_ne (b := 4) (by omega) (by decide) (by omega)), q_grd_t hq, q_bnd_s e2]
  by_cases h3 : stJ σ j = 3
  · have hfg : ¬ (q_up σ 30 j 0) 20 0 = nI j := by
      intro z
      rcases H1.1.2.2.1.2.2.2.1 with h | ⟨k, k1, k2, k3, k4⟩
      · exact nIm1 j (by omega) (z.symm.trans h)
      · have : k = j := (nI_eq (by omega) (by omega)).mp (k2.symm.trans z)
        subst this
        exact k4 ((H1.2 k hj).trans (eS.trans h3))
    obtain ⟨σ', μ', e3, e4, HR⟩ := vanish_sim H1 hj ht1 hfg
    have e5 := e4 (fun s => some ((4 * nI j) + stJ σ j, s))
    rw [hc] at e5
    simp only [h3, if_true, q_grd_t hq] at e5 ⊢
    rw [q_bnd_s e3, e5]
    exact ⟨_, σ', μ', rfl, rfl, HR⟩
  · simp only [h3, if_false, q_grd_t hq]
    exact ⟨_, _, _, rfl, rfl, H1⟩
theorem report_loop {B : Nat} : ∀ (k j n m : Nat) (σ μ : q_St), j + k = 4 → k < n → k < m → RR B σ μ → ∃ r σ' μ', f_JT_report_2 n σ (nI j) = some (r, σ') ∧ f_Mo_report_7 m μ (nI j) = some (r, μ') ∧ RR B σ' μ' := by
  intro k
  induction k with
  | zero =>
    intro j n m σ μ hj hn hm H
    obtain ⟨n, rfl⟩ : ∃ z, n = z + 1 := ⟨n - 1, by omega⟩
    obtain ⟨m, rfl⟩ : ∃ z, m = z + 1 := ⟨m - 1, by omega⟩
    obtain rfl : j = 4 := by omega
    refine ⟨-1, σ, μ, by rw [f_JT_report_2, if_pos (by decide)], ?_, H⟩
    rw [f_Mo_report_7, if_pos (by decide)]
    unfold f_Mo_report_36
    rw [if_pos (show nI 4 = (4 : Int32) from rfl)]
  | succ k ih =>
    intro j n m σ μ hj hn hm H
    obtain ⟨n, rfl⟩ : ∃ z, n = z + 1 := ⟨n - 1, by omega⟩
    obtain ⟨m, rfl⟩ : ∃ z, m = z + 1 := ⟨m - 1, by omega⟩
    have hj4 : j < 4 := by omega
    have h4 : ¬ (4 : Int32) ≤ nI j := by rw [show (4 : Int32) = nI 4 from rfl]; exact nI_ge hj4 (by decide)
    have hq := q_inT hj4 (show 4 < 2 ^ 31 by decide)
    have hc : (nI j).toNatClampNeg = j := nI_clamp (by omega)
    rw [f_JT_report_2, f_Mo_report_7]
    unfold f_JT_report_34 f_Mo_report_30 f_Job_exists f_Job_exists_12
    rw [if_neg h4, if_neg h4, q_grd_t hq, q_grd_t hq, hc, nI_1]
    obtain ⟨ku, kh⟩ := H.1.2.1 j hj4
    rcases kh with kg | kt
    · rw [kg.2.1, if_pos m1lt, kg.1, if_pos rfl]
      exact ih (j + 1) n m σ μ (by omega) (by omega) (by omega) H
    · obtain ⟨a, ha, h3, -⟩ := kt.2.2
      rw [h3, if_neg (nI_pos (show a < 2 ^ 31 by omega)), kt.1, if_neg (show ¬ (1 : Int32) = 0 by decide), q_grd_t hq, ← ku]
      show ∃ r σ' μ', (if σ 30 j = 0 then f_JT_report_2 n σ (nI (j + 1)) else q_bnd (f_JT_tell σ (nI j)) fun r7 => some (r7.1, r7.2)) = some (r, σ') ∧ _
      by_cases h0 : σ 30 j = 0
      · rw [if_pos h0, if_pos h0]
        exact ih (j + 1) n m σ μ (by omega) (by omega) (by omega) H
      · rw [if_neg h0, if_neg h0]
        obtain ⟨r, σ', μ', e1, e2, HR⟩ := tell_sim H hj4 kt
        exact ⟨r, σ', μ', by rw [q_bnd_s e1], e2, HR⟩
theorem report_sim {B : Nat} {σ μ : q_St} (H : RR B σ μ) : SIM B (f_JT_report σ) (f_Mo_report μ) := by
  unfold f_JT_report f_Mo_report
  obtain ⟨r, σ', μ', h1, h2, h3⟩ := report_loop 4 0 200 200 σ (q_up μ 48 0 0) rfl (by decide) (by decide) (RR_48 0 H)
  exact ⟨r, σ', μ', h1, h2, RR_mono (by omega) h3⟩
