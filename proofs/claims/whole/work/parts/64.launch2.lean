/-! LAUNCH: the job begun, and the call -/
/-- the relation behind a job's begin: the job j with the slots a and, perhaps, another -/
theorem begun_RR {B : Nat} {σ σ' μ μ' : q_St} (H : RR B σ μ) {j a : Nat} {bv : Int32} (hj : j < 4) (hg : gone σ μ j) (ha : a < 8) (hfa : free σ a) (hb : bv = -1 ∨ ∃ b, b < 8 ∧ b ≠ a ∧ bv = nI b ∧ free σ b)
    (s1 : ∀ i, i < 8 → (i = a ∨ bv = nI i) → (σ' 32 i = nI j ∧ μ' 3 i = nI j) ∧ (σ' 33 i = 1 ∧ μ' 2 i = 1) ∧ (∃ z, z < 4 ∧ σ' 34 i = nI z ∧ μ' 4 i = nI z) ∧ (σ' 35 i = 0 ∧ μ' 5 i = 0) ∧ (σ' 36 i = 0 ∧ μ' 6 i = 0) ∧ (σ' 37 i = 0 ∧ μ' 7 i = 0) ∧ (σ' 38 i = 0 ∧ μ' 8 i = 0) ∧ (σ' 39 i = 0 ∧ μ' 9 i = 0) ∧ (σ' 40 i = 0 ∧ μ' 10 i = 0) ∧ (σ' 41 i = 0 ∧ μ' 11 i = 0))
    (s2 : ∀ i, i < 8 → ¬ (i = a ∨ bv = nI i) → (∀ f, 32 ≤ f → f < 42 → σ' f i = σ f i) ∧ ∀ f, 2 ≤ f → f < 12 → μ' f i = μ f i)
    (j1 : σ' 28 j = nI a ∧ μ' 13 j = nI a) (j2 : σ' 29 j = bv ∧ μ' 14 j = bv) (j3 : σ' 30 j = 0 ∧ μ' 16 j = 0) (j4 : σ' 31 j = 1 ∧ μ' 15 j = 1) (j5 : μ' 12 j = 1) (j6 : σ' 27 (2 + j) = 0 ∧ μ' 17 j = 0)
    (o1 : ∀ k, k ≠ j → (σ' 28 k = σ 28 k ∧ σ' 29 k = σ 29 k ∧ σ' 30 k = σ 30 k ∧ σ' 31 k = σ 31 k) ∧ μ' 12 k = μ 12 k ∧ μ' 13 k = μ 13 k ∧ μ' 14 k = μ 14 k ∧ μ' 15 k = μ 15 k ∧ μ' 16 k = μ 16 k ∧ μ' 17 k = μ 17 k)
    (o2 : ∀ r, r ≠ 2 + j → σ' 27 r = σ 27 r) (E1 : eqx [20, 27, 28, 29, 30, 31, 32, 33, 34, 35, 36, 37, 38, 39, 40, 41] σ σ') (E2 : eqx [2, 3, 4, 5, 6, 7, 8, 9, 10, 11, 12, 13, 14, 15, 16, 17, 41, 48] μ μ')
    (fg : (σ' 20 0 = nI j ∧ μ' 41 0 = nI j) ∨ (σ' 20 0 = σ 20 0 ∧ μ' 41 0 = μ 41 0)) : RR B σ' μ' := by
  obtain ⟨⟨HS, HJ, HT, HP, HQ, HD⟩, Hs⟩ := H
  -- a slot of another job isn't one of these
  have nt : ∀ i k, i < 8 → k < 4 → σ 32 i = nI k → ¬ (i = a ∨ bv = nI i) := by
    intro i k hi hk h z
    have hfi : free σ i := by
      rcases z with rfl | z
      · exact hfa
      · rcases hb with hb | ⟨b, hb1, hb2, hb3, hb4⟩
        · exact absurd (hb.symm.trans z).symm (nIm1 i (by omega))
        · rw [(nI_eq (show b < 2 ^ 31 by omega) (show i < 2 ^ 31 by omega)).mp (hb3.symm.trans z)] at hb4; exact hb4
    unfold free at hfi
    rw [h] at hfi
    exact nI_pos (by omega) hfi
  have lo0 : lo10 (0 : Int32) := fun i _ _ => b_0 i
  have hS : RS σ' μ' := by
    intro i hi
    by_cases hz : i = a ∨ bv = nI i
    · obtain ⟨⟨p1, p1'⟩, ⟨p2, p2'⟩, ⟨z, hz4, p3, p3'⟩, ⟨p4, p4'⟩, ⟨p5, p5'⟩, ⟨p6, p6'⟩, ⟨p7, p7'⟩, ⟨p8, p8'⟩, ⟨p9, p9'⟩, p10, p10'⟩ := s1 i hi hz
      refine ⟨⟨⟨p2.trans p2'.symm, p6.trans p6'.symm, p7.trans p7'.symm⟩, p3.trans p3'.symm, p4.trans p4'.symm, p5.trans p5'.symm, p8.trans p8'.symm, p9.trans p9'.symm, p10.trans p10'.symm, by rw [p7]; exact lo0, ⟨z, hz4, p3⟩, ⟨0, by omega, p4⟩⟩, Or.inr ⟨Or.inl p2, j, hj, p1, p1', ?_⟩⟩
      rcases hz with rfl | hz
      · exact Or.inl j1.1
      · exact Or.inr (j2.1.trans hz)
    · obtain ⟨q1, q2⟩ := s2 i hi hz
      obtain ⟨⟨⟨h1, h2, h3⟩, p1, p2, p3, p4, p5, p6, p7, p8, p9⟩, ho⟩ := HS i hi
      refine ⟨⟨⟨?_, ?_, ?_⟩, ?_, ?_, ?_, ?_, ?_, ?_, ?_, ?_, ?_⟩, ?_⟩
      · rw [q1 33 (by omega) (by omega), q2 2 (by omega) (by omega)]; exact h1
      · rw [q1 37 (by omega) (by omega), q2 7 (by omega) (by omega)]; exact h2
      · rw [q1 38 (by omega) (by omega), q2 8 (by omega) (by omega)]; exact h3
      · rw [q1 34 (by omega) (by omega), q2 4 (by omega) (by omega)]; exact p1
      · rw [q1 35 (by omega) (by omega), q2 5 (by omega) (by omega)]; exact p2
      · rw [q1 36 (by omega) (by omega), q2 6 (by omega) (by omega)]; exact p3
      · rw [q1 39 (by omega) (by omega), q2 9 (by omega) (by omega)]; exact p4
      · rw [q1 40 (by omega) (by omega), q2 10 (by omega) (by omega)]; exact p5
      · rw [q1 41 (by omega) (by omega), q2 11 (by omega) (by omega)]; exact p6
      · rw [q1 38 (by omega) (by omega)]; exact p7
      · rw [q1 34 (by omega) (by omega)]; exact p8
      · rw [q1 35 (by omega) (by omega)]; exact p9
      · rcases ho with ⟨g1, g2⟩ | ⟨g1, k, hk, g2, g3, g4⟩
        · exact Or.inl ⟨by rw [q1 33 (by omega) (by omega)]; exact g1, by rw [q1 32 (by omega) (by omega)]; exact g2⟩
        · have hkj : k ≠ j := fun z => by
            subst z
            rcases g4 with g4 | g4
            · exact nIm1 i (by omega) (g4.symm.trans hg.2.1)
            · exact nIm1 i (by omega) (g4.symm.trans hg.2.2.1)
          obtain ⟨⟨w1, w2, -, -⟩, -⟩ := o1 k hkj
          refine Or.inr ⟨by unfold st3; rw [q1 33 (by omega) (by omega)]; exact g1, k, hk, by rw [q1 32 (by omega) (by omega)]; exact g2, by rw [q2 3 (by omega) (by omega)]; exact g3, by rw [w1, w2]; exact g4⟩
  have sj : ∀ i, i < 8 → (i = a ∨ bv = nI i) → σ' 33 i = 1 := fun i hi hz => (s1 i hi hz).2.1.1
  have st' : stJ σ' j = 1 := by
    unfold stJ
    rw [j1.1, j2.1, if_neg (nI_pos (show a < 2 ^ 31 by omega)), nI_clamp (show a < 2 ^ 31 by omega), sj a ha (Or.inl rfl)]
    rcases hb with hb | ⟨b, hb1, hb2, hb3, hb4⟩
    · rw [hb, if_pos m1lt]
    · rw [hb3, if_neg (nI_pos (show b < 2 ^ 31 by omega)), nI_clamp (show b < 2 ^ 31 by omega), sj b hb1 (Or.inr hb3), if_neg (by decide)]
  have sto : ∀ k, k < 4 → k ≠ j → stJ σ' k = stJ σ k := by
    intro k hk hkj
    obtain ⟨⟨w1, w2, -, -⟩, -⟩ := o1 k hkj
    unfold stJ
    rw [w1, w2]
    rcases (HJ k hk).2 with ⟨h1, h2, h3, h4⟩ | ⟨h1, h2, x, hx, h3, h4, h5, h6⟩
    · rw [h2, if_pos m1lt, if_pos m1lt]
    · have ex : σ' 33 x = σ 33 x := (s2 x hx (nt x k hx hk h5)).1 33 (by omega) (by omega)
      rw [h3, if_neg (nI_pos (show x < 2 ^ 31 by omega)), if_neg (nI_pos (show x < 2 ^ 31 by omega)), nI_clamp (show x < 2 ^ 31 by omega), ex]
      rcases h6 with ⟨h6, h7⟩ | ⟨y, hy, h6, h7, h8, h9⟩
      · rw [h6, if_pos m1lt, if_pos m1lt]
      · have ey : σ' 33 y = σ 33 y := (s2 y hy (nt y k hy hk h8)).1 33 (by omega) (by omega)
        rw [h6, if_neg (nI_pos (show y < 2 ^ 31 by omega)), if_neg (nI_pos (show y < 2 ^ 31 by omega)), nI_clamp (show y < 2 ^ 31 by omega), ey]
  have hJ : RJ σ' μ' := by
    intro k hk
    by_cases hkj : k = j
    · subst hkj
      refine ⟨j3.1.trans j3.2.symm, Or.inr ⟨j5, j4.1.trans j4.2.symm, a, ha, j1.1, j1.2, (s1 a ha (Or.inl rfl)).1.1, ?_⟩⟩
      rcases hb with hb | ⟨b, hb1, hb2, hb3, hb4⟩
      · exact Or.inl ⟨j2.1.trans hb, j2.2.trans hb⟩
      · exact Or.inr ⟨b, hb1, j2.1.trans hb3, j2.2.trans hb3, (s1 b hb1 (Or.inr hb3)).1.1, fun z => hb2 z.symm⟩
    · obtain ⟨⟨w1, w2, w3, w4⟩, v1, v2, v3, v4, v5, v6⟩ := o1 k hkj
      refine ⟨by rw [w3, v5]; exact (HJ k hk).1, ?_⟩
      rcases (HJ k hk).2 with ⟨h1, h2, h3, h4⟩ | ⟨h1, h2, x, hx, h3, h4, h5, h6⟩
      · exact Or.inl ⟨v1.trans h1, w1.trans h2, w2.trans h3, w4.trans h4⟩
      · refine Or.inr ⟨v1.trans h1, by rw [w4, v4]; exact h2, x, hx, w1.trans h3, v2.trans h4, by rw [(s2 x hx (nt x k hx hk h5)).1 32 (by omega) (by omega)]; exact h5, ?_⟩
        rcases h6 with ⟨h6, h7⟩ | ⟨y, hy, h6, h7, h8, h9⟩
        · exact Or.inl ⟨w2.trans h6, v3.trans h7⟩
        · exact Or.inr ⟨y, hy, w2.trans h6, v3.trans h7, by rw [(s2 y hy (nt y k hy hk h8)).1 32 (by omega) (by omega)]; exact h8, h9⟩
  have hT : RT σ' μ' := by
    obtain ⟨t1, t2, t3, t4, t5⟩ := HT
    refine ⟨?_, by rw [E1 22 (by decide), E2 42 (by decide)]; exact t2, by rw [E1 23 (by decide), E2 43 (by decide)]; exact t3, ?_, by rw [E1 21 (by decide), E2 40 (by decide)]; exact t5⟩
    · rcases fg with ⟨f1, f2⟩ | ⟨f1, f2⟩
      · rw [f1, f2]
      · rw [f1, f2]; exact t1
    · rcases fg with ⟨f1, f2⟩ | ⟨f1, f2⟩
      · exact Or.inr ⟨j, hj, f1, j5, by rw [j4.1]; decide⟩
      · rw [f1]
        rcases t4 with t4 | ⟨k, hk, k1, k2, k3⟩
        · exact Or.inl t4
        · have hkj : k ≠ j := fun z => by subst z; exact absurd (hg.1.symm.trans k2) (by decide)
          obtain ⟨⟨-, -, -, w4⟩, v1, -⟩ := o1 k hkj
          exact Or.inr ⟨k, hk, k1, v1.trans k2, by rw [w4]; exact k3⟩
  have hQ : RQ σ' μ' := by
    obtain ⟨⟨c0, ⟨p0, y1, y2, y3, y4, y5⟩, b0⟩, ⟨c1, ⟨p1, z1, z2, z3, z4, z5⟩, b1⟩, hp⟩ := HQ
    refine ⟨⟨c0, ⟨p0, y1, by rw [E1 26 (by decide)]; exact y2, by rw [o2 0 (by omega)]; exact y3, y4, fun k hk => by rw [E1 (10 + 0) (by decide), E2 19 (by decide)]; exact y5 k hk⟩, by rw [E2 44 (by decide)]; exact b0⟩, ⟨c1, ⟨p1, z1, by rw [E1 26 (by decide)]; exact z2, by rw [o2 1 (by omega)]; exact z3, z4, fun k hk => by rw [E1 (10 + 1) (by decide), E2 20 (by decide)]; exact z5 k hk⟩, by rw [E2 45 (by decide)]; exact b1⟩, fun k hk => ?_⟩
    obtain ⟨c, ⟨o, x1, x2, x3, x4, x5⟩, bb⟩ := hp k hk
    by_cases hkj : k = j
    · subst hkj
      exact ⟨0, ⟨o, x1, by rw [E1 26 (by decide)]; exact x2, j6.1, by omega, fun i hi => absurd hi (Nat.not_lt_zero i)⟩, j6.2⟩
    · obtain ⟨-, -, -, -, -, -, v6⟩ := o1 k hkj
      exact ⟨c, ⟨o, x1, by rw [E1 26 (by decide)]; exact x2, by rw [o2 (2 + k) (by omega)]; exact x3, x4, fun i hi => by rw [E1 (10 + (2 + k)) (by simp; omega), E2 18 (by decide)]; exact x5 i hi⟩, by rw [v6]; exact bb⟩
  refine ⟨⟨hS, hJ, hT, RP_c E1 E2 (by decide) (by decide) HP, hQ, RD_c E1 E2 (by decide) (by decide) HD⟩, fun k hk => ?_⟩
  by_cases hkj : k = j
  · subst hkj; rw [st']; exact j4.1
  · rw [sto k hk hkj, (o1 k hkj).1.2.2.2]; exact Hs k hk
