/-! WRITING -/
theorem show_PF {B : Nat} (hB : B < 2 ^ 29) {σ μ : q_St} (H : R0 B σ μ) {i j b : Nat} (hi : i < 8) (hb : b < 16) (h : σ 35 i = nI b) (h47 : μ 47 0 = 0) (c : Int32) : PF B σ μ j (f_JT_write_81 σ (nI i) c) (f_Mo_write_140 μ (nI i) c) := by
  have hq := q_inT hi (show 8 < 2 ^ 31 by decide)
  have hc : (nI i).toNatClampNeg = i := nI_clamp (by omega)
  obtain ⟨σ1, μ1, e1, e2, E1, E2, HD⟩ := show_sim hB H.2.2.2.2.2 H.2.2.1.2.1 c
  have H1 : R0 (B + 2) σ1 μ1 := ⟨RS_c E1 E2 (by decide) (by decide) H.1, RJ_c E1 E2 (by decide) (by decide) H.2.1, RT_c E1 E2 (by decide) (by decide) H.2.2.1, RP_c E1 E2 (by decide) (by decide) H.2.2.2.1, RQ_c E1 E2 (by decide) (by decide) H.2.2.2.2.1, HD⟩
  unfold f_JT_write_81 f_Mo_write_140 f_Mo_write_155
  simp only [q_grd_t hq, hc]
  rw [q_bnd_s e1, q_bnd_s e2]
  refine PF_of h47 rfl rfl (line_sim H1 hi hb (by rw [E1 35 (by decide)]; exact h)) (eqx_un E1 (eqx_up (F := [35]) (by decide)) (by decide) (by decide)) (fun x _ => by rw [q_up_f (by decide), E1 33 (by decide)]) (eqx_un E2 (eqx_up (F := [5]) (by decide)) (by decide) (by decide))
theorem write_sim {B : Nat} (hB : B < 2 ^ 29) {σ μ : q_St} (H : R0 B σ μ) {i j b : Nat} (hi : i < 8) (hj : j < 4) (hb : b < 16) (h : σ 35 i = nI b) (h47 : μ 47 0 = 0) (o1 : σ 32 i = nI j) (o2 : μ 3 i = nI j) (ht : there σ μ j) (go : σ 28 j = nI i → ∀ s, s < 8 → σ 29 j = nI s → σ 33 s = 3 ∨ ∃ c, c < 4 ∧ σ 27 (2 + j) = nI c) (c : Int32) : PF B σ μ j (f_JT_write σ (nI i) c) (f_Mo_write μ (nI i) c) := by
  have hq := q_inT hi (show 8 < 2 ^ 31 by decide)
  have hc : (nI i).toNatClampNeg = i := nI_clamp (by omega)
  have hjq := q_inT hj (show 4 < 2 ^ 31 by decide)
  have hjc : (nI j).toNatClampNeg = j := nI_clamp (by omega)
  have hjn : ¬ nI j < 0 := nI_pos (by omega)
  obtain ⟨bb, f1, f2, f3⟩ := wp_sim hi hj o2 ht
  have H0 := H
  obtain ⟨HS, HJ, HT, HP, HQ, HD⟩ := H
  unfold f_JT_write f_Mo_write
  simp only [q_grd_t hq, hc, o1, o2, if_neg hjn, q_grd_t hjq, hjc]
  rw [q_bnd_s f1, q_bnd_s f2]
  rcases f3 with ⟨hb1, h28, s, hs, h29, h14, hos⟩ | hb0
  · have hsq := q_inT hs (show 8 < 2 ^ 31 by decide)
    have hsc : (nI s).toNatClampNeg = s := nI_clamp (by omega)
    have es : μ 2 s = σ 33 s := (HS s hs).1.1.1.symm
    simp only [hb1, if_neg (show ¬ (1 : Int32) = 0 by decide), h14, q_grd_t hsq, hsc, es]
    refine PF_isB ?_
    unfold f_JT_writeToPipe f_Job_secondHasEnded f_Job_secondHasEnded_22 f_Job_secondHasEnded_23 f_Mo_write_155
    simp only [q_grd_t hjq, hjc, h29, if_neg (nI_pos (show s < 2 ^ 31 by omega)), q_grd_t hsq, hsc, q_grd_t hq, hc]
    by_cases he : σ 33 s = 3
    · simp only [he, if_true]
      exact PF_some (fail_sim H0 hi hb h)
    · simp only [he, if_false]
      rcases go h28 s hs h29 with z | ⟨cp, hcp, h27⟩
      · exact absurd z he
      · obtain ⟨cq, rp, bp⟩ := HQ.2.2 j hj
        have hcq : cq = cp := by
          obtain ⟨o, z1, z2, z3, z4, z5⟩ := rp
          exact (nI_eq (by omega) (by omega)).mp (z3.symm.trans h27)
        subst hcq
        obtain ⟨σ1, e1, he1, hr⟩ := put_C (by omega) (rl2 j) (by decide) rp hcp c
        show PF B σ μ j (q_bnd (f_NumberRow_putLast σ (2 + j) c) _) _
        rw [q_bnd_s e1]
        rw [bp, show (4 : Int32) * nI j = nI (4 * j) from pk_mul 4 j, nI_add, q_grd_t (q_inT (show 4 * j + cq < 16 by omega) (by decide)), nI_clamp (show 4 * j + cq < 2 ^ 31 by omega), q_up_f (show 17 ≠ 18 by decide), bp, nI_1]
        have E1 := eqr_eqx (by omega) he1
        have E2 : eqx [17, 18] μ (q_up (q_up μ 18 (4 * j + cq) c) 17 j (nI (cq + 1))) := eqx_tr (eqx_up (by decide)) (eqx_up (by decide))
        have H1 : R0 B σ1 (q_up (q_up μ 18 (4 * j + cq) c) 17 j (nI (cq + 1))) := by
          refine R0_row H0 E1 (eqx_mono E2 (by decide)) (RQ_pipe (c := cq + 1) hj HQ he1 E2 (fun k hk => ?_) (fun z hz => ?_) ?_ ?_)
          · rw [q_up_i hk, q_up_f (by decide)]
          · rw [q_up_f (by decide), q_up_i (by omega)]
          · refine ring_g (fun k hk => ?_) hr
            rw [q_up_f (by decide)]
            unfold q_up upd
            by_cases hkc : k = cq
            · simp [hkc]
            · simp [hkc]
          · rw [q_up_self]
        refine PF_of h47 rfl rfl (R0_mono (by omega) (line_sim H1 hi hb (by rw [E1 35 (by decide)]; exact h))) (eqx_un E1 (eqx_up (F := [35]) (by decide)) (by decide) (by decide)) (fun x _ => by rw [q_up_f (by decide), E1 33 (by decide)]) (eqx_un E2 (eqx_up (F := [5]) (by decide)) (by decide) (by decide))
  · simp only [hb0, if_true]
    unfold f_JT_write_24 
    have e23 : μ 43 0 = σ 23 0 := HT.2.2.1.symm
    have e20 : μ 41 0 = σ 20 0 := HT.1.symm
    have e22 : μ 42 0 = σ 22 0 := HT.2.1.symm
    rw [e23]
    simp only [q_grd_t hq, hc, q_grd_t (oknN hj (show 4 < 2 ^ 31 by decide)), q_grd_t (okn_fg HT), q_grd_t hjq, hjc, e20, if_neg hjn, has_C, flagged_M, q_bnd_v, e22]
    by_cases h23 : σ 23 0 = 0
    · simp only [h23, if_true]
      have sh := show_PF (j := j) hB H0 hi hb h h47 c
      by_cases hfg : nI j = σ 20 0
      · by_cases h16 : (σ 22 0 &&& 16) = 0
        · simp only [h16, if_true, if_pos hfg]; exact sh
        · simp only [h16, if_false, if_neg (show ¬ (1 : Int32) = 0 by decide), if_pos hfg, if_pos hfg.symm]; exact sh
      · have hfg' : ¬ σ 20 0 = nI j := fun z => hfg z.symm
        by_cases h16 : (σ 22 0 &&& 16) = 0
        · simp only [h16, if_true, if_neg hfg]; exact sh
        · simp only [h16, if_false, if_neg (show ¬ (1 : Int32) = 0 by decide), if_neg hfg, if_neg hfg']
          have eb : μ 9 i = σ 39 i := (HS i hi).1.2.2.2.2.1.symm
          have eg : μ 10 i = σ 40 i := (HS i hi).1.2.2.2.2.2.1.symm
          have hsh := shuns_C σ i (s := 9) (by decide)
          have hmh := has_eq μ (σ 39 i ||| σ 40 i) (s := 9) (by decide)
          rw [show nI 9 = (9 : Int32) from rfl] at hsh hmh
          rw [eb, eg, q_bnd_s hsh, q_bnd_s hmh]
          by_cases hs : bt (σ 39 i ||| σ 40 i) 9 = true
          · simp only [hs, if_true, if_neg (show ¬ (1 : Int32) = 0 by decide)]
            exact sh
          · rw [if_neg hs]
            exact PF_some (send_PF H0 (s := 9) hj (by decide) ht h47)
    · simp only [h23, if_false]
      exact PF_some (fail_sim H0 hi hb h)
/-! THE OTHER OPS, AND ALL -/
theorem and15 (x : Int32) : ∃ z, z < 16 ∧ x &&& 15 = nI z := by
  have h : ∀ b : BitVec 32, (b &&& 15#32).toNat < 16 := fun b => by
    rw [BitVec.toNat_and]
    exact Nat.lt_of_le_of_lt Nat.and_le_right (by decide)
  have h1 := h x.toBitVec
  refine ⟨(x.toBitVec &&& 15#32).toNat, h1, ?_⟩
  apply Int32.toBitVec_inj.mp
  rw [Int32.toBitVec_and]
  apply BitVec.eq_of_toNat_eq
  show (x.toBitVec &&& 15#32).toNat = (nI (x.toBitVec &&& 15#32).toNat).toBitVec.toNat
  generalize (x.toBitVec &&& 15#32).toNat = n at *
  have := (by decide +kernel : ∀ n, n < 16 → n = (nI n).toBitVec.toNat)
  exact this n h1
theorem slot_PF {B : Nat} {σ σ' μ μ' : q_St} {i j : Nat} {a : Option (Int32 × q_St)} {b : Option q_St} (H : R0 B σ μ) (h47 : μ 47 0 = 0) (ha : a = some (0, σ')) (hb : b = some μ') (o1 : σ 32 i = nI j) (E1 : eqx [33, 35, 36, 37, 38, 39, 40, 41] σ σ') (E2 : eqx [2, 5, 6, 7, 8, 9, 10, 11] μ μ') (h33 : ∀ x, x ≠ i → σ' 33 x = σ 33 x) (HS : RS σ' μ') : PF B σ μ j a b :=
  PF_of h47 ha hb (R0_mono (by omega) (R0_slot H E1 (eqx_mono E2 (by decide)) HS)) (eqx_mono E1 (by decide)) (fun x hx => h33 x (fun z => hx (by rw [z]; exact o1))) (eqx_mono E2 (by decide))
