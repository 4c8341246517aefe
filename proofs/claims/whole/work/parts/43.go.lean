/-! WHICH PROCESS CAN GO ON -/
theorem own_there {σ μ : q_St} (HS : RS σ μ) (HJ : RJ σ μ) {i : Nat} (hi : i < 8) (h : st3 σ i) : ∃ j, j < 4 ∧ σ 32 i = nI j ∧ μ 3 i = nI j ∧ there σ μ j ∧ (σ 28 j = nI i ∨ σ 29 j = nI i) := by
  rcases (HS i hi).2 with ⟨h0, -⟩ | ⟨-, j, q1, q2, q3, q4⟩
  · rcases h with h | h | h <;> rw [h] at h0 <;> exact absurd h0 (by decide)
  · refine ⟨j, q1, q2, q3, ?_, q4⟩
    rcases (HJ j q1).2 with hg | ht
    · rcases q4 with q4 | q4
      · exact absurd (q4.symm.trans hg.2.1) (nIm1 i (by omega))
      · exact absurd (q4.symm.trans hg.2.2.1) (nIm1 i (by omega))
    · exact ht
theorem op_sim {σ μ : q_St} (HS : RS σ μ) (HP : RP σ μ) {i : Nat} (hi : i < 8) : ∃ op x, f_Programs_opAt σ (σ 34 i) (σ 35 i) = some (op, σ) ∧ f_Mo_opOf μ (nI i) = some (op, μ) ∧ f_Programs_numberAt σ (σ 34 i) (σ 35 i) = some (x, σ) ∧ f_Mo_numberOf μ (nI i) = some (x, μ) ∧ (op = 0 ∨ ∃ b, b < 16 ∧ σ 35 i = nI b) ∧ ∃ z, z < 12 ∧ op = nI z := by
  obtain ⟨⟨h3, p1, p2, p3, p4, p5, p6, p7, ⟨a, ha, h34⟩, ⟨b, hb, h35⟩⟩, -⟩ := HS i hi
  have hq := q_inT hi (show 8 < 2 ^ 31 by decide)
  have hc : (nI i).toNatClampNeg = i := nI_clamp (by omega)
  unfold f_Programs_opAt f_Programs_opAt_14 f_Programs_opAt_38 f_Programs_opAt_43 f_Mo_opOf f_Mo_opOf_36 f_Mo_opOf_47 f_Mo_opOf_52 f_Programs_numberAt f_Programs_numberAt_28 f_Programs_numberAt_29 f_Mo_numberOf f_Mo_numberOf_36
  rw [h34, h35, hasP σ ha]
  simp only [q_bnd_v, if_neg (show ¬ (1 : Int32) = 0 by decide), q_grd_t hq, hc]
  rw [← p1, ← p2, h34, h35]
  by_cases h16 : b < 16
  · rw [hasL σ h16, if_pos (show nI b ≤ (15 : Int32) by rw [show (15 : Int32) = nI 15 from rfl]; exact nI_le (by omega) (by decide)), if_pos (show nI b ≤ (15 : Int32) by rw [show (15 : Int32) = nI 15 from rfl]; exact nI_le (by omega) (by decide)), (ix16 ha h16).1, (ix16 ha h16).2]
    simp only [q_bnd_v, if_neg (show ¬ (1 : Int32) = 0 by decide), q_grd_t (q_inT (show 16 * a + b < 64 by omega) (show 64 < 2 ^ 31 by decide)), nI_clamp (show 16 * a + b < 2 ^ 31 by omega)]
    obtain ⟨g1, g2⟩ := HP (16 * a + b) (by omega)
    rw [← g1, ← g2]
    refine ⟨if σ 0 (16 * a + b) < 0 then 0 else if σ 0 (16 * a + b) ≤ 11 then σ 0 (16 * a + b) else 0, σ 1 (16 * a + b), ?_, ?_, rfl, rfl, Or.inr ⟨b, h16, rfl⟩, ?_⟩
    · by_cases x1 : σ 0 (16 * a + b) < 0
      · simp only [x1, if_true]
      · by_cases x2 : σ 0 (16 * a + b) ≤ 11
        · simp only [x1, x2, if_true, if_false]
        · simp only [x1, x2, if_false]
    · by_cases x1 : σ 0 (16 * a + b) < 0
      · simp only [x1, if_true]
      · by_cases x2 : σ 0 (16 * a + b) ≤ 11
        · simp only [x1, x2, if_true, if_false]
        · simp only [x1, x2, if_false]
    · by_cases x1 : σ 0 (16 * a + b) < 0
      · rw [if_pos x1]; exact ⟨0, by decide, rfl⟩
      · rw [if_neg x1]
        by_cases x2 : σ 0 (16 * a + b) ≤ 11
        · rw [if_pos x2]
          obtain ⟨z, hz, e⟩ := nI_of2 (n := 11) (by decide) x1 x2
          exact ⟨z, by omega, e⟩
        · rw [if_neg x2]; exact ⟨0, by decide, rfl⟩
  · obtain rfl : b = 16 := by omega
    rw [hasL0 σ (Or.inr (show nI 16 ≤ nI 16 by decide)), if_neg (show ¬ nI 16 ≤ (15 : Int32) by decide), if_neg (show ¬ nI 16 ≤ (15 : Int32) by decide)]
    exact ⟨0, 0, rfl, rfl, rfl, rfl, Or.inl rfl, 0, by decide, rfl⟩
theorem rp_sim {σ μ : q_St} {i j : Nat} (hi : i < 8) (hj : j < 4) (h3 : μ 3 i = nI j) (ht : there σ μ j) : ∃ b, f_Job_readsFromPipe σ j (nI i) = some (b, σ) ∧ f_Mo_readsPipe μ (nI i) = some (b, μ) ∧ ((b = 1 ∧ σ 29 j = nI i) ∨ (b = 0 ∧ ¬ σ 29 j = nI i)) := by
  have hq := q_inT hi (show 8 < 2 ^ 31 by decide)
  have hc : (nI i).toNatClampNeg = i := nI_clamp (by omega)
  unfold f_Job_readsFromPipe f_Job_readsFromPipe_19 f_Job_readsFromPipe_20 f_Mo_readsPipe f_Mo_readsPipe_20
  rw [q_grd_t hq, hc, h3, q_grd_t (q_inT hj (by decide)), nI_clamp (show j < 2 ^ 31 by omega)]
  obtain ⟨a, ha, g1, g2, g3, g4⟩ := ht.2.2
  rcases g4 with ⟨g4, g5⟩ | ⟨b, hb, g4, g5, g6, g7⟩
  · rw [g4, g5, if_pos m1lt, if_neg (fun z => nIm1 i (by omega) z.symm)]
    exact ⟨0, rfl, rfl, Or.inr ⟨rfl, fun z => nIm1 i (by omega) z.symm⟩⟩
  · rw [g4, g5, if_neg (nI_pos (show b < 2 ^ 31 by omega)), q_grd_t (oknN hb (by decide)), q_grd_t (oknN hi (by decide))]
    by_cases hx : nI b = nI i
    · rw [if_pos hx, if_pos hx]; exact ⟨1, rfl, rfl, Or.inl ⟨rfl, hx⟩⟩
    · rw [if_neg hx, if_neg hx]; exact ⟨0, rfl, rfl, Or.inr ⟨rfl, hx⟩⟩
theorem wp_sim {σ μ : q_St} {i j : Nat} (hi : i < 8) (hj : j < 4) (h3 : μ 3 i = nI j) (ht : there σ μ j) : ∃ b, f_Job_writesToPipe σ j (nI i) = some (b, σ) ∧ f_Mo_writesPipe μ (nI i) = some (b, μ) ∧ ((b = 1 ∧ σ 28 j = nI i ∧ ∃ s, s < 8 ∧ σ 29 j = nI s ∧ μ 14 j = nI s ∧ σ 32 s = nI j) ∨ b = 0) := by
  have hq := q_inT hi (show 8 < 2 ^ 31 by decide)
  have hc : (nI i).toNatClampNeg = i := nI_clamp (by omega)
  unfold f_Job_writesToPipe f_Job_writesToPipe_19 f_Job_writesToPipe_20 f_Mo_writesPipe f_Mo_writesPipe_33 f_Mo_writesPipe_34
  simp only [q_grd_t hq, hc, h3, q_grd_t (q_inT hj (show 4 < 2 ^ 31 by decide)), nI_clamp (show j < 2 ^ 31 by omega)]
  obtain ⟨a, ha, g1, g2, g3, g4⟩ := ht.2.2
  rcases g4 with ⟨g4, g5⟩ | ⟨b, hb, g4, g5, g6, g7⟩
  · rw [g4, g5, if_pos m1lt, if_pos m1lt]
    exact ⟨0, rfl, rfl, Or.inr rfl⟩
  · rw [g4, g5, if_neg (nI_pos (show b < 2 ^ 31 by omega)), if_neg (nI_pos (show b < 2 ^ 31 by omega)), g1, g2, q_grd_t (oknN ha (by decide)), q_grd_t (oknN hi (by decide))]
    by_cases hx : nI a = nI i
    · rw [if_pos hx, if_pos hx]; exact ⟨1, rfl, rfl, Or.inl ⟨rfl, hx, b, hb, rfl, rfl, g6⟩⟩
    · rw [if_neg hx, if_neg hx]; exact ⟨0, rfl, rfl, Or.inr rfl⟩
theorem writes_M {σ μ : q_St} {i : Nat} (hi : i < 8) (h6 : σ 36 i = μ 6 i) {op : Int32} (hop : f_Mo_opOf μ (nI i) = some (op, μ)) : f_Mo_writes μ (nI i) = some (if op = 1 ∨ (op = 3 ∧ ¬ σ 36 i < 0) then 1 else 0, μ) := by
  unfold f_Mo_writes f_Mo_writes_27 f_Mo_writes_31 f_Mo_writes_32
  rw [q_bnd_s hop]
  by_cases h1 : op = 1
  · simp only [h1, if_true, true_or]; rfl
  · simp only [h1, if_false, false_or]
    rw [q_bnd_s hop]
    by_cases h3 : op = 3
    · simp only [h3, if_true, true_and]
      rw [q_grd_t (q_inT hi (by decide)), nI_clamp (show i < 2 ^ 31 by omega), ← h6]
      by_cases hn : σ 36 i < 0
      · simp only [hn, if_true, not_true, if_false]; rfl
      · simp only [hn, if_false, not_false_iff, if_true]; rfl
    · simp only [h3, if_false, false_and]; rfl
/-- what going on says, where it matters -/
def GO (σ : q_St) (i j : Nat) (op : Int32) : Prop := (op = 2 → ¬ σ 29 j = nI i → σ 23 0 = 0 → σ 20 0 = nI j → ∃ c, c < 40 ∧ σ 27 1 = nI (c + 1)) ∧ ((op = 1 ∨ (op = 3 ∧ ¬ σ 36 i < 0)) → σ 28 j = nI i → ∀ s, s < 8 → σ 29 j = nI s → σ 33 s = 3 ∨ ∃ c, c < 4 ∧ σ 27 (2 + j) = nI c)
theorem canGoOn_sim {B : Nat} {σ μ : q_St} (H : R0 B σ μ) {i : Nat} (hi : i < 8) : ∃ b, f_JT_canGoOn σ (nI i) = some (b, σ) ∧ f_Mo_canGoOn μ (nI i) = some (b, μ) ∧ (b = 0 ∨ (b = 1 ∧ σ 33 i = 1 ∧ ∀ j op, j < 4 → σ 32 i = nI j → f_Programs_opAt σ (σ 34 i) (σ 35 i) = some (op, σ) → GO σ i j op)) := by
  obtain ⟨HS, HJ, HT, HP, HQ, HD⟩ := H
  have hq := q_inT hi (show 8 < 2 ^ 31 by decide)
  have hc : (nI i).toNatClampNeg = i := nI_clamp (by omega)
  obtain ⟨⟨h3, p1, p2, p3, p4, p5, p6, p7, p8, p9⟩, -⟩ := HS i hi
  unfold f_JT_canGoOn f_JT_canGoOn_15 f_JT_canGoOn_87 f_JT_canGoOn_92 f_Mo_canGoOn f_Mo_canGoOn_19 f_Mo_canGoOn_69 f_Mo_canGoOn_99 f_Mo_canGoOn_104 f_Mo_canGoOn_146 f_Mo_canGoOn_151
  simp only [q_grd_t hq, hc]
  rw [← h3.1, ← p6]
  generalize hG : (∀ (j : Nat) (op : Int32), j < 4 → σ 32 i = nI j → f_Programs_opAt σ (σ 34 i) (σ 35 i) = some (op, σ) → GO σ i j op) = G
  by_cases h1 : σ 33 i = 1
  · rw [if_pos h1, if_pos h1]
    by_cases hn : σ 41 i ≤ 0
    · rw [if_pos hn, if_pos hn]
      obtain ⟨j, hj, o1, o2, ht, olink⟩ := own_there HS HJ hi (Or.inl h1)
      obtain ⟨op, x, e1, e2, -, -, -, -⟩ := op_sim HS HP hi
      rw [q_bnd_s e1, q_bnd_s e2]
      simp only [o2, q_grd_t (q_inT hj (show 4 < 2 ^ 31 by decide)), nI_clamp (show j < 2 ^ 31 by omega)]
      have GOk : ∀ (P : GO σ i j op), G := by
        rw [← hG]
        intro P j' op' hj' ho' he'
        have z1 : j = j' := (nI_eq (by omega) (by omega)).mp (o1.symm.trans ho')
        have z2 : op = op' := by rw [e1] at he'; cases he'; rfl
        rw [← z1, ← z2]; exact P
      obtain ⟨⟨c0, r0, b0⟩, ⟨c1, r1, b1⟩, hp⟩ := HQ
      have k1 : σ 27 1 = nI c1 := by obtain ⟨o, a1, a2, a3, a4, a5⟩ := r1; exact a3
      have k1l : c1 ≤ 40 := by obtain ⟨o, a1, a2, a3, a4, a5⟩ := r1; exact a4
      obtain ⟨cp, rp, bp⟩ := hp j hj
      have kp : σ 27 (2 + j) = nI cp := by obtain ⟨o, a1, a2, a3, a4, a5⟩ := rp; exact a3
      have kpl : cp ≤ 4 := by obtain ⟨o, a1, a2, a3, a4, a5⟩ := rp; exact a4
      obtain ⟨a, ha, g1, g2, g3, g4⟩ := ht.2.2
      have ea : μ 2 a = σ 33 a := (HS a ha).1.1.1.symm
      by_cases op2 : op = 2
      · -- reading
        simp only [op2, if_true, if_neg (show ¬ (2 : Int32) = 1 by decide)]
        obtain ⟨b, f1, f2, f3⟩ := rp_sim hi hj o2 ht
        rw [q_bnd_s f2]
        unfold f_JT_canRead f_JT_canRead_34 f_JT_canRead_39 f_JT_canRead_40 f_JT_canRead_71 f_JT_canRead_76
        rw [q_grd_t hq, hc, o1, if_neg (nI_pos (show j < 2 ^ 31 by omega)), q_grd_t (q_inT hj (by decide)), nI_clamp (show j < 2 ^ 31 by omega), q_bnd_s f1]
        rcases f3 with ⟨hb1, h29⟩ | ⟨hb0, h29⟩
        · -- from the pipe
          simp only [hb1, if_neg (show ¬ (1 : Int32) = 0 by decide), kp, bp]
          have go : GO σ i j op := ⟨fun _ z => absurd h29 z, fun z => by rw [op2] at z; rcases z with z | z; exact absurd z (by decide); exact absurd z.1 (by decide)⟩
          by_cases hcp : (0 : Int32) < nI cp
          · simp only [hcp, if_true]
            exact ⟨1, rfl, rfl, Or.inr ⟨rfl, h1, GOk go⟩⟩
          · simp only [hcp, if_false, g2, q_grd_t (q_inT ha (show 8 < 2 ^ 31 by decide)), nI_clamp (show a < 2 ^ 31 by omega), ea]
            unfold f_Job_firstHasEnded f_Job_firstHasEnded_22 f_Job_firstHasEnded_23
            rw [g1, if_neg (nI_pos (show a < 2 ^ 31 by omega)), q_grd_t (q_inT ha (by decide)), nI_clamp (show a < 2 ^ 31 by omega)]
            by_cases he : σ 33 a = 3
            · simp only [he, if_true]
              exact ⟨1, rfl, rfl, Or.inr ⟨rfl, h1, GOk go⟩⟩
            · simp only [he, if_false]
              exact ⟨0, rfl, rfl, Or.inl rfl⟩
        · -- from the terminal
          simp only [hb0, if_true, k1, b1, ← HT.2.2.1, ← HT.1, q_grd_t (oknN hj (show 4 < 2 ^ 31 by decide)), q_grd_t (okn_fg HT)]
          by_cases h23 : σ 23 0 = 0
          · simp only [h23, if_true]
            by_cases hfg : nI j = σ 20 0
            · simp only [hfg, if_true]
              by_cases hc1 : nI c1 ≤ (0 : Int32)
              · simp only [hc1, if_true]
                exact ⟨0, rfl, rfl, Or.inl rfl⟩
              · simp only [hc1, if_false]
                refine ⟨1, rfl, rfl, Or.inr ⟨rfl, h1, GOk ⟨fun _ _ _ _ => ?_, fun z => by rw [op2] at z; rcases z with z | z; exact absurd z (by decide); exact absurd z.1 (by decide)⟩⟩⟩
                have : c1 ≠ 0 := fun z => hc1 (by rw [z]; decide)
                refine ⟨c1 - 1, by omega, ?_⟩
                rw [k1]
                congr 1; omega
            · simp only [if_neg hfg, if_neg (fun z : σ 20 0 = nI j => hfg z.symm)]
              exact ⟨1, rfl, rfl, Or.inr ⟨rfl, h1, GOk ⟨fun _ _ _ z => absurd z.symm hfg, fun z => by rw [op2] at z; rcases z with z | z; exact absurd z (by decide); exact absurd z.1 (by decide)⟩⟩⟩
          · simp only [h23, if_false]
            exact ⟨1, rfl, rfl, Or.inr ⟨rfl, h1, GOk ⟨fun _ _ z => absurd z h23, fun z => by rw [op2] at z; rcases z with z | z; exact absurd z (by decide); exact absurd z.1 (by decide)⟩⟩⟩
      · simp only [op2, if_false]
        rw [q_bnd_s (writes_M (σ := σ) hi p3 e2)]
        by_cases hw : op = 1 ∨ (op = 3 ∧ ¬ σ 36 i < 0)
        · -- writing
          obtain ⟨b, f1, f2, f3⟩ := wp_sim hi hj o2 ht
          have cw : ∃ bb, f_JT_canWrite σ (nI i) = some (bb, σ) ∧ (if b = 0 then some (1, μ) else if μ 17 j < 4 then some (1, μ) else q_grd (q_in (μ 14 j) 8) (if μ 2 (μ 14 j).toNatClampNeg = 3 then some (1, μ) else some (0, μ))) = some (bb, μ) ∧ (bb = 0 ∨ (bb = 1 ∧ (σ 28 j = nI i → ∀ s, s < 8 → σ 29 j = nI s → σ 33 s = 3 ∨ ∃ c, c < 4 ∧ σ 27 (2 + j) = nI c))) := by
            generalize hG2 : (σ 28 j = nI i → ∀ s, s < 8 → σ 29 j = nI s → σ 33 s = 3 ∨ ∃ c, c < 4 ∧ σ 27 (2 + j) = nI c) = G2
            unfold f_JT_canWrite f_JT_canWrite_35 f_JT_canWrite_40 f_JT_canWrite_41
            rw [q_grd_t hq, hc, o1, if_neg (nI_pos (show j < 2 ^ 31 by omega)), q_grd_t (q_inT hj (by decide)), nI_clamp (show j < 2 ^ 31 by omega), q_bnd_s f1]
            rcases f3 with ⟨hb1, h28, s, hs, h29, h14, hos⟩ | hb0
            · have es : μ 2 s = σ 33 s := (HS s hs).1.1.1.symm
              unfold f_Job_secondHasEnded f_Job_secondHasEnded_22 f_Job_secondHasEnded_23
              have hr := room_C (m := 1) (rl2 j) (by decide) rp (by decide)
              rw [show nI 1 = (1 : Int32) from rfl] at hr
              simp only [hb1, if_neg (show ¬ (1 : Int32) = 0 by decide), bp, h14, q_grd_t (q_inT hs (show 8 < 2 ^ 31 by decide)), nI_clamp (show s < 2 ^ 31 by omega), es, h29, if_neg (nI_pos (show s < 2 ^ 31 by omega))]
              by_cases he : σ 33 s = 3
              · simp only [he, if_true]
                refine ⟨1, rfl, ?_, Or.inr ⟨rfl, by rw [← hG2]; exact fun _ s' hs' h' => Or.inl (by
                  have : s = s' := (nI_eq (by omega) (by omega)).mp (h29.symm.trans h')
                  rw [← this]; exact he)⟩⟩
                by_cases z : nI cp < (4 : Int32) <;> simp [z]
              · simp only [he, if_false]
                show ∃ bb, (q_bnd (f_NumberRow_hasRoomFor σ (2 + j) 1) _) = _ ∧ _
                rw [hr]
                simp only [q_bnd_v]
                by_cases hcp : cp < 4
                · have l4 : nI cp < (4 : Int32) := by rw [show (4 : Int32) = nI 4 from rfl]; exact nI_lt hcp (by decide)
                  simp only [if_pos (show cp + 1 ≤ 4 by omega), if_neg (show ¬ (1 : Int32) = 0 by decide), l4, if_true]
                  exact ⟨1, rfl, rfl, Or.inr ⟨rfl, by rw [← hG2]; exact fun _ _ _ _ => Or.inr ⟨cp, hcp, kp⟩⟩⟩
                · have l4 : ¬ nI cp < (4 : Int32) := by rw [show (4 : Int32) = nI 4 from rfl]; exact nI_nlt (by omega) (by omega)
                  simp only [if_neg (show ¬ cp + 1 ≤ 4 by omega), if_true, l4, if_false]
                  exact ⟨0, rfl, rfl, Or.inl rfl⟩
            · simp only [hb0, if_true]
              refine ⟨1, rfl, rfl, Or.inr ⟨rfl, ?_⟩⟩
              rw [← hG2]
              intro h28 s hs h29
              -- it writes into the pipe after all
              exfalso
              unfold f_Job_writesToPipe f_Job_writesToPipe_20 at f1
              rw [h29, if_neg (nI_pos (show s < 2 ^ 31 by omega)), h28, q_grd_t (oknN hi (by decide)), q_grd_t (oknN hi (by decide)), if_pos rfl] at f1
              have : (1 : Int32) = b := by cases f1; rfl
              rw [hb0] at this
              exact absurd this (by decide)
          obtain ⟨bb, c1', c2', c3'⟩ := cw
          have modelEq : (q_bnd (f_Mo_writesPipe μ (nI i)) (fun r12 => if r12.1 = 0 then q_grd (q_isB 1) (some (1, r12.2)) else if r12.2 17 j < 4 then q_grd (q_isB 1) (some (1, r12.2)) else q_grd (q_in (r12.2 14 j) 8) (if r12.2 2 (r12.2 14 j).toNatClampNeg = 3 then q_grd (q_isB 1) (some (1, r12.2)) else q_grd (q_isB 0) (some (0, r12.2))))) = some (bb, μ) := by
            rw [q_bnd_s f2]
            exact c2'
          simp only [if_pos hw, if_neg (show ¬ (1 : Int32) = 0 by decide)]
          have hgo : bb = 0 ∨ (bb = 1 ∧ σ 33 i = 1 ∧ G) := by
            rcases c3' with h | ⟨h, h'⟩
            · exact Or.inl h
            · exact Or.inr ⟨h, h1, GOk ⟨fun z => absurd z op2, fun _ => h'⟩⟩
          refine ⟨bb, ?_, modelEq, hgo⟩
          rcases hw with hw | ⟨hw, hw'⟩
          · simp only [hw, if_true]
            rw [q_bnd_s c1']
            rcases c3' with h | ⟨h, -⟩ <;> rw [h] <;> rfl
          · simp only [hw, hw', if_neg (show ¬ (3 : Int32) = 1 by decide), if_true, if_false]
            rw [q_bnd_s c1']
            rcases c3' with h | ⟨h, -⟩ <;> rw [h] <;> rfl
        · -- neither
          simp only [if_neg hw, if_true]
          have go : GO σ i j op := ⟨fun z => absurd z op2, fun z => absurd z hw⟩
          refine ⟨1, ?_, rfl, Or.inr ⟨rfl, h1, GOk go⟩⟩
          have n1 : ¬ op = 1 := fun z => hw (Or.inl z)
          by_cases n3 : op = 3
          · have hneg : σ 36 i < 0 := by
              by_cases z : σ 36 i < 0
              · exact z
              · exact absurd (Or.inr ⟨n3, z⟩) hw
            simp only [n1, n3, hneg, if_true, if_false, if_neg (show ¬ (3 : Int32) = 1 by decide)]; rfl
          · simp only [n1, n3, if_false]
    · rw [if_neg hn, if_neg hn]
      exact ⟨0, rfl, rfl, Or.inl rfl⟩
  · rw [if_neg h1, if_neg h1]
    exact ⟨0, rfl, rfl, Or.inl rfl⟩
