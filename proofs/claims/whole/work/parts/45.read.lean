/-! READING AND WRITING -/
theorem eqx_un {F : List Nat} {a b c : q_St} {G K : List Nat} (h : eqx F a b) (k : eqx G b c) (hF : ∀ f, f ∈ F → f ∈ K) (hG : ∀ f, f ∈ G → f ∈ K) : eqx K a c := eqx_tr (eqx_mono h hF) (eqx_mono k hG)
theorem PF_of {B : Nat} {σ σ' μ μ' : q_St} {j : Nat} {a : Option (Int32 × q_St)} {b : Option q_St} (h47 : μ 47 0 = 0) (ha : a = some (0, σ')) (hb : b = some μ') (H : R0 (B + 2) σ' μ') (E1 : eqx [2, 24, 25, 10, 11, 12, 13, 14, 15, 26, 27, 33, 35, 36, 37, 38, 39, 40, 41] σ σ') (h33 : ∀ x, ¬ σ 32 x = nI j → σ' 33 x = σ 33 x) (E2 : eqx [2, 5, 6, 7, 8, 9, 10, 11, 17, 18, 20, 45, 21, 46] μ μ') : PF B σ μ j a b :=
  ⟨0, σ', μ', ha, hb, Or.inl rfl, by rw [E2 47 (by decide)]; exact h47, H, E1 28 (by decide), E1 29 (by decide), E1 31 (by decide), E1 32 (by decide), h33, E2 12 (by decide), eqx_mono E2 (by decide)⟩
theorem PF_isB {B : Nat} {σ μ : q_St} {j : Nat} {a : Option (Int32 × q_St)} {b : Option q_St} (H : PF B σ μ j a b) : PF B σ μ j (q_bnd a (fun r => q_grd (q_isB r.1) (some (r.1, r.2)))) b := by
  obtain ⟨fl, σ', μ', h1, h2, h3, h4⟩ := H
  refine ⟨fl, σ', μ', ?_, h2, h3, h4⟩
  rw [q_bnd_s h1]
  rcases h3 with h | h <;> rw [h] <;> rfl
theorem PF_some {B : Nat} {σ μ : q_St} {j : Nat} {a : Option (Int32 × q_St)} {b : Option q_St} (H : PF B σ μ j a b) : PF B σ μ j a (q_bnd b (fun r => some r)) := by
  obtain ⟨fl, σ', μ', h1, h2, h3, h4⟩ := H
  exact ⟨fl, σ', μ', h1, by rw [q_bnd_s h2], h3, h4⟩
theorem R0_row {B : Nat} {σ σ1 μ μ1 : q_St} (H : R0 B σ μ) (E1 : eqx [10, 11, 12, 13, 14, 15, 26, 27] σ σ1) (E2 : eqx [17, 18, 20, 45] μ μ1) (Q : RQ σ1 μ1) : R0 B σ1 μ1 :=
  ⟨RS_c E1 E2 (by decide) (by decide) H.1, RJ_c E1 E2 (by decide) (by decide) H.2.1, RT_c E1 E2 (by decide) (by decide) H.2.2.1, RP_c E1 E2 (by decide) (by decide) H.2.2.2.1, Q, RD_c E1 E2 (by decide) (by decide) H.2.2.2.2.2⟩
theorem eqr_eqx {r : Nat} {σ σ' : q_St} (hr : r < 6) (h : eqr r σ σ') : eqx [10, 11, 12, 13, 14, 15, 26, 27] σ σ' := fun f hf => h.1 f (fun z => hf (by subst z; simp; omega)) (fun z => hf (by subst z; decide)) (fun z => hf (by subst z; decide))
theorem RQ_pipe {σ σ' μ μ' : q_St} {j c : Nat} (hj : j < 4) (H : RQ σ μ) (h : eqr (2 + j) σ σ') (E : eqx [17, 18] μ μ') (h17 : ∀ k, k ≠ j → μ' 17 k = μ 17 k) (h18 : ∀ z, z < 4 * j ∨ 4 * j + 4 ≤ z → μ' 18 z = μ 18 z) (hr : ring σ' (2 + j) 4 c (fun k => μ' 18 (4 * j + k))) (hc : μ' 17 j = nI c) : RQ σ' μ' := by
  obtain ⟨⟨c0, a0, b0⟩, ⟨c1, a1, b1⟩, hp⟩ := H
  refine ⟨⟨c0, ring_o h (by omega) (by omega) (by omega) (by rw [E 19 (by decide)]; exact a0), by rw [E 44 (by decide)]; exact b0⟩, ⟨c1, ring_o h (by omega) (by omega) (by omega) (by rw [E 20 (by decide)]; exact a1), by rw [E 45 (by decide)]; exact b1⟩, fun k hk => ?_⟩
  by_cases hkj : k = j
  · subst hkj; exact ⟨c, hr, hc⟩
  · obtain ⟨cc, a, b⟩ := hp k hk
    exact ⟨cc, ring_g (fun x hx => h18 _ (by obtain ⟨o, z1, z2, z3, z4, z5⟩ := a; omega)) (ring_o h (by omega) (by omega) (by omega) a), by rw [h17 k hkj]; exact b⟩
theorem RQ_queue {σ σ' μ μ' : q_St} {c : Nat} (H : RQ σ μ) (h : eqr 1 σ σ') (E : eqx [20, 45] μ μ') (hr : ring σ' 1 40 c (μ' 20)) (hc : μ' 45 0 = nI c) : RQ σ' μ' := by
  obtain ⟨⟨c0, a0, b0⟩, ⟨c1, a1, b1⟩, hp⟩ := H
  refine ⟨⟨c0, ring_o h (by omega) (by omega) (by omega) (by rw [E 19 (by decide)]; exact a0), by rw [E 44 (by decide)]; exact b0⟩, ⟨c, hr, hc⟩, fun k hk => ?_⟩
  obtain ⟨cc, a, b⟩ := hp k hk
  exact ⟨cc, ring_o h (by omega) (by omega) (by omega) (by rw [E 18 (by decide)]; exact a), by rw [E 17 (by decide)]; exact b⟩
theorem unset6 {μ μ2 : q_St} {i : Nat} {v : Int32} (h : μ2 6 = (q_up μ 6 i v) 6) : ∃ μ1, μ2 = q_up μ1 6 i v ∧ μ1 6 = μ 6 ∧ ∀ f, f ≠ 6 → μ1 f = μ2 f := by
  refine ⟨fun f k => if f = 6 then μ 6 k else μ2 f k, ?_, ?_, ?_⟩
  · funext f k
    unfold q_up
    by_cases hf : f = 6
    · subst hf
      rw [h]; unfold q_up
      by_cases hk : k = i <;> simp [hk]
    · simp [hf]
  · funext k; simp
  · intro f hf; funext k; simp [hf]
theorem line_sim {B : Nat} {σ μ : q_St} (H : R0 B σ μ) {i b : Nat} (hi : i < 8) (hb : b < 16) (h : σ 35 i = nI b) : R0 B (q_up σ 35 i (σ 35 i + 1)) (q_up μ 5 i (μ 5 i + 1)) :=
  R0_slot H (eqx_up (by decide)) (eqx_up (by decide)) (RS_line H.1 hi hb h)
/-- a number of the pipe is taken -/
theorem take_pipe {B : Nat} {σ σ1 μ : q_St} (H : R0 B σ μ) {i j b c : Nat} (hi : i < 8) (hj : j < 4) (hb : b < 16) (h : σ 35 i = nI b) (h47 : μ 47 0 = 0) (v : Int32) (he : eqr (2 + j) σ σ1) (hc : c ≤ 3) (hr : ring σ1 (2 + j) 4 c (fun k => μ 18 (4 * j + (k + 1)))) : PF B σ μ j (q_bnd (f_JobProcess_take σ1 i v) (fun r => some (0, r))) (f_Mo_read_71 200 (q_up (q_up μ 6 i v) 17 j (nI c)) (nI i) (nI j) (nI 0)) := by
  obtain ⟨μ2, e2, E2, s1, s2⟩ := shp hi hj hc c 0 200 (q_up (q_up μ 6 i v) 17 j (nI c)) (by omega) (by omega) (by rw [q_up_self])
  obtain ⟨μ1, m1, m2, m3⟩ := unset6 (μ := μ) (μ2 := μ2) (i := i) (v := v) (by rw [E2 6 (by decide), q_up_rowf (by decide)])
  have Eμ : eqx [17, 18] μ μ1 := fun f hf => by
    by_cases h6 : f = 6
    · rw [h6]; exact m2
    · rw [m3 f h6, E2 f (fun z => hf (by simp at z ⊢; omega)), q_up_rowf (fun z => hf (by subst z; decide)), q_up_rowf h6]
  have u18 : ∀ z, (q_up (q_up μ 6 i v) 17 j (nI c)) 18 z = μ 18 z := fun z => by rw [q_up_f (by decide), q_up_f (by decide)]
  have Q : RQ σ1 μ1 := by
    refine RQ_pipe (c := c) hj H.2.2.2.2.1 he Eμ (fun k hk => ?_) (fun z hz => ?_) ?_ ?_
    · rw [m3 17 (by decide), E2 17 (by decide), q_up_i hk, q_up_f (by decide)]
    · rw [m3 18 (by decide), s2 z (by omega), u18]
    · refine ring_g (fun k hk => ?_) hr
      rw [m3 18 (by decide), s1 k (by omega) hk, u18]; rfl
    · rw [m3 17 (by decide), E2 17 (by decide), q_up_self]
  have E1 := eqr_eqx (by omega) he
  have HR : R0 B σ1 μ1 := R0_row H E1 (eqx_mono Eμ (by decide)) Q
  obtain ⟨σ', e1, H1, E1'⟩ := take_sim HR hi hb (by rw [E1 35 (by decide)]; exact h) v
  have E3 : eqx [10, 11, 12, 13, 14, 15, 26, 27, 35, 36] σ σ' := eqx_un E1 E1' (by decide) (by decide)
  refine PF_of (σ' := σ') (μ' := q_up μ2 5 i (μ2 5 i + 1)) h47 (by rw [q_bnd_s e1]) e2 ?_ (eqx_mono E3 (by decide)) (fun x _ => by rw [E3 33 (by decide)]) ?_
  · rw [show μ2 5 i = μ1 5 i from by rw [m3 5 (by decide)], m1]
    exact R0_mono (by omega) H1
  · refine eqx_un (F := [17, 18, 6]) ?_ (eqx_up (F := [5]) (by decide)) (by decide) (by decide)
    exact eqx_un (eqx_tr (eqx_up (F := [6, 17]) (by decide)) (eqx_up (by decide))) E2 (by decide) (by decide)
/-- a number of the queue is taken -/
theorem take_queue {B : Nat} {σ σ1 μ : q_St} (H : R0 B σ μ) {i j b c : Nat} (hi : i < 8) (hb : b < 16) (h : σ 35 i = nI b) (h47 : μ 47 0 = 0) (v : Int32) (he : eqr 1 σ σ1) (hc : c ≤ 39) (hr : ring σ1 1 40 c (fun k => μ 20 (k + 1))) : PF B σ μ j (q_bnd (f_JobProcess_take σ1 i v) (fun r => some (0, r))) (f_Mo_read_220 200 (q_up (q_up μ 6 i v) 45 0 (nI c)) (nI i) (nI 0)) := by
  obtain ⟨μ2, e2, E2, s1, s2⟩ := shq hi hc c 0 200 (q_up (q_up μ 6 i v) 45 0 (nI c)) (by omega) (by omega) (by rw [q_up_self])
  obtain ⟨μ1, m1, m2, m3⟩ := unset6 (μ := μ) (μ2 := μ2) (i := i) (v := v) (by rw [E2 6 (by decide), q_up_rowf (by decide)])
  have Eμ : eqx [20, 45] μ μ1 := fun f hf => by
    by_cases h6 : f = 6
    · rw [h6]; exact m2
    · rw [m3 f h6, E2 f (fun z => hf (by simp at z ⊢; omega)), q_up_rowf (fun z => hf (by subst z; decide)), q_up_rowf h6]
  have u20 : ∀ z, (q_up (q_up μ 6 i v) 45 0 (nI c)) 20 z = μ 20 z := fun z => by rw [q_up_f (by decide), q_up_f (by decide)]
  have Q : RQ σ1 μ1 := by
    refine RQ_queue (c := c) H.2.2.2.2.1 he Eμ ?_ ?_
    · refine ring_g (fun k hk => ?_) hr
      rw [m3 20 (by decide), s1 k (by omega) hk, u20]
    · rw [m3 45 (by decide), E2 45 (by decide), q_up_self]
  have E1 := eqr_eqx (by omega) he
  have HR : R0 B σ1 μ1 := R0_row H E1 (eqx_mono Eμ (by decide)) Q
  obtain ⟨σ', e1, H1, E1'⟩ := take_sim HR hi hb (by rw [E1 35 (by decide)]; exact h) v
  have E3 : eqx [10, 11, 12, 13, 14, 15, 26, 27, 35, 36] σ σ' := eqx_un E1 E1' (by decide) (by decide)
  refine PF_of (σ' := σ') (μ' := q_up μ2 5 i (μ2 5 i + 1)) h47 (by rw [q_bnd_s e1]) e2 ?_ (eqx_mono E3 (by decide)) (fun x _ => by rw [E3 33 (by decide)]) ?_
  · rw [show μ2 5 i = μ1 5 i from by rw [m3 5 (by decide)], m1]
    exact R0_mono (by omega) H1
  · refine eqx_un (F := [20, 45, 6]) ?_ (eqx_up (F := [5]) (by decide)) (by decide) (by decide)
    exact eqx_un (eqx_tr (eqx_up (F := [6, 45]) (by decide)) (eqx_up (by decide))) E2 (by decide) (by decide)
theorem shuns_C (σ : q_St) (i : Nat) {s : Nat} (hs : s < 32) : f_JobProcess_shuns σ i (nI s) = some (if bt (σ 39 i ||| σ 40 i) s = true then 1 else 0, σ) := by
  unfold f_JobProcess_shuns f_JobProcess_shuns_21
  by_cases h : bt (σ 39 i ||| σ 40 i) s = true
  · rw [if_neg (fun z => by rw [(mskb _ hs).mp z] at h; exact absurd h (by decide)), if_pos h]; rfl
  · rw [if_pos ((mskb _ hs).mpr (by simpa using h)), if_neg h]; rfl
/-- the op's own job is sent a signal -/
theorem send_PF {B : Nat} {σ μ : q_St} (H : R0 B σ μ) {j s : Nat} (hj : j < 4) (hs : s < 10) (ht : there σ μ j) (h47 : μ 47 0 = 0) : PF B σ μ j (q_bnd (f_Job_receive σ j (nI s)) (fun r => some (0, r))) (f_Mo_sendJob μ (nI j) (nI s)) := by
  obtain ⟨σ', μ', e1, e2, E1, E2, HS, hx⟩ := sendJob_sim H.1 hj ht hs
  exact PF_of h47 (by rw [q_bnd_s e1]) e2 (R0_mono (by omega) (sent_R0 H E1 E2 HS)) (eqx_mono E1 (by decide)) hx (eqx_mono E2 (by decide))
theorem read_sim {B : Nat} {σ μ : q_St} (H : R0 B σ μ) {i j b : Nat} (hi : i < 8) (hj : j < 4) (hb : b < 16) (h : σ 35 i = nI b) (h47 : μ 47 0 = 0) (o1 : σ 32 i = nI j) (o2 : μ 3 i = nI j) (ht : there σ μ j) (go : GO σ i j 2) : PF B σ μ j (f_JT_read σ (nI i)) (f_Mo_read μ (nI i)) := by
  have hq := q_inT hi (show 8 < 2 ^ 31 by decide)
  have hc : (nI i).toNatClampNeg = i := nI_clamp (by omega)
  have hjq := q_inT hj (show 4 < 2 ^ 31 by decide)
  have hjc : (nI j).toNatClampNeg = j := nI_clamp (by omega)
  obtain ⟨bb, f1, f2, f3⟩ := rp_sim hi hj o2 ht
  have H0 := H
  obtain ⟨HS, HJ, HT, HP, HQ, HD⟩ := H
  obtain ⟨⟨c0, a0, b0⟩, ⟨c1, a1, b1⟩, hp⟩ := HQ
  unfold f_JT_read f_Mo_read
  simp only [q_grd_t hq, hc, o1, o2, if_neg (nI_pos (show j < 2 ^ 31 by omega)), q_grd_t hjq, hjc]
  rw [q_bnd_s f1, q_bnd_s f2]
  rcases f3 with ⟨hb1, h29⟩ | ⟨hb0, h29⟩
  · simp only [hb1, if_neg (show ¬ (1 : Int32) = 0 by decide)]
    obtain ⟨cp, rp, bp⟩ := hp j hj
    have hcp4 : cp ≤ 4 := by obtain ⟨o, z1, z2, z3, z4, z5⟩ := rp; exact z4
    unfold f_Mo_read_41 f_Mo_read_68
    simp only [q_grd_t hq, q_grd_t hjq, hc, hjc, bp, q_up_f (show 17 ≠ 6 by decide), show (4 : Int32) * nI j = nI (4 * j) from pk_mul 4 j, q_grd_t (q_inT (show 4 * j < 16 by omega) (show 16 < 2 ^ 31 by decide)), nI_clamp (show 4 * j < 2 ^ 31 by omega)]
    cases cp with
    | zero =>
      rw [if_pos (show nI 0 ≤ 0 by decide), if_pos (show nI 0 ≤ 0 by decide), q_bnd_s (old0_C rp)]
      exact take_pipe (c := 0) H0 hi hj hb h h47 (-1) (eqr_rf _ _) (by decide) (ring_g (fun k hk => absurd hk (Nat.not_lt_zero k)) rp)
    | succ c =>
      have hn : ¬ nI (c + 1) ≤ 0 := by rw [show (0 : Int32) = nI 0 from rfl]; exact nI_ge (by omega) (by omega)
      rw [if_neg hn, if_neg hn, nI_pred]
      obtain ⟨σ1, e1, he, hr⟩ := old_C (by omega) (rl2 j) (by decide) rp
      rw [q_bnd_s e1]
      exact take_pipe H0 hi hj hb h h47 _ he (by omega) hr
  · simp only [hb0, if_true]
    unfold f_JT_read_30 f_JT_read_96 f_Mo_read_258
    have e23 : μ 43 0 = σ 23 0 := HT.2.2.1.symm
    have e20 : μ 41 0 = σ 20 0 := HT.1.symm
    rw [e23]
    simp only [q_grd_t hq, hc, q_grd_t (oknN hj (show 4 < 2 ^ 31 by decide)), q_grd_t (okn_fg HT), q_grd_t hjq, hjc, e20]
    by_cases h23 : σ 23 0 = 0
    · simp only [h23, if_true]
      by_cases hfg : nI j = σ 20 0
      · rw [if_pos hfg, if_pos hfg.symm]
        obtain ⟨c, hc40, hcc⟩ := go.1 rfl h29 h23 hfg.symm
        have hcc1 : c1 = c + 1 := by
          obtain ⟨o, z1, z2, z3, z4, z5⟩ := a1
          exact (nI_eq (by omega) (by omega)).mp (z3.symm.trans hcc)
        subst hcc1
        have hcl : c + 1 ≤ 40 := by obtain ⟨o, z1, z2, z3, z4, z5⟩ := a1; exact z4
        obtain ⟨σ1, e1, he, hr⟩ := old_C (by omega) rl1 (by decide) a1
        rw [q_bnd_s e1, q_grd_t (show q_in 0 40 = true by decide), q_up_f (show 45 ≠ 6 by decide), b1, nI_pred]
        exact take_queue H0 hi hb h h47 _ he (by omega) hr
      · rw [if_neg hfg, if_neg (fun z => hfg z.symm)]
        have eb : μ 9 i = σ 39 i := (HS i hi).1.2.2.2.2.1.symm
        have eg : μ 10 i = σ 40 i := (HS i hi).1.2.2.2.2.2.1.symm
        have hsh := shuns_C σ i (s := 8) (by decide)
        have hmh := has_eq μ (σ 39 i ||| σ 40 i) (s := 8) (by decide)
        rw [show nI 8 = (8 : Int32) from rfl] at hsh hmh
        rw [eb, eg, q_bnd_s hsh, q_bnd_s hmh]
        by_cases hs : bt (σ 39 i ||| σ 40 i) 8 = true
        · simp only [hs, if_true, if_neg (show ¬ (1 : Int32) = 0 by decide)]
          exact PF_some (fail_sim H0 hi hb h)
        · simp only [hs, if_false, if_true, if_neg (nI_pos (show j < 2 ^ 31 by omega))]
          exact PF_some (send_PF H0 (s := 8) hj (by decide) ht h47)
    · simp only [h23, if_false]
      obtain ⟨σ', e1, H1, E1⟩ := take_sim H0 hi hb h (-1)
      rw [q_bnd_s e1]
      refine PF_of h47 rfl rfl ?_ (eqx_mono E1 (by decide)) (fun x _ => by rw [E1 33 (by decide)]) (eqx_tr (eqx_up (by decide)) (eqx_up (by decide)))
      rw [q_up_f (show 5 ≠ 6 by decide)]
      exact R0_mono (by omega) H1
