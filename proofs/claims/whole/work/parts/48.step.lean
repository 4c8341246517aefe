/-! STEPS -/
theorem opAt_c {σ σ1 : q_St} (h : σ1 0 = σ 0) (p l op : Int32) (e : f_Programs_opAt σ1 p l = some (op, σ1)) : f_Programs_opAt σ p l = some (op, σ) := by
  have key : ∀ τ : q_St, (∀ op, f_Programs_opAt τ p l = some (op, τ) ↔ (if p < 0 ∨ nI 4 ≤ p ∨ l < 0 ∨ nI 16 ≤ l then op = 0 else q_in (p * 16 + l) 64 = true ∧ op = if τ 0 (p * 16 + l).toNatClampNeg < 0 then 0 else if τ 0 (p * 16 + l).toNatClampNeg ≤ 11 then τ 0 (p * 16 + l).toNatClampNeg else 0)) := by
    intro τ op
    unfold f_Programs_opAt f_Programs_opAt_14 f_Programs_opAt_38 f_Programs_opAt_43
    rcases pk_ix p (show 4 < 2 ^ 31 by decide) with h | h | ⟨a, ha, rfl⟩
    · rw [hasP0 τ (Or.inl h), if_pos (Or.inl h), q_bnd_v, if_pos rfl]
      constructor
      · intro e; cases e; rfl
      · intro e; rw [e]
    · rw [hasP0 τ (Or.inr h), if_pos (Or.inr (Or.inl h)), q_bnd_v, if_pos rfl]
      constructor
      · intro e; cases e; rfl
      · intro e; rw [e]
    · rw [hasP τ ha, q_bnd_v, if_neg (show ¬ (1 : Int32) = 0 by decide)]
      show q_bnd (f_Programs_hasLine τ l) _ = _ ↔ _
      rcases pk_ix l (show 16 < 2 ^ 31 by decide) with h | h | ⟨b, hb, rfl⟩
      · rw [hasL0 τ (Or.inl h), if_pos (Or.inr (Or.inr (Or.inl h))), q_bnd_v, if_pos rfl]
        constructor
        · intro e; cases e; rfl
        · intro e; rw [e]
      · rw [hasL0 τ (Or.inr h), if_pos (Or.inr (Or.inr (Or.inr h))), q_bnd_v, if_pos rfl]
        constructor
        · intro e; cases e; rfl
        · intro e; rw [e]
      · have n1 : ¬ (nI a < 0 ∨ nI 4 ≤ nI a ∨ nI b < 0 ∨ nI 16 ≤ nI b) := fun z => by
          rcases z with z | z | z | z
          · exact nI_pos (by omega) z
          · exact nI_ge ha (by decide) z
          · exact nI_pos (by omega) z
          · exact nI_ge hb (by decide) z
        rw [hasL τ hb, if_neg n1, q_bnd_v, if_neg (show ¬ (1 : Int32) = 0 by decide), (ix16 ha hb).1, q_grd_t (q_inT (show 16 * a + b < 64 by omega) (by decide)), nI_clamp (show 16 * a + b < 2 ^ 31 by omega)]
        have hin := q_inT (show 16 * a + b < 64 by omega) (show 64 < 2 ^ 31 by decide)
        by_cases x1 : τ 0 (16 * a + b) < 0
        · simp only [x1, if_true, hin, true_and]
          constructor
          · intro e; cases e; rfl
          · intro e; rw [e]
        · by_cases x2 : τ 0 (16 * a + b) ≤ 11
          · simp only [x1, x2, if_true, if_false, hin, true_and]
            constructor
            · intro e; cases e; rfl
            · intro e; rw [e]
          · simp only [x1, x2, if_false, hin, true_and]
            constructor
            · intro e; cases e; rfl
            · intro e; rw [e]
  rw [key] at e ⊢
  rw [← h]
  exact e
theorem stJ_other2 {σ σ' μ : q_St} (HJ : RJ σ μ) {k j : Nat} (hk : k < 4) (hj : j < 4) (hkj : ¬ k = j) (E28 : σ' 28 = σ 28) (E29 : σ' 29 = σ 29) (h : ∀ i, ¬ σ 32 i = nI j → σ' 33 i = σ 33 i) : stJ σ' k = stJ σ k := by
  unfold stJ
  rw [E28, E29]
  obtain ⟨-, hh⟩ := HJ k hk
  have nn : ∀ x : Nat, σ 32 x = nI k → σ' 33 x = σ 33 x := fun x hx => h x (fun z => nI_ne (by omega) (by omega) hkj (hx.symm.trans z))
  rcases hh with ⟨h1, h2, h3, h4⟩ | ⟨h1, h2, a, ha, h3, h4, h5, h6⟩
  · rw [h2, if_pos m1lt, if_pos m1lt]
  · rw [h3, if_neg (nI_pos (show a < 2 ^ 31 by omega)), if_neg (nI_pos (show a < 2 ^ 31 by omega)), nI_clamp (show a < 2 ^ 31 by omega), nn a h5]
    rcases h6 with ⟨h6, h7⟩ | ⟨b, hb, h6, h7, h8, h9⟩
    · rw [h6, if_pos m1lt, if_pos m1lt]
    · rw [h6, if_neg (nI_pos (show b < 2 ^ 31 by omega)), if_neg (nI_pos (show b < 2 ^ 31 by omega)), nI_clamp (show b < 2 ^ 31 by omega), nn b h8]
theorem nxt8 {i : Nat} (hi : i < 8) : (nI i + 1) - (nI i + 1) / 8 * 8 = nI ((i + 1) % 8) := by
  rw [nI_1, show (8 : Int32) = nI 8 from rfl, pk_rem (show i + 1 < 2 ^ 31 by omega) (by decide) (by decide)]
/-- the next process that can go on -/
theorem next_sim {B : Nat} {σ μ : q_St} (H : R0 B σ μ) : ∀ (k l n m t : Nat), l + k = 8 → k < n → k < m → t < 8 → (f_JT_nextToGo_7 n σ (nI t) (nI l) = some (-1, σ) ∧ ∀ (K : q_St → Int32 → Int32 → Int32 → Option (Int32 × q_St)) (x1 x2 : Int32), ∃ y, f_Mo_step_52 K m μ x1 x2 (nI ((t + 1) % 8)) (nI l) = f_Mo_step_95 K μ x1 x2 y 0) ∨ ∃ i, i < 8 ∧ f_JT_nextToGo_7 n σ (nI t) (nI l) = some (nI i, q_up σ 21 0 (nI i)) ∧ (∀ (K : q_St → Int32 → Int32 → Int32 → Option (Int32 × q_St)) (x1 x2 : Int32), f_Mo_step_52 K m μ x1 x2 (nI ((t + 1) % 8)) (nI l) = f_Mo_step_95 K μ x1 x2 (nI i) 1) ∧ σ 33 i = 1 ∧ ∀ j op, j < 4 → σ 32 i = nI j → f_Programs_opAt σ (σ 34 i) (σ 35 i) = some (op, σ) → GO σ i j op := by
  intro k
  induction k with
  | zero =>
    intro l n m t hl hn hm ht
    obtain ⟨n, rfl⟩ : ∃ z, n = z + 1 := ⟨n - 1, by omega⟩
    obtain ⟨m, rfl⟩ : ∃ z, m = z + 1 := ⟨m - 1, by omega⟩
    obtain rfl : l = 8 := by omega
    left
    refine ⟨by rw [f_JT_nextToGo_7, if_pos (by decide)], fun K x1 x2 => ⟨nI ((t + 1) % 8), ?_⟩⟩
    rw [f_Mo_step_52, if_pos (by decide)]
    unfold f_Mo_step_83
    rw [if_pos (by decide)]
  | succ k ih =>
    intro l n m t hl hn hm ht
    obtain ⟨n, rfl⟩ : ∃ z, n = z + 1 := ⟨n - 1, by omega⟩
    obtain ⟨m, rfl⟩ : ∃ z, m = z + 1 := ⟨m - 1, by omega⟩
    have hi : (t + 1) % 8 < 8 := Nat.mod_lt _ (by decide)
    have h8 : ¬ (8 : Int32) ≤ nI l := by rw [show (8 : Int32) = nI 8 from rfl]; exact nI_ge (by omega) (by decide)
    have eC : f_JT_nextToGo_7 (n + 1) σ (nI t) (nI l) = f_JT_nextToGo_26 (f_JT_nextToGo_7 n) σ (nI l) (nI ((t + 1) % 8)) := by
      rw [f_JT_nextToGo_7, if_neg h8]
      by_cases h7 : t < 7
      · rw [if_pos (show nI t < (7 : Int32) by rw [show (7 : Int32) = nI 7 from rfl]; exact nI_lt h7 (by decide)), nI_1, Nat.mod_eq_of_lt (show t + 1 < 8 by omega)]
      · rw [if_neg (show ¬ nI t < (7 : Int32) by rw [show (7 : Int32) = nI 7 from rfl]; exact nI_nlt (by omega) (by omega)), show (t + 1) % 8 = 0 by omega]; rfl
    rw [eC]
    obtain ⟨b, c1, c2, c3⟩ := canGoOn_sim H hi
    have eM : ∀ (K : q_St → Int32 → Int32 → Int32 → Option (Int32 × q_St)) (x1 x2 : Int32), f_Mo_step_52 K (m + 1) μ x1 x2 (nI ((t + 1) % 8)) (nI l) = if b = 0 then f_Mo_step_52 K m μ x1 x2 (nI (((t + 1) % 8 + 1) % 8)) (nI (l + 1)) else f_Mo_step_95 K μ x1 x2 (nI ((t + 1) % 8)) 1 := by
      intro K x1 x2
      rw [f_Mo_step_52, if_neg h8, q_bnd_s c2, nxt8 hi, nI_1]
      unfold f_Mo_step_83
      rw [if_neg h8]
    unfold f_JT_nextToGo_26
    rw [q_grd_t (q_inT hi (by decide)), q_bnd_s c1, nI_1]
    rcases c3 with hb | ⟨hb, hg⟩
    · subst hb
      simp only [if_true] at eM ⊢
      rcases ih (l + 1) n m ((t + 1) % 8) (by omega) (by omega) (by omega) hi with ⟨e1, e2⟩ | ⟨i, e0, e1, e2, e3⟩
      · exact Or.inl ⟨e1, fun K x1 x2 => by rw [eM]; exact e2 K x1 x2⟩
      · exact Or.inr ⟨i, e0, e1, fun K x1 x2 => by rw [eM]; exact e2 K x1 x2, e3⟩
    · subst hb
      simp only [if_neg (show ¬ (1 : Int32) = 0 by decide)] at eM ⊢
      rw [q_grd_t (q_inT hi (by decide))]
      exact Or.inr ⟨(t + 1) % 8, hi, rfl, eM, hg⟩
theorem step_loop {nn : Nat} (hnn : nn ≤ 64) : ∀ (k d n m B : Nat) (σ μ : q_St), d + k = nn → k < n → k < m → B + 2 * k < 2 ^ 29 → RR B σ μ → μ 47 0 = 0 → ∃ r σ' μ', f_JT_step_15 n σ (nI nn) (nI d) = some (r, σ') ∧ f_Mo_step_27 m μ (nI nn) (nI d) 1 = some (r, μ') ∧ RR (B + 2 * k) σ' μ' := by
  intro k
  induction k with
  | zero =>
    intro d n m B σ μ hd hn hm hB H h47
    obtain ⟨n, rfl⟩ : ∃ z, n = z + 1 := ⟨n - 1, by omega⟩
    obtain ⟨m, rfl⟩ : ∃ z, m = z + 1 := ⟨m - 1, by omega⟩
    obtain rfl : d = nn := by omega
    refine ⟨nI d, σ, μ, ?_, ?_, H⟩
    · rw [f_JT_step_15, if_pos (nI_le (Nat.le_refl _) (by omega))]
    · rw [f_Mo_step_27, if_neg (by decide), if_pos (nI_le (Nat.le_refl _) (by omega))]; rfl
  | succ k ih =>
    intro d n m B σ μ hd hn hm hB H h47
    obtain ⟨n, rfl⟩ : ∃ z, n = z + 1 := ⟨n - 1, by omega⟩
    obtain ⟨m, rfl⟩ : ∃ z, m = z + 1 := ⟨m - 1, by omega⟩
    obtain ⟨m', rfl⟩ : ∃ z, m = z + 1 := ⟨m - 1, by omega⟩
    have hlt : ¬ nI nn ≤ nI d := nI_ge (by omega) (by omega)
    obtain ⟨t, ht8, ht1, ht2⟩ := H.1.2.2.1.2.2.2.2
    have eM : f_Mo_step_27 (m' + 1 + 1) μ (nI nn) (nI d) 1 = f_Mo_step_52 (f_Mo_step_27 (m' + 1)) 200 μ (nI nn) (nI d) (nI ((t + 1) % 8)) (nI 0) := by
      rw [f_Mo_step_27, if_neg (by decide), if_neg hlt, if_pos h47, ht2]; rfl
    rw [f_JT_step_15, if_neg hlt, eM]
    have eN : f_JT_nextToGo σ = f_JT_nextToGo_7 200 σ (nI t) (nI 0) := by unfold f_JT_nextToGo; rw [ht1]; rfl
    rw [eN]
    rcases next_sim H.1 8 0 200 200 t rfl (by decide) (by decide) ht8 with ⟨e1, e2⟩ | ⟨i, hi, e1, e2, h1, hg⟩
    · obtain ⟨y, e2⟩ := e2 (f_Mo_step_27 (m' + 1)) (nI nn) (nI d)
      rw [q_bnd_s e1, e2, if_pos m1lt]
      unfold f_Mo_step_95 f_Mo_step_124
      rw [if_pos rfl, f_Mo_step_27, if_pos rfl]
      exact ⟨nI d, σ, μ, rfl, rfl, RR_mono (by omega) H⟩
    · rw [q_bnd_s e1, e2]
      have hq := q_inT hi (show 8 < 2 ^ 31 by decide)
      have hc : (nI i).toNatClampNeg = i := nI_clamp (by omega)
      show ∃ r σ' μ', (if nI i < 0 then _ else _) = _ ∧ _
      rw [if_neg (nI_pos (show i < 2 ^ 31 by omega))]
      unfold f_Mo_step_95 f_Mo_step_124
      rw [if_neg (show ¬ (1 : Int32) = 0 by decide), nxt8 hi]
      obtain ⟨j, hj, o1, o2, hth, -⟩ := own_there H.1.1 H.1.2.1 hi (Or.inl h1)
      have E1 : eqx [21] σ (q_up σ 21 0 (nI i)) := eqx_up (by decide)
      have E2 : eqx [40] μ (q_up μ 40 0 (nI ((i + 1) % 8))) := eqx_up (by decide)
      have v21 : (q_up σ 21 0 (nI i)) 21 0 = nI i := q_up_self _ _ _ _
      have v40 : (q_up μ 40 0 (nI ((i + 1) % 8))) 40 0 = nI ((i + 1) % 8) := q_up_self _ _ _ _
      generalize q_up σ 21 0 (nI i) = σ1 at *
      generalize q_up μ 40 0 (nI ((i + 1) % 8)) = μ1 at *
      obtain ⟨⟨HS, HJ, HT, HP, HQ, HD⟩, Hset⟩ := H
      have H1 : R0 B σ1 μ1 := by
        refine ⟨RS_c E1 E2 (by decide) (by decide) HS, RJ_c E1 E2 (by decide) (by decide) HJ, ?_, RP_c E1 E2 (by decide) (by decide) HP, RQ_c E1 E2 (by decide) (by decide) HQ, RD_c E1 E2 (by decide) (by decide) HD⟩
        obtain ⟨t1, t2, t3, t4, -⟩ := HT
        unfold RT
        rw [E1 20 (by decide), E1 22 (by decide), E1 23 (by decide), E1 31 (by decide), E2 41 (by decide), E2 42 (by decide), E2 43 (by decide), E2 12 (by decide)]
        exact ⟨t1, t2, t3, t4, i, hi, v21, v40⟩
      have hgo : ∀ op, f_Programs_opAt σ1 (σ1 34 i) (σ1 35 i) = some (op, σ1) → GO σ1 i j op := by
        intro op e
        rw [E1 34 (by decide), E1 35 (by decide)] at e
        have := hg j op hj o1 (opAt_c (E1 0 (by decide)) _ _ _ e)
        unfold GO at this ⊢
        rw [E1 29 (by decide), E1 23 (by decide), E1 20 (by decide), E1 27 (by decide), E1 36 (by decide), E1 28 (by decide), E1 33 (by decide)]
        exact this
      obtain ⟨fl, σ2, μ2, p1, p2, p3, p4, H2, q28, q29, q31, q32, q33, q12, E3⟩ := perform_sim (by omega) H1 hi hj (by rw [E1 33 (by decide)]; exact h1) (by rw [E2 47 (by decide)]; exact h47) (by rw [E1 32 (by decide)]; exact o1) (by rw [E2 3 (by decide)]; exact o2) (there_c E1 E2 (by decide) (by decide) hth) hgo
      rw [q_bnd_s p1, q_bnd_s p2, q_grd_t hq, hc]
      have o3 : σ2 32 i = nI j := by rw [q32, E1 32 (by decide)]; exact o1
      have hset1 : ∀ k, k < 4 → σ1 31 k = stJ σ1 k := fun k hk => by rw [stJ_c E1 (by decide), E1 31 (by decide)]; exact Hset k hk
      obtain ⟨σ3, μ3, s1, s2, H3, E4, E5⟩ := one_sim H2 hj (fun k hk hkj => by
        rw [stJ_other2 H1.2.1 hk hj hkj q28 q29 q33, q31]; exact hset1 k hk)
      show ∃ r σ' μ', q_bnd (f_JT_settle σ2 (σ2 32 i)) _ = _ ∧ _
      rw [o3, q_bnd_s s1, q_bnd_s s2, nI_1]
      have f47 : μ3 47 0 = fl := by rw [E5 47 (by decide)]; exact p4
      rcases p3 with hf | hf
      · subst hf
        obtain ⟨r, σ', μ', r1, r2, r3⟩ := ih (d + 1) n (m' + 1) (B + 2) σ3 μ3 (by omega) (by omega) (by omega) (by omega) H3 f47
        exact ⟨r, σ', μ', r1, r2, RR_mono (by omega) r3⟩
      · subst hf
        refine ⟨nI (d + 1), σ3, μ3, rfl, ?_, RR_mono (by omega) H3⟩
        rw [f_Mo_step_27, if_neg (by decide), f47, if_neg (show ¬ (1 : Int32) = 0 by decide)]
        exact ite_self _
theorem step_sim {B : Nat} (hB : B + 300 < 2 ^ 27) {σ μ : q_St} (H : RR B σ μ) (p : Int32) : SIM B (f_JT_step σ p) (f_Mo_step μ p) := by
  unfold f_JT_step f_JT_step_11 f_Mo_step f_Mo_step_16
  by_cases h1 : p < 1
  · rw [if_pos h1, if_pos h1]; exact SIM_look H rfl rfl
  · rw [if_neg h1, if_neg h1]
    by_cases h2 : p ≤ 64
    · rw [if_pos h2, if_pos h2]
      have h0 : ¬ p < 0 := fun z => h1 (by rw [Int32.lt_iff_toInt_lt] at z ⊢; have : (1 : Int32).toInt = 1 := by decide
                                           have h0 : (0 : Int32).toInt = 0 := by decide
                                           omega)
      obtain ⟨n, hn, rfl⟩ := nI_of2 (n := 64) (by decide) h0 h2
      obtain ⟨r, σ', μ', r1, r2, r3⟩ := step_loop hn n 0 200 200 B σ (q_up (q_up μ 48 0 0) 47 0 0) (by omega) (by omega) (by omega) (by omega) (RR_M H (eqx_tr (eqx_up (by decide)) (eqx_up (by decide)))) (q_up_self _ _ _ _)
      exact ⟨r, σ', μ', r1, r2, RR_mono (by omega) r3⟩
    · rw [if_neg h2, if_neg h2]; exact SIM_look H rfl rfl
