/-! THE CALL key -/
theorem TY_void {B C : Nat} {σ μ : q_St} {a : Option q_St} {b : Option (Int32 × q_St)} (h : ∃ σ' μ', a = some σ' ∧ b = some (1, μ') ∧ tfr σ σ' ∧ mfr μ μ' ∧ TS (B + C) σ' μ') : TY B C σ μ (q_bnd a (fun r => some (1, r))) b := by
  obtain ⟨σ', μ', h1, h2, h3⟩ := h
  exact ⟨1, σ', μ', by rw [h1]; rfl, h2, Or.inr rfl, h3⟩
theorem type_sim {B : Nat} (hB : B + 300 < 2 ^ 27) {σ μ : q_St} (H : TS B σ μ) (c : Int32) : TY B 240 σ μ (f_Terminal_type σ c) (mty μ c) := by
  unfold f_Terminal_type mty
  rw [has_C, H.1]
  simp only [q_bnd_v]
  by_cases h1 : (μ 42 0 &&& 1) = 0
  · simp only [h1, if_true]
    exact TY_mono (by decide) (TY_isB (unedited_sim (by omega) H c))
  · simp only [h1, if_false, i1z]
    unfold f_Mo_keyOfLine
    obtain ⟨e, h0, b0⟩ := H.2.1.1
    have he : e ≤ 20 := by obtain ⟨o, a1, a2, a3, a4, a5⟩ := h0; exact a4
    by_cases c4 : c = 4
    · subst c4
      simp only [if_true, if_neg (show ¬ (4 : Int32) = 127 by decide), if_neg (show ¬ (4 : Int32) = 21 by decide)]
      exact TY_mono (by decide) (TY_isB (endInput_sim H))
    by_cases c10 : c = 10
    · subst c10
      simp only [if_true, if_neg (show ¬ (10 : Int32) = 4 by decide), if_neg (show ¬ (10 : Int32) = 127 by decide), if_neg (show ¬ (10 : Int32) = 21 by decide)]
      refine TY_isB ?_
      unfold f_Terminal_endLine f_Mo_keyOfLine_105
      obtain ⟨r, σ1, μ1, g1, g2, g3, t1, m1, H1⟩ := enter_sim H (more := 1) (by decide) 10
      rw [show nI 1 = (1 : Int32) from rfl] at g1 g2
      rw [q_bnd_s g2]
      cases hq : f_Terminal_queueEdit σ 1 with
      | none => rw [hq] at g1; cases g1
      | some z =>
        rw [hq] at g1
        simp only [q_bnd_v] at g1 ⊢
        by_cases hz : z.1 = 0
        · rw [if_pos hz] at g1 ⊢
          cases g1
          rw [if_pos rfl]
          exact ⟨0, _, μ1, rfl, rfl, Or.inl rfl, t1, m1, H1.1, H1.2.1, RD_mono (by omega) H1.2.2⟩
        · rw [if_neg hz, if_pos trivial] at g1
          rw [if_neg hz]
          obtain ⟨w, hw, g1⟩ := q_bnd_some g1
          rw [q_bnd_s hw]
          cases g1
          rw [if_neg (by decide)]
          obtain ⟨σ2, μ2, e3, e4, t2, m2, H2⟩ := TS_echo (by omega) H1 10
          rw [q_bnd_s e3, q_bnd_s e4]
          exact ⟨1, σ2, μ2, rfl, rfl, Or.inr rfl, tfr_tr t1 t2, eqx_tr m1 m2, H2.1, H2.2.1, RD_mono (by omega) H2.2.2⟩
    by_cases c21 : c = 21
    · subst c21
      simp only [if_true, if_neg (show ¬ (21 : Int32) = 4 by decide), if_neg (show ¬ (21 : Int32) = 10 by decide), if_neg (show ¬ (21 : Int32) = 127 by decide)]
      unfold f_Mo_keyOfLine_12 f_Mo_keyOfLine_25 f_Mo_keyOfLine_35 f_Terminal_rubOut
      rw [if_pos rfl]
      refine TY_void ?_
      obtain ⟨σ', μ', e1, e2, t, m, H'⟩ := rubAll_sim (most := 20) (left := 0) (by decide) e 0 200 200 B σ μ (by omega) (by omega) (by omega) (Or.inr ⟨rfl, by omega⟩) H (by rw [Nat.zero_add]; exact b0) (by omega)
      exact ⟨σ', μ', e1, e2, t, m, H'.1, H'.2.1, RD_mono (by omega) H'.2.2⟩
    by_cases c127 : c = 127
    · subst c127
      simp only [if_true, if_neg (show ¬ (127 : Int32) = 4 by decide), if_neg (show ¬ (127 : Int32) = 10 by decide), if_neg (show ¬ (127 : Int32) = 21 by decide)]
      unfold f_Mo_keyOfLine_12 f_Mo_keyOfLine_25 f_Mo_keyOfLine_35 f_Terminal_rubOut
      rw [if_neg (by decide), b0]
      refine TY_void ?_
      by_cases hz : e = 0
      · subst hz
        rw [if_pos (show nI 0 = (0 : Int32) from rfl)]
        obtain ⟨σ', μ', e1, e2, t, m, H'⟩ := rubAll_sim (most := 1) (left := 0) (by decide) 0 0 200 200 B σ μ (by omega) (by omega) (by omega) (Or.inr ⟨rfl, by omega⟩) H b0 (by omega)
        exact ⟨σ', μ', e1, e2, t, m, H'.1, H'.2.1, RD_mono (by omega) H'.2.2⟩
      · rw [if_neg (nI_ne0 (show 0 < e by omega) (by omega)), show (1 : Int32) = nI 1 from rfl, pk_sub (show 1 ≤ e by omega)]
        obtain ⟨σ', μ', e1, e2, t, m, H'⟩ := rubAll_sim (most := 1) (left := e - 1) (by decide) 1 0 200 200 B σ μ (by omega) (by omega) (by omega) (Or.inl rfl) H (by rw [show e - 1 + 1 = e by omega]; exact b0) (by omega)
        exact ⟨σ', μ', e1, e2, t, m, H'.1, H'.2.1, RD_mono (by omega) H'.2.2⟩
    · simp only [c4, c10, c21, c127, if_false]
      have h := addToEdit_sim (B := B) (by omega) H c
      exact TY_mono (by decide) (TY_isB h)
/-- the whole relation, where the terminal alone was written -/
theorem R0_T {B C : Nat} {σ σ' μ μ' : q_St} (H : R0 B σ μ) (t : tfr σ σ') (m : mfr μ μ') (h : TS C σ' μ') : R0 C σ' μ' :=
  ⟨RS_c t.1 m (by decide) (by decide) H.1, RJ_c t.1 m (by decide) (by decide) H.2.1, RT_c t.1 m (by decide) (by decide) H.2.2.1, RP_c t.1 m (by decide) (by decide) H.2.2.2.1, h.2.1, h.2.2⟩
theorem TS_of {B : Nat} {σ μ : q_St} (H : R0 B σ μ) : TS B σ μ := ⟨H.2.2.1.2.1, H.2.2.2.2.1, H.2.2.2.2.2⟩
theorem cmp_id {B : Nat} {σ μ : q_St} (H : RR B σ μ) : f_Mo_compare μ = some μ := cmp_all H.1 4 0 200 rfl (by decide) (fun i _ hi => H.2 i hi)
theorem drop_sim {B : Nat} (hB : B < 2 ^ 28) {σ μ : q_St} (H : R0 B σ μ) (c : Int32) : ∃ σ' μ', f_Terminal_dropEdit σ c = some σ' ∧ f_Mo_echo μ c = some μ' ∧ R0 (B + 4) σ' (q_up μ' 44 0 0) ∧ tfr σ σ' ∧ mfr μ (q_up μ' 44 0 0) := by
  obtain ⟨σ1, μ1, e1, e2, t1, m1, H1⟩ := TS_echo hB (TS_of H) c
  obtain ⟨⟨e, h0, b0⟩, ⟨q, h1, b1⟩, -⟩ := H1.2.1
  obtain ⟨e3, E3, Q3⟩ := clear_C (by decide) h0
  have E2 : eqx [44] μ1 (q_up μ1 44 0 0) := eqx_up (by decide)
  have M2 : mfr μ1 (q_up μ1 44 0 0) := eqx_mono E2 (by intro f; simp; omega)
  have t3 := tfr_eqr (show 0 < 2 by decide) E3
  have H3 : TS (B + 4) (q_up σ1 27 0 0) (q_up μ1 44 0 0) := by
    refine ⟨by rw [t3.1 22 (by decide), E2 42 (by decide)]; exact H1.1, RQ_mk H1.2.1 t3 M2 ⟨0, Q3 _, by rw [q_up_self]; rfl⟩ ⟨q, by rw [E2 20 (by decide)]; exact ring_o E3 (by decide) (by decide) (by decide) h1, by rw [E2 45 (by decide)]; exact b1⟩, RD_eqr (by decide) E3 (eqx_mono E2 (by intro f; simp; omega)) H1.2.2⟩
  refine ⟨q_up σ1 27 0 0, μ1, ?_, e2, R0_T H (tfr_tr t1 t3) (eqx_tr m1 M2) H3, tfr_tr t1 t3, eqx_tr m1 M2⟩
  unfold f_Terminal_dropEdit
  rw [q_bnd_s e1, q_bnd_s e3]
theorem key_sim {B : Nat} (hB : B + 300 < 2 ^ 27) {σ μ : q_St} (H : RR B σ μ) (p : Int32) : SIM B (f_JT_key σ p) (f_Mo_key μ p) := by
  by_cases hp : p ≤ 127
  · have H0 : RR B σ (q_up μ 48 0 0) := RR_48 0 H
    have fl : σ 22 0 = (q_up μ 48 0 0) 42 0 := H0.1.2.2.1.2.1
    -- the key itself
    obtain ⟨c, eC, eM⟩ : ∃ c, f_Terminal_translate σ p = some (c, σ) ∧ f_Mo_key μ p = f_Mo_key_34 (q_up μ 48 0 0) c := by
      unfold f_Terminal_translate f_Terminal_translate_20 f_Terminal_translate_21 f_Mo_key f_Mo_key_33
      rw [if_pos hp, has_C, flagged_M, fl]
      simp only [q_bnd_v]
      by_cases h13 : p = 13
      · by_cases h8 : ((q_up μ 48 0 0) 42 0 &&& 8) = 0
        · exact ⟨p, by simp only [h13, if_true, h8], by simp only [h8, if_true]⟩
        · exact ⟨10, by simp only [h13, if_true, h8, if_false, i1z], by simp only [h13, h8, if_false, i1z, if_true]⟩
      · refine ⟨p, by simp only [h13, if_false], ?_⟩
        by_cases h8 : ((q_up μ 48 0 0) 42 0 &&& 8) = 0
        · simp only [h8, if_true]
        · simp only [h13, h8, if_false, i1z]
    rw [eM]
    unfold f_JT_key
    rw [if_pos hp, q_bnd_s eC]
    generalize q_up μ 48 0 0 = μ0 at H0 fl
    clear eM eC H
    unfold f_Mo_key_34 f_Terminal_signalFor
    rw [has_C, flagged_M]
    simp only [q_bnd_v, fl]
    -- no signal: the key is typed
    have typ : SIM B (q_bnd (f_Terminal_type σ c) (fun r11 => q_grd (q_isB r11.1) (some (r11.1, r11.2)))) (f_Mo_key_111 μ0 c) := by
      obtain ⟨r, σ', μ', g1, g2, g3, t, m, HT⟩ := TY_isB (type_sim hB (TS_of H0.1) c)
      have HR : RR (B + 240) σ' μ' := ⟨R0_T H0.1 t m HT, settled_c t.1 (by decide) H0.2⟩
      refine ⟨r, σ', μ', g1, ?_, RR_mono (by omega) HR⟩
      rw [key111, g2]
      simp only [q_bnd_v]
      unfold f_Mo_key_172
      rw [q_bnd_s (cmp_id HR)]
      rcases g3 with rfl | rfl <;> rfl
    -- a signal
    have sig : ∀ s : Nat, s < 10 → (if c = 3 then f_Mo_key_95 μ0 c 1 1 (μ0 41 0) else if c = 28 then f_Mo_key_95 μ0 c 1 2 (μ0 41 0) else f_Mo_key_95 μ0 c 1 7 (μ0 41 0)) = f_Mo_key_95 μ0 c 1 (nI s) (μ0 41 0) → SIM B (if σ 20 0 < 0 then f_JT_key_55 σ c else q_grd (q_in (σ 20 0) 4) (q_bnd (f_Job_receive σ (σ 20 0).toNatClampNeg (nI s)) (fun r9 => f_JT_key_55 r9 c))) (f_Mo_key_62 μ0 c 1) := by
      intro s hs hsel
      unfold f_Mo_key_62
      rw [hsel]
      unfold f_Mo_key_95 f_Mo_key_98 f_Mo_key_172 f_JT_key_55
      have fin : ∀ (σ1 μ1 : q_St), R0 B σ1 μ1 → SIM B (q_bnd (f_Terminal_dropEdit σ1 c) (fun r14 => q_bnd (f_JT_settleAll r14) (fun r16 => some (1, r16)))) (q_bnd (f_Mo_echo μ1 c) (fun r17 => q_bnd (f_Mo_compare (q_up r17 44 0 0)) (fun r19 => q_grd (q_isB 1) (some (1, r19))))) := by
        intro σ1 μ1 H1
        obtain ⟨σ2, μ2, e1, e2, H2, -, -⟩ := drop_sim (by omega) H1 c
        obtain ⟨σ3, μ3, e3, e4, H3, -, -⟩ := settleAll_sim H2
        rw [q_bnd_s e1, q_bnd_s e3, q_bnd_s e2, q_bnd_s e4]
        exact ⟨1, σ3, μ3, rfl, rfl, RR_mono (by omega) H3⟩
      have h41 : μ0 41 0 = σ 20 0 := H0.1.2.2.1.1.symm
      rw [h41]
      rcases H0.1.2.2.1.2.2.2.1 with h | ⟨j, hj, h, h12, -⟩
      · rw [h, if_pos m1lt, if_pos m1lt]
        exact fin σ μ0 H0.1
      · rw [h, if_neg (nI_pos (show j < 2 ^ 31 by omega)), if_neg (nI_pos (show j < 2 ^ 31 by omega)), q_grd_t (q_inT hj (by decide)), nI_clamp (by omega)]
        obtain ⟨σ1, μ1, e1, e2, E1, E2, HS1, -⟩ := sendJob_sim H0.1.1 hj (there_of H0.1.2.1 hj h12) hs
        rw [q_bnd_s e1, q_bnd_s e2]
        exact fin σ1 μ1 (sent_R0 H0.1 E1 E2 HS1)
    by_cases h4 : (μ0 42 0 &&& 4) = 0
    · simp only [h4, if_true]
      exact typ
    · simp only [h4, if_false, i1z]
      by_cases c3 : c = 3
      · have := sig 1 (by decide) (by rw [if_pos c3]; rfl)
        simp only [c3, if_true, q_bnd_v, if_neg (show ¬ (1 : Int32) = -1 by decide)] at this ⊢
        exact this
      by_cases c26 : c = 26
      · have := sig 7 (by decide) (by rw [if_neg c3, if_neg (by rw [c26]; decide)]; rfl)
        simp only [c26, if_true, q_bnd_v, if_neg (show ¬ (7 : Int32) = -1 by decide), if_neg (show ¬ (26 : Int32) = 3 by decide), if_neg (show ¬ (26 : Int32) = 28 by decide)] at this ⊢
        exact this
      by_cases c28 : c = 28
      · have := sig 2 (by decide) (by rw [if_neg c3, if_pos c28]; rfl)
        simp only [c28, if_true, q_bnd_v, if_neg (show ¬ (2 : Int32) = -1 by decide), if_neg (show ¬ (28 : Int32) = 3 by decide), if_neg (show ¬ (28 : Int32) = 26 by decide)] at this ⊢
        exact this
      simp only [c3, c26, c28, if_false, q_bnd_v, if_true]
      exact typ
  · refine SIM_look (r := 0) (x := 0) H ?_ ?_
    · unfold f_JT_key; rw [if_neg hp]
    · unfold f_Mo_key; rw [if_neg hp]
