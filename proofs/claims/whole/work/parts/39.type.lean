/-! A KEY IS TYPED -/
theorem rubAll_sim {most left : Nat} (hmost : most ≤ 20) : ∀ (k gone n m B : Nat) (σ μ : q_St), B + 12 * k < 2 ^ 27 → k < n → k < m → (most = gone + k ∨ (left = 0 ∧ gone + k ≤ most)) → TS B σ μ → μ 44 0 = nI (left + k) → left + k ≤ 20 → ∃ σ' μ', f_Terminal_rubOut_2 n σ (nI most) (nI gone) = some σ' ∧ f_Mo_keyOfLine_36 m μ (nI left) = some (1, μ') ∧ tfr σ σ' ∧ mfr μ μ' ∧ TS (B + 12 * k) σ' μ' := by
  intro k
  induction k with
  | zero =>
    intro gone n m B σ μ hB hn hm hc H h44 hl
    obtain ⟨n, rfl⟩ : ∃ z, n = z + 1 := ⟨n - 1, by omega⟩
    obtain ⟨m, rfl⟩ : ∃ z, m = z + 1 := ⟨m - 1, by omega⟩
    refine ⟨σ, μ, ?_, ?_, tfr_rf _, eqx_rf _ _, H⟩
    · rw [f_Terminal_rubOut_2]
      unfold f_Terminal_rubOut_53
      by_cases hx : nI most ≤ nI gone
      · rw [if_pos hx]
      · rw [if_neg hx]
        have h0 : left = 0 := by
          rcases hc with h | h
          · exact absurd (nI_le (show most ≤ gone by omega) (by omega)) hx
          · exact h.1
        obtain ⟨c, ⟨o, a1, a2, a3, a4, a5⟩, b⟩ := H.2.1.1
        have : c = 0 := by
          rw [h44, h0] at b
          exact ((nI_eq (by decide) (by omega)).mp b).symm
        rw [a3, this, if_pos (show nI 0 ≤ (0 : Int32) by decide)]
    · rw [f_Mo_keyOfLine_36, h44, if_pos (nI_le (show left + 0 ≤ left by omega) (by omega))]
  | succ k ih =>
    intro gone n m B σ μ hB hn hm hc H h44 hl
    obtain ⟨n, rfl⟩ : ∃ z, n = z + 1 := ⟨n - 1, by omega⟩
    obtain ⟨m, rfl⟩ : ∃ z, m = z + 1 := ⟨m - 1, by omega⟩
    obtain ⟨c, R0, b⟩ := H.2.1.1
    have hcc : c = (left + k) + 1 := by
      have hc20 : c ≤ 20 := by obtain ⟨o, a1, a2, a3, a4, a5⟩ := R0; exact a4
      rw [h44] at b
      have := (nI_eq (by omega) (by omega)).mp b
      omega
    subst hcc
    have c0 : σ 27 0 = nI (left + k + 1) := by obtain ⟨o, a1, a2, a3, a4, a5⟩ := R0; exact a3
    obtain ⟨σ1, e1, E1, Q1⟩ := last_C (by decide) rl0 (by decide) R0
    have E2 : eqx [44] μ (q_up μ 44 0 (nI (left + k))) := eqx_up (by decide)
    have M2 : mfr μ (q_up μ 44 0 (nI (left + k))) := eqx_mono E2 (by intro f; simp; omega)
    have t1 := tfr_eqr (by decide) E1
    have H1 : TS B σ1 (q_up μ 44 0 (nI (left + k))) := by
      refine ⟨by rw [t1.1 22 (by decide), E2 42 (by decide)]; exact H.1, ?_, RD_eqr (by decide) E1 (eqx_mono E2 (by intro f; simp; omega)) H.2.2⟩
      obtain ⟨-, ⟨c1, a1, b1⟩, -⟩ := H.2.1
      exact RQ_mk H.2.1 t1 M2 ⟨left + k, by rw [E2 19 (by decide)]; exact Q1, by rw [q_up_self]⟩ ⟨c1, by rw [E2 20 (by decide)]; exact ring_o E1 (by decide) (by decide) (by decide) a1, by rw [E2 45 (by decide)]; exact b1⟩
    obtain ⟨σ2, μ2, e2, e3, h1, h2, h3⟩ := rub1_sim (by omega) H1.2.2 H1.1 (μ 19 (left + k))
    have H2 : TS (B + 12) σ2 μ2 := ⟨by rw [h1 22 (by decide), h2 42 (by decide)]; exact H1.1, RQ_c h1 h2 (by decide) (by decide) H1.2.1, h3⟩
    obtain ⟨σ3, μ3, e4, e5, t3, m3, H3⟩ := ih (gone + 1) n m (B + 12) σ2 μ2 (by omega) (by omega) (by omega) (by omega) H2 (by rw [h2 44 (by decide), q_up_self]) (by omega)
    refine ⟨σ3, μ3, ?_, ?_, tfr_tr (tfr_tr t1 (tfr_shw h1)) t3, eqx_tr (eqx_tr M2 (mfr_shw h2)) m3, by rw [show B + 12 * (k + 1) = B + 12 + 12 * k by omega]; exact H3⟩
    · rw [f_Terminal_rubOut_2, if_neg (nI_ge (show gone < most by omega) (by omega)), c0, if_neg (nI_nle (show 0 < left + k + 1 by omega) (by omega)), q_bnd_s e1]
      unfold f_Terminal_rubOut_47
      rw [nI_1]
      rw [has_C] at e2 ⊢
      simp only [q_bnd_v] at e2 ⊢
      by_cases hz : (if (σ1 22 0 &&& 2) = 0 then (0 : Int32) else 1) = 0
      · rw [if_pos hz] at e2 ⊢
        cases e2
        exact e4
      · rw [if_neg hz] at e2 ⊢
        obtain ⟨s8, f8, e2⟩ := q_bnd_some e2
        rw [q_bnd_s f8]
        by_cases h32 : 32 ≤ μ 19 (left + k)
        · rw [if_pos h32] at e2 ⊢
          cases e2
          exact e4
        · rw [if_neg h32] at e2 ⊢
          obtain ⟨s11, f11, e2⟩ := q_bnd_some e2
          rw [q_bnd_s f11]
          cases e2
          exact e4
    · rw [f_Mo_keyOfLine_36, h44, if_neg (nI_ge (show left < left + (k + 1) by omega) (by omega))]
      have hr : f_Mo_rubOut μ = some μ2 := by
        unfold f_Mo_rubOut
        rw [h44, show left + (k + 1) = left + k + 1 by omega, nI_pred, q_up_self, q_grd_t (q_inT (show left + k < 20 by omega) (by decide)), nI_clamp (show left + k < 2 ^ 31 by omega), q_up_f (by decide)]
        exact e3
      rw [q_bnd_s hr]
      exact e5
/-- what the reference does with a key that sends no signal -/
def mty (μ : q_St) (c : Int32) : Option (Int32 × q_St) := if (μ 42 0 &&& 1) = 0 then (if (40 : Int32) ≤ μ 45 0 then some (0, μ) else q_grd (q_in (μ 45 0) 40) (q_bnd (f_Mo_echo (q_up (q_up μ 20 (μ 45 0).toNatClampNeg c) 45 0 (((q_up μ 20 (μ 45 0).toNatClampNeg c) 45 0) + 1)) c) (fun r => some (1, r)))) else f_Mo_keyOfLine μ c
theorem key111 (μ : q_St) (c : Int32) : f_Mo_key_111 μ c = q_bnd (mty μ c) (fun r => f_Mo_key_172 r.2 r.1) := by
  unfold f_Mo_key_111 f_Mo_key_142 mty
  rw [flagged_M]
  simp only [q_bnd_v]
  by_cases h1 : (μ 42 0 &&& 1) = 0
  · simp only [h1, if_true]
    by_cases h40 : (40 : Int32) ≤ μ 45 0
    · simp only [h40, if_true, q_bnd_v]
    · simp only [h40, if_false, i1z]
      by_cases hq : q_in (μ 45 0) 40 = true
      · rw [q_grd_t hq, q_grd_t hq]
        cases f_Mo_echo (q_up (q_up μ 20 (μ 45 0).toNatClampNeg c) 45 0 (((q_up μ 20 (μ 45 0).toNatClampNeg c) 45 0) + 1)) c <;> rfl
      · unfold q_grd; rw [if_neg hq, if_neg hq]; rfl
  · simp only [h1, if_false, i1z]
theorem TY_isB {B C : Nat} {σ μ : q_St} {a b : Option (Int32 × q_St)} (H : TY B C σ μ a b) : TY B C σ μ (q_bnd a (fun r => q_grd (q_isB r.1) (some (r.1, r.2)))) b := by
  obtain ⟨r, σ', μ', h1, h2, h3, h4⟩ := H
  refine ⟨r, σ', μ', ?_, h2, h3, h4⟩
  rw [h1]
  rcases h3 with rfl | rfl <;> rfl
theorem TY_isBM {B C : Nat} {σ μ : q_St} {a b : Option (Int32 × q_St)} (H : TY B C σ μ a b) : TY B C σ μ a (q_bnd b (fun r => q_grd (q_isB r.1) (some (r.1, r.2)))) := by
  obtain ⟨r, σ', μ', h1, h2, h3, h4⟩ := H
  refine ⟨r, σ', μ', h1, ?_, h3, h4⟩
  rw [h2]
  rcases h3 with rfl | rfl <;> rfl
theorem endInput_sim {B : Nat} {σ μ : q_St} (H : TS B σ μ) : TY B 0 σ μ (f_Terminal_endInput σ) (if μ 44 0 = 0 then q_bnd (f_Mo_enter μ 1 (-1)) (fun r17 => f_Mo_keyOfLine_80 r17.2 r17.1) else q_bnd (f_Mo_enter μ 0 0) (fun r15 => f_Mo_keyOfLine_80 r15.2 r15.1)) := by
  obtain ⟨e, h0, b0⟩ := H.2.1.1
  have he : e ≤ 20 := by obtain ⟨o, a1, a2, a3, a4, a5⟩ := h0; exact a4
  have c0 : σ 27 0 = nI e := by obtain ⟨o, a1, a2, a3, a4, a5⟩ := h0; exact a3
  unfold f_Terminal_endInput f_Mo_keyOfLine_80
  rw [c0, b0]
  by_cases hz : e = 0
  · subst hz
    rw [if_pos (show nI 0 ≤ (0 : Int32) by decide), if_pos (show nI 0 = (0 : Int32) from rfl)]
    have h1 := enter_sim H (more := 1) (by decide) (-1)
    rw [show nI 1 = (1 : Int32) from rfl] at h1
    have h2 : f_Terminal_queueEdit σ 1 = q_bnd (f_NumberRow_hasRoomFor σ 1 1) (fun r => if r.1 = 0 then some (0, r.2) else some (1, r.2)) := by
      unfold f_Terminal_queueEdit
      rw [c0, show nI 0 + (1 : Int32) = 1 from rfl]
      obtain ⟨q, hq, -⟩ := H.2.1.2.1
      have hr := room_C (m := 1) rl1 (by decide) hq (by decide)
      rw [show nI 1 = (1 : Int32) from rfl] at hr
      rw [hr]
      simp only [q_bnd_v]
      by_cases hx : q + 1 ≤ 40
      · simp only [hx, if_true, i1z, if_false]
        rw [f_Terminal_queueEdit_23, if_neg (by decide), c0, if_pos (show nI 0 ≤ (0 : Int32) by decide)]
        rfl
      · simp only [hx, if_false, if_true]
    have h3 := TY_isBM h1
    rw [h2] at h3
    refine cast ?_ h3
    congr 1
    cases f_NumberRow_hasRoomFor σ 1 1 with
    | none => rfl
    | some r =>
      simp only [q_bnd_v]
      by_cases hr : r.1 = 0
      · simp only [hr, if_true, q_bnd_v]
      · simp only [hr, if_false, q_bnd_v, i1z, if_true]
  · rw [if_neg (nI_nle (show 0 < e by omega) (by omega)), if_neg (nI_ne0 (show 0 < e by omega) (by omega))]
    have h1 := enter_sim H (more := 0) (by decide) 0
    rw [show nI 0 = (0 : Int32) from rfl] at h1
    have h3 := TY_isBM h1
    obtain ⟨r, σ', μ', g1, g2, g3, g4⟩ := h3
    refine ⟨r, σ', μ', ?_, g2, g3, g4⟩
    cases hq : f_Terminal_queueEdit σ 0 with
    | none => rw [hq] at g1; cases g1
    | some z =>
      rw [hq] at g1
      simp only [q_bnd_v] at g1 ⊢
      by_cases hr : z.1 = 0
      · rw [if_pos hr] at g1
        cases g1
        rw [hr]; rfl
      · rw [if_neg hr, if_neg (by decide)] at g1
        cases g1
        unfold f_Terminal_queueEdit at hq
        obtain ⟨w, hw, hq⟩ := q_bnd_some hq
        by_cases hw0 : w.1 = 0
        · rw [if_pos hw0] at hq; cases hq; exact absurd rfl hr
        · rw [if_neg hw0] at hq
          have one : ∀ (n : Nat) (σ : q_St) (x : Int32) (z : Int32 × q_St), f_Terminal_queueEdit_23 n σ x = some z → z.1 = 1 := by
            intro n
            induction n with
            | zero => intro σ x z h; cases h
            | succ n ih =>
              intro σ x z h
              rw [f_Terminal_queueEdit_23] at h
              unfold f_Terminal_queueEdit_59 at h
              by_cases a : (20 : Int32) ≤ x
              · rw [if_pos a] at h; cases h; rfl
              · rw [if_neg a] at h
                by_cases b : σ 27 0 ≤ 0
                · rw [if_pos b] at h; cases h; rfl
                · rw [if_neg b] at h
                  obtain ⟨r6, -, h⟩ := q_bnd_some h
                  obtain ⟨r8, -, h⟩ := q_bnd_some h
                  exact ih _ _ _ h
          rw [one _ _ _ _ hq]; rfl
