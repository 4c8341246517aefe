/-! FRONT, BACK, SEND: answers and throws -/
def SIMX (B : Nat) (f : Option (Int32 × q_St)) (x : Option (Bool × q_St)) (m : Option (Int32 × q_St)) : Prop :=
  (∃ r σ' μ', f = some (r, σ') ∧ m = some (r, μ') ∧ μ' 48 0 = 0 ∧ RR (B + 300) σ' μ') ∨ ∃ b σ' r μ', x = some (b, σ') ∧ m = some (r, μ') ∧ μ' 48 0 = (if b then 1 else 2) ∧ RR (B + 300) σ' μ'
theorem SIMX_t {B : Nat} {σ μ : q_St} {f : Option (Int32 × q_St)} {x : Option (Bool × q_St)} {m : Option (Int32 × q_St)} {r y : Int32} (H : RR B σ μ) (b : Bool) (hy : y = if b then 1 else 2) (h1 : x = some (b, σ)) (h2 : m = some (r, q_up μ 48 0 y)) : SIMX B f x m :=
  Or.inr ⟨b, σ, r, _, h1, h2, by rw [q_up_self, hy], RR_mono (by omega) (RR_48 y H)⟩
theorem fg_R0 {B : Nat} {σ μ : q_St} (H : R0 B σ μ) {v : Int32} (h : v = -1 ∨ ∃ j, j < 4 ∧ v = nI j ∧ μ 12 j = 1 ∧ ¬ σ 31 j = 3) : R0 B (q_up σ 20 0 v) (q_up μ 41 0 v) := by
  obtain ⟨HS, HJ, HT, HP, HQ, HD⟩ := H
  have E1 : eqx [20] σ (q_up σ 20 0 v) := eqx_up (by decide)
  have E2 : eqx [41] μ (q_up μ 41 0 v) := eqx_up (by decide)
  refine ⟨RS_c E1 E2 (by decide) (by decide) HS, RJ_c E1 E2 (by decide) (by decide) HJ, ?_, RP_c E1 E2 (by decide) (by decide) HP, RQ_c E1 E2 (by decide) (by decide) HQ, RD_c E1 E2 (by decide) (by decide) HD⟩
  obtain ⟨t1, t2, t3, t4, t5⟩ := HT
  unfold RT
  rw [E1 21 (by decide), E1 22 (by decide), E1 23 (by decide), E1 31 (by decide), E2 40 (by decide), E2 42 (by decide), E2 43 (by decide), E2 12 (by decide), q_up_self, q_up_self]
  exact ⟨rfl, t2, t3, h, t5⟩
theorem send_sim {B : Nat} {σ μ : q_St} (H : RR B σ μ) (p w : Int32) : SIMX B (f_JT_send σ p w) (f_JT_sendX σ p w) (f_Mo_send μ p w) := by
  unfold f_JT_send f_JT_send_30 f_JT_sendX f_JT_sendX_30 f_Mo_send f_Mo_send_19 f_Mo_send_24
  have no : ∀ (h1 : f_Mo_isJob μ p = some (0, μ)) (h2 : f_JT_findJob σ p = some (-1, σ)), SIMX B (q_bnd (f_JT_findJob σ p) fun r1 => if r1.1 < 0 then none else if w < 0 then none else if w ≤ 9 then q_bnd (f_JT_sendAndSettle r1.2 r1.1 w) (fun r6 => some (r6.1, r6.2)) else none) (q_bnd (f_JT_findJob σ p) fun r1 => if r1.1 < 0 then some (true, r1.2) else if w < 0 then some (true, r1.2) else if w ≤ 9 then q_bnd (f_JT_sendAndSettle r1.2 r1.1 w) (fun r6 => none) else some (true, r1.2)) (f_Mo_send μ p w) := by
    intro h1 h2
    refine SIMX_t (r := 0) (y := 1) H true rfl (by rw [q_bnd_s h2, if_pos m1lt]) ?_
    unfold f_Mo_send f_Mo_send_19 f_Mo_send_24
    rw [q_bnd_s h1, if_pos rfl, q_up_self, if_neg (by decide)]
  rcases pk_ix p (show 4 < 2 ^ 31 by decide) with h | h | ⟨j, hj, rfl⟩
  · exact no (isJob_no (σ := σ) (Or.inl h)).1 (isJob_no (μ := μ) (Or.inl h)).2
  · exact no (isJob_no (σ := σ) (Or.inr h)).1 (isJob_no (μ := μ) (Or.inr h)).2
  · rcases isJob_M H.1.2.1 hj with ⟨-, h1, h2⟩ | ⟨ht, h1, h2⟩
    · exact no h1 h2
    · have hjn : ¬ nI j < 0 := nI_pos (by omega)
      simp only [q_bnd_s h1, q_bnd_s h2, if_neg hjn, if_neg (show ¬ (1 : Int32) = 0 by decide), q_up_self]
      by_cases w0 : w < 0
      · simp only [w0, if_true]
        exact SIMX_t (r := 0) (y := 1) H true rfl rfl (by rw [if_neg (by decide)])
      · simp only [w0, if_false]
        by_cases w9 : w ≤ 9
        · simp only [w9, if_true]
          obtain ⟨s, hs, rfl⟩ := nI_of2 (n := 9) (by decide) w0 w9
          rw [if_pos (show (0 : Int32) ≤ 0 by decide)]
          have H1 : R0 B σ (q_up μ 48 0 0) := R0_M H.1 (eqx_up (by decide))
          obtain ⟨r, σ', μ', e1, e2, H2, E1, E2⟩ := sas_sim H1 hj (show s < 10 by omega) (there_c (eqx_rf [] σ) (G := [48]) (eqx_up (by decide)) (by decide) (by decide) ht) (fun k hk _ => H.2 k hk)
          exact Or.inl ⟨r, σ', μ', by rw [q_bnd_s e1], e2, by rw [E2 48 (by decide), q_up_self], RR_mono (by omega) H2⟩
        · simp only [w9, if_false]
          exact SIMX_t (r := 0) (y := 1) H true rfl rfl (by rw [if_neg (by decide)])
theorem front_sim {B : Nat} {σ μ : q_St} (H : RR B σ μ) (p : Int32) : SIMX B (f_JT_front σ p) (f_JT_frontX σ p) (f_Mo_front μ p) := by
  have no : ∀ (h1 : f_Mo_isJob μ p = some (0, μ)) (h2 : f_JT_findJob σ p = some (-1, σ)), SIMX B (f_JT_front σ p) (f_JT_frontX σ p) (f_Mo_front μ p) := by
    intro h1 h2
    refine SIMX_t (r := 0) (y := 1) H true rfl ?_ ?_
    · unfold f_JT_frontX; rw [q_bnd_s h2, if_pos m1lt]
    · unfold f_Mo_front f_Mo_front_42; rw [q_bnd_s h1, if_pos rfl, q_up_self, if_neg (by decide)]
  rcases pk_ix p (show 4 < 2 ^ 31 by decide) with h | h | ⟨j, hj, rfl⟩
  · exact no (isJob_no (σ := σ) (Or.inl h)).1 (isJob_no (μ := μ) (Or.inl h)).2
  · exact no (isJob_no (σ := σ) (Or.inr h)).1 (isJob_no (μ := μ) (Or.inr h)).2
  · rcases isJob_M H.1.2.1 hj with ⟨-, h1, h2⟩ | ⟨ht, h1, h2⟩
    · exact no h1 h2
    · have hjn : ¬ nI j < 0 := nI_pos (by omega)
      have hjq := q_inT hj (show 4 < 2 ^ 31 by decide)
      have hjc : (nI j).toNatClampNeg = j := nI_clamp (by omega)
      have e41 : μ 41 0 = σ 20 0 := H.1.2.2.1.1.symm
      obtain ⟨sM, -⟩ := state_M H.1.1 hj ht
      have sC := state_C H.1.2.1 hj
      have key : (σ 20 0 = -1 ∨ σ 20 0 = nI j) → SIMX B (f_JT_front_45 σ (nI j)) (f_JT_frontX_45 σ (nI j)) (f_Mo_front_28 μ (nI j)) := by
        intro _
        unfold f_JT_front_45 f_JT_frontX_45 f_Mo_front_28 f_Mo_front_37 f_Mo_front_42
        simp only [q_grd_t hjq, hjc, q_bnd_s sC, q_bnd_s sM, q_up_self]
        by_cases h3 : stJ σ j = 3
        · simp only [h3, if_true]
          exact SIMX_t (r := 0) (y := 2) H false rfl rfl (by rw [if_neg (by decide)])
        · simp only [h3, if_false]
          rw [if_pos (show (0 : Int32) ≤ 0 by decide)]
          have H1 : R0 B (q_up σ 20 0 (nI j)) (q_up (q_up μ 48 0 0) 41 0 (nI j)) := fg_R0 (R0_M H.1 (eqx_up (by decide))) (Or.inr ⟨j, hj, rfl, by rw [q_up_rowf (by decide)]; exact ht.1, by rw [H.2 j hj]; exact h3⟩)
          obtain ⟨r, σ', μ', e1, e2, H2, E1, E2⟩ := sas_sim H1 hj (show 5 < 10 by decide) (there_c (F := [20]) (G := [48, 41]) (eqx_up (by decide)) (eqx_tr (eqx_up (by decide)) (eqx_up (by decide))) (by decide) (by decide) ht) (fun k hk _ => by
            rw [stJ_c (F := [20]) (eqx_up (by decide)) (by decide), q_up_rowf (by decide)]; exact H.2 k hk)
          refine Or.inl ⟨r, σ', μ', ?_, ?_, by rw [E2 48 (by decide), q_up_f (by decide), q_up_self], RR_mono (by omega) H2⟩
          · rw [show (5 : Int32) = nI 5 from rfl, q_bnd_s e1]
          · unfold f_Mo_goOn
            rw [show (5 : Int32) = nI 5 from rfl, e2]; rfl
      unfold f_JT_front f_JT_frontX f_Mo_front
      simp only [q_bnd_s h1, q_bnd_s h2, if_neg hjn, if_neg (show ¬ (1 : Int32) = 0 by decide), q_grd_t (okn_fg H.1.2.2.1), q_grd_t (oknN hj (show 4 < 2 ^ 31 by decide)), e41]
      rcases H.1.2.2.1.2.2.2.1 with hf | ⟨i, hi, hf, -⟩
      · rw [hf, if_pos m1lt, if_pos m1lt, if_pos m1lt]
        exact key (Or.inl hf)
      · rw [hf, if_neg (nI_pos (show i < 2 ^ 31 by omega)), if_neg (nI_pos (show i < 2 ^ 31 by omega)), if_neg (nI_pos (show i < 2 ^ 31 by omega))]
        by_cases hij : nI i = nI j
        · rw [if_pos hij, if_pos hij, if_pos hij]
          exact key (Or.inr (hf.trans hij))
        · rw [if_neg hij, if_neg hij, if_neg hij]
          refine SIMX_t (r := 0) (y := 2) H false rfl rfl ?_
          unfold f_Mo_front_37 f_Mo_front_42
          rw [q_up_self, if_neg (by decide)]
theorem back_sim {B : Nat} {σ μ : q_St} (H : RR B σ μ) (p : Int32) : SIMX B (f_JT_back σ p) (f_JT_backX σ p) (f_Mo_back μ p) := by
  have no : ∀ (h1 : f_Mo_isJob μ p = some (0, μ)) (h2 : f_JT_findJob σ p = some (-1, σ)), SIMX B (f_JT_back σ p) (f_JT_backX σ p) (f_Mo_back μ p) := by
    intro h1 h2
    refine SIMX_t (r := 0) (y := 1) H true rfl ?_ ?_
    · unfold f_JT_backX; rw [q_bnd_s h2, if_pos m1lt]
    · unfold f_Mo_back f_Mo_back_27; rw [q_bnd_s h1, if_pos rfl, q_up_self, if_neg (by decide)]
  rcases pk_ix p (show 4 < 2 ^ 31 by decide) with h | h | ⟨j, hj, rfl⟩
  · exact no (isJob_no (σ := σ) (Or.inl h)).1 (isJob_no (μ := μ) (Or.inl h)).2
  · exact no (isJob_no (σ := σ) (Or.inr h)).1 (isJob_no (μ := μ) (Or.inr h)).2
  · rcases isJob_M H.1.2.1 hj with ⟨-, h1, h2⟩ | ⟨ht, h1, h2⟩
    · exact no h1 h2
    · have hjn : ¬ nI j < 0 := nI_pos (by omega)
      have hjq := q_inT hj (show 4 < 2 ^ 31 by decide)
      have hjc : (nI j).toNatClampNeg = j := nI_clamp (by omega)
      have e41 : μ 41 0 = σ 20 0 := H.1.2.2.1.1.symm
      obtain ⟨sM, -⟩ := state_M H.1.1 hj ht
      have sC := state_C H.1.2.1 hj
      unfold f_JT_back f_JT_back_51 f_JT_backX f_JT_backX_51 f_Mo_back f_Mo_back_27 f_Mo_back_56
      simp only [q_bnd_s h1, q_bnd_s h2, if_neg hjn, if_neg (show ¬ (1 : Int32) = 0 by decide), q_grd_t hjq, hjc, q_bnd_s sC, q_bnd_s sM, q_up_self, q_grd_t (okn_fg H.1.2.2.1), q_grd_t (oknN hj (show 4 < 2 ^ 31 by decide)), q_up_f (show 41 ≠ 48 by decide), e41]
      by_cases h3 : stJ σ j = 3
      · simp only [h3, if_true]
        exact SIMX_t (r := 0) (y := 2) H false rfl rfl (by rw [if_neg (by decide)])
      · simp only [h3, if_false]
        rw [if_pos (show (0 : Int32) ≤ 0 by decide)]
        have fin : ∀ v : Int32, (v = -1 ∨ ∃ i, i < 4 ∧ v = nI i ∧ μ 12 i = 1 ∧ ¬ σ 31 i = 3) → SIMX B (q_bnd (f_JT_sendAndSettle (q_up σ 20 0 v) (nI j) 5) fun r11 => some (r11.1, r11.2)) (q_bnd (f_JT_sendAndSettle (q_up σ 20 0 v) (nI j) 5) fun r11 => none) (q_bnd (f_Mo_goOn (q_up (q_up μ 48 0 0) 41 0 v) (nI j)) fun r9 => some (r9.1, r9.2)) := by
          intro v hv
          have H1 : R0 B (q_up σ 20 0 v) (q_up (q_up μ 48 0 0) 41 0 v) := fg_R0 (R0_M H.1 (eqx_up (by decide))) (by rw [q_up_rowf (by decide)]; exact hv)
          obtain ⟨r, σ', μ', e1, e2, H2, E1, E2⟩ := sas_sim H1 hj (show 5 < 10 by decide) (there_c (F := [20]) (G := [48, 41]) (eqx_up (by decide)) (eqx_tr (eqx_up (by decide)) (eqx_up (by decide))) (by decide) (by decide) ht) (fun k hk _ => by
            rw [stJ_c (F := [20]) (eqx_up (by decide)) (by decide), q_up_rowf (by decide)]; exact H.2 k hk)
          refine Or.inl ⟨r, σ', μ', ?_, ?_, by rw [E2 48 (by decide), q_up_f (by decide), q_up_self], RR_mono (by omega) H2⟩
          · rw [show (5 : Int32) = nI 5 from rfl, q_bnd_s e1]
          · unfold f_Mo_goOn
            rw [show (5 : Int32) = nI 5 from rfl, e2]; rfl
        by_cases hfj : σ 20 0 = nI j
        · rw [if_pos hfj, if_pos hfj, if_pos hfj]
          exact fin (-1) (Or.inl rfl)
        · rw [if_neg hfj, if_neg hfj, if_neg hfj]
          have := fin (σ 20 0) H.1.2.2.1.2.2.2.1
          rw [up_same rfl] at this
          exact this
