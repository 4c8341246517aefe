/-! CALLS THAT LOOK, and the smallest that write -/
def SIM (B : Nat) (a b : Option (Int32 × q_St)) : Prop := ∃ r σ' μ', a = some (r, σ') ∧ b = some (r, μ') ∧ RR (B + 300) σ' μ'
theorem settled_c {σ σ' : q_St} {F : List Nat} (h : eqx F σ σ') (h1 : ∀ f ∈ [28, 29, 31, 33], f ∉ F) (H : settled σ) : settled σ' := fun j hj => by
  rw [stJ_c h ⟨h1 28 (by decide), h1 29 (by decide), h1 33 (by decide)⟩, h 31 (h1 31 (by decide))]; exact H j hj
theorem R0_M {B : Nat} {σ μ μ' : q_St} (H : R0 B σ μ) (g : eqx [47, 48] μ μ') : R0 B σ μ' :=
  ⟨RS_c (eqx_rf [] σ) g (by decide) (by decide) H.1, RJ_c (eqx_rf [] σ) g (by decide) (by decide) H.2.1, RT_c (eqx_rf [] σ) g (by decide) (by decide) H.2.2.1, RP_c (eqx_rf [] σ) g (by decide) (by decide) H.2.2.2.1, RQ_c (eqx_rf [] σ) g (by decide) (by decide) H.2.2.2.2.1, RD_c (eqx_rf [] σ) g (by decide) (by decide) H.2.2.2.2.2⟩
theorem RR_M {B : Nat} {σ μ μ' : q_St} (H : RR B σ μ) (g : eqx [47, 48] μ μ') : RR B σ μ' := ⟨R0_M H.1 g, H.2⟩
theorem RR_48 {B : Nat} {σ μ : q_St} (x : Int32) (H : RR B σ μ) : RR B σ (q_up μ 48 0 x) := RR_M H (eqx_up (by decide))
theorem SIM_look {B : Nat} {σ μ : q_St} {a b : Option (Int32 × q_St)} {r x : Int32} (H : RR B σ μ) (h1 : a = some (r, σ)) (h2 : b = some (r, q_up μ 48 0 x)) : SIM B a b := ⟨r, σ, _, h1, h2, RR_mono (by omega) (RR_48 x H)⟩
theorem u48 {μ : q_St} {x : Int32} {f k : Nat} (h : f ≠ 48) : q_up μ 48 0 x f k = μ f k := q_up_f h
theorem foreground_sim {B : Nat} {σ μ : q_St} (H : RR B σ μ) : SIM B (f_JT_foreground σ) (f_Mo_foreground μ) := by
  refine SIM_look (r := σ 20 0) (x := 0) H ?_ ?_
  · unfold f_JT_foreground f_JT_foreground_18
    rcases H.1.2.2.1.2.2.2.1 with h | ⟨j, hj, h, -⟩
    · rw [h, if_pos m1lt]
    · rw [h, if_neg (nI_pos (show j < 2 ^ 31 by omega)), q_grd_t (q_inT hj (by decide)), nI_clamp (by omega)]
  · unfold f_Mo_foreground
    rw [u48 (by decide), H.1.2.2.1.1]
theorem shown_sim {B : Nat} {σ μ : q_St} (H : RR B σ μ) : SIM B (f_JT_shown σ) (f_Mo_shown μ) := by
  obtain ⟨T, -, h1, h2, -⟩ := H.1.2.2.2.2.2
  exact SIM_look (r := nI T) (x := 0) H (by unfold f_JT_shown; rw [h1]) (by unfold f_Mo_shown; rw [u48 (by decide), h2])
theorem flags_sim {B : Nat} {σ μ : q_St} (H : RR B σ μ) (p : Int32) : SIM B (f_JT_flags σ p) (f_Mo_flags μ p) := by
  by_cases h0 : p < 0
  · exact SIM_look (r := -1) (x := 0) H (by unfold f_JT_flags f_JT_flags_10; rw [if_pos h0]) (by unfold f_Mo_flags f_Mo_flags_15; rw [if_pos h0])
  · by_cases h1 : p ≤ 63
    · obtain ⟨⟨HS, HJ, HT, HP, HQ, HD⟩, Hs⟩ := H
      refine ⟨σ 22 0, q_up σ 22 0 p, q_up (q_up μ 48 0 0) 42 0 p, by unfold f_JT_flags; rw [if_neg h0, if_pos h1], by unfold f_Mo_flags; rw [if_neg h0, if_pos h1, u48 (by decide), HT.2.1], RR_mono (show B ≤ B + 300 by omega) ?_⟩
      have E1 : eqx [22] σ (q_up σ 22 0 p) := eqx_up (by decide)
      have E2 : eqx [42, 48] μ (q_up (q_up μ 48 0 0) 42 0 p) := eqx_tr (eqx_up (by decide)) (eqx_up (by decide))
      refine ⟨⟨RS_c E1 E2 (by decide) (by decide) HS, RJ_c E1 E2 (by decide) (by decide) HJ, ?_, RP_c E1 E2 (by decide) (by decide) HP, RQ_c E1 E2 (by decide) (by decide) HQ, RD_c E1 E2 (by decide) (by decide) HD⟩, settled_c E1 (by decide) Hs⟩
      unfold RT
      rw [E1 20 (by decide), E1 21 (by decide), E1 23 (by decide), E1 31 (by decide), E2 40 (by decide), E2 41 (by decide), E2 43 (by decide), E2 12 (by decide), q_up_self, q_up_self]
      exact ⟨HT.1, rfl, HT.2.2⟩
    · exact SIM_look (r := -1) (x := 0) H (by unfold f_JT_flags f_JT_flags_10; rw [if_neg h0, if_neg h1]) (by unfold f_Mo_flags f_Mo_flags_15; rw [if_neg h0, if_neg h1])
theorem hasP (σ : q_St) {a : Nat} (h : a < 4) : f_Programs_hasProgram σ (nI a) = some (1, σ) := by
  unfold f_Programs_hasProgram f_Programs_hasProgram_14
  rw [if_neg (nI_pos (show a < 2 ^ 31 by omega)), if_neg (by rw [show (4 : Int32) = nI 4 from rfl]; exact nI_ge h (by decide))]; rfl
theorem hasP0 (σ : q_St) {p : Int32} (h : p < 0 ∨ nI 4 ≤ p) : f_Programs_hasProgram σ p = some (0, σ) := by
  unfold f_Programs_hasProgram f_Programs_hasProgram_13 f_Programs_hasProgram_14
  rcases h with h | h
  · rw [if_pos h]; rfl
  · by_cases h0 : p < 0
    · rw [if_pos h0]; rfl
    · rw [if_neg h0, if_pos (show (4 : Int32) ≤ p from h)]; rfl
theorem hasL (σ : q_St) {a : Nat} (h : a < 16) : f_Programs_hasLine σ (nI a) = some (1, σ) := by
  unfold f_Programs_hasLine f_Programs_hasLine_15
  rw [if_neg (nI_pos (show a < 2 ^ 31 by omega)), if_neg (by rw [show (16 : Int32) = nI 16 from rfl]; exact nI_ge h (by decide))]; rfl
theorem hasL0 (σ : q_St) {p : Int32} (h : p < 0 ∨ nI 16 ≤ p) : f_Programs_hasLine σ p = some (0, σ) := by
  unfold f_Programs_hasLine f_Programs_hasLine_14 f_Programs_hasLine_15
  rcases h with h | h
  · rw [if_pos h]; rfl
  · by_cases h0 : p < 0
    · rw [if_pos h0]; rfl
    · rw [if_neg h0, if_pos (show (16 : Int32) ≤ p from h)]; rfl
theorem le_lt1 {p : Int32} {n : Nat} (hn : n + 1 < 2 ^ 31) (h : nI (n + 1) ≤ p) : nI n < p := by
  rw [Int32.lt_iff_toInt_lt, nI_toInt (by omega)]
  rw [Int32.le_iff_toInt_le, nI_toInt hn] at h
  omega
theorem nle_of_lt {a b : Int32} (h : a < b) : ¬ b ≤ a := by
  rw [Int32.lt_iff_toInt_lt] at h
  rw [Int32.le_iff_toInt_le]
  omega
theorem ix16 {a b : Nat} (ha : a < 4) (hb : b < 16) : nI a * 16 + nI b = nI (16 * a + b) ∧ 16 * nI a + nI b = nI (16 * a + b) := by
  rw [show (16 : Int32) = nI 16 from rfl, pk_mul, pk_mul, nI_add, nI_add, Nat.mul_comm a 16]
  exact ⟨rfl, rfl⟩
theorem program_sim {B : Nat} {σ μ : q_St} (H : RR B σ μ) (p q o x : Int32) : SIM B (f_JT_program σ p q o x) (f_Mo_program μ p q o x) := by
  have no : ∀ (hC : f_JT_program σ p q o x = some (0, σ)) (hM : f_Mo_program μ p q o x = some (0, q_up μ 48 0 0)), SIM B (f_JT_program σ p q o x) (f_Mo_program μ p q o x) := fun hC hM => SIM_look H hC hM
  rcases pk_ix p (show 4 < 2 ^ 31 by decide) with h | h | ⟨a, ha, rfl⟩
  · refine no ?_ ?_
    · unfold f_JT_program f_JT_program_14; rw [hasP0 σ (Or.inl h)]; rfl
    · unfold f_Mo_program f_Mo_program_24; rw [if_pos h]
  · refine no ?_ ?_
    · unfold f_JT_program f_JT_program_14; rw [hasP0 σ (Or.inr h)]; rfl
    · unfold f_Mo_program f_Mo_program_24
      by_cases h0 : p < 0
      · rw [if_pos h0]
      · rw [if_neg h0, if_pos (show (3 : Int32) < p from le_lt1 (n := 3) (by decide) h)]
  · have m0 : ¬ nI a < 0 := nI_pos (by omega)
    have m1 : ¬ (3 : Int32) < nI a := by rw [show (3 : Int32) = nI 3 from rfl]; exact nI_nlt (by omega) (by decide)
    rcases pk_ix q (show 16 < 2 ^ 31 by decide) with h | h | ⟨b, hb, rfl⟩
    · refine no ?_ ?_
      · unfold f_JT_program f_JT_program_14; rw [hasP σ ha]; show (q_bnd (f_Programs_hasLine σ q) _) = _; rw [hasL0 σ (Or.inl h)]; rfl
      · unfold f_Mo_program f_Mo_program_24; rw [if_neg m0, if_neg m1, if_pos h]
    · refine no ?_ ?_
      · unfold f_JT_program f_JT_program_14; rw [hasP σ ha]; show (q_bnd (f_Programs_hasLine σ q) _) = _; rw [hasL0 σ (Or.inr h)]; rfl
      · unfold f_Mo_program f_Mo_program_24; rw [if_neg m0, if_neg m1]
        by_cases h0 : q < 0
        · rw [if_pos h0]
        · rw [if_neg h0, if_neg (show ¬ q ≤ (15 : Int32) from nle_of_lt (le_lt1 (n := 15) (by decide) h))]
    · have n0 : ¬ nI b < 0 := nI_pos (by omega)
      have n1 : nI b ≤ (15 : Int32) := by rw [show (15 : Int32) = nI 15 from rfl]; exact nI_le (by omega) (by decide)
      have hin := q_inT (show 16 * a + b < 64 by omega) (show 64 < 2 ^ 31 by decide)
      have hcl : (nI (16 * a + b)).toNatClampNeg = 16 * a + b := nI_clamp (by omega)
      obtain ⟨⟨HS, HJ, HT, HP, HQ, HD⟩, Hs⟩ := H
      refine ⟨1, q_up (q_up σ 0 (16 * a + b) o) 1 (16 * a + b) x, q_up (q_up (q_up μ 48 0 0) 0 (16 * a + b) o) 1 (16 * a + b) x, ?_, ?_, RR_mono (show B ≤ B + 300 by omega) ?_⟩
      · unfold f_JT_program f_Programs_setLine f_Programs_setLine_39
        rw [(ix16 ha hb).1, hcl]
        simp only [hasP _ ha, hasL _ hb, q_bnd_v, q_grd_t hin, if_neg (show ¬ (1 : Int32) = 0 by decide)]
      · unfold f_Mo_program
        rw [if_neg m0, if_neg m1, if_neg n0, if_pos n1, (ix16 ha hb).2, hcl, q_grd_t hin, q_grd_t hin]
      · have E1 : eqx [0, 1] σ (q_up (q_up σ 0 (16 * a + b) o) 1 (16 * a + b) x) := eqx_tr (eqx_up (by decide)) (eqx_up (by decide))
        have E2 : eqx [0, 1, 48] μ (q_up (q_up (q_up μ 48 0 0) 0 (16 * a + b) o) 1 (16 * a + b) x) := eqx_tr (eqx_tr (eqx_up (by decide)) (eqx_up (by decide))) (eqx_up (by decide))
        refine ⟨⟨RS_c E1 E2 (by decide) (by decide) HS, RJ_c E1 E2 (by decide) (by decide) HJ, RT_c E1 E2 (by decide) (by decide) HT, ?_, RQ_c E1 E2 (by decide) (by decide) HQ, RD_c E1 E2 (by decide) (by decide) HD⟩, settled_c E1 (by decide) Hs⟩
        intro k hk
        obtain ⟨g1, g2⟩ := HP k hk
        by_cases hkk : k = 16 * a + b
        · simp [q_up, hkk]
        · simp [q_up, hkk, g1, g2]
/-- is there such a job -/
theorem isJob_M {σ μ : q_St} (HJ : RJ σ μ) {j : Nat} (hj : j < 4) : (gone σ μ j ∧ f_Mo_isJob μ (nI j) = some (0, μ) ∧ f_JT_findJob σ (nI j) = some (-1, σ)) ∨ (there σ μ j ∧ f_Mo_isJob μ (nI j) = some (1, μ) ∧ f_JT_findJob σ (nI j) = some (nI j, σ)) := by
  have n0 : ¬ nI j < 0 := nI_pos (by omega)
  have n4 : ¬ (4 : Int32) ≤ nI j := by rw [show (4 : Int32) = nI 4 from rfl]; exact nI_ge hj (by decide)
  have l4 : nI j < (4 : Int32) := by rw [show (4 : Int32) = nI 4 from rfl]; exact nI_lt hj (by decide)
  have hq := q_inT hj (show 4 < 2 ^ 31 by decide)
  have hc : (nI j).toNatClampNeg = j := nI_clamp (by omega)
  unfold f_Mo_isJob f_Mo_isJob_22 f_Mo_isJob_23 f_JT_findJob f_JT_findJob_30 f_Job_exists f_Job_exists_12
  rw [if_neg n0, if_neg n4, if_neg n0, if_pos l4, q_grd_t hq, q_grd_t hq, hc]
  rcases (HJ j hj).2 with hg | ht
  · left
    rw [hg.1, hg.2.1, if_pos rfl, if_pos m1lt]
    exact ⟨hg, rfl, rfl⟩
  · right
    obtain ⟨a, ha, h3, -⟩ := ht.2.2
    rw [ht.1, if_neg (show ¬ (1 : Int32) = 0 by decide), h3, if_neg (nI_pos (show a < 2 ^ 31 by omega))]
    exact ⟨ht, rfl, rfl⟩
theorem isJob_no {σ μ : q_St} {p : Int32} (h : p < 0 ∨ nI 4 ≤ p) : f_Mo_isJob μ p = some (0, μ) ∧ f_JT_findJob σ p = some (-1, σ) := by
  unfold f_Mo_isJob f_Mo_isJob_22 f_Mo_isJob_23 f_JT_findJob f_JT_findJob_9
  by_cases h0 : p < 0
  · rw [if_pos h0, if_pos h0]; exact ⟨rfl, rfl⟩
  · rcases h with h | h
    · exact absurd h h0
    · rw [if_neg h0, if_neg h0, if_pos (show (4 : Int32) ≤ p from h), if_neg (show ¬ p < (4 : Int32) from fun z => nle_of_lt z h)]; exact ⟨rfl, rfl⟩
theorem RJ_48 {σ μ : q_St} {x : Int32} (HJ : RJ σ μ) : RJ σ (q_up μ 48 0 x) := RJ_c (eqx_rf [] σ) (G := [48]) (eqx_up (by decide)) (by decide) (by decide) HJ
theorem RS_48 {σ μ : q_St} {x : Int32} (HS : RS σ μ) : RS σ (q_up μ 48 0 x) := RS_c (eqx_rf [] σ) (G := [48]) (eqx_up (by decide)) (by decide) (by decide) HS
theorem job_sim {B : Nat} {σ μ : q_St} (H : RR B σ μ) (p : Int32) : SIM B (f_JT_job σ p) (f_Mo_job μ p) := by
  unfold f_JT_job f_JT_job_18 f_Mo_job f_Mo_job_22
  have no : ∀ (h1 : f_Mo_isJob (q_up μ 48 0 0) p = some (0, q_up μ 48 0 0)) (h2 : f_JT_findJob σ p = some (-1, σ)), SIM B (q_bnd (f_JT_findJob σ p) fun r1 => if r1.1 < 0 then some (-1, r1.2) else q_grd (q_in r1.1 4) (q_bnd (f_Job_state r1.2 r1.1.toNatClampNeg) fun r5 => some (r5.1, r5.2))) (q_bnd (f_Mo_isJob (q_up μ 48 0 0) p) fun r1 => if r1.1 = 0 then some (-1, r1.2) else q_bnd (f_Mo_stateOf r1.2 p) fun r4 => some (r4.1, r4.2)) := by
    intro h1 h2
    rw [h1, h2]
    exact SIM_look (r := -1) (x := 0) H rfl rfl
  rcases pk_ix p (show 4 < 2 ^ 31 by decide) with h | h | ⟨j, hj, rfl⟩
  · exact no (isJob_no (σ := σ) (Or.inl h)).1 (isJob_no (μ := μ) (Or.inl h)).2
  · exact no (isJob_no (σ := σ) (Or.inr h)).1 (isJob_no (μ := μ) (Or.inr h)).2
  · rcases isJob_M (RJ_48 (x := 0) H.1.2.1) hj with ⟨-, h1, h2⟩ | ⟨ht, h1, h2⟩
    · exact no h1 h2
    · rw [h1, h2]
      refine SIM_look (r := stJ σ j) (x := 0) H ?_ ?_
      · simp only [q_bnd_v]
        rw [if_neg (nI_pos (show j < 2 ^ 31 by omega)), q_grd_t (q_inT hj (by decide)), nI_clamp (by omega), q_bnd_s (state_C H.1.2.1 hj)]
      · simp only [q_bnd_v, if_neg (show ¬ (1 : Int32) = 0 by decide)]
        rw [q_bnd_s (state_M (RS_48 H.1.1) hj ht).1]

theorem process_sim {B : Nat} {σ μ : q_St} (H : RR B σ μ) (p w : Int32) : SIM B (f_JT_process σ p w) (f_Mo_process μ p w) := by
  have no : ∀ (h : p < 0 ∨ nI 8 ≤ p), SIM B (f_JT_process σ p w) (f_Mo_process μ p w) := by
    intro h
    refine SIM_look (r := -1) (x := 0) H ?_ ?_
    · unfold f_JT_process f_JT_process_10
      by_cases h0 : p < 0
      · rw [if_pos h0]
      · rcases h with h | h
        · exact absurd h h0
        · rw [if_neg h0, if_neg (show ¬ p < (8 : Int32) from fun z => nle_of_lt z h)]
    · unfold f_Mo_process f_Mo_process_24
      by_cases h0 : p < 0
      · rw [if_pos h0]
      · rcases h with h | h
        · exact absurd h h0
        · rw [if_neg h0, if_pos (show (7 : Int32) < p from le_lt1 (n := 7) (by decide) h)]
  rcases pk_ix p (show 8 < 2 ^ 31 by decide) with h | h | ⟨i, hi, rfl⟩
  · exact no (Or.inl h)
  · exact no (Or.inr h)
  · have n0 : ¬ nI i < 0 := nI_pos (by omega)
    have l8 : nI i < (8 : Int32) := by rw [show (8 : Int32) = nI 8 from rfl]; exact nI_lt hi (by decide)
    have m7 : ¬ (7 : Int32) < nI i := by rw [show (7 : Int32) = nI 7 from rfl]; exact nI_nlt (by omega) (by decide)
    have hq := q_inT hi (show 8 < 2 ^ 31 by decide)
    have hc : (nI i).toNatClampNeg = i := nI_clamp (by omega)
    obtain ⟨⟨h3, p1, p2, p3, p4, p5, p6, p7, p8, p9⟩, ho⟩ := H.1.1 i hi
    unfold f_JT_process f_Mo_process f_Mo_process_24 f_JobProcess_look
    rw [if_neg n0, if_pos l8, if_neg n0, if_neg m7]
    simp only [q_grd_t hq, hc, u48 (show 2 ≠ 48 by decide), u48 (show 3 ≠ 48 by decide), u48 (show 5 ≠ 48 by decide), u48 (show 6 ≠ 48 by decide), u48 (show 7 ≠ 48 by decide), u48 (show 8 ≠ 48 by decide), u48 (show 9 ≠ 48 by decide), u48 (show 10 ≠ 48 by decide), u48 (show 11 ≠ 48 by decide)]
    rw [← h3.1, ← p2, ← p3, ← p4, ← p5, ← p6, ← h3.2.1, ← h3.2.2]
    rcases ho with ⟨g1, g2⟩ | ⟨g1, j, hj, g2, g3, -⟩
    · rw [g1, g2, if_pos m1lt, if_pos rfl]
      exact SIM_look (r := -1) (x := 0) H rfl rfl
    · have ns : ¬ σ 33 i = 0 := by rcases g1 with h | h | h <;> rw [h] <;> decide
      rw [g2, g3, if_neg (nI_pos (show j < 2 ^ 31 by omega)), if_neg ns, q_grd_t (q_inT hj (by decide)), nI_clamp (by omega)]
      by_cases c0 : w = 0
      · simp only [c0, if_true, q_bnd_v]; exact SIM_look H rfl rfl
      by_cases c1 : w = 1
      · simp [c1, q_bnd_v]; exact SIM_look H rfl rfl
      by_cases c2 : w = 2
      · simp [c2, q_bnd_v]; exact SIM_look H rfl rfl
      by_cases c3 : w = 3
      · simp [c3, q_bnd_v]; exact SIM_look H rfl rfl
      by_cases c4 : w = 4
      · simp [c4, q_bnd_v]; exact SIM_look H rfl rfl
      by_cases c5 : w = 5
      · simp [c5, q_bnd_v]; exact SIM_look H rfl rfl
      by_cases c6 : w = 6
      · simp [c6, q_bnd_v]; exact SIM_look H rfl rfl
      by_cases c7 : w = 7
      · simp [c7, q_bnd_v]; exact SIM_look H rfl rfl
      by_cases c8 : w = 8
      · simp [c8, q_bnd_v]; exact SIM_look H rfl rfl
      simp only [c0, c1, c2, c3, c4, c5, c6, c7, c8, if_false, q_bnd_v]
      exact SIM_look H rfl rfl
theorem codeAt_C {σ : q_St} {a : Nat} (ha : a < 100) : f_Display_codeBefore_41 σ (nI a) = some (σ 2 a, σ) := by
  unfold f_Display_codeBefore_41 f_Display_codeBefore_62
  rw [if_neg (nI_pos (show a < 2 ^ 31 by omega)), if_neg (show ¬ (100 : Int32) ≤ nI a by rw [show (100 : Int32) = nI 100 from rfl]; exact nI_ge ha (by decide)), q_grd_t (q_inT ha (by decide)), nI_clamp (show a < 2 ^ 31 by omega)]
theorem screen_sim {B : Nat} (hB : B < 2 ^ 30) {σ μ : q_St} (H : RR B σ μ) (p : Int32) : SIM B (f_JT_screen σ p) (f_Mo_screen μ p) := by
  have no : ∀ (h1 : f_Display_codeBefore σ p = some (-1, σ)) (h2 : f_Mo_screen μ p = some (-1, q_up μ 48 0 0)), SIM B (f_JT_screen σ p) (f_Mo_screen μ p) := fun h1 h2 => SIM_look (r := -1) H (by unfold f_JT_screen; rw [h1]; rfl) h2
  obtain ⟨T, hT, g1, g2, g3, g4⟩ := H.1.2.2.2.2.2
  rcases pk_ix p (show 100 < 2 ^ 31 by decide) with h | h | ⟨k, hk, rfl⟩
  · exact no (by unfold f_Display_codeBefore f_Display_codeBefore_18; rw [if_pos h]) (by unfold f_Mo_screen f_Mo_screen_23 f_Mo_screen_43; rw [if_pos h])
  · by_cases h0 : p < 0
    · exact no (by unfold f_Display_codeBefore f_Display_codeBefore_18; rw [if_pos h0]) (by unfold f_Mo_screen f_Mo_screen_23 f_Mo_screen_43; rw [if_pos h0])
    · exact no (by unfold f_Display_codeBefore f_Display_codeBefore_18; rw [if_neg h0, if_pos (show (100 : Int32) ≤ p from h)]) (by unfold f_Mo_screen f_Mo_screen_23 f_Mo_screen_43; rw [if_neg h0, if_pos (show (99 : Int32) < p from le_lt1 (n := 99) (by decide) h)])
  · have n0 : ¬ nI k < 0 := nI_pos (by omega)
    have n1 : ¬ (100 : Int32) ≤ nI k := by rw [show (100 : Int32) = nI 100 from rfl]; exact nI_ge hk (by decide)
    have n2 : ¬ (99 : Int32) < nI k := by rw [show (99 : Int32) = nI 99 from rfl]; exact nI_nlt (by omega) (by decide)
    unfold f_Mo_screen f_Mo_screen_23 f_Mo_screen_43 at *
    unfold f_Display_codeBefore f_Display_codeBefore_18 at no
    rw [if_neg n0, if_neg n2, u48 (by decide), g2] at *
    rw [if_neg n0, if_neg n1, g1] at no
    by_cases hlt : k < T
    · have l1 : nI k < nI T := nI_lt hlt (by omega)
      rw [if_pos l1]
      have eM : nI T - 1 - nI k = nI (T - 1 - k) := by
        rw [show (1 : Int32) = nI 1 from rfl, pk_sub (show 1 ≤ T by omega), pk_sub (show k ≤ T - 1 by omega)]
      rw [eM, show (100 : Int32) = nI 100 from rfl, pk_rem (show T - 1 - k < 2 ^ 31 by omega) (by decide) (by decide), q_grd_t (q_inT (Nat.mod_lt _ (by decide)) (by decide)), nI_clamp (show (T - 1 - k) % 100 < 2 ^ 31 by omega), u48 (by decide), ← g4 _ (Nat.mod_lt _ (by decide))]
      refine SIM_look (r := σ 2 ((T - 1 - k) % 100)) (x := 0) H ?_ rfl
      unfold f_JT_screen f_Display_codeBefore
      rw [if_neg n0, if_neg n1, g1, if_pos l1]
      obtain ⟨m, hm, hm2⟩ : ∃ m, σ 24 0 = nI m ∧ ((m = T % 100) ∨ (m = 100 ∧ T % 100 = 0)) := by
        rcases g3 with h | ⟨h, h'⟩
        · exact ⟨_, h, Or.inl rfl⟩
        · exact ⟨100, h, Or.inr ⟨rfl, h'⟩⟩
      rw [hm]
      by_cases hkm : k < m
      · have e1 : nI m - 1 - nI k = nI (m - 1 - k) := by
          rw [show (1 : Int32) = nI 1 from rfl, pk_sub (show 1 ≤ m by omega), pk_sub (show k ≤ m - 1 by omega)]
        rw [e1, if_pos (nI_pos' (show m - 1 - k < 2 ^ 31 by omega)), codeAt_C (show m - 1 - k < 100 by omega), show m - 1 - k = (T - 1 - k) % 100 by omega]
        rfl
      · have e1 : nI m - 1 - nI k + 100 = nI (m + 99 - k) := by
          have : nI m - 1 - nI k + 100 = nI m + nI 99 - nI k := by
            rw [show nI 99 = (99 : Int32) from rfl]; grind
          rw [this, nI_add, pk_sub (show k ≤ m + 99 by omega)]
        have e2 : ¬ (0 : Int32) ≤ nI m - 1 - nI k := by
          have : nI m - 1 - nI k = nI m - nI (k + 1) := by
            rw [← nI_1 k]
            simp only [Int32.sub_eq_add_neg, Int32.neg_add]
            ac_rfl
          rw [this]
          exact nle_of_lt (pk_sneg (show k + 1 < 2 ^ 30 by omega) (by omega))
        rw [if_neg e2, e1, codeAt_C (show m + 99 - k < 100 by omega), show m + 99 - k = (T - 1 - k) % 100 by omega]
        rfl
    · have l1 : ¬ nI k < nI T := nI_nlt (by omega) (by omega)
      rw [if_neg l1] at no
      exact no rfl (by rw [if_neg l1])

theorem held_sim {B : Nat} {σ μ : q_St} (H : RR B σ μ) (p : Int32) : SIM B (f_JT_held σ p) (f_Mo_held μ p) := by
  obtain ⟨⟨c0, ⟨-, -, -, a0, -⟩, b0⟩, ⟨c1, ⟨-, -, -, a1, -⟩, b1⟩, hp⟩ := H.1.2.2.2.2.1
  rcases pk_ix p (show 6 < 2 ^ 31 by decide) with h | h | ⟨k, hk, rfl⟩
  · refine SIM_look (r := -1) (x := 0) H ?_ ?_
    · unfold f_JT_held f_JT_held_47 f_JT_held_59 f_JT_held_70
      rw [if_neg (fun z => by rw [z] at h; exact absurd h (by decide)), if_neg (fun z => by rw [z] at h; exact absurd h (by decide)), if_neg (fun z => nle_of_lt h (by rw [Int32.le_iff_toInt_le] at z ⊢; rw [show (2 : Int32).toInt = 2 from rfl] at z; rw [show (0 : Int32).toInt = 0 from rfl]; omega)), if_pos m1lt]
    · unfold f_Mo_held f_Mo_held_14; rw [if_pos h]
  · have hp6 : (6 : Int) ≤ p.toInt := by
      rw [Int32.le_iff_toInt_le, nI_toInt (by decide)] at h; exact h
    have hn : ¬ p < 0 := by rw [Int32.lt_iff_toInt_lt, show (0 : Int32).toInt = 0 from rfl]; omega
    refine SIM_look (r := -1) (x := 0) H ?_ ?_
    · unfold f_JT_held f_JT_held_47 f_JT_held_59 f_JT_held_70
      have h4 : (p - 2) < 0 ∨ nI 4 ≤ p - 2 := by
        right
        rw [Int32.le_iff_toInt_le, nI_toInt (by decide), Int32.toInt_sub, show (2 : Int32).toInt = 2 from rfl]
        have := p.toInt_lt
        rw [Int.bmod_eq_of_le (by omega) (by omega)]
        omega
      rw [if_neg (fun z => by rw [z] at hp6; exact absurd hp6 (by decide)), if_neg (fun z => by rw [z] at hp6; exact absurd hp6 (by decide)), if_pos (by rw [Int32.le_iff_toInt_le, show (2 : Int32).toInt = 2 from rfl]; omega), (isJob_no (μ := μ) h4).2]
      simp only [q_bnd_v, if_pos m1lt]
    · unfold f_Mo_held f_Mo_held_14
      rw [if_neg hn, if_neg (by rw [Int32.le_iff_toInt_le, show (5 : Int32).toInt = 5 from rfl]; omega)]
  · by_cases k0 : k = 0
    · subst k0
      refine SIM_look (r := nI c0) (x := 0) H ?_ ?_
      · unfold f_JT_held; rw [if_pos (show nI 0 = 0 from rfl), a0]
      · unfold f_Mo_held f_Mo_held_71
        rw [if_neg (show ¬ nI 0 < 0 by decide), if_pos (show nI 0 ≤ 5 by decide), if_pos (show nI 0 = 0 from rfl), u48 (by decide), b0]
    by_cases k1 : k = 1
    · subst k1
      refine SIM_look (r := nI c1) (x := 0) H ?_ ?_
      · unfold f_JT_held; rw [if_neg (show ¬ nI 1 = 0 by decide), if_pos (show nI 1 = 1 from rfl), a1]
      · unfold f_Mo_held f_Mo_held_71
        rw [if_neg (show ¬ nI 1 < 0 by decide), if_pos (show nI 1 ≤ 5 by decide), if_neg (show ¬ nI 1 = 0 by decide), if_pos (show nI 1 = 1 from rfl), u48 (by decide), b1]
    obtain ⟨j, rfl⟩ : ∃ j, k = j + 2 := ⟨k - 2, by omega⟩
    have hj : j < 4 := by omega
    have e2 : nI (j + 2) - 2 = nI j := by rw [show (2 : Int32) = nI 2 from rfl, pk_sub (show 2 ≤ j + 2 by omega)]; congr 1
    have n0 : ¬ nI (j + 2) = 0 := nI_ne (by omega) (by decide) (show j + 2 ≠ 0 by omega)
    have n1 : ¬ nI (j + 2) = 1 := nI_ne (by omega) (by decide) (show j + 2 ≠ 1 by omega)
    have hq := q_inT hj (show 4 < 2 ^ 31 by decide)
    have hc : (nI j).toNatClampNeg = j := nI_clamp (by omega)
    obtain ⟨c, ⟨-, -, -, a2, -⟩, b2⟩ := hp j hj
    unfold f_JT_held f_JT_held_47 f_JT_held_59 f_JT_held_70 f_Mo_held f_Mo_held_71 f_Mo_held_70
    rw [if_neg n0, if_neg n1, if_pos (show (2 : Int32) ≤ nI (j + 2) by rw [show (2 : Int32) = nI 2 from rfl]; exact nI_le (by omega) (by omega)), if_neg (nI_pos (show j + 2 < 2 ^ 31 by omega)), if_pos (show nI (j + 2) ≤ (5 : Int32) by rw [show (5 : Int32) = nI 5 from rfl]; exact nI_le (by omega) (by decide)), if_neg n0, if_neg n1, e2]
    simp only [q_grd_t hq, hc, u48 (show 12 ≠ 48 by decide), u48 (show 14 ≠ 48 by decide), u48 (show 17 ≠ 48 by decide)]
    rcases isJob_M H.1.2.1 hj with ⟨hg, -, h2⟩ | ⟨ht, -, h2⟩
    · rw [h2, hg.1, if_pos rfl]
      simp only [q_bnd_v, if_pos m1lt]
      exact SIM_look (r := -1) (x := 0) H rfl rfl
    · rw [h2, ht.1, if_neg (show ¬ (1 : Int32) = 0 by decide)]
      simp only [q_bnd_v, if_neg (nI_pos (show j < 2 ^ 31 by omega)), q_grd_t hq, hc]
      obtain ⟨a, ha, h3, h4, h5, h6⟩ := ht.2.2
      rcases h6 with ⟨h6, h7⟩ | ⟨b, hb, h6, h7, h8, h9⟩
      · rw [h6, h7, if_pos m1lt, if_pos m1lt]
        exact SIM_look (r := -1) (x := 0) H rfl rfl
      · rw [h6, h7, if_neg (nI_pos (show b < 2 ^ 31 by omega)), if_neg (nI_pos (show b < 2 ^ 31 by omega)), a2, b2]
        exact SIM_look (r := nI c) (x := 0) H rfl rfl
