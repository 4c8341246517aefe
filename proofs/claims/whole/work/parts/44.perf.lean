/-! ONE OP IS DONE -/
theorem RS_33 {σ μ : q_St} (H : RS σ μ) {i : Nat} {v : Int32} (hv : v = 1 ∨ v = 2 ∨ v = 3) (hs : st3 σ i) : RS (q_up σ 33 i v) (q_up μ 2 i v) := by
  intro k hk
  obtain ⟨⟨⟨h1, h2, h3⟩, p1, p2, p3, p4, p5, p6, p7, p8, p9⟩, ho⟩ := H k hk
  unfold RS1 own1 sm3 st3
  simp only [q_up_f (show 28 ≠ 33 by decide), q_up_f (show 29 ≠ 33 by decide), q_up_f (show 32 ≠ 33 by decide), q_up_f (show 34 ≠ 33 by decide), q_up_f (show 35 ≠ 33 by decide), q_up_f (show 36 ≠ 33 by decide), q_up_f (show 37 ≠ 33 by decide), q_up_f (show 38 ≠ 33 by decide), q_up_f (show 39 ≠ 33 by decide), q_up_f (show 40 ≠ 33 by decide), q_up_f (show 41 ≠ 33 by decide), q_up_f (show 3 ≠ 2 by decide), q_up_f (show 4 ≠ 2 by decide), q_up_f (show 5 ≠ 2 by decide), q_up_f (show 6 ≠ 2 by decide), q_up_f (show 7 ≠ 2 by decide), q_up_f (show 8 ≠ 2 by decide), q_up_f (show 9 ≠ 2 by decide), q_up_f (show 10 ≠ 2 by decide), q_up_f (show 11 ≠ 2 by decide)]
  by_cases hki : k = i
  · subst hki
    simp only [q_up_self]
    refine ⟨⟨⟨trivial, h2, h3⟩, p1, p2, p3, p4, p5, p6, p7, p8, p9⟩, ?_⟩
    rcases ho with ⟨z, -⟩ | ⟨-, ho⟩
    · rcases hs with y | y | y <;> rw [y] at z <;> exact absurd z (by decide)
    · exact Or.inr ⟨hv, ho⟩
  · simp only [q_up_i hki]
    exact ⟨⟨⟨h1, h2, h3⟩, p1, p2, p3, p4, p5, p6, p7, p8, p9⟩, ho⟩
theorem RS_35 {σ μ : q_St} (H : RS σ μ) {i : Nat} {v : Int32} (hv : ∃ a, a ≤ 16 ∧ v = nI a) : RS (q_up σ 35 i v) (q_up μ 5 i v) := by
  intro k hk
  obtain ⟨⟨⟨h1, h2, h3⟩, p1, p2, p3, p4, p5, p6, p7, p8, p9⟩, ho⟩ := H k hk
  unfold RS1 own1 sm3 st3
  simp only [q_up_f (show 28 ≠ 35 by decide), q_up_f (show 29 ≠ 35 by decide), q_up_f (show 32 ≠ 35 by decide), q_up_f (show 33 ≠ 35 by decide), q_up_f (show 34 ≠ 35 by decide), q_up_f (show 36 ≠ 35 by decide), q_up_f (show 37 ≠ 35 by decide), q_up_f (show 38 ≠ 35 by decide), q_up_f (show 39 ≠ 35 by decide), q_up_f (show 40 ≠ 35 by decide), q_up_f (show 41 ≠ 35 by decide), q_up_f (show 2 ≠ 5 by decide), q_up_f (show 3 ≠ 5 by decide), q_up_f (show 4 ≠ 5 by decide), q_up_f (show 6 ≠ 5 by decide), q_up_f (show 7 ≠ 5 by decide), q_up_f (show 8 ≠ 5 by decide), q_up_f (show 9 ≠ 5 by decide), q_up_f (show 10 ≠ 5 by decide), q_up_f (show 11 ≠ 5 by decide)]
  by_cases hki : k = i
  · subst hki
    simp only [q_up_self]
    refine ⟨⟨⟨h1, h2, h3⟩, p1, trivial, p3, p4, p5, p6, p7, p8, hv⟩, ho⟩
  · simp only [q_up_i hki]
    exact ⟨⟨⟨h1, h2, h3⟩, p1, p2, p3, p4, p5, p6, p7, p8, p9⟩, ho⟩
theorem RS_36 {σ μ : q_St} (H : RS σ μ) {i : Nat} {v : Int32} : RS (q_up σ 36 i v) (q_up μ 6 i v) := by
  intro k hk
  obtain ⟨⟨⟨h1, h2, h3⟩, p1, p2, p3, p4, p5, p6, p7, p8, p9⟩, ho⟩ := H k hk
  unfold RS1 own1 sm3 st3
  simp only [q_up_f (show 28 ≠ 36 by decide), q_up_f (show 29 ≠ 36 by decide), q_up_f (show 32 ≠ 36 by decide), q_up_f (show 33 ≠ 36 by decide), q_up_f (show 34 ≠ 36 by decide), q_up_f (show 35 ≠ 36 by decide), q_up_f (show 37 ≠ 36 by decide), q_up_f (show 38 ≠ 36 by decide), q_up_f (show 39 ≠ 36 by decide), q_up_f (show 40 ≠ 36 by decide), q_up_f (show 41 ≠ 36 by decide), q_up_f (show 2 ≠ 6 by decide), q_up_f (show 3 ≠ 6 by decide), q_up_f (show 4 ≠ 6 by decide), q_up_f (show 5 ≠ 6 by decide), q_up_f (show 7 ≠ 6 by decide), q_up_f (show 8 ≠ 6 by decide), q_up_f (show 9 ≠ 6 by decide), q_up_f (show 10 ≠ 6 by decide), q_up_f (show 11 ≠ 6 by decide)]
  by_cases hki : k = i
  · subst hki
    simp only [q_up_self]
    refine ⟨⟨⟨h1, h2, h3⟩, p1, p2, trivial, p4, p5, p6, p7, p8, p9⟩, ho⟩
  · simp only [q_up_i hki]
    exact ⟨⟨⟨h1, h2, h3⟩, p1, p2, p3, p4, p5, p6, p7, p8, p9⟩, ho⟩
theorem RS_37 {σ μ : q_St} (H : RS σ μ) {i : Nat} {v : Int32} : RS (q_up σ 37 i v) (q_up μ 7 i v) := by
  intro k hk
  obtain ⟨⟨⟨h1, h2, h3⟩, p1, p2, p3, p4, p5, p6, p7, p8, p9⟩, ho⟩ := H k hk
  unfold RS1 own1 sm3 st3
  simp only [q_up_f (show 28 ≠ 37 by decide), q_up_f (show 29 ≠ 37 by decide), q_up_f (show 32 ≠ 37 by decide), q_up_f (show 33 ≠ 37 by decide), q_up_f (show 34 ≠ 37 by decide), q_up_f (show 35 ≠ 37 by decide), q_up_f (show 36 ≠ 37 by decide), q_up_f (show 38 ≠ 37 by decide), q_up_f (show 39 ≠ 37 by decide), q_up_f (show 40 ≠ 37 by decide), q_up_f (show 41 ≠ 37 by decide), q_up_f (show 2 ≠ 7 by decide), q_up_f (show 3 ≠ 7 by decide), q_up_f (show 4 ≠ 7 by decide), q_up_f (show 5 ≠ 7 by decide), q_up_f (show 6 ≠ 7 by decide), q_up_f (show 8 ≠ 7 by decide), q_up_f (show 9 ≠ 7 by decide), q_up_f (show 10 ≠ 7 by decide), q_up_f (show 11 ≠ 7 by decide)]
  by_cases hki : k = i
  · subst hki
    simp only [q_up_self]
    refine ⟨⟨⟨h1, trivial, h3⟩, p1, p2, p3, p4, p5, p6, p7, p8, p9⟩, ho⟩
  · simp only [q_up_i hki]
    exact ⟨⟨⟨h1, h2, h3⟩, p1, p2, p3, p4, p5, p6, p7, p8, p9⟩, ho⟩
theorem RS_38 {σ μ : q_St} (H : RS σ μ) {i : Nat} {v : Int32} (hv : lo10 v) : RS (q_up σ 38 i v) (q_up μ 8 i v) := by
  intro k hk
  obtain ⟨⟨⟨h1, h2, h3⟩, p1, p2, p3, p4, p5, p6, p7, p8, p9⟩, ho⟩ := H k hk
  unfold RS1 own1 sm3 st3
  simp only [q_up_f (show 28 ≠ 38 by decide), q_up_f (show 29 ≠ 38 by decide), q_up_f (show 32 ≠ 38 by decide), q_up_f (show 33 ≠ 38 by decide), q_up_f (show 34 ≠ 38 by decide), q_up_f (show 35 ≠ 38 by decide), q_up_f (show 36 ≠ 38 by decide), q_up_f (show 37 ≠ 38 by decide), q_up_f (show 39 ≠ 38 by decide), q_up_f (show 40 ≠ 38 by decide), q_up_f (show 41 ≠ 38 by decide), q_up_f (show 2 ≠ 8 by decide), q_up_f (show 3 ≠ 8 by decide), q_up_f (show 4 ≠ 8 by decide), q_up_f (show 5 ≠ 8 by decide), q_up_f (show 6 ≠ 8 by decide), q_up_f (show 7 ≠ 8 by decide), q_up_f (show 9 ≠ 8 by decide), q_up_f (show 10 ≠ 8 by decide), q_up_f (show 11 ≠ 8 by decide)]
  by_cases hki : k = i
  · subst hki
    simp only [q_up_self]
    refine ⟨⟨⟨h1, h2, trivial⟩, p1, p2, p3, p4, p5, p6, hv, p8, p9⟩, ho⟩
  · simp only [q_up_i hki]
    exact ⟨⟨⟨h1, h2, h3⟩, p1, p2, p3, p4, p5, p6, p7, p8, p9⟩, ho⟩
theorem RS_39 {σ μ : q_St} (H : RS σ μ) {i : Nat} {v : Int32} : RS (q_up σ 39 i v) (q_up μ 9 i v) := by
  intro k hk
  obtain ⟨⟨⟨h1, h2, h3⟩, p1, p2, p3, p4, p5, p6, p7, p8, p9⟩, ho⟩ := H k hk
  unfold RS1 own1 sm3 st3
  simp only [q_up_f (show 28 ≠ 39 by decide), q_up_f (show 29 ≠ 39 by decide), q_up_f (show 32 ≠ 39 by decide), q_up_f (show 33 ≠ 39 by decide), q_up_f (show 34 ≠ 39 by decide), q_up_f (show 35 ≠ 39 by decide), q_up_f (show 36 ≠ 39 by decide), q_up_f (show 37 ≠ 39 by decide), q_up_f (show 38 ≠ 39 by decide), q_up_f (show 40 ≠ 39 by decide), q_up_f (show 41 ≠ 39 by decide), q_up_f (show 2 ≠ 9 by decide), q_up_f (show 3 ≠ 9 by decide), q_up_f (show 4 ≠ 9 by decide), q_up_f (show 5 ≠ 9 by decide), q_up_f (show 6 ≠ 9 by decide), q_up_f (show 7 ≠ 9 by decide), q_up_f (show 8 ≠ 9 by decide), q_up_f (show 10 ≠ 9 by decide), q_up_f (show 11 ≠ 9 by decide)]
  by_cases hki : k = i
  · subst hki
    simp only [q_up_self]
    refine ⟨⟨⟨h1, h2, h3⟩, p1, p2, p3, trivial, p5, p6, p7, p8, p9⟩, ho⟩
  · simp only [q_up_i hki]
    exact ⟨⟨⟨h1, h2, h3⟩, p1, p2, p3, p4, p5, p6, p7, p8, p9⟩, ho⟩
theorem RS_40 {σ μ : q_St} (H : RS σ μ) {i : Nat} {v : Int32} : RS (q_up σ 40 i v) (q_up μ 10 i v) := by
  intro k hk
  obtain ⟨⟨⟨h1, h2, h3⟩, p1, p2, p3, p4, p5, p6, p7, p8, p9⟩, ho⟩ := H k hk
  unfold RS1 own1 sm3 st3
  simp only [q_up_f (show 28 ≠ 40 by decide), q_up_f (show 29 ≠ 40 by decide), q_up_f (show 32 ≠ 40 by decide), q_up_f (show 33 ≠ 40 by decide), q_up_f (show 34 ≠ 40 by decide), q_up_f (show 35 ≠ 40 by decide), q_up_f (show 36 ≠ 40 by decide), q_up_f (show 37 ≠ 40 by decide), q_up_f (show 38 ≠ 40 by decide), q_up_f (show 39 ≠ 40 by decide), q_up_f (show 41 ≠ 40 by decide), q_up_f (show 2 ≠ 10 by decide), q_up_f (show 3 ≠ 10 by decide), q_up_f (show 4 ≠ 10 by decide), q_up_f (show 5 ≠ 10 by decide), q_up_f (show 6 ≠ 10 by decide), q_up_f (show 7 ≠ 10 by decide), q_up_f (show 8 ≠ 10 by decide), q_up_f (show 9 ≠ 10 by decide), q_up_f (show 11 ≠ 10 by decide)]
  by_cases hki : k = i
  · subst hki
    simp only [q_up_self]
    refine ⟨⟨⟨h1, h2, h3⟩, p1, p2, p3, p4, trivial, p6, p7, p8, p9⟩, ho⟩
  · simp only [q_up_i hki]
    exact ⟨⟨⟨h1, h2, h3⟩, p1, p2, p3, p4, p5, p6, p7, p8, p9⟩, ho⟩
theorem R0_slot {B : Nat} {σ σ' μ μ' : q_St} (H : R0 B σ μ) (E1 : eqx [33, 35, 36, 37, 38, 39, 40, 41] σ σ') (E2 : eqx [2, 5, 6, 7, 8, 9, 10, 11, 47] μ μ') (HS : RS σ' μ') : R0 B σ' μ' :=
  ⟨HS, RJ_c E1 E2 (by decide) (by decide) H.2.1, RT_c E1 E2 (by decide) (by decide) H.2.2.1, RP_c E1 E2 (by decide) (by decide) H.2.2.2.1, RQ_c E1 E2 (by decide) (by decide) H.2.2.2.2.1, RD_c E1 E2 (by decide) (by decide) H.2.2.2.2.2⟩
/-- behind an op of the slot i of the job j -/
def PF (B : Nat) (σ μ : q_St) (j : Nat) (a : Option (Int32 × q_St)) (b : Option q_St) : Prop := ∃ fl σ' μ', a = some (fl, σ') ∧ b = some μ' ∧ (fl = 0 ∨ fl = 1) ∧ μ' 47 0 = fl ∧ R0 (B + 2) σ' μ' ∧ σ' 28 = σ 28 ∧ σ' 29 = σ 29 ∧ σ' 31 = σ 31 ∧ σ' 32 = σ 32 ∧ (∀ x, ¬ σ 32 x = nI j → σ' 33 x = σ 33 x) ∧ μ' 12 = μ 12 ∧ eqx [2, 5, 6, 7, 8, 9, 10, 11, 47, 17, 18, 20, 45, 21, 46] μ μ'
theorem RS_line {σ μ : q_St} (H : RS σ μ) {i b : Nat} (hi : i < 8) (hb : b < 16) (h : σ 35 i = nI b) : RS (q_up σ 35 i (σ 35 i + 1)) (q_up μ 5 i (μ 5 i + 1)) := by
  have e : μ 5 i = σ 35 i := (H i hi).1.2.2.1.symm
  rw [e]
  exact RS_35 H ⟨b + 1, by omega, by rw [h, nI_1]⟩
/-- a number is taken: register, line -/
theorem take_sim {B : Nat} {σ μ : q_St} (H : R0 B σ μ) {i b : Nat} (hi : i < 8) (hb : b < 16) (h : σ 35 i = nI b) (v : Int32) : ∃ σ', f_JobProcess_take σ i v = some σ' ∧ R0 B σ' (q_up (q_up μ 6 i v) 5 i (μ 5 i + 1)) ∧ eqx [35, 36] σ σ' := by
  have u1 : (q_up σ 36 i v) 35 i = σ 35 i := q_up_f (by decide)
  have u2 : (q_up μ 6 i v) 5 i = μ 5 i := q_up_f (by decide)
  refine ⟨_, rfl, ?_, eqx_tr (eqx_up (by decide)) (eqx_up (by decide))⟩
  have h2 := RS_line (RS_36 (i := i) (v := v) H.1) hi hb (by rw [u1]; exact h)
  rw [u2] at h2
  exact R0_slot H (eqx_tr (eqx_up (by decide)) (eqx_up (by decide))) (eqx_tr (eqx_up (by decide)) (eqx_up (by decide))) h2
theorem fail_sim {B : Nat} {σ μ : q_St} (H : R0 B σ μ) {i j b : Nat} (hi : i < 8) (hb : b < 16) (h : σ 35 i = nI b) : PF B σ μ j (q_bnd (f_JobProcess_fail σ i) (fun r => some (1, r))) (f_Mo_fail μ (nI i)) := by
  have hq := q_inT hi (show 8 < 2 ^ 31 by decide)
  have hc : (nI i).toNatClampNeg = i := nI_clamp (by omega)
  obtain ⟨σ', e1, H1, E1⟩ := take_sim (R0_M H (μ' := q_up μ 47 0 1) (eqx_up (by decide))) hi hb h (-2)
  have e1' : f_JobProcess_fail σ i = some σ' := e1
  unfold f_Mo_fail
  simp only [q_grd_t hq, hc]
  have u2 : (q_up (q_up μ 47 0 1) 6 i (-2)) 5 i = (q_up μ 47 0 1) 5 i := q_up_f (by decide)
  rw [q_bnd_s e1', u2]
  refine ⟨1, σ', _, rfl, rfl, Or.inr rfl, by rw [q_up_f (by decide), q_up_f (by decide), q_up_self], R0_mono (by omega) H1, E1 28 (by decide), E1 29 (by decide), E1 31 (by decide), E1 32 (by decide), fun x _ => by rw [E1 33 (by decide)], ?_, ?_⟩
  · rw [q_up_rowf (by decide), q_up_rowf (by decide), q_up_rowf (by decide)]
  · exact eqx_tr (eqx_tr (eqx_up (by decide)) (eqx_up (by decide))) (eqx_up (by decide))
/-- the reference's queue moves up -/
theorem shq {i c : Nat} (hi : i < 8) (hc40 : c ≤ 39) : ∀ (k x m : Nat) (μ : q_St), x + k = c → k < m → μ 45 0 = nI c → ∃ μ', f_Mo_read_220 m μ (nI i) (nI x) = some (q_up μ' 5 i (μ' 5 i + 1)) ∧ eqx [20] μ μ' ∧ (∀ z, x ≤ z → z < c → μ' 20 z = μ 20 (z + 1)) ∧ ∀ z, z < x → μ' 20 z = μ 20 z := by
  intro k
  have hq := q_inT hi (show 8 < 2 ^ 31 by decide)
  have hcl : (nI i).toNatClampNeg = i := nI_clamp (by omega)
  induction k with
  | zero =>
    intro x m μ hx hm h45
    obtain ⟨m, rfl⟩ : ∃ z, m = z + 1 := ⟨m - 1, by omega⟩
    refine ⟨μ, ?_, eqx_rf _ _, fun z h1 h2 => by omega, fun _ _ => rfl⟩
    rw [f_Mo_read_220, h45, if_pos (nI_le (show c ≤ x by omega) (by omega))]
    unfold f_Mo_read_258
    simp only [q_grd_t hq, hcl]
  | succ k ih =>
    intro x m μ hx hm h45
    obtain ⟨m, rfl⟩ : ∃ z, m = z + 1 := ⟨m - 1, by omega⟩
    obtain ⟨μ', e, E, a1, a2⟩ := ih (x + 1) m (q_up μ 20 x (μ 20 (x + 1))) (by omega) (by omega) (by rw [q_up_f (by decide)]; exact h45)
    refine ⟨μ', ?_, eqx_tr (eqx_up (by decide)) E, fun z h1 h2 => ?_, fun z hz => ?_⟩
    · rw [f_Mo_read_220, h45, if_neg (nI_ge (show x < c by omega) (by omega)), nI_1, q_grd_t (q_inT (show x + 1 < 40 by omega) (by decide)), q_grd_t (q_inT (show x < 40 by omega) (by decide)), nI_clamp (show x < 2 ^ 31 by omega), nI_clamp (show x + 1 < 2 ^ 31 by omega)]
      exact e
    · by_cases hzx : z = x
      · subst hzx; rw [a2 z (by omega), q_up_self]
      · rw [a1 z (by omega) h2, q_up_i (by omega)]
    · rw [a2 z (by omega), q_up_i (by omega)]
theorem shp {i j c : Nat} (hi : i < 8) (hj : j < 4) (hc4 : c ≤ 3) : ∀ (k x m : Nat) (μ : q_St), x + k = c → k < m → μ 17 j = nI c → ∃ μ', f_Mo_read_71 m μ (nI i) (nI j) (nI x) = some (q_up μ' 5 i (μ' 5 i + 1)) ∧ eqx [18] μ μ' ∧ (∀ z, x ≤ z → z < c → μ' 18 (4 * j + z) = μ 18 (4 * j + z + 1)) ∧ ∀ z, z < 4 * j + x ∨ 4 * j + c ≤ z → μ' 18 z = μ 18 z := by
  intro k
  have hq := q_inT hi (show 8 < 2 ^ 31 by decide)
  have hcl : (nI i).toNatClampNeg = i := nI_clamp (by omega)
  have hjq := q_inT hj (show 4 < 2 ^ 31 by decide)
  have hjc : (nI j).toNatClampNeg = j := nI_clamp (by omega)
  induction k with
  | zero =>
    intro x m μ hx hm h17
    obtain ⟨m, rfl⟩ : ∃ z, m = z + 1 := ⟨m - 1, by omega⟩
    refine ⟨μ, ?_, eqx_rf _ _, fun z h1 h2 => by omega, fun _ _ => rfl⟩
    rw [f_Mo_read_71, q_grd_t hjq, hjc, h17, if_pos (nI_le (show c ≤ x by omega) (by omega))]
    unfold f_Mo_read_258
    simp only [q_grd_t hq, hcl]
  | succ k ih =>
    intro x m μ hx hm h17
    obtain ⟨m, rfl⟩ : ∃ z, m = z + 1 := ⟨m - 1, by omega⟩
    obtain ⟨μ', e, E, a1, a2⟩ := ih (x + 1) m (q_up μ 18 (4 * j + x) (μ 18 (4 * j + x + 1))) (by omega) (by omega) (by rw [q_up_f (by decide)]; exact h17)
    refine ⟨μ', ?_, eqx_tr (eqx_up (by decide)) E, fun z h1 h2 => ?_, fun z hz => ?_⟩
    · rw [f_Mo_read_71, q_grd_t hjq, hjc, h17, if_neg (nI_ge (show x < c by omega) (by omega)), show (4 : Int32) = nI 4 from rfl, pk_mul, nI_add, nI_1, q_grd_t (q_inT (show 4 * j + x + 1 < 16 by omega) (by decide)), q_grd_t (q_inT (show 4 * j + x < 16 by omega) (by decide)), nI_clamp (show 4 * j + x < 2 ^ 31 by omega), nI_clamp (show 4 * j + x + 1 < 2 ^ 31 by omega), nI_1]
      exact e
    · by_cases hzx : z = x
      · subst hzx; rw [a2 _ (by omega), q_up_self]
      · rw [a1 z (by omega) h2, q_up_i (by omega)]
    · rw [a2 z (by omega), q_up_i (by omega)]
