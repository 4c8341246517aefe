/-! LAUNCH -/
theorem php : ∀ (n : Nat) (f : Nat → Nat), (∀ i, i < n + 1 → f i < n) → (∀ i j, i < n + 1 → j < n + 1 → f i = f j → i = j) → False := by
  intro n
  induction n with
  | zero => intro f h _; exact absurd (h 0 (by omega)) (by omega)
  | succ n ih =>
    intro f h hi
    refine ih (fun i => if f i = n then f (n + 1) else f i) (fun i hin => ?_) (fun i j hin hjn he => ?_)
    · show (if f i = n then f (n + 1) else f i) < n
      by_cases e : f i = n
      · rw [if_pos e]
        have h1 := h (n + 1) (by omega)
        have h2 : f (n + 1) ≠ n := fun z => by have := hi i (n + 1) (by omega) (by omega) (e.trans z.symm); omega
        omega
      · rw [if_neg e]; have := h i (by omega); omega
    · have he : (if f i = n then f (n + 1) else f i) = if f j = n then f (n + 1) else f j := he
      by_cases e1 : f i = n
      · by_cases e2 : f j = n
        · exact hi i j (by omega) (by omega) (e1.trans e2.symm)
        · rw [if_pos e1, if_neg e2] at he
          have := hi (n + 1) j (by omega) (by omega) he; omega
      · by_cases e2 : f j = n
        · rw [if_neg e1, if_pos e2] at he
          have := hi i (n + 1) (by omega) (by omega) he; omega
        · rw [if_neg e1, if_neg e2] at he
          exact hi i j (by omega) (by omega) he
/-- a slot is free -/
def free (σ : q_St) (i : Nat) : Prop := σ 32 i < 0
theorem free_M {σ μ : q_St} (HS : RS σ μ) {i : Nat} (hi : i < 8) : free σ i ↔ μ 2 i = 0 := by
  have e : μ 2 i = σ 33 i := (HS i hi).1.1.1.symm
  unfold free
  rw [e]
  rcases (HS i hi).2 with ⟨h1, h2⟩ | ⟨h1, j, hj, h2, -⟩
  · rw [h1, h2]; exact ⟨fun _ => rfl, fun _ => m1lt⟩
  · rw [h2]
    refine ⟨fun z => absurd z (nI_pos (by omega)), fun z => ?_⟩
    rcases h1 with h | h | h <;> rw [h] at z <;> exact absurd z (by decide)
theorem free_eq {σ μ : q_St} (HS : RS σ μ) {i : Nat} (hi : i < 8) (h : free σ i) : σ 33 i = 0 ∧ σ 32 i = -1 := by
  rcases (HS i hi).2 with h1 | ⟨-, j, hj, h2, -⟩
  · exact h1
  · unfold free at h; rw [h2] at h; exact absurd h (nI_pos (by omega))
/-- where a job is gone, two slots are free: all but one can't be taken -/
theorem free_one {σ μ : q_St} (HS : RS σ μ) (HJ : RJ σ μ) {j0 : Nat} (hj0 : j0 < 4) (hg : gone σ μ j0) (x : Nat) : ∃ i, i < 8 ∧ i ≠ x ∧ free σ i := by
  refine Classical.byContradiction fun hno => ?_
  have hno : ∀ i, i < 8 → i ≠ x → ¬ free σ i := fun i h1 h2 h3 => hno ⟨i, h1, h2, h3⟩
  -- each taken slot has a place with a job that is there
  have own : ∀ i, i < 8 → i ≠ x → ∃ c, c < 6 ∧ ∃ j r, j < 4 ∧ j ≠ j0 ∧ r < 2 ∧ c = (if j0 < j then 2 * j - 2 + r else 2 * j + r) ∧ ((r = 0 ∧ σ 28 j = nI i) ∨ (r = 1 ∧ σ 29 j = nI i)) := by
    intro i h1 h2
    rcases (HS i h1).2 with ⟨h3, h4⟩ | ⟨h3, j, hj, h4, h5, h6⟩
    · exact absurd (show free σ i by unfold free; rw [h4]; exact m1lt) (hno i h1 h2)
    · have hjj : j ≠ j0 := fun z => by
        subst z
        rcases h6 with h6 | h6
        · exact nIm1 i (by omega) (h6.symm.trans hg.2.1)
        · exact nIm1 i (by omega) (h6.symm.trans hg.2.2.1)
      rcases h6 with h6 | h6
      · refine ⟨if j0 < j then 2 * j - 2 + 0 else 2 * j + 0, ?_, j, 0, hj, hjj, by omega, rfl, Or.inl ⟨rfl, h6⟩⟩
        by_cases z : j0 < j
        · rw [if_pos z]; omega
        · rw [if_neg z]; omega
      · refine ⟨if j0 < j then 2 * j - 2 + 1 else 2 * j + 1, ?_, j, 1, hj, hjj, by omega, rfl, Or.inr ⟨rfl, h6⟩⟩
        by_cases z : j0 < j
        · rw [if_pos z]; omega
        · rw [if_neg z]; omega
  have sel : ∃ f : Nat → Nat, ∀ i, i < 8 → i ≠ x → f i < 6 ∧ ∃ j r, j < 4 ∧ j ≠ j0 ∧ r < 2 ∧ f i = (if j0 < j then 2 * j - 2 + r else 2 * j + r) ∧ ((r = 0 ∧ σ 28 j = nI i) ∨ (r = 1 ∧ σ 29 j = nI i)) := by
    refine ⟨fun i => if h : i < 8 ∧ i ≠ x then (own i h.1 h.2).choose else 0, fun i h1 h2 => ?_⟩
    have := (own i h1 h2).choose_spec
    simp only [dif_pos (show i < 8 ∧ i ≠ x from ⟨h1, h2⟩)]
    exact this
  obtain ⟨f, hf⟩ := sel
  refine php 6 (fun t => f (if t < x then t else t + 1)) (fun t ht => ?_) (fun t u ht hu he => ?_)
  · have : (if t < x then t else t + 1) < 8 ∧ (if t < x then t else t + 1) ≠ x := by
      by_cases z : t < x
      · rw [if_pos z]; omega
      · rw [if_neg z]; omega
    exact (hf _ this.1 this.2).1
  · have h1 : (if t < x then t else t + 1) < 8 ∧ (if t < x then t else t + 1) ≠ x := by
      by_cases z : t < x
      · rw [if_pos z]; omega
      · rw [if_neg z]; omega
    have h2 : (if u < x then u else u + 1) < 8 ∧ (if u < x then u else u + 1) ≠ x := by
      by_cases z : u < x
      · rw [if_pos z]; omega
      · rw [if_neg z]; omega
    obtain ⟨-, j, r, a1, a2, a3, a4, a5⟩ := hf _ h1.1 h1.2
    obtain ⟨-, j', r', b1, b2, b3, b4, b5⟩ := hf _ h2.1 h2.2
    have he : f (if t < x then t else t + 1) = f (if u < x then u else u + 1) := he
    rw [a4, b4] at he
    have hjr : j = j' ∧ r = r' := by
      by_cases z1 : j0 < j <;> by_cases z2 : j0 < j' <;> simp only [z1, z2, if_true, if_false] at he <;> omega
    obtain ⟨rfl, rfl⟩ := hjr
    have hii : (if t < x then t else t + 1) = if u < x then u else u + 1 := by
      rcases a5 with ⟨c1, c2⟩ | ⟨c1, c2⟩
      · rcases b5 with ⟨d1, d2⟩ | ⟨d1, d2⟩
        · exact (nI_eq (by omega) (by omega)).mp (c2.symm.trans d2)
        · omega
      · rcases b5 with ⟨d1, d2⟩ | ⟨d1, d2⟩
        · omega
        · exact (nI_eq (by omega) (by omega)).mp (c2.symm.trans d2)
    by_cases z1 : t < x <;> by_cases z2 : u < x <;> simp only [z1, z2, if_true, if_false] at hii <;> omega
/-- the first i with P -/
theorem first_of {P : Nat → Prop} {n : Nat} (h : ∃ i, i < n ∧ P i) : ∃ a, a < n ∧ P a ∧ ∀ i, i < a → ¬ P i := by
  obtain ⟨i, hi, hp⟩ := h
  induction i using Nat.strongRecOn with
  | ind i ih =>
    by_cases z : ∃ k, k < i ∧ P k
    · obtain ⟨k, hk, hpk⟩ := z
      exact ih k hk (by omega) hpk
    · exact ⟨i, hi, hp, fun k hk hpk => z ⟨k, hk, hpk⟩⟩
theorem two_free {σ μ : q_St} (HS : RS σ μ) (HJ : RJ σ μ) {j0 : Nat} (hj0 : j0 < 4) (hg : gone σ μ j0) : ∃ a b, a < b ∧ b < 8 ∧ free σ a ∧ free σ b ∧ (∀ i, i < a → ¬ free σ i) ∧ ∀ i, a < i → i < b → ¬ free σ i := by
  obtain ⟨i, h1, -, h2⟩ := free_one HS HJ hj0 hg 8
  obtain ⟨a, ha, hfa, hba⟩ := first_of (P := fun i => free σ i) ⟨i, h1, h2⟩
  obtain ⟨i', h3, h4, h5⟩ := free_one HS HJ hj0 hg a
  obtain ⟨b, hb, ⟨hab, hfb⟩, hbb⟩ := first_of (P := fun i => a < i ∧ free σ i) ⟨i', h3, by
    by_cases z : i' < a
    · exact absurd h5 (hba i' z)
    · omega, h5⟩
  exact ⟨a, b, hab, hb, hfa, hfb, hba, fun i z1 z2 z3 => hbb i z2 ⟨z1, z3⟩⟩
/-- the class's searches -/
theorem fp0 {σ : q_St} {a : Nat} (ha : a < 8) (hf : free σ a) : ∀ (d k n : Nat), k + d = a → d < n → (∀ i, k ≤ i → i < a → ¬ free σ i) → f_JT_freeProcess_4 n σ 0 (nI k) = some (nI a, σ) := by
  intro d
  induction d with
  | zero =>
    intro k n hk hn _
    obtain ⟨n, rfl⟩ : ∃ z, n = z + 1 := ⟨n - 1, by omega⟩
    obtain rfl : k = a := by omega
    unfold free at hf
    rw [f_JT_freeProcess_4, if_neg (show ¬ (8 : Int32) ≤ nI k by rw [show (8 : Int32) = nI 8 from rfl]; exact nI_ge ha (by decide)), q_grd_t (q_inT ha (by decide)), nI_clamp (by omega), if_pos hf, if_pos rfl, q_grd_t (q_inT ha (by decide))]
  | succ d ih =>
    intro k n hk hn hno
    obtain ⟨n, rfl⟩ : ∃ z, n = z + 1 := ⟨n - 1, by omega⟩
    have hk8 : k < 8 := by omega
    have hn1 : ¬ σ 32 k < 0 := hno k (Nat.le_refl _) (by omega)
    rw [f_JT_freeProcess_4, if_neg (show ¬ (8 : Int32) ≤ nI k by rw [show (8 : Int32) = nI 8 from rfl]; exact nI_ge hk8 (by decide)), q_grd_t (q_inT hk8 (by decide)), nI_clamp (by omega), if_neg hn1]
    unfold f_JT_freeProcess_36
    rw [nI_1]
    exact ih (k + 1) n (by omega) (by omega) (fun i h1 h2 => hno i (by omega) h2)
theorem fp1 {σ : q_St} {a b : Nat} (hab : a < b) (hb : b < 8) (hfa : free σ a) (hfb : free σ b) (hm : ∀ i, a < i → i < b → ¬ free σ i) : ∀ (d k n : Nat), k + d = a → d + 8 < n → (∀ i, k ≤ i → i < a → ¬ free σ i) → f_JT_freeProcess_4 n σ 1 (nI k) = some (nI b, σ) := by
  intro d
  induction d with
  | zero =>
    intro k n hk hn _
    obtain ⟨n, rfl⟩ : ∃ z, n = z + 1 := ⟨n - 1, by omega⟩
    obtain rfl : k = a := by omega
    unfold free at hfa
    rw [f_JT_freeProcess_4, if_neg (show ¬ (8 : Int32) ≤ nI k by rw [show (8 : Int32) = nI 8 from rfl]; exact nI_ge (by omega) (by decide)), q_grd_t (q_inT (show k < 8 by omega) (by decide)), nI_clamp (by omega), if_pos hfa, if_neg (show ¬ (1 : Int32) = 0 by decide)]
    unfold f_JT_freeProcess_36
    rw [nI_1, show (1 : Int32) + (-1) = 0 from by decide]
    exact fp0 hb hfb (b - (k + 1)) (k + 1) n (by omega) (by omega) (fun i h1 h2 => hm i (by omega) h2)
  | succ d ih =>
    intro k n hk hn hno
    obtain ⟨n, rfl⟩ : ∃ z, n = z + 1 := ⟨n - 1, by omega⟩
    have hk8 : k < 8 := by omega
    have hn1 : ¬ σ 32 k < 0 := hno k (Nat.le_refl _) (by omega)
    rw [f_JT_freeProcess_4, if_neg (show ¬ (8 : Int32) ≤ nI k by rw [show (8 : Int32) = nI 8 from rfl]; exact nI_ge hk8 (by decide)), q_grd_t (q_inT hk8 (by decide)), nI_clamp (by omega), if_neg hn1]
    unfold f_JT_freeProcess_36
    rw [nI_1]
    exact ih (k + 1) n (by omega) (by omega) (fun i h1 h2 => hno i (by omega) h2)
theorem fp_some (σ : q_St) : ∀ (d k n x : Nat), k + d = 8 → d < n → ∃ v, f_JT_freeProcess_4 n σ (nI x) (nI k) = some (v, σ) := by
  intro d
  induction d with
  | zero =>
    intro k n x hk hn
    obtain ⟨n, rfl⟩ : ∃ z, n = z + 1 := ⟨n - 1, by omega⟩
    obtain rfl : k = 8 := by omega
    exact ⟨-1, by rw [f_JT_freeProcess_4, if_pos (by decide)]⟩
  | succ d ih =>
    intro k n x hk hn
    obtain ⟨n, rfl⟩ : ∃ z, n = z + 1 := ⟨n - 1, by omega⟩
    have hk8 : k < 8 := by omega
    rw [f_JT_freeProcess_4, if_neg (show ¬ (8 : Int32) ≤ nI k by rw [show (8 : Int32) = nI 8 from rfl]; exact nI_ge hk8 (by decide)), q_grd_t (q_inT hk8 (by decide)), nI_clamp (by omega)]
    unfold f_JT_freeProcess_36
    rw [nI_1]
    by_cases h : σ 32 k < 0
    · rw [if_pos h]
      by_cases hx : nI x = 0
      · rw [if_pos hx, q_grd_t (q_inT hk8 (by decide))]; exact ⟨_, rfl⟩
      · rw [if_neg hx]
        have hx0 : x ≠ 0 := fun z => hx (by rw [z]; rfl)
        rw [show x = (x - 1) + 1 by omega, pk_m1]
        exact ih (k + 1) n (x - 1) (by omega) (by omega)
    · rw [if_neg h]
      exact ih (k + 1) n x (by omega) (by omega)
theorem un_some {σ μ : q_St} (HJ : RJ σ μ) {j0 : Nat} (hj0 : j0 ≤ 4) (hg : j0 = 4 ∨ gone σ μ j0) : ∀ (d k n : Nat), k + d = j0 → d < n → (∀ j, k ≤ j → j < j0 → there σ μ j) → f_JT_unusedJob_2 n σ (nI k) = some (if j0 = 4 then -1 else nI j0, σ) := by
  intro d
  induction d with
  | zero =>
    intro k n hk hn _
    obtain ⟨n, rfl⟩ : ∃ z, n = z + 1 := ⟨n - 1, by omega⟩
    obtain rfl : k = j0 := by omega
    rw [f_JT_unusedJob_2]
    by_cases h4 : k = 4
    · subst h4; rw [if_pos (by decide), if_pos rfl]
    · have hk4 : k < 4 := by omega
      rcases hg with hg | hg
      · exact absurd hg h4
      · rw [if_neg (show ¬ (4 : Int32) ≤ nI k by rw [show (4 : Int32) = nI 4 from rfl]; exact nI_ge hk4 (by decide)), q_grd_t (q_inT hk4 (by decide)), nI_clamp (by omega), if_neg h4]
        unfold f_Job_exists f_Job_exists_12
        rw [hg.2.1, if_pos m1lt, q_grd_t (by decide), q_bnd_v, if_pos rfl, q_grd_t (q_inT hk4 (by decide))]
  | succ d ih =>
    intro k n hk hn hth
    obtain ⟨n, rfl⟩ : ∃ z, n = z + 1 := ⟨n - 1, by omega⟩
    have hk4 : k < 4 := by omega
    obtain ⟨a, ha, h28, -⟩ := (hth k (Nat.le_refl _) (by omega)).2.2
    rw [f_JT_unusedJob_2, if_neg (show ¬ (4 : Int32) ≤ nI k by rw [show (4 : Int32) = nI 4 from rfl]; exact nI_ge hk4 (by decide)), q_grd_t (q_inT hk4 (by decide)), nI_clamp (by omega)]
    unfold f_Job_exists f_Job_exists_12
    rw [h28, if_neg (nI_pos (show a < 2 ^ 31 by omega)), q_grd_t (by decide), q_bnd_v, if_neg (show ¬ (1 : Int32) = 0 by decide), nI_1]
    exact ih (k + 1) n (by omega) (by omega) (fun j h1 h2 => hth j (by omega) h2)
/-- the reference's searches -/
def cF (μ : q_St) : Nat → Nat
  | 0 => 0
  | k + 1 => cF μ k + (if μ 2 (7 - k) = 0 then 1 else 0)
theorem lc (x1 x2 x3 : Int32) (μ : q_St) : ∀ (k n c : Nat), k ≤ 8 → k < n → f_Mo_launch_11 n μ x1 x2 x3 (nI c) (nI (8 - k)) = f_Mo_launch_48 200 μ x1 x2 x3 (nI (c + cF μ k)) 0 := by
  intro k
  induction k with
  | zero =>
    intro n c _ hn
    obtain ⟨n, rfl⟩ : ∃ z, n = z + 1 := ⟨n - 1, by omega⟩
    rw [f_Mo_launch_11, if_pos (by decide)]; rfl
  | succ k ih =>
    intro n c hk hn
    obtain ⟨n, rfl⟩ : ∃ z, n = z + 1 := ⟨n - 1, by omega⟩
    have h8 : 8 - (k + 1) < 8 := by omega
    rw [f_Mo_launch_11, if_neg (show ¬ (8 : Int32) ≤ nI (8 - (k + 1)) by rw [show (8 : Int32) = nI 8 from rfl]; exact nI_ge h8 (by decide)), q_grd_t (q_inT h8 (by decide)), nI_clamp (by omega)]
    unfold f_Mo_launch_37
    rw [nI_1, nI_1, show 8 - (k + 1) + 1 = 8 - k by omega, show 8 - (k + 1) = 7 - k by omega, cF]
    by_cases h : μ 2 (7 - k) = 0
    · rw [if_pos h, if_pos h, ih n (c + 1) (by omega) (by omega), show c + (cF μ k + 1) = c + 1 + cF μ k by omega]
    · rw [if_neg h, if_neg h, ih n c (by omega) (by omega), Nat.add_zero]
theorem cF_two {μ : q_St} {a b : Nat} (hab : a < b) (hb : b < 8) (h1 : μ 2 a = 0) (h2 : μ 2 b = 0) : 2 ≤ cF μ 8 := by
  have e : cF μ 8 = (if μ 2 7 = 0 then 1 else 0) + (if μ 2 6 = 0 then 1 else 0) + (if μ 2 5 = 0 then 1 else 0) + (if μ 2 4 = 0 then 1 else 0) + (if μ 2 3 = 0 then 1 else 0) + (if μ 2 2 = 0 then 1 else 0) + (if μ 2 1 = 0 then 1 else 0) + (if μ 2 0 = 0 then 1 else 0) := by
    have e0 : cF μ 8 = 0 + (if μ 2 7 = 0 then 1 else 0) + (if μ 2 6 = 0 then 1 else 0) + (if μ 2 5 = 0 then 1 else 0) + (if μ 2 4 = 0 then 1 else 0) + (if μ 2 3 = 0 then 1 else 0) + (if μ 2 2 = 0 then 1 else 0) + (if μ 2 1 = 0 then 1 else 0) + (if μ 2 0 = 0 then 1 else 0) := rfl
    omega
  rw [e]
  have ha : a = 0 ∨ a = 1 ∨ a = 2 ∨ a = 3 ∨ a = 4 ∨ a = 5 ∨ a = 6 := by omega
  have hb : b = 1 ∨ b = 2 ∨ b = 3 ∨ b = 4 ∨ b = 5 ∨ b = 6 ∨ b = 7 := by omega
  rcases ha with rfl | rfl | rfl | rfl | rfl | rfl | rfl <;> rcases hb with rfl | rfl | rfl | rfl | rfl | rfl | rfl <;> first | omega | (rw [if_pos h1, if_pos h2]; omega)
theorem cF_le (μ : q_St) : ∀ k, cF μ k ≤ k := by
  intro k
  induction k with
  | zero => exact Nat.le_refl _
  | succ k ih =>
    rw [cF]
    by_cases h : μ 2 (7 - k) = 0
    · rw [if_pos h]; omega
    · rw [if_neg h]; omega
theorem lj {x1 x2 x3 x4 : Int32} {σ μ : q_St} {j0 : Nat} (hj0 : j0 ≤ 4) (hg : j0 = 4 ∨ μ 12 j0 = 0) : ∀ (d k n : Nat), k + d = j0 → d < n → (∀ j, k ≤ j → j < j0 → μ 12 j = 1) → f_Mo_launch_48 n μ x1 x2 x3 x4 (nI k) = f_Mo_launch_70 μ x1 x2 x3 x4 (nI j0) := by
  intro d
  induction d with
  | zero =>
    intro k n hk hn _
    obtain ⟨n, rfl⟩ : ∃ z, n = z + 1 := ⟨n - 1, by omega⟩
    obtain rfl : k = j0 := by omega
    rw [f_Mo_launch_48]
    by_cases h4 : k = 4
    · subst h4; rw [if_pos (by decide)]
    · have hk4 : k < 4 := by omega
      rcases hg with hg | hg
      · exact absurd hg h4
      · rw [if_neg (show ¬ (4 : Int32) ≤ nI k by rw [show (4 : Int32) = nI 4 from rfl]; exact nI_ge hk4 (by decide)), q_grd_t (q_inT hk4 (by decide)), nI_clamp (by omega), if_pos hg]
  | succ d ih =>
    intro k n hk hn hth
    obtain ⟨n, rfl⟩ : ∃ z, n = z + 1 := ⟨n - 1, by omega⟩
    have hk4 : k < 4 := by omega
    rw [f_Mo_launch_48, if_neg (show ¬ (4 : Int32) ≤ nI k by rw [show (4 : Int32) = nI 4 from rfl]; exact nI_ge hk4 (by decide)), q_grd_t (q_inT hk4 (by decide)), nI_clamp (by omega), hth k (Nat.le_refl _) (by omega), if_neg (by decide), nI_1]
    exact ih (k + 1) n (by omega) (by omega) (fun j h1 h2 => hth j (by omega) h2)
/-- a slot begun -/
def bgC (σ : q_St) (i : Nat) (o p : Int32) : q_St := q_up (q_up (q_up (q_up (q_up (q_up (q_up (q_up (q_up (q_up σ 32 i o) 33 i 1) 34 i p) 35 i 0) 36 i 0) 37 i 0) 38 i 0) 39 i 0) 40 i 0) 41 i 0
def bgM (μ : q_St) (i : Nat) (o p : Int32) : q_St := q_up (q_up (q_up (q_up (q_up (q_up (q_up (q_up (q_up (q_up μ 2 i 1) 3 i o) 4 i p) 5 i 0) 6 i 0) 7 i 0) 8 i 0) 9 i 0) 10 i 0) 11 i 0
theorem bgC_eqx (σ : q_St) (i : Nat) (o p : Int32) : eqx [32, 33, 34, 35, 36, 37, 38, 39, 40, 41] σ (bgC σ i o p) := by
  unfold bgC
  exact eqx_tr (eqx_tr (eqx_tr (eqx_tr (eqx_tr (eqx_tr (eqx_tr (eqx_tr (eqx_tr (eqx_up (by decide)) (eqx_up (by decide))) (eqx_up (by decide))) (eqx_up (by decide))) (eqx_up (by decide))) (eqx_up (by decide))) (eqx_up (by decide))) (eqx_up (by decide))) (eqx_up (by decide))) (eqx_up (by decide))
theorem bgM_eqx (μ : q_St) (i : Nat) (o p : Int32) : eqx [2, 3, 4, 5, 6, 7, 8, 9, 10, 11] μ (bgM μ i o p) := by
  unfold bgM
  exact eqx_tr (eqx_tr (eqx_tr (eqx_tr (eqx_tr (eqx_tr (eqx_tr (eqx_tr (eqx_tr (eqx_up (by decide)) (eqx_up (by decide))) (eqx_up (by decide))) (eqx_up (by decide))) (eqx_up (by decide))) (eqx_up (by decide))) (eqx_up (by decide))) (eqx_up (by decide))) (eqx_up (by decide))) (eqx_up (by decide))
theorem bgC_o (σ : q_St) {i k : Nat} (o p : Int32) (h : k ≠ i) (f : Nat) : (bgC σ i o p) f k = σ f k := by
  unfold bgC; simp only [q_up_i h]
theorem bgM_o (μ : q_St) {i k : Nat} (o p : Int32) (h : k ≠ i) (f : Nat) : (bgM μ i o p) f k = μ f k := by
  unfold bgM; simp only [q_up_i h]
theorem mb {x1 x2 : Int32} {μ : q_St} {a : Nat} (ha : a < 8) (hf : μ 2 a = 0) : ∀ (d k n : Nat), k + d = a → d < n → (∀ i, k ≤ i → i < a → ¬ μ 2 i = 0) → f_Mo_begin_2 n μ x1 x2 (nI k) = some (nI a, bgM μ a x2 x1) := by
  intro d
  induction d with
  | zero =>
    intro k n hk hn _
    obtain ⟨n, rfl⟩ : ∃ z, n = z + 1 := ⟨n - 1, by omega⟩
    obtain rfl : k = a := by omega
    rw [f_Mo_begin_2]
    simp only [q_grd_t (q_inT ha (show 8 < 2 ^ 31 by decide)), nI_clamp (show k < 2 ^ 31 by omega), hf, if_true]
    rfl
  | succ d ih =>
    intro k n hk hn hno
    obtain ⟨n, rfl⟩ : ∃ z, n = z + 1 := ⟨n - 1, by omega⟩
    have hk8 : k < 8 := by omega
    rw [f_Mo_begin_2, q_grd_t (q_inT hk8 (by decide)), nI_clamp (by omega), if_neg (hno k (Nat.le_refl _) (by omega)), nI_1]
    exact ih (k + 1) n (by omega) (by omega) (fun i h1 h2 => hno i (by omega) h2)
