/-! SIGNALS: class and reference side by side at a slot -/
theorem b_1 : ∀ i, i < 32 → bt 1 i = decide (i = 0) := by decide +kernel
theorem hasb (x : Int32) {s : Nat} (hs : s < 32) : ((x >>> (nI s &&& 31)) &&& 1) = 1 ↔ bt x s = true := by
  constructor
  · intro h
    have h0 := congrArg (fun y => bt y 0) h
    simp only [b_and, b_sshr s hs x (show 0 < 32 by decide), b_1 0 (by decide)] at h0
    rw [if_pos (by omega)] at h0
    simpa using h0
  · intro h
    apply b_ext
    intro i hi
    rw [b_and, b_1 i hi]
    by_cases hz : i = 0
    · subst hz
      rw [b_sshr s hs x (by decide), if_pos (by omega)]
      simpa using h
    · simp [hz]
theorem mskb (x : Int32) {s : Nat} (hs : s < 32) : (x &&& ((1 : Int32) <<< (nI s &&& 31))) = 0 ↔ bt x s = false := by
  constructor
  · intro h
    have h0 := congrArg (fun y => bt y s) h
    simp only [b_and, b_shl s hs 1 hs, b_0] at h0
    rw [Nat.sub_self, b_1 0 (by decide)] at h0
    simpa using h0
  · intro h
    apply b_ext
    intro i hi
    rw [b_and, b_shl s hs 1 hi, b_0]
    by_cases hz : i = s
    · subst hz; rw [h]; rfl
    · by_cases hl : s ≤ i
      · rw [b_1 (i - s) (by omega)]
        simp [show ¬ i - s = 0 by omega]
      · simp [hl]
theorem b_not {x : Int32} {i : Nat} (hi : i < 32) : bt (x ^^^ (-1)) i = !bt x i := by rw [b_xor, b_m1 i hi]; simp
def lo10 (x : Int32) : Prop := ∀ i, 10 ≤ i → i < 32 → bt x i = false
theorem lo10_and {x : Int32} (y : Int32) (h : lo10 x) : lo10 (x &&& y) := fun i h1 h2 => by rw [b_and, h i h1 h2]; rfl
theorem lo10_or {x : Int32} {s : Nat} (h : lo10 x) (hs : s < 10) : lo10 (x ||| ((1 : Int32) <<< (nI s &&& 31))) := fun i h1 h2 => by
  rw [b_or, h i h1 h2, b_shl s (by omega) 1 h2, b_1 (i - s) (by omega)]
  simp [show ¬ i - s = 0 by omega]
theorem b_m961 : ∀ i, i < 32 → bt (-961) i = (decide (i < 6) || decide (10 ≤ i)) := by decide +kernel
theorem b_63 : ∀ i, i < 32 → bt 63 i = decide (i < 6) := by decide +kernel
theorem b_919 : ∀ i, i < 32 → 10 ≤ i → bt 919 i = false := by decide +kernel
theorem lo10_919 (x : Int32) : lo10 (x &&& 919) := fun i h1 h2 => by rw [b_and, b_919 i h2 h1]; simp
theorem cont_eq {x : Int32} (h : lo10 x) : x &&& (-961) = x &&& 63 := by
  apply b_ext
  intro i hi
  rw [b_and, b_and, b_m961 i hi, b_63 i hi]
  by_cases h6 : i < 6
  · simp [h6]
  · by_cases h10 : 10 ≤ i
    · rw [h i h10 hi]; simp
    · simp [h6, h10]
theorem q_inT {i n : Nat} (h : i < n) (hn : n < 2 ^ 31) : q_in (nI i) n = true := q_in_nI h hn
theorem has_eq (μ : q_St) (x : Int32) {s : Nat} (hs : s < 32) : f_Mo_has μ x (nI s) = some (if bt x s = true then 1 else 0, μ) := by
  unfold f_Mo_has f_Mo_has_14
  by_cases h : bt x s = true
  · rw [if_pos ((hasb x hs).mpr h), if_pos h]; rfl
  · rw [if_neg (fun z => h ((hasb x hs).mp z)), if_neg h]; rfl
def sl3 (σ σ' : q_St) (i : Nat) : Prop := ∀ f j, ¬ (j = i ∧ (f = 33 ∨ f = 37 ∨ f = 38)) → σ' f j = σ f j
def ml3 (μ μ' : q_St) (i : Nat) : Prop := ∀ f j, ¬ (j = i ∧ (f = 2 ∨ f = 7 ∨ f = 8)) → μ' f j = μ f j
def sm3 (σ μ : q_St) (i : Nat) : Prop := σ 33 i = μ 2 i ∧ σ 37 i = μ 7 i ∧ σ 38 i = μ 8 i
def st3 (σ : q_St) (i : Nat) : Prop := σ 33 i = 1 ∨ σ 33 i = 2 ∨ σ 33 i = 3
theorem sl3_rf (σ : q_St) (i : Nat) : sl3 σ σ i := fun _ _ _ => rfl
theorem ml3_rf (σ : q_St) (i : Nat) : ml3 σ σ i := fun _ _ _ => rfl
theorem sl3_tr {a b c : q_St} {i : Nat} (h : sl3 a b i) (k : sl3 b c i) : sl3 a c i := fun f j z => (k f j z).trans (h f j z)
theorem ml3_tr {a b c : q_St} {i : Nat} (h : ml3 a b i) (k : ml3 b c i) : ml3 a c i := fun f j z => (k f j z).trans (h f j z)
theorem sl3_up {σ : q_St} {i f : Nat} {x : Int32} (h : f = 33 ∨ f = 37 ∨ f = 38) : sl3 σ (q_up σ f i x) i := fun g j z => by
  unfold q_up
  rw [if_neg (fun w => z ⟨w.2, by rw [w.1]; exact h⟩)]
theorem ml3_up {σ : q_St} {i f : Nat} {x : Int32} (h : f = 2 ∨ f = 7 ∨ f = 8) : ml3 σ (q_up σ f i x) i := fun g j z => by
  unfold q_up
  rw [if_neg (fun w => z ⟨w.2, by rw [w.1]; exact h⟩)]
theorem i5 {s : Nat} (hs : s < 10) : (5 : Int32) ≤ nI s ↔ 5 ≤ s := by
  rw [show (5 : Int32) = nI 5 from rfl]; exact nI_leI (by decide) (by omega)
/-- what a signal's acting leaves -/
theorem act_sim {σ μ : q_St} {i s : Nat} (hi : i < 8) (hs : s < 10) (h : sm3 σ μ i) (hl : lo10 (σ 38 i)) : ∃ σ' μ', f_JobProcess_act σ i (nI s) = some σ' ∧ f_Mo_act μ (nI i) (nI s) = some μ' ∧ sl3 σ σ' i ∧ ml3 μ μ' i ∧ sm3 σ' μ' i ∧ lo10 (σ' 38 i) ∧ (σ' 33 i = 2 ∨ σ' 33 i = 3) := by
  obtain ⟨h1, h2, h3⟩ := h
  have hq := q_inT hi (show 8 < 2 ^ 31 by decide)
  have hc : (nI i).toNatClampNeg = i := nI_clamp (by omega)
  unfold f_JobProcess_act f_JobProcess_act_41 f_Mo_act f_Mo_act_51
  simp only [q_grd_t hq, hc]
  by_cases h5 : 5 ≤ s
  · rw [if_pos ((i5 hs).mpr h5), if_pos ((i5 hs).mpr h5)]
    refine ⟨_, _, rfl, rfl, ?_, ?_, ?_, ?_, ?_⟩
    · exact sl3_tr (sl3_up (by decide)) (sl3_up (by decide))
    · exact ml3_tr (ml3_up (by decide)) (ml3_up (by decide))
    · refine ⟨?_, ?_, ?_⟩ <;> simp [q_up, h1, h2, h3]
    · simp only [q_up]; simpa using lo10_and _ hl
    · left; simp [q_up]
  · rw [if_neg (fun z => h5 ((i5 hs).mp z)), if_neg (fun z => h5 ((i5 hs).mp z))]
    refine ⟨_, _, rfl, rfl, ?_, ?_, ?_, ?_, ?_⟩
    · exact sl3_tr (sl3_tr (sl3_up (by decide)) (sl3_up (by decide))) (sl3_up (by decide))
    · exact ml3_tr (ml3_tr (ml3_up (by decide)) (ml3_up (by decide))) (ml3_up (by decide))
    · refine ⟨?_, ?_, ?_⟩ <;> simp [q_up, h1, h2, h3]
    · simp only [q_up]; simpa using lo10_and _ hl
    · right; simp [q_up]

theorem q_bnd_v {α β : Type} {a : α} {k : α → Option β} : q_bnd (some a) k = k a := rfl
theorem i1z : ((1 : Int32) = 0) = False := by simp
theorem idle_M {i : Nat} (hi : i < 8) : ∀ (k s m : Nat) (μ : q_St), s + k = 10 → k < m → ¬ μ 2 i = 1 → f_Mo_actPending_2 m μ (nI i) (nI s) = some μ := by
  intro k
  induction k with
  | zero =>
    intro s m μ hs hm h
    obtain ⟨m, rfl⟩ : ∃ z, m = z + 1 := ⟨m - 1, by omega⟩
    rw [f_Mo_actPending_2, if_pos (by rw [show s = 10 by omega]; decide)]
  | succ k ih =>
    intro s m μ hs hm h
    obtain ⟨m, rfl⟩ : ∃ z, m = z + 1 := ⟨m - 1, by omega⟩
    rw [f_Mo_actPending_2, if_neg (by rw [show (10 : Int32) = nI 10 from rfl]; exact nI_ge (by omega) (by decide)), q_grd_t (q_inT hi (by decide)), nI_clamp (by omega), if_neg h]
    unfold f_Mo_actPending_50
    rw [show nI s + 1 = nI (s + 1) from nI_1 s]
    exact ih (s + 1) m μ (by omega) (by omega) h
theorem pend_sim {i : Nat} (hi : i < 8) : ∀ (k s n m : Nat) (σ μ : q_St), s + k = 10 → k < n → k < m → sm3 σ μ i → σ 39 i = μ 9 i → lo10 (σ 38 i) → st3 σ i → ∃ σ' μ', f_JobProcess_actOnPending_2 i n σ (nI s) = some σ' ∧ f_Mo_actPending_2 m μ (nI i) (nI s) = some μ' ∧ sl3 σ σ' i ∧ ml3 μ μ' i ∧ sm3 σ' μ' i ∧ lo10 (σ' 38 i) ∧ st3 σ' i := by
  intro k
  induction k with
  | zero =>
    intro s n m σ μ hs hn hm h3 hb hl hst
    obtain ⟨n, rfl⟩ : ∃ z, n = z + 1 := ⟨n - 1, by omega⟩
    obtain ⟨m, rfl⟩ : ∃ z, m = z + 1 := ⟨m - 1, by omega⟩
    rw [f_Mo_actPending_2, if_pos (by rw [show s = 10 by omega]; decide), f_JobProcess_actOnPending_2, if_pos (by rw [show s = 10 by omega]; decide)]
    exact ⟨σ, μ, rfl, rfl, sl3_rf _ _, ml3_rf _ _, h3, hl, hst⟩
  | succ k ih =>
    intro s n m σ μ hs hn hm h3 hb hl hst
    obtain ⟨n, rfl⟩ : ∃ z, n = z + 1 := ⟨n - 1, by omega⟩
    have h10 : ¬ (10 : Int32) ≤ nI s := by rw [show (10 : Int32) = nI 10 from rfl]; exact nI_ge (by omega) (by decide)
    have h9 : ¬ (9 : Int32) < nI s := by rw [show (9 : Int32) = nI 9 from rfl]; exact nI_nlt (by omega) (by decide)
    by_cases h1 : σ 33 i = 1
    · obtain ⟨m, rfl⟩ : ∃ z, m = z + 1 := ⟨m - 1, by omega⟩
      rw [f_Mo_actPending_2, if_neg h10, q_grd_t (q_inT hi (by decide)), nI_clamp (by omega), if_pos (by rw [← h3.1]; exact h1), q_grd_t (q_inT hi (by decide)), has_eq _ _ (show s < 32 by omega)]
      rw [f_JobProcess_actOnPending_2, if_neg h9, if_pos h1]
      unfold f_JobProcess_actOnPending_39 f_Mo_actPending_50
      rw [show nI s + 1 = nI (s + 1) from nI_1 s]
      have key : (((σ 38 i) &&& ((σ 39 i) ^^^ (-1))) &&& ((1 : Int32) <<< (nI s &&& 31))) = 0 ↔ ¬ (bt (μ 8 i) s = true ∧ ¬ bt (μ 9 i) s = true) := by
        rw [mskb _ (show s < 32 by omega), b_and, b_not (by omega), h3.2.2, hb]
        cases bt (μ 8 i) s <;> cases bt (μ 9 i) s <;> simp
      simp only [q_bnd_v]
      rw [has_eq _ _ (show s < 32 by omega), q_grd_t (q_inT hi (by decide))]
      simp only [q_bnd_v]
      by_cases hp : bt (μ 8 i) s = true
      · by_cases hq : bt (μ 9 i) s = true
        · rw [if_pos (key.mpr (fun z => z.2 hq))]
          simp only [hp, hq, if_true, i1z, if_false]
          exact ih (s + 1) n m σ μ (by omega) (by omega) (by omega) h3 hb hl hst
        · rw [if_neg (fun z => key.mp z ⟨hp, hq⟩)]
          simp only [hp, hq, if_true, i1z, if_false]
          obtain ⟨σ1, μ1, e1, e2, a1, a2, a3, a4, a5⟩ := act_sim hi (show s < 10 by omega) h3 hl
          rw [q_bnd_s e1, q_bnd_s e2]
          obtain ⟨σ2, μ2, e3, e4, c1, c2, c3, c4, c5⟩ := ih (s + 1) n m σ1 μ1 (by omega) (by omega) (by omega) a3 (by rw [a1 39 i (by omega), a2 9 i (by omega)]; exact hb) a4 (Or.inr a5)
          exact ⟨σ2, μ2, e3, e4, sl3_tr a1 c1, ml3_tr a2 c2, c3, c4, c5⟩
      · rw [if_pos (key.mpr (fun z => hp z.1))]
        simp only [hp, if_false, if_true]
        exact ih (s + 1) n m σ μ (by omega) (by omega) (by omega) h3 hb hl hst
    · rw [f_JobProcess_actOnPending_2, if_neg h9, if_neg h1]
      unfold f_JobProcess_actOnPending_45
      exact ⟨σ, μ, rfl, idle_M hi (k + 1) s m μ hs hm (by rw [← h3.1]; exact h1), sl3_rf _ _, ml3_rf _ _, h3, hl, hst⟩

theorem nI_ne {a b : Nat} (ha : a < 2 ^ 31) (hb : b < 2 ^ 31) (h : a ≠ b) : ¬ nI a = nI b := fun z => h ((nI_eq ha hb).mp z)
/-- a signal that is sent -/
theorem recv_sim {σ μ : q_St} {i s : Nat} (hi : i < 8) (hs : s < 10) (h3 : sm3 σ μ i) (hb : σ 39 i = μ 9 i) (hg : σ 40 i = μ 10 i) (hl : lo10 (σ 38 i)) (hst : st3 σ i) : ∃ σ' μ', f_JobProcess_receive σ i (nI s) = some σ' ∧ f_Mo_sendTo μ (nI i) (nI s) = some μ' ∧ sl3 σ σ' i ∧ ml3 μ μ' i ∧ sm3 σ' μ' i ∧ lo10 (σ' 38 i) ∧ st3 σ' i := by
  have hq := q_inT hi (show 8 < 2 ^ 31 by decide)
  have hc : (nI i).toNatClampNeg = i := nI_clamp (by omega)
  have h9 : nI s ≤ 9 := by rw [show (9 : Int32) = nI 9 from rfl]; exact nI_le (by omega) (by decide)
  by_cases hE : σ 33 i = 3
  · refine ⟨σ, μ, ?_, ?_, sl3_rf _ _, ml3_rf _ _, h3, hl, hst⟩
    · unfold f_JobProcess_receive
      rw [if_neg (by rw [hE]; decide), if_neg (by rw [hE]; decide)]
    · unfold f_Mo_sendTo f_Mo_sendTo_20
      rw [if_neg (nI_pos (by omega)), q_grd_t hq, hc, if_pos (by rw [← h3.1]; exact hE)]
  · have e1 : f_JobProcess_receive σ i (nI s) = f_JobProcess_receive_17 i σ (nI s) := by
      unfold f_JobProcess_receive
      rcases hst with h | h | h
      · rw [if_pos h]
      · rw [if_neg (by rw [h]; decide), if_pos h]
      · exact absurd h hE
    rw [e1]
    unfold f_JobProcess_receive_17 f_Mo_sendTo f_Mo_sendTo_77 f_Mo_sendTo_122 f_Mo_sendTo_147 f_JobProcess_receive_69 f_JobProcess_receive_104 f_JobProcess_receive_122
    have hE' : ¬ μ 2 i = 3 := by rw [← h3.1]; exact hE
    rw [if_neg (nI_pos (show i < 2 ^ 31 by omega)), q_grd_t hq, hc, if_neg hE', if_pos h9]
    simp only [q_grd_t hq, hc]
    by_cases h5 : s = 5
    · subst h5
      rw [if_pos (show nI 5 = 5 from rfl), if_pos (show nI 5 = 5 from rfl)]
      have u1 : q_up σ 38 i (σ 38 i &&& (-961)) 33 i = σ 33 i := q_up_f (by decide)
      have u2 : q_up μ 8 i (μ 8 i &&& 63) 2 i = μ 2 i := q_up_f (by decide)
      rw [u1, u2]
      by_cases h2 : σ 33 i = 2
      · rw [if_pos h2, if_pos (show μ 2 i = 2 by rw [← h3.1]; exact h2)]
        unfold f_JobProcess_actOnPending f_Mo_actPending
        obtain ⟨σ1, μ1, e3, e4, c1, c2, c3, c4, c5⟩ := pend_sim hi 10 0 200 200 (q_up (q_up σ 38 i (σ 38 i &&& (-961))) 33 i 1) (q_up (q_up μ 8 i (μ 8 i &&& 63)) 2 i 1) rfl (by decide) (by decide) ⟨by simp [q_up], by simp [q_up, h3.2.1], by simp only [q_up]; simp; rw [← h3.2.2]; exact cont_eq hl⟩ (by simp [q_up, hb]) (by simp only [q_up]; simpa using lo10_and _ hl) (Or.inl (by simp [q_up]))
        rw [show (0 : Int32) = nI 0 from rfl, q_bnd_s e3, q_bnd_s e4]
        exact ⟨σ1, μ1, rfl, rfl, sl3_tr (sl3_tr (sl3_up (by decide)) (sl3_up (by decide))) c1, ml3_tr (ml3_tr (ml3_up (by decide)) (ml3_up (by decide))) c2, c3, c4, c5⟩
      · rw [if_neg h2, if_neg (show ¬ μ 2 i = 2 by rw [← h3.1]; exact h2)]
        refine ⟨_, _, rfl, rfl, sl3_up (by decide), ml3_up (by decide), ⟨by simp [q_up, h3.1], by simp [q_up, h3.2.1], by simp only [q_up]; simp; rw [← h3.2.2]; exact cont_eq hl⟩, by simp only [q_up]; simpa using lo10_and _ hl, ?_⟩
        unfold st3; rw [u1]; exact hst
    · have n5 : ¬ nI s = 5 := nI_ne (by omega) (by decide) h5
      rw [if_neg n5, if_neg n5]
      obtain ⟨σ1, μ1, e1, e2, a1, a2, a3, a4, a5⟩ := act_sim hi hs h3 hl
      rw [e1, e2]
      simp only [q_bnd_v]
      by_cases h36 : s = 3
      · rw [if_pos (show nI s = 3 by rw [h36]; rfl), if_pos (show nI s = 3 by rw [h36]; rfl)]
        exact ⟨σ1, μ1, rfl, rfl, a1, a2, a3, a4, Or.inr a5⟩
      · have n3 : ¬ nI s = 3 := nI_ne (by omega) (by decide) h36
        rw [if_neg n3, if_neg n3]
        by_cases h6 : s = 6
        · rw [if_pos (show nI s = 6 by rw [h6]; rfl), if_pos (show nI s = 6 by rw [h6]; rfl)]
          exact ⟨σ1, μ1, rfl, rfl, a1, a2, a3, a4, Or.inr a5⟩
        · have n6 : ¬ nI s = 6 := nI_ne (by omega) (by decide) h6
          rw [if_neg n6, if_neg n6, has_eq _ _ (show s < 32 by omega)]
          simp only [q_bnd_v]
          rw [has_eq _ _ (show s < 32 by omega)]
          simp only [q_bnd_v]
          have kg : (σ 40 i &&& ((1 : Int32) <<< (nI s &&& 31))) = 0 ↔ ¬ bt (μ 10 i) s = true := by rw [mskb _ (show s < 32 by omega), hg]; simp
          have kb : (σ 39 i &&& ((1 : Int32) <<< (nI s &&& 31))) = 0 ↔ ¬ bt (μ 9 i) s = true := by rw [mskb _ (show s < 32 by omega), hb]; simp
          have wr : ∃ σ' μ', some (q_up σ 38 i (σ 38 i ||| ((1 : Int32) <<< (nI s &&& 31)))) = some σ' ∧ some (q_up μ 8 i (μ 8 i ||| ((1 : Int32) <<< (nI s &&& 31)))) = some μ' ∧ sl3 σ σ' i ∧ ml3 μ μ' i ∧ sm3 σ' μ' i ∧ lo10 (σ' 38 i) ∧ st3 σ' i :=
            ⟨_, _, rfl, rfl, sl3_up (by decide), ml3_up (by decide), ⟨by simp [q_up, h3.1], by simp [q_up, h3.2.1], by simp [q_up, h3.2.2]⟩, by simp only [q_up]; simpa using lo10_or hl hs, by unfold st3; rw [q_up_f (by decide)]; exact hst⟩
          by_cases hG : bt (μ 10 i) s = true
          · rw [if_neg (fun z => kg.mp z hG)]
            simp only [hG, if_true, i1z, if_false]
            exact ⟨σ, μ, rfl, rfl, sl3_rf _ _, ml3_rf _ _, h3, hl, hst⟩
          · rw [if_pos (kg.mpr hG)]
            simp only [hG, if_false, if_true]
            by_cases hB : bt (μ 9 i) s = true
            · rw [if_neg (fun z => kb.mp z hB)]
              simp only [hB, if_true, i1z, if_false]
              exact wr
            · rw [if_pos (kb.mpr hB)]
              simp only [hB, if_false, if_true]
              by_cases h2 : σ 33 i = 2
              · rw [if_pos h2, if_pos (show μ 2 i = 2 by rw [← h3.1]; exact h2)]
                exact wr
              · rw [if_neg h2, if_neg (show ¬ μ 2 i = 2 by rw [← h3.1]; exact h2)]
                exact ⟨σ1, μ1, rfl, by rw [e2]; rfl, a1, a2, a3, a4, Or.inr a5⟩
