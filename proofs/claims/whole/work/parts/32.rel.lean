/-! THE RELATION of the class's state and the reference's -/
def eqx (F : List Nat) (σ σ' : q_St) : Prop := ∀ f, f ∉ F → σ' f = σ f
theorem eqx_rf (F : List Nat) (σ : q_St) : eqx F σ σ := fun _ _ => rfl
theorem eqx_tr {F : List Nat} {a b c : q_St} (h : eqx F a b) (k : eqx F b c) : eqx F a c := fun f z => (k f z).trans (h f z)
theorem eqx_mono {F G : List Nat} {a b : q_St} (h : eqx F a b) (k : ∀ f, f ∈ F → f ∈ G) : eqx G a b := fun f z => h f (fun w => z (k f w))
theorem eqx_up {F : List Nat} {σ : q_St} {f i : Nat} {x : Int32} (h : f ∈ F) : eqx F σ (q_up σ f i x) := fun g z => q_up_rowf (fun w => z (by rw [w]; exact h))
/-- a slot -/
def RS1 (σ μ : q_St) (i : Nat) : Prop := sm3 σ μ i ∧ σ 34 i = μ 4 i ∧ σ 35 i = μ 5 i ∧ σ 36 i = μ 6 i ∧ σ 39 i = μ 9 i ∧ σ 40 i = μ 10 i ∧ σ 41 i = μ 11 i ∧ lo10 (σ 38 i) ∧ (∃ a, a < 4 ∧ σ 34 i = nI a) ∧ (∃ a, a ≤ 16 ∧ σ 35 i = nI a)
def own1 (σ μ : q_St) (i : Nat) : Prop := (σ 33 i = 0 ∧ σ 32 i = -1) ∨ (st3 σ i ∧ ∃ j, j < 4 ∧ σ 32 i = nI j ∧ μ 3 i = nI j ∧ (σ 28 j = nI i ∨ σ 29 j = nI i))
def RS (σ μ : q_St) : Prop := ∀ i, i < 8 → RS1 σ μ i ∧ own1 σ μ i
/-- a job -/
def there (σ μ : q_St) (j : Nat) : Prop := μ 12 j = 1 ∧ σ 31 j = μ 15 j ∧ ∃ a, a < 8 ∧ σ 28 j = nI a ∧ μ 13 j = nI a ∧ σ 32 a = nI j ∧ ((σ 29 j = -1 ∧ μ 14 j = -1) ∨ ∃ b, b < 8 ∧ σ 29 j = nI b ∧ μ 14 j = nI b ∧ σ 32 b = nI j ∧ a ≠ b)
def gone (σ μ : q_St) (j : Nat) : Prop := μ 12 j = 0 ∧ σ 28 j = -1 ∧ σ 29 j = -1 ∧ σ 31 j = -1
def RJ (σ μ : q_St) : Prop := ∀ j, j < 4 → σ 30 j = μ 16 j ∧ (gone σ μ j ∨ there σ μ j)
/-- the terminal's flags, the job before it, the turn, the programs -/
def RT (σ μ : q_St) : Prop := σ 20 0 = μ 41 0 ∧ σ 22 0 = μ 42 0 ∧ σ 23 0 = μ 43 0 ∧ (σ 20 0 = -1 ∨ ∃ j, j < 4 ∧ σ 20 0 = nI j ∧ μ 12 j = 1 ∧ ¬ σ 31 j = 3) ∧ ∃ t, t < 8 ∧ σ 21 0 = nI t ∧ μ 40 0 = nI ((t + 1) % 8)
def RP (σ μ : q_St) : Prop := ∀ k, k < 64 → σ 0 k = μ 0 k ∧ σ 1 k = μ 1 k
/-- rows -/
def ring (σ : q_St) (r N c : Nat) (g : Nat → Int32) : Prop := ∃ o, o < N ∧ σ 26 r = nI o ∧ σ 27 r = nI c ∧ c ≤ N ∧ ∀ k, k < c → σ (10 + r) ((o + k) % N) = g k
def RQ (σ μ : q_St) : Prop := (∃ c, ring σ 0 20 c (μ 19) ∧ μ 44 0 = nI c) ∧ (∃ c, ring σ 1 40 c (μ 20) ∧ μ 45 0 = nI c) ∧ ∀ j, j < 4 → ∃ c, ring σ (2 + j) 4 c (fun k => μ 18 (4 * j + k)) ∧ μ 17 j = nI c
/-- the screen: at most B codes were shown -/
def RD (B : Nat) (σ μ : q_St) : Prop := ∃ T, T ≤ B ∧ σ 25 0 = nI T ∧ μ 46 0 = nI T ∧ (σ 24 0 = nI (T % 100) ∨ (σ 24 0 = 100 ∧ T % 100 = 0)) ∧ ∀ k, k < 100 → σ 2 k = μ 21 k
def stJ (σ : q_St) (j : Nat) : Int32 := if σ 28 j < 0 then -1 else if σ 29 j < 0 then σ 33 (σ 28 j).toNatClampNeg else if σ 33 (σ 29 j).toNatClampNeg < σ 33 (σ 28 j).toNatClampNeg then σ 33 (σ 29 j).toNatClampNeg else σ 33 (σ 28 j).toNatClampNeg
def R0 (B : Nat) (σ μ : q_St) : Prop := RS σ μ ∧ RJ σ μ ∧ RT σ μ ∧ RP σ μ ∧ RQ σ μ ∧ RD B σ μ
def settled (σ : q_St) : Prop := ∀ j, j < 4 → σ 31 j = stJ σ j
/-- between calls -/
def RR (B : Nat) (σ μ : q_St) : Prop := R0 B σ μ ∧ settled σ
-- what a part of the relation doesn't speak of may change
theorem RP_c {σ σ' μ μ' : q_St} {F G : List Nat} (h : eqx F σ σ') (g : eqx G μ μ') (h1 : 0 ∉ F ∧ 1 ∉ F) (g1 : 0 ∉ G ∧ 1 ∉ G) (H : RP σ μ) : RP σ' μ' := by
  intro k hk
  rw [h 0 h1.1, h 1 h1.2, g 0 g1.1, g 1 g1.2]
  exact H k hk
theorem ring_c {σ σ' : q_St} {F : List Nat} {r N c : Nat} {g g' : Nat → Int32} (h : eqx F σ σ') (h1 : 26 ∉ F ∧ 27 ∉ F ∧ 10 + r ∉ F) (hg : ∀ k, g' k = g k) (H : ring σ r N c g) : ring σ' r N c g' := by
  obtain ⟨o, a1, a2, a3, a4, a5⟩ := H
  exact ⟨o, a1, by rw [h 26 h1.1]; exact a2, by rw [h 27 h1.2.1]; exact a3, a4, fun k hk => by rw [h _ h1.2.2, hg k]; exact a5 k hk⟩
theorem RQ_c {σ σ' μ μ' : q_St} {F G : List Nat} (h : eqx F σ σ') (g : eqx G μ μ') (h1 : ∀ f ∈ [10, 11, 12, 13, 14, 15, 26, 27], f ∉ F) (g1 : ∀ f ∈ [17, 18, 19, 20, 44, 45], f ∉ G) (H : RQ σ μ) : RQ σ' μ' := by
  obtain ⟨⟨c0, a0, b0⟩, ⟨c1, a1, b1⟩, hp⟩ := H
  refine ⟨⟨c0, ring_c h ⟨h1 26 (by decide), h1 27 (by decide), h1 10 (by decide)⟩ (fun k => by rw [g 19 (g1 19 (by decide))]) a0, by rw [g 44 (g1 44 (by decide))]; exact b0⟩, ⟨c1, ring_c h ⟨h1 26 (by decide), h1 27 (by decide), h1 11 (by decide)⟩ (fun k => by rw [g 20 (g1 20 (by decide))]) a1, by rw [g 45 (g1 45 (by decide))]; exact b1⟩, fun j hj => ?_⟩
  obtain ⟨c, a, b⟩ := hp j hj
  exact ⟨c, ring_c h ⟨h1 26 (by decide), h1 27 (by decide), h1 _ (by simp; omega)⟩ (fun k => by rw [g 18 (g1 18 (by decide))]) a, by rw [g 17 (g1 17 (by decide))]; exact b⟩
theorem RD_c {B : Nat} {σ σ' μ μ' : q_St} {F G : List Nat} (h : eqx F σ σ') (g : eqx G μ μ') (h1 : ∀ f ∈ [2, 24, 25], f ∉ F) (g1 : ∀ f ∈ [21, 46], f ∉ G) (H : RD B σ μ) : RD B σ' μ' := by
  unfold RD
  rw [h 2 (h1 2 (by decide)), h 24 (h1 24 (by decide)), h 25 (h1 25 (by decide)), g 21 (g1 21 (by decide)), g 46 (g1 46 (by decide))]
  exact H
theorem RT_c {σ σ' μ μ' : q_St} {F G : List Nat} (h : eqx F σ σ') (g : eqx G μ μ') (h1 : ∀ f ∈ [20, 21, 22, 23, 31], f ∉ F) (g1 : ∀ f ∈ [40, 41, 42, 43, 12], f ∉ G) (H : RT σ μ) : RT σ' μ' := by
  unfold RT
  rw [h 20 (h1 20 (by decide)), h 21 (h1 21 (by decide)), h 22 (h1 22 (by decide)), h 23 (h1 23 (by decide)), h 31 (h1 31 (by decide)), g 40 (g1 40 (by decide)), g 41 (g1 41 (by decide)), g 42 (g1 42 (by decide)), g 43 (g1 43 (by decide)), g 12 (g1 12 (by decide))]
  exact H
theorem RJ_c {σ σ' μ μ' : q_St} {F G : List Nat} (h : eqx F σ σ') (g : eqx G μ μ') (h1 : ∀ f ∈ [28, 29, 30, 31, 32], f ∉ F) (g1 : ∀ f ∈ [12, 13, 14, 15, 16], f ∉ G) (H : RJ σ μ) : RJ σ' μ' := by
  unfold RJ gone there
  rw [h 28 (h1 28 (by decide)), h 29 (h1 29 (by decide)), h 30 (h1 30 (by decide)), h 31 (h1 31 (by decide)), h 32 (h1 32 (by decide)), g 12 (g1 12 (by decide)), g 13 (g1 13 (by decide)), g 14 (g1 14 (by decide)), g 15 (g1 15 (by decide)), g 16 (g1 16 (by decide))]
  exact H
theorem RS_c {σ σ' μ μ' : q_St} {F G : List Nat} (h : eqx F σ σ') (g : eqx G μ μ') (h1 : ∀ f ∈ [28, 29, 32, 33, 34, 35, 36, 37, 38, 39, 40, 41], f ∉ F) (g1 : ∀ f ∈ [2, 3, 4, 5, 6, 7, 8, 9, 10, 11], f ∉ G) (H : RS σ μ) : RS σ' μ' := by
  unfold RS RS1 own1 sm3 st3
  rw [h 28 (h1 28 (by decide)), h 29 (h1 29 (by decide)), h 32 (h1 32 (by decide)), h 33 (h1 33 (by decide)), h 34 (h1 34 (by decide)), h 35 (h1 35 (by decide)), h 36 (h1 36 (by decide)), h 37 (h1 37 (by decide)), h 38 (h1 38 (by decide)), h 39 (h1 39 (by decide)), h 40 (h1 40 (by decide)), h 41 (h1 41 (by decide)), g 2 (g1 2 (by decide)), g 3 (g1 3 (by decide)), g 4 (g1 4 (by decide)), g 5 (g1 5 (by decide)), g 6 (g1 6 (by decide)), g 7 (g1 7 (by decide)), g 8 (g1 8 (by decide)), g 9 (g1 9 (by decide)), g 10 (g1 10 (by decide)), g 11 (g1 11 (by decide))]
  exact H
theorem stJ_c {σ σ' : q_St} {F : List Nat} (h : eqx F σ σ') (h1 : 28 ∉ F ∧ 29 ∉ F ∧ 33 ∉ F) (j : Nat) : stJ σ' j = stJ σ j := by
  unfold stJ
  rw [h 28 h1.1, h 29 h1.2.1, h 33 h1.2.2]
theorem nIm1 (a : Nat) (h : a < 2 ^ 31) : ¬ nI a = -1 := fun z => nI_pos h (by rw [z]; decide)
theorem m1lt : (-1 : Int32) < 0 := by decide
/-- a job's state, by the class -/
theorem state_C {σ μ : q_St} (HJ : RJ σ μ) {j : Nat} (hj : j < 4) : f_Job_state σ j = some (stJ σ j, σ) := by
  obtain ⟨-, hh⟩ := HJ j hj
  unfold f_Job_state f_Job_state_43 stJ
  rcases hh with ⟨h1, h2, h3, h4⟩ | ⟨h1, h2, a, ha, h3, h4, h5, h6⟩
  · rw [h2, if_pos m1lt, if_pos m1lt]
  · rw [h3, if_neg (nI_pos (show a < 2 ^ 31 by omega)), if_neg (nI_pos (show a < 2 ^ 31 by omega)), q_grd_t (q_inT ha (by decide))]
    rcases h6 with ⟨h6, h7⟩ | ⟨b, hb, h6, h7, h8, h9⟩
    · rw [h6, if_pos m1lt, if_pos m1lt]
    · rw [h6, if_neg (nI_pos (show b < 2 ^ 31 by omega)), if_neg (nI_pos (show b < 2 ^ 31 by omega)), q_grd_t (q_inT ha (by decide)), q_grd_t (q_inT hb (by decide))]
/-- a slot that a job owns isn't free -/
theorem own_st {σ μ : q_St} (HS : RS σ μ) {a j : Nat} (ha : a < 8) (hj : j < 4) (h : σ 32 a = nI j) : st3 σ a := by
  rcases (HS a ha).2 with ⟨-, h2⟩ | ⟨h1, -⟩
  · exact absurd (h.symm.trans h2) (nIm1 j (by omega))
  · exact h1
theorem lt_23 : ((2 : Int32) < 3) = True := by simp
theorem state_M {σ μ : q_St} (HS : RS σ μ) {j : Nat} (hj : j < 4) (ht : there σ μ j) : f_Mo_stateOf μ (nI j) = some (stJ σ j, μ) ∧ (stJ σ j = 1 ∨ stJ σ j = 2 ∨ stJ σ j = 3) := by
  obtain ⟨h1, h2, a, ha, h3, h4, h5, h6⟩ := ht
  have sa : st3 σ a := own_st HS ha hj h5
  have ea : μ 2 a = σ 33 a := (HS a ha).1.1.1.symm
  unfold f_Mo_stateOf f_Mo_stateOf_39 f_Mo_stateOf_43 f_Mo_stateOf_44 f_Mo_stateOf_84 f_Mo_stateOf_88 f_Mo_stateOf_89 f_Mo_stateOf_107 stJ
  simp only [q_grd_t (q_inT hj (show 4 < 2 ^ 31 by decide)), nI_clamp (show j < 2 ^ 31 by omega), h4, q_grd_t (q_inT ha (show 8 < 2 ^ 31 by decide)), nI_clamp (show a < 2 ^ 31 by omega), ea, h3, if_neg (nI_pos (show a < 2 ^ 31 by omega))]
  rcases h6 with ⟨h6, h7⟩ | ⟨b, hb, h6, h7, h8, h9⟩
  · simp only [h6, h7, if_pos m1lt]
    rcases sa with s | s | s <;> simp [s]
  · have sb : st3 σ b := own_st HS hb hj h8
    have eb : μ 2 b = σ 33 b := (HS b hb).1.1.1.symm
    simp only [h6, h7, if_neg (nI_pos (show b < 2 ^ 31 by omega)), q_grd_t (q_inT hb (show 8 < 2 ^ 31 by decide)), nI_clamp (show b < 2 ^ 31 by omega), eb]
    rcases sa with s | s | s <;> rcases sb with t | t | t <;> simp [s, t]
