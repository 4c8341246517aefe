/-! WORLD C: its cells, as a table over a state -/
def q_rl (r : Nat) : Nat := if r = 0 then 20 else if r = 1 then 40 else 4
abbrev tyL (cs : Nat → ClassId) : List (ClassId × FieldType) := [(cs 0, .int), (cs 1, .boolean), (cs 2, .object "JobTerminal$JobProcess"), (cs 3, .object "JobTerminal$Job"), (cs 4, .long)]
def e_C_JT (ad : Nat → Nat) (cs : Nat → ClassId) (σ : q_St) (i : Nat) : va_E := .inr (6, [.ref (ad 1), .ref (ad 4), .ref (ad 5), .ref (ad 6), q_rv ad 17 (σ 20 0), .int (σ 21 0)])
def e_C_Programs (ad : Nat → Nat) (cs : Nat → ClassId) (σ : q_St) (i : Nat) : va_E := .inr (4, [.ref (ad 2), .ref (ad 3)])
def e_C_ops (ad : Nat → Nat) (cs : Nat → ClassId) (σ : q_St) (i : Nat) : va_E := .inl (cs 0, 64, .inl (σ 0))
def e_C_nums (ad : Nat → Nat) (cs : Nat → ClassId) (σ : q_St) (i : Nat) : va_E := .inl (cs 0, 64, .inl (σ 1))
def e_C_procs (ad : Nat → Nat) (cs : Nat → ClassId) (σ : q_St) (i : Nat) : va_E := .inl (cs 2, 8, .inr (.inr (.inr (.inr (fun j => some (ad (9 + j)))))))
def e_C_jobs (ad : Nat → Nat) (cs : Nat → ClassId) (σ : q_St) (i : Nat) : va_E := .inl (cs 3, 4, .inr (.inr (.inr (.inr (fun j => some (ad (17 + j)))))))
def e_C_Terminal (ad : Nat → Nat) (cs : Nat → ClassId) (σ : q_St) (i : Nat) : va_E := .inr (5, [.ref (ad (21 + 0)), .ref (ad (21 + 1)), .ref (ad 7), .int (σ 22 0), .int (σ 23 0)])
def e_C_Display (ad : Nat → Nat) (cs : Nat → ClassId) (σ : q_St) (i : Nat) : va_E := .inr (0, [.ref (ad 8), .int (σ 24 0), .int (σ 25 0)])
def e_C_codes (ad : Nat → Nat) (cs : Nat → ClassId) (σ : q_St) (i : Nat) : va_E := .inl (cs 0, 100, .inl (σ 2))
def e_C_JobProcess (ad : Nat → Nat) (cs : Nat → ClassId) (σ : q_St) (i : Nat) : va_E := .inr (2, [q_rv ad 17 (σ 32 i), .int (σ 33 i), .int (σ 34 i), .int (σ 35 i), .int (σ 36 i), .int (σ 37 i), .int (σ 38 i), .int (σ 39 i), .int (σ 40 i), .int (σ 41 i)])
def e_C_Job (ad : Nat → Nat) (cs : Nat → ClassId) (σ : q_St) (i : Nat) : va_E := .inr (1, [.int (nI i), .ref (ad (21 + (2 + i))), q_rv ad 9 (σ 28 i), q_rv ad 9 (σ 29 i), .int (σ 30 i), .int (σ 31 i)])
def e_C_NumberRow (ad : Nat → Nat) (cs : Nat → ClassId) (σ : q_St) (i : Nat) : va_E := .inr (3, [.ref (ad (27 + i)), .int (σ 26 i), .int (σ 27 i)])
def e_C_rowarr (ad : Nat → Nat) (cs : Nat → ClassId) (σ : q_St) (i : Nat) : va_E := .inl (cs 0, (q_rl i), .inl (σ (10 + i)))
def cC (ad : Nat → Nat) (cs : Nat → ClassId) (σ : q_St) (k : Nat) : va_E := if k < 1 then e_C_JT ad cs σ (k - 0) else if k < 2 then e_C_Programs ad cs σ (k - 1) else if k < 3 then e_C_ops ad cs σ (k - 2) else if k < 4 then e_C_nums ad cs σ (k - 3) else if k < 5 then e_C_procs ad cs σ (k - 4) else if k < 6 then e_C_jobs ad cs σ (k - 5) else if k < 7 then e_C_Terminal ad cs σ (k - 6) else if k < 8 then e_C_Display ad cs σ (k - 7) else if k < 9 then e_C_codes ad cs σ (k - 8) else if k < 17 then e_C_JobProcess ad cs σ (k - 9) else if k < 21 then e_C_Job ad cs σ (k - 17) else if k < 27 then e_C_NumberRow ad cs σ (k - 21) else if k < 33 then e_C_rowarr ad cs σ (k - 27) else .inr (0, [])
theorem a_C_JT {ad : Nat → Nat} {cs : Nat → ClassId} {σ : q_St} : cC ad cs σ 0 = e_C_JT ad cs σ 0 := by unfold cC; rw [if_pos (by omega)]
theorem a_C_Programs {ad : Nat → Nat} {cs : Nat → ClassId} {σ : q_St} : cC ad cs σ 1 = e_C_Programs ad cs σ 0 := by unfold cC; rw [if_neg (by omega), if_pos (by omega)]
theorem a_C_ops {ad : Nat → Nat} {cs : Nat → ClassId} {σ : q_St} : cC ad cs σ 2 = e_C_ops ad cs σ 0 := by unfold cC; rw [if_neg (by omega), if_neg (by omega), if_pos (by omega)]
theorem a_C_nums {ad : Nat → Nat} {cs : Nat → ClassId} {σ : q_St} : cC ad cs σ 3 = e_C_nums ad cs σ 0 := by unfold cC; rw [if_neg (by omega), if_neg (by omega), if_neg (by omega), if_pos (by omega)]
theorem a_C_procs {ad : Nat → Nat} {cs : Nat → ClassId} {σ : q_St} : cC ad cs σ 4 = e_C_procs ad cs σ 0 := by unfold cC; rw [if_neg (by omega), if_neg (by omega), if_neg (by omega), if_neg (by omega), if_pos (by omega)]
theorem a_C_jobs {ad : Nat → Nat} {cs : Nat → ClassId} {σ : q_St} : cC ad cs σ 5 = e_C_jobs ad cs σ 0 := by unfold cC; rw [if_neg (by omega), if_neg (by omega), if_neg (by omega), if_neg (by omega), if_neg (by omega), if_pos (by omega)]
theorem a_C_Terminal {ad : Nat → Nat} {cs : Nat → ClassId} {σ : q_St} : cC ad cs σ 6 = e_C_Terminal ad cs σ 0 := by unfold cC; rw [if_neg (by omega), if_neg (by omega), if_neg (by omega), if_neg (by omega), if_neg (by omega), if_neg (by omega), if_pos (by omega)]
theorem a_C_Display {ad : Nat → Nat} {cs : Nat → ClassId} {σ : q_St} : cC ad cs σ 7 = e_C_Display ad cs σ 0 := by unfold cC; rw [if_neg (by omega), if_neg (by omega), if_neg (by omega), if_neg (by omega), if_neg (by omega), if_neg (by omega), if_neg (by omega), if_pos (by omega)]
theorem a_C_codes {ad : Nat → Nat} {cs : Nat → ClassId} {σ : q_St} : cC ad cs σ 8 = e_C_codes ad cs σ 0 := by unfold cC; rw [if_neg (by omega), if_neg (by omega), if_neg (by omega), if_neg (by omega), if_neg (by omega), if_neg (by omega), if_neg (by omega), if_neg (by omega), if_pos (by omega)]
theorem a_C_JobProcess {ad : Nat → Nat} {cs : Nat → ClassId} {σ : q_St} {i : Nat} (hi : i < 8) : cC ad cs σ (9 + i) = e_C_JobProcess ad cs σ i := by unfold cC; rw [if_neg (by omega), if_neg (by omega), if_neg (by omega), if_neg (by omega), if_neg (by omega), if_neg (by omega), if_neg (by omega), if_neg (by omega), if_neg (by omega), if_pos (by omega), Nat.add_sub_cancel_left]
theorem a_C_Job {ad : Nat → Nat} {cs : Nat → ClassId} {σ : q_St} {i : Nat} (hi : i < 4) : cC ad cs σ (17 + i) = e_C_Job ad cs σ i := by unfold cC; rw [if_neg (by omega), if_neg (by omega), if_neg (by omega), if_neg (by omega), if_neg (by omega), if_neg (by omega), if_neg (by omega), if_neg (by omega), if_neg (by omega), if_neg (by omega), if_pos (by omega), Nat.add_sub_cancel_left]
theorem a_C_NumberRow {ad : Nat → Nat} {cs : Nat → ClassId} {σ : q_St} {i : Nat} (hi : i < 6) : cC ad cs σ (21 + i) = e_C_NumberRow ad cs σ i := by unfold cC; rw [if_neg (by omega), if_neg (by omega), if_neg (by omega), if_neg (by omega), if_neg (by omega), if_neg (by omega), if_neg (by omega), if_neg (by omega), if_neg (by omega), if_neg (by omega), if_neg (by omega), if_pos (by omega), Nat.add_sub_cancel_left]
theorem a_C_rowarr {ad : Nat → Nat} {cs : Nat → ClassId} {σ : q_St} {i : Nat} (hi : i < 6) : cC ad cs σ (27 + i) = e_C_rowarr ad cs σ i := by unfold cC; rw [if_neg (by omega), if_neg (by omega), if_neg (by omega), if_neg (by omega), if_neg (by omega), if_neg (by omega), if_neg (by omega), if_neg (by omega), if_neg (by omega), if_neg (by omega), if_neg (by omega), if_neg (by omega), if_pos (by omega), Nat.add_sub_cancel_left]
theorem u_C_JT {ad : Nat → Nat} {cs : Nat → ClassId} {σ : q_St} {f i j : Nat} {x : Int32} (h : (∀ g ∈ [20, 21], g ≠ f) ∨ 0 ≠ i) : e_C_JT ad cs (q_up σ f i x) j = e_C_JT ad cs σ j := by
  unfold e_C_JT
  rcases h with h | h
  · simp only [q_up_f (h 20 (by decide)), q_up_f (h 21 (by decide))]
  · simp only [q_up_i h]
theorem u_C_Programs {ad : Nat → Nat} {cs : Nat → ClassId} {σ : q_St} {f i j : Nat} {x : Int32} : e_C_Programs ad cs (q_up σ f i x) j = e_C_Programs ad cs σ j := by rfl
theorem u_C_ops {ad : Nat → Nat} {cs : Nat → ClassId} {σ : q_St} {f i j : Nat} {x : Int32} (h : 0 ≠ f) : e_C_ops ad cs (q_up σ f i x) j = e_C_ops ad cs σ j := by
  unfold e_C_ops; rw [q_up_rowf h]
theorem u_C_nums {ad : Nat → Nat} {cs : Nat → ClassId} {σ : q_St} {f i j : Nat} {x : Int32} (h : 1 ≠ f) : e_C_nums ad cs (q_up σ f i x) j = e_C_nums ad cs σ j := by
  unfold e_C_nums; rw [q_up_rowf h]
theorem u_C_procs {ad : Nat → Nat} {cs : Nat → ClassId} {σ : q_St} {f i j : Nat} {x : Int32} : e_C_procs ad cs (q_up σ f i x) j = e_C_procs ad cs σ j := by rfl
theorem u_C_jobs {ad : Nat → Nat} {cs : Nat → ClassId} {σ : q_St} {f i j : Nat} {x : Int32} : e_C_jobs ad cs (q_up σ f i x) j = e_C_jobs ad cs σ j := by rfl
theorem u_C_Terminal {ad : Nat → Nat} {cs : Nat → ClassId} {σ : q_St} {f i j : Nat} {x : Int32} (h : (∀ g ∈ [22, 23], g ≠ f) ∨ 0 ≠ i) : e_C_Terminal ad cs (q_up σ f i x) j = e_C_Terminal ad cs σ j := by
  unfold e_C_Terminal
  rcases h with h | h
  · simp only [q_up_f (h 22 (by decide)), q_up_f (h 23 (by decide))]
  · simp only [q_up_i h]
theorem u_C_Display {ad : Nat → Nat} {cs : Nat → ClassId} {σ : q_St} {f i j : Nat} {x : Int32} (h : (∀ g ∈ [24, 25], g ≠ f) ∨ 0 ≠ i) : e_C_Display ad cs (q_up σ f i x) j = e_C_Display ad cs σ j := by
  unfold e_C_Display
  rcases h with h | h
  · simp only [q_up_f (h 24 (by decide)), q_up_f (h 25 (by decide))]
  · simp only [q_up_i h]
theorem u_C_codes {ad : Nat → Nat} {cs : Nat → ClassId} {σ : q_St} {f i j : Nat} {x : Int32} (h : 2 ≠ f) : e_C_codes ad cs (q_up σ f i x) j = e_C_codes ad cs σ j := by
  unfold e_C_codes; rw [q_up_rowf h]
theorem u_C_JobProcess {ad : Nat → Nat} {cs : Nat → ClassId} {σ : q_St} {f i j : Nat} {x : Int32} (h : (∀ g ∈ [32, 33, 34, 35, 36, 37, 38, 39, 40, 41], g ≠ f) ∨ j ≠ i) : e_C_JobProcess ad cs (q_up σ f i x) j = e_C_JobProcess ad cs σ j := by
  unfold e_C_JobProcess
  rcases h with h | h
  · simp only [q_up_f (h 32 (by decide)), q_up_f (h 33 (by decide)), q_up_f (h 34 (by decide)), q_up_f (h 35 (by decide)), q_up_f (h 36 (by decide)), q_up_f (h 37 (by decide)), q_up_f (h 38 (by decide)), q_up_f (h 39 (by decide)), q_up_f (h 40 (by decide)), q_up_f (h 41 (by decide))]
  · simp only [q_up_i h]
theorem u_C_Job {ad : Nat → Nat} {cs : Nat → ClassId} {σ : q_St} {f i j : Nat} {x : Int32} (h : (∀ g ∈ [28, 29, 30, 31], g ≠ f) ∨ j ≠ i) : e_C_Job ad cs (q_up σ f i x) j = e_C_Job ad cs σ j := by
  unfold e_C_Job
  rcases h with h | h
  · simp only [q_up_f (h 28 (by decide)), q_up_f (h 29 (by decide)), q_up_f (h 30 (by decide)), q_up_f (h 31 (by decide))]
  · simp only [q_up_i h]
theorem u_C_NumberRow {ad : Nat → Nat} {cs : Nat → ClassId} {σ : q_St} {f i j : Nat} {x : Int32} (h : (∀ g ∈ [26, 27], g ≠ f) ∨ j ≠ i) : e_C_NumberRow ad cs (q_up σ f i x) j = e_C_NumberRow ad cs σ j := by
  unfold e_C_NumberRow
  rcases h with h | h
  · simp only [q_up_f (h 26 (by decide)), q_up_f (h 27 (by decide))]
  · simp only [q_up_i h]
theorem u_C_rowarr {ad : Nat → Nat} {cs : Nat → ClassId} {σ : q_St} {f i j : Nat} {x : Int32} (h : (10 + j) ≠ f) : e_C_rowarr ad cs (q_up σ f i x) j = e_C_rowarr ad cs σ j := by
  unfold e_C_rowarr; rw [q_up_rowf h]
theorem h2_C_20 {ad : Nat → Nat} {cs : Nat → ClassId} {σ : q_St} {x : Int32} : ∀ k, k ≠ 0 → cC ad cs (q_up σ 20 0 x) k = cC ad cs σ k := by
  intro k hk
  unfold cC
  by_cases h0 : k < 1
  · exact absurd (show k = 0 by omega) hk
  rw [if_neg h0, if_neg h0]
  by_cases h1 : k < 2
  · rw [if_pos h1, if_pos h1]; exact u_C_Programs
  rw [if_neg h1, if_neg h1]
  by_cases h2 : k < 3
  · rw [if_pos h2, if_pos h2]; exact u_C_ops (by omega)
  rw [if_neg h2, if_neg h2]
  by_cases h3 : k < 4
  · rw [if_pos h3, if_pos h3]; exact u_C_nums (by omega)
  rw [if_neg h3, if_neg h3]
  by_cases h4 : k < 5
  · rw [if_pos h4, if_pos h4]; exact u_C_procs
  rw [if_neg h4, if_neg h4]
  by_cases h5 : k < 6
  · rw [if_pos h5, if_pos h5]; exact u_C_jobs
  rw [if_neg h5, if_neg h5]
  by_cases h6 : k < 7
  · rw [if_pos h6, if_pos h6]; exact u_C_Terminal (Or.inl (by decide))
  rw [if_neg h6, if_neg h6]
  by_cases h7 : k < 8
  · rw [if_pos h7, if_pos h7]; exact u_C_Display (Or.inl (by decide))
  rw [if_neg h7, if_neg h7]
  by_cases h8 : k < 9
  · rw [if_pos h8, if_pos h8]; exact u_C_codes (by omega)
  rw [if_neg h8, if_neg h8]
  by_cases h9 : k < 17
  · rw [if_pos h9, if_pos h9]; exact u_C_JobProcess (Or.inl (by decide))
  rw [if_neg h9, if_neg h9]
  by_cases h17 : k < 21
  · rw [if_pos h17, if_pos h17]; exact u_C_Job (Or.inl (by decide))
  rw [if_neg h17, if_neg h17]
  by_cases h21 : k < 27
  · rw [if_pos h21, if_pos h21]; exact u_C_NumberRow (Or.inl (by decide))
  rw [if_neg h21, if_neg h21]
  by_cases h27 : k < 33
  · rw [if_pos h27, if_pos h27]; exact u_C_rowarr (by omega)
  rw [if_neg h27, if_neg h27]
theorem h2_C_21 {ad : Nat → Nat} {cs : Nat → ClassId} {σ : q_St} {x : Int32} : ∀ k, k ≠ 0 → cC ad cs (q_up σ 21 0 x) k = cC ad cs σ k := by
  intro k hk
  unfold cC
  by_cases h0 : k < 1
  · exact absurd (show k = 0 by omega) hk
  rw [if_neg h0, if_neg h0]
  by_cases h1 : k < 2
  · rw [if_pos h1, if_pos h1]; exact u_C_Programs
  rw [if_neg h1, if_neg h1]
  by_cases h2 : k < 3
  · rw [if_pos h2, if_pos h2]; exact u_C_ops (by omega)
  rw [if_neg h2, if_neg h2]
  by_cases h3 : k < 4
  · rw [if_pos h3, if_pos h3]; exact u_C_nums (by omega)
  rw [if_neg h3, if_neg h3]
  by_cases h4 : k < 5
  · rw [if_pos h4, if_pos h4]; exact u_C_procs
  rw [if_neg h4, if_neg h4]
  by_cases h5 : k < 6
  · rw [if_pos h5, if_pos h5]; exact u_C_jobs
  rw [if_neg h5, if_neg h5]
  by_cases h6 : k < 7
  · rw [if_pos h6, if_pos h6]; exact u_C_Terminal (Or.inl (by decide))
  rw [if_neg h6, if_neg h6]
  by_cases h7 : k < 8
  · rw [if_pos h7, if_pos h7]; exact u_C_Display (Or.inl (by decide))
  rw [if_neg h7, if_neg h7]
  by_cases h8 : k < 9
  · rw [if_pos h8, if_pos h8]; exact u_C_codes (by omega)
  rw [if_neg h8, if_neg h8]
  by_cases h9 : k < 17
  · rw [if_pos h9, if_pos h9]; exact u_C_JobProcess (Or.inl (by decide))
  rw [if_neg h9, if_neg h9]
  by_cases h17 : k < 21
  · rw [if_pos h17, if_pos h17]; exact u_C_Job (Or.inl (by decide))
  rw [if_neg h17, if_neg h17]
  by_cases h21 : k < 27
  · rw [if_pos h21, if_pos h21]; exact u_C_NumberRow (Or.inl (by decide))
  rw [if_neg h21, if_neg h21]
  by_cases h27 : k < 33
  · rw [if_pos h27, if_pos h27]; exact u_C_rowarr (by omega)
  rw [if_neg h27, if_neg h27]
theorem h2_C_ops {ad : Nat → Nat} {cs : Nat → ClassId} {σ : q_St} {j : Nat} {x : Int32} : ∀ k, k ≠ 2 → cC ad cs (q_up σ 0 j x) k = cC ad cs σ k := by
  intro k hk
  unfold cC
  by_cases h0 : k < 1
  · rw [if_pos h0, if_pos h0]; exact u_C_JT (Or.inl (by decide))
  rw [if_neg h0, if_neg h0]
  by_cases h1 : k < 2
  · rw [if_pos h1, if_pos h1]; exact u_C_Programs
  rw [if_neg h1, if_neg h1]
  by_cases h2 : k < 3
  · exact absurd (show k = 2 by omega) hk
  rw [if_neg h2, if_neg h2]
  by_cases h3 : k < 4
  · rw [if_pos h3, if_pos h3]; exact u_C_nums (by omega)
  rw [if_neg h3, if_neg h3]
  by_cases h4 : k < 5
  · rw [if_pos h4, if_pos h4]; exact u_C_procs
  rw [if_neg h4, if_neg h4]
  by_cases h5 : k < 6
  · rw [if_pos h5, if_pos h5]; exact u_C_jobs
  rw [if_neg h5, if_neg h5]
  by_cases h6 : k < 7
  · rw [if_pos h6, if_pos h6]; exact u_C_Terminal (Or.inl (by decide))
  rw [if_neg h6, if_neg h6]
  by_cases h7 : k < 8
  · rw [if_pos h7, if_pos h7]; exact u_C_Display (Or.inl (by decide))
  rw [if_neg h7, if_neg h7]
  by_cases h8 : k < 9
  · rw [if_pos h8, if_pos h8]; exact u_C_codes (by omega)
  rw [if_neg h8, if_neg h8]
  by_cases h9 : k < 17
  · rw [if_pos h9, if_pos h9]; exact u_C_JobProcess (Or.inl (by decide))
  rw [if_neg h9, if_neg h9]
  by_cases h17 : k < 21
  · rw [if_pos h17, if_pos h17]; exact u_C_Job (Or.inl (by decide))
  rw [if_neg h17, if_neg h17]
  by_cases h21 : k < 27
  · rw [if_pos h21, if_pos h21]; exact u_C_NumberRow (Or.inl (by decide))
  rw [if_neg h21, if_neg h21]
  by_cases h27 : k < 33
  · rw [if_pos h27, if_pos h27]; exact u_C_rowarr (by omega)
  rw [if_neg h27, if_neg h27]
theorem h2_C_nums {ad : Nat → Nat} {cs : Nat → ClassId} {σ : q_St} {j : Nat} {x : Int32} : ∀ k, k ≠ 3 → cC ad cs (q_up σ 1 j x) k = cC ad cs σ k := by
  intro k hk
  unfold cC
  by_cases h0 : k < 1
  · rw [if_pos h0, if_pos h0]; exact u_C_JT (Or.inl (by decide))
  rw [if_neg h0, if_neg h0]
  by_cases h1 : k < 2
  · rw [if_pos h1, if_pos h1]; exact u_C_Programs
  rw [if_neg h1, if_neg h1]
  by_cases h2 : k < 3
  · rw [if_pos h2, if_pos h2]; exact u_C_ops (by omega)
  rw [if_neg h2, if_neg h2]
  by_cases h3 : k < 4
  · exact absurd (show k = 3 by omega) hk
  rw [if_neg h3, if_neg h3]
  by_cases h4 : k < 5
  · rw [if_pos h4, if_pos h4]; exact u_C_procs
  rw [if_neg h4, if_neg h4]
  by_cases h5 : k < 6
  · rw [if_pos h5, if_pos h5]; exact u_C_jobs
  rw [if_neg h5, if_neg h5]
  by_cases h6 : k < 7
  · rw [if_pos h6, if_pos h6]; exact u_C_Terminal (Or.inl (by decide))
  rw [if_neg h6, if_neg h6]
  by_cases h7 : k < 8
  · rw [if_pos h7, if_pos h7]; exact u_C_Display (Or.inl (by decide))
  rw [if_neg h7, if_neg h7]
  by_cases h8 : k < 9
  · rw [if_pos h8, if_pos h8]; exact u_C_codes (by omega)
  rw [if_neg h8, if_neg h8]
  by_cases h9 : k < 17
  · rw [if_pos h9, if_pos h9]; exact u_C_JobProcess (Or.inl (by decide))
  rw [if_neg h9, if_neg h9]
  by_cases h17 : k < 21
  · rw [if_pos h17, if_pos h17]; exact u_C_Job (Or.inl (by decide))
  rw [if_neg h17, if_neg h17]
  by_cases h21 : k < 27
  · rw [if_pos h21, if_pos h21]; exact u_C_NumberRow (Or.inl (by decide))
  rw [if_neg h21, if_neg h21]
  by_cases h27 : k < 33
  · rw [if_pos h27, if_pos h27]; exact u_C_rowarr (by omega)
  rw [if_neg h27, if_neg h27]
theorem h2_C_22 {ad : Nat → Nat} {cs : Nat → ClassId} {σ : q_St} {x : Int32} : ∀ k, k ≠ 6 → cC ad cs (q_up σ 22 0 x) k = cC ad cs σ k := by
  intro k hk
  unfold cC
  by_cases h0 : k < 1
  · rw [if_pos h0, if_pos h0]; exact u_C_JT (Or.inl (by decide))
  rw [if_neg h0, if_neg h0]
  by_cases h1 : k < 2
  · rw [if_pos h1, if_pos h1]; exact u_C_Programs
  rw [if_neg h1, if_neg h1]
  by_cases h2 : k < 3
  · rw [if_pos h2, if_pos h2]; exact u_C_ops (by omega)
  rw [if_neg h2, if_neg h2]
  by_cases h3 : k < 4
  · rw [if_pos h3, if_pos h3]; exact u_C_nums (by omega)
  rw [if_neg h3, if_neg h3]
  by_cases h4 : k < 5
  · rw [if_pos h4, if_pos h4]; exact u_C_procs
  rw [if_neg h4, if_neg h4]
  by_cases h5 : k < 6
  · rw [if_pos h5, if_pos h5]; exact u_C_jobs
  rw [if_neg h5, if_neg h5]
  by_cases h6 : k < 7
  · exact absurd (show k = 6 by omega) hk
  rw [if_neg h6, if_neg h6]
  by_cases h7 : k < 8
  · rw [if_pos h7, if_pos h7]; exact u_C_Display (Or.inl (by decide))
  rw [if_neg h7, if_neg h7]
  by_cases h8 : k < 9
  · rw [if_pos h8, if_pos h8]; exact u_C_codes (by omega)
  rw [if_neg h8, if_neg h8]
  by_cases h9 : k < 17
  · rw [if_pos h9, if_pos h9]; exact u_C_JobProcess (Or.inl (by decide))
  rw [if_neg h9, if_neg h9]
  by_cases h17 : k < 21
  · rw [if_pos h17, if_pos h17]; exact u_C_Job (Or.inl (by decide))
  rw [if_neg h17, if_neg h17]
  by_cases h21 : k < 27
  · rw [if_pos h21, if_pos h21]; exact u_C_NumberRow (Or.inl (by decide))
  rw [if_neg h21, if_neg h21]
  by_cases h27 : k < 33
  · rw [if_pos h27, if_pos h27]; exact u_C_rowarr (by omega)
  rw [if_neg h27, if_neg h27]
theorem h2_C_23 {ad : Nat → Nat} {cs : Nat → ClassId} {σ : q_St} {x : Int32} : ∀ k, k ≠ 6 → cC ad cs (q_up σ 23 0 x) k = cC ad cs σ k := by
  intro k hk
  unfold cC
  by_cases h0 : k < 1
  · rw [if_pos h0, if_pos h0]; exact u_C_JT (Or.inl (by decide))
  rw [if_neg h0, if_neg h0]
  by_cases h1 : k < 2
  · rw [if_pos h1, if_pos h1]; exact u_C_Programs
  rw [if_neg h1, if_neg h1]
  by_cases h2 : k < 3
  · rw [if_pos h2, if_pos h2]; exact u_C_ops (by omega)
  rw [if_neg h2, if_neg h2]
  by_cases h3 : k < 4
  · rw [if_pos h3, if_pos h3]; exact u_C_nums (by omega)
  rw [if_neg h3, if_neg h3]
  by_cases h4 : k < 5
  · rw [if_pos h4, if_pos h4]; exact u_C_procs
  rw [if_neg h4, if_neg h4]
  by_cases h5 : k < 6
  · rw [if_pos h5, if_pos h5]; exact u_C_jobs
  rw [if_neg h5, if_neg h5]
  by_cases h6 : k < 7
  · exact absurd (show k = 6 by omega) hk
  rw [if_neg h6, if_neg h6]
  by_cases h7 : k < 8
  · rw [if_pos h7, if_pos h7]; exact u_C_Display (Or.inl (by decide))
  rw [if_neg h7, if_neg h7]
  by_cases h8 : k < 9
  · rw [if_pos h8, if_pos h8]; exact u_C_codes (by omega)
  rw [if_neg h8, if_neg h8]
  by_cases h9 : k < 17
  · rw [if_pos h9, if_pos h9]; exact u_C_JobProcess (Or.inl (by decide))
  rw [if_neg h9, if_neg h9]
  by_cases h17 : k < 21
  · rw [if_pos h17, if_pos h17]; exact u_C_Job (Or.inl (by decide))
  rw [if_neg h17, if_neg h17]
  by_cases h21 : k < 27
  · rw [if_pos h21, if_pos h21]; exact u_C_NumberRow (Or.inl (by decide))
  rw [if_neg h21, if_neg h21]
  by_cases h27 : k < 33
  · rw [if_pos h27, if_pos h27]; exact u_C_rowarr (by omega)
  rw [if_neg h27, if_neg h27]
theorem h2_C_24 {ad : Nat → Nat} {cs : Nat → ClassId} {σ : q_St} {x : Int32} : ∀ k, k ≠ 7 → cC ad cs (q_up σ 24 0 x) k = cC ad cs σ k := by
  intro k hk
  unfold cC
  by_cases h0 : k < 1
  · rw [if_pos h0, if_pos h0]; exact u_C_JT (Or.inl (by decide))
  rw [if_neg h0, if_neg h0]
  by_cases h1 : k < 2
  · rw [if_pos h1, if_pos h1]; exact u_C_Programs
  rw [if_neg h1, if_neg h1]
  by_cases h2 : k < 3
  · rw [if_pos h2, if_pos h2]; exact u_C_ops (by omega)
  rw [if_neg h2, if_neg h2]
  by_cases h3 : k < 4
  · rw [if_pos h3, if_pos h3]; exact u_C_nums (by omega)
  rw [if_neg h3, if_neg h3]
  by_cases h4 : k < 5
  · rw [if_pos h4, if_pos h4]; exact u_C_procs
  rw [if_neg h4, if_neg h4]
  by_cases h5 : k < 6
  · rw [if_pos h5, if_pos h5]; exact u_C_jobs
  rw [if_neg h5, if_neg h5]
  by_cases h6 : k < 7
  · rw [if_pos h6, if_pos h6]; exact u_C_Terminal (Or.inl (by decide))
  rw [if_neg h6, if_neg h6]
  by_cases h7 : k < 8
  · exact absurd (show k = 7 by omega) hk
  rw [if_neg h7, if_neg h7]
  by_cases h8 : k < 9
  · rw [if_pos h8, if_pos h8]; exact u_C_codes (by omega)
  rw [if_neg h8, if_neg h8]
  by_cases h9 : k < 17
  · rw [if_pos h9, if_pos h9]; exact u_C_JobProcess (Or.inl (by decide))
  rw [if_neg h9, if_neg h9]
  by_cases h17 : k < 21
  · rw [if_pos h17, if_pos h17]; exact u_C_Job (Or.inl (by decide))
  rw [if_neg h17, if_neg h17]
  by_cases h21 : k < 27
  · rw [if_pos h21, if_pos h21]; exact u_C_NumberRow (Or.inl (by decide))
  rw [if_neg h21, if_neg h21]
  by_cases h27 : k < 33
  · rw [if_pos h27, if_pos h27]; exact u_C_rowarr (by omega)
  rw [if_neg h27, if_neg h27]
theorem h2_C_25 {ad : Nat → Nat} {cs : Nat → ClassId} {σ : q_St} {x : Int32} : ∀ k, k ≠ 7 → cC ad cs (q_up σ 25 0 x) k = cC ad cs σ k := by
  intro k hk
  unfold cC
  by_cases h0 : k < 1
  · rw [if_pos h0, if_pos h0]; exact u_C_JT (Or.inl (by decide))
  rw [if_neg h0, if_neg h0]
  by_cases h1 : k < 2
  · rw [if_pos h1, if_pos h1]; exact u_C_Programs
  rw [if_neg h1, if_neg h1]
  by_cases h2 : k < 3
  · rw [if_pos h2, if_pos h2]; exact u_C_ops (by omega)
  rw [if_neg h2, if_neg h2]
  by_cases h3 : k < 4
  · rw [if_pos h3, if_pos h3]; exact u_C_nums (by omega)
  rw [if_neg h3, if_neg h3]
  by_cases h4 : k < 5
  · rw [if_pos h4, if_pos h4]; exact u_C_procs
  rw [if_neg h4, if_neg h4]
  by_cases h5 : k < 6
  · rw [if_pos h5, if_pos h5]; exact u_C_jobs
  rw [if_neg h5, if_neg h5]
  by_cases h6 : k < 7
  · rw [if_pos h6, if_pos h6]; exact u_C_Terminal (Or.inl (by decide))
  rw [if_neg h6, if_neg h6]
  by_cases h7 : k < 8
  · exact absurd (show k = 7 by omega) hk
  rw [if_neg h7, if_neg h7]
  by_cases h8 : k < 9
  · rw [if_pos h8, if_pos h8]; exact u_C_codes (by omega)
  rw [if_neg h8, if_neg h8]
  by_cases h9 : k < 17
  · rw [if_pos h9, if_pos h9]; exact u_C_JobProcess (Or.inl (by decide))
  rw [if_neg h9, if_neg h9]
  by_cases h17 : k < 21
  · rw [if_pos h17, if_pos h17]; exact u_C_Job (Or.inl (by decide))
  rw [if_neg h17, if_neg h17]
  by_cases h21 : k < 27
  · rw [if_pos h21, if_pos h21]; exact u_C_NumberRow (Or.inl (by decide))
  rw [if_neg h21, if_neg h21]
  by_cases h27 : k < 33
  · rw [if_pos h27, if_pos h27]; exact u_C_rowarr (by omega)
  rw [if_neg h27, if_neg h27]
theorem h2_C_codes {ad : Nat → Nat} {cs : Nat → ClassId} {σ : q_St} {j : Nat} {x : Int32} : ∀ k, k ≠ 8 → cC ad cs (q_up σ 2 j x) k = cC ad cs σ k := by
  intro k hk
  unfold cC
  by_cases h0 : k < 1
  · rw [if_pos h0, if_pos h0]; exact u_C_JT (Or.inl (by decide))
  rw [if_neg h0, if_neg h0]
  by_cases h1 : k < 2
  · rw [if_pos h1, if_pos h1]; exact u_C_Programs
  rw [if_neg h1, if_neg h1]
  by_cases h2 : k < 3
  · rw [if_pos h2, if_pos h2]; exact u_C_ops (by omega)
  rw [if_neg h2, if_neg h2]
  by_cases h3 : k < 4
  · rw [if_pos h3, if_pos h3]; exact u_C_nums (by omega)
  rw [if_neg h3, if_neg h3]
  by_cases h4 : k < 5
  · rw [if_pos h4, if_pos h4]; exact u_C_procs
  rw [if_neg h4, if_neg h4]
  by_cases h5 : k < 6
  · rw [if_pos h5, if_pos h5]; exact u_C_jobs
  rw [if_neg h5, if_neg h5]
  by_cases h6 : k < 7
  · rw [if_pos h6, if_pos h6]; exact u_C_Terminal (Or.inl (by decide))
  rw [if_neg h6, if_neg h6]
  by_cases h7 : k < 8
  · rw [if_pos h7, if_pos h7]; exact u_C_Display (Or.inl (by decide))
  rw [if_neg h7, if_neg h7]
  by_cases h8 : k < 9
  · exact absurd (show k = 8 by omega) hk
  rw [if_neg h8, if_neg h8]
  by_cases h9 : k < 17
  · rw [if_pos h9, if_pos h9]; exact u_C_JobProcess (Or.inl (by decide))
  rw [if_neg h9, if_neg h9]
  by_cases h17 : k < 21
  · rw [if_pos h17, if_pos h17]; exact u_C_Job (Or.inl (by decide))
  rw [if_neg h17, if_neg h17]
  by_cases h21 : k < 27
  · rw [if_pos h21, if_pos h21]; exact u_C_NumberRow (Or.inl (by decide))
  rw [if_neg h21, if_neg h21]
  by_cases h27 : k < 33
  · rw [if_pos h27, if_pos h27]; exact u_C_rowarr (by omega)
  rw [if_neg h27, if_neg h27]
theorem h2_C_32 {ad : Nat → Nat} {cs : Nat → ClassId} {σ : q_St} {i : Nat} {x : Int32} (hi : i < 8) : ∀ k, k ≠ 9 + i → cC ad cs (q_up σ 32 i x) k = cC ad cs σ k := by
  intro k hk
  unfold cC
  by_cases h0 : k < 1
  · rw [if_pos h0, if_pos h0]; exact u_C_JT (Or.inl (by decide))
  rw [if_neg h0, if_neg h0]
  by_cases h1 : k < 2
  · rw [if_pos h1, if_pos h1]; exact u_C_Programs
  rw [if_neg h1, if_neg h1]
  by_cases h2 : k < 3
  · rw [if_pos h2, if_pos h2]; exact u_C_ops (by omega)
  rw [if_neg h2, if_neg h2]
  by_cases h3 : k < 4
  · rw [if_pos h3, if_pos h3]; exact u_C_nums (by omega)
  rw [if_neg h3, if_neg h3]
  by_cases h4 : k < 5
  · rw [if_pos h4, if_pos h4]; exact u_C_procs
  rw [if_neg h4, if_neg h4]
  by_cases h5 : k < 6
  · rw [if_pos h5, if_pos h5]; exact u_C_jobs
  rw [if_neg h5, if_neg h5]
  by_cases h6 : k < 7
  · rw [if_pos h6, if_pos h6]; exact u_C_Terminal (Or.inl (by decide))
  rw [if_neg h6, if_neg h6]
  by_cases h7 : k < 8
  · rw [if_pos h7, if_pos h7]; exact u_C_Display (Or.inl (by decide))
  rw [if_neg h7, if_neg h7]
  by_cases h8 : k < 9
  · rw [if_pos h8, if_pos h8]; exact u_C_codes (by omega)
  rw [if_neg h8, if_neg h8]
  by_cases h9 : k < 17
  · rw [if_pos h9, if_pos h9]; exact u_C_JobProcess (Or.inr (by omega))
  rw [if_neg h9, if_neg h9]
  by_cases h17 : k < 21
  · rw [if_pos h17, if_pos h17]; exact u_C_Job (Or.inl (by decide))
  rw [if_neg h17, if_neg h17]
  by_cases h21 : k < 27
  · rw [if_pos h21, if_pos h21]; exact u_C_NumberRow (Or.inl (by decide))
  rw [if_neg h21, if_neg h21]
  by_cases h27 : k < 33
  · rw [if_pos h27, if_pos h27]; exact u_C_rowarr (by omega)
  rw [if_neg h27, if_neg h27]
theorem h2_C_33 {ad : Nat → Nat} {cs : Nat → ClassId} {σ : q_St} {i : Nat} {x : Int32} (hi : i < 8) : ∀ k, k ≠ 9 + i → cC ad cs (q_up σ 33 i x) k = cC ad cs σ k := by
  intro k hk
  unfold cC
  by_cases h0 : k < 1
  · rw [if_pos h0, if_pos h0]; exact u_C_JT (Or.inl (by decide))
  rw [if_neg h0, if_neg h0]
  by_cases h1 : k < 2
  · rw [if_pos h1, if_pos h1]; exact u_C_Programs
  rw [if_neg h1, if_neg h1]
  by_cases h2 : k < 3
  · rw [if_pos h2, if_pos h2]; exact u_C_ops (by omega)
  rw [if_neg h2, if_neg h2]
  by_cases h3 : k < 4
  · rw [if_pos h3, if_pos h3]; exact u_C_nums (by omega)
  rw [if_neg h3, if_neg h3]
  by_cases h4 : k < 5
  · rw [if_pos h4, if_pos h4]; exact u_C_procs
  rw [if_neg h4, if_neg h4]
  by_cases h5 : k < 6
  · rw [if_pos h5, if_pos h5]; exact u_C_jobs
  rw [if_neg h5, if_neg h5]
  by_cases h6 : k < 7
  · rw [if_pos h6, if_pos h6]; exact u_C_Terminal (Or.inl (by decide))
  rw [if_neg h6, if_neg h6]
  by_cases h7 : k < 8
  · rw [if_pos h7, if_pos h7]; exact u_C_Display (Or.inl (by decide))
  rw [if_neg h7, if_neg h7]
  by_cases h8 : k < 9
  · rw [if_pos h8, if_pos h8]; exact u_C_codes (by omega)
  rw [if_neg h8, if_neg h8]
  by_cases h9 : k < 17
  · rw [if_pos h9, if_pos h9]; exact u_C_JobProcess (Or.inr (by omega))
  rw [if_neg h9, if_neg h9]
  by_cases h17 : k < 21
  · rw [if_pos h17, if_pos h17]; exact u_C_Job (Or.inl (by decide))
  rw [if_neg h17, if_neg h17]
  by_cases h21 : k < 27
  · rw [if_pos h21, if_pos h21]; exact u_C_NumberRow (Or.inl (by decide))
  rw [if_neg h21, if_neg h21]
  by_cases h27 : k < 33
  · rw [if_pos h27, if_pos h27]; exact u_C_rowarr (by omega)
  rw [if_neg h27, if_neg h27]
theorem h2_C_34 {ad : Nat → Nat} {cs : Nat → ClassId} {σ : q_St} {i : Nat} {x : Int32} (hi : i < 8) : ∀ k, k ≠ 9 + i → cC ad cs (q_up σ 34 i x) k = cC ad cs σ k := by
  intro k hk
  unfold cC
  by_cases h0 : k < 1
  · rw [if_pos h0, if_pos h0]; exact u_C_JT (Or.inl (by decide))
  rw [if_neg h0, if_neg h0]
  by_cases h1 : k < 2
  · rw [if_pos h1, if_pos h1]; exact u_C_Programs
  rw [if_neg h1, if_neg h1]
  by_cases h2 : k < 3
  · rw [if_pos h2, if_pos h2]; exact u_C_ops (by omega)
  rw [if_neg h2, if_neg h2]
  by_cases h3 : k < 4
  · rw [if_pos h3, if_pos h3]; exact u_C_nums (by omega)
  rw [if_neg h3, if_neg h3]
  by_cases h4 : k < 5
  · rw [if_pos h4, if_pos h4]; exact u_C_procs
  rw [if_neg h4, if_neg h4]
  by_cases h5 : k < 6
  · rw [if_pos h5, if_pos h5]; exact u_C_jobs
  rw [if_neg h5, if_neg h5]
  by_cases h6 : k < 7
  · rw [if_pos h6, if_pos h6]; exact u_C_Terminal (Or.inl (by decide))
  rw [if_neg h6, if_neg h6]
  by_cases h7 : k < 8
  · rw [if_pos h7, if_pos h7]; exact u_C_Display (Or.inl (by decide))
  rw [if_neg h7, if_neg h7]
  by_cases h8 : k < 9
  · rw [if_pos h8, if_pos h8]; exact u_C_codes (by omega)
  rw [if_neg h8, if_neg h8]
  by_cases h9 : k < 17
  · rw [if_pos h9, if_pos h9]; exact u_C_JobProcess (Or.inr (by omega))
  rw [if_neg h9, if_neg h9]
  by_cases h17 : k < 21
  · rw [if_pos h17, if_pos h17]; exact u_C_Job (Or.inl (by decide))
  rw [if_neg h17, if_neg h17]
  by_cases h21 : k < 27
  · rw [if_pos h21, if_pos h21]; exact u_C_NumberRow (Or.inl (by decide))
  rw [if_neg h21, if_neg h21]
  by_cases h27 : k < 33
  · rw [if_pos h27, if_pos h27]; exact u_C_rowarr (by omega)
  rw [if_neg h27, if_neg h27]
theorem h2_C_35 {ad : Nat → Nat} {cs : Nat → ClassId} {σ : q_St} {i : Nat} {x : Int32} (hi : i < 8) : ∀ k, k ≠ 9 + i → cC ad cs (q_up σ 35 i x) k = cC ad cs σ k := by
  intro k hk
  unfold cC
  by_cases h0 : k < 1
  · rw [if_pos h0, if_pos h0]; exact u_C_JT (Or.inl (by decide))
  rw [if_neg h0, if_neg h0]
  by_cases h1 : k < 2
  · rw [if_pos h1, if_pos h1]; exact u_C_Programs
  rw [if_neg h1, if_neg h1]
  by_cases h2 : k < 3
  · rw [if_pos h2, if_pos h2]; exact u_C_ops (by omega)
  rw [if_neg h2, if_neg h2]
  by_cases h3 : k < 4
  · rw [if_pos h3, if_pos h3]; exact u_C_nums (by omega)
  rw [if_neg h3, if_neg h3]
  by_cases h4 : k < 5
  · rw [if_pos h4, if_pos h4]; exact u_C_procs
  rw [if_neg h4, if_neg h4]
  by_cases h5 : k < 6
  · rw [if_pos h5, if_pos h5]; exact u_C_jobs
  rw [if_neg h5, if_neg h5]
  by_cases h6 : k < 7
  · rw [if_pos h6, if_pos h6]; exact u_C_Terminal (Or.inl (by decide))
  rw [if_neg h6, if_neg h6]
  by_cases h7 : k < 8
  · rw [if_pos h7, if_pos h7]; exact u_C_Display (Or.inl (by decide))
  rw [if_neg h7, if_neg h7]
  by_cases h8 : k < 9
  · rw [if_pos h8, if_pos h8]; exact u_C_codes (by omega)
  rw [if_neg h8, if_neg h8]
  by_cases h9 : k < 17
  · rw [if_pos h9, if_pos h9]; exact u_C_JobProcess (Or.inr (by omega))
  rw [if_neg h9, if_neg h9]
  by_cases h17 : k < 21
  · rw [if_pos h17, if_pos h17]; exact u_C_Job (Or.inl (by decide))
  rw [if_neg h17, if_neg h17]
  by_cases h21 : k < 27
  · rw [if_pos h21, if_pos h21]; exact u_C_NumberRow (Or.inl (by decide))
  rw [if_neg h21, if_neg h21]
  by_cases h27 : k < 33
  · rw [if_pos h27, if_pos h27]; exact u_C_rowarr (by omega)
  rw [if_neg h27, if_neg h27]
theorem h2_C_36 {ad : Nat → Nat} {cs : Nat → ClassId} {σ : q_St} {i : Nat} {x : Int32} (hi : i < 8) : ∀ k, k ≠ 9 + i → cC ad cs (q_up σ 36 i x) k = cC ad cs σ k := by
  intro k hk
  unfold cC
  by_cases h0 : k < 1
  · rw [if_pos h0, if_pos h0]; exact u_C_JT (Or.inl (by decide))
  rw [if_neg h0, if_neg h0]
  by_cases h1 : k < 2
  · rw [if_pos h1, if_pos h1]; exact u_C_Programs
  rw [if_neg h1, if_neg h1]
  by_cases h2 : k < 3
  · rw [if_pos h2, if_pos h2]; exact u_C_ops (by omega)
  rw [if_neg h2, if_neg h2]
  by_cases h3 : k < 4
  · rw [if_pos h3, if_pos h3]; exact u_C_nums (by omega)
  rw [if_neg h3, if_neg h3]
  by_cases h4 : k < 5
  · rw [if_pos h4, if_pos h4]; exact u_C_procs
  rw [if_neg h4, if_neg h4]
  by_cases h5 : k < 6
  · rw [if_pos h5, if_pos h5]; exact u_C_jobs
  rw [if_neg h5, if_neg h5]
  by_cases h6 : k < 7
  · rw [if_pos h6, if_pos h6]; exact u_C_Terminal (Or.inl (by decide))
  rw [if_neg h6, if_neg h6]
  by_cases h7 : k < 8
  · rw [if_pos h7, if_pos h7]; exact u_C_Display (Or.inl (by decide))
  rw [if_neg h7, if_neg h7]
  by_cases h8 : k < 9
  · rw [if_pos h8, if_pos h8]; exact u_C_codes (by omega)
  rw [if_neg h8, if_neg h8]
  by_cases h9 : k < 17
  · rw [if_pos h9, if_pos h9]; exact u_C_JobProcess (Or.inr (by omega))
  rw [if_neg h9, if_neg h9]
  by_cases h17 : k < 21
  · rw [if_pos h17, if_pos h17]; exact u_C_Job (Or.inl (by decide))
  rw [if_neg h17, if_neg h17]
  by_cases h21 : k < 27
  · rw [if_pos h21, if_pos h21]; exact u_C_NumberRow (Or.inl (by decide))
  rw [if_neg h21, if_neg h21]
  by_cases h27 : k < 33
  · rw [if_pos h27, if_pos h27]; exact u_C_rowarr (by omega)
  rw [if_neg h27, if_neg h27]
theorem h2_C_37 {ad : Nat → Nat} {cs : Nat → ClassId} {σ : q_St} {i : Nat} {x : Int32} (hi : i < 8) : ∀ k, k ≠ 9 + i → cC ad cs (q_up σ 37 i x) k = cC ad cs σ k := by
  intro k hk
  unfold cC
  by_cases h0 : k < 1
  · rw [if_pos h0, if_pos h0]; exact u_C_JT (Or.inl (by decide))
  rw [if_neg h0, if_neg h0]
  by_cases h1 : k < 2
  · rw [if_pos h1, if_pos h1]; exact u_C_Programs
  rw [if_neg h1, if_neg h1]
  by_cases h2 : k < 3
  · rw [if_pos h2, if_pos h2]; exact u_C_ops (by omega)
  rw [if_neg h2, if_neg h2]
  by_cases h3 : k < 4
  · rw [if_pos h3, if_pos h3]; exact u_C_nums (by omega)
  rw [if_neg h3, if_neg h3]
  by_cases h4 : k < 5
  · rw [if_pos h4, if_pos h4]; exact u_C_procs
  rw [if_neg h4, if_neg h4]
  by_cases h5 : k < 6
  · rw [if_pos h5, if_pos h5]; exact u_C_jobs
  rw [if_neg h5, if_neg h5]
  by_cases h6 : k < 7
  · rw [if_pos h6, if_pos h6]; exact u_C_Terminal (Or.inl (by decide))
  rw [if_neg h6, if_neg h6]
  by_cases h7 : k < 8
  · rw [if_pos h7, if_pos h7]; exact u_C_Display (Or.inl (by decide))
  rw [if_neg h7, if_neg h7]
  by_cases h8 : k < 9
  · rw [if_pos h8, if_pos h8]; exact u_C_codes (by omega)
  rw [if_neg h8, if_neg h8]
  by_cases h9 : k < 17
  · rw [if_pos h9, if_pos h9]; exact u_C_JobProcess (Or.inr (by omega))
  rw [if_neg h9, if_neg h9]
  by_cases h17 : k < 21
  · rw [if_pos h17, if_pos h17]; exact u_C_Job (Or.inl (by decide))
  rw [if_neg h17, if_neg h17]
  by_cases h21 : k < 27
  · rw [if_pos h21, if_pos h21]; exact u_C_NumberRow (Or.inl (by decide))
  rw [if_neg h21, if_neg h21]
  by_cases h27 : k < 33
  · rw [if_pos h27, if_pos h27]; exact u_C_rowarr (by omega)
  rw [if_neg h27, if_neg h27]
theorem h2_C_38 {ad : Nat → Nat} {cs : Nat → ClassId} {σ : q_St} {i : Nat} {x : Int32} (hi : i < 8) : ∀ k, k ≠ 9 + i → cC ad cs (q_up σ 38 i x) k = cC ad cs σ k := by
  intro k hk
  unfold cC
  by_cases h0 : k < 1
  · rw [if_pos h0, if_pos h0]; exact u_C_JT (Or.inl (by decide))
  rw [if_neg h0, if_neg h0]
  by_cases h1 : k < 2
  · rw [if_pos h1, if_pos h1]; exact u_C_Programs
  rw [if_neg h1, if_neg h1]
  by_cases h2 : k < 3
  · rw [if_pos h2, if_pos h2]; exact u_C_ops (by omega)
  rw [if_neg h2, if_neg h2]
  by_cases h3 : k < 4
  · rw [if_pos h3, if_pos h3]; exact u_C_nums (by omega)
  rw [if_neg h3, if_neg h3]
  by_cases h4 : k < 5
  · rw [if_pos h4, if_pos h4]; exact u_C_procs
  rw [if_neg h4, if_neg h4]
  by_cases h5 : k < 6
  · rw [if_pos h5, if_pos h5]; exact u_C_jobs
  rw [if_neg h5, if_neg h5]
  by_cases h6 : k < 7
  · rw [if_pos h6, if_pos h6]; exact u_C_Terminal (Or.inl (by decide))
  rw [if_neg h6, if_neg h6]
  by_cases h7 : k < 8
  · rw [if_pos h7, if_pos h7]; exact u_C_Display (Or.inl (by decide))
  rw [if_neg h7, if_neg h7]
  by_cases h8 : k < 9
  · rw [if_pos h8, if_pos h8]; exact u_C_codes (by omega)
  rw [if_neg h8, if_neg h8]
  by_cases h9 : k < 17
  · rw [if_pos h9, if_pos h9]; exact u_C_JobProcess (Or.inr (by omega))
  rw [if_neg h9, if_neg h9]
  by_cases h17 : k < 21
  · rw [if_pos h17, if_pos h17]; exact u_C_Job (Or.inl (by decide))
  rw [if_neg h17, if_neg h17]
  by_cases h21 : k < 27
  · rw [if_pos h21, if_pos h21]; exact u_C_NumberRow (Or.inl (by decide))
  rw [if_neg h21, if_neg h21]
  by_cases h27 : k < 33
  · rw [if_pos h27, if_pos h27]; exact u_C_rowarr (by omega)
  rw [if_neg h27, if_neg h27]
theorem h2_C_39 {ad : Nat → Nat} {cs : Nat → ClassId} {σ : q_St} {i : Nat} {x : Int32} (hi : i < 8) : ∀ k, k ≠ 9 + i → cC ad cs (q_up σ 39 i x) k = cC ad cs σ k := by
  intro k hk
  unfold cC
  by_cases h0 : k < 1
  · rw [if_pos h0, if_pos h0]; exact u_C_JT (Or.inl (by decide))
  rw [if_neg h0, if_neg h0]
  by_cases h1 : k < 2
  · rw [if_pos h1, if_pos h1]; exact u_C_Programs
  rw [if_neg h1, if_neg h1]
  by_cases h2 : k < 3
  · rw [if_pos h2, if_pos h2]; exact u_C_ops (by omega)
  rw [if_neg h2, if_neg h2]
  by_cases h3 : k < 4
  · rw [if_pos h3, if_pos h3]; exact u_C_nums (by omega)
  rw [if_neg h3, if_neg h3]
  by_cases h4 : k < 5
  · rw [if_pos h4, if_pos h4]; exact u_C_procs
  rw [if_neg h4, if_neg h4]
  by_cases h5 : k < 6
  · rw [if_pos h5, if_pos h5]; exact u_C_jobs
  rw [if_neg h5, if_neg h5]
  by_cases h6 : k < 7
  · rw [if_pos h6, if_pos h6]; exact u_C_Terminal (Or.inl (by decide))
  rw [if_neg h6, if_neg h6]
  by_cases h7 : k < 8
  · rw [if_pos h7, if_pos h7]; exact u_C_Display (Or.inl (by decide))
  rw [if_neg h7, if_neg h7]
  by_cases h8 : k < 9
  · rw [if_pos h8, if_pos h8]; exact u_C_codes (by omega)
  rw [if_neg h8, if_neg h8]
  by_cases h9 : k < 17
  · rw [if_pos h9, if_pos h9]; exact u_C_JobProcess (Or.inr (by omega))
  rw [if_neg h9, if_neg h9]
  by_cases h17 : k < 21
  · rw [if_pos h17, if_pos h17]; exact u_C_Job (Or.inl (by decide))
  rw [if_neg h17, if_neg h17]
  by_cases h21 : k < 27
  · rw [if_pos h21, if_pos h21]; exact u_C_NumberRow (Or.inl (by decide))
  rw [if_neg h21, if_neg h21]
  by_cases h27 : k < 33
  · rw [if_pos h27, if_pos h27]; exact u_C_rowarr (by omega)
  rw [if_neg h27, if_neg h27]
theorem h2_C_40 {ad : Nat → Nat} {cs : Nat → ClassId} {σ : q_St} {i : Nat} {x : Int32} (hi : i < 8) : ∀ k, k ≠ 9 + i → cC ad cs (q_up σ 40 i x) k = cC ad cs σ k := by
  intro k hk
  unfold cC
  by_cases h0 : k < 1
  · rw [if_pos h0, if_pos h0]; exact u_C_JT (Or.inl (by decide))
  rw [if_neg h0, if_neg h0]
  by_cases h1 : k < 2
  · rw [if_pos h1, if_pos h1]; exact u_C_Programs
  rw [if_neg h1, if_neg h1]
  by_cases h2 : k < 3
  · rw [if_pos h2, if_pos h2]; exact u_C_ops (by omega)
  rw [if_neg h2, if_neg h2]
  by_cases h3 : k < 4
  · rw [if_pos h3, if_pos h3]; exact u_C_nums (by omega)
  rw [if_neg h3, if_neg h3]
  by_cases h4 : k < 5
  · rw [if_pos h4, if_pos h4]; exact u_C_procs
  rw [if_neg h4, if_neg h4]
  by_cases h5 : k < 6
  · rw [if_pos h5, if_pos h5]; exact u_C_jobs
  rw [if_neg h5, if_neg h5]
  by_cases h6 : k < 7
  · rw [if_pos h6, if_pos h6]; exact u_C_Terminal (Or.inl (by decide))
  rw [if_neg h6, if_neg h6]
  by_cases h7 : k < 8
  · rw [if_pos h7, if_pos h7]; exact u_C_Display (Or.inl (by decide))
  rw [if_neg h7, if_neg h7]
  by_cases h8 : k < 9
  · rw [if_pos h8, if_pos h8]; exact u_C_codes (by omega)
  rw [if_neg h8, if_neg h8]
  by_cases h9 : k < 17
  · rw [if_pos h9, if_pos h9]; exact u_C_JobProcess (Or.inr (by omega))
  rw [if_neg h9, if_neg h9]
  by_cases h17 : k < 21
  · rw [if_pos h17, if_pos h17]; exact u_C_Job (Or.inl (by decide))
  rw [if_neg h17, if_neg h17]
  by_cases h21 : k < 27
  · rw [if_pos h21, if_pos h21]; exact u_C_NumberRow (Or.inl (by decide))
  rw [if_neg h21, if_neg h21]
  by_cases h27 : k < 33
  · rw [if_pos h27, if_pos h27]; exact u_C_rowarr (by omega)
  rw [if_neg h27, if_neg h27]
theorem h2_C_41 {ad : Nat → Nat} {cs : Nat → ClassId} {σ : q_St} {i : Nat} {x : Int32} (hi : i < 8) : ∀ k, k ≠ 9 + i → cC ad cs (q_up σ 41 i x) k = cC ad cs σ k := by
  intro k hk
  unfold cC
  by_cases h0 : k < 1
  · rw [if_pos h0, if_pos h0]; exact u_C_JT (Or.inl (by decide))
  rw [if_neg h0, if_neg h0]
  by_cases h1 : k < 2
  · rw [if_pos h1, if_pos h1]; exact u_C_Programs
  rw [if_neg h1, if_neg h1]
  by_cases h2 : k < 3
  · rw [if_pos h2, if_pos h2]; exact u_C_ops (by omega)
  rw [if_neg h2, if_neg h2]
  by_cases h3 : k < 4
  · rw [if_pos h3, if_pos h3]; exact u_C_nums (by omega)
  rw [if_neg h3, if_neg h3]
  by_cases h4 : k < 5
  · rw [if_pos h4, if_pos h4]; exact u_C_procs
  rw [if_neg h4, if_neg h4]
  by_cases h5 : k < 6
  · rw [if_pos h5, if_pos h5]; exact u_C_jobs
  rw [if_neg h5, if_neg h5]
  by_cases h6 : k < 7
  · rw [if_pos h6, if_pos h6]; exact u_C_Terminal (Or.inl (by decide))
  rw [if_neg h6, if_neg h6]
  by_cases h7 : k < 8
  · rw [if_pos h7, if_pos h7]; exact u_C_Display (Or.inl (by decide))
  rw [if_neg h7, if_neg h7]
  by_cases h8 : k < 9
  · rw [if_pos h8, if_pos h8]; exact u_C_codes (by omega)
  rw [if_neg h8, if_neg h8]
  by_cases h9 : k < 17
  · rw [if_pos h9, if_pos h9]; exact u_C_JobProcess (Or.inr (by omega))
  rw [if_neg h9, if_neg h9]
  by_cases h17 : k < 21
  · rw [if_pos h17, if_pos h17]; exact u_C_Job (Or.inl (by decide))
  rw [if_neg h17, if_neg h17]
  by_cases h21 : k < 27
  · rw [if_pos h21, if_pos h21]; exact u_C_NumberRow (Or.inl (by decide))
  rw [if_neg h21, if_neg h21]
  by_cases h27 : k < 33
  · rw [if_pos h27, if_pos h27]; exact u_C_rowarr (by omega)
  rw [if_neg h27, if_neg h27]
theorem h2_C_28 {ad : Nat → Nat} {cs : Nat → ClassId} {σ : q_St} {i : Nat} {x : Int32} (hi : i < 4) : ∀ k, k ≠ 17 + i → cC ad cs (q_up σ 28 i x) k = cC ad cs σ k := by
  intro k hk
  unfold cC
  by_cases h0 : k < 1
  · rw [if_pos h0, if_pos h0]; exact u_C_JT (Or.inl (by decide))
  rw [if_neg h0, if_neg h0]
  by_cases h1 : k < 2
  · rw [if_pos h1, if_pos h1]; exact u_C_Programs
  rw [if_neg h1, if_neg h1]
  by_cases h2 : k < 3
  · rw [if_pos h2, if_pos h2]; exact u_C_ops (by omega)
  rw [if_neg h2, if_neg h2]
  by_cases h3 : k < 4
  · rw [if_pos h3, if_pos h3]; exact u_C_nums (by omega)
  rw [if_neg h3, if_neg h3]
  by_cases h4 : k < 5
  · rw [if_pos h4, if_pos h4]; exact u_C_procs
  rw [if_neg h4, if_neg h4]
  by_cases h5 : k < 6
  · rw [if_pos h5, if_pos h5]; exact u_C_jobs
  rw [if_neg h5, if_neg h5]
  by_cases h6 : k < 7
  · rw [if_pos h6, if_pos h6]; exact u_C_Terminal (Or.inl (by decide))
  rw [if_neg h6, if_neg h6]
  by_cases h7 : k < 8
  · rw [if_pos h7, if_pos h7]; exact u_C_Display (Or.inl (by decide))
  rw [if_neg h7, if_neg h7]
  by_cases h8 : k < 9
  · rw [if_pos h8, if_pos h8]; exact u_C_codes (by omega)
  rw [if_neg h8, if_neg h8]
  by_cases h9 : k < 17
  · rw [if_pos h9, if_pos h9]; exact u_C_JobProcess (Or.inl (by decide))
  rw [if_neg h9, if_neg h9]
  by_cases h17 : k < 21
  · rw [if_pos h17, if_pos h17]; exact u_C_Job (Or.inr (by omega))
  rw [if_neg h17, if_neg h17]
  by_cases h21 : k < 27
  · rw [if_pos h21, if_pos h21]; exact u_C_NumberRow (Or.inl (by decide))
  rw [if_neg h21, if_neg h21]
  by_cases h27 : k < 33
  · rw [if_pos h27, if_pos h27]; exact u_C_rowarr (by omega)
  rw [if_neg h27, if_neg h27]
theorem h2_C_29 {ad : Nat → Nat} {cs : Nat → ClassId} {σ : q_St} {i : Nat} {x : Int32} (hi : i < 4) : ∀ k, k ≠ 17 + i → cC ad cs (q_up σ 29 i x) k = cC ad cs σ k := by
  intro k hk
  unfold cC
  by_cases h0 : k < 1
  · rw [if_pos h0, if_pos h0]; exact u_C_JT (Or.inl (by decide))
  rw [if_neg h0, if_neg h0]
  by_cases h1 : k < 2
  · rw [if_pos h1, if_pos h1]; exact u_C_Programs
  rw [if_neg h1, if_neg h1]
  by_cases h2 : k < 3
  · rw [if_pos h2, if_pos h2]; exact u_C_ops (by omega)
  rw [if_neg h2, if_neg h2]
  by_cases h3 : k < 4
  · rw [if_pos h3, if_pos h3]; exact u_C_nums (by omega)
  rw [if_neg h3, if_neg h3]
  by_cases h4 : k < 5
  · rw [if_pos h4, if_pos h4]; exact u_C_procs
  rw [if_neg h4, if_neg h4]
  by_cases h5 : k < 6
  · rw [if_pos h5, if_pos h5]; exact u_C_jobs
  rw [if_neg h5, if_neg h5]
  by_cases h6 : k < 7
  · rw [if_pos h6, if_pos h6]; exact u_C_Terminal (Or.inl (by decide))
  rw [if_neg h6, if_neg h6]
  by_cases h7 : k < 8
  · rw [if_pos h7, if_pos h7]; exact u_C_Display (Or.inl (by decide))
  rw [if_neg h7, if_neg h7]
  by_cases h8 : k < 9
  · rw [if_pos h8, if_pos h8]; exact u_C_codes (by omega)
  rw [if_neg h8, if_neg h8]
  by_cases h9 : k < 17
  · rw [if_pos h9, if_pos h9]; exact u_C_JobProcess (Or.inl (by decide))
  rw [if_neg h9, if_neg h9]
  by_cases h17 : k < 21
  · rw [if_pos h17, if_pos h17]; exact u_C_Job (Or.inr (by omega))
  rw [if_neg h17, if_neg h17]
  by_cases h21 : k < 27
  · rw [if_pos h21, if_pos h21]; exact u_C_NumberRow (Or.inl (by decide))
  rw [if_neg h21, if_neg h21]
  by_cases h27 : k < 33
  · rw [if_pos h27, if_pos h27]; exact u_C_rowarr (by omega)
  rw [if_neg h27, if_neg h27]
theorem h2_C_30 {ad : Nat → Nat} {cs : Nat → ClassId} {σ : q_St} {i : Nat} {x : Int32} (hi : i < 4) : ∀ k, k ≠ 17 + i → cC ad cs (q_up σ 30 i x) k = cC ad cs σ k := by
  intro k hk
  unfold cC
  by_cases h0 : k < 1
  · rw [if_pos h0, if_pos h0]; exact u_C_JT (Or.inl (by decide))
  rw [if_neg h0, if_neg h0]
  by_cases h1 : k < 2
  · rw [if_pos h1, if_pos h1]; exact u_C_Programs
  rw [if_neg h1, if_neg h1]
  by_cases h2 : k < 3
  · rw [if_pos h2, if_pos h2]; exact u_C_ops (by omega)
  rw [if_neg h2, if_neg h2]
  by_cases h3 : k < 4
  · rw [if_pos h3, if_pos h3]; exact u_C_nums (by omega)
  rw [if_neg h3, if_neg h3]
  by_cases h4 : k < 5
  · rw [if_pos h4, if_pos h4]; exact u_C_procs
  rw [if_neg h4, if_neg h4]
  by_cases h5 : k < 6
  · rw [if_pos h5, if_pos h5]; exact u_C_jobs
  rw [if_neg h5, if_neg h5]
  by_cases h6 : k < 7
  · rw [if_pos h6, if_pos h6]; exact u_C_Terminal (Or.inl (by decide))
  rw [if_neg h6, if_neg h6]
  by_cases h7 : k < 8
  · rw [if_pos h7, if_pos h7]; exact u_C_Display (Or.inl (by decide))
  rw [if_neg h7, if_neg h7]
  by_cases h8 : k < 9
  · rw [if_pos h8, if_pos h8]; exact u_C_codes (by omega)
  rw [if_neg h8, if_neg h8]
  by_cases h9 : k < 17
  · rw [if_pos h9, if_pos h9]; exact u_C_JobProcess (Or.inl (by decide))
  rw [if_neg h9, if_neg h9]
  by_cases h17 : k < 21
  · rw [if_pos h17, if_pos h17]; exact u_C_Job (Or.inr (by omega))
  rw [if_neg h17, if_neg h17]
  by_cases h21 : k < 27
  · rw [if_pos h21, if_pos h21]; exact u_C_NumberRow (Or.inl (by decide))
  rw [if_neg h21, if_neg h21]
  by_cases h27 : k < 33
  · rw [if_pos h27, if_pos h27]; exact u_C_rowarr (by omega)
  rw [if_neg h27, if_neg h27]
theorem h2_C_31 {ad : Nat → Nat} {cs : Nat → ClassId} {σ : q_St} {i : Nat} {x : Int32} (hi : i < 4) : ∀ k, k ≠ 17 + i → cC ad cs (q_up σ 31 i x) k = cC ad cs σ k := by
  intro k hk
  unfold cC
  by_cases h0 : k < 1
  · rw [if_pos h0, if_pos h0]; exact u_C_JT (Or.inl (by decide))
  rw [if_neg h0, if_neg h0]
  by_cases h1 : k < 2
  · rw [if_pos h1, if_pos h1]; exact u_C_Programs
  rw [if_neg h1, if_neg h1]
  by_cases h2 : k < 3
  · rw [if_pos h2, if_pos h2]; exact u_C_ops (by omega)
  rw [if_neg h2, if_neg h2]
  by_cases h3 : k < 4
  · rw [if_pos h3, if_pos h3]; exact u_C_nums (by omega)
  rw [if_neg h3, if_neg h3]
  by_cases h4 : k < 5
  · rw [if_pos h4, if_pos h4]; exact u_C_procs
  rw [if_neg h4, if_neg h4]
  by_cases h5 : k < 6
  · rw [if_pos h5, if_pos h5]; exact u_C_jobs
  rw [if_neg h5, if_neg h5]
  by_cases h6 : k < 7
  · rw [if_pos h6, if_pos h6]; exact u_C_Terminal (Or.inl (by decide))
  rw [if_neg h6, if_neg h6]
  by_cases h7 : k < 8
  · rw [if_pos h7, if_pos h7]; exact u_C_Display (Or.inl (by decide))
  rw [if_neg h7, if_neg h7]
  by_cases h8 : k < 9
  · rw [if_pos h8, if_pos h8]; exact u_C_codes (by omega)
  rw [if_neg h8, if_neg h8]
  by_cases h9 : k < 17
  · rw [if_pos h9, if_pos h9]; exact u_C_JobProcess (Or.inl (by decide))
  rw [if_neg h9, if_neg h9]
  by_cases h17 : k < 21
  · rw [if_pos h17, if_pos h17]; exact u_C_Job (Or.inr (by omega))
  rw [if_neg h17, if_neg h17]
  by_cases h21 : k < 27
  · rw [if_pos h21, if_pos h21]; exact u_C_NumberRow (Or.inl (by decide))
  rw [if_neg h21, if_neg h21]
  by_cases h27 : k < 33
  · rw [if_pos h27, if_pos h27]; exact u_C_rowarr (by omega)
  rw [if_neg h27, if_neg h27]
theorem h2_C_26 {ad : Nat → Nat} {cs : Nat → ClassId} {σ : q_St} {i : Nat} {x : Int32} (hi : i < 6) : ∀ k, k ≠ 21 + i → cC ad cs (q_up σ 26 i x) k = cC ad cs σ k := by
  intro k hk
  unfold cC
  by_cases h0 : k < 1
  · rw [if_pos h0, if_pos h0]; exact u_C_JT (Or.inl (by decide))
  rw [if_neg h0, if_neg h0]
  by_cases h1 : k < 2
  · rw [if_pos h1, if_pos h1]; exact u_C_Programs
  rw [if_neg h1, if_neg h1]
  by_cases h2 : k < 3
  · rw [if_pos h2, if_pos h2]; exact u_C_ops (by omega)
  rw [if_neg h2, if_neg h2]
  by_cases h3 : k < 4
  · rw [if_pos h3, if_pos h3]; exact u_C_nums (by omega)
  rw [if_neg h3, if_neg h3]
  by_cases h4 : k < 5
  · rw [if_pos h4, if_pos h4]; exact u_C_procs
  rw [if_neg h4, if_neg h4]
  by_cases h5 : k < 6
  · rw [if_pos h5, if_pos h5]; exact u_C_jobs
  rw [if_neg h5, if_neg h5]
  by_cases h6 : k < 7
  · rw [if_pos h6, if_pos h6]; exact u_C_Terminal (Or.inl (by decide))
  rw [if_neg h6, if_neg h6]
  by_cases h7 : k < 8
  · rw [if_pos h7, if_pos h7]; exact u_C_Display (Or.inl (by decide))
  rw [if_neg h7, if_neg h7]
  by_cases h8 : k < 9
  · rw [if_pos h8, if_pos h8]; exact u_C_codes (by omega)
  rw [if_neg h8, if_neg h8]
  by_cases h9 : k < 17
  · rw [if_pos h9, if_pos h9]; exact u_C_JobProcess (Or.inl (by decide))
  rw [if_neg h9, if_neg h9]
  by_cases h17 : k < 21
  · rw [if_pos h17, if_pos h17]; exact u_C_Job (Or.inl (by decide))
  rw [if_neg h17, if_neg h17]
  by_cases h21 : k < 27
  · rw [if_pos h21, if_pos h21]; exact u_C_NumberRow (Or.inr (by omega))
  rw [if_neg h21, if_neg h21]
  by_cases h27 : k < 33
  · rw [if_pos h27, if_pos h27]; exact u_C_rowarr (by omega)
  rw [if_neg h27, if_neg h27]
theorem h2_C_27 {ad : Nat → Nat} {cs : Nat → ClassId} {σ : q_St} {i : Nat} {x : Int32} (hi : i < 6) : ∀ k, k ≠ 21 + i → cC ad cs (q_up σ 27 i x) k = cC ad cs σ k := by
  intro k hk
  unfold cC
  by_cases h0 : k < 1
  · rw [if_pos h0, if_pos h0]; exact u_C_JT (Or.inl (by decide))
  rw [if_neg h0, if_neg h0]
  by_cases h1 : k < 2
  · rw [if_pos h1, if_pos h1]; exact u_C_Programs
  rw [if_neg h1, if_neg h1]
  by_cases h2 : k < 3
  · rw [if_pos h2, if_pos h2]; exact u_C_ops (by omega)
  rw [if_neg h2, if_neg h2]
  by_cases h3 : k < 4
  · rw [if_pos h3, if_pos h3]; exact u_C_nums (by omega)
  rw [if_neg h3, if_neg h3]
  by_cases h4 : k < 5
  · rw [if_pos h4, if_pos h4]; exact u_C_procs
  rw [if_neg h4, if_neg h4]
  by_cases h5 : k < 6
  · rw [if_pos h5, if_pos h5]; exact u_C_jobs
  rw [if_neg h5, if_neg h5]
  by_cases h6 : k < 7
  · rw [if_pos h6, if_pos h6]; exact u_C_Terminal (Or.inl (by decide))
  rw [if_neg h6, if_neg h6]
  by_cases h7 : k < 8
  · rw [if_pos h7, if_pos h7]; exact u_C_Display (Or.inl (by decide))
  rw [if_neg h7, if_neg h7]
  by_cases h8 : k < 9
  · rw [if_pos h8, if_pos h8]; exact u_C_codes (by omega)
  rw [if_neg h8, if_neg h8]
  by_cases h9 : k < 17
  · rw [if_pos h9, if_pos h9]; exact u_C_JobProcess (Or.inl (by decide))
  rw [if_neg h9, if_neg h9]
  by_cases h17 : k < 21
  · rw [if_pos h17, if_pos h17]; exact u_C_Job (Or.inl (by decide))
  rw [if_neg h17, if_neg h17]
  by_cases h21 : k < 27
  · rw [if_pos h21, if_pos h21]; exact u_C_NumberRow (Or.inr (by omega))
  rw [if_neg h21, if_neg h21]
  by_cases h27 : k < 33
  · rw [if_pos h27, if_pos h27]; exact u_C_rowarr (by omega)
  rw [if_neg h27, if_neg h27]
theorem h2_C_rowarr {ad : Nat → Nat} {cs : Nat → ClassId} {σ : q_St} {i j : Nat} {x : Int32} (hi : i < 6) : ∀ k, k ≠ 27 + i → cC ad cs (q_up σ (10 + i) j x) k = cC ad cs σ k := by
  intro k hk
  unfold cC
  by_cases h0 : k < 1
  · rw [if_pos h0, if_pos h0]; exact u_C_JT (Or.inl (by intro g hg; simp only [List.mem_cons, List.not_mem_nil, or_false] at hg; omega))
  rw [if_neg h0, if_neg h0]
  by_cases h1 : k < 2
  · rw [if_pos h1, if_pos h1]; exact u_C_Programs
  rw [if_neg h1, if_neg h1]
  by_cases h2 : k < 3
  · rw [if_pos h2, if_pos h2]; exact u_C_ops (by omega)
  rw [if_neg h2, if_neg h2]
  by_cases h3 : k < 4
  · rw [if_pos h3, if_pos h3]; exact u_C_nums (by omega)
  rw [if_neg h3, if_neg h3]
  by_cases h4 : k < 5
  · rw [if_pos h4, if_pos h4]; exact u_C_procs
  rw [if_neg h4, if_neg h4]
  by_cases h5 : k < 6
  · rw [if_pos h5, if_pos h5]; exact u_C_jobs
  rw [if_neg h5, if_neg h5]
  by_cases h6 : k < 7
  · rw [if_pos h6, if_pos h6]; exact u_C_Terminal (Or.inl (by intro g hg; simp only [List.mem_cons, List.not_mem_nil, or_false] at hg; omega))
  rw [if_neg h6, if_neg h6]
  by_cases h7 : k < 8
  · rw [if_pos h7, if_pos h7]; exact u_C_Display (Or.inl (by intro g hg; simp only [List.mem_cons, List.not_mem_nil, or_false] at hg; omega))
  rw [if_neg h7, if_neg h7]
  by_cases h8 : k < 9
  · rw [if_pos h8, if_pos h8]; exact u_C_codes (by omega)
  rw [if_neg h8, if_neg h8]
  by_cases h9 : k < 17
  · rw [if_pos h9, if_pos h9]; exact u_C_JobProcess (Or.inl (by intro g hg; simp only [List.mem_cons, List.not_mem_nil, or_false] at hg; omega))
  rw [if_neg h9, if_neg h9]
  by_cases h17 : k < 21
  · rw [if_pos h17, if_pos h17]; exact u_C_Job (Or.inl (by intro g hg; simp only [List.mem_cons, List.not_mem_nil, or_false] at hg; omega))
  rw [if_neg h17, if_neg h17]
  by_cases h21 : k < 27
  · rw [if_pos h21, if_pos h21]; exact u_C_NumberRow (Or.inl (by intro g hg; simp only [List.mem_cons, List.not_mem_nil, or_false] at hg; omega))
  rw [if_neg h21, if_neg h21]
  by_cases h27 : k < 33
  · rw [if_pos h27, if_pos h27]; exact u_C_rowarr (by omega)
  rw [if_neg h27, if_neg h27]
section ROWSC
variable {p : Program} {l : Launch} {e : Env} {R : Room} {s : State} {m : MethodId} {args : Array Value} {below : List Frame} {meth : Method} {c : Code} {H H0 : Heap} {locs : List Loc} {cells slots : Nat} {Q : State → Prop}
variable {cc : ByteArray} {pc : Nat} {ls : Array Slot} {rest : List Value} {D : va_G} {A : Nat → Prop} {ad : Nat → Nat} {cs : Nat → ClassId} {σ : q_St}
theorem G_JT_JT_foregroundJob (hx : p.tables.exec = Jvm.exec) (hb : c.code = cc) (htg : ∀ w ∈ GW, w.before args s = true) (hown : s.vm.findClass R_JT = some m.cls) (hK : va_K D vwCl (tyL cs) s) (hN : ∀ w ∈ NW, va_Nw w s) (I : q_I D vwCl A H0 (q_ws 33 ad (cC ad cs σ)) H locs) (hdg : decode cc pc = .ok (.getfield 39, 3)) (kk : W p l e R s m args below meth c H locs cells slots Q (F0 m (pc + 3) ls (q_rv ad 17 (σ 20 0) :: rest))) : W p l e R s m args below meth c H locs cells slots Q (F0 m pc ls (.ref (ad 0) :: rest)) :=
  q_get (own := "JobTerminal") (C := R_JT) (T := F_JT) (N := 6) (ci := 6) hx hb htg i_JT hown hK I 0 (by decide) a_C_JT rfl 4 (by decide) (htg _ mw328) rfl hdg kk
theorem G_JT_JT_jobs (hx : p.tables.exec = Jvm.exec) (hb : c.code = cc) (htg : ∀ w ∈ GW, w.before args s = true) (hown : s.vm.findClass R_JT = some m.cls) (hK : va_K D vwCl (tyL cs) s) (hN : ∀ w ∈ NW, va_Nw w s) (I : q_I D vwCl A H0 (q_ws 33 ad (cC ad cs σ)) H locs) (hdg : decode cc pc = .ok (.getfield 32, 3)) (kk : W p l e R s m args below meth c H locs cells slots Q (F0 m (pc + 3) ls (.ref (ad 5) :: rest))) : W p l e R s m args below meth c H locs cells slots Q (F0 m pc ls (.ref (ad 0) :: rest)) :=
  q_get (own := "JobTerminal") (C := R_JT) (T := F_JT) (N := 6) (ci := 6) hx hb htg i_JT hown hK I 0 (by decide) a_C_JT rfl 2 (by decide) (htg _ mw329) rfl hdg kk
theorem G_JT_JT_latestSlot (hx : p.tables.exec = Jvm.exec) (hb : c.code = cc) (htg : ∀ w ∈ GW, w.before args s = true) (hown : s.vm.findClass R_JT = some m.cls) (hK : va_K D vwCl (tyL cs) s) (hN : ∀ w ∈ NW, va_Nw w s) (I : q_I D vwCl A H0 (q_ws 33 ad (cC ad cs σ)) H locs) (hdg : decode cc pc = .ok (.getfield 43, 3)) (kk : W p l e R s m args below meth c H locs cells slots Q (F0 m (pc + 3) ls (.int (σ 21 0) :: rest))) : W p l e R s m args below meth c H locs cells slots Q (F0 m pc ls (.ref (ad 0) :: rest)) :=
  q_get (own := "JobTerminal") (C := R_JT) (T := F_JT) (N := 6) (ci := 6) hx hb htg i_JT hown hK I 0 (by decide) a_C_JT rfl 5 (by decide) (htg _ mw330) rfl hdg kk
theorem G_JT_JT_processes (hx : p.tables.exec = Jvm.exec) (hb : c.code = cc) (htg : ∀ w ∈ GW, w.before args s = true) (hown : s.vm.findClass R_JT = some m.cls) (hK : va_K D vwCl (tyL cs) s) (hN : ∀ w ∈ NW, va_Nw w s) (I : q_I D vwCl A H0 (q_ws 33 ad (cC ad cs σ)) H locs) (hdg : decode cc pc = .ok (.getfield 25, 3)) (kk : W p l e R s m args below meth c H locs cells slots Q (F0 m (pc + 3) ls (.ref (ad 4) :: rest))) : W p l e R s m args below meth c H locs cells slots Q (F0 m pc ls (.ref (ad 0) :: rest)) :=
  q_get (own := "JobTerminal") (C := R_JT) (T := F_JT) (N := 6) (ci := 6) hx hb htg i_JT hown hK I 0 (by decide) a_C_JT rfl 1 (by decide) (htg _ mw331) rfl hdg kk
theorem G_JT_JT_programs (hx : p.tables.exec = Jvm.exec) (hb : c.code = cc) (htg : ∀ w ∈ GW, w.before args s = true) (hown : s.vm.findClass R_JT = some m.cls) (hK : va_K D vwCl (tyL cs) s) (hN : ∀ w ∈ NW, va_Nw w s) (I : q_I D vwCl A H0 (q_ws 33 ad (cC ad cs σ)) H locs) (hdg : decode cc pc = .ok (.getfield 10, 3)) (kk : W p l e R s m args below meth c H locs cells slots Q (F0 m (pc + 3) ls (.ref (ad 1) :: rest))) : W p l e R s m args below meth c H locs cells slots Q (F0 m pc ls (.ref (ad 0) :: rest)) :=
  q_get (own := "JobTerminal") (C := R_JT) (T := F_JT) (N := 6) (ci := 6) hx hb htg i_JT hown hK I 0 (by decide) a_C_JT rfl 0 (by decide) (htg _ mw332) rfl hdg kk
theorem G_JT_JT_terminal (hx : p.tables.exec = Jvm.exec) (hb : c.code = cc) (htg : ∀ w ∈ GW, w.before args s = true) (hown : s.vm.findClass R_JT = some m.cls) (hK : va_K D vwCl (tyL cs) s) (hN : ∀ w ∈ NW, va_Nw w s) (I : q_I D vwCl A H0 (q_ws 33 ad (cC ad cs σ)) H locs) (hdg : decode cc pc = .ok (.getfield 19, 3)) (kk : W p l e R s m args below meth c H locs cells slots Q (F0 m (pc + 3) ls (.ref (ad 6) :: rest))) : W p l e R s m args below meth c H locs cells slots Q (F0 m pc ls (.ref (ad 0) :: rest)) :=
  q_get (own := "JobTerminal") (C := R_JT) (T := F_JT) (N := 6) (ci := 6) hx hb htg i_JT hown hK I 0 (by decide) a_C_JT rfl 3 (by decide) (htg _ mw333) rfl hdg kk
theorem G_JT_Display_total (hx : p.tables.exec = Jvm.exec) (hb : c.code = cc) (htg : ∀ w ∈ GW, w.before args s = true) (hown : s.vm.findClass R_JT = some m.cls) (hK : va_K D vwCl (tyL cs) s) (hN : ∀ w ∈ NW, va_Nw w s) (I : q_I D vwCl A H0 (q_ws 33 ad (cC ad cs σ)) H locs) (hdg : decode cc pc = .ok (.getfield 180, 3)) (kk : W p l e R s m args below meth c H locs cells slots Q (F0 m (pc + 3) ls (.int (σ 25 0) :: rest))) : W p l e R s m args below meth c H locs cells slots Q (F0 m pc ls (.ref (ad 7) :: rest)) :=
  q_getN (host := "JobTerminal") (own := "JobTerminal") (C := R_Display) (T := F_Display) (N := 3) (ci := 0) hx hb htg i_Display hown hK I 7 (by decide) a_C_Display rfl 2 (by decide) (va_Nw.use rfl (hN _ (List.mem_of_getElem? (i := 2) rfl))) rfl hdg kk
theorem G_JT_Job_number (hx : p.tables.exec = Jvm.exec) (hb : c.code = cc) (htg : ∀ w ∈ GW, w.before args s = true) (hown : s.vm.findClass R_JT = some m.cls) (hK : va_K D vwCl (tyL cs) s) (hN : ∀ w ∈ NW, va_Nw w s) (I : q_I D vwCl A H0 (q_ws 33 ad (cC ad cs σ)) H locs) {i : Nat} (hi : i < 4) (hdg : decode cc pc = .ok (.getfield 111, 3)) (kk : W p l e R s m args below meth c H locs cells slots Q (F0 m (pc + 3) ls (.int (nI i) :: rest))) : W p l e R s m args below meth c H locs cells slots Q (F0 m pc ls (.ref (ad (17 + i)) :: rest)) :=
  q_getN (host := "JobTerminal") (own := "JobTerminal") (C := R_Job) (T := F_Job) (N := 6) (ci := 1) hx hb htg i_Job hown hK I (17 + i) (by omega) (a_C_Job hi) rfl 0 (by decide) (va_Nw.use rfl (hN _ (List.mem_of_getElem? (i := 16) rfl))) rfl hdg kk
theorem G_JT_Job_pipe (hx : p.tables.exec = Jvm.exec) (hb : c.code = cc) (htg : ∀ w ∈ GW, w.before args s = true) (hown : s.vm.findClass R_JT = some m.cls) (hK : va_K D vwCl (tyL cs) s) (hN : ∀ w ∈ NW, va_Nw w s) (I : q_I D vwCl A H0 (q_ws 33 ad (cC ad cs σ)) H locs) {i : Nat} (hi : i < 4) (hdg : decode cc pc = .ok (.getfield 204, 3)) (kk : W p l e R s m args below meth c H locs cells slots Q (F0 m (pc + 3) ls (.ref (ad (21 + (2 + i))) :: rest))) : W p l e R s m args below meth c H locs cells slots Q (F0 m pc ls (.ref (ad (17 + i)) :: rest)) :=
  q_getN (host := "JobTerminal") (own := "JobTerminal") (C := R_Job) (T := F_Job) (N := 6) (ci := 1) hx hb htg i_Job hown hK I (17 + i) (by omega) (a_C_Job hi) rfl 1 (by decide) (va_Nw.use rfl (hN _ (List.mem_of_getElem? (i := 17) rfl))) rfl hdg kk
theorem G_JT_Job_second (hx : p.tables.exec = Jvm.exec) (hb : c.code = cc) (htg : ∀ w ∈ GW, w.before args s = true) (hown : s.vm.findClass R_JT = some m.cls) (hK : va_K D vwCl (tyL cs) s) (hN : ∀ w ∈ NW, va_Nw w s) (I : q_I D vwCl A H0 (q_ws 33 ad (cC ad cs σ)) H locs) {i : Nat} (hi : i < 4) (hdg : decode cc pc = .ok (.getfield 200, 3)) (kk : W p l e R s m args below meth c H locs cells slots Q (F0 m (pc + 3) ls (q_rv ad 9 (σ 29 i) :: rest))) : W p l e R s m args below meth c H locs cells slots Q (F0 m pc ls (.ref (ad (17 + i)) :: rest)) :=
  q_getN (host := "JobTerminal") (own := "JobTerminal") (C := R_Job) (T := F_Job) (N := 6) (ci := 1) hx hb htg i_Job hown hK I (17 + i) (by omega) (a_C_Job hi) rfl 3 (by decide) (va_Nw.use rfl (hN _ (List.mem_of_getElem? (i := 18) rfl))) rfl hdg kk
theorem G_JT_Job_settledState (hx : p.tables.exec = Jvm.exec) (hb : c.code = cc) (htg : ∀ w ∈ GW, w.before args s = true) (hown : s.vm.findClass R_JT = some m.cls) (hK : va_K D vwCl (tyL cs) s) (hN : ∀ w ∈ NW, va_Nw w s) (I : q_I D vwCl A H0 (q_ws 33 ad (cC ad cs σ)) H locs) {i : Nat} (hi : i < 4) (hdg : decode cc pc = .ok (.getfield 207, 3)) (kk : W p l e R s m args below meth c H locs cells slots Q (F0 m (pc + 3) ls (.int (σ 31 i) :: rest))) : W p l e R s m args below meth c H locs cells slots Q (F0 m pc ls (.ref (ad (17 + i)) :: rest)) :=
  q_getN (host := "JobTerminal") (own := "JobTerminal") (C := R_Job) (T := F_Job) (N := 6) (ci := 1) hx hb htg i_Job hown hK I (17 + i) (by omega) (a_C_Job hi) rfl 5 (by decide) (va_Nw.use rfl (hN _ (List.mem_of_getElem? (i := 20) rfl))) rfl hdg kk
theorem G_JT_Job_untold (hx : p.tables.exec = Jvm.exec) (hb : c.code = cc) (htg : ∀ w ∈ GW, w.before args s = true) (hown : s.vm.findClass R_JT = some m.cls) (hK : va_K D vwCl (tyL cs) s) (hN : ∀ w ∈ NW, va_Nw w s) (I : q_I D vwCl A H0 (q_ws 33 ad (cC ad cs σ)) H locs) {i : Nat} (hi : i < 4) (hdg : decode cc pc = .ok (.getfield 136, 3)) (kk : W p l e R s m args below meth c H locs cells slots Q (F0 m (pc + 3) ls (.int (σ 30 i) :: rest))) : W p l e R s m args below meth c H locs cells slots Q (F0 m pc ls (.ref (ad (17 + i)) :: rest)) :=
  q_getN (host := "JobTerminal") (own := "JobTerminal") (C := R_Job) (T := F_Job) (N := 6) (ci := 1) hx hb htg i_Job hown hK I (17 + i) (by omega) (a_C_Job hi) rfl 4 (by decide) (va_Nw.use rfl (hN _ (List.mem_of_getElem? (i := 19) rfl))) rfl hdg kk
theorem G_JT_JobProcess_line (hx : p.tables.exec = Jvm.exec) (hb : c.code = cc) (htg : ∀ w ∈ GW, w.before args s = true) (hown : s.vm.findClass R_JT = some m.cls) (hK : va_K D vwCl (tyL cs) s) (hN : ∀ w ∈ NW, va_Nw w s) (I : q_I D vwCl A H0 (q_ws 33 ad (cC ad cs σ)) H locs) {i : Nat} (hi : i < 8) (hdg : decode cc pc = .ok (.getfield 219, 3)) (kk : W p l e R s m args below meth c H locs cells slots Q (F0 m (pc + 3) ls (.int (σ 35 i) :: rest))) : W p l e R s m args below meth c H locs cells slots Q (F0 m pc ls (.ref (ad (9 + i)) :: rest)) :=
  q_getN (host := "JobTerminal") (own := "JobTerminal") (C := R_JobProcess) (T := F_JobProcess) (N := 10) (ci := 2) hx hb htg i_JobProcess hown hK I (9 + i) (by omega) (a_C_JobProcess hi) rfl 3 (by decide) (va_Nw.use rfl (hN _ (List.mem_of_getElem? (i := 12) rfl))) rfl hdg kk
theorem G_JT_JobProcess_nap (hx : p.tables.exec = Jvm.exec) (hb : c.code = cc) (htg : ∀ w ∈ GW, w.before args s = true) (hown : s.vm.findClass R_JT = some m.cls) (hK : va_K D vwCl (tyL cs) s) (hN : ∀ w ∈ NW, va_Nw w s) (I : q_I D vwCl A H0 (q_ws 33 ad (cC ad cs σ)) H locs) {i : Nat} (hi : i < 8) (hdg : decode cc pc = .ok (.getfield 161, 3)) (kk : W p l e R s m args below meth c H locs cells slots Q (F0 m (pc + 3) ls (.int (σ 41 i) :: rest))) : W p l e R s m args below meth c H locs cells slots Q (F0 m pc ls (.ref (ad (9 + i)) :: rest)) :=
  q_getN (host := "JobTerminal") (own := "JobTerminal") (C := R_JobProcess) (T := F_JobProcess) (N := 10) (ci := 2) hx hb htg i_JobProcess hown hK I (9 + i) (by omega) (a_C_JobProcess hi) rfl 9 (by decide) (va_Nw.use rfl (hN _ (List.mem_of_getElem? (i := 14) rfl))) rfl hdg kk
theorem G_JT_JobProcess_owner (hx : p.tables.exec = Jvm.exec) (hb : c.code = cc) (htg : ∀ w ∈ GW, w.before args s = true) (hown : s.vm.findClass R_JT = some m.cls) (hK : va_K D vwCl (tyL cs) s) (hN : ∀ w ∈ NW, va_Nw w s) (I : q_I D vwCl A H0 (q_ws 33 ad (cC ad cs σ)) H locs) {i : Nat} (hi : i < 8) (hdg : decode cc pc = .ok (.getfield 152, 3)) (kk : W p l e R s m args below meth c H locs cells slots Q (F0 m (pc + 3) ls (q_rv ad 17 (σ 32 i) :: rest))) : W p l e R s m args below meth c H locs cells slots Q (F0 m pc ls (.ref (ad (9 + i)) :: rest)) :=
  q_getN (host := "JobTerminal") (own := "JobTerminal") (C := R_JobProcess) (T := F_JobProcess) (N := 10) (ci := 2) hx hb htg i_JobProcess hown hK I (9 + i) (by omega) (a_C_JobProcess hi) rfl 0 (by decide) (va_Nw.use rfl (hN _ (List.mem_of_getElem? (i := 8) rfl))) rfl hdg kk
theorem G_JT_JobProcess_program (hx : p.tables.exec = Jvm.exec) (hb : c.code = cc) (htg : ∀ w ∈ GW, w.before args s = true) (hown : s.vm.findClass R_JT = some m.cls) (hK : va_K D vwCl (tyL cs) s) (hN : ∀ w ∈ NW, va_Nw w s) (I : q_I D vwCl A H0 (q_ws 33 ad (cC ad cs σ)) H locs) {i : Nat} (hi : i < 8) (hdg : decode cc pc = .ok (.getfield 216, 3)) (kk : W p l e R s m args below meth c H locs cells slots Q (F0 m (pc + 3) ls (.int (σ 34 i) :: rest))) : W p l e R s m args below meth c H locs cells slots Q (F0 m pc ls (.ref (ad (9 + i)) :: rest)) :=
  q_getN (host := "JobTerminal") (own := "JobTerminal") (C := R_JobProcess) (T := F_JobProcess) (N := 10) (ci := 2) hx hb htg i_JobProcess hown hK I (9 + i) (by omega) (a_C_JobProcess hi) rfl 2 (by decide) (va_Nw.use rfl (hN _ (List.mem_of_getElem? (i := 11) rfl))) rfl hdg kk
theorem G_JT_JobProcess_register (hx : p.tables.exec = Jvm.exec) (hb : c.code = cc) (htg : ∀ w ∈ GW, w.before args s = true) (hown : s.vm.findClass R_JT = some m.cls) (hK : va_K D vwCl (tyL cs) s) (hN : ∀ w ∈ NW, va_Nw w s) (I : q_I D vwCl A H0 (q_ws 33 ad (cC ad cs σ)) H locs) {i : Nat} (hi : i < 8) (hdg : decode cc pc = .ok (.getfield 232, 3)) (kk : W p l e R s m args below meth c H locs cells slots Q (F0 m (pc + 3) ls (.int (σ 36 i) :: rest))) : W p l e R s m args below meth c H locs cells slots Q (F0 m pc ls (.ref (ad (9 + i)) :: rest)) :=
  q_getN (host := "JobTerminal") (own := "JobTerminal") (C := R_JobProcess) (T := F_JobProcess) (N := 10) (ci := 2) hx hb htg i_JobProcess hown hK I (9 + i) (by omega) (a_C_JobProcess hi) rfl 4 (by decide) (va_Nw.use rfl (hN _ (List.mem_of_getElem? (i := 13) rfl))) rfl hdg kk
theorem G_JT_JobProcess_state (hx : p.tables.exec = Jvm.exec) (hb : c.code = cc) (htg : ∀ w ∈ GW, w.before args s = true) (hown : s.vm.findClass R_JT = some m.cls) (hK : va_K D vwCl (tyL cs) s) (hN : ∀ w ∈ NW, va_Nw w s) (I : q_I D vwCl A H0 (q_ws 33 ad (cC ad cs σ)) H locs) {i : Nat} (hi : i < 8) (hdg : decode cc pc = .ok (.getfield 159, 3)) (kk : W p l e R s m args below meth c H locs cells slots Q (F0 m (pc + 3) ls (.int (σ 33 i) :: rest))) : W p l e R s m args below meth c H locs cells slots Q (F0 m pc ls (.ref (ad (9 + i)) :: rest)) :=
  q_getN (host := "JobTerminal") (own := "JobTerminal") (C := R_JobProcess) (T := F_JobProcess) (N := 10) (ci := 2) hx hb htg i_JobProcess hown hK I (9 + i) (by omega) (a_C_JobProcess hi) rfl 1 (by decide) (va_Nw.use rfl (hN _ (List.mem_of_getElem? (i := 10) rfl))) rfl hdg kk
theorem G_JT_NumberRow_count (hx : p.tables.exec = Jvm.exec) (hb : c.code = cc) (htg : ∀ w ∈ GW, w.before args s = true) (hown : s.vm.findClass R_JT = some m.cls) (hK : va_K D vwCl (tyL cs) s) (hN : ∀ w ∈ NW, va_Nw w s) (I : q_I D vwCl A H0 (q_ws 33 ad (cC ad cs σ)) H locs) {i : Nat} (hi : i < 6) (hdg : decode cc pc = .ok (.getfield 192, 3)) (kk : W p l e R s m args below meth c H locs cells slots Q (F0 m (pc + 3) ls (.int (σ 27 i) :: rest))) : W p l e R s m args below meth c H locs cells slots Q (F0 m pc ls (.ref (ad (21 + i)) :: rest)) :=
  q_getN (host := "JobTerminal") (own := "JobTerminal") (C := R_NumberRow) (T := F_NumberRow) (N := 3) (ci := 3) hx hb htg i_NumberRow hown hK I (21 + i) (by omega) (a_C_NumberRow hi) rfl 2 (by decide) (va_Nw.use rfl (hN _ (List.mem_of_getElem? (i := 1) rfl))) rfl hdg kk
theorem G_JT_Terminal_display (hx : p.tables.exec = Jvm.exec) (hb : c.code = cc) (htg : ∀ w ∈ GW, w.before args s = true) (hown : s.vm.findClass R_JT = some m.cls) (hK : va_K D vwCl (tyL cs) s) (hN : ∀ w ∈ NW, va_Nw w s) (I : q_I D vwCl A H0 (q_ws 33 ad (cC ad cs σ)) H locs) (hdg : decode cc pc = .ok (.getfield 176, 3)) (kk : W p l e R s m args below meth c H locs cells slots Q (F0 m (pc + 3) ls (.ref (ad 7) :: rest))) : W p l e R s m args below meth c H locs cells slots Q (F0 m pc ls (.ref (ad 6) :: rest)) :=
  q_getN (host := "JobTerminal") (own := "JobTerminal") (C := R_Terminal) (T := F_Terminal) (N := 5) (ci := 5) hx hb htg i_Terminal hown hK I 6 (by decide) a_C_Terminal rfl 2 (by decide) (va_Nw.use rfl (hN _ (List.mem_of_getElem? (i := 5) rfl))) rfl hdg kk
theorem G_JT_Terminal_edit (hx : p.tables.exec = Jvm.exec) (hb : c.code = cc) (htg : ∀ w ∈ GW, w.before args s = true) (hown : s.vm.findClass R_JT = some m.cls) (hK : va_K D vwCl (tyL cs) s) (hN : ∀ w ∈ NW, va_Nw w s) (I : q_I D vwCl A H0 (q_ws 33 ad (cC ad cs σ)) H locs) (hdg : decode cc pc = .ok (.getfield 188, 3)) (kk : W p l e R s m args below meth c H locs cells slots Q (F0 m (pc + 3) ls (.ref (ad (21 + 0)) :: rest))) : W p l e R s m args below meth c H locs cells slots Q (F0 m pc ls (.ref (ad 6) :: rest)) :=
  q_getN (host := "JobTerminal") (own := "JobTerminal") (C := R_Terminal) (T := F_Terminal) (N := 5) (ci := 5) hx hb htg i_Terminal hown hK I 6 (by decide) a_C_Terminal rfl 0 (by decide) (va_Nw.use rfl (hN _ (List.mem_of_getElem? (i := 3) rfl))) rfl hdg kk
theorem G_JT_Terminal_hangs (hx : p.tables.exec = Jvm.exec) (hb : c.code = cc) (htg : ∀ w ∈ GW, w.before args s = true) (hown : s.vm.findClass R_JT = some m.cls) (hK : va_K D vwCl (tyL cs) s) (hN : ∀ w ∈ NW, va_Nw w s) (I : q_I D vwCl A H0 (q_ws 33 ad (cC ad cs σ)) H locs) (hdg : decode cc pc = .ok (.getfield 164, 3)) (kk : W p l e R s m args below meth c H locs cells slots Q (F0 m (pc + 3) ls (.int (σ 23 0) :: rest))) : W p l e R s m args below meth c H locs cells slots Q (F0 m pc ls (.ref (ad 6) :: rest)) :=
  q_getN (host := "JobTerminal") (own := "JobTerminal") (C := R_Terminal) (T := F_Terminal) (N := 5) (ci := 5) hx hb htg i_Terminal hown hK I 6 (by decide) a_C_Terminal rfl 4 (by decide) (va_Nw.use rfl (hN _ (List.mem_of_getElem? (i := 7) rfl))) rfl hdg kk
theorem G_JT_Terminal_modes (hx : p.tables.exec = Jvm.exec) (hb : c.code = cc) (htg : ∀ w ∈ GW, w.before args s = true) (hown : s.vm.findClass R_JT = some m.cls) (hK : va_K D vwCl (tyL cs) s) (hN : ∀ w ∈ NW, va_Nw w s) (I : q_I D vwCl A H0 (q_ws 33 ad (cC ad cs σ)) H locs) (hdg : decode cc pc = .ok (.getfield 58, 3)) (kk : W p l e R s m args below meth c H locs cells slots Q (F0 m (pc + 3) ls (.int (σ 22 0) :: rest))) : W p l e R s m args below meth c H locs cells slots Q (F0 m pc ls (.ref (ad 6) :: rest)) :=
  q_getN (host := "JobTerminal") (own := "JobTerminal") (C := R_Terminal) (T := F_Terminal) (N := 5) (ci := 5) hx hb htg i_Terminal hown hK I 6 (by decide) a_C_Terminal rfl 3 (by decide) (va_Nw.use rfl (hN _ (List.mem_of_getElem? (i := 6) rfl))) rfl hdg kk
theorem G_JT_Terminal_queue (hx : p.tables.exec = Jvm.exec) (hb : c.code = cc) (htg : ∀ w ∈ GW, w.before args s = true) (hown : s.vm.findClass R_JT = some m.cls) (hK : va_K D vwCl (tyL cs) s) (hN : ∀ w ∈ NW, va_Nw w s) (I : q_I D vwCl A H0 (q_ws 33 ad (cC ad cs σ)) H locs) (hdg : decode cc pc = .ok (.getfield 197, 3)) (kk : W p l e R s m args below meth c H locs cells slots Q (F0 m (pc + 3) ls (.ref (ad (21 + 1)) :: rest))) : W p l e R s m args below meth c H locs cells slots Q (F0 m pc ls (.ref (ad 6) :: rest)) :=
  q_getN (host := "JobTerminal") (own := "JobTerminal") (C := R_Terminal) (T := F_Terminal) (N := 5) (ci := 5) hx hb htg i_Terminal hown hK I 6 (by decide) a_C_Terminal rfl 1 (by decide) (va_Nw.use rfl (hN _ (List.mem_of_getElem? (i := 4) rfl))) rfl hdg kk
theorem G_Display_Display_codes (hx : p.tables.exec = Jvm.exec) (hb : c.code = cc) (htg : ∀ w ∈ GW, w.before args s = true) (hown : s.vm.findClass R_Display = some m.cls) (hK : va_K D vwCl (tyL cs) s) (hN : ∀ w ∈ NW, va_Nw w s) (I : q_I D vwCl A H0 (q_ws 33 ad (cC ad cs σ)) H locs) (hdg : decode cc pc = .ok (.getfield 11, 3)) (kk : W p l e R s m args below meth c H locs cells slots Q (F0 m (pc + 3) ls (.ref (ad 8) :: rest))) : W p l e R s m args below meth c H locs cells slots Q (F0 m pc ls (.ref (ad 7) :: rest)) :=
  q_get (own := "JobTerminal$Display") (C := R_Display) (T := F_Display) (N := 3) (ci := 0) hx hb htg i_Display hown hK I 7 (by decide) a_C_Display rfl 0 (by decide) (htg _ mw334) rfl hdg kk
theorem G_Display_Display_next (hx : p.tables.exec = Jvm.exec) (hb : c.code = cc) (htg : ∀ w ∈ GW, w.before args s = true) (hown : s.vm.findClass R_Display = some m.cls) (hK : va_K D vwCl (tyL cs) s) (hN : ∀ w ∈ NW, va_Nw w s) (I : q_I D vwCl A H0 (q_ws 33 ad (cC ad cs σ)) H locs) (hdg : decode cc pc = .ok (.getfield 15, 3)) (kk : W p l e R s m args below meth c H locs cells slots Q (F0 m (pc + 3) ls (.int (σ 24 0) :: rest))) : W p l e R s m args below meth c H locs cells slots Q (F0 m pc ls (.ref (ad 7) :: rest)) :=
  q_get (own := "JobTerminal$Display") (C := R_Display) (T := F_Display) (N := 3) (ci := 0) hx hb htg i_Display hown hK I 7 (by decide) a_C_Display rfl 1 (by decide) (htg _ mw335) rfl hdg kk
theorem G_Display_Display_total (hx : p.tables.exec = Jvm.exec) (hb : c.code = cc) (htg : ∀ w ∈ GW, w.before args s = true) (hown : s.vm.findClass R_Display = some m.cls) (hK : va_K D vwCl (tyL cs) s) (hN : ∀ w ∈ NW, va_Nw w s) (I : q_I D vwCl A H0 (q_ws 33 ad (cC ad cs σ)) H locs) (hdg : decode cc pc = .ok (.getfield 19, 3)) (kk : W p l e R s m args below meth c H locs cells slots Q (F0 m (pc + 3) ls (.int (σ 25 0) :: rest))) : W p l e R s m args below meth c H locs cells slots Q (F0 m pc ls (.ref (ad 7) :: rest)) :=
  q_get (own := "JobTerminal$Display") (C := R_Display) (T := F_Display) (N := 3) (ci := 0) hx hb htg i_Display hown hK I 7 (by decide) a_C_Display rfl 2 (by decide) (htg _ mw336) rfl hdg kk
theorem G_Job_Job_first (hx : p.tables.exec = Jvm.exec) (hb : c.code = cc) (htg : ∀ w ∈ GW, w.before args s = true) (hown : s.vm.findClass R_Job = some m.cls) (hK : va_K D vwCl (tyL cs) s) (hN : ∀ w ∈ NW, va_Nw w s) (I : q_I D vwCl A H0 (q_ws 33 ad (cC ad cs σ)) H locs) {i : Nat} (hi : i < 4) (hdg : decode cc pc = .ok (.getfield 27, 3)) (kk : W p l e R s m args below meth c H locs cells slots Q (F0 m (pc + 3) ls (q_rv ad 9 (σ 28 i) :: rest))) : W p l e R s m args below meth c H locs cells slots Q (F0 m pc ls (.ref (ad (17 + i)) :: rest)) :=
  q_get (own := "JobTerminal$Job") (C := R_Job) (T := F_Job) (N := 6) (ci := 1) hx hb htg i_Job hown hK I (17 + i) (by omega) (a_C_Job hi) rfl 2 (by decide) (htg _ mw337) rfl hdg kk
theorem G_Job_Job_pipe (hx : p.tables.exec = Jvm.exec) (hb : c.code = cc) (htg : ∀ w ∈ GW, w.before args s = true) (hown : s.vm.findClass R_Job = some m.cls) (hK : va_K D vwCl (tyL cs) s) (hN : ∀ w ∈ NW, va_Nw w s) (I : q_I D vwCl A H0 (q_ws 33 ad (cC ad cs σ)) H locs) {i : Nat} (hi : i < 4) (hdg : decode cc pc = .ok (.getfield 20, 3)) (kk : W p l e R s m args below meth c H locs cells slots Q (F0 m (pc + 3) ls (.ref (ad (21 + (2 + i))) :: rest))) : W p l e R s m args below meth c H locs cells slots Q (F0 m pc ls (.ref (ad (17 + i)) :: rest)) :=
  q_get (own := "JobTerminal$Job") (C := R_Job) (T := F_Job) (N := 6) (ci := 1) hx hb htg i_Job hown hK I (17 + i) (by omega) (a_C_Job hi) rfl 1 (by decide) (htg _ mw338) rfl hdg kk
theorem G_Job_Job_second (hx : p.tables.exec = Jvm.exec) (hb : c.code = cc) (htg : ∀ w ∈ GW, w.before args s = true) (hown : s.vm.findClass R_Job = some m.cls) (hK : va_K D vwCl (tyL cs) s) (hN : ∀ w ∈ NW, va_Nw w s) (I : q_I D vwCl A H0 (q_ws 33 ad (cC ad cs σ)) H locs) {i : Nat} (hi : i < 4) (hdg : decode cc pc = .ok (.getfield 31, 3)) (kk : W p l e R s m args below meth c H locs cells slots Q (F0 m (pc + 3) ls (q_rv ad 9 (σ 29 i) :: rest))) : W p l e R s m args below meth c H locs cells slots Q (F0 m pc ls (.ref (ad (17 + i)) :: rest)) :=
  q_get (own := "JobTerminal$Job") (C := R_Job) (T := F_Job) (N := 6) (ci := 1) hx hb htg i_Job hown hK I (17 + i) (by omega) (a_C_Job hi) rfl 3 (by decide) (htg _ mw339) rfl hdg kk
theorem G_Job_JobProcess_state (hx : p.tables.exec = Jvm.exec) (hb : c.code = cc) (htg : ∀ w ∈ GW, w.before args s = true) (hown : s.vm.findClass R_Job = some m.cls) (hK : va_K D vwCl (tyL cs) s) (hN : ∀ w ∈ NW, va_Nw w s) (I : q_I D vwCl A H0 (q_ws 33 ad (cC ad cs σ)) H locs) {i : Nat} (hi : i < 8) (hdg : decode cc pc = .ok (.getfield 46, 3)) (kk : W p l e R s m args below meth c H locs cells slots Q (F0 m (pc + 3) ls (.int (σ 33 i) :: rest))) : W p l e R s m args below meth c H locs cells slots Q (F0 m pc ls (.ref (ad (9 + i)) :: rest)) :=
  q_getN (host := "JobTerminal") (own := "JobTerminal$Job") (C := R_JobProcess) (T := F_JobProcess) (N := 10) (ci := 2) hx hb htg i_JobProcess hown hK I (9 + i) (by omega) (a_C_JobProcess hi) rfl 1 (by decide) (va_Nw.use rfl (hN _ (List.mem_of_getElem? (i := 9) rfl))) rfl hdg kk
theorem G_JobProcess_Job_number (hx : p.tables.exec = Jvm.exec) (hb : c.code = cc) (htg : ∀ w ∈ GW, w.before args s = true) (hown : s.vm.findClass R_JobProcess = some m.cls) (hK : va_K D vwCl (tyL cs) s) (hN : ∀ w ∈ NW, va_Nw w s) (I : q_I D vwCl A H0 (q_ws 33 ad (cC ad cs σ)) H locs) {i : Nat} (hi : i < 4) (hdg : decode cc pc = .ok (.getfield 43, 3)) (kk : W p l e R s m args below meth c H locs cells slots Q (F0 m (pc + 3) ls (.int (nI i) :: rest))) : W p l e R s m args below meth c H locs cells slots Q (F0 m pc ls (.ref (ad (17 + i)) :: rest)) :=
  q_getN (host := "JobTerminal") (own := "JobTerminal$JobProcess") (C := R_Job) (T := F_Job) (N := 6) (ci := 1) hx hb htg i_Job hown hK I (17 + i) (by omega) (a_C_Job hi) rfl 0 (by decide) (va_Nw.use rfl (hN _ (List.mem_of_getElem? (i := 15) rfl))) rfl hdg kk
theorem G_JobProcess_JobProcess_blocked (hx : p.tables.exec = Jvm.exec) (hb : c.code = cc) (htg : ∀ w ∈ GW, w.before args s = true) (hown : s.vm.findClass R_JobProcess = some m.cls) (hK : va_K D vwCl (tyL cs) s) (hN : ∀ w ∈ NW, va_Nw w s) (I : q_I D vwCl A H0 (q_ws 33 ad (cC ad cs σ)) H locs) {i : Nat} (hi : i < 8) (hdg : decode cc pc = .ok (.getfield 34, 3)) (kk : W p l e R s m args below meth c H locs cells slots Q (F0 m (pc + 3) ls (.int (σ 39 i) :: rest))) : W p l e R s m args below meth c H locs cells slots Q (F0 m pc ls (.ref (ad (9 + i)) :: rest)) :=
  q_get (own := "JobTerminal$JobProcess") (C := R_JobProcess) (T := F_JobProcess) (N := 10) (ci := 2) hx hb htg i_JobProcess hown hK I (9 + i) (by omega) (a_C_JobProcess hi) rfl 7 (by decide) (htg _ mw340) rfl hdg kk
theorem G_JobProcess_JobProcess_code (hx : p.tables.exec = Jvm.exec) (hb : c.code = cc) (htg : ∀ w ∈ GW, w.before args s = true) (hown : s.vm.findClass R_JobProcess = some m.cls) (hK : va_K D vwCl (tyL cs) s) (hN : ∀ w ∈ NW, va_Nw w s) (I : q_I D vwCl A H0 (q_ws 33 ad (cC ad cs σ)) H locs) {i : Nat} (hi : i < 8) (hdg : decode cc pc = .ok (.getfield 28, 3)) (kk : W p l e R s m args below meth c H locs cells slots Q (F0 m (pc + 3) ls (.int (σ 37 i) :: rest))) : W p l e R s m args below meth c H locs cells slots Q (F0 m pc ls (.ref (ad (9 + i)) :: rest)) :=
  q_get (own := "JobTerminal$JobProcess") (C := R_JobProcess) (T := F_JobProcess) (N := 10) (ci := 2) hx hb htg i_JobProcess hown hK I (9 + i) (by omega) (a_C_JobProcess hi) rfl 5 (by decide) (htg _ mw341) rfl hdg kk
theorem G_JobProcess_JobProcess_ignored (hx : p.tables.exec = Jvm.exec) (hb : c.code = cc) (htg : ∀ w ∈ GW, w.before args s = true) (hown : s.vm.findClass R_JobProcess = some m.cls) (hK : va_K D vwCl (tyL cs) s) (hN : ∀ w ∈ NW, va_Nw w s) (I : q_I D vwCl A H0 (q_ws 33 ad (cC ad cs σ)) H locs) {i : Nat} (hi : i < 8) (hdg : decode cc pc = .ok (.getfield 37, 3)) (kk : W p l e R s m args below meth c H locs cells slots Q (F0 m (pc + 3) ls (.int (σ 40 i) :: rest))) : W p l e R s m args below meth c H locs cells slots Q (F0 m pc ls (.ref (ad (9 + i)) :: rest)) :=
  q_get (own := "JobTerminal$JobProcess") (C := R_JobProcess) (T := F_JobProcess) (N := 10) (ci := 2) hx hb htg i_JobProcess hown hK I (9 + i) (by omega) (a_C_JobProcess hi) rfl 8 (by decide) (htg _ mw342) rfl hdg kk
theorem G_JobProcess_JobProcess_line (hx : p.tables.exec = Jvm.exec) (hb : c.code = cc) (htg : ∀ w ∈ GW, w.before args s = true) (hown : s.vm.findClass R_JobProcess = some m.cls) (hK : va_K D vwCl (tyL cs) s) (hN : ∀ w ∈ NW, va_Nw w s) (I : q_I D vwCl A H0 (q_ws 33 ad (cC ad cs σ)) H locs) {i : Nat} (hi : i < 8) (hdg : decode cc pc = .ok (.getfield 22, 3)) (kk : W p l e R s m args below meth c H locs cells slots Q (F0 m (pc + 3) ls (.int (σ 35 i) :: rest))) : W p l e R s m args below meth c H locs cells slots Q (F0 m pc ls (.ref (ad (9 + i)) :: rest)) :=
  q_get (own := "JobTerminal$JobProcess") (C := R_JobProcess) (T := F_JobProcess) (N := 10) (ci := 2) hx hb htg i_JobProcess hown hK I (9 + i) (by omega) (a_C_JobProcess hi) rfl 3 (by decide) (htg _ mw343) rfl hdg kk
theorem G_JobProcess_JobProcess_nap (hx : p.tables.exec = Jvm.exec) (hb : c.code = cc) (htg : ∀ w ∈ GW, w.before args s = true) (hown : s.vm.findClass R_JobProcess = some m.cls) (hK : va_K D vwCl (tyL cs) s) (hN : ∀ w ∈ NW, va_Nw w s) (I : q_I D vwCl A H0 (q_ws 33 ad (cC ad cs σ)) H locs) {i : Nat} (hi : i < 8) (hdg : decode cc pc = .ok (.getfield 40, 3)) (kk : W p l e R s m args below meth c H locs cells slots Q (F0 m (pc + 3) ls (.int (σ 41 i) :: rest))) : W p l e R s m args below meth c H locs cells slots Q (F0 m pc ls (.ref (ad (9 + i)) :: rest)) :=
  q_get (own := "JobTerminal$JobProcess") (C := R_JobProcess) (T := F_JobProcess) (N := 10) (ci := 2) hx hb htg i_JobProcess hown hK I (9 + i) (by omega) (a_C_JobProcess hi) rfl 9 (by decide) (htg _ mw344) rfl hdg kk
theorem G_JobProcess_JobProcess_owner (hx : p.tables.exec = Jvm.exec) (hb : c.code = cc) (htg : ∀ w ∈ GW, w.before args s = true) (hown : s.vm.findClass R_JobProcess = some m.cls) (hK : va_K D vwCl (tyL cs) s) (hN : ∀ w ∈ NW, va_Nw w s) (I : q_I D vwCl A H0 (q_ws 33 ad (cC ad cs σ)) H locs) {i : Nat} (hi : i < 8) (hdg : decode cc pc = .ok (.getfield 9, 3)) (kk : W p l e R s m args below meth c H locs cells slots Q (F0 m (pc + 3) ls (q_rv ad 17 (σ 32 i) :: rest))) : W p l e R s m args below meth c H locs cells slots Q (F0 m pc ls (.ref (ad (9 + i)) :: rest)) :=
  q_get (own := "JobTerminal$JobProcess") (C := R_JobProcess) (T := F_JobProcess) (N := 10) (ci := 2) hx hb htg i_JobProcess hown hK I (9 + i) (by omega) (a_C_JobProcess hi) rfl 0 (by decide) (htg _ mw345) rfl hdg kk
theorem G_JobProcess_JobProcess_pending (hx : p.tables.exec = Jvm.exec) (hb : c.code = cc) (htg : ∀ w ∈ GW, w.before args s = true) (hown : s.vm.findClass R_JobProcess = some m.cls) (hK : va_K D vwCl (tyL cs) s) (hN : ∀ w ∈ NW, va_Nw w s) (I : q_I D vwCl A H0 (q_ws 33 ad (cC ad cs σ)) H locs) {i : Nat} (hi : i < 8) (hdg : decode cc pc = .ok (.getfield 31, 3)) (kk : W p l e R s m args below meth c H locs cells slots Q (F0 m (pc + 3) ls (.int (σ 38 i) :: rest))) : W p l e R s m args below meth c H locs cells slots Q (F0 m pc ls (.ref (ad (9 + i)) :: rest)) :=
  q_get (own := "JobTerminal$JobProcess") (C := R_JobProcess) (T := F_JobProcess) (N := 10) (ci := 2) hx hb htg i_JobProcess hown hK I (9 + i) (by omega) (a_C_JobProcess hi) rfl 6 (by decide) (htg _ mw346) rfl hdg kk
theorem G_JobProcess_JobProcess_register (hx : p.tables.exec = Jvm.exec) (hb : c.code = cc) (htg : ∀ w ∈ GW, w.before args s = true) (hown : s.vm.findClass R_JobProcess = some m.cls) (hK : va_K D vwCl (tyL cs) s) (hN : ∀ w ∈ NW, va_Nw w s) (I : q_I D vwCl A H0 (q_ws 33 ad (cC ad cs σ)) H locs) {i : Nat} (hi : i < 8) (hdg : decode cc pc = .ok (.getfield 25, 3)) (kk : W p l e R s m args below meth c H locs cells slots Q (F0 m (pc + 3) ls (.int (σ 36 i) :: rest))) : W p l e R s m args below meth c H locs cells slots Q (F0 m pc ls (.ref (ad (9 + i)) :: rest)) :=
  q_get (own := "JobTerminal$JobProcess") (C := R_JobProcess) (T := F_JobProcess) (N := 10) (ci := 2) hx hb htg i_JobProcess hown hK I (9 + i) (by omega) (a_C_JobProcess hi) rfl 4 (by decide) (htg _ mw347) rfl hdg kk
theorem G_JobProcess_JobProcess_state (hx : p.tables.exec = Jvm.exec) (hb : c.code = cc) (htg : ∀ w ∈ GW, w.before args s = true) (hown : s.vm.findClass R_JobProcess = some m.cls) (hK : va_K D vwCl (tyL cs) s) (hN : ∀ w ∈ NW, va_Nw w s) (I : q_I D vwCl A H0 (q_ws 33 ad (cC ad cs σ)) H locs) {i : Nat} (hi : i < 8) (hdg : decode cc pc = .ok (.getfield 15, 3)) (kk : W p l e R s m args below meth c H locs cells slots Q (F0 m (pc + 3) ls (.int (σ 33 i) :: rest))) : W p l e R s m args below meth c H locs cells slots Q (F0 m pc ls (.ref (ad (9 + i)) :: rest)) :=
  q_get (own := "JobTerminal$JobProcess") (C := R_JobProcess) (T := F_JobProcess) (N := 10) (ci := 2) hx hb htg i_JobProcess hown hK I (9 + i) (by omega) (a_C_JobProcess hi) rfl 1 (by decide) (htg _ mw348) rfl hdg kk
theorem G_NumberRow_NumberRow_count (hx : p.tables.exec = Jvm.exec) (hb : c.code = cc) (htg : ∀ w ∈ GW, w.before args s = true) (hown : s.vm.findClass R_NumberRow = some m.cls) (hK : va_K D vwCl (tyL cs) s) (hN : ∀ w ∈ NW, va_Nw w s) (I : q_I D vwCl A H0 (q_ws 33 ad (cC ad cs σ)) H locs) {i : Nat} (hi : i < 6) (hdg : decode cc pc = .ok (.getfield 21, 3)) (kk : W p l e R s m args below meth c H locs cells slots Q (F0 m (pc + 3) ls (.int (σ 27 i) :: rest))) : W p l e R s m args below meth c H locs cells slots Q (F0 m pc ls (.ref (ad (21 + i)) :: rest)) :=
  q_get (own := "JobTerminal$NumberRow") (C := R_NumberRow) (T := F_NumberRow) (N := 3) (ci := 3) hx hb htg i_NumberRow hown hK I (21 + i) (by omega) (a_C_NumberRow hi) rfl 2 (by decide) (htg _ mw349) rfl hdg kk
theorem G_NumberRow_NumberRow_numbers (hx : p.tables.exec = Jvm.exec) (hb : c.code = cc) (htg : ∀ w ∈ GW, w.before args s = true) (hown : s.vm.findClass R_NumberRow = some m.cls) (hK : va_K D vwCl (tyL cs) s) (hN : ∀ w ∈ NW, va_Nw w s) (I : q_I D vwCl A H0 (q_ws 33 ad (cC ad cs σ)) H locs) {i : Nat} (hi : i < 6) (hdg : decode cc pc = .ok (.getfield 15, 3)) (kk : W p l e R s m args below meth c H locs cells slots Q (F0 m (pc + 3) ls (.ref (ad (27 + i)) :: rest))) : W p l e R s m args below meth c H locs cells slots Q (F0 m pc ls (.ref (ad (21 + i)) :: rest)) :=
  q_get (own := "JobTerminal$NumberRow") (C := R_NumberRow) (T := F_NumberRow) (N := 3) (ci := 3) hx hb htg i_NumberRow hown hK I (21 + i) (by omega) (a_C_NumberRow hi) rfl 0 (by decide) (htg _ mw350) rfl hdg kk
theorem G_NumberRow_NumberRow_oldest (hx : p.tables.exec = Jvm.exec) (hb : c.code = cc) (htg : ∀ w ∈ GW, w.before args s = true) (hown : s.vm.findClass R_NumberRow = some m.cls) (hK : va_K D vwCl (tyL cs) s) (hN : ∀ w ∈ NW, va_Nw w s) (I : q_I D vwCl A H0 (q_ws 33 ad (cC ad cs σ)) H locs) {i : Nat} (hi : i < 6) (hdg : decode cc pc = .ok (.getfield 33, 3)) (kk : W p l e R s m args below meth c H locs cells slots Q (F0 m (pc + 3) ls (.int (σ 26 i) :: rest))) : W p l e R s m args below meth c H locs cells slots Q (F0 m pc ls (.ref (ad (21 + i)) :: rest)) :=
  q_get (own := "JobTerminal$NumberRow") (C := R_NumberRow) (T := F_NumberRow) (N := 3) (ci := 3) hx hb htg i_NumberRow hown hK I (21 + i) (by omega) (a_C_NumberRow hi) rfl 1 (by decide) (htg _ mw351) rfl hdg kk
theorem G_Programs_Programs_numbers (hx : p.tables.exec = Jvm.exec) (hb : c.code = cc) (htg : ∀ w ∈ GW, w.before args s = true) (hown : s.vm.findClass R_Programs = some m.cls) (hK : va_K D vwCl (tyL cs) s) (hN : ∀ w ∈ NW, va_Nw w s) (I : q_I D vwCl A H0 (q_ws 33 ad (cC ad cs σ)) H locs) (hdg : decode cc pc = .ok (.getfield 15, 3)) (kk : W p l e R s m args below meth c H locs cells slots Q (F0 m (pc + 3) ls (.ref (ad 3) :: rest))) : W p l e R s m args below meth c H locs cells slots Q (F0 m pc ls (.ref (ad 1) :: rest)) :=
  q_get (own := "JobTerminal$Programs") (C := R_Programs) (T := F_Programs) (N := 2) (ci := 4) hx hb htg i_Programs hown hK I 1 (by decide) a_C_Programs rfl 1 (by decide) (htg _ mw352) rfl hdg kk
theorem G_Programs_Programs_ops (hx : p.tables.exec = Jvm.exec) (hb : c.code = cc) (htg : ∀ w ∈ GW, w.before args s = true) (hown : s.vm.findClass R_Programs = some m.cls) (hK : va_K D vwCl (tyL cs) s) (hN : ∀ w ∈ NW, va_Nw w s) (I : q_I D vwCl A H0 (q_ws 33 ad (cC ad cs σ)) H locs) (hdg : decode cc pc = .ok (.getfield 11, 3)) (kk : W p l e R s m args below meth c H locs cells slots Q (F0 m (pc + 3) ls (.ref (ad 2) :: rest))) : W p l e R s m args below meth c H locs cells slots Q (F0 m pc ls (.ref (ad 1) :: rest)) :=
  q_get (own := "JobTerminal$Programs") (C := R_Programs) (T := F_Programs) (N := 2) (ci := 4) hx hb htg i_Programs hown hK I 1 (by decide) a_C_Programs rfl 0 (by decide) (htg _ mw353) rfl hdg kk
theorem G_Terminal_NumberRow_count (hx : p.tables.exec = Jvm.exec) (hb : c.code = cc) (htg : ∀ w ∈ GW, w.before args s = true) (hown : s.vm.findClass R_Terminal = some m.cls) (hK : va_K D vwCl (tyL cs) s) (hN : ∀ w ∈ NW, va_Nw w s) (I : q_I D vwCl A H0 (q_ws 33 ad (cC ad cs σ)) H locs) {i : Nat} (hi : i < 6) (hdg : decode cc pc = .ok (.getfield 70, 3)) (kk : W p l e R s m args below meth c H locs cells slots Q (F0 m (pc + 3) ls (.int (σ 27 i) :: rest))) : W p l e R s m args below meth c H locs cells slots Q (F0 m pc ls (.ref (ad (21 + i)) :: rest)) :=
  q_getN (host := "JobTerminal") (own := "JobTerminal$Terminal") (C := R_NumberRow) (T := F_NumberRow) (N := 3) (ci := 3) hx hb htg i_NumberRow hown hK I (21 + i) (by omega) (a_C_NumberRow hi) rfl 2 (by decide) (va_Nw.use rfl (hN _ (List.mem_of_getElem? (i := 0) rfl))) rfl hdg kk
theorem G_Terminal_Terminal_display (hx : p.tables.exec = Jvm.exec) (hb : c.code = cc) (htg : ∀ w ∈ GW, w.before args s = true) (hown : s.vm.findClass R_Terminal = some m.cls) (hK : va_K D vwCl (tyL cs) s) (hN : ∀ w ∈ NW, va_Nw w s) (I : q_I D vwCl A H0 (q_ws 33 ad (cC ad cs σ)) H locs) (hdg : decode cc pc = .ok (.getfield 26, 3)) (kk : W p l e R s m args below meth c H locs cells slots Q (F0 m (pc + 3) ls (.ref (ad 7) :: rest))) : W p l e R s m args below meth c H locs cells slots Q (F0 m pc ls (.ref (ad 6) :: rest)) :=
  q_get (own := "JobTerminal$Terminal") (C := R_Terminal) (T := F_Terminal) (N := 5) (ci := 5) hx hb htg i_Terminal hown hK I 6 (by decide) a_C_Terminal rfl 2 (by decide) (htg _ mw354) rfl hdg kk
theorem G_Terminal_Terminal_edit (hx : p.tables.exec = Jvm.exec) (hb : c.code = cc) (htg : ∀ w ∈ GW, w.before args s = true) (hown : s.vm.findClass R_Terminal = some m.cls) (hK : va_K D vwCl (tyL cs) s) (hN : ∀ w ∈ NW, va_Nw w s) (I : q_I D vwCl A H0 (q_ws 33 ad (cC ad cs σ)) H locs) (hdg : decode cc pc = .ok (.getfield 16, 3)) (kk : W p l e R s m args below meth c H locs cells slots Q (F0 m (pc + 3) ls (.ref (ad (21 + 0)) :: rest))) : W p l e R s m args below meth c H locs cells slots Q (F0 m pc ls (.ref (ad 6) :: rest)) :=
  q_get (own := "JobTerminal$Terminal") (C := R_Terminal) (T := F_Terminal) (N := 5) (ci := 5) hx hb htg i_Terminal hown hK I 6 (by decide) a_C_Terminal rfl 0 (by decide) (htg _ mw355) rfl hdg kk
theorem G_Terminal_Terminal_modes (hx : p.tables.exec = Jvm.exec) (hb : c.code = cc) (htg : ∀ w ∈ GW, w.before args s = true) (hown : s.vm.findClass R_Terminal = some m.cls) (hK : va_K D vwCl (tyL cs) s) (hN : ∀ w ∈ NW, va_Nw w s) (I : q_I D vwCl A H0 (q_ws 33 ad (cC ad cs σ)) H locs) (hdg : decode cc pc = .ok (.getfield 30, 3)) (kk : W p l e R s m args below meth c H locs cells slots Q (F0 m (pc + 3) ls (.int (σ 22 0) :: rest))) : W p l e R s m args below meth c H locs cells slots Q (F0 m pc ls (.ref (ad 6) :: rest)) :=
  q_get (own := "JobTerminal$Terminal") (C := R_Terminal) (T := F_Terminal) (N := 5) (ci := 5) hx hb htg i_Terminal hown hK I 6 (by decide) a_C_Terminal rfl 3 (by decide) (htg _ mw356) rfl hdg kk
theorem G_Terminal_Terminal_queue (hx : p.tables.exec = Jvm.exec) (hb : c.code = cc) (htg : ∀ w ∈ GW, w.before args s = true) (hown : s.vm.findClass R_Terminal = some m.cls) (hK : va_K D vwCl (tyL cs) s) (hN : ∀ w ∈ NW, va_Nw w s) (I : q_I D vwCl A H0 (q_ws 33 ad (cC ad cs σ)) H locs) (hdg : decode cc pc = .ok (.getfield 20, 3)) (kk : W p l e R s m args below meth c H locs cells slots Q (F0 m (pc + 3) ls (.ref (ad (21 + 1)) :: rest))) : W p l e R s m args below meth c H locs cells slots Q (F0 m pc ls (.ref (ad 6) :: rest)) :=
  q_get (own := "JobTerminal$Terminal") (C := R_Terminal) (T := F_Terminal) (N := 5) (ci := 5) hx hb htg i_Terminal hown hK I 6 (by decide) a_C_Terminal rfl 1 (by decide) (htg _ mw357) rfl hdg kk
theorem P_JT_JT_foregroundJob (hx : p.tables.exec = Jvm.exec) (hb : c.code = cc) (htg : ∀ w ∈ GW, w.before args s = true) (hown : s.vm.findClass R_JT = some m.cls) (hK : va_K D vwCl (tyL cs) s) (hN : ∀ w ∈ NW, va_Nw w s) (I : q_I D vwCl A H0 (q_ws 33 ad (cC ad cs σ)) H locs) {x : Int32} (hdg : decode cc pc = .ok (.putfield 39, 3)) (kk : ∀ (H : Heap) (locs : List Loc), q_I D vwCl A H0 (q_ws 33 ad (cC ad cs (q_up σ 20 0 x))) H locs → W p l e R s m args below meth c H locs cells slots Q (F0 m (pc + 3) ls rest)) : W p l e R s m args below meth c H locs cells slots Q (F0 m pc ls (q_rv ad 17 x :: .ref (ad 0) :: rest)) :=
  q_put (own := "JobTerminal") (C := R_JT) (T := F_JT) (N := 6) (ci := 6) hx hb htg i_JT t_JT t_JT_ok n_JT hown hK I 0 (by decide) a_C_JT rfl 4 (by decide) (htg _ mw328) rfl q_narR q_fitR (Nat.le_of_ble_eq_true rfl) (a_C_JT.trans (by simp [e_C_JT, q_up])) (h2_C_20) hdg kk
theorem P_JT_JT_latestSlot (hx : p.tables.exec = Jvm.exec) (hb : c.code = cc) (htg : ∀ w ∈ GW, w.before args s = true) (hown : s.vm.findClass R_JT = some m.cls) (hK : va_K D vwCl (tyL cs) s) (hN : ∀ w ∈ NW, va_Nw w s) (I : q_I D vwCl A H0 (q_ws 33 ad (cC ad cs σ)) H locs) {x : Int32} (hdg : decode cc pc = .ok (.putfield 43, 3)) (kk : ∀ (H : Heap) (locs : List Loc), q_I D vwCl A H0 (q_ws 33 ad (cC ad cs (q_up σ 21 0 x))) H locs → W p l e R s m args below meth c H locs cells slots Q (F0 m (pc + 3) ls rest)) : W p l e R s m args below meth c H locs cells slots Q (F0 m pc ls (.int x :: .ref (ad 0) :: rest)) :=
  q_put (own := "JobTerminal") (C := R_JT) (T := F_JT) (N := 6) (ci := 6) hx hb htg i_JT t_JT t_JT_ok n_JT hown hK I 0 (by decide) a_C_JT rfl 5 (by decide) (htg _ mw330) rfl rfl rfl (Nat.le_of_ble_eq_true rfl) (a_C_JT.trans (by simp [e_C_JT, q_up])) (h2_C_21) hdg kk
theorem P_JT_Job_settledState (hx : p.tables.exec = Jvm.exec) (hb : c.code = cc) (htg : ∀ w ∈ GW, w.before args s = true) (hown : s.vm.findClass R_JT = some m.cls) (hK : va_K D vwCl (tyL cs) s) (hN : ∀ w ∈ NW, va_Nw w s) (I : q_I D vwCl A H0 (q_ws 33 ad (cC ad cs σ)) H locs) {i : Nat} (hi : i < 4) {x : Int32} (hdg : decode cc pc = .ok (.putfield 207, 3)) (kk : ∀ (H : Heap) (locs : List Loc), q_I D vwCl A H0 (q_ws 33 ad (cC ad cs (q_up σ 31 i x))) H locs → W p l e R s m args below meth c H locs cells slots Q (F0 m (pc + 3) ls rest)) : W p l e R s m args below meth c H locs cells slots Q (F0 m pc ls (.int x :: .ref (ad (17 + i)) :: rest)) :=
  q_putN (host := "JobTerminal") (own := "JobTerminal") (C := R_Job) (T := F_Job) (N := 6) (ci := 1) hx hb htg i_Job t_Job t_Job_ok n_Job hown hK I (17 + i) (by omega) (a_C_Job hi) rfl 5 (by decide) (va_Nw.use rfl (hN _ (List.mem_of_getElem? (i := 20) rfl))) rfl rfl rfl (Nat.le_of_ble_eq_true rfl) ((a_C_Job hi).trans (by simp [e_C_Job, q_up])) (h2_C_31 hi) hdg kk
theorem P_JT_Job_untold (hx : p.tables.exec = Jvm.exec) (hb : c.code = cc) (htg : ∀ w ∈ GW, w.before args s = true) (hown : s.vm.findClass R_JT = some m.cls) (hK : va_K D vwCl (tyL cs) s) (hN : ∀ w ∈ NW, va_Nw w s) (I : q_I D vwCl A H0 (q_ws 33 ad (cC ad cs σ)) H locs) {i : Nat} (hi : i < 4) {x : Int32} (hB : q_isB x = true) (hdg : decode cc pc = .ok (.putfield 136, 3)) (kk : ∀ (H : Heap) (locs : List Loc), q_I D vwCl A H0 (q_ws 33 ad (cC ad cs (q_up σ 30 i x))) H locs → W p l e R s m args below meth c H locs cells slots Q (F0 m (pc + 3) ls rest)) : W p l e R s m args below meth c H locs cells slots Q (F0 m pc ls (.int x :: .ref (ad (17 + i)) :: rest)) :=
  q_putN (host := "JobTerminal") (own := "JobTerminal") (C := R_Job) (T := F_Job) (N := 6) (ci := 1) hx hb htg i_Job t_Job t_Job_ok n_Job hown hK I (17 + i) (by omega) (a_C_Job hi) rfl 4 (by decide) (va_Nw.use rfl (hN _ (List.mem_of_getElem? (i := 19) rfl))) rfl (q_narB hB) (q_fitB hB) (Nat.le_of_ble_eq_true rfl) ((a_C_Job hi).trans (by simp [e_C_Job, q_up])) (h2_C_30 hi) hdg kk
theorem P_JT_JobProcess_line (hx : p.tables.exec = Jvm.exec) (hb : c.code = cc) (htg : ∀ w ∈ GW, w.before args s = true) (hown : s.vm.findClass R_JT = some m.cls) (hK : va_K D vwCl (tyL cs) s) (hN : ∀ w ∈ NW, va_Nw w s) (I : q_I D vwCl A H0 (q_ws 33 ad (cC ad cs σ)) H locs) {i : Nat} (hi : i < 8) {x : Int32} (hdg : decode cc pc = .ok (.putfield 219, 3)) (kk : ∀ (H : Heap) (locs : List Loc), q_I D vwCl A H0 (q_ws 33 ad (cC ad cs (q_up σ 35 i x))) H locs → W p l e R s m args below meth c H locs cells slots Q (F0 m (pc + 3) ls rest)) : W p l e R s m args below meth c H locs cells slots Q (F0 m pc ls (.int x :: .ref (ad (9 + i)) :: rest)) :=
  q_putN (host := "JobTerminal") (own := "JobTerminal") (C := R_JobProcess) (T := F_JobProcess) (N := 10) (ci := 2) hx hb htg i_JobProcess t_JobProcess t_JobProcess_ok n_JobProcess hown hK I (9 + i) (by omega) (a_C_JobProcess hi) rfl 3 (by decide) (va_Nw.use rfl (hN _ (List.mem_of_getElem? (i := 12) rfl))) rfl rfl rfl (Nat.le_of_ble_eq_true rfl) ((a_C_JobProcess hi).trans (by simp [e_C_JobProcess, q_up])) (h2_C_35 hi) hdg kk
theorem P_JT_JobProcess_nap (hx : p.tables.exec = Jvm.exec) (hb : c.code = cc) (htg : ∀ w ∈ GW, w.before args s = true) (hown : s.vm.findClass R_JT = some m.cls) (hK : va_K D vwCl (tyL cs) s) (hN : ∀ w ∈ NW, va_Nw w s) (I : q_I D vwCl A H0 (q_ws 33 ad (cC ad cs σ)) H locs) {i : Nat} (hi : i < 8) {x : Int32} (hdg : decode cc pc = .ok (.putfield 161, 3)) (kk : ∀ (H : Heap) (locs : List Loc), q_I D vwCl A H0 (q_ws 33 ad (cC ad cs (q_up σ 41 i x))) H locs → W p l e R s m args below meth c H locs cells slots Q (F0 m (pc + 3) ls rest)) : W p l e R s m args below meth c H locs cells slots Q (F0 m pc ls (.int x :: .ref (ad (9 + i)) :: rest)) :=
  q_putN (host := "JobTerminal") (own := "JobTerminal") (C := R_JobProcess) (T := F_JobProcess) (N := 10) (ci := 2) hx hb htg i_JobProcess t_JobProcess t_JobProcess_ok n_JobProcess hown hK I (9 + i) (by omega) (a_C_JobProcess hi) rfl 9 (by decide) (va_Nw.use rfl (hN _ (List.mem_of_getElem? (i := 14) rfl))) rfl rfl rfl (Nat.le_of_ble_eq_true rfl) ((a_C_JobProcess hi).trans (by simp [e_C_JobProcess, q_up])) (h2_C_41 hi) hdg kk
theorem P_JT_Terminal_modes (hx : p.tables.exec = Jvm.exec) (hb : c.code = cc) (htg : ∀ w ∈ GW, w.before args s = true) (hown : s.vm.findClass R_JT = some m.cls) (hK : va_K D vwCl (tyL cs) s) (hN : ∀ w ∈ NW, va_Nw w s) (I : q_I D vwCl A H0 (q_ws 33 ad (cC ad cs σ)) H locs) {x : Int32} (hdg : decode cc pc = .ok (.putfield 58, 3)) (kk : ∀ (H : Heap) (locs : List Loc), q_I D vwCl A H0 (q_ws 33 ad (cC ad cs (q_up σ 22 0 x))) H locs → W p l e R s m args below meth c H locs cells slots Q (F0 m (pc + 3) ls rest)) : W p l e R s m args below meth c H locs cells slots Q (F0 m pc ls (.int x :: .ref (ad 6) :: rest)) :=
  q_putN (host := "JobTerminal") (own := "JobTerminal") (C := R_Terminal) (T := F_Terminal) (N := 5) (ci := 5) hx hb htg i_Terminal t_Terminal t_Terminal_ok n_Terminal hown hK I 6 (by decide) a_C_Terminal rfl 3 (by decide) (va_Nw.use rfl (hN _ (List.mem_of_getElem? (i := 6) rfl))) rfl rfl rfl (Nat.le_of_ble_eq_true rfl) (a_C_Terminal.trans (by simp [e_C_Terminal, q_up])) (h2_C_22) hdg kk
theorem P_Display_Display_next (hx : p.tables.exec = Jvm.exec) (hb : c.code = cc) (htg : ∀ w ∈ GW, w.before args s = true) (hown : s.vm.findClass R_Display = some m.cls) (hK : va_K D vwCl (tyL cs) s) (hN : ∀ w ∈ NW, va_Nw w s) (I : q_I D vwCl A H0 (q_ws 33 ad (cC ad cs σ)) H locs) {x : Int32} (hdg : decode cc pc = .ok (.putfield 15, 3)) (kk : ∀ (H : Heap) (locs : List Loc), q_I D vwCl A H0 (q_ws 33 ad (cC ad cs (q_up σ 24 0 x))) H locs → W p l e R s m args below meth c H locs cells slots Q (F0 m (pc + 3) ls rest)) : W p l e R s m args below meth c H locs cells slots Q (F0 m pc ls (.int x :: .ref (ad 7) :: rest)) :=
  q_put (own := "JobTerminal$Display") (C := R_Display) (T := F_Display) (N := 3) (ci := 0) hx hb htg i_Display t_Display t_Display_ok n_Display hown hK I 7 (by decide) a_C_Display rfl 1 (by decide) (htg _ mw335) rfl rfl rfl (Nat.le_of_ble_eq_true rfl) (a_C_Display.trans (by simp [e_C_Display, q_up])) (h2_C_24) hdg kk
theorem P_Display_Display_total (hx : p.tables.exec = Jvm.exec) (hb : c.code = cc) (htg : ∀ w ∈ GW, w.before args s = true) (hown : s.vm.findClass R_Display = some m.cls) (hK : va_K D vwCl (tyL cs) s) (hN : ∀ w ∈ NW, va_Nw w s) (I : q_I D vwCl A H0 (q_ws 33 ad (cC ad cs σ)) H locs) {x : Int32} (hdg : decode cc pc = .ok (.putfield 19, 3)) (kk : ∀ (H : Heap) (locs : List Loc), q_I D vwCl A H0 (q_ws 33 ad (cC ad cs (q_up σ 25 0 x))) H locs → W p l e R s m args below meth c H locs cells slots Q (F0 m (pc + 3) ls rest)) : W p l e R s m args below meth c H locs cells slots Q (F0 m pc ls (.int x :: .ref (ad 7) :: rest)) :=
  q_put (own := "JobTerminal$Display") (C := R_Display) (T := F_Display) (N := 3) (ci := 0) hx hb htg i_Display t_Display t_Display_ok n_Display hown hK I 7 (by decide) a_C_Display rfl 2 (by decide) (htg _ mw336) rfl rfl rfl (Nat.le_of_ble_eq_true rfl) (a_C_Display.trans (by simp [e_C_Display, q_up])) (h2_C_25) hdg kk
theorem P_Job_Job_first (hx : p.tables.exec = Jvm.exec) (hb : c.code = cc) (htg : ∀ w ∈ GW, w.before args s = true) (hown : s.vm.findClass R_Job = some m.cls) (hK : va_K D vwCl (tyL cs) s) (hN : ∀ w ∈ NW, va_Nw w s) (I : q_I D vwCl A H0 (q_ws 33 ad (cC ad cs σ)) H locs) {i : Nat} (hi : i < 4) {x : Int32} (hdg : decode cc pc = .ok (.putfield 27, 3)) (kk : ∀ (H : Heap) (locs : List Loc), q_I D vwCl A H0 (q_ws 33 ad (cC ad cs (q_up σ 28 i x))) H locs → W p l e R s m args below meth c H locs cells slots Q (F0 m (pc + 3) ls rest)) : W p l e R s m args below meth c H locs cells slots Q (F0 m pc ls (q_rv ad 9 x :: .ref (ad (17 + i)) :: rest)) :=
  q_put (own := "JobTerminal$Job") (C := R_Job) (T := F_Job) (N := 6) (ci := 1) hx hb htg i_Job t_Job t_Job_ok n_Job hown hK I (17 + i) (by omega) (a_C_Job hi) rfl 2 (by decide) (htg _ mw337) rfl q_narR q_fitR (Nat.le_of_ble_eq_true rfl) ((a_C_Job hi).trans (by simp [e_C_Job, q_up])) (h2_C_28 hi) hdg kk
theorem P_Job_Job_second (hx : p.tables.exec = Jvm.exec) (hb : c.code = cc) (htg : ∀ w ∈ GW, w.before args s = true) (hown : s.vm.findClass R_Job = some m.cls) (hK : va_K D vwCl (tyL cs) s) (hN : ∀ w ∈ NW, va_Nw w s) (I : q_I D vwCl A H0 (q_ws 33 ad (cC ad cs σ)) H locs) {i : Nat} (hi : i < 4) {x : Int32} (hdg : decode cc pc = .ok (.putfield 31, 3)) (kk : ∀ (H : Heap) (locs : List Loc), q_I D vwCl A H0 (q_ws 33 ad (cC ad cs (q_up σ 29 i x))) H locs → W p l e R s m args below meth c H locs cells slots Q (F0 m (pc + 3) ls rest)) : W p l e R s m args below meth c H locs cells slots Q (F0 m pc ls (q_rv ad 9 x :: .ref (ad (17 + i)) :: rest)) :=
  q_put (own := "JobTerminal$Job") (C := R_Job) (T := F_Job) (N := 6) (ci := 1) hx hb htg i_Job t_Job t_Job_ok n_Job hown hK I (17 + i) (by omega) (a_C_Job hi) rfl 3 (by decide) (htg _ mw339) rfl q_narR q_fitR (Nat.le_of_ble_eq_true rfl) ((a_C_Job hi).trans (by simp [e_C_Job, q_up])) (h2_C_29 hi) hdg kk
theorem P_Job_Job_settledState (hx : p.tables.exec = Jvm.exec) (hb : c.code = cc) (htg : ∀ w ∈ GW, w.before args s = true) (hown : s.vm.findClass R_Job = some m.cls) (hK : va_K D vwCl (tyL cs) s) (hN : ∀ w ∈ NW, va_Nw w s) (I : q_I D vwCl A H0 (q_ws 33 ad (cC ad cs σ)) H locs) {i : Nat} (hi : i < 4) {x : Int32} (hdg : decode cc pc = .ok (.putfield 24, 3)) (kk : ∀ (H : Heap) (locs : List Loc), q_I D vwCl A H0 (q_ws 33 ad (cC ad cs (q_up σ 31 i x))) H locs → W p l e R s m args below meth c H locs cells slots Q (F0 m (pc + 3) ls rest)) : W p l e R s m args below meth c H locs cells slots Q (F0 m pc ls (.int x :: .ref (ad (17 + i)) :: rest)) :=
  q_put (own := "JobTerminal$Job") (C := R_Job) (T := F_Job) (N := 6) (ci := 1) hx hb htg i_Job t_Job t_Job_ok n_Job hown hK I (17 + i) (by omega) (a_C_Job hi) rfl 5 (by decide) (htg _ mw358) rfl rfl rfl (Nat.le_of_ble_eq_true rfl) ((a_C_Job hi).trans (by simp [e_C_Job, q_up])) (h2_C_31 hi) hdg kk
theorem P_Job_Job_untold (hx : p.tables.exec = Jvm.exec) (hb : c.code = cc) (htg : ∀ w ∈ GW, w.before args s = true) (hown : s.vm.findClass R_Job = some m.cls) (hK : va_K D vwCl (tyL cs) s) (hN : ∀ w ∈ NW, va_Nw w s) (I : q_I D vwCl A H0 (q_ws 33 ad (cC ad cs σ)) H locs) {i : Nat} (hi : i < 4) {x : Int32} (hB : q_isB x = true) (hdg : decode cc pc = .ok (.putfield 37, 3)) (kk : ∀ (H : Heap) (locs : List Loc), q_I D vwCl A H0 (q_ws 33 ad (cC ad cs (q_up σ 30 i x))) H locs → W p l e R s m args below meth c H locs cells slots Q (F0 m (pc + 3) ls rest)) : W p l e R s m args below meth c H locs cells slots Q (F0 m pc ls (.int x :: .ref (ad (17 + i)) :: rest)) :=
  q_put (own := "JobTerminal$Job") (C := R_Job) (T := F_Job) (N := 6) (ci := 1) hx hb htg i_Job t_Job t_Job_ok n_Job hown hK I (17 + i) (by omega) (a_C_Job hi) rfl 4 (by decide) (htg _ mw359) rfl (q_narB hB) (q_fitB hB) (Nat.le_of_ble_eq_true rfl) ((a_C_Job hi).trans (by simp [e_C_Job, q_up])) (h2_C_30 hi) hdg kk
theorem P_JobProcess_JobProcess_blocked (hx : p.tables.exec = Jvm.exec) (hb : c.code = cc) (htg : ∀ w ∈ GW, w.before args s = true) (hown : s.vm.findClass R_JobProcess = some m.cls) (hK : va_K D vwCl (tyL cs) s) (hN : ∀ w ∈ NW, va_Nw w s) (I : q_I D vwCl A H0 (q_ws 33 ad (cC ad cs σ)) H locs) {i : Nat} (hi : i < 8) {x : Int32} (hdg : decode cc pc = .ok (.putfield 34, 3)) (kk : ∀ (H : Heap) (locs : List Loc), q_I D vwCl A H0 (q_ws 33 ad (cC ad cs (q_up σ 39 i x))) H locs → W p l e R s m args below meth c H locs cells slots Q (F0 m (pc + 3) ls rest)) : W p l e R s m args below meth c H locs cells slots Q (F0 m pc ls (.int x :: .ref (ad (9 + i)) :: rest)) :=
  q_put (own := "JobTerminal$JobProcess") (C := R_JobProcess) (T := F_JobProcess) (N := 10) (ci := 2) hx hb htg i_JobProcess t_JobProcess t_JobProcess_ok n_JobProcess hown hK I (9 + i) (by omega) (a_C_JobProcess hi) rfl 7 (by decide) (htg _ mw340) rfl rfl rfl (Nat.le_of_ble_eq_true rfl) ((a_C_JobProcess hi).trans (by simp [e_C_JobProcess, q_up])) (h2_C_39 hi) hdg kk
theorem P_JobProcess_JobProcess_code (hx : p.tables.exec = Jvm.exec) (hb : c.code = cc) (htg : ∀ w ∈ GW, w.before args s = true) (hown : s.vm.findClass R_JobProcess = some m.cls) (hK : va_K D vwCl (tyL cs) s) (hN : ∀ w ∈ NW, va_Nw w s) (I : q_I D vwCl A H0 (q_ws 33 ad (cC ad cs σ)) H locs) {i : Nat} (hi : i < 8) {x : Int32} (hdg : decode cc pc = .ok (.putfield 28, 3)) (kk : ∀ (H : Heap) (locs : List Loc), q_I D vwCl A H0 (q_ws 33 ad (cC ad cs (q_up σ 37 i x))) H locs → W p l e R s m args below meth c H locs cells slots Q (F0 m (pc + 3) ls rest)) : W p l e R s m args below meth c H locs cells slots Q (F0 m pc ls (.int x :: .ref (ad (9 + i)) :: rest)) :=
  q_put (own := "JobTerminal$JobProcess") (C := R_JobProcess) (T := F_JobProcess) (N := 10) (ci := 2) hx hb htg i_JobProcess t_JobProcess t_JobProcess_ok n_JobProcess hown hK I (9 + i) (by omega) (a_C_JobProcess hi) rfl 5 (by decide) (htg _ mw341) rfl rfl rfl (Nat.le_of_ble_eq_true rfl) ((a_C_JobProcess hi).trans (by simp [e_C_JobProcess, q_up])) (h2_C_37 hi) hdg kk
theorem P_JobProcess_JobProcess_ignored (hx : p.tables.exec = Jvm.exec) (hb : c.code = cc) (htg : ∀ w ∈ GW, w.before args s = true) (hown : s.vm.findClass R_JobProcess = some m.cls) (hK : va_K D vwCl (tyL cs) s) (hN : ∀ w ∈ NW, va_Nw w s) (I : q_I D vwCl A H0 (q_ws 33 ad (cC ad cs σ)) H locs) {i : Nat} (hi : i < 8) {x : Int32} (hdg : decode cc pc = .ok (.putfield 37, 3)) (kk : ∀ (H : Heap) (locs : List Loc), q_I D vwCl A H0 (q_ws 33 ad (cC ad cs (q_up σ 40 i x))) H locs → W p l e R s m args below meth c H locs cells slots Q (F0 m (pc + 3) ls rest)) : W p l e R s m args below meth c H locs cells slots Q (F0 m pc ls (.int x :: .ref (ad (9 + i)) :: rest)) :=
  q_put (own := "JobTerminal$JobProcess") (C := R_JobProcess) (T := F_JobProcess) (N := 10) (ci := 2) hx hb htg i_JobProcess t_JobProcess t_JobProcess_ok n_JobProcess hown hK I (9 + i) (by omega) (a_C_JobProcess hi) rfl 8 (by decide) (htg _ mw342) rfl rfl rfl (Nat.le_of_ble_eq_true rfl) ((a_C_JobProcess hi).trans (by simp [e_C_JobProcess, q_up])) (h2_C_40 hi) hdg kk
theorem P_JobProcess_JobProcess_line (hx : p.tables.exec = Jvm.exec) (hb : c.code = cc) (htg : ∀ w ∈ GW, w.before args s = true) (hown : s.vm.findClass R_JobProcess = some m.cls) (hK : va_K D vwCl (tyL cs) s) (hN : ∀ w ∈ NW, va_Nw w s) (I : q_I D vwCl A H0 (q_ws 33 ad (cC ad cs σ)) H locs) {i : Nat} (hi : i < 8) {x : Int32} (hdg : decode cc pc = .ok (.putfield 22, 3)) (kk : ∀ (H : Heap) (locs : List Loc), q_I D vwCl A H0 (q_ws 33 ad (cC ad cs (q_up σ 35 i x))) H locs → W p l e R s m args below meth c H locs cells slots Q (F0 m (pc + 3) ls rest)) : W p l e R s m args below meth c H locs cells slots Q (F0 m pc ls (.int x :: .ref (ad (9 + i)) :: rest)) :=
  q_put (own := "JobTerminal$JobProcess") (C := R_JobProcess) (T := F_JobProcess) (N := 10) (ci := 2) hx hb htg i_JobProcess t_JobProcess t_JobProcess_ok n_JobProcess hown hK I (9 + i) (by omega) (a_C_JobProcess hi) rfl 3 (by decide) (htg _ mw343) rfl rfl rfl (Nat.le_of_ble_eq_true rfl) ((a_C_JobProcess hi).trans (by simp [e_C_JobProcess, q_up])) (h2_C_35 hi) hdg kk
theorem P_JobProcess_JobProcess_nap (hx : p.tables.exec = Jvm.exec) (hb : c.code = cc) (htg : ∀ w ∈ GW, w.before args s = true) (hown : s.vm.findClass R_JobProcess = some m.cls) (hK : va_K D vwCl (tyL cs) s) (hN : ∀ w ∈ NW, va_Nw w s) (I : q_I D vwCl A H0 (q_ws 33 ad (cC ad cs σ)) H locs) {i : Nat} (hi : i < 8) {x : Int32} (hdg : decode cc pc = .ok (.putfield 40, 3)) (kk : ∀ (H : Heap) (locs : List Loc), q_I D vwCl A H0 (q_ws 33 ad (cC ad cs (q_up σ 41 i x))) H locs → W p l e R s m args below meth c H locs cells slots Q (F0 m (pc + 3) ls rest)) : W p l e R s m args below meth c H locs cells slots Q (F0 m pc ls (.int x :: .ref (ad (9 + i)) :: rest)) :=
  q_put (own := "JobTerminal$JobProcess") (C := R_JobProcess) (T := F_JobProcess) (N := 10) (ci := 2) hx hb htg i_JobProcess t_JobProcess t_JobProcess_ok n_JobProcess hown hK I (9 + i) (by omega) (a_C_JobProcess hi) rfl 9 (by decide) (htg _ mw344) rfl rfl rfl (Nat.le_of_ble_eq_true rfl) ((a_C_JobProcess hi).trans (by simp [e_C_JobProcess, q_up])) (h2_C_41 hi) hdg kk
theorem P_JobProcess_JobProcess_owner (hx : p.tables.exec = Jvm.exec) (hb : c.code = cc) (htg : ∀ w ∈ GW, w.before args s = true) (hown : s.vm.findClass R_JobProcess = some m.cls) (hK : va_K D vwCl (tyL cs) s) (hN : ∀ w ∈ NW, va_Nw w s) (I : q_I D vwCl A H0 (q_ws 33 ad (cC ad cs σ)) H locs) {i : Nat} (hi : i < 8) {x : Int32} (hdg : decode cc pc = .ok (.putfield 9, 3)) (kk : ∀ (H : Heap) (locs : List Loc), q_I D vwCl A H0 (q_ws 33 ad (cC ad cs (q_up σ 32 i x))) H locs → W p l e R s m args below meth c H locs cells slots Q (F0 m (pc + 3) ls rest)) : W p l e R s m args below meth c H locs cells slots Q (F0 m pc ls (q_rv ad 17 x :: .ref (ad (9 + i)) :: rest)) :=
  q_put (own := "JobTerminal$JobProcess") (C := R_JobProcess) (T := F_JobProcess) (N := 10) (ci := 2) hx hb htg i_JobProcess t_JobProcess t_JobProcess_ok n_JobProcess hown hK I (9 + i) (by omega) (a_C_JobProcess hi) rfl 0 (by decide) (htg _ mw345) rfl q_narR q_fitR (Nat.le_of_ble_eq_true rfl) ((a_C_JobProcess hi).trans (by simp [e_C_JobProcess, q_up])) (h2_C_32 hi) hdg kk
theorem P_JobProcess_JobProcess_pending (hx : p.tables.exec = Jvm.exec) (hb : c.code = cc) (htg : ∀ w ∈ GW, w.before args s = true) (hown : s.vm.findClass R_JobProcess = some m.cls) (hK : va_K D vwCl (tyL cs) s) (hN : ∀ w ∈ NW, va_Nw w s) (I : q_I D vwCl A H0 (q_ws 33 ad (cC ad cs σ)) H locs) {i : Nat} (hi : i < 8) {x : Int32} (hdg : decode cc pc = .ok (.putfield 31, 3)) (kk : ∀ (H : Heap) (locs : List Loc), q_I D vwCl A H0 (q_ws 33 ad (cC ad cs (q_up σ 38 i x))) H locs → W p l e R s m args below meth c H locs cells slots Q (F0 m (pc + 3) ls rest)) : W p l e R s m args below meth c H locs cells slots Q (F0 m pc ls (.int x :: .ref (ad (9 + i)) :: rest)) :=
  q_put (own := "JobTerminal$JobProcess") (C := R_JobProcess) (T := F_JobProcess) (N := 10) (ci := 2) hx hb htg i_JobProcess t_JobProcess t_JobProcess_ok n_JobProcess hown hK I (9 + i) (by omega) (a_C_JobProcess hi) rfl 6 (by decide) (htg _ mw346) rfl rfl rfl (Nat.le_of_ble_eq_true rfl) ((a_C_JobProcess hi).trans (by simp [e_C_JobProcess, q_up])) (h2_C_38 hi) hdg kk
theorem P_JobProcess_JobProcess_program (hx : p.tables.exec = Jvm.exec) (hb : c.code = cc) (htg : ∀ w ∈ GW, w.before args s = true) (hown : s.vm.findClass R_JobProcess = some m.cls) (hK : va_K D vwCl (tyL cs) s) (hN : ∀ w ∈ NW, va_Nw w s) (I : q_I D vwCl A H0 (q_ws 33 ad (cC ad cs σ)) H locs) {i : Nat} (hi : i < 8) {x : Int32} (hdg : decode cc pc = .ok (.putfield 19, 3)) (kk : ∀ (H : Heap) (locs : List Loc), q_I D vwCl A H0 (q_ws 33 ad (cC ad cs (q_up σ 34 i x))) H locs → W p l e R s m args below meth c H locs cells slots Q (F0 m (pc + 3) ls rest)) : W p l e R s m args below meth c H locs cells slots Q (F0 m pc ls (.int x :: .ref (ad (9 + i)) :: rest)) :=
  q_put (own := "JobTerminal$JobProcess") (C := R_JobProcess) (T := F_JobProcess) (N := 10) (ci := 2) hx hb htg i_JobProcess t_JobProcess t_JobProcess_ok n_JobProcess hown hK I (9 + i) (by omega) (a_C_JobProcess hi) rfl 2 (by decide) (htg _ mw360) rfl rfl rfl (Nat.le_of_ble_eq_true rfl) ((a_C_JobProcess hi).trans (by simp [e_C_JobProcess, q_up])) (h2_C_34 hi) hdg kk
theorem P_JobProcess_JobProcess_register (hx : p.tables.exec = Jvm.exec) (hb : c.code = cc) (htg : ∀ w ∈ GW, w.before args s = true) (hown : s.vm.findClass R_JobProcess = some m.cls) (hK : va_K D vwCl (tyL cs) s) (hN : ∀ w ∈ NW, va_Nw w s) (I : q_I D vwCl A H0 (q_ws 33 ad (cC ad cs σ)) H locs) {i : Nat} (hi : i < 8) {x : Int32} (hdg : decode cc pc = .ok (.putfield 25, 3)) (kk : ∀ (H : Heap) (locs : List Loc), q_I D vwCl A H0 (q_ws 33 ad (cC ad cs (q_up σ 36 i x))) H locs → W p l e R s m args below meth c H locs cells slots Q (F0 m (pc + 3) ls rest)) : W p l e R s m args below meth c H locs cells slots Q (F0 m pc ls (.int x :: .ref (ad (9 + i)) :: rest)) :=
  q_put (own := "JobTerminal$JobProcess") (C := R_JobProcess) (T := F_JobProcess) (N := 10) (ci := 2) hx hb htg i_JobProcess t_JobProcess t_JobProcess_ok n_JobProcess hown hK I (9 + i) (by omega) (a_C_JobProcess hi) rfl 4 (by decide) (htg _ mw347) rfl rfl rfl (Nat.le_of_ble_eq_true rfl) ((a_C_JobProcess hi).trans (by simp [e_C_JobProcess, q_up])) (h2_C_36 hi) hdg kk
theorem P_JobProcess_JobProcess_state (hx : p.tables.exec = Jvm.exec) (hb : c.code = cc) (htg : ∀ w ∈ GW, w.before args s = true) (hown : s.vm.findClass R_JobProcess = some m.cls) (hK : va_K D vwCl (tyL cs) s) (hN : ∀ w ∈ NW, va_Nw w s) (I : q_I D vwCl A H0 (q_ws 33 ad (cC ad cs σ)) H locs) {i : Nat} (hi : i < 8) {x : Int32} (hdg : decode cc pc = .ok (.putfield 15, 3)) (kk : ∀ (H : Heap) (locs : List Loc), q_I D vwCl A H0 (q_ws 33 ad (cC ad cs (q_up σ 33 i x))) H locs → W p l e R s m args below meth c H locs cells slots Q (F0 m (pc + 3) ls rest)) : W p l e R s m args below meth c H locs cells slots Q (F0 m pc ls (.int x :: .ref (ad (9 + i)) :: rest)) :=
  q_put (own := "JobTerminal$JobProcess") (C := R_JobProcess) (T := F_JobProcess) (N := 10) (ci := 2) hx hb htg i_JobProcess t_JobProcess t_JobProcess_ok n_JobProcess hown hK I (9 + i) (by omega) (a_C_JobProcess hi) rfl 1 (by decide) (htg _ mw348) rfl rfl rfl (Nat.le_of_ble_eq_true rfl) ((a_C_JobProcess hi).trans (by simp [e_C_JobProcess, q_up])) (h2_C_33 hi) hdg kk
theorem P_NumberRow_NumberRow_count (hx : p.tables.exec = Jvm.exec) (hb : c.code = cc) (htg : ∀ w ∈ GW, w.before args s = true) (hown : s.vm.findClass R_NumberRow = some m.cls) (hK : va_K D vwCl (tyL cs) s) (hN : ∀ w ∈ NW, va_Nw w s) (I : q_I D vwCl A H0 (q_ws 33 ad (cC ad cs σ)) H locs) {i : Nat} (hi : i < 6) {x : Int32} (hdg : decode cc pc = .ok (.putfield 21, 3)) (kk : ∀ (H : Heap) (locs : List Loc), q_I D vwCl A H0 (q_ws 33 ad (cC ad cs (q_up σ 27 i x))) H locs → W p l e R s m args below meth c H locs cells slots Q (F0 m (pc + 3) ls rest)) : W p l e R s m args below meth c H locs cells slots Q (F0 m pc ls (.int x :: .ref (ad (21 + i)) :: rest)) :=
  q_put (own := "JobTerminal$NumberRow") (C := R_NumberRow) (T := F_NumberRow) (N := 3) (ci := 3) hx hb htg i_NumberRow t_NumberRow t_NumberRow_ok n_NumberRow hown hK I (21 + i) (by omega) (a_C_NumberRow hi) rfl 2 (by decide) (htg _ mw349) rfl rfl rfl (Nat.le_of_ble_eq_true rfl) ((a_C_NumberRow hi).trans (by simp [e_C_NumberRow, q_up])) (h2_C_27 hi) hdg kk
theorem P_NumberRow_NumberRow_oldest (hx : p.tables.exec = Jvm.exec) (hb : c.code = cc) (htg : ∀ w ∈ GW, w.before args s = true) (hown : s.vm.findClass R_NumberRow = some m.cls) (hK : va_K D vwCl (tyL cs) s) (hN : ∀ w ∈ NW, va_Nw w s) (I : q_I D vwCl A H0 (q_ws 33 ad (cC ad cs σ)) H locs) {i : Nat} (hi : i < 6) {x : Int32} (hdg : decode cc pc = .ok (.putfield 33, 3)) (kk : ∀ (H : Heap) (locs : List Loc), q_I D vwCl A H0 (q_ws 33 ad (cC ad cs (q_up σ 26 i x))) H locs → W p l e R s m args below meth c H locs cells slots Q (F0 m (pc + 3) ls rest)) : W p l e R s m args below meth c H locs cells slots Q (F0 m pc ls (.int x :: .ref (ad (21 + i)) :: rest)) :=
  q_put (own := "JobTerminal$NumberRow") (C := R_NumberRow) (T := F_NumberRow) (N := 3) (ci := 3) hx hb htg i_NumberRow t_NumberRow t_NumberRow_ok n_NumberRow hown hK I (21 + i) (by omega) (a_C_NumberRow hi) rfl 1 (by decide) (htg _ mw351) rfl rfl rfl (Nat.le_of_ble_eq_true rfl) ((a_C_NumberRow hi).trans (by simp [e_C_NumberRow, q_up])) (h2_C_26 hi) hdg kk
theorem P_Terminal_Terminal_hangs (hx : p.tables.exec = Jvm.exec) (hb : c.code = cc) (htg : ∀ w ∈ GW, w.before args s = true) (hown : s.vm.findClass R_Terminal = some m.cls) (hK : va_K D vwCl (tyL cs) s) (hN : ∀ w ∈ NW, va_Nw w s) (I : q_I D vwCl A H0 (q_ws 33 ad (cC ad cs σ)) H locs) {x : Int32} (hB : q_isB x = true) (hdg : decode cc pc = .ok (.putfield 34, 3)) (kk : ∀ (H : Heap) (locs : List Loc), q_I D vwCl A H0 (q_ws 33 ad (cC ad cs (q_up σ 23 0 x))) H locs → W p l e R s m args below meth c H locs cells slots Q (F0 m (pc + 3) ls rest)) : W p l e R s m args below meth c H locs cells slots Q (F0 m pc ls (.int x :: .ref (ad 6) :: rest)) :=
  q_put (own := "JobTerminal$Terminal") (C := R_Terminal) (T := F_Terminal) (N := 5) (ci := 5) hx hb htg i_Terminal t_Terminal t_Terminal_ok n_Terminal hown hK I 6 (by decide) a_C_Terminal rfl 4 (by decide) (htg _ mw361) rfl (q_narB hB) (q_fitB hB) (Nat.le_of_ble_eq_true rfl) (a_C_Terminal.trans (by simp [e_C_Terminal, q_up])) (h2_C_23) hdg kk
theorem L_C_ops (hx : p.tables.exec = Jvm.exec) (hb : c.code = cc) (hK : va_K D vwCl (tyL cs) s) (I : q_I D vwCl A H0 (q_ws 33 ad (cC ad cs σ)) H locs) (hdg : decode cc pc = .ok (.arraylength, 1)) (kk : W p l e R s m args below meth c H locs cells slots Q (F0 m (pc + 1) ls (.int (64) :: rest))) : W p l e R s m args below meth c H locs cells slots Q (F0 m pc ls (.ref (ad 2) :: rest)) :=
  q_alen hx hb hK I 2 0 (by decide) a_C_ops rfl rfl hdg kk
theorem A_C_ops (hx : p.tables.exec = Jvm.exec) (hb : c.code = cc) (hK : va_K D vwCl (tyL cs) s) (I : q_I D vwCl A H0 (q_ws 33 ad (cC ad cs σ)) H locs) {i0 : Int32} (ho : q_in i0 64 = true) (hdg : decode cc pc = .ok (.iaload, 1)) (kk : W p l e R s m args below meth c H locs cells slots Q (F0 m (pc + 1) ls (.int (σ 0 i0.toNatClampNeg) :: rest))) : W p l e R s m args below meth c H locs cells slots Q (F0 m pc ls (.int i0 :: .ref (ad 2) :: rest)) :=
  q_iald hx hb hK I 2 0 (by decide) a_C_ops rfl ho hdg kk
theorem T_C_ops (hx : p.tables.exec = Jvm.exec) (hb : c.code = cc) (hK : va_K D vwCl (tyL cs) s) (I : q_I D vwCl A H0 (q_ws 33 ad (cC ad cs σ)) H locs) {i0 x : Int32} (ho : q_in i0 64 = true) (hdg : decode cc pc = .ok (.iastore, 1)) (kk : ∀ (H : Heap) (locs : List Loc), q_I D vwCl A H0 (q_ws 33 ad (cC ad cs (q_up σ 0 i0.toNatClampNeg x))) H locs → W p l e R s m args below meth c H locs cells slots Q (F0 m (pc + 1) ls rest)) : W p l e R s m args below meth c H locs cells slots Q (F0 m pc ls (.int x :: .int i0 :: .ref (ad 2) :: rest)) :=
  q_iast hx hb hK I 2 0 (by decide) a_C_ops rfl ho (a_C_ops.trans (by simp only [e_C_ops, q_up_row])) (h2_C_ops) hdg kk
theorem L_C_nums (hx : p.tables.exec = Jvm.exec) (hb : c.code = cc) (hK : va_K D vwCl (tyL cs) s) (I : q_I D vwCl A H0 (q_ws 33 ad (cC ad cs σ)) H locs) (hdg : decode cc pc = .ok (.arraylength, 1)) (kk : W p l e R s m args below meth c H locs cells slots Q (F0 m (pc + 1) ls (.int (64) :: rest))) : W p l e R s m args below meth c H locs cells slots Q (F0 m pc ls (.ref (ad 3) :: rest)) :=
  q_alen hx hb hK I 3 0 (by decide) a_C_nums rfl rfl hdg kk
theorem A_C_nums (hx : p.tables.exec = Jvm.exec) (hb : c.code = cc) (hK : va_K D vwCl (tyL cs) s) (I : q_I D vwCl A H0 (q_ws 33 ad (cC ad cs σ)) H locs) {i0 : Int32} (ho : q_in i0 64 = true) (hdg : decode cc pc = .ok (.iaload, 1)) (kk : W p l e R s m args below meth c H locs cells slots Q (F0 m (pc + 1) ls (.int (σ 1 i0.toNatClampNeg) :: rest))) : W p l e R s m args below meth c H locs cells slots Q (F0 m pc ls (.int i0 :: .ref (ad 3) :: rest)) :=
  q_iald hx hb hK I 3 0 (by decide) a_C_nums rfl ho hdg kk
theorem T_C_nums (hx : p.tables.exec = Jvm.exec) (hb : c.code = cc) (hK : va_K D vwCl (tyL cs) s) (I : q_I D vwCl A H0 (q_ws 33 ad (cC ad cs σ)) H locs) {i0 x : Int32} (ho : q_in i0 64 = true) (hdg : decode cc pc = .ok (.iastore, 1)) (kk : ∀ (H : Heap) (locs : List Loc), q_I D vwCl A H0 (q_ws 33 ad (cC ad cs (q_up σ 1 i0.toNatClampNeg x))) H locs → W p l e R s m args below meth c H locs cells slots Q (F0 m (pc + 1) ls rest)) : W p l e R s m args below meth c H locs cells slots Q (F0 m pc ls (.int x :: .int i0 :: .ref (ad 3) :: rest)) :=
  q_iast hx hb hK I 3 0 (by decide) a_C_nums rfl ho (a_C_nums.trans (by simp only [e_C_nums, q_up_row])) (h2_C_nums) hdg kk
theorem L_C_codes (hx : p.tables.exec = Jvm.exec) (hb : c.code = cc) (hK : va_K D vwCl (tyL cs) s) (I : q_I D vwCl A H0 (q_ws 33 ad (cC ad cs σ)) H locs) (hdg : decode cc pc = .ok (.arraylength, 1)) (kk : W p l e R s m args below meth c H locs cells slots Q (F0 m (pc + 1) ls (.int (100) :: rest))) : W p l e R s m args below meth c H locs cells slots Q (F0 m pc ls (.ref (ad 8) :: rest)) :=
  q_alen hx hb hK I 8 0 (by decide) a_C_codes rfl rfl hdg kk
theorem A_C_codes (hx : p.tables.exec = Jvm.exec) (hb : c.code = cc) (hK : va_K D vwCl (tyL cs) s) (I : q_I D vwCl A H0 (q_ws 33 ad (cC ad cs σ)) H locs) {i0 : Int32} (ho : q_in i0 100 = true) (hdg : decode cc pc = .ok (.iaload, 1)) (kk : W p l e R s m args below meth c H locs cells slots Q (F0 m (pc + 1) ls (.int (σ 2 i0.toNatClampNeg) :: rest))) : W p l e R s m args below meth c H locs cells slots Q (F0 m pc ls (.int i0 :: .ref (ad 8) :: rest)) :=
  q_iald hx hb hK I 8 0 (by decide) a_C_codes rfl ho hdg kk
theorem T_C_codes (hx : p.tables.exec = Jvm.exec) (hb : c.code = cc) (hK : va_K D vwCl (tyL cs) s) (I : q_I D vwCl A H0 (q_ws 33 ad (cC ad cs σ)) H locs) {i0 x : Int32} (ho : q_in i0 100 = true) (hdg : decode cc pc = .ok (.iastore, 1)) (kk : ∀ (H : Heap) (locs : List Loc), q_I D vwCl A H0 (q_ws 33 ad (cC ad cs (q_up σ 2 i0.toNatClampNeg x))) H locs → W p l e R s m args below meth c H locs cells slots Q (F0 m (pc + 1) ls rest)) : W p l e R s m args below meth c H locs cells slots Q (F0 m pc ls (.int x :: .int i0 :: .ref (ad 8) :: rest)) :=
  q_iast hx hb hK I 8 0 (by decide) a_C_codes rfl ho (a_C_codes.trans (by simp only [e_C_codes, q_up_row])) (h2_C_codes) hdg kk
theorem L_C_rowarr (hx : p.tables.exec = Jvm.exec) (hb : c.code = cc) (hK : va_K D vwCl (tyL cs) s) (I : q_I D vwCl A H0 (q_ws 33 ad (cC ad cs σ)) H locs) {i : Nat} (hi : i < 6) (hdg : decode cc pc = .ok (.arraylength, 1)) (kk : W p l e R s m args below meth c H locs cells slots Q (F0 m (pc + 1) ls (.int (nI (q_rl i)) :: rest))) : W p l e R s m args below meth c H locs cells slots Q (F0 m pc ls (.ref (ad (27 + i)) :: rest)) :=
  q_alen hx hb hK I (27 + i) 0 (by omega) (a_C_rowarr hi) rfl rfl hdg kk
theorem A_C_rowarr (hx : p.tables.exec = Jvm.exec) (hb : c.code = cc) (hK : va_K D vwCl (tyL cs) s) (I : q_I D vwCl A H0 (q_ws 33 ad (cC ad cs σ)) H locs) {i : Nat} (hi : i < 6) {i0 : Int32} (ho : q_in i0 (q_rl i) = true) (hdg : decode cc pc = .ok (.iaload, 1)) (kk : W p l e R s m args below meth c H locs cells slots Q (F0 m (pc + 1) ls (.int (σ (10 + i) i0.toNatClampNeg) :: rest))) : W p l e R s m args below meth c H locs cells slots Q (F0 m pc ls (.int i0 :: .ref (ad (27 + i)) :: rest)) :=
  q_iald hx hb hK I (27 + i) 0 (by omega) (a_C_rowarr hi) rfl ho hdg kk
theorem T_C_rowarr (hx : p.tables.exec = Jvm.exec) (hb : c.code = cc) (hK : va_K D vwCl (tyL cs) s) (I : q_I D vwCl A H0 (q_ws 33 ad (cC ad cs σ)) H locs) {i : Nat} (hi : i < 6) {i0 x : Int32} (ho : q_in i0 (q_rl i) = true) (hdg : decode cc pc = .ok (.iastore, 1)) (kk : ∀ (H : Heap) (locs : List Loc), q_I D vwCl A H0 (q_ws 33 ad (cC ad cs (q_up σ (10 + i) i0.toNatClampNeg x))) H locs → W p l e R s m args below meth c H locs cells slots Q (F0 m (pc + 1) ls rest)) : W p l e R s m args below meth c H locs cells slots Q (F0 m pc ls (.int x :: .int i0 :: .ref (ad (27 + i)) :: rest)) :=
  q_iast hx hb hK I (27 + i) 0 (by omega) (a_C_rowarr hi) rfl ho ((a_C_rowarr hi).trans (by simp only [e_C_rowarr, q_up_row])) (h2_C_rowarr hi) hdg kk
theorem L_C_procs (hx : p.tables.exec = Jvm.exec) (hb : c.code = cc) (hK : va_K D vwCl (tyL cs) s) (I : q_I D vwCl A H0 (q_ws 33 ad (cC ad cs σ)) H locs) (hdg : decode cc pc = .ok (.arraylength, 1)) (kk : W p l e R s m args below meth c H locs cells slots Q (F0 m (pc + 1) ls (.int (8) :: rest))) : W p l e R s m args below meth c H locs cells slots Q (F0 m pc ls (.ref (ad 4) :: rest)) :=
  q_alen hx hb hK I 4 2 (by decide) a_C_procs rfl rfl hdg kk
theorem A_C_procs (hx : p.tables.exec = Jvm.exec) (hb : c.code = cc) (hK : va_K D vwCl (tyL cs) s) (I : q_I D vwCl A H0 (q_ws 33 ad (cC ad cs σ)) H locs) {i0 : Int32} (ho : q_in i0 8 = true) (hdg : decode cc pc = .ok (.aaload, 1)) (kk : W p l e R s m args below meth c H locs cells slots Q (F0 m (pc + 1) ls (q_rv ad 9 i0 :: rest))) : W p l e R s m args below meth c H locs cells slots Q (F0 m pc ls (.int i0 :: .ref (ad 4) :: rest)) :=
  q_aald hx hb hK I 4 2 9 (by decide) a_C_procs rfl ho hdg kk
theorem L_C_jobs (hx : p.tables.exec = Jvm.exec) (hb : c.code = cc) (hK : va_K D vwCl (tyL cs) s) (I : q_I D vwCl A H0 (q_ws 33 ad (cC ad cs σ)) H locs) (hdg : decode cc pc = .ok (.arraylength, 1)) (kk : W p l e R s m args below meth c H locs cells slots Q (F0 m (pc + 1) ls (.int (4) :: rest))) : W p l e R s m args below meth c H locs cells slots Q (F0 m pc ls (.ref (ad 5) :: rest)) :=
  q_alen hx hb hK I 5 3 (by decide) a_C_jobs rfl rfl hdg kk
theorem A_C_jobs (hx : p.tables.exec = Jvm.exec) (hb : c.code = cc) (hK : va_K D vwCl (tyL cs) s) (I : q_I D vwCl A H0 (q_ws 33 ad (cC ad cs σ)) H locs) {i0 : Int32} (ho : q_in i0 4 = true) (hdg : decode cc pc = .ok (.aaload, 1)) (kk : W p l e R s m args below meth c H locs cells slots Q (F0 m (pc + 1) ls (q_rv ad 17 i0 :: rest))) : W p l e R s m args below meth c H locs cells slots Q (F0 m pc ls (.int i0 :: .ref (ad 5) :: rest)) :=
  q_aald hx hb hK I 5 3 17 (by decide) a_C_jobs rfl ho hdg kk
end ROWSC
