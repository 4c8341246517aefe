/-! WORLD M: its cells, as a table over a state -/
def e_M_Mo (ad : Nat → Nat) (cs : Nat → ClassId) (σ : q_St) (i : Nat) : va_E := .inr (7, [.ref (ad 1), .ref (ad 2), .ref (ad 3), .ref (ad 4), .ref (ad 5), .ref (ad 6), .ref (ad 7), .ref (ad 8), .ref (ad 9), .ref (ad 10), .ref (ad 11), .ref (ad 12), .int (σ 40 0), .ref (ad 13), .ref (ad 14), .ref (ad 15), .ref (ad 16), .ref (ad 17), .ref (ad 18), .ref (ad 19), .int (σ 41 0), .int (σ 42 0), .int (σ 43 0), .int (σ 44 0), .ref (ad 20), .int (σ 45 0), .ref (ad 21), .int (σ 46 0), .ref (ad 22), .int (σ 47 0), .int (σ 48 0)])
def e_M_ops (ad : Nat → Nat) (cs : Nat → ClassId) (σ : q_St) (i : Nat) : va_E := .inl (cs 0, 64, .inl (σ 0))
def e_M_numbers (ad : Nat → Nat) (cs : Nat → ClassId) (σ : q_St) (i : Nat) : va_E := .inl (cs 0, 64, .inl (σ 1))
def e_M_state (ad : Nat → Nat) (cs : Nat → ClassId) (σ : q_St) (i : Nat) : va_E := .inl (cs 0, 8, .inl (σ 2))
def e_M_jobOf (ad : Nat → Nat) (cs : Nat → ClassId) (σ : q_St) (i : Nat) : va_E := .inl (cs 0, 8, .inl (σ 3))
def e_M_programOf (ad : Nat → Nat) (cs : Nat → ClassId) (σ : q_St) (i : Nat) : va_E := .inl (cs 0, 8, .inl (σ 4))
def e_M_line (ad : Nat → Nat) (cs : Nat → ClassId) (σ : q_St) (i : Nat) : va_E := .inl (cs 0, 8, .inl (σ 5))
def e_M_register (ad : Nat → Nat) (cs : Nat → ClassId) (σ : q_St) (i : Nat) : va_E := .inl (cs 0, 8, .inl (σ 6))
def e_M_ends (ad : Nat → Nat) (cs : Nat → ClassId) (σ : q_St) (i : Nat) : va_E := .inl (cs 0, 8, .inl (σ 7))
def e_M_pending (ad : Nat → Nat) (cs : Nat → ClassId) (σ : q_St) (i : Nat) : va_E := .inl (cs 0, 8, .inl (σ 8))
def e_M_blocked (ad : Nat → Nat) (cs : Nat → ClassId) (σ : q_St) (i : Nat) : va_E := .inl (cs 0, 8, .inl (σ 9))
def e_M_ignored (ad : Nat → Nat) (cs : Nat → ClassId) (σ : q_St) (i : Nat) : va_E := .inl (cs 0, 8, .inl (σ 10))
def e_M_nap (ad : Nat → Nat) (cs : Nat → ClassId) (σ : q_St) (i : Nat) : va_E := .inl (cs 0, 8, .inl (σ 11))
def e_M_there (ad : Nat → Nat) (cs : Nat → ClassId) (σ : q_St) (i : Nat) : va_E := .inl (cs 1, 4, .inl (σ 12))
def e_M_first (ad : Nat → Nat) (cs : Nat → ClassId) (σ : q_St) (i : Nat) : va_E := .inl (cs 0, 4, .inl (σ 13))
def e_M_second (ad : Nat → Nat) (cs : Nat → ClassId) (σ : q_St) (i : Nat) : va_E := .inl (cs 0, 4, .inl (σ 14))
def e_M_was (ad : Nat → Nat) (cs : Nat → ClassId) (σ : q_St) (i : Nat) : va_E := .inl (cs 0, 4, .inl (σ 15))
def e_M_untold (ad : Nat → Nat) (cs : Nat → ClassId) (σ : q_St) (i : Nat) : va_E := .inl (cs 1, 4, .inl (σ 16))
def e_M_piped (ad : Nat → Nat) (cs : Nat → ClassId) (σ : q_St) (i : Nat) : va_E := .inl (cs 0, 4, .inl (σ 17))
def e_M_pipe (ad : Nat → Nat) (cs : Nat → ClassId) (σ : q_St) (i : Nat) : va_E := .inl (cs 0, 16, .inl (σ 18))
def e_M_edit (ad : Nat → Nat) (cs : Nat → ClassId) (σ : q_St) (i : Nat) : va_E := .inl (cs 0, 20, .inl (σ 19))
def e_M_queue (ad : Nat → Nat) (cs : Nat → ClassId) (σ : q_St) (i : Nat) : va_E := .inl (cs 0, 40, .inl (σ 20))
def e_M_screen (ad : Nat → Nat) (cs : Nat → ClassId) (σ : q_St) (i : Nat) : va_E := .inl (cs 0, 100, .inl (σ 21))
def cM (ad : Nat → Nat) (cs : Nat → ClassId) (σ : q_St) (k : Nat) : va_E := if k < 1 then e_M_Mo ad cs σ (k - 0) else if k < 2 then e_M_ops ad cs σ (k - 1) else if k < 3 then e_M_numbers ad cs σ (k - 2) else if k < 4 then e_M_state ad cs σ (k - 3) else if k < 5 then e_M_jobOf ad cs σ (k - 4) else if k < 6 then e_M_programOf ad cs σ (k - 5) else if k < 7 then e_M_line ad cs σ (k - 6) else if k < 8 then e_M_register ad cs σ (k - 7) else if k < 9 then e_M_ends ad cs σ (k - 8) else if k < 10 then e_M_pending ad cs σ (k - 9) else if k < 11 then e_M_blocked ad cs σ (k - 10) else if k < 12 then e_M_ignored ad cs σ (k - 11) else if k < 13 then e_M_nap ad cs σ (k - 12) else if k < 14 then e_M_there ad cs σ (k - 13) else if k < 15 then e_M_first ad cs σ (k - 14) else if k < 16 then e_M_second ad cs σ (k - 15) else if k < 17 then e_M_was ad cs σ (k - 16) else if k < 18 then e_M_untold ad cs σ (k - 17) else if k < 19 then e_M_piped ad cs σ (k - 18) else if k < 20 then e_M_pipe ad cs σ (k - 19) else if k < 21 then e_M_edit ad cs σ (k - 20) else if k < 22 then e_M_queue ad cs σ (k - 21) else if k < 23 then e_M_screen ad cs σ (k - 22) else .inr (0, [])
theorem a_M_Mo {ad : Nat → Nat} {cs : Nat → ClassId} {σ : q_St} : cM ad cs σ 0 = e_M_Mo ad cs σ 0 := by unfold cM; rw [if_pos (by omega)]
theorem a_M_ops {ad : Nat → Nat} {cs : Nat → ClassId} {σ : q_St} : cM ad cs σ 1 = e_M_ops ad cs σ 0 := by unfold cM; rw [if_neg (by omega), if_pos (by omega)]
theorem a_M_numbers {ad : Nat → Nat} {cs : Nat → ClassId} {σ : q_St} : cM ad cs σ 2 = e_M_numbers ad cs σ 0 := by unfold cM; rw [if_neg (by omega), if_neg (by omega), if_pos (by omega)]
theorem a_M_state {ad : Nat → Nat} {cs : Nat → ClassId} {σ : q_St} : cM ad cs σ 3 = e_M_state ad cs σ 0 := by unfold cM; rw [if_neg (by omega), if_neg (by omega), if_neg (by omega), if_pos (by omega)]
theorem a_M_jobOf {ad : Nat → Nat} {cs : Nat → ClassId} {σ : q_St} : cM ad cs σ 4 = e_M_jobOf ad cs σ 0 := by unfold cM; rw [if_neg (by omega), if_neg (by omega), if_neg (by omega), if_neg (by omega), if_pos (by omega)]
theorem a_M_programOf {ad : Nat → Nat} {cs : Nat → ClassId} {σ : q_St} : cM ad cs σ 5 = e_M_programOf ad cs σ 0 := by unfold cM; rw [if_neg (by omega), if_neg (by omega), if_neg (by omega), if_neg (by omega), if_neg (by omega), if_pos (by omega)]
theorem a_M_line {ad : Nat → Nat} {cs : Nat → ClassId} {σ : q_St} : cM ad cs σ 6 = e_M_line ad cs σ 0 := by unfold cM; rw [if_neg (by omega), if_neg (by omega), if_neg (by omega), if_neg (by omega), if_neg (by omega), if_neg (by omega), if_pos (by omega)]
theorem a_M_register {ad : Nat → Nat} {cs : Nat → ClassId} {σ : q_St} : cM ad cs σ 7 = e_M_register ad cs σ 0 := by unfold cM; rw [if_neg (by omega), if_neg (by omega), if_neg (by omega), if_neg (by omega), if_neg (by omega), if_neg (by omega), if_neg (by omega), if_pos (by omega)]
theorem a_M_ends {ad : Nat → Nat} {cs : Nat → ClassId} {σ : q_St} : cM ad cs σ 8 = e_M_ends ad cs σ 0 := by unfold cM; rw [if_neg (by omega), if_neg (by omega), if_neg (by omega), if_neg (by omega), if_neg (by omega), if_neg (by omega), if_neg (by omega), if_neg (by omega), if_pos (by omega)]
theorem a_M_pending {ad : Nat → Nat} {cs : Nat → ClassId} {σ : q_St} : cM ad cs σ 9 = e_M_pending ad cs σ 0 := by unfold cM; rw [if_neg (by omega), if_neg (by omega), if_neg (by omega), if_neg (by omega), if_neg (by omega), if_neg (by omega), if_neg (by omega), if_neg (by omega), if_neg (by omega), if_pos (by omega)]
theorem a_M_blocked {ad : Nat → Nat} {cs : Nat → ClassId} {σ : q_St} : cM ad cs σ 10 = e_M_blocked ad cs σ 0 := by unfold cM; rw [if_neg (by omega), if_neg (by omega), if_neg (by omega), if_neg (by omega), if_neg (by omega), if_neg (by omega), if_neg (by omega), if_neg (by omega), if_neg (by omega), if_neg (by omega), if_pos (by omega)]
theorem a_M_ignored {ad : Nat → Nat} {cs : Nat → ClassId} {σ : q_St} : cM ad cs σ 11 = e_M_ignored ad cs σ 0 := by unfold cM; rw [if_neg (by omega), if_neg (by omega), if_neg (by omega), if_neg (by omega), if_neg (by omega), if_neg (by omega), if_neg (by omega), if_neg (by omega), if_neg (by omega), if_neg (by omega), if_neg (by omega), if_pos (by omega)]
theorem a_M_nap {ad : Nat → Nat} {cs : Nat → ClassId} {σ : q_St} : cM ad cs σ 12 = e_M_nap ad cs σ 0 := by unfold cM; rw [if_neg (by omega), if_neg (by omega), if_neg (by omega), if_neg (by omega), if_neg (by omega), if_neg (by omega), if_neg (by omega), if_neg (by omega), if_neg (by omega), if_neg (by omega), if_neg (by omega), if_neg (by omega), if_pos (by omega)]
theorem a_M_there {ad : Nat → Nat} {cs : Nat → ClassId} {σ : q_St} : cM ad cs σ 13 = e_M_there ad cs σ 0 := by unfold cM; rw [if_neg (by omega), if_neg (by omega), if_neg (by omega), if_neg (by omega), if_neg (by omega), if_neg (by omega), if_neg (by omega), if_neg (by omega), if_neg (by omega), if_neg (by omega), if_neg (by omega), if_neg (by omega), if_neg (by omega), if_pos (by omega)]
theorem a_M_first {ad : Nat → Nat} {cs : Nat → ClassId} {σ : q_St} : cM ad cs σ 14 = e_M_first ad cs σ 0 := by unfold cM; rw [if_neg (by omega), if_neg (by omega), if_neg (by omega), if_neg (by omega), if_neg (by omega), if_neg (by omega), if_neg (by omega), if_neg (by omega), if_neg (by omega), if_neg (by omega), if_neg (by omega), if_neg (by omega), if_neg (by omega), if_neg (by omega), if_pos (by omega)]
theorem a_M_second {ad : Nat → Nat} {cs : Nat → ClassId} {σ : q_St} : cM ad cs σ 15 = e_M_second ad cs σ 0 := by unfold cM; rw [if_neg (by omega), if_neg (by omega), if_neg (by omega), if_neg (by omega), if_neg (by omega), if_neg (by omega), if_neg (by omega), if_neg (by omega), if_neg (by omega), if_neg (by omega), if_neg (by omega), if_neg (by omega), if_neg (by omega), if_neg (by omega), if_neg (by omega), if_pos (by omega)]
theorem a_M_was {ad : Nat → Nat} {cs : Nat → ClassId} {σ : q_St} : cM ad cs σ 16 = e_M_was ad cs σ 0 := by unfold cM; rw [if_neg (by omega), if_neg (by omega), if_neg (by omega), if_neg (by omega), if_neg (by omega), if_neg (by omega), if_neg (by omega), if_neg (by omega), if_neg (by omega), if_neg (by omega), if_neg (by omega), if_neg (by omega), if_neg (by omega), if_neg (by omega), if_neg (by omega), if_neg (by omega), if_pos (by omega)]
theorem a_M_untold {ad : Nat → Nat} {cs : Nat → ClassId} {σ : q_St} : cM ad cs σ 17 = e_M_untold ad cs σ 0 := by unfold cM; rw [if_neg (by omega), if_neg (by omega), if_neg (by omega), if_neg (by omega), if_neg (by omega), if_neg (by omega), if_neg (by omega), if_neg (by omega), if_neg (by omega), if_neg (by omega), if_neg (by omega), if_neg (by omega), if_neg (by omega), if_neg (by omega), if_neg (by omega), if_neg (by omega), if_neg (by omega), if_pos (by omega)]
theorem a_M_piped {ad : Nat → Nat} {cs : Nat → ClassId} {σ : q_St} : cM ad cs σ 18 = e_M_piped ad cs σ 0 := by unfold cM; rw [if_neg (by omega), if_neg (by omega), if_neg (by omega), if_neg (by omega), if_neg (by omega), if_neg (by omega), if_neg (by omega), if_neg (by omega), if_neg (by omega), if_neg (by omega), if_neg (by omega), if_neg (by omega), if_neg (by omega), if_neg (by omega), if_neg (by omega), if_neg (by omega), if_neg (by omega), if_neg (by omega), if_pos (by omega)]
theorem a_M_pipe {ad : Nat → Nat} {cs : Nat → ClassId} {σ : q_St} : cM ad cs σ 19 = e_M_pipe ad cs σ 0 := by unfold cM; rw [if_neg (by omega), if_neg (by omega), if_neg (by omega), if_neg (by omega), if_neg (by omega), if_neg (by omega), if_neg (by omega), if_neg (by omega), if_neg (by omega), if_neg (by omega), if_neg (by omega), if_neg (by omega), if_neg (by omega), if_neg (by omega), if_neg (by omega), if_neg (by omega), if_neg (by omega), if_neg (by omega), if_neg (by omega), if_pos (by omega)]
theorem a_M_edit {ad : Nat → Nat} {cs : Nat → ClassId} {σ : q_St} : cM ad cs σ 20 = e_M_edit ad cs σ 0 := by unfold cM; rw [if_neg (by omega), if_neg (by omega), if_neg (by omega), if_neg (by omega), if_neg (by omega), if_neg (by omega), if_neg (by omega), if_neg (by omega), if_neg (by omega), if_neg (by omega), if_neg (by omega), if_neg (by omega), if_neg (by omega), if_neg (by omega), if_neg (by omega), if_neg (by omega), if_neg (by omega), if_neg (by omega), if_neg (by omega), if_neg (by omega), if_pos (by omega)]
theorem a_M_queue {ad : Nat → Nat} {cs : Nat → ClassId} {σ : q_St} : cM ad cs σ 21 = e_M_queue ad cs σ 0 := by unfold cM; rw [if_neg (by omega), if_neg (by omega), if_neg (by omega), if_neg (by omega), if_neg (by omega), if_neg (by omega), if_neg (by omega), if_neg (by omega), if_neg (by omega), if_neg (by omega), if_neg (by omega), if_neg (by omega), if_neg (by omega), if_neg (by omega), if_neg (by omega), if_neg (by omega), if_neg (by omega), if_neg (by omega), if_neg (by omega), if_neg (by omega), if_neg (by omega), if_pos (by omega)]
theorem a_M_screen {ad : Nat → Nat} {cs : Nat → ClassId} {σ : q_St} : cM ad cs σ 22 = e_M_screen ad cs σ 0 := by unfold cM; rw [if_neg (by omega), if_neg (by omega), if_neg (by omega), if_neg (by omega), if_neg (by omega), if_neg (by omega), if_neg (by omega), if_neg (by omega), if_neg (by omega), if_neg (by omega), if_neg (by omega), if_neg (by omega), if_neg (by omega), if_neg (by omega), if_neg (by omega), if_neg (by omega), if_neg (by omega), if_neg (by omega), if_neg (by omega), if_neg (by omega), if_neg (by omega), if_neg (by omega), if_pos (by omega)]
theorem u_M_Mo {ad : Nat → Nat} {cs : Nat → ClassId} {σ : q_St} {f i j : Nat} {x : Int32} (h : (∀ g ∈ [40, 41, 42, 43, 44, 45, 46, 47, 48], g ≠ f) ∨ 0 ≠ i) : e_M_Mo ad cs (q_up σ f i x) j = e_M_Mo ad cs σ j := by
  unfold e_M_Mo
  rcases h with h | h
  · simp only [q_up_f (h 40 (by decide)), q_up_f (h 41 (by decide)), q_up_f (h 42 (by decide)), q_up_f (h 43 (by decide)), q_up_f (h 44 (by decide)), q_up_f (h 45 (by decide)), q_up_f (h 46 (by decide)), q_up_f (h 47 (by decide)), q_up_f (h 48 (by decide))]
  · simp only [q_up_i h]
theorem u_M_ops {ad : Nat → Nat} {cs : Nat → ClassId} {σ : q_St} {f i j : Nat} {x : Int32} (h : 0 ≠ f) : e_M_ops ad cs (q_up σ f i x) j = e_M_ops ad cs σ j := by
  unfold e_M_ops; rw [q_up_rowf h]
theorem u_M_numbers {ad : Nat → Nat} {cs : Nat → ClassId} {σ : q_St} {f i j : Nat} {x : Int32} (h : 1 ≠ f) : e_M_numbers ad cs (q_up σ f i x) j = e_M_numbers ad cs σ j := by
  unfold e_M_numbers; rw [q_up_rowf h]
theorem u_M_state {ad : Nat → Nat} {cs : Nat → ClassId} {σ : q_St} {f i j : Nat} {x : Int32} (h : 2 ≠ f) : e_M_state ad cs (q_up σ f i x) j = e_M_state ad cs σ j := by
  unfold e_M_state; rw [q_up_rowf h]
theorem u_M_jobOf {ad : Nat → Nat} {cs : Nat → ClassId} {σ : q_St} {f i j : Nat} {x : Int32} (h : 3 ≠ f) : e_M_jobOf ad cs (q_up σ f i x) j = e_M_jobOf ad cs σ j := by
  unfold e_M_jobOf; rw [q_up_rowf h]
theorem u_M_programOf {ad : Nat → Nat} {cs : Nat → ClassId} {σ : q_St} {f i j : Nat} {x : Int32} (h : 4 ≠ f) : e_M_programOf ad cs (q_up σ f i x) j = e_M_programOf ad cs σ j := by
  unfold e_M_programOf; rw [q_up_rowf h]
theorem u_M_line {ad : Nat → Nat} {cs : Nat → ClassId} {σ : q_St} {f i j : Nat} {x : Int32} (h : 5 ≠ f) : e_M_line ad cs (q_up σ f i x) j = e_M_line ad cs σ j := by
  unfold e_M_line; rw [q_up_rowf h]
theorem u_M_register {ad : Nat → Nat} {cs : Nat → ClassId} {σ : q_St} {f i j : Nat} {x : Int32} (h : 6 ≠ f) : e_M_register ad cs (q_up σ f i x) j = e_M_register ad cs σ j := by
  unfold e_M_register; rw [q_up_rowf h]
theorem u_M_ends {ad : Nat → Nat} {cs : Nat → ClassId} {σ : q_St} {f i j : Nat} {x : Int32} (h : 7 ≠ f) : e_M_ends ad cs (q_up σ f i x) j = e_M_ends ad cs σ j := by
  unfold e_M_ends; rw [q_up_rowf h]
theorem u_M_pending {ad : Nat → Nat} {cs : Nat → ClassId} {σ : q_St} {f i j : Nat} {x : Int32} (h : 8 ≠ f) : e_M_pending ad cs (q_up σ f i x) j = e_M_pending ad cs σ j := by
  unfold e_M_pending; rw [q_up_rowf h]
theorem u_M_blocked {ad : Nat → Nat} {cs : Nat → ClassId} {σ : q_St} {f i j : Nat} {x : Int32} (h : 9 ≠ f) : e_M_blocked ad cs (q_up σ f i x) j = e_M_blocked ad cs σ j := by
  unfold e_M_blocked; rw [q_up_rowf h]
theorem u_M_ignored {ad : Nat → Nat} {cs : Nat → ClassId} {σ : q_St} {f i j : Nat} {x : Int32} (h : 10 ≠ f) : e_M_ignored ad cs (q_up σ f i x) j = e_M_ignored ad cs σ j := by
  unfold e_M_ignored; rw [q_up_rowf h]
theorem u_M_nap {ad : Nat → Nat} {cs : Nat → ClassId} {σ : q_St} {f i j : Nat} {x : Int32} (h : 11 ≠ f) : e_M_nap ad cs (q_up σ f i x) j = e_M_nap ad cs σ j := by
  unfold e_M_nap; rw [q_up_rowf h]
theorem u_M_there {ad : Nat → Nat} {cs : Nat → ClassId} {σ : q_St} {f i j : Nat} {x : Int32} (h : 12 ≠ f) : e_M_there ad cs (q_up σ f i x) j = e_M_there ad cs σ j := by
  unfold e_M_there; rw [q_up_rowf h]
theorem u_M_first {ad : Nat → Nat} {cs : Nat → ClassId} {σ : q_St} {f i j : Nat} {x : Int32} (h : 13 ≠ f) : e_M_first ad cs (q_up σ f i x) j = e_M_first ad cs σ j := by
  unfold e_M_first; rw [q_up_rowf h]
theorem u_M_second {ad : Nat → Nat} {cs : Nat → ClassId} {σ : q_St} {f i j : Nat} {x : Int32} (h : 14 ≠ f) : e_M_second ad cs (q_up σ f i x) j = e_M_second ad cs σ j := by
  unfold e_M_second; rw [q_up_rowf h]
theorem u_M_was {ad : Nat → Nat} {cs : Nat → ClassId} {σ : q_St} {f i j : Nat} {x : Int32} (h : 15 ≠ f) : e_M_was ad cs (q_up σ f i x) j = e_M_was ad cs σ j := by
  unfold e_M_was; rw [q_up_rowf h]
theorem u_M_untold {ad : Nat → Nat} {cs : Nat → ClassId} {σ : q_St} {f i j : Nat} {x : Int32} (h : 16 ≠ f) : e_M_untold ad cs (q_up σ f i x) j = e_M_untold ad cs σ j := by
  unfold e_M_untold; rw [q_up_rowf h]
theorem u_M_piped {ad : Nat → Nat} {cs : Nat → ClassId} {σ : q_St} {f i j : Nat} {x : Int32} (h : 17 ≠ f) : e_M_piped ad cs (q_up σ f i x) j = e_M_piped ad cs σ j := by
  unfold e_M_piped; rw [q_up_rowf h]
theorem u_M_pipe {ad : Nat → Nat} {cs : Nat → ClassId} {σ : q_St} {f i j : Nat} {x : Int32} (h : 18 ≠ f) : e_M_pipe ad cs (q_up σ f i x) j = e_M_pipe ad cs σ j := by
  unfold e_M_pipe; rw [q_up_rowf h]
theorem u_M_edit {ad : Nat → Nat} {cs : Nat → ClassId} {σ : q_St} {f i j : Nat} {x : Int32} (h : 19 ≠ f) : e_M_edit ad cs (q_up σ f i x) j = e_M_edit ad cs σ j := by
  unfold e_M_edit; rw [q_up_rowf h]
theorem u_M_queue {ad : Nat → Nat} {cs : Nat → ClassId} {σ : q_St} {f i j : Nat} {x : Int32} (h : 20 ≠ f) : e_M_queue ad cs (q_up σ f i x) j = e_M_queue ad cs σ j := by
  unfold e_M_queue; rw [q_up_rowf h]
theorem u_M_screen {ad : Nat → Nat} {cs : Nat → ClassId} {σ : q_St} {f i j : Nat} {x : Int32} (h : 21 ≠ f) : e_M_screen ad cs (q_up σ f i x) j = e_M_screen ad cs σ j := by
  unfold e_M_screen; rw [q_up_rowf h]
theorem h2_M_40 {ad : Nat → Nat} {cs : Nat → ClassId} {σ : q_St} {x : Int32} : ∀ k, k ≠ 0 → cM ad cs (q_up σ 40 0 x) k = cM ad cs σ k := by
  intro k hk
  unfold cM
  by_cases h0 : k < 1
  · exact absurd (show k = 0 by omega) hk
  rw [if_neg h0, if_neg h0]
  by_cases h1 : k < 2
  · rw [if_pos h1, if_pos h1]; exact u_M_ops (by omega)
  rw [if_neg h1, if_neg h1]
  by_cases h2 : k < 3
  · rw [if_pos h2, if_pos h2]; exact u_M_numbers (by omega)
  rw [if_neg h2, if_neg h2]
  by_cases h3 : k < 4
  · rw [if_pos h3, if_pos h3]; exact u_M_state (by omega)
  rw [if_neg h3, if_neg h3]
  by_cases h4 : k < 5
  · rw [if_pos h4, if_pos h4]; exact u_M_jobOf (by omega)
  rw [if_neg h4, if_neg h4]
  by_cases h5 : k < 6
  · rw [if_pos h5, if_pos h5]; exact u_M_programOf (by omega)
  rw [if_neg h5, if_neg h5]
  by_cases h6 : k < 7
  · rw [if_pos h6, if_pos h6]; exact u_M_line (by omega)
  rw [if_neg h6, if_neg h6]
  by_cases h7 : k < 8
  · rw [if_pos h7, if_pos h7]; exact u_M_register (by omega)
  rw [if_neg h7, if_neg h7]
  by_cases h8 : k < 9
  · rw [if_pos h8, if_pos h8]; exact u_M_ends (by omega)
  rw [if_neg h8, if_neg h8]
  by_cases h9 : k < 10
  · rw [if_pos h9, if_pos h9]; exact u_M_pending (by omega)
  rw [if_neg h9, if_neg h9]
  by_cases h10 : k < 11
  · rw [if_pos h10, if_pos h10]; exact u_M_blocked (by omega)
  rw [if_neg h10, if_neg h10]
  by_cases h11 : k < 12
  · rw [if_pos h11, if_pos h11]; exact u_M_ignored (by omega)
  rw [if_neg h11, if_neg h11]
  by_cases h12 : k < 13
  · rw [if_pos h12, if_pos h12]; exact u_M_nap (by omega)
  rw [if_neg h12, if_neg h12]
  by_cases h13 : k < 14
  · rw [if_pos h13, if_pos h13]; exact u_M_there (by omega)
  rw [if_neg h13, if_neg h13]
  by_cases h14 : k < 15
  · rw [if_pos h14, if_pos h14]; exact u_M_first (by omega)
  rw [if_neg h14, if_neg h14]
  by_cases h15 : k < 16
  · rw [if_pos h15, if_pos h15]; exact u_M_second (by omega)
  rw [if_neg h15, if_neg h15]
  by_cases h16 : k < 17
  · rw [if_pos h16, if_pos h16]; exact u_M_was (by omega)
  rw [if_neg h16, if_neg h16]
  by_cases h17 : k < 18
  · rw [if_pos h17, if_pos h17]; exact u_M_untold (by omega)
  rw [if_neg h17, if_neg h17]
  by_cases h18 : k < 19
  · rw [if_pos h18, if_pos h18]; exact u_M_piped (by omega)
  rw [if_neg h18, if_neg h18]
  by_cases h19 : k < 20
  · rw [if_pos h19, if_pos h19]; exact u_M_pipe (by omega)
  rw [if_neg h19, if_neg h19]
  by_cases h20 : k < 21
  · rw [if_pos h20, if_pos h20]; exact u_M_edit (by omega)
  rw [if_neg h20, if_neg h20]
  by_cases h21 : k < 22
  · rw [if_pos h21, if_pos h21]; exact u_M_queue (by omega)
  rw [if_neg h21, if_neg h21]
  by_cases h22 : k < 23
  · rw [if_pos h22, if_pos h22]; exact u_M_screen (by omega)
  rw [if_neg h22, if_neg h22]
theorem h2_M_41 {ad : Nat → Nat} {cs : Nat → ClassId} {σ : q_St} {x : Int32} : ∀ k, k ≠ 0 → cM ad cs (q_up σ 41 0 x) k = cM ad cs σ k := by
  intro k hk
  unfold cM
  by_cases h0 : k < 1
  · exact absurd (show k = 0 by omega) hk
  rw [if_neg h0, if_neg h0]
  by_cases h1 : k < 2
  · rw [if_pos h1, if_pos h1]; exact u_M_ops (by omega)
  rw [if_neg h1, if_neg h1]
  by_cases h2 : k < 3
  · rw [if_pos h2, if_pos h2]; exact u_M_numbers (by omega)
  rw [if_neg h2, if_neg h2]
  by_cases h3 : k < 4
  · rw [if_pos h3, if_pos h3]; exact u_M_state (by omega)
  rw [if_neg h3, if_neg h3]
  by_cases h4 : k < 5
  · rw [if_pos h4, if_pos h4]; exact u_M_jobOf (by omega)
  rw [if_neg h4, if_neg h4]
  by_cases h5 : k < 6
  · rw [if_pos h5, if_pos h5]; exact u_M_programOf (by omega)
  rw [if_neg h5, if_neg h5]
  by_cases h6 : k < 7
  · rw [if_pos h6, if_pos h6]; exact u_M_line (by omega)
  rw [if_neg h6, if_neg h6]
  by_cases h7 : k < 8
  · rw [if_pos h7, if_pos h7]; exact u_M_register (by omega)
  rw [if_neg h7, if_neg h7]
  by_cases h8 : k < 9
  · rw [if_pos h8, if_pos h8]; exact u_M_ends (by omega)
  rw [if_neg h8, if_neg h8]
  by_cases h9 : k < 10
  · rw [if_pos h9, if_pos h9]; exact u_M_pending (by omega)
  rw [if_neg h9, if_neg h9]
  by_cases h10 : k < 11
  · rw [if_pos h10, if_pos h10]; exact u_M_blocked (by omega)
  rw [if_neg h10, if_neg h10]
  by_cases h11 : k < 12
  · rw [if_pos h11, if_pos h11]; exact u_M_ignored (by omega)
  rw [if_neg h11, if_neg h11]
  by_cases h12 : k < 13
  · rw [if_pos h12, if_pos h12]; exact u_M_nap (by omega)
  rw [if_neg h12, if_neg h12]
  by_cases h13 : k < 14
  · rw [if_pos h13, if_pos h13]; exact u_M_there (by omega)
  rw [if_neg h13, if_neg h13]
  by_cases h14 : k < 15
  · rw [if_pos h14, if_pos h14]; exact u_M_first (by omega)
  rw [if_neg h14, if_neg h14]
  by_cases h15 : k < 16
  · rw [if_pos h15, if_pos h15]; exact u_M_second (by omega)
  rw [if_neg h15, if_neg h15]
  by_cases h16 : k < 17
  · rw [if_pos h16, if_pos h16]; exact u_M_was (by omega)
  rw [if_neg h16, if_neg h16]
  by_cases h17 : k < 18
  · rw [if_pos h17, if_pos h17]; exact u_M_untold (by omega)
  rw [if_neg h17, if_neg h17]
  by_cases h18 : k < 19
  · rw [if_pos h18, if_pos h18]; exact u_M_piped (by omega)
  rw [if_neg h18, if_neg h18]
  by_cases h19 : k < 20
  · rw [if_pos h19, if_pos h19]; exact u_M_pipe (by omega)
  rw [if_neg h19, if_neg h19]
  by_cases h20 : k < 21
  · rw [if_pos h20, if_pos h20]; exact u_M_edit (by omega)
  rw [if_neg h20, if_neg h20]
  by_cases h21 : k < 22
  · rw [if_pos h21, if_pos h21]; exact u_M_queue (by omega)
  rw [if_neg h21, if_neg h21]
  by_cases h22 : k < 23
  · rw [if_pos h22, if_pos h22]; exact u_M_screen (by omega)
  rw [if_neg h22, if_neg h22]
theorem h2_M_42 {ad : Nat → Nat} {cs : Nat → ClassId} {σ : q_St} {x : Int32} : ∀ k, k ≠ 0 → cM ad cs (q_up σ 42 0 x) k = cM ad cs σ k := by
  intro k hk
  unfold cM
  by_cases h0 : k < 1
  · exact absurd (show k = 0 by omega) hk
  rw [if_neg h0, if_neg h0]
  by_cases h1 : k < 2
  · rw [if_pos h1, if_pos h1]; exact u_M_ops (by omega)
  rw [if_neg h1, if_neg h1]
  by_cases h2 : k < 3
  · rw [if_pos h2, if_pos h2]; exact u_M_numbers (by omega)
  rw [if_neg h2, if_neg h2]
  by_cases h3 : k < 4
  · rw [if_pos h3, if_pos h3]; exact u_M_state (by omega)
  rw [if_neg h3, if_neg h3]
  by_cases h4 : k < 5
  · rw [if_pos h4, if_pos h4]; exact u_M_jobOf (by omega)
  rw [if_neg h4, if_neg h4]
  by_cases h5 : k < 6
  · rw [if_pos h5, if_pos h5]; exact u_M_programOf (by omega)
  rw [if_neg h5, if_neg h5]
  by_cases h6 : k < 7
  · rw [if_pos h6, if_pos h6]; exact u_M_line (by omega)
  rw [if_neg h6, if_neg h6]
  by_cases h7 : k < 8
  · rw [if_pos h7, if_pos h7]; exact u_M_register (by omega)
  rw [if_neg h7, if_neg h7]
  by_cases h8 : k < 9
  · rw [if_pos h8, if_pos h8]; exact u_M_ends (by omega)
  rw [if_neg h8, if_neg h8]
  by_cases h9 : k < 10
  · rw [if_pos h9, if_pos h9]; exact u_M_pending (by omega)
  rw [if_neg h9, if_neg h9]
  by_cases h10 : k < 11
  · rw [if_pos h10, if_pos h10]; exact u_M_blocked (by omega)
  rw [if_neg h10, if_neg h10]
  by_cases h11 : k < 12
  · rw [if_pos h11, if_pos h11]; exact u_M_ignored (by omega)
  rw [if_neg h11, if_neg h11]
  by_cases h12 : k < 13
  · rw [if_pos h12, if_pos h12]; exact u_M_nap (by omega)
  rw [if_neg h12, if_neg h12]
  by_cases h13 : k < 14
  · rw [if_pos h13, if_pos h13]; exact u_M_there (by omega)
  rw [if_neg h13, if_neg h13]
  by_cases h14 : k < 15
  · rw [if_pos h14, if_pos h14]; exact u_M_first (by omega)
  rw [if_neg h14, if_neg h14]
  by_cases h15 : k < 16
  · rw [if_pos h15, if_pos h15]; exact u_M_second (by omega)
  rw [if_neg h15, if_neg h15]
  by_cases h16 : k < 17
  · rw [if_pos h16, if_pos h16]; exact u_M_was (by omega)
  rw [if_neg h16, if_neg h16]
  by_cases h17 : k < 18
  · rw [if_pos h17, if_pos h17]; exact u_M_untold (by omega)
  rw [if_neg h17, if_neg h17]
  by_cases h18 : k < 19
  · rw [if_pos h18, if_pos h18]; exact u_M_piped (by omega)
  rw [if_neg h18, if_neg h18]
  by_cases h19 : k < 20
  · rw [if_pos h19, if_pos h19]; exact u_M_pipe (by omega)
  rw [if_neg h19, if_neg h19]
  by_cases h20 : k < 21
  · rw [if_pos h20, if_pos h20]; exact u_M_edit (by omega)
  rw [if_neg h20, if_neg h20]
  by_cases h21 : k < 22
  · rw [if_pos h21, if_pos h21]; exact u_M_queue (by omega)
  rw [if_neg h21, if_neg h21]
  by_cases h22 : k < 23
  · rw [if_pos h22, if_pos h22]; exact u_M_screen (by omega)
  rw [if_neg h22, if_neg h22]
theorem h2_M_43 {ad : Nat → Nat} {cs : Nat → ClassId} {σ : q_St} {x : Int32} : ∀ k, k ≠ 0 → cM ad cs (q_up σ 43 0 x) k = cM ad cs σ k := by
  intro k hk
  unfold cM
  by_cases h0 : k < 1
  · exact absurd (show k = 0 by omega) hk
  rw [if_neg h0, if_neg h0]
  by_cases h1 : k < 2
  · rw [if_pos h1, if_pos h1]; exact u_M_ops (by omega)
  rw [if_neg h1, if_neg h1]
  by_cases h2 : k < 3
  · rw [if_pos h2, if_pos h2]; exact u_M_numbers (by omega)
  rw [if_neg h2, if_neg h2]
  by_cases h3 : k < 4
  · rw [if_pos h3, if_pos h3]; exact u_M_state (by omega)
  rw [if_neg h3, if_neg h3]
  by_cases h4 : k < 5
  · rw [if_pos h4, if_pos h4]; exact u_M_jobOf (by omega)
  rw [if_neg h4, if_neg h4]
  by_cases h5 : k < 6
  · rw [if_pos h5, if_pos h5]; exact u_M_programOf (by omega)
  rw [if_neg h5, if_neg h5]
  by_cases h6 : k < 7
  · rw [if_pos h6, if_pos h6]; exact u_M_line (by omega)
  rw [if_neg h6, if_neg h6]
  by_cases h7 : k < 8
  · rw [if_pos h7, if_pos h7]; exact u_M_register (by omega)
  rw [if_neg h7, if_neg h7]
  by_cases h8 : k < 9
  · rw [if_pos h8, if_pos h8]; exact u_M_ends (by omega)
  rw [if_neg h8, if_neg h8]
  by_cases h9 : k < 10
  · rw [if_pos h9, if_pos h9]; exact u_M_pending (by omega)
  rw [if_neg h9, if_neg h9]
  by_cases h10 : k < 11
  · rw [if_pos h10, if_pos h10]; exact u_M_blocked (by omega)
  rw [if_neg h10, if_neg h10]
  by_cases h11 : k < 12
  · rw [if_pos h11, if_pos h11]; exact u_M_ignored (by omega)
  rw [if_neg h11, if_neg h11]
  by_cases h12 : k < 13
  · rw [if_pos h12, if_pos h12]; exact u_M_nap (by omega)
  rw [if_neg h12, if_neg h12]
  by_cases h13 : k < 14
  · rw [if_pos h13, if_pos h13]; exact u_M_there (by omega)
  rw [if_neg h13, if_neg h13]
  by_cases h14 : k < 15
  · rw [if_pos h14, if_pos h14]; exact u_M_first (by omega)
  rw [if_neg h14, if_neg h14]
  by_cases h15 : k < 16
  · rw [if_pos h15, if_pos h15]; exact u_M_second (by omega)
  rw [if_neg h15, if_neg h15]
  by_cases h16 : k < 17
  · rw [if_pos h16, if_pos h16]; exact u_M_was (by omega)
  rw [if_neg h16, if_neg h16]
  by_cases h17 : k < 18
  · rw [if_pos h17, if_pos h17]; exact u_M_untold (by omega)
  rw [if_neg h17, if_neg h17]
  by_cases h18 : k < 19
  · rw [if_pos h18, if_pos h18]; exact u_M_piped (by omega)
  rw [if_neg h18, if_neg h18]
  by_cases h19 : k < 20
  · rw [if_pos h19, if_pos h19]; exact u_M_pipe (by omega)
  rw [if_neg h19, if_neg h19]
  by_cases h20 : k < 21
  · rw [if_pos h20, if_pos h20]; exact u_M_edit (by omega)
  rw [if_neg h20, if_neg h20]
  by_cases h21 : k < 22
  · rw [if_pos h21, if_pos h21]; exact u_M_queue (by omega)
  rw [if_neg h21, if_neg h21]
  by_cases h22 : k < 23
  · rw [if_pos h22, if_pos h22]; exact u_M_screen (by omega)
  rw [if_neg h22, if_neg h22]
theorem h2_M_44 {ad : Nat → Nat} {cs : Nat → ClassId} {σ : q_St} {x : Int32} : ∀ k, k ≠ 0 → cM ad cs (q_up σ 44 0 x) k = cM ad cs σ k := by
  intro k hk
  unfold cM
  by_cases h0 : k < 1
  · exact absurd (show k = 0 by omega) hk
  rw [if_neg h0, if_neg h0]
  by_cases h1 : k < 2
  · rw [if_pos h1, if_pos h1]; exact u_M_ops (by omega)
  rw [if_neg h1, if_neg h1]
  by_cases h2 : k < 3
  · rw [if_pos h2, if_pos h2]; exact u_M_numbers (by omega)
  rw [if_neg h2, if_neg h2]
  by_cases h3 : k < 4
  · rw [if_pos h3, if_pos h3]; exact u_M_state (by omega)
  rw [if_neg h3, if_neg h3]
  by_cases h4 : k < 5
  · rw [if_pos h4, if_pos h4]; exact u_M_jobOf (by omega)
  rw [if_neg h4, if_neg h4]
  by_cases h5 : k < 6
  · rw [if_pos h5, if_pos h5]; exact u_M_programOf (by omega)
  rw [if_neg h5, if_neg h5]
  by_cases h6 : k < 7
  · rw [if_pos h6, if_pos h6]; exact u_M_line (by omega)
  rw [if_neg h6, if_neg h6]
  by_cases h7 : k < 8
  · rw [if_pos h7, if_pos h7]; exact u_M_register (by omega)
  rw [if_neg h7, if_neg h7]
  by_cases h8 : k < 9
  · rw [if_pos h8, if_pos h8]; exact u_M_ends (by omega)
  rw [if_neg h8, if_neg h8]
  by_cases h9 : k < 10
  · rw [if_pos h9, if_pos h9]; exact u_M_pending (by omega)
  rw [if_neg h9, if_neg h9]
  by_cases h10 : k < 11
  · rw [if_pos h10, if_pos h10]; exact u_M_blocked (by omega)
  rw [if_neg h10, if_neg h10]
  by_cases h11 : k < 12
  · rw [if_pos h11, if_pos h11]; exact u_M_ignored (by omega)
  rw [if_neg h11, if_neg h11]
  by_cases h12 : k < 13
  · rw [if_pos h12, if_pos h12]; exact u_M_nap (by omega)
  rw [if_neg h12, if_neg h12]
  by_cases h13 : k < 14
  · rw [if_pos h13, if_pos h13]; exact u_M_there (by omega)
  rw [if_neg h13, if_neg h13]
  by_cases h14 : k < 15
  · rw [if_pos h14, if_pos h14]; exact u_M_first (by omega)
  rw [if_neg h14, if_neg h14]
  by_cases h15 : k < 16
  · rw [if_pos h15, if_pos h15]; exact u_M_second (by omega)
  rw [if_neg h15, if_neg h15]
  by_cases h16 : k < 17
  · rw [if_pos h16, if_pos h16]; exact u_M_was (by omega)
  rw [if_neg h16, if_neg h16]
  by_cases h17 : k < 18
  · rw [if_pos h17, if_pos h17]; exact u_M_untold (by omega)
  rw [if_neg h17, if_neg h17]
  by_cases h18 : k < 19
  · rw [if_pos h18, if_pos h18]; exact u_M_piped (by omega)
  rw [if_neg h18, if_neg h18]
  by_cases h19 : k < 20
  · rw [if_pos h19, if_pos h19]; exact u_M_pipe (by omega)
  rw [if_neg h19, if_neg h19]
  by_cases h20 : k < 21
  · rw [if_pos h20, if_pos h20]; exact u_M_edit (by omega)
  rw [if_neg h20, if_neg h20]
  by_cases h21 : k < 22
  · rw [if_pos h21, if_pos h21]; exact u_M_queue (by omega)
  rw [if_neg h21, if_neg h21]
  by_cases h22 : k < 23
  · rw [if_pos h22, if_pos h22]; exact u_M_screen (by omega)
  rw [if_neg h22, if_neg h22]
theorem h2_M_45 {ad : Nat → Nat} {cs : Nat → ClassId} {σ : q_St} {x : Int32} : ∀ k, k ≠ 0 → cM ad cs (q_up σ 45 0 x) k = cM ad cs σ k := by
  intro k hk
  unfold cM
  by_cases h0 : k < 1
  · exact absurd (show k = 0 by omega) hk
  rw [if_neg h0, if_neg h0]
  by_cases h1 : k < 2
  · rw [if_pos h1, if_pos h1]; exact u_M_ops (by omega)
  rw [if_neg h1, if_neg h1]
  by_cases h2 : k < 3
  · rw [if_pos h2, if_pos h2]; exact u_M_numbers (by omega)
  rw [if_neg h2, if_neg h2]
  by_cases h3 : k < 4
  · rw [if_pos h3, if_pos h3]; exact u_M_state (by omega)
  rw [if_neg h3, if_neg h3]
  by_cases h4 : k < 5
  · rw [if_pos h4, if_pos h4]; exact u_M_jobOf (by omega)
  rw [if_neg h4, if_neg h4]
  by_cases h5 : k < 6
  · rw [if_pos h5, if_pos h5]; exact u_M_programOf (by omega)
  rw [if_neg h5, if_neg h5]
  by_cases h6 : k < 7
  · rw [if_pos h6, if_pos h6]; exact u_M_line (by omega)
  rw [if_neg h6, if_neg h6]
  by_cases h7 : k < 8
  · rw [if_pos h7, if_pos h7]; exact u_M_register (by omega)
  rw [if_neg h7, if_neg h7]
  by_cases h8 : k < 9
  · rw [if_pos h8, if_pos h8]; exact u_M_ends (by omega)
  rw [if_neg h8, if_neg h8]
  by_cases h9 : k < 10
  · rw [if_pos h9, if_pos h9]; exact u_M_pending (by omega)
  rw [if_neg h9, if_neg h9]
  by_cases h10 : k < 11
  · rw [if_pos h10, if_pos h10]; exact u_M_blocked (by omega)
  rw [if_neg h10, if_neg h10]
  by_cases h11 : k < 12
  · rw [if_pos h11, if_pos h11]; exact u_M_ignored (by omega)
  rw [if_neg h11, if_neg h11]
  by_cases h12 : k < 13
  · rw [if_pos h12, if_pos h12]; exact u_M_nap (by omega)
  rw [if_neg h12, if_neg h12]
  by_cases h13 : k < 14
  · rw [if_pos h13, if_pos h13]; exact u_M_there (by omega)
  rw [if_neg h13, if_neg h13]
  by_cases h14 : k < 15
  · rw [if_pos h14, if_pos h14]; exact u_M_first (by omega)
  rw [if_neg h14, if_neg h14]
  by_cases h15 : k < 16
  · rw [if_pos h15, if_pos h15]; exact u_M_second (by omega)
  rw [if_neg h15, if_neg h15]
  by_cases h16 : k < 17
  · rw [if_pos h16, if_pos h16]; exact u_M_was (by omega)
  rw [if_neg h16, if_neg h16]
  by_cases h17 : k < 18
  · rw [if_pos h17, if_pos h17]; exact u_M_untold (by omega)
  rw [if_neg h17, if_neg h17]
  by_cases h18 : k < 19
  · rw [if_pos h18, if_pos h18]; exact u_M_piped (by omega)
  rw [if_neg h18, if_neg h18]
  by_cases h19 : k < 20
  · rw [if_pos h19, if_pos h19]; exact u_M_pipe (by omega)
  rw [if_neg h19, if_neg h19]
  by_cases h20 : k < 21
  · rw [if_pos h20, if_pos h20]; exact u_M_edit (by omega)
  rw [if_neg h20, if_neg h20]
  by_cases h21 : k < 22
  · rw [if_pos h21, if_pos h21]; exact u_M_queue (by omega)
  rw [if_neg h21, if_neg h21]
  by_cases h22 : k < 23
  · rw [if_pos h22, if_pos h22]; exact u_M_screen (by omega)
  rw [if_neg h22, if_neg h22]
theorem h2_M_46 {ad : Nat → Nat} {cs : Nat → ClassId} {σ : q_St} {x : Int32} : ∀ k, k ≠ 0 → cM ad cs (q_up σ 46 0 x) k = cM ad cs σ k := by
  intro k hk
  unfold cM
  by_cases h0 : k < 1
  · exact absurd (show k = 0 by omega) hk
  rw [if_neg h0, if_neg h0]
  by_cases h1 : k < 2
  · rw [if_pos h1, if_pos h1]; exact u_M_ops (by omega)
  rw [if_neg h1, if_neg h1]
  by_cases h2 : k < 3
  · rw [if_pos h2, if_pos h2]; exact u_M_numbers (by omega)
  rw [if_neg h2, if_neg h2]
  by_cases h3 : k < 4
  · rw [if_pos h3, if_pos h3]; exact u_M_state (by omega)
  rw [if_neg h3, if_neg h3]
  by_cases h4 : k < 5
  · rw [if_pos h4, if_pos h4]; exact u_M_jobOf (by omega)
  rw [if_neg h4, if_neg h4]
  by_cases h5 : k < 6
  · rw [if_pos h5, if_pos h5]; exact u_M_programOf (by omega)
  rw [if_neg h5, if_neg h5]
  by_cases h6 : k < 7
  · rw [if_pos h6, if_pos h6]; exact u_M_line (by omega)
  rw [if_neg h6, if_neg h6]
  by_cases h7 : k < 8
  · rw [if_pos h7, if_pos h7]; exact u_M_register (by omega)
  rw [if_neg h7, if_neg h7]
  by_cases h8 : k < 9
  · rw [if_pos h8, if_pos h8]; exact u_M_ends (by omega)
  rw [if_neg h8, if_neg h8]
  by_cases h9 : k < 10
  · rw [if_pos h9, if_pos h9]; exact u_M_pending (by omega)
  rw [if_neg h9, if_neg h9]
  by_cases h10 : k < 11
  · rw [if_pos h10, if_pos h10]; exact u_M_blocked (by omega)
  rw [if_neg h10, if_neg h10]
  by_cases h11 : k < 12
  · rw [if_pos h11, if_pos h11]; exact u_M_ignored (by omega)
  rw [if_neg h11, if_neg h11]
  by_cases h12 : k < 13
  · rw [if_pos h12, if_pos h12]; exact u_M_nap (by omega)
  rw [if_neg h12, if_neg h12]
  by_cases h13 : k < 14
  · rw [if_pos h13, if_pos h13]; exact u_M_there (by omega)
  rw [if_neg h13, if_neg h13]
  by_cases h14 : k < 15
  · rw [if_pos h14, if_pos h14]; exact u_M_first (by omega)
  rw [if_neg h14, if_neg h14]
  by_cases h15 : k < 16
  · rw [if_pos h15, if_pos h15]; exact u_M_second (by omega)
  rw [if_neg h15, if_neg h15]
  by_cases h16 : k < 17
  · rw [if_pos h16, if_pos h16]; exact u_M_was (by omega)
  rw [if_neg h16, if_neg h16]
  by_cases h17 : k < 18
  · rw [if_pos h17, if_pos h17]; exact u_M_untold (by omega)
  rw [if_neg h17, if_neg h17]
  by_cases h18 : k < 19
  · rw [if_pos h18, if_pos h18]; exact u_M_piped (by omega)
  rw [if_neg h18, if_neg h18]
  by_cases h19 : k < 20
  · rw [if_pos h19, if_pos h19]; exact u_M_pipe (by omega)
  rw [if_neg h19, if_neg h19]
  by_cases h20 : k < 21
  · rw [if_pos h20, if_pos h20]; exact u_M_edit (by omega)
  rw [if_neg h20, if_neg h20]
  by_cases h21 : k < 22
  · rw [if_pos h21, if_pos h21]; exact u_M_queue (by omega)
  rw [if_neg h21, if_neg h21]
  by_cases h22 : k < 23
  · rw [if_pos h22, if_pos h22]; exact u_M_screen (by omega)
  rw [if_neg h22, if_neg h22]
theorem h2_M_47 {ad : Nat → Nat} {cs : Nat → ClassId} {σ : q_St} {x : Int32} : ∀ k, k ≠ 0 → cM ad cs (q_up σ 47 0 x) k = cM ad cs σ k := by
  intro k hk
  unfold cM
  by_cases h0 : k < 1
  · exact absurd (show k = 0 by omega) hk
  rw [if_neg h0, if_neg h0]
  by_cases h1 : k < 2
  · rw [if_pos h1, if_pos h1]; exact u_M_ops (by omega)
  rw [if_neg h1, if_neg h1]
  by_cases h2 : k < 3
  · rw [if_pos h2, if_pos h2]; exact u_M_numbers (by omega)
  rw [if_neg h2, if_neg h2]
  by_cases h3 : k < 4
  · rw [if_pos h3, if_pos h3]; exact u_M_state (by omega)
  rw [if_neg h3, if_neg h3]
  by_cases h4 : k < 5
  · rw [if_pos h4, if_pos h4]; exact u_M_jobOf (by omega)
  rw [if_neg h4, if_neg h4]
  by_cases h5 : k < 6
  · rw [if_pos h5, if_pos h5]; exact u_M_programOf (by omega)
  rw [if_neg h5, if_neg h5]
  by_cases h6 : k < 7
  · rw [if_pos h6, if_pos h6]; exact u_M_line (by omega)
  rw [if_neg h6, if_neg h6]
  by_cases h7 : k < 8
  · rw [if_pos h7, if_pos h7]; exact u_M_register (by omega)
  rw [if_neg h7, if_neg h7]
  by_cases h8 : k < 9
  · rw [if_pos h8, if_pos h8]; exact u_M_ends (by omega)
  rw [if_neg h8, if_neg h8]
  by_cases h9 : k < 10
  · rw [if_pos h9, if_pos h9]; exact u_M_pending (by omega)
  rw [if_neg h9, if_neg h9]
  by_cases h10 : k < 11
  · rw [if_pos h10, if_pos h10]; exact u_M_blocked (by omega)
  rw [if_neg h10, if_neg h10]
  by_cases h11 : k < 12
  · rw [if_pos h11, if_pos h11]; exact u_M_ignored (by omega)
  rw [if_neg h11, if_neg h11]
  by_cases h12 : k < 13
  · rw [if_pos h12, if_pos h12]; exact u_M_nap (by omega)
  rw [if_neg h12, if_neg h12]
  by_cases h13 : k < 14
  · rw [if_pos h13, if_pos h13]; exact u_M_there (by omega)
  rw [if_neg h13, if_neg h13]
  by_cases h14 : k < 15
  · rw [if_pos h14, if_pos h14]; exact u_M_first (by omega)
  rw [if_neg h14, if_neg h14]
  by_cases h15 : k < 16
  · rw [if_pos h15, if_pos h15]; exact u_M_second (by omega)
  rw [if_neg h15, if_neg h15]
  by_cases h16 : k < 17
  · rw [if_pos h16, if_pos h16]; exact u_M_was (by omega)
  rw [if_neg h16, if_neg h16]
  by_cases h17 : k < 18
  · rw [if_pos h17, if_pos h17]; exact u_M_untold (by omega)
  rw [if_neg h17, if_neg h17]
  by_cases h18 : k < 19
  · rw [if_pos h18, if_pos h18]; exact u_M_piped (by omega)
  rw [if_neg h18, if_neg h18]
  by_cases h19 : k < 20
  · rw [if_pos h19, if_pos h19]; exact u_M_pipe (by omega)
  rw [if_neg h19, if_neg h19]
  by_cases h20 : k < 21
  · rw [if_pos h20, if_pos h20]; exact u_M_edit (by omega)
  rw [if_neg h20, if_neg h20]
  by_cases h21 : k < 22
  · rw [if_pos h21, if_pos h21]; exact u_M_queue (by omega)
  rw [if_neg h21, if_neg h21]
  by_cases h22 : k < 23
  · rw [if_pos h22, if_pos h22]; exact u_M_screen (by omega)
  rw [if_neg h22, if_neg h22]
theorem h2_M_48 {ad : Nat → Nat} {cs : Nat → ClassId} {σ : q_St} {x : Int32} : ∀ k, k ≠ 0 → cM ad cs (q_up σ 48 0 x) k = cM ad cs σ k := by
  intro k hk
  unfold cM
  by_cases h0 : k < 1
  · exact absurd (show k = 0 by omega) hk
  rw [if_neg h0, if_neg h0]
  by_cases h1 : k < 2
  · rw [if_pos h1, if_pos h1]; exact u_M_ops (by omega)
  rw [if_neg h1, if_neg h1]
  by_cases h2 : k < 3
  · rw [if_pos h2, if_pos h2]; exact u_M_numbers (by omega)
  rw [if_neg h2, if_neg h2]
  by_cases h3 : k < 4
  · rw [if_pos h3, if_pos h3]; exact u_M_state (by omega)
  rw [if_neg h3, if_neg h3]
  by_cases h4 : k < 5
  · rw [if_pos h4, if_pos h4]; exact u_M_jobOf (by omega)
  rw [if_neg h4, if_neg h4]
  by_cases h5 : k < 6
  · rw [if_pos h5, if_pos h5]; exact u_M_programOf (by omega)
  rw [if_neg h5, if_neg h5]
  by_cases h6 : k < 7
  · rw [if_pos h6, if_pos h6]; exact u_M_line (by omega)
  rw [if_neg h6, if_neg h6]
  by_cases h7 : k < 8
  · rw [if_pos h7, if_pos h7]; exact u_M_register (by omega)
  rw [if_neg h7, if_neg h7]
  by_cases h8 : k < 9
  · rw [if_pos h8, if_pos h8]; exact u_M_ends (by omega)
  rw [if_neg h8, if_neg h8]
  by_cases h9 : k < 10
  · rw [if_pos h9, if_pos h9]; exact u_M_pending (by omega)
  rw [if_neg h9, if_neg h9]
  by_cases h10 : k < 11
  · rw [if_pos h10, if_pos h10]; exact u_M_blocked (by omega)
  rw [if_neg h10, if_neg h10]
  by_cases h11 : k < 12
  · rw [if_pos h11, if_pos h11]; exact u_M_ignored (by omega)
  rw [if_neg h11, if_neg h11]
  by_cases h12 : k < 13
  · rw [if_pos h12, if_pos h12]; exact u_M_nap (by omega)
  rw [if_neg h12, if_neg h12]
  by_cases h13 : k < 14
  · rw [if_pos h13, if_pos h13]; exact u_M_there (by omega)
  rw [if_neg h13, if_neg h13]
  by_cases h14 : k < 15
  · rw [if_pos h14, if_pos h14]; exact u_M_first (by omega)
  rw [if_neg h14, if_neg h14]
  by_cases h15 : k < 16
  · rw [if_pos h15, if_pos h15]; exact u_M_second (by omega)
  rw [if_neg h15, if_neg h15]
  by_cases h16 : k < 17
  · rw [if_pos h16, if_pos h16]; exact u_M_was (by omega)
  rw [if_neg h16, if_neg h16]
  by_cases h17 : k < 18
  · rw [if_pos h17, if_pos h17]; exact u_M_untold (by omega)
  rw [if_neg h17, if_neg h17]
  by_cases h18 : k < 19
  · rw [if_pos h18, if_pos h18]; exact u_M_piped (by omega)
  rw [if_neg h18, if_neg h18]
  by_cases h19 : k < 20
  · rw [if_pos h19, if_pos h19]; exact u_M_pipe (by omega)
  rw [if_neg h19, if_neg h19]
  by_cases h20 : k < 21
  · rw [if_pos h20, if_pos h20]; exact u_M_edit (by omega)
  rw [if_neg h20, if_neg h20]
  by_cases h21 : k < 22
  · rw [if_pos h21, if_pos h21]; exact u_M_queue (by omega)
  rw [if_neg h21, if_neg h21]
  by_cases h22 : k < 23
  · rw [if_pos h22, if_pos h22]; exact u_M_screen (by omega)
  rw [if_neg h22, if_neg h22]
theorem h2_M_ops {ad : Nat → Nat} {cs : Nat → ClassId} {σ : q_St} {j : Nat} {x : Int32} : ∀ k, k ≠ 1 → cM ad cs (q_up σ 0 j x) k = cM ad cs σ k := by
  intro k hk
  unfold cM
  by_cases h0 : k < 1
  · rw [if_pos h0, if_pos h0]; exact u_M_Mo (Or.inl (by decide))
  rw [if_neg h0, if_neg h0]
  by_cases h1 : k < 2
  · exact absurd (show k = 1 by omega) hk
  rw [if_neg h1, if_neg h1]
  by_cases h2 : k < 3
  · rw [if_pos h2, if_pos h2]; exact u_M_numbers (by omega)
  rw [if_neg h2, if_neg h2]
  by_cases h3 : k < 4
  · rw [if_pos h3, if_pos h3]; exact u_M_state (by omega)
  rw [if_neg h3, if_neg h3]
  by_cases h4 : k < 5
  · rw [if_pos h4, if_pos h4]; exact u_M_jobOf (by omega)
  rw [if_neg h4, if_neg h4]
  by_cases h5 : k < 6
  · rw [if_pos h5, if_pos h5]; exact u_M_programOf (by omega)
  rw [if_neg h5, if_neg h5]
  by_cases h6 : k < 7
  · rw [if_pos h6, if_pos h6]; exact u_M_line (by omega)
  rw [if_neg h6, if_neg h6]
  by_cases h7 : k < 8
  · rw [if_pos h7, if_pos h7]; exact u_M_register (by omega)
  rw [if_neg h7, if_neg h7]
  by_cases h8 : k < 9
  · rw [if_pos h8, if_pos h8]; exact u_M_ends (by omega)
  rw [if_neg h8, if_neg h8]
  by_cases h9 : k < 10
  · rw [if_pos h9, if_pos h9]; exact u_M_pending (by omega)
  rw [if_neg h9, if_neg h9]
  by_cases h10 : k < 11
  · rw [if_pos h10, if_pos h10]; exact u_M_blocked (by omega)
  rw [if_neg h10, if_neg h10]
  by_cases h11 : k < 12
  · rw [if_pos h11, if_pos h11]; exact u_M_ignored (by omega)
  rw [if_neg h11, if_neg h11]
  by_cases h12 : k < 13
  · rw [if_pos h12, if_pos h12]; exact u_M_nap (by omega)
  rw [if_neg h12, if_neg h12]
  by_cases h13 : k < 14
  · rw [if_pos h13, if_pos h13]; exact u_M_there (by omega)
  rw [if_neg h13, if_neg h13]
  by_cases h14 : k < 15
  · rw [if_pos h14, if_pos h14]; exact u_M_first (by omega)
  rw [if_neg h14, if_neg h14]
  by_cases h15 : k < 16
  · rw [if_pos h15, if_pos h15]; exact u_M_second (by omega)
  rw [if_neg h15, if_neg h15]
  by_cases h16 : k < 17
  · rw [if_pos h16, if_pos h16]; exact u_M_was (by omega)
  rw [if_neg h16, if_neg h16]
  by_cases h17 : k < 18
  · rw [if_pos h17, if_pos h17]; exact u_M_untold (by omega)
  rw [if_neg h17, if_neg h17]
  by_cases h18 : k < 19
  · rw [if_pos h18, if_pos h18]; exact u_M_piped (by omega)
  rw [if_neg h18, if_neg h18]
  by_cases h19 : k < 20
  · rw [if_pos h19, if_pos h19]; exact u_M_pipe (by omega)
  rw [if_neg h19, if_neg h19]
  by_cases h20 : k < 21
  · rw [if_pos h20, if_pos h20]; exact u_M_edit (by omega)
  rw [if_neg h20, if_neg h20]
  by_cases h21 : k < 22
  · rw [if_pos h21, if_pos h21]; exact u_M_queue (by omega)
  rw [if_neg h21, if_neg h21]
  by_cases h22 : k < 23
  · rw [if_pos h22, if_pos h22]; exact u_M_screen (by omega)
  rw [if_neg h22, if_neg h22]
theorem h2_M_numbers {ad : Nat → Nat} {cs : Nat → ClassId} {σ : q_St} {j : Nat} {x : Int32} : ∀ k, k ≠ 2 → cM ad cs (q_up σ 1 j x) k = cM ad cs σ k := by
  intro k hk
  unfold cM
  by_cases h0 : k < 1
  · rw [if_pos h0, if_pos h0]; exact u_M_Mo (Or.inl (by decide))
  rw [if_neg h0, if_neg h0]
  by_cases h1 : k < 2
  · rw [if_pos h1, if_pos h1]; exact u_M_ops (by omega)
  rw [if_neg h1, if_neg h1]
  by_cases h2 : k < 3
  · exact absurd (show k = 2 by omega) hk
  rw [if_neg h2, if_neg h2]
  by_cases h3 : k < 4
  · rw [if_pos h3, if_pos h3]; exact u_M_state (by omega)
  rw [if_neg h3, if_neg h3]
  by_cases h4 : k < 5
  · rw [if_pos h4, if_pos h4]; exact u_M_jobOf (by omega)
  rw [if_neg h4, if_neg h4]
  by_cases h5 : k < 6
  · rw [if_pos h5, if_pos h5]; exact u_M_programOf (by omega)
  rw [if_neg h5, if_neg h5]
  by_cases h6 : k < 7
  · rw [if_pos h6, if_pos h6]; exact u_M_line (by omega)
  rw [if_neg h6, if_neg h6]
  by_cases h7 : k < 8
  · rw [if_pos h7, if_pos h7]; exact u_M_register (by omega)
  rw [if_neg h7, if_neg h7]
  by_cases h8 : k < 9
  · rw [if_pos h8, if_pos h8]; exact u_M_ends (by omega)
  rw [if_neg h8, if_neg h8]
  by_cases h9 : k < 10
  · rw [if_pos h9, if_pos h9]; exact u_M_pending (by omega)
  rw [if_neg h9, if_neg h9]
  by_cases h10 : k < 11
  · rw [if_pos h10, if_pos h10]; exact u_M_blocked (by omega)
  rw [if_neg h10, if_neg h10]
  by_cases h11 : k < 12
  · rw [if_pos h11, if_pos h11]; exact u_M_ignored (by omega)
  rw [if_neg h11, if_neg h11]
  by_cases h12 : k < 13
  · rw [if_pos h12, if_pos h12]; exact u_M_nap (by omega)
  rw [if_neg h12, if_neg h12]
  by_cases h13 : k < 14
  · rw [if_pos h13, if_pos h13]; exact u_M_there (by omega)
  rw [if_neg h13, if_neg h13]
  by_cases h14 : k < 15
  · rw [if_pos h14, if_pos h14]; exact u_M_first (by omega)
  rw [if_neg h14, if_neg h14]
  by_cases h15 : k < 16
  · rw [if_pos h15, if_pos h15]; exact u_M_second (by omega)
  rw [if_neg h15, if_neg h15]
  by_cases h16 : k < 17
  · rw [if_pos h16, if_pos h16]; exact u_M_was (by omega)
  rw [if_neg h16, if_neg h16]
  by_cases h17 : k < 18
  · rw [if_pos h17, if_pos h17]; exact u_M_untold (by omega)
  rw [if_neg h17, if_neg h17]
  by_cases h18 : k < 19
  · rw [if_pos h18, if_pos h18]; exact u_M_piped (by omega)
  rw [if_neg h18, if_neg h18]
  by_cases h19 : k < 20
  · rw [if_pos h19, if_pos h19]; exact u_M_pipe (by omega)
  rw [if_neg h19, if_neg h19]
  by_cases h20 : k < 21
  · rw [if_pos h20, if_pos h20]; exact u_M_edit (by omega)
  rw [if_neg h20, if_neg h20]
  by_cases h21 : k < 22
  · rw [if_pos h21, if_pos h21]; exact u_M_queue (by omega)
  rw [if_neg h21, if_neg h21]
  by_cases h22 : k < 23
  · rw [if_pos h22, if_pos h22]; exact u_M_screen (by omega)
  rw [if_neg h22, if_neg h22]
theorem h2_M_state {ad : Nat → Nat} {cs : Nat → ClassId} {σ : q_St} {j : Nat} {x : Int32} : ∀ k, k ≠ 3 → cM ad cs (q_up σ 2 j x) k = cM ad cs σ k := by
  intro k hk
  unfold cM
  by_cases h0 : k < 1
  · rw [if_pos h0, if_pos h0]; exact u_M_Mo (Or.inl (by decide))
  rw [if_neg h0, if_neg h0]
  by_cases h1 : k < 2
  · rw [if_pos h1, if_pos h1]; exact u_M_ops (by omega)
  rw [if_neg h1, if_neg h1]
  by_cases h2 : k < 3
  · rw [if_pos h2, if_pos h2]; exact u_M_numbers (by omega)
  rw [if_neg h2, if_neg h2]
  by_cases h3 : k < 4
  · exact absurd (show k = 3 by omega) hk
  rw [if_neg h3, if_neg h3]
  by_cases h4 : k < 5
  · rw [if_pos h4, if_pos h4]; exact u_M_jobOf (by omega)
  rw [if_neg h4, if_neg h4]
  by_cases h5 : k < 6
  · rw [if_pos h5, if_pos h5]; exact u_M_programOf (by omega)
  rw [if_neg h5, if_neg h5]
  by_cases h6 : k < 7
  · rw [if_pos h6, if_pos h6]; exact u_M_line (by omega)
  rw [if_neg h6, if_neg h6]
  by_cases h7 : k < 8
  · rw [if_pos h7, if_pos h7]; exact u_M_register (by omega)
  rw [if_neg h7, if_neg h7]
  by_cases h8 : k < 9
  · rw [if_pos h8, if_pos h8]; exact u_M_ends (by omega)
  rw [if_neg h8, if_neg h8]
  by_cases h9 : k < 10
  · rw [if_pos h9, if_pos h9]; exact u_M_pending (by omega)
  rw [if_neg h9, if_neg h9]
  by_cases h10 : k < 11
  · rw [if_pos h10, if_pos h10]; exact u_M_blocked (by omega)
  rw [if_neg h10, if_neg h10]
  by_cases h11 : k < 12
  · rw [if_pos h11, if_pos h11]; exact u_M_ignored (by omega)
  rw [if_neg h11, if_neg h11]
  by_cases h12 : k < 13
  · rw [if_pos h12, if_pos h12]; exact u_M_nap (by omega)
  rw [if_neg h12, if_neg h12]
  by_cases h13 : k < 14
  · rw [if_pos h13, if_pos h13]; exact u_M_there (by omega)
  rw [if_neg h13, if_neg h13]
  by_cases h14 : k < 15
  · rw [if_pos h14, if_pos h14]; exact u_M_first (by omega)
  rw [if_neg h14, if_neg h14]
  by_cases h15 : k < 16
  · rw [if_pos h15, if_pos h15]; exact u_M_second (by omega)
  rw [if_neg h15, if_neg h15]
  by_cases h16 : k < 17
  · rw [if_pos h16, if_pos h16]; exact u_M_was (by omega)
  rw [if_neg h16, if_neg h16]
  by_cases h17 : k < 18
  · rw [if_pos h17, if_pos h17]; exact u_M_untold (by omega)
  rw [if_neg h17, if_neg h17]
  by_cases h18 : k < 19
  · rw [if_pos h18, if_pos h18]; exact u_M_piped (by omega)
  rw [if_neg h18, if_neg h18]
  by_cases h19 : k < 20
  · rw [if_pos h19, if_pos h19]; exact u_M_pipe (by omega)
  rw [if_neg h19, if_neg h19]
  by_cases h20 : k < 21
  · rw [if_pos h20, if_pos h20]; exact u_M_edit (by omega)
  rw [if_neg h20, if_neg h20]
  by_cases h21 : k < 22
  · rw [if_pos h21, if_pos h21]; exact u_M_queue (by omega)
  rw [if_neg h21, if_neg h21]
  by_cases h22 : k < 23
  · rw [if_pos h22, if_pos h22]; exact u_M_screen (by omega)
  rw [if_neg h22, if_neg h22]
theorem h2_M_jobOf {ad : Nat → Nat} {cs : Nat → ClassId} {σ : q_St} {j : Nat} {x : Int32} : ∀ k, k ≠ 4 → cM ad cs (q_up σ 3 j x) k = cM ad cs σ k := by
  intro k hk
  unfold cM
  by_cases h0 : k < 1
  · rw [if_pos h0, if_pos h0]; exact u_M_Mo (Or.inl (by decide))
  rw [if_neg h0, if_neg h0]
  by_cases h1 : k < 2
  · rw [if_pos h1, if_pos h1]; exact u_M_ops (by omega)
  rw [if_neg h1, if_neg h1]
  by_cases h2 : k < 3
  · rw [if_pos h2, if_pos h2]; exact u_M_numbers (by omega)
  rw [if_neg h2, if_neg h2]
  by_cases h3 : k < 4
  · rw [if_pos h3, if_pos h3]; exact u_M_state (by omega)
  rw [if_neg h3, if_neg h3]
  by_cases h4 : k < 5
  · exact absurd (show k = 4 by omega) hk
  rw [if_neg h4, if_neg h4]
  by_cases h5 : k < 6
  · rw [if_pos h5, if_pos h5]; exact u_M_programOf (by omega)
  rw [if_neg h5, if_neg h5]
  by_cases h6 : k < 7
  · rw [if_pos h6, if_pos h6]; exact u_M_line (by omega)
  rw [if_neg h6, if_neg h6]
  by_cases h7 : k < 8
  · rw [if_pos h7, if_pos h7]; exact u_M_register (by omega)
  rw [if_neg h7, if_neg h7]
  by_cases h8 : k < 9
  · rw [if_pos h8, if_pos h8]; exact u_M_ends (by omega)
  rw [if_neg h8, if_neg h8]
  by_cases h9 : k < 10
  · rw [if_pos h9, if_pos h9]; exact u_M_pending (by omega)
  rw [if_neg h9, if_neg h9]
  by_cases h10 : k < 11
  · rw [if_pos h10, if_pos h10]; exact u_M_blocked (by omega)
  rw [if_neg h10, if_neg h10]
  by_cases h11 : k < 12
  · rw [if_pos h11, if_pos h11]; exact u_M_ignored (by omega)
  rw [if_neg h11, if_neg h11]
  by_cases h12 : k < 13
  · rw [if_pos h12, if_pos h12]; exact u_M_nap (by omega)
  rw [if_neg h12, if_neg h12]
  by_cases h13 : k < 14
  · rw [if_pos h13, if_pos h13]; exact u_M_there (by omega)
  rw [if_neg h13, if_neg h13]
  by_cases h14 : k < 15
  · rw [if_pos h14, if_pos h14]; exact u_M_first (by omega)
  rw [if_neg h14, if_neg h14]
  by_cases h15 : k < 16
  · rw [if_pos h15, if_pos h15]; exact u_M_second (by omega)
  rw [if_neg h15, if_neg h15]
  by_cases h16 : k < 17
  · rw [if_pos h16, if_pos h16]; exact u_M_was (by omega)
  rw [if_neg h16, if_neg h16]
  by_cases h17 : k < 18
  · rw [if_pos h17, if_pos h17]; exact u_M_untold (by omega)
  rw [if_neg h17, if_neg h17]
  by_cases h18 : k < 19
  · rw [if_pos h18, if_pos h18]; exact u_M_piped (by omega)
  rw [if_neg h18, if_neg h18]
  by_cases h19 : k < 20
  · rw [if_pos h19, if_pos h19]; exact u_M_pipe (by omega)
  rw [if_neg h19, if_neg h19]
  by_cases h20 : k < 21
  · rw [if_pos h20, if_pos h20]; exact u_M_edit (by omega)
  rw [if_neg h20, if_neg h20]
  by_cases h21 : k < 22
  · rw [if_pos h21, if_pos h21]; exact u_M_queue (by omega)
  rw [if_neg h21, if_neg h21]
  by_cases h22 : k < 23
  · rw [if_pos h22, if_pos h22]; exact u_M_screen (by omega)
  rw [if_neg h22, if_neg h22]
theorem h2_M_programOf {ad : Nat → Nat} {cs : Nat → ClassId} {σ : q_St} {j : Nat} {x : Int32} : ∀ k, k ≠ 5 → cM ad cs (q_up σ 4 j x) k = cM ad cs σ k := by
  intro k hk
  unfold cM
  by_cases h0 : k < 1
  · rw [if_pos h0, if_pos h0]; exact u_M_Mo (Or.inl (by decide))
  rw [if_neg h0, if_neg h0]
  by_cases h1 : k < 2
  · rw [if_pos h1, if_pos h1]; exact u_M_ops (by omega)
  rw [if_neg h1, if_neg h1]
  by_cases h2 : k < 3
  · rw [if_pos h2, if_pos h2]; exact u_M_numbers (by omega)
  rw [if_neg h2, if_neg h2]
  by_cases h3 : k < 4
  · rw [if_pos h3, if_pos h3]; exact u_M_state (by omega)
  rw [if_neg h3, if_neg h3]
  by_cases h4 : k < 5
  · rw [if_pos h4, if_pos h4]; exact u_M_jobOf (by omega)
  rw [if_neg h4, if_neg h4]
  by_cases h5 : k < 6
  · exact absurd (show k = 5 by omega) hk
  rw [if_neg h5, if_neg h5]
  by_cases h6 : k < 7
  · rw [if_pos h6, if_pos h6]; exact u_M_line (by omega)
  rw [if_neg h6, if_neg h6]
  by_cases h7 : k < 8
  · rw [if_pos h7, if_pos h7]; exact u_M_register (by omega)
  rw [if_neg h7, if_neg h7]
  by_cases h8 : k < 9
  · rw [if_pos h8, if_pos h8]; exact u_M_ends (by omega)
  rw [if_neg h8, if_neg h8]
  by_cases h9 : k < 10
  · rw [if_pos h9, if_pos h9]; exact u_M_pending (by omega)
  rw [if_neg h9, if_neg h9]
  by_cases h10 : k < 11
  · rw [if_pos h10, if_pos h10]; exact u_M_blocked (by omega)
  rw [if_neg h10, if_neg h10]
  by_cases h11 : k < 12
  · rw [if_pos h11, if_pos h11]; exact u_M_ignored (by omega)
  rw [if_neg h11, if_neg h11]
  by_cases h12 : k < 13
  · rw [if_pos h12, if_pos h12]; exact u_M_nap (by omega)
  rw [if_neg h12, if_neg h12]
  by_cases h13 : k < 14
  · rw [if_pos h13, if_pos h13]; exact u_M_there (by omega)
  rw [if_neg h13, if_neg h13]
  by_cases h14 : k < 15
  · rw [if_pos h14, if_pos h14]; exact u_M_first (by omega)
  rw [if_neg h14, if_neg h14]
  by_cases h15 : k < 16
  · rw [if_pos h15, if_pos h15]; exact u_M_second (by omega)
  rw [if_neg h15, if_neg h15]
  by_cases h16 : k < 17
  · rw [if_pos h16, if_pos h16]; exact u_M_was (by omega)
  rw [if_neg h16, if_neg h16]
  by_cases h17 : k < 18
  · rw [if_pos h17, if_pos h17]; exact u_M_untold (by omega)
  rw [if_neg h17, if_neg h17]
  by_cases h18 : k < 19
  · rw [if_pos h18, if_pos h18]; exact u_M_piped (by omega)
  rw [if_neg h18, if_neg h18]
  by_cases h19 : k < 20
  · rw [if_pos h19, if_pos h19]; exact u_M_pipe (by omega)
  rw [if_neg h19, if_neg h19]
  by_cases h20 : k < 21
  · rw [if_pos h20, if_pos h20]; exact u_M_edit (by omega)
  rw [if_neg h20, if_neg h20]
  by_cases h21 : k < 22
  · rw [if_pos h21, if_pos h21]; exact u_M_queue (by omega)
  rw [if_neg h21, if_neg h21]
  by_cases h22 : k < 23
  · rw [if_pos h22, if_pos h22]; exact u_M_screen (by omega)
  rw [if_neg h22, if_neg h22]
theorem h2_M_line {ad : Nat → Nat} {cs : Nat → ClassId} {σ : q_St} {j : Nat} {x : Int32} : ∀ k, k ≠ 6 → cM ad cs (q_up σ 5 j x) k = cM ad cs σ k := by
  intro k hk
  unfold cM
  by_cases h0 : k < 1
  · rw [if_pos h0, if_pos h0]; exact u_M_Mo (Or.inl (by decide))
  rw [if_neg h0, if_neg h0]
  by_cases h1 : k < 2
  · rw [if_pos h1, if_pos h1]; exact u_M_ops (by omega)
  rw [if_neg h1, if_neg h1]
  by_cases h2 : k < 3
  · rw [if_pos h2, if_pos h2]; exact u_M_numbers (by omega)
  rw [if_neg h2, if_neg h2]
  by_cases h3 : k < 4
  · rw [if_pos h3, if_pos h3]; exact u_M_state (by omega)
  rw [if_neg h3, if_neg h3]
  by_cases h4 : k < 5
  · rw [if_pos h4, if_pos h4]; exact u_M_jobOf (by omega)
  rw [if_neg h4, if_neg h4]
  by_cases h5 : k < 6
  · rw [if_pos h5, if_pos h5]; exact u_M_programOf (by omega)
  rw [if_neg h5, if_neg h5]
  by_cases h6 : k < 7
  · exact absurd (show k = 6 by omega) hk
  rw [if_neg h6, if_neg h6]
  by_cases h7 : k < 8
  · rw [if_pos h7, if_pos h7]; exact u_M_register (by omega)
  rw [if_neg h7, if_neg h7]
  by_cases h8 : k < 9
  · rw [if_pos h8, if_pos h8]; exact u_M_ends (by omega)
  rw [if_neg h8, if_neg h8]
  by_cases h9 : k < 10
  · rw [if_pos h9, if_pos h9]; exact u_M_pending (by omega)
  rw [if_neg h9, if_neg h9]
  by_cases h10 : k < 11
  · rw [if_pos h10, if_pos h10]; exact u_M_blocked (by omega)
  rw [if_neg h10, if_neg h10]
  by_cases h11 : k < 12
  · rw [if_pos h11, if_pos h11]; exact u_M_ignored (by omega)
  rw [if_neg h11, if_neg h11]
  by_cases h12 : k < 13
  · rw [if_pos h12, if_pos h12]; exact u_M_nap (by omega)
  rw [if_neg h12, if_neg h12]
  by_cases h13 : k < 14
  · rw [if_pos h13, if_pos h13]; exact u_M_there (by omega)
  rw [if_neg h13, if_neg h13]
  by_cases h14 : k < 15
  · rw [if_pos h14, if_pos h14]; exact u_M_first (by omega)
  rw [if_neg h14, if_neg h14]
  by_cases h15 : k < 16
  · rw [if_pos h15, if_pos h15]; exact u_M_second (by omega)
  rw [if_neg h15, if_neg h15]
  by_cases h16 : k < 17
  · rw [if_pos h16, if_pos h16]; exact u_M_was (by omega)
  rw [if_neg h16, if_neg h16]
  by_cases h17 : k < 18
  · rw [if_pos h17, if_pos h17]; exact u_M_untold (by omega)
  rw [if_neg h17, if_neg h17]
  by_cases h18 : k < 19
  · rw [if_pos h18, if_pos h18]; exact u_M_piped (by omega)
  rw [if_neg h18, if_neg h18]
  by_cases h19 : k < 20
  · rw [if_pos h19, if_pos h19]; exact u_M_pipe (by omega)
  rw [if_neg h19, if_neg h19]
  by_cases h20 : k < 21
  · rw [if_pos h20, if_pos h20]; exact u_M_edit (by omega)
  rw [if_neg h20, if_neg h20]
  by_cases h21 : k < 22
  · rw [if_pos h21, if_pos h21]; exact u_M_queue (by omega)
  rw [if_neg h21, if_neg h21]
  by_cases h22 : k < 23
  · rw [if_pos h22, if_pos h22]; exact u_M_screen (by omega)
  rw [if_neg h22, if_neg h22]
theorem h2_M_register {ad : Nat → Nat} {cs : Nat → ClassId} {σ : q_St} {j : Nat} {x : Int32} : ∀ k, k ≠ 7 → cM ad cs (q_up σ 6 j x) k = cM ad cs σ k := by
  intro k hk
  unfold cM
  by_cases h0 : k < 1
  · rw [if_pos h0, if_pos h0]; exact u_M_Mo (Or.inl (by decide))
  rw [if_neg h0, if_neg h0]
  by_cases h1 : k < 2
  · rw [if_pos h1, if_pos h1]; exact u_M_ops (by omega)
  rw [if_neg h1, if_neg h1]
  by_cases h2 : k < 3
  · rw [if_pos h2, if_pos h2]; exact u_M_numbers (by omega)
  rw [if_neg h2, if_neg h2]
  by_cases h3 : k < 4
  · rw [if_pos h3, if_pos h3]; exact u_M_state (by omega)
  rw [if_neg h3, if_neg h3]
  by_cases h4 : k < 5
  · rw [if_pos h4, if_pos h4]; exact u_M_jobOf (by omega)
  rw [if_neg h4, if_neg h4]
  by_cases h5 : k < 6
  · rw [if_pos h5, if_pos h5]; exact u_M_programOf (by omega)
  rw [if_neg h5, if_neg h5]
  by_cases h6 : k < 7
  · rw [if_pos h6, if_pos h6]; exact u_M_line (by omega)
  rw [if_neg h6, if_neg h6]
  by_cases h7 : k < 8
  · exact absurd (show k = 7 by omega) hk
  rw [if_neg h7, if_neg h7]
  by_cases h8 : k < 9
  · rw [if_pos h8, if_pos h8]; exact u_M_ends (by omega)
  rw [if_neg h8, if_neg h8]
  by_cases h9 : k < 10
  · rw [if_pos h9, if_pos h9]; exact u_M_pending (by omega)
  rw [if_neg h9, if_neg h9]
  by_cases h10 : k < 11
  · rw [if_pos h10, if_pos h10]; exact u_M_blocked (by omega)
  rw [if_neg h10, if_neg h10]
  by_cases h11 : k < 12
  · rw [if_pos h11, if_pos h11]; exact u_M_ignored (by omega)
  rw [if_neg h11, if_neg h11]
  by_cases h12 : k < 13
  · rw [if_pos h12, if_pos h12]; exact u_M_nap (by omega)
  rw [if_neg h12, if_neg h12]
  by_cases h13 : k < 14
  · rw [if_pos h13, if_pos h13]; exact u_M_there (by omega)
  rw [if_neg h13, if_neg h13]
  by_cases h14 : k < 15
  · rw [if_pos h14, if_pos h14]; exact u_M_first (by omega)
  rw [if_neg h14, if_neg h14]
  by_cases h15 : k < 16
  · rw [if_pos h15, if_pos h15]; exact u_M_second (by omega)
  rw [if_neg h15, if_neg h15]
  by_cases h16 : k < 17
  · rw [if_pos h16, if_pos h16]; exact u_M_was (by omega)
  rw [if_neg h16, if_neg h16]
  by_cases h17 : k < 18
  · rw [if_pos h17, if_pos h17]; exact u_M_untold (by omega)
  rw [if_neg h17, if_neg h17]
  by_cases h18 : k < 19
  · rw [if_pos h18, if_pos h18]; exact u_M_piped (by omega)
  rw [if_neg h18, if_neg h18]
  by_cases h19 : k < 20
  · rw [if_pos h19, if_pos h19]; exact u_M_pipe (by omega)
  rw [if_neg h19, if_neg h19]
  by_cases h20 : k < 21
  · rw [if_pos h20, if_pos h20]; exact u_M_edit (by omega)
  rw [if_neg h20, if_neg h20]
  by_cases h21 : k < 22
  · rw [if_pos h21, if_pos h21]; exact u_M_queue (by omega)
  rw [if_neg h21, if_neg h21]
  by_cases h22 : k < 23
  · rw [if_pos h22, if_pos h22]; exact u_M_screen (by omega)
  rw [if_neg h22, if_neg h22]
theorem h2_M_ends {ad : Nat → Nat} {cs : Nat → ClassId} {σ : q_St} {j : Nat} {x : Int32} : ∀ k, k ≠ 8 → cM ad cs (q_up σ 7 j x) k = cM ad cs σ k := by
  intro k hk
  unfold cM
  by_cases h0 : k < 1
  · rw [if_pos h0, if_pos h0]; exact u_M_Mo (Or.inl (by decide))
  rw [if_neg h0, if_neg h0]
  by_cases h1 : k < 2
  · rw [if_pos h1, if_pos h1]; exact u_M_ops (by omega)
  rw [if_neg h1, if_neg h1]
  by_cases h2 : k < 3
  · rw [if_pos h2, if_pos h2]; exact u_M_numbers (by omega)
  rw [if_neg h2, if_neg h2]
  by_cases h3 : k < 4
  · rw [if_pos h3, if_pos h3]; exact u_M_state (by omega)
  rw [if_neg h3, if_neg h3]
  by_cases h4 : k < 5
  · rw [if_pos h4, if_pos h4]; exact u_M_jobOf (by omega)
  rw [if_neg h4, if_neg h4]
  by_cases h5 : k < 6
  · rw [if_pos h5, if_pos h5]; exact u_M_programOf (by omega)
  rw [if_neg h5, if_neg h5]
  by_cases h6 : k < 7
  · rw [if_pos h6, if_pos h6]; exact u_M_line (by omega)
  rw [if_neg h6, if_neg h6]
  by_cases h7 : k < 8
  · rw [if_pos h7, if_pos h7]; exact u_M_register (by omega)
  rw [if_neg h7, if_neg h7]
  by_cases h8 : k < 9
  · exact absurd (show k = 8 by omega) hk
  rw [if_neg h8, if_neg h8]
  by_cases h9 : k < 10
  · rw [if_pos h9, if_pos h9]; exact u_M_pending (by omega)
  rw [if_neg h9, if_neg h9]
  by_cases h10 : k < 11
  · rw [if_pos h10, if_pos h10]; exact u_M_blocked (by omega)
  rw [if_neg h10, if_neg h10]
  by_cases h11 : k < 12
  · rw [if_pos h11, if_pos h11]; exact u_M_ignored (by omega)
  rw [if_neg h11, if_neg h11]
  by_cases h12 : k < 13
  · rw [if_pos h12, if_pos h12]; exact u_M_nap (by omega)
  rw [if_neg h12, if_neg h12]
  by_cases h13 : k < 14
  · rw [if_pos h13, if_pos h13]; exact u_M_there (by omega)
  rw [if_neg h13, if_neg h13]
  by_cases h14 : k < 15
  · rw [if_pos h14, if_pos h14]; exact u_M_first (by omega)
  rw [if_neg h14, if_neg h14]
  by_cases h15 : k < 16
  · rw [if_pos h15, if_pos h15]; exact u_M_second (by omega)
  rw [if_neg h15, if_neg h15]
  by_cases h16 : k < 17
  · rw [if_pos h16, if_pos h16]; exact u_M_was (by omega)
  rw [if_neg h16, if_neg h16]
  by_cases h17 : k < 18
  · rw [if_pos h17, if_pos h17]; exact u_M_untold (by omega)
  rw [if_neg h17, if_neg h17]
  by_cases h18 : k < 19
  · rw [if_pos h18, if_pos h18]; exact u_M_piped (by omega)
  rw [if_neg h18, if_neg h18]
  by_cases h19 : k < 20
  · rw [if_pos h19, if_pos h19]; exact u_M_pipe (by omega)
  rw [if_neg h19, if_neg h19]
  by_cases h20 : k < 21
  · rw [if_pos h20, if_pos h20]; exact u_M_edit (by omega)
  rw [if_neg h20, if_neg h20]
  by_cases h21 : k < 22
  · rw [if_pos h21, if_pos h21]; exact u_M_queue (by omega)
  rw [if_neg h21, if_neg h21]
  by_cases h22 : k < 23
  · rw [if_pos h22, if_pos h22]; exact u_M_screen (by omega)
  rw [if_neg h22, if_neg h22]
theorem h2_M_pending {ad : Nat → Nat} {cs : Nat → ClassId} {σ : q_St} {j : Nat} {x : Int32} : ∀ k, k ≠ 9 → cM ad cs (q_up σ 8 j x) k = cM ad cs σ k := by
  intro k hk
  unfold cM
  by_cases h0 : k < 1
  · rw [if_pos h0, if_pos h0]; exact u_M_Mo (Or.inl (by decide))
  rw [if_neg h0, if_neg h0]
  by_cases h1 : k < 2
  · rw [if_pos h1, if_pos h1]; exact u_M_ops (by omega)
  rw [if_neg h1, if_neg h1]
  by_cases h2 : k < 3
  · rw [if_pos h2, if_pos h2]; exact u_M_numbers (by omega)
  rw [if_neg h2, if_neg h2]
  by_cases h3 : k < 4
  · rw [if_pos h3, if_pos h3]; exact u_M_state (by omega)
  rw [if_neg h3, if_neg h3]
  by_cases h4 : k < 5
  · rw [if_pos h4, if_pos h4]; exact u_M_jobOf (by omega)
  rw [if_neg h4, if_neg h4]
  by_cases h5 : k < 6
  · rw [if_pos h5, if_pos h5]; exact u_M_programOf (by omega)
  rw [if_neg h5, if_neg h5]
  by_cases h6 : k < 7
  · rw [if_pos h6, if_pos h6]; exact u_M_line (by omega)
  rw [if_neg h6, if_neg h6]
  by_cases h7 : k < 8
  · rw [if_pos h7, if_pos h7]; exact u_M_register (by omega)
  rw [if_neg h7, if_neg h7]
  by_cases h8 : k < 9
  · rw [if_pos h8, if_pos h8]; exact u_M_ends (by omega)
  rw [if_neg h8, if_neg h8]
  by_cases h9 : k < 10
  · exact absurd (show k = 9 by omega) hk
  rw [if_neg h9, if_neg h9]
  by_cases h10 : k < 11
  · rw [if_pos h10, if_pos h10]; exact u_M_blocked (by omega)
  rw [if_neg h10, if_neg h10]
  by_cases h11 : k < 12
  · rw [if_pos h11, if_pos h11]; exact u_M_ignored (by omega)
  rw [if_neg h11, if_neg h11]
  by_cases h12 : k < 13
  · rw [if_pos h12, if_pos h12]; exact u_M_nap (by omega)
  rw [if_neg h12, if_neg h12]
  by_cases h13 : k < 14
  · rw [if_pos h13, if_pos h13]; exact u_M_there (by omega)
  rw [if_neg h13, if_neg h13]
  by_cases h14 : k < 15
  · rw [if_pos h14, if_pos h14]; exact u_M_first (by omega)
  rw [if_neg h14, if_neg h14]
  by_cases h15 : k < 16
  · rw [if_pos h15, if_pos h15]; exact u_M_second (by omega)
  rw [if_neg h15, if_neg h15]
  by_cases h16 : k < 17
  · rw [if_pos h16, if_pos h16]; exact u_M_was (by omega)
  rw [if_neg h16, if_neg h16]
  by_cases h17 : k < 18
  · rw [if_pos h17, if_pos h17]; exact u_M_untold (by omega)
  rw [if_neg h17, if_neg h17]
  by_cases h18 : k < 19
  · rw [if_pos h18, if_pos h18]; exact u_M_piped (by omega)
  rw [if_neg h18, if_neg h18]
  by_cases h19 : k < 20
  · rw [if_pos h19, if_pos h19]; exact u_M_pipe (by omega)
  rw [if_neg h19, if_neg h19]
  by_cases h20 : k < 21
  · rw [if_pos h20, if_pos h20]; exact u_M_edit (by omega)
  rw [if_neg h20, if_neg h20]
  by_cases h21 : k < 22
  · rw [if_pos h21, if_pos h21]; exact u_M_queue (by omega)
  rw [if_neg h21, if_neg h21]
  by_cases h22 : k < 23
  · rw [if_pos h22, if_pos h22]; exact u_M_screen (by omega)
  rw [if_neg h22, if_neg h22]
theorem h2_M_blocked {ad : Nat → Nat} {cs : Nat → ClassId} {σ : q_St} {j : Nat} {x : Int32} : ∀ k, k ≠ 10 → cM ad cs (q_up σ 9 j x) k = cM ad cs σ k := by
  intro k hk
  unfold cM
  by_cases h0 : k < 1
  · rw [if_pos h0, if_pos h0]; exact u_M_Mo (Or.inl (by decide))
  rw [if_neg h0, if_neg h0]
  by_cases h1 : k < 2
  · rw [if_pos h1, if_pos h1]; exact u_M_ops (by omega)
  rw [if_neg h1, if_neg h1]
  by_cases h2 : k < 3
  · rw [if_pos h2, if_pos h2]; exact u_M_numbers (by omega)
  rw [if_neg h2, if_neg h2]
  by_cases h3 : k < 4
  · rw [if_pos h3, if_pos h3]; exact u_M_state (by omega)
  rw [if_neg h3, if_neg h3]
  by_cases h4 : k < 5
  · rw [if_pos h4, if_pos h4]; exact u_M_jobOf (by omega)
  rw [if_neg h4, if_neg h4]
  by_cases h5 : k < 6
  · rw [if_pos h5, if_pos h5]; exact u_M_programOf (by omega)
  rw [if_neg h5, if_neg h5]
  by_cases h6 : k < 7
  · rw [if_pos h6, if_pos h6]; exact u_M_line (by omega)
  rw [if_neg h6, if_neg h6]
  by_cases h7 : k < 8
  · rw [if_pos h7, if_pos h7]; exact u_M_register (by omega)
  rw [if_neg h7, if_neg h7]
  by_cases h8 : k < 9
  · rw [if_pos h8, if_pos h8]; exact u_M_ends (by omega)
  rw [if_neg h8, if_neg h8]
  by_cases h9 : k < 10
  · rw [if_pos h9, if_pos h9]; exact u_M_pending (by omega)
  rw [if_neg h9, if_neg h9]
  by_cases h10 : k < 11
  · exact absurd (show k = 10 by omega) hk
  rw [if_neg h10, if_neg h10]
  by_cases h11 : k < 12
  · rw [if_pos h11, if_pos h11]; exact u_M_ignored (by omega)
  rw [if_neg h11, if_neg h11]
  by_cases h12 : k < 13
  · rw [if_pos h12, if_pos h12]; exact u_M_nap (by omega)
  rw [if_neg h12, if_neg h12]
  by_cases h13 : k < 14
  · rw [if_pos h13, if_pos h13]; exact u_M_there (by omega)
  rw [if_neg h13, if_neg h13]
  by_cases h14 : k < 15
  · rw [if_pos h14, if_pos h14]; exact u_M_first (by omega)
  rw [if_neg h14, if_neg h14]
  by_cases h15 : k < 16
  · rw [if_pos h15, if_pos h15]; exact u_M_second (by omega)
  rw [if_neg h15, if_neg h15]
  by_cases h16 : k < 17
  · rw [if_pos h16, if_pos h16]; exact u_M_was (by omega)
  rw [if_neg h16, if_neg h16]
  by_cases h17 : k < 18
  · rw [if_pos h17, if_pos h17]; exact u_M_untold (by omega)
  rw [if_neg h17, if_neg h17]
  by_cases h18 : k < 19
  · rw [if_pos h18, if_pos h18]; exact u_M_piped (by omega)
  rw [if_neg h18, if_neg h18]
  by_cases h19 : k < 20
  · rw [if_pos h19, if_pos h19]; exact u_M_pipe (by omega)
  rw [if_neg h19, if_neg h19]
  by_cases h20 : k < 21
  · rw [if_pos h20, if_pos h20]; exact u_M_edit (by omega)
  rw [if_neg h20, if_neg h20]
  by_cases h21 : k < 22
  · rw [if_pos h21, if_pos h21]; exact u_M_queue (by omega)
  rw [if_neg h21, if_neg h21]
  by_cases h22 : k < 23
  · rw [if_pos h22, if_pos h22]; exact u_M_screen (by omega)
  rw [if_neg h22, if_neg h22]
theorem h2_M_ignored {ad : Nat → Nat} {cs : Nat → ClassId} {σ : q_St} {j : Nat} {x : Int32} : ∀ k, k ≠ 11 → cM ad cs (q_up σ 10 j x) k = cM ad cs σ k := by
  intro k hk
  unfold cM
  by_cases h0 : k < 1
  · rw [if_pos h0, if_pos h0]; exact u_M_Mo (Or.inl (by decide))
  rw [if_neg h0, if_neg h0]
  by_cases h1 : k < 2
  · rw [if_pos h1, if_pos h1]; exact u_M_ops (by omega)
  rw [if_neg h1, if_neg h1]
  by_cases h2 : k < 3
  · rw [if_pos h2, if_pos h2]; exact u_M_numbers (by omega)
  rw [if_neg h2, if_neg h2]
  by_cases h3 : k < 4
  · rw [if_pos h3, if_pos h3]; exact u_M_state (by omega)
  rw [if_neg h3, if_neg h3]
  by_cases h4 : k < 5
  · rw [if_pos h4, if_pos h4]; exact u_M_jobOf (by omega)
  rw [if_neg h4, if_neg h4]
  by_cases h5 : k < 6
  · rw [if_pos h5, if_pos h5]; exact u_M_programOf (by omega)
  rw [if_neg h5, if_neg h5]
  by_cases h6 : k < 7
  · rw [if_pos h6, if_pos h6]; exact u_M_line (by omega)
  rw [if_neg h6, if_neg h6]
  by_cases h7 : k < 8
  · rw [if_pos h7, if_pos h7]; exact u_M_register (by omega)
  rw [if_neg h7, if_neg h7]
  by_cases h8 : k < 9
  · rw [if_pos h8, if_pos h8]; exact u_M_ends (by omega)
  rw [if_neg h8, if_neg h8]
  by_cases h9 : k < 10
  · rw [if_pos h9, if_pos h9]; exact u_M_pending (by omega)
  rw [if_neg h9, if_neg h9]
  by_cases h10 : k < 11
  · rw [if_pos h10, if_pos h10]; exact u_M_blocked (by omega)
  rw [if_neg h10, if_neg h10]
  by_cases h11 : k < 12
  · exact absurd (show k = 11 by omega) hk
  rw [if_neg h11, if_neg h11]
  by_cases h12 : k < 13
  · rw [if_pos h12, if_pos h12]; exact u_M_nap (by omega)
  rw [if_neg h12, if_neg h12]
  by_cases h13 : k < 14
  · rw [if_pos h13, if_pos h13]; exact u_M_there (by omega)
  rw [if_neg h13, if_neg h13]
  by_cases h14 : k < 15
  · rw [if_pos h14, if_pos h14]; exact u_M_first (by omega)
  rw [if_neg h14, if_neg h14]
  by_cases h15 : k < 16
  · rw [if_pos h15, if_pos h15]; exact u_M_second (by omega)
  rw [if_neg h15, if_neg h15]
  by_cases h16 : k < 17
  · rw [if_pos h16, if_pos h16]; exact u_M_was (by omega)
  rw [if_neg h16, if_neg h16]
  by_cases h17 : k < 18
  · rw [if_pos h17, if_pos h17]; exact u_M_untold (by omega)
  rw [if_neg h17, if_neg h17]
  by_cases h18 : k < 19
  · rw [if_pos h18, if_pos h18]; exact u_M_piped (by omega)
  rw [if_neg h18, if_neg h18]
  by_cases h19 : k < 20
  · rw [if_pos h19, if_pos h19]; exact u_M_pipe (by omega)
  rw [if_neg h19, if_neg h19]
  by_cases h20 : k < 21
  · rw [if_pos h20, if_pos h20]; exact u_M_edit (by omega)
  rw [if_neg h20, if_neg h20]
  by_cases h21 : k < 22
  · rw [if_pos h21, if_pos h21]; exact u_M_queue (by omega)
  rw [if_neg h21, if_neg h21]
  by_cases h22 : k < 23
  · rw [if_pos h22, if_pos h22]; exact u_M_screen (by omega)
  rw [if_neg h22, if_neg h22]
theorem h2_M_nap {ad : Nat → Nat} {cs : Nat → ClassId} {σ : q_St} {j : Nat} {x : Int32} : ∀ k, k ≠ 12 → cM ad cs (q_up σ 11 j x) k = cM ad cs σ k := by
  intro k hk
  unfold cM
  by_cases h0 : k < 1
  · rw [if_pos h0, if_pos h0]; exact u_M_Mo (Or.inl (by decide))
  rw [if_neg h0, if_neg h0]
  by_cases h1 : k < 2
  · rw [if_pos h1, if_pos h1]; exact u_M_ops (by omega)
  rw [if_neg h1, if_neg h1]
  by_cases h2 : k < 3
  · rw [if_pos h2, if_pos h2]; exact u_M_numbers (by omega)
  rw [if_neg h2, if_neg h2]
  by_cases h3 : k < 4
  · rw [if_pos h3, if_pos h3]; exact u_M_state (by omega)
  rw [if_neg h3, if_neg h3]
  by_cases h4 : k < 5
  · rw [if_pos h4, if_pos h4]; exact u_M_jobOf (by omega)
  rw [if_neg h4, if_neg h4]
  by_cases h5 : k < 6
  · rw [if_pos h5, if_pos h5]; exact u_M_programOf (by omega)
  rw [if_neg h5, if_neg h5]
  by_cases h6 : k < 7
  · rw [if_pos h6, if_pos h6]; exact u_M_line (by omega)
  rw [if_neg h6, if_neg h6]
  by_cases h7 : k < 8
  · rw [if_pos h7, if_pos h7]; exact u_M_register (by omega)
  rw [if_neg h7, if_neg h7]
  by_cases h8 : k < 9
  · rw [if_pos h8, if_pos h8]; exact u_M_ends (by omega)
  rw [if_neg h8, if_neg h8]
  by_cases h9 : k < 10
  · rw [if_pos h9, if_pos h9]; exact u_M_pending (by omega)
  rw [if_neg h9, if_neg h9]
  by_cases h10 : k < 11
  · rw [if_pos h10, if_pos h10]; exact u_M_blocked (by omega)
  rw [if_neg h10, if_neg h10]
  by_cases h11 : k < 12
  · rw [if_pos h11, if_pos h11]; exact u_M_ignored (by omega)
  rw [if_neg h11, if_neg h11]
  by_cases h12 : k < 13
  · exact absurd (show k = 12 by omega) hk
  rw [if_neg h12, if_neg h12]
  by_cases h13 : k < 14
  · rw [if_pos h13, if_pos h13]; exact u_M_there (by omega)
  rw [if_neg h13, if_neg h13]
  by_cases h14 : k < 15
  · rw [if_pos h14, if_pos h14]; exact u_M_first (by omega)
  rw [if_neg h14, if_neg h14]
  by_cases h15 : k < 16
  · rw [if_pos h15, if_pos h15]; exact u_M_second (by omega)
  rw [if_neg h15, if_neg h15]
  by_cases h16 : k < 17
  · rw [if_pos h16, if_pos h16]; exact u_M_was (by omega)
  rw [if_neg h16, if_neg h16]
  by_cases h17 : k < 18
  · rw [if_pos h17, if_pos h17]; exact u_M_untold (by omega)
  rw [if_neg h17, if_neg h17]
  by_cases h18 : k < 19
  · rw [if_pos h18, if_pos h18]; exact u_M_piped (by omega)
  rw [if_neg h18, if_neg h18]
  by_cases h19 : k < 20
  · rw [if_pos h19, if_pos h19]; exact u_M_pipe (by omega)
  rw [if_neg h19, if_neg h19]
  by_cases h20 : k < 21
  · rw [if_pos h20, if_pos h20]; exact u_M_edit (by omega)
  rw [if_neg h20, if_neg h20]
  by_cases h21 : k < 22
  · rw [if_pos h21, if_pos h21]; exact u_M_queue (by omega)
  rw [if_neg h21, if_neg h21]
  by_cases h22 : k < 23
  · rw [if_pos h22, if_pos h22]; exact u_M_screen (by omega)
  rw [if_neg h22, if_neg h22]
theorem h2_M_there {ad : Nat → Nat} {cs : Nat → ClassId} {σ : q_St} {j : Nat} {x : Int32} : ∀ k, k ≠ 13 → cM ad cs (q_up σ 12 j x) k = cM ad cs σ k := by
  intro k hk
  unfold cM
  by_cases h0 : k < 1
  · rw [if_pos h0, if_pos h0]; exact u_M_Mo (Or.inl (by decide))
  rw [if_neg h0, if_neg h0]
  by_cases h1 : k < 2
  · rw [if_pos h1, if_pos h1]; exact u_M_ops (by omega)
  rw [if_neg h1, if_neg h1]
  by_cases h2 : k < 3
  · rw [if_pos h2, if_pos h2]; exact u_M_numbers (by omega)
  rw [if_neg h2, if_neg h2]
  by_cases h3 : k < 4
  · rw [if_pos h3, if_pos h3]; exact u_M_state (by omega)
  rw [if_neg h3, if_neg h3]
  by_cases h4 : k < 5
  · rw [if_pos h4, if_pos h4]; exact u_M_jobOf (by omega)
  rw [if_neg h4, if_neg h4]
  by_cases h5 : k < 6
  · rw [if_pos h5, if_pos h5]; exact u_M_programOf (by omega)
  rw [if_neg h5, if_neg h5]
  by_cases h6 : k < 7
  · rw [if_pos h6, if_pos h6]; exact u_M_line (by omega)
  rw [if_neg h6, if_neg h6]
  by_cases h7 : k < 8
  · rw [if_pos h7, if_pos h7]; exact u_M_register (by omega)
  rw [if_neg h7, if_neg h7]
  by_cases h8 : k < 9
  · rw [if_pos h8, if_pos h8]; exact u_M_ends (by omega)
  rw [if_neg h8, if_neg h8]
  by_cases h9 : k < 10
  · rw [if_pos h9, if_pos h9]; exact u_M_pending (by omega)
  rw [if_neg h9, if_neg h9]
  by_cases h10 : k < 11
  · rw [if_pos h10, if_pos h10]; exact u_M_blocked (by omega)
  rw [if_neg h10, if_neg h10]
  by_cases h11 : k < 12
  · rw [if_pos h11, if_pos h11]; exact u_M_ignored (by omega)
  rw [if_neg h11, if_neg h11]
  by_cases h12 : k < 13
  · rw [if_pos h12, if_pos h12]; exact u_M_nap (by omega)
  rw [if_neg h12, if_neg h12]
  by_cases h13 : k < 14
  · exact absurd (show k = 13 by omega) hk
  rw [if_neg h13, if_neg h13]
  by_cases h14 : k < 15
  · rw [if_pos h14, if_pos h14]; exact u_M_first (by omega)
  rw [if_neg h14, if_neg h14]
  by_cases h15 : k < 16
  · rw [if_pos h15, if_pos h15]; exact u_M_second (by omega)
  rw [if_neg h15, if_neg h15]
  by_cases h16 : k < 17
  · rw [if_pos h16, if_pos h16]; exact u_M_was (by omega)
  rw [if_neg h16, if_neg h16]
  by_cases h17 : k < 18
  · rw [if_pos h17, if_pos h17]; exact u_M_untold (by omega)
  rw [if_neg h17, if_neg h17]
  by_cases h18 : k < 19
  · rw [if_pos h18, if_pos h18]; exact u_M_piped (by omega)
  rw [if_neg h18, if_neg h18]
  by_cases h19 : k < 20
  · rw [if_pos h19, if_pos h19]; exact u_M_pipe (by omega)
  rw [if_neg h19, if_neg h19]
  by_cases h20 : k < 21
  · rw [if_pos h20, if_pos h20]; exact u_M_edit (by omega)
  rw [if_neg h20, if_neg h20]
  by_cases h21 : k < 22
  · rw [if_pos h21, if_pos h21]; exact u_M_queue (by omega)
  rw [if_neg h21, if_neg h21]
  by_cases h22 : k < 23
  · rw [if_pos h22, if_pos h22]; exact u_M_screen (by omega)
  rw [if_neg h22, if_neg h22]
theorem h2_M_first {ad : Nat → Nat} {cs : Nat → ClassId} {σ : q_St} {j : Nat} {x : Int32} : ∀ k, k ≠ 14 → cM ad cs (q_up σ 13 j x) k = cM ad cs σ k := by
  intro k hk
  unfold cM
  by_cases h0 : k < 1
  · rw [if_pos h0, if_pos h0]; exact u_M_Mo (Or.inl (by decide))
  rw [if_neg h0, if_neg h0]
  by_cases h1 : k < 2
  · rw [if_pos h1, if_pos h1]; exact u_M_ops (by omega)
  rw [if_neg h1, if_neg h1]
  by_cases h2 : k < 3
  · rw [if_pos h2, if_pos h2]; exact u_M_numbers (by omega)
  rw [if_neg h2, if_neg h2]
  by_cases h3 : k < 4
  · rw [if_pos h3, if_pos h3]; exact u_M_state (by omega)
  rw [if_neg h3, if_neg h3]
  by_cases h4 : k < 5
  · rw [if_pos h4, if_pos h4]; exact u_M_jobOf (by omega)
  rw [if_neg h4, if_neg h4]
  by_cases h5 : k < 6
  · rw [if_pos h5, if_pos h5]; exact u_M_programOf (by omega)
  rw [if_neg h5, if_neg h5]
  by_cases h6 : k < 7
  · rw [if_pos h6, if_pos h6]; exact u_M_line (by omega)
  rw [if_neg h6, if_neg h6]
  by_cases h7 : k < 8
  · rw [if_pos h7, if_pos h7]; exact u_M_register (by omega)
  rw [if_neg h7, if_neg h7]
  by_cases h8 : k < 9
  · rw [if_pos h8, if_pos h8]; exact u_M_ends (by omega)
  rw [if_neg h8, if_neg h8]
  by_cases h9 : k < 10
  · rw [if_pos h9, if_pos h9]; exact u_M_pending (by omega)
  rw [if_neg h9, if_neg h9]
  by_cases h10 : k < 11
  · rw [if_pos h10, if_pos h10]; exact u_M_blocked (by omega)
  rw [if_neg h10, if_neg h10]
  by_cases h11 : k < 12
  · rw [if_pos h11, if_pos h11]; exact u_M_ignored (by omega)
  rw [if_neg h11, if_neg h11]
  by_cases h12 : k < 13
  · rw [if_pos h12, if_pos h12]; exact u_M_nap (by omega)
  rw [if_neg h12, if_neg h12]
  by_cases h13 : k < 14
  · rw [if_pos h13, if_pos h13]; exact u_M_there (by omega)
  rw [if_neg h13, if_neg h13]
  by_cases h14 : k < 15
  · exact absurd (show k = 14 by omega) hk
  rw [if_neg h14, if_neg h14]
  by_cases h15 : k < 16
  · rw [if_pos h15, if_pos h15]; exact u_M_second (by omega)
  rw [if_neg h15, if_neg h15]
  by_cases h16 : k < 17
  · rw [if_pos h16, if_pos h16]; exact u_M_was (by omega)
  rw [if_neg h16, if_neg h16]
  by_cases h17 : k < 18
  · rw [if_pos h17, if_pos h17]; exact u_M_untold (by omega)
  rw [if_neg h17, if_neg h17]
  by_cases h18 : k < 19
  · rw [if_pos h18, if_pos h18]; exact u_M_piped (by omega)
  rw [if_neg h18, if_neg h18]
  by_cases h19 : k < 20
  · rw [if_pos h19, if_pos h19]; exact u_M_pipe (by omega)
  rw [if_neg h19, if_neg h19]
  by_cases h20 : k < 21
  · rw [if_pos h20, if_pos h20]; exact u_M_edit (by omega)
  rw [if_neg h20, if_neg h20]
  by_cases h21 : k < 22
  · rw [if_pos h21, if_pos h21]; exact u_M_queue (by omega)
  rw [if_neg h21, if_neg h21]
  by_cases h22 : k < 23
  · rw [if_pos h22, if_pos h22]; exact u_M_screen (by omega)
  rw [if_neg h22, if_neg h22]
theorem h2_M_second {ad : Nat → Nat} {cs : Nat → ClassId} {σ : q_St} {j : Nat} {x : Int32} : ∀ k, k ≠ 15 → cM ad cs (q_up σ 14 j x) k = cM ad cs σ k := by
  intro k hk
  unfold cM
  by_cases h0 : k < 1
  · rw [if_pos h0, if_pos h0]; exact u_M_Mo (Or.inl (by decide))
  rw [if_neg h0, if_neg h0]
  by_cases h1 : k < 2
  · rw [if_pos h1, if_pos h1]; exact u_M_ops (by omega)
  rw [if_neg h1, if_neg h1]
  by_cases h2 : k < 3
  · rw [if_pos h2, if_pos h2]; exact u_M_numbers (by omega)
  rw [if_neg h2, if_neg h2]
  by_cases h3 : k < 4
  · rw [if_pos h3, if_pos h3]; exact u_M_state (by omega)
  rw [if_neg h3, if_neg h3]
  by_cases h4 : k < 5
  · rw [if_pos h4, if_pos h4]; exact u_M_jobOf (by omega)
  rw [if_neg h4, if_neg h4]
  by_cases h5 : k < 6
  · rw [if_pos h5, if_pos h5]; exact u_M_programOf (by omega)
  rw [if_neg h5, if_neg h5]
  by_cases h6 : k < 7
  · rw [if_pos h6, if_pos h6]; exact u_M_line (by omega)
  rw [if_neg h6, if_neg h6]
  by_cases h7 : k < 8
  · rw [if_pos h7, if_pos h7]; exact u_M_register (by omega)
  rw [if_neg h7, if_neg h7]
  by_cases h8 : k < 9
  · rw [if_pos h8, if_pos h8]; exact u_M_ends (by omega)
  rw [if_neg h8, if_neg h8]
  by_cases h9 : k < 10
  · rw [if_pos h9, if_pos h9]; exact u_M_pending (by omega)
  rw [if_neg h9, if_neg h9]
  by_cases h10 : k < 11
  · rw [if_pos h10, if_pos h10]; exact u_M_blocked (by omega)
  rw [if_neg h10, if_neg h10]
  by_cases h11 : k < 12
  · rw [if_pos h11, if_pos h11]; exact u_M_ignored (by omega)
  rw [if_neg h11, if_neg h11]
  by_cases h12 : k < 13
  · rw [if_pos h12, if_pos h12]; exact u_M_nap (by omega)
  rw [if_neg h12, if_neg h12]
  by_cases h13 : k < 14
  · rw [if_pos h13, if_pos h13]; exact u_M_there (by omega)
  rw [if_neg h13, if_neg h13]
  by_cases h14 : k < 15
  · rw [if_pos h14, if_pos h14]; exact u_M_first (by omega)
  rw [if_neg h14, if_neg h14]
  by_cases h15 : k < 16
  · exact absurd (show k = 15 by omega) hk
  rw [if_neg h15, if_neg h15]
  by_cases h16 : k < 17
  · rw [if_pos h16, if_pos h16]; exact u_M_was (by omega)
  rw [if_neg h16, if_neg h16]
  by_cases h17 : k < 18
  · rw [if_pos h17, if_pos h17]; exact u_M_untold (by omega)
  rw [if_neg h17, if_neg h17]
  by_cases h18 : k < 19
  · rw [if_pos h18, if_pos h18]; exact u_M_piped (by omega)
  rw [if_neg h18, if_neg h18]
  by_cases h19 : k < 20
  · rw [if_pos h19, if_pos h19]; exact u_M_pipe (by omega)
  rw [if_neg h19, if_neg h19]
  by_cases h20 : k < 21
  · rw [if_pos h20, if_pos h20]; exact u_M_edit (by omega)
  rw [if_neg h20, if_neg h20]
  by_cases h21 : k < 22
  · rw [if_pos h21, if_pos h21]; exact u_M_queue (by omega)
  rw [if_neg h21, if_neg h21]
  by_cases h22 : k < 23
  · rw [if_pos h22, if_pos h22]; exact u_M_screen (by omega)
  rw [if_neg h22, if_neg h22]
theorem h2_M_was {ad : Nat → Nat} {cs : Nat → ClassId} {σ : q_St} {j : Nat} {x : Int32} : ∀ k, k ≠ 16 → cM ad cs (q_up σ 15 j x) k = cM ad cs σ k := by
  intro k hk
  unfold cM
  by_cases h0 : k < 1
  · rw [if_pos h0, if_pos h0]; exact u_M_Mo (Or.inl (by decide))
  rw [if_neg h0, if_neg h0]
  by_cases h1 : k < 2
  · rw [if_pos h1, if_pos h1]; exact u_M_ops (by omega)
  rw [if_neg h1, if_neg h1]
  by_cases h2 : k < 3
  · rw [if_pos h2, if_pos h2]; exact u_M_numbers (by omega)
  rw [if_neg h2, if_neg h2]
  by_cases h3 : k < 4
  · rw [if_pos h3, if_pos h3]; exact u_M_state (by omega)
  rw [if_neg h3, if_neg h3]
  by_cases h4 : k < 5
  · rw [if_pos h4, if_pos h4]; exact u_M_jobOf (by omega)
  rw [if_neg h4, if_neg h4]
  by_cases h5 : k < 6
  · rw [if_pos h5, if_pos h5]; exact u_M_programOf (by omega)
  rw [if_neg h5, if_neg h5]
  by_cases h6 : k < 7
  · rw [if_pos h6, if_pos h6]; exact u_M_line (by omega)
  rw [if_neg h6, if_neg h6]
  by_cases h7 : k < 8
  · rw [if_pos h7, if_pos h7]; exact u_M_register (by omega)
  rw [if_neg h7, if_neg h7]
  by_cases h8 : k < 9
  · rw [if_pos h8, if_pos h8]; exact u_M_ends (by omega)
  rw [if_neg h8, if_neg h8]
  by_cases h9 : k < 10
  · rw [if_pos h9, if_pos h9]; exact u_M_pending (by omega)
  rw [if_neg h9, if_neg h9]
  by_cases h10 : k < 11
  · rw [if_pos h10, if_pos h10]; exact u_M_blocked (by omega)
  rw [if_neg h10, if_neg h10]
  by_cases h11 : k < 12
  · rw [if_pos h11, if_pos h11]; exact u_M_ignored (by omega)
  rw [if_neg h11, if_neg h11]
  by_cases h12 : k < 13
  · rw [if_pos h12, if_pos h12]; exact u_M_nap (by omega)
  rw [if_neg h12, if_neg h12]
  by_cases h13 : k < 14
  · rw [if_pos h13, if_pos h13]; exact u_M_there (by omega)
  rw [if_neg h13, if_neg h13]
  by_cases h14 : k < 15
  · rw [if_pos h14, if_pos h14]; exact u_M_first (by omega)
  rw [if_neg h14, if_neg h14]
  by_cases h15 : k < 16
  · rw [if_pos h15, if_pos h15]; exact u_M_second (by omega)
  rw [if_neg h15, if_neg h15]
  by_cases h16 : k < 17
  · exact absurd (show k = 16 by omega) hk
  rw [if_neg h16, if_neg h16]
  by_cases h17 : k < 18
  · rw [if_pos h17, if_pos h17]; exact u_M_untold (by omega)
  rw [if_neg h17, if_neg h17]
  by_cases h18 : k < 19
  · rw [if_pos h18, if_pos h18]; exact u_M_piped (by omega)
  rw [if_neg h18, if_neg h18]
  by_cases h19 : k < 20
  · rw [if_pos h19, if_pos h19]; exact u_M_pipe (by omega)
  rw [if_neg h19, if_neg h19]
  by_cases h20 : k < 21
  · rw [if_pos h20, if_pos h20]; exact u_M_edit (by omega)
  rw [if_neg h20, if_neg h20]
  by_cases h21 : k < 22
  · rw [if_pos h21, if_pos h21]; exact u_M_queue (by omega)
  rw [if_neg h21, if_neg h21]
  by_cases h22 : k < 23
  · rw [if_pos h22, if_pos h22]; exact u_M_screen (by omega)
  rw [if_neg h22, if_neg h22]
theorem h2_M_untold {ad : Nat → Nat} {cs : Nat → ClassId} {σ : q_St} {j : Nat} {x : Int32} : ∀ k, k ≠ 17 → cM ad cs (q_up σ 16 j x) k = cM ad cs σ k := by
  intro k hk
  unfold cM
  by_cases h0 : k < 1
  · rw [if_pos h0, if_pos h0]; exact u_M_Mo (Or.inl (by decide))
  rw [if_neg h0, if_neg h0]
  by_cases h1 : k < 2
  · rw [if_pos h1, if_pos h1]; exact u_M_ops (by omega)
  rw [if_neg h1, if_neg h1]
  by_cases h2 : k < 3
  · rw [if_pos h2, if_pos h2]; exact u_M_numbers (by omega)
  rw [if_neg h2, if_neg h2]
  by_cases h3 : k < 4
  · rw [if_pos h3, if_pos h3]; exact u_M_state (by omega)
  rw [if_neg h3, if_neg h3]
  by_cases h4 : k < 5
  · rw [if_pos h4, if_pos h4]; exact u_M_jobOf (by omega)
  rw [if_neg h4, if_neg h4]
  by_cases h5 : k < 6
  · rw [if_pos h5, if_pos h5]; exact u_M_programOf (by omega)
  rw [if_neg h5, if_neg h5]
  by_cases h6 : k < 7
  · rw [if_pos h6, if_pos h6]; exact u_M_line (by omega)
  rw [if_neg h6, if_neg h6]
  by_cases h7 : k < 8
  · rw [if_pos h7, if_pos h7]; exact u_M_register (by omega)
  rw [if_neg h7, if_neg h7]
  by_cases h8 : k < 9
  · rw [if_pos h8, if_pos h8]; exact u_M_ends (by omega)
  rw [if_neg h8, if_neg h8]
  by_cases h9 : k < 10
  · rw [if_pos h9, if_pos h9]; exact u_M_pending (by omega)
  rw [if_neg h9, if_neg h9]
  by_cases h10 : k < 11
  · rw [if_pos h10, if_pos h10]; exact u_M_blocked (by omega)
  rw [if_neg h10, if_neg h10]
  by_cases h11 : k < 12
  · rw [if_pos h11, if_pos h11]; exact u_M_ignored (by omega)
  rw [if_neg h11, if_neg h11]
  by_cases h12 : k < 13
  · rw [if_pos h12, if_pos h12]; exact u_M_nap (by omega)
  rw [if_neg h12, if_neg h12]
  by_cases h13 : k < 14
  · rw [if_pos h13, if_pos h13]; exact u_M_there (by omega)
  rw [if_neg h13, if_neg h13]
  by_cases h14 : k < 15
  · rw [if_pos h14, if_pos h14]; exact u_M_first (by omega)
  rw [if_neg h14, if_neg h14]
  by_cases h15 : k < 16
  · rw [if_pos h15, if_pos h15]; exact u_M_second (by omega)
  rw [if_neg h15, if_neg h15]
  by_cases h16 : k < 17
  · rw [if_pos h16, if_pos h16]; exact u_M_was (by omega)
  rw [if_neg h16, if_neg h16]
  by_cases h17 : k < 18
  · exact absurd (show k = 17 by omega) hk
  rw [if_neg h17, if_neg h17]
  by_cases h18 : k < 19
  · rw [if_pos h18, if_pos h18]; exact u_M_piped (by omega)
  rw [if_neg h18, if_neg h18]
  by_cases h19 : k < 20
  · rw [if_pos h19, if_pos h19]; exact u_M_pipe (by omega)
  rw [if_neg h19, if_neg h19]
  by_cases h20 : k < 21
  · rw [if_pos h20, if_pos h20]; exact u_M_edit (by omega)
  rw [if_neg h20, if_neg h20]
  by_cases h21 : k < 22
  · rw [if_pos h21, if_pos h21]; exact u_M_queue (by omega)
  rw [if_neg h21, if_neg h21]
  by_cases h22 : k < 23
  · rw [if_pos h22, if_pos h22]; exact u_M_screen (by omega)
  rw [if_neg h22, if_neg h22]
theorem h2_M_piped {ad : Nat → Nat} {cs : Nat → ClassId} {σ : q_St} {j : Nat} {x : Int32} : ∀ k, k ≠ 18 → cM ad cs (q_up σ 17 j x) k = cM ad cs σ k := by
  intro k hk
  unfold cM
  by_cases h0 : k < 1
  · rw [if_pos h0, if_pos h0]; exact u_M_Mo (Or.inl (by decide))
  rw [if_neg h0, if_neg h0]
  by_cases h1 : k < 2
  · rw [if_pos h1, if_pos h1]; exact u_M_ops (by omega)
  rw [if_neg h1, if_neg h1]
  by_cases h2 : k < 3
  · rw [if_pos h2, if_pos h2]; exact u_M_numbers (by omega)
  rw [if_neg h2, if_neg h2]
  by_cases h3 : k < 4
  · rw [if_pos h3, if_pos h3]; exact u_M_state (by omega)
  rw [if_neg h3, if_neg h3]
  by_cases h4 : k < 5
  · rw [if_pos h4, if_pos h4]; exact u_M_jobOf (by omega)
  rw [if_neg h4, if_neg h4]
  by_cases h5 : k < 6
  · rw [if_pos h5, if_pos h5]; exact u_M_programOf (by omega)
  rw [if_neg h5, if_neg h5]
  by_cases h6 : k < 7
  · rw [if_pos h6, if_pos h6]; exact u_M_line (by omega)
  rw [if_neg h6, if_neg h6]
  by_cases h7 : k < 8
  · rw [if_pos h7, if_pos h7]; exact u_M_register (by omega)
  rw [if_neg h7, if_neg h7]
  by_cases h8 : k < 9
  · rw [if_pos h8, if_pos h8]; exact u_M_ends (by omega)
  rw [if_neg h8, if_neg h8]
  by_cases h9 : k < 10
  · rw [if_pos h9, if_pos h9]; exact u_M_pending (by omega)
  rw [if_neg h9, if_neg h9]
  by_cases h10 : k < 11
  · rw [if_pos h10, if_pos h10]; exact u_M_blocked (by omega)
  rw [if_neg h10, if_neg h10]
  by_cases h11 : k < 12
  · rw [if_pos h11, if_pos h11]; exact u_M_ignored (by omega)
  rw [if_neg h11, if_neg h11]
  by_cases h12 : k < 13
  · rw [if_pos h12, if_pos h12]; exact u_M_nap (by omega)
  rw [if_neg h12, if_neg h12]
  by_cases h13 : k < 14
  · rw [if_pos h13, if_pos h13]; exact u_M_there (by omega)
  rw [if_neg h13, if_neg h13]
  by_cases h14 : k < 15
  · rw [if_pos h14, if_pos h14]; exact u_M_first (by omega)
  rw [if_neg h14, if_neg h14]
  by_cases h15 : k < 16
  · rw [if_pos h15, if_pos h15]; exact u_M_second (by omega)
  rw [if_neg h15, if_neg h15]
  by_cases h16 : k < 17
  · rw [if_pos h16, if_pos h16]; exact u_M_was (by omega)
  rw [if_neg h16, if_neg h16]
  by_cases h17 : k < 18
  · rw [if_pos h17, if_pos h17]; exact u_M_untold (by omega)
  rw [if_neg h17, if_neg h17]
  by_cases h18 : k < 19
  · exact absurd (show k = 18 by omega) hk
  rw [if_neg h18, if_neg h18]
  by_cases h19 : k < 20
  · rw [if_pos h19, if_pos h19]; exact u_M_pipe (by omega)
  rw [if_neg h19, if_neg h19]
  by_cases h20 : k < 21
  · rw [if_pos h20, if_pos h20]; exact u_M_edit (by omega)
  rw [if_neg h20, if_neg h20]
  by_cases h21 : k < 22
  · rw [if_pos h21, if_pos h21]; exact u_M_queue (by omega)
  rw [if_neg h21, if_neg h21]
  by_cases h22 : k < 23
  · rw [if_pos h22, if_pos h22]; exact u_M_screen (by omega)
  rw [if_neg h22, if_neg h22]
theorem h2_M_pipe {ad : Nat → Nat} {cs : Nat → ClassId} {σ : q_St} {j : Nat} {x : Int32} : ∀ k, k ≠ 19 → cM ad cs (q_up σ 18 j x) k = cM ad cs σ k := by
  intro k hk
  unfold cM
  by_cases h0 : k < 1
  · rw [if_pos h0, if_pos h0]; exact u_M_Mo (Or.inl (by decide))
  rw [if_neg h0, if_neg h0]
  by_cases h1 : k < 2
  · rw [if_pos h1, if_pos h1]; exact u_M_ops (by omega)
  rw [if_neg h1, if_neg h1]
  by_cases h2 : k < 3
  · rw [if_pos h2, if_pos h2]; exact u_M_numbers (by omega)
  rw [if_neg h2, if_neg h2]
  by_cases h3 : k < 4
  · rw [if_pos h3, if_pos h3]; exact u_M_state (by omega)
  rw [if_neg h3, if_neg h3]
  by_cases h4 : k < 5
  · rw [if_pos h4, if_pos h4]; exact u_M_jobOf (by omega)
  rw [if_neg h4, if_neg h4]
  by_cases h5 : k < 6
  · rw [if_pos h5, if_pos h5]; exact u_M_programOf (by omega)
  rw [if_neg h5, if_neg h5]
  by_cases h6 : k < 7
  · rw [if_pos h6, if_pos h6]; exact u_M_line (by omega)
  rw [if_neg h6, if_neg h6]
  by_cases h7 : k < 8
  · rw [if_pos h7, if_pos h7]; exact u_M_register (by omega)
  rw [if_neg h7, if_neg h7]
  by_cases h8 : k < 9
  · rw [if_pos h8, if_pos h8]; exact u_M_ends (by omega)
  rw [if_neg h8, if_neg h8]
  by_cases h9 : k < 10
  · rw [if_pos h9, if_pos h9]; exact u_M_pending (by omega)
  rw [if_neg h9, if_neg h9]
  by_cases h10 : k < 11
  · rw [if_pos h10, if_pos h10]; exact u_M_blocked (by omega)
  rw [if_neg h10, if_neg h10]
  by_cases h11 : k < 12
  · rw [if_pos h11, if_pos h11]; exact u_M_ignored (by omega)
  rw [if_neg h11, if_neg h11]
  by_cases h12 : k < 13
  · rw [if_pos h12, if_pos h12]; exact u_M_nap (by omega)
  rw [if_neg h12, if_neg h12]
  by_cases h13 : k < 14
  · rw [if_pos h13, if_pos h13]; exact u_M_there (by omega)
  rw [if_neg h13, if_neg h13]
  by_cases h14 : k < 15
  · rw [if_pos h14, if_pos h14]; exact u_M_first (by omega)
  rw [if_neg h14, if_neg h14]
  by_cases h15 : k < 16
  · rw [if_pos h15, if_pos h15]; exact u_M_second (by omega)
  rw [if_neg h15, if_neg h15]
  by_cases h16 : k < 17
  · rw [if_pos h16, if_pos h16]; exact u_M_was (by omega)
  rw [if_neg h16, if_neg h16]
  by_cases h17 : k < 18
  · rw [if_pos h17, if_pos h17]; exact u_M_untold (by omega)
  rw [if_neg h17, if_neg h17]
  by_cases h18 : k < 19
  · rw [if_pos h18, if_pos h18]; exact u_M_piped (by omega)
  rw [if_neg h18, if_neg h18]
  by_cases h19 : k < 20
  · exact absurd (show k = 19 by omega) hk
  rw [if_neg h19, if_neg h19]
  by_cases h20 : k < 21
  · rw [if_pos h20, if_pos h20]; exact u_M_edit (by omega)
  rw [if_neg h20, if_neg h20]
  by_cases h21 : k < 22
  · rw [if_pos h21, if_pos h21]; exact u_M_queue (by omega)
  rw [if_neg h21, if_neg h21]
  by_cases h22 : k < 23
  · rw [if_pos h22, if_pos h22]; exact u_M_screen (by omega)
  rw [if_neg h22, if_neg h22]
theorem h2_M_edit {ad : Nat → Nat} {cs : Nat → ClassId} {σ : q_St} {j : Nat} {x : Int32} : ∀ k, k ≠ 20 → cM ad cs (q_up σ 19 j x) k = cM ad cs σ k := by
  intro k hk
  unfold cM
  by_cases h0 : k < 1
  · rw [if_pos h0, if_pos h0]; exact u_M_Mo (Or.inl (by decide))
  rw [if_neg h0, if_neg h0]
  by_cases h1 : k < 2
  · rw [if_pos h1, if_pos h1]; exact u_M_ops (by omega)
  rw [if_neg h1, if_neg h1]
  by_cases h2 : k < 3
  · rw [if_pos h2, if_pos h2]; exact u_M_numbers (by omega)
  rw [if_neg h2, if_neg h2]
  by_cases h3 : k < 4
  · rw [if_pos h3, if_pos h3]; exact u_M_state (by omega)
  rw [if_neg h3, if_neg h3]
  by_cases h4 : k < 5
  · rw [if_pos h4, if_pos h4]; exact u_M_jobOf (by omega)
  rw [if_neg h4, if_neg h4]
  by_cases h5 : k < 6
  · rw [if_pos h5, if_pos h5]; exact u_M_programOf (by omega)
  rw [if_neg h5, if_neg h5]
  by_cases h6 : k < 7
  · rw [if_pos h6, if_pos h6]; exact u_M_line (by omega)
  rw [if_neg h6, if_neg h6]
  by_cases h7 : k < 8
  · rw [if_pos h7, if_pos h7]; exact u_M_register (by omega)
  rw [if_neg h7, if_neg h7]
  by_cases h8 : k < 9
  · rw [if_pos h8, if_pos h8]; exact u_M_ends (by omega)
  rw [if_neg h8, if_neg h8]
  by_cases h9 : k < 10
  · rw [if_pos h9, if_pos h9]; exact u_M_pending (by omega)
  rw [if_neg h9, if_neg h9]
  by_cases h10 : k < 11
  · rw [if_pos h10, if_pos h10]; exact u_M_blocked (by omega)
  rw [if_neg h10, if_neg h10]
  by_cases h11 : k < 12
  · rw [if_pos h11, if_pos h11]; exact u_M_ignored (by omega)
  rw [if_neg h11, if_neg h11]
  by_cases h12 : k < 13
  · rw [if_pos h12, if_pos h12]; exact u_M_nap (by omega)
  rw [if_neg h12, if_neg h12]
  by_cases h13 : k < 14
  · rw [if_pos h13, if_pos h13]; exact u_M_there (by omega)
  rw [if_neg h13, if_neg h13]
  by_cases h14 : k < 15
  · rw [if_pos h14, if_pos h14]; exact u_M_first (by omega)
  rw [if_neg h14, if_neg h14]
  by_cases h15 : k < 16
  · rw [if_pos h15, if_pos h15]; exact u_M_second (by omega)
  rw [if_neg h15, if_neg h15]
  by_cases h16 : k < 17
  · rw [if_pos h16, if_pos h16]; exact u_M_was (by omega)
  rw [if_neg h16, if_neg h16]
  by_cases h17 : k < 18
  · rw [if_pos h17, if_pos h17]; exact u_M_untold (by omega)
  rw [if_neg h17, if_neg h17]
  by_cases h18 : k < 19
  · rw [if_pos h18, if_pos h18]; exact u_M_piped (by omega)
  rw [if_neg h18, if_neg h18]
  by_cases h19 : k < 20
  · rw [if_pos h19, if_pos h19]; exact u_M_pipe (by omega)
  rw [if_neg h19, if_neg h19]
  by_cases h20 : k < 21
  · exact absurd (show k = 20 by omega) hk
  rw [if_neg h20, if_neg h20]
  by_cases h21 : k < 22
  · rw [if_pos h21, if_pos h21]; exact u_M_queue (by omega)
  rw [if_neg h21, if_neg h21]
  by_cases h22 : k < 23
  · rw [if_pos h22, if_pos h22]; exact u_M_screen (by omega)
  rw [if_neg h22, if_neg h22]
theorem h2_M_queue {ad : Nat → Nat} {cs : Nat → ClassId} {σ : q_St} {j : Nat} {x : Int32} : ∀ k, k ≠ 21 → cM ad cs (q_up σ 20 j x) k = cM ad cs σ k := by
  intro k hk
  unfold cM
  by_cases h0 : k < 1
  · rw [if_pos h0, if_pos h0]; exact u_M_Mo (Or.inl (by decide))
  rw [if_neg h0, if_neg h0]
  by_cases h1 : k < 2
  · rw [if_pos h1, if_pos h1]; exact u_M_ops (by omega)
  rw [if_neg h1, if_neg h1]
  by_cases h2 : k < 3
  · rw [if_pos h2, if_pos h2]; exact u_M_numbers (by omega)
  rw [if_neg h2, if_neg h2]
  by_cases h3 : k < 4
  · rw [if_pos h3, if_pos h3]; exact u_M_state (by omega)
  rw [if_neg h3, if_neg h3]
  by_cases h4 : k < 5
  · rw [if_pos h4, if_pos h4]; exact u_M_jobOf (by omega)
  rw [if_neg h4, if_neg h4]
  by_cases h5 : k < 6
  · rw [if_pos h5, if_pos h5]; exact u_M_programOf (by omega)
  rw [if_neg h5, if_neg h5]
  by_cases h6 : k < 7
  · rw [if_pos h6, if_pos h6]; exact u_M_line (by omega)
  rw [if_neg h6, if_neg h6]
  by_cases h7 : k < 8
  · rw [if_pos h7, if_pos h7]; exact u_M_register (by omega)
  rw [if_neg h7, if_neg h7]
  by_cases h8 : k < 9
  · rw [if_pos h8, if_pos h8]; exact u_M_ends (by omega)
  rw [if_neg h8, if_neg h8]
  by_cases h9 : k < 10
  · rw [if_pos h9, if_pos h9]; exact u_M_pending (by omega)
  rw [if_neg h9, if_neg h9]
  by_cases h10 : k < 11
  · rw [if_pos h10, if_pos h10]; exact u_M_blocked (by omega)
  rw [if_neg h10, if_neg h10]
  by_cases h11 : k < 12
  · rw [if_pos h11, if_pos h11]; exact u_M_ignored (by omega)
  rw [if_neg h11, if_neg h11]
  by_cases h12 : k < 13
  · rw [if_pos h12, if_pos h12]; exact u_M_nap (by omega)
  rw [if_neg h12, if_neg h12]
  by_cases h13 : k < 14
  · rw [if_pos h13, if_pos h13]; exact u_M_there (by omega)
  rw [if_neg h13, if_neg h13]
  by_cases h14 : k < 15
  · rw [if_pos h14, if_pos h14]; exact u_M_first (by omega)
  rw [if_neg h14, if_neg h14]
  by_cases h15 : k < 16
  · rw [if_pos h15, if_pos h15]; exact u_M_second (by omega)
  rw [if_neg h15, if_neg h15]
  by_cases h16 : k < 17
  · rw [if_pos h16, if_pos h16]; exact u_M_was (by omega)
  rw [if_neg h16, if_neg h16]
  by_cases h17 : k < 18
  · rw [if_pos h17, if_pos h17]; exact u_M_untold (by omega)
  rw [if_neg h17, if_neg h17]
  by_cases h18 : k < 19
  · rw [if_pos h18, if_pos h18]; exact u_M_piped (by omega)
  rw [if_neg h18, if_neg h18]
  by_cases h19 : k < 20
  · rw [if_pos h19, if_pos h19]; exact u_M_pipe (by omega)
  rw [if_neg h19, if_neg h19]
  by_cases h20 : k < 21
  · rw [if_pos h20, if_pos h20]; exact u_M_edit (by omega)
  rw [if_neg h20, if_neg h20]
  by_cases h21 : k < 22
  · exact absurd (show k = 21 by omega) hk
  rw [if_neg h21, if_neg h21]
  by_cases h22 : k < 23
  · rw [if_pos h22, if_pos h22]; exact u_M_screen (by omega)
  rw [if_neg h22, if_neg h22]
theorem h2_M_screen {ad : Nat → Nat} {cs : Nat → ClassId} {σ : q_St} {j : Nat} {x : Int32} : ∀ k, k ≠ 22 → cM ad cs (q_up σ 21 j x) k = cM ad cs σ k := by
  intro k hk
  unfold cM
  by_cases h0 : k < 1
  · rw [if_pos h0, if_pos h0]; exact u_M_Mo (Or.inl (by decide))
  rw [if_neg h0, if_neg h0]
  by_cases h1 : k < 2
  · rw [if_pos h1, if_pos h1]; exact u_M_ops (by omega)
  rw [if_neg h1, if_neg h1]
  by_cases h2 : k < 3
  · rw [if_pos h2, if_pos h2]; exact u_M_numbers (by omega)
  rw [if_neg h2, if_neg h2]
  by_cases h3 : k < 4
  · rw [if_pos h3, if_pos h3]; exact u_M_state (by omega)
  rw [if_neg h3, if_neg h3]
  by_cases h4 : k < 5
  · rw [if_pos h4, if_pos h4]; exact u_M_jobOf (by omega)
  rw [if_neg h4, if_neg h4]
  by_cases h5 : k < 6
  · rw [if_pos h5, if_pos h5]; exact u_M_programOf (by omega)
  rw [if_neg h5, if_neg h5]
  by_cases h6 : k < 7
  · rw [if_pos h6, if_pos h6]; exact u_M_line (by omega)
  rw [if_neg h6, if_neg h6]
  by_cases h7 : k < 8
  · rw [if_pos h7, if_pos h7]; exact u_M_register (by omega)
  rw [if_neg h7, if_neg h7]
  by_cases h8 : k < 9
  · rw [if_pos h8, if_pos h8]; exact u_M_ends (by omega)
  rw [if_neg h8, if_neg h8]
  by_cases h9 : k < 10
  · rw [if_pos h9, if_pos h9]; exact u_M_pending (by omega)
  rw [if_neg h9, if_neg h9]
  by_cases h10 : k < 11
  · rw [if_pos h10, if_pos h10]; exact u_M_blocked (by omega)
  rw [if_neg h10, if_neg h10]
  by_cases h11 : k < 12
  · rw [if_pos h11, if_pos h11]; exact u_M_ignored (by omega)
  rw [if_neg h11, if_neg h11]
  by_cases h12 : k < 13
  · rw [if_pos h12, if_pos h12]; exact u_M_nap (by omega)
  rw [if_neg h12, if_neg h12]
  by_cases h13 : k < 14
  · rw [if_pos h13, if_pos h13]; exact u_M_there (by omega)
  rw [if_neg h13, if_neg h13]
  by_cases h14 : k < 15
  · rw [if_pos h14, if_pos h14]; exact u_M_first (by omega)
  rw [if_neg h14, if_neg h14]
  by_cases h15 : k < 16
  · rw [if_pos h15, if_pos h15]; exact u_M_second (by omega)
  rw [if_neg h15, if_neg h15]
  by_cases h16 : k < 17
  · rw [if_pos h16, if_pos h16]; exact u_M_was (by omega)
  rw [if_neg h16, if_neg h16]
  by_cases h17 : k < 18
  · rw [if_pos h17, if_pos h17]; exact u_M_untold (by omega)
  rw [if_neg h17, if_neg h17]
  by_cases h18 : k < 19
  · rw [if_pos h18, if_pos h18]; exact u_M_piped (by omega)
  rw [if_neg h18, if_neg h18]
  by_cases h19 : k < 20
  · rw [if_pos h19, if_pos h19]; exact u_M_pipe (by omega)
  rw [if_neg h19, if_neg h19]
  by_cases h20 : k < 21
  · rw [if_pos h20, if_pos h20]; exact u_M_edit (by omega)
  rw [if_neg h20, if_neg h20]
  by_cases h21 : k < 22
  · rw [if_pos h21, if_pos h21]; exact u_M_queue (by omega)
  rw [if_neg h21, if_neg h21]
  by_cases h22 : k < 23
  · exact absurd (show k = 22 by omega) hk
  rw [if_neg h22, if_neg h22]
section ROWSM
variable {p : Program} {l : Launch} {e : Env} {R : Room} {s : State} {m : MethodId} {args : Array Value} {below : List Frame} {meth : Method} {c : Code} {H H0 : Heap} {locs : List Loc} {cells slots : Nat} {Q : State → Prop}
variable {cc : ByteArray} {pc : Nat} {ls : Array Slot} {rest : List Value} {D : va_G} {A : Nat → Prop} {ad : Nat → Nat} {cs : Nat → ClassId} {σ : q_St}
theorem G_Mo_Mo_blocked (hx : p.tables.exec = Jvm.exec) (hb : c.code = cc) (htg : ∀ w ∈ GW, w.before args s = true) (hown : s.vm.findClass R_Mo = some m.cls) (hK : va_K D vwCl (tyL cs) s) (hN : ∀ w ∈ NW, va_Nw w s) (I : q_I D vwCl A H0 (q_ws 23 ad (cM ad cs σ)) H locs) (hdg : decode cc pc = .ok (.getfield 37, 3)) (kk : W p l e R s m args below meth c H locs cells slots Q (F0 m (pc + 3) ls (.ref (ad 10) :: rest))) : W p l e R s m args below meth c H locs cells slots Q (F0 m pc ls (.ref (ad 0) :: rest)) :=
  q_get (own := "JobTerminalModel") (C := R_Mo) (T := F_Mo) (N := 31) (ci := 7) hx hb htg i_Mo hown hK I 0 (by decide) a_M_Mo rfl 9 (by decide) (htg _ mw474) rfl hdg kk
theorem G_Mo_Mo_code (hx : p.tables.exec = Jvm.exec) (hb : c.code = cc) (htg : ∀ w ∈ GW, w.before args s = true) (hown : s.vm.findClass R_Mo = some m.cls) (hK : va_K D vwCl (tyL cs) s) (hN : ∀ w ∈ NW, va_Nw w s) (I : q_I D vwCl A H0 (q_ws 23 ad (cM ad cs σ)) H locs) (hdg : decode cc pc = .ok (.getfield 84, 3)) (kk : W p l e R s m args below meth c H locs cells slots Q (F0 m (pc + 3) ls (.int (σ 48 0) :: rest))) : W p l e R s m args below meth c H locs cells slots Q (F0 m pc ls (.ref (ad 0) :: rest)) :=
  q_get (own := "JobTerminalModel") (C := R_Mo) (T := F_Mo) (N := 31) (ci := 7) hx hb htg i_Mo hown hK I 0 (by decide) a_M_Mo rfl 30 (by decide) (htg _ mw475) rfl hdg kk
theorem G_Mo_Mo_edit (hx : p.tables.exec = Jvm.exec) (hb : c.code = cc) (htg : ∀ w ∈ GW, w.before args s = true) (hown : s.vm.findClass R_Mo = some m.cls) (hK : va_K D vwCl (tyL cs) s) (hN : ∀ w ∈ NW, va_Nw w s) (I : q_I D vwCl A H0 (q_ws 23 ad (cM ad cs σ)) H locs) (hdg : decode cc pc = .ok (.getfield 75, 3)) (kk : W p l e R s m args below meth c H locs cells slots Q (F0 m (pc + 3) ls (.ref (ad 20) :: rest))) : W p l e R s m args below meth c H locs cells slots Q (F0 m pc ls (.ref (ad 0) :: rest)) :=
  q_get (own := "JobTerminalModel") (C := R_Mo) (T := F_Mo) (N := 31) (ci := 7) hx hb htg i_Mo hown hK I 0 (by decide) a_M_Mo rfl 24 (by decide) (htg _ mw476) rfl hdg kk
theorem G_Mo_Mo_edited (hx : p.tables.exec = Jvm.exec) (hb : c.code = cc) (htg : ∀ w ∈ GW, w.before args s = true) (hown : s.vm.findClass R_Mo = some m.cls) (hK : va_K D vwCl (tyL cs) s) (hN : ∀ w ∈ NW, va_Nw w s) (I : q_I D vwCl A H0 (q_ws 23 ad (cM ad cs σ)) H locs) (hdg : decode cc pc = .ok (.getfield 119, 3)) (kk : W p l e R s m args below meth c H locs cells slots Q (F0 m (pc + 3) ls (.int (σ 44 0) :: rest))) : W p l e R s m args below meth c H locs cells slots Q (F0 m pc ls (.ref (ad 0) :: rest)) :=
  q_get (own := "JobTerminalModel") (C := R_Mo) (T := F_Mo) (N := 31) (ci := 7) hx hb htg i_Mo hown hK I 0 (by decide) a_M_Mo rfl 23 (by decide) (htg _ mw477) rfl hdg kk
theorem G_Mo_Mo_ends (hx : p.tables.exec = Jvm.exec) (hb : c.code = cc) (htg : ∀ w ∈ GW, w.before args s = true) (hown : s.vm.findClass R_Mo = some m.cls) (hK : va_K D vwCl (tyL cs) s) (hN : ∀ w ∈ NW, va_Nw w s) (I : q_I D vwCl A H0 (q_ws 23 ad (cM ad cs σ)) H locs) (hdg : decode cc pc = .ok (.getfield 31, 3)) (kk : W p l e R s m args below meth c H locs cells slots Q (F0 m (pc + 3) ls (.ref (ad 8) :: rest))) : W p l e R s m args below meth c H locs cells slots Q (F0 m pc ls (.ref (ad 0) :: rest)) :=
  q_get (own := "JobTerminalModel") (C := R_Mo) (T := F_Mo) (N := 31) (ci := 7) hx hb htg i_Mo hown hK I 0 (by decide) a_M_Mo rfl 7 (by decide) (htg _ mw478) rfl hdg kk
theorem G_Mo_Mo_failed (hx : p.tables.exec = Jvm.exec) (hb : c.code = cc) (htg : ∀ w ∈ GW, w.before args s = true) (hown : s.vm.findClass R_Mo = some m.cls) (hK : va_K D vwCl (tyL cs) s) (hN : ∀ w ∈ NW, va_Nw w s) (I : q_I D vwCl A H0 (q_ws 23 ad (cM ad cs σ)) H locs) (hdg : decode cc pc = .ok (.getfield 169, 3)) (kk : W p l e R s m args below meth c H locs cells slots Q (F0 m (pc + 3) ls (.int (σ 47 0) :: rest))) : W p l e R s m args below meth c H locs cells slots Q (F0 m pc ls (.ref (ad 0) :: rest)) :=
  q_get (own := "JobTerminalModel") (C := R_Mo) (T := F_Mo) (N := 31) (ci := 7) hx hb htg i_Mo hown hK I 0 (by decide) a_M_Mo rfl 29 (by decide) (htg _ mw479) rfl hdg kk
theorem G_Mo_Mo_first (hx : p.tables.exec = Jvm.exec) (hb : c.code = cc) (htg : ∀ w ∈ GW, w.before args s = true) (hown : s.vm.findClass R_Mo = some m.cls) (hK : va_K D vwCl (tyL cs) s) (hN : ∀ w ∈ NW, va_Nw w s) (I : q_I D vwCl A H0 (q_ws 23 ad (cM ad cs σ)) H locs) (hdg : decode cc pc = .ok (.getfield 50, 3)) (kk : W p l e R s m args below meth c H locs cells slots Q (F0 m (pc + 3) ls (.ref (ad 14) :: rest))) : W p l e R s m args below meth c H locs cells slots Q (F0 m pc ls (.ref (ad 0) :: rest)) :=
  q_get (own := "JobTerminalModel") (C := R_Mo) (T := F_Mo) (N := 31) (ci := 7) hx hb htg i_Mo hown hK I 0 (by decide) a_M_Mo rfl 14 (by decide) (htg _ mw480) rfl hdg kk
theorem G_Mo_Mo_flag (hx : p.tables.exec = Jvm.exec) (hb : c.code = cc) (htg : ∀ w ∈ GW, w.before args s = true) (hown : s.vm.findClass R_Mo = some m.cls) (hK : va_K D vwCl (tyL cs) s) (hN : ∀ w ∈ NW, va_Nw w s) (I : q_I D vwCl A H0 (q_ws 23 ad (cM ad cs σ)) H locs) (hdg : decode cc pc = .ok (.getfield 72, 3)) (kk : W p l e R s m args below meth c H locs cells slots Q (F0 m (pc + 3) ls (.int (σ 42 0) :: rest))) : W p l e R s m args below meth c H locs cells slots Q (F0 m pc ls (.ref (ad 0) :: rest)) :=
  q_get (own := "JobTerminalModel") (C := R_Mo) (T := F_Mo) (N := 31) (ci := 7) hx hb htg i_Mo hown hK I 0 (by decide) a_M_Mo rfl 21 (by decide) (htg _ mw481) rfl hdg kk
theorem G_Mo_Mo_front (hx : p.tables.exec = Jvm.exec) (hb : c.code = cc) (htg : ∀ w ∈ GW, w.before args s = true) (hown : s.vm.findClass R_Mo = some m.cls) (hK : va_K D vwCl (tyL cs) s) (hN : ∀ w ∈ NW, va_Nw w s) (I : q_I D vwCl A H0 (q_ws 23 ad (cM ad cs σ)) H locs) (hdg : decode cc pc = .ok (.getfield 68, 3)) (kk : W p l e R s m args below meth c H locs cells slots Q (F0 m (pc + 3) ls (.int (σ 41 0) :: rest))) : W p l e R s m args below meth c H locs cells slots Q (F0 m pc ls (.ref (ad 0) :: rest)) :=
  q_get (own := "JobTerminalModel") (C := R_Mo) (T := F_Mo) (N := 31) (ci := 7) hx hb htg i_Mo hown hK I 0 (by decide) a_M_Mo rfl 20 (by decide) (htg _ mw482) rfl hdg kk
theorem G_Mo_Mo_hung (hx : p.tables.exec = Jvm.exec) (hb : c.code = cc) (htg : ∀ w ∈ GW, w.before args s = true) (hown : s.vm.findClass R_Mo = some m.cls) (hK : va_K D vwCl (tyL cs) s) (hN : ∀ w ∈ NW, va_Nw w s) (I : q_I D vwCl A H0 (q_ws 23 ad (cM ad cs σ)) H locs) (hdg : decode cc pc = .ok (.getfield 153, 3)) (kk : W p l e R s m args below meth c H locs cells slots Q (F0 m (pc + 3) ls (.int (σ 43 0) :: rest))) : W p l e R s m args below meth c H locs cells slots Q (F0 m pc ls (.ref (ad 0) :: rest)) :=
  q_get (own := "JobTerminalModel") (C := R_Mo) (T := F_Mo) (N := 31) (ci := 7) hx hb htg i_Mo hown hK I 0 (by decide) a_M_Mo rfl 22 (by decide) (htg _ mw483) rfl hdg kk
theorem G_Mo_Mo_ignored (hx : p.tables.exec = Jvm.exec) (hb : c.code = cc) (htg : ∀ w ∈ GW, w.before args s = true) (hown : s.vm.findClass R_Mo = some m.cls) (hK : va_K D vwCl (tyL cs) s) (hN : ∀ w ∈ NW, va_Nw w s) (I : q_I D vwCl A H0 (q_ws 23 ad (cM ad cs σ)) H locs) (hdg : decode cc pc = .ok (.getfield 40, 3)) (kk : W p l e R s m args below meth c H locs cells slots Q (F0 m (pc + 3) ls (.ref (ad 11) :: rest))) : W p l e R s m args below meth c H locs cells slots Q (F0 m pc ls (.ref (ad 0) :: rest)) :=
  q_get (own := "JobTerminalModel") (C := R_Mo) (T := F_Mo) (N := 31) (ci := 7) hx hb htg i_Mo hown hK I 0 (by decide) a_M_Mo rfl 10 (by decide) (htg _ mw484) rfl hdg kk
theorem G_Mo_Mo_jobOf (hx : p.tables.exec = Jvm.exec) (hb : c.code = cc) (htg : ∀ w ∈ GW, w.before args s = true) (hown : s.vm.findClass R_Mo = some m.cls) (hK : va_K D vwCl (tyL cs) s) (hN : ∀ w ∈ NW, va_Nw w s) (I : q_I D vwCl A H0 (q_ws 23 ad (cM ad cs σ)) H locs) (hdg : decode cc pc = .ok (.getfield 19, 3)) (kk : W p l e R s m args below meth c H locs cells slots Q (F0 m (pc + 3) ls (.ref (ad 4) :: rest))) : W p l e R s m args below meth c H locs cells slots Q (F0 m pc ls (.ref (ad 0) :: rest)) :=
  q_get (own := "JobTerminalModel") (C := R_Mo) (T := F_Mo) (N := 31) (ci := 7) hx hb htg i_Mo hown hK I 0 (by decide) a_M_Mo rfl 3 (by decide) (htg _ mw485) rfl hdg kk
theorem G_Mo_Mo_line (hx : p.tables.exec = Jvm.exec) (hb : c.code = cc) (htg : ∀ w ∈ GW, w.before args s = true) (hown : s.vm.findClass R_Mo = some m.cls) (hK : va_K D vwCl (tyL cs) s) (hN : ∀ w ∈ NW, va_Nw w s) (I : q_I D vwCl A H0 (q_ws 23 ad (cM ad cs σ)) H locs) (hdg : decode cc pc = .ok (.getfield 25, 3)) (kk : W p l e R s m args below meth c H locs cells slots Q (F0 m (pc + 3) ls (.ref (ad 6) :: rest))) : W p l e R s m args below meth c H locs cells slots Q (F0 m pc ls (.ref (ad 0) :: rest)) :=
  q_get (own := "JobTerminalModel") (C := R_Mo) (T := F_Mo) (N := 31) (ci := 7) hx hb htg i_Mo hown hK I 0 (by decide) a_M_Mo rfl 5 (by decide) (htg _ mw486) rfl hdg kk
theorem G_Mo_Mo_nap (hx : p.tables.exec = Jvm.exec) (hb : c.code = cc) (htg : ∀ w ∈ GW, w.before args s = true) (hown : s.vm.findClass R_Mo = some m.cls) (hK : va_K D vwCl (tyL cs) s) (hN : ∀ w ∈ NW, va_Nw w s) (I : q_I D vwCl A H0 (q_ws 23 ad (cM ad cs σ)) H locs) (hdg : decode cc pc = .ok (.getfield 43, 3)) (kk : W p l e R s m args below meth c H locs cells slots Q (F0 m (pc + 3) ls (.ref (ad 12) :: rest))) : W p l e R s m args below meth c H locs cells slots Q (F0 m pc ls (.ref (ad 0) :: rest)) :=
  q_get (own := "JobTerminalModel") (C := R_Mo) (T := F_Mo) (N := 31) (ci := 7) hx hb htg i_Mo hown hK I 0 (by decide) a_M_Mo rfl 11 (by decide) (htg _ mw487) rfl hdg kk
theorem G_Mo_Mo_numbers (hx : p.tables.exec = Jvm.exec) (hb : c.code = cc) (htg : ∀ w ∈ GW, w.before args s = true) (hown : s.vm.findClass R_Mo = some m.cls) (hK : va_K D vwCl (tyL cs) s) (hN : ∀ w ∈ NW, va_Nw w s) (I : q_I D vwCl A H0 (q_ws 23 ad (cM ad cs σ)) H locs) (hdg : decode cc pc = .ok (.getfield 13, 3)) (kk : W p l e R s m args below meth c H locs cells slots Q (F0 m (pc + 3) ls (.ref (ad 2) :: rest))) : W p l e R s m args below meth c H locs cells slots Q (F0 m pc ls (.ref (ad 0) :: rest)) :=
  q_get (own := "JobTerminalModel") (C := R_Mo) (T := F_Mo) (N := 31) (ci := 7) hx hb htg i_Mo hown hK I 0 (by decide) a_M_Mo rfl 1 (by decide) (htg _ mw488) rfl hdg kk
theorem G_Mo_Mo_ops (hx : p.tables.exec = Jvm.exec) (hb : c.code = cc) (htg : ∀ w ∈ GW, w.before args s = true) (hown : s.vm.findClass R_Mo = some m.cls) (hK : va_K D vwCl (tyL cs) s) (hN : ∀ w ∈ NW, va_Nw w s) (I : q_I D vwCl A H0 (q_ws 23 ad (cM ad cs σ)) H locs) (hdg : decode cc pc = .ok (.getfield 7, 3)) (kk : W p l e R s m args below meth c H locs cells slots Q (F0 m (pc + 3) ls (.ref (ad 1) :: rest))) : W p l e R s m args below meth c H locs cells slots Q (F0 m pc ls (.ref (ad 0) :: rest)) :=
  q_get (own := "JobTerminalModel") (C := R_Mo) (T := F_Mo) (N := 31) (ci := 7) hx hb htg i_Mo hown hK I 0 (by decide) a_M_Mo rfl 0 (by decide) (htg _ mw489) rfl hdg kk
theorem G_Mo_Mo_pending (hx : p.tables.exec = Jvm.exec) (hb : c.code = cc) (htg : ∀ w ∈ GW, w.before args s = true) (hown : s.vm.findClass R_Mo = some m.cls) (hK : va_K D vwCl (tyL cs) s) (hN : ∀ w ∈ NW, va_Nw w s) (I : q_I D vwCl A H0 (q_ws 23 ad (cM ad cs σ)) H locs) (hdg : decode cc pc = .ok (.getfield 34, 3)) (kk : W p l e R s m args below meth c H locs cells slots Q (F0 m (pc + 3) ls (.ref (ad 9) :: rest))) : W p l e R s m args below meth c H locs cells slots Q (F0 m pc ls (.ref (ad 0) :: rest)) :=
  q_get (own := "JobTerminalModel") (C := R_Mo) (T := F_Mo) (N := 31) (ci := 7) hx hb htg i_Mo hown hK I 0 (by decide) a_M_Mo rfl 8 (by decide) (htg _ mw490) rfl hdg kk
theorem G_Mo_Mo_pipe (hx : p.tables.exec = Jvm.exec) (hb : c.code = cc) (htg : ∀ w ∈ GW, w.before args s = true) (hown : s.vm.findClass R_Mo = some m.cls) (hK : va_K D vwCl (tyL cs) s) (hN : ∀ w ∈ NW, va_Nw w s) (I : q_I D vwCl A H0 (q_ws 23 ad (cM ad cs σ)) H locs) (hdg : decode cc pc = .ok (.getfield 65, 3)) (kk : W p l e R s m args below meth c H locs cells slots Q (F0 m (pc + 3) ls (.ref (ad 19) :: rest))) : W p l e R s m args below meth c H locs cells slots Q (F0 m pc ls (.ref (ad 0) :: rest)) :=
  q_get (own := "JobTerminalModel") (C := R_Mo) (T := F_Mo) (N := 31) (ci := 7) hx hb htg i_Mo hown hK I 0 (by decide) a_M_Mo rfl 19 (by decide) (htg _ mw491) rfl hdg kk
theorem G_Mo_Mo_piped (hx : p.tables.exec = Jvm.exec) (hb : c.code = cc) (htg : ∀ w ∈ GW, w.before args s = true) (hown : s.vm.findClass R_Mo = some m.cls) (hK : va_K D vwCl (tyL cs) s) (hN : ∀ w ∈ NW, va_Nw w s) (I : q_I D vwCl A H0 (q_ws 23 ad (cM ad cs σ)) H locs) (hdg : decode cc pc = .ok (.getfield 62, 3)) (kk : W p l e R s m args below meth c H locs cells slots Q (F0 m (pc + 3) ls (.ref (ad 18) :: rest))) : W p l e R s m args below meth c H locs cells slots Q (F0 m pc ls (.ref (ad 0) :: rest)) :=
  q_get (own := "JobTerminalModel") (C := R_Mo) (T := F_Mo) (N := 31) (ci := 7) hx hb htg i_Mo hown hK I 0 (by decide) a_M_Mo rfl 18 (by decide) (htg _ mw492) rfl hdg kk
theorem G_Mo_Mo_programOf (hx : p.tables.exec = Jvm.exec) (hb : c.code = cc) (htg : ∀ w ∈ GW, w.before args s = true) (hown : s.vm.findClass R_Mo = some m.cls) (hK : va_K D vwCl (tyL cs) s) (hN : ∀ w ∈ NW, va_Nw w s) (I : q_I D vwCl A H0 (q_ws 23 ad (cM ad cs σ)) H locs) (hdg : decode cc pc = .ok (.getfield 22, 3)) (kk : W p l e R s m args below meth c H locs cells slots Q (F0 m (pc + 3) ls (.ref (ad 5) :: rest))) : W p l e R s m args below meth c H locs cells slots Q (F0 m pc ls (.ref (ad 0) :: rest)) :=
  q_get (own := "JobTerminalModel") (C := R_Mo) (T := F_Mo) (N := 31) (ci := 7) hx hb htg i_Mo hown hK I 0 (by decide) a_M_Mo rfl 4 (by decide) (htg _ mw493) rfl hdg kk
theorem G_Mo_Mo_queue (hx : p.tables.exec = Jvm.exec) (hb : c.code = cc) (htg : ∀ w ∈ GW, w.before args s = true) (hown : s.vm.findClass R_Mo = some m.cls) (hK : va_K D vwCl (tyL cs) s) (hN : ∀ w ∈ NW, va_Nw w s) (I : q_I D vwCl A H0 (q_ws 23 ad (cM ad cs σ)) H locs) (hdg : decode cc pc = .ok (.getfield 78, 3)) (kk : W p l e R s m args below meth c H locs cells slots Q (F0 m (pc + 3) ls (.ref (ad 21) :: rest))) : W p l e R s m args below meth c H locs cells slots Q (F0 m pc ls (.ref (ad 0) :: rest)) :=
  q_get (own := "JobTerminalModel") (C := R_Mo) (T := F_Mo) (N := 31) (ci := 7) hx hb htg i_Mo hown hK I 0 (by decide) a_M_Mo rfl 26 (by decide) (htg _ mw494) rfl hdg kk
theorem G_Mo_Mo_queued (hx : p.tables.exec = Jvm.exec) (hb : c.code = cc) (htg : ∀ w ∈ GW, w.before args s = true) (hown : s.vm.findClass R_Mo = some m.cls) (hK : va_K D vwCl (tyL cs) s) (hN : ∀ w ∈ NW, va_Nw w s) (I : q_I D vwCl A H0 (q_ws 23 ad (cM ad cs σ)) H locs) (hdg : decode cc pc = .ok (.getfield 122, 3)) (kk : W p l e R s m args below meth c H locs cells slots Q (F0 m (pc + 3) ls (.int (σ 45 0) :: rest))) : W p l e R s m args below meth c H locs cells slots Q (F0 m pc ls (.ref (ad 0) :: rest)) :=
  q_get (own := "JobTerminalModel") (C := R_Mo) (T := F_Mo) (N := 31) (ci := 7) hx hb htg i_Mo hown hK I 0 (by decide) a_M_Mo rfl 25 (by decide) (htg _ mw495) rfl hdg kk
theorem G_Mo_Mo_register (hx : p.tables.exec = Jvm.exec) (hb : c.code = cc) (htg : ∀ w ∈ GW, w.before args s = true) (hown : s.vm.findClass R_Mo = some m.cls) (hK : va_K D vwCl (tyL cs) s) (hN : ∀ w ∈ NW, va_Nw w s) (I : q_I D vwCl A H0 (q_ws 23 ad (cM ad cs σ)) H locs) (hdg : decode cc pc = .ok (.getfield 28, 3)) (kk : W p l e R s m args below meth c H locs cells slots Q (F0 m (pc + 3) ls (.ref (ad 7) :: rest))) : W p l e R s m args below meth c H locs cells slots Q (F0 m pc ls (.ref (ad 0) :: rest)) :=
  q_get (own := "JobTerminalModel") (C := R_Mo) (T := F_Mo) (N := 31) (ci := 7) hx hb htg i_Mo hown hK I 0 (by decide) a_M_Mo rfl 6 (by decide) (htg _ mw496) rfl hdg kk
theorem G_Mo_Mo_screen (hx : p.tables.exec = Jvm.exec) (hb : c.code = cc) (htg : ∀ w ∈ GW, w.before args s = true) (hown : s.vm.findClass R_Mo = some m.cls) (hK : va_K D vwCl (tyL cs) s) (hN : ∀ w ∈ NW, va_Nw w s) (I : q_I D vwCl A H0 (q_ws 23 ad (cM ad cs σ)) H locs) (hdg : decode cc pc = .ok (.getfield 81, 3)) (kk : W p l e R s m args below meth c H locs cells slots Q (F0 m (pc + 3) ls (.ref (ad 22) :: rest))) : W p l e R s m args below meth c H locs cells slots Q (F0 m pc ls (.ref (ad 0) :: rest)) :=
  q_get (own := "JobTerminalModel") (C := R_Mo) (T := F_Mo) (N := 31) (ci := 7) hx hb htg i_Mo hown hK I 0 (by decide) a_M_Mo rfl 28 (by decide) (htg _ mw497) rfl hdg kk
theorem G_Mo_Mo_second (hx : p.tables.exec = Jvm.exec) (hb : c.code = cc) (htg : ∀ w ∈ GW, w.before args s = true) (hown : s.vm.findClass R_Mo = some m.cls) (hK : va_K D vwCl (tyL cs) s) (hN : ∀ w ∈ NW, va_Nw w s) (I : q_I D vwCl A H0 (q_ws 23 ad (cM ad cs σ)) H locs) (hdg : decode cc pc = .ok (.getfield 53, 3)) (kk : W p l e R s m args below meth c H locs cells slots Q (F0 m (pc + 3) ls (.ref (ad 15) :: rest))) : W p l e R s m args below meth c H locs cells slots Q (F0 m pc ls (.ref (ad 0) :: rest)) :=
  q_get (own := "JobTerminalModel") (C := R_Mo) (T := F_Mo) (N := 31) (ci := 7) hx hb htg i_Mo hown hK I 0 (by decide) a_M_Mo rfl 15 (by decide) (htg _ mw498) rfl hdg kk
theorem G_Mo_Mo_shows (hx : p.tables.exec = Jvm.exec) (hb : c.code = cc) (htg : ∀ w ∈ GW, w.before args s = true) (hown : s.vm.findClass R_Mo = some m.cls) (hK : va_K D vwCl (tyL cs) s) (hN : ∀ w ∈ NW, va_Nw w s) (I : q_I D vwCl A H0 (q_ws 23 ad (cM ad cs σ)) H locs) (hdg : decode cc pc = .ok (.getfield 106, 3)) (kk : W p l e R s m args below meth c H locs cells slots Q (F0 m (pc + 3) ls (.int (σ 46 0) :: rest))) : W p l e R s m args below meth c H locs cells slots Q (F0 m pc ls (.ref (ad 0) :: rest)) :=
  q_get (own := "JobTerminalModel") (C := R_Mo) (T := F_Mo) (N := 31) (ci := 7) hx hb htg i_Mo hown hK I 0 (by decide) a_M_Mo rfl 27 (by decide) (htg _ mw499) rfl hdg kk
theorem G_Mo_Mo_state (hx : p.tables.exec = Jvm.exec) (hb : c.code = cc) (htg : ∀ w ∈ GW, w.before args s = true) (hown : s.vm.findClass R_Mo = some m.cls) (hK : va_K D vwCl (tyL cs) s) (hN : ∀ w ∈ NW, va_Nw w s) (I : q_I D vwCl A H0 (q_ws 23 ad (cM ad cs σ)) H locs) (hdg : decode cc pc = .ok (.getfield 16, 3)) (kk : W p l e R s m args below meth c H locs cells slots Q (F0 m (pc + 3) ls (.ref (ad 3) :: rest))) : W p l e R s m args below meth c H locs cells slots Q (F0 m pc ls (.ref (ad 0) :: rest)) :=
  q_get (own := "JobTerminalModel") (C := R_Mo) (T := F_Mo) (N := 31) (ci := 7) hx hb htg i_Mo hown hK I 0 (by decide) a_M_Mo rfl 2 (by decide) (htg _ mw500) rfl hdg kk
theorem G_Mo_Mo_there (hx : p.tables.exec = Jvm.exec) (hb : c.code = cc) (htg : ∀ w ∈ GW, w.before args s = true) (hown : s.vm.findClass R_Mo = some m.cls) (hK : va_K D vwCl (tyL cs) s) (hN : ∀ w ∈ NW, va_Nw w s) (I : q_I D vwCl A H0 (q_ws 23 ad (cM ad cs σ)) H locs) (hdg : decode cc pc = .ok (.getfield 46, 3)) (kk : W p l e R s m args below meth c H locs cells slots Q (F0 m (pc + 3) ls (.ref (ad 13) :: rest))) : W p l e R s m args below meth c H locs cells slots Q (F0 m pc ls (.ref (ad 0) :: rest)) :=
  q_get (own := "JobTerminalModel") (C := R_Mo) (T := F_Mo) (N := 31) (ci := 7) hx hb htg i_Mo hown hK I 0 (by decide) a_M_Mo rfl 13 (by decide) (htg _ mw501) rfl hdg kk
theorem G_Mo_Mo_turn (hx : p.tables.exec = Jvm.exec) (hb : c.code = cc) (htg : ∀ w ∈ GW, w.before args s = true) (hown : s.vm.findClass R_Mo = some m.cls) (hK : va_K D vwCl (tyL cs) s) (hN : ∀ w ∈ NW, va_Nw w s) (I : q_I D vwCl A H0 (q_ws 23 ad (cM ad cs σ)) H locs) (hdg : decode cc pc = .ok (.getfield 188, 3)) (kk : W p l e R s m args below meth c H locs cells slots Q (F0 m (pc + 3) ls (.int (σ 40 0) :: rest))) : W p l e R s m args below meth c H locs cells slots Q (F0 m pc ls (.ref (ad 0) :: rest)) :=
  q_get (own := "JobTerminalModel") (C := R_Mo) (T := F_Mo) (N := 31) (ci := 7) hx hb htg i_Mo hown hK I 0 (by decide) a_M_Mo rfl 12 (by decide) (htg _ mw502) rfl hdg kk
theorem G_Mo_Mo_untold (hx : p.tables.exec = Jvm.exec) (hb : c.code = cc) (htg : ∀ w ∈ GW, w.before args s = true) (hown : s.vm.findClass R_Mo = some m.cls) (hK : va_K D vwCl (tyL cs) s) (hN : ∀ w ∈ NW, va_Nw w s) (I : q_I D vwCl A H0 (q_ws 23 ad (cM ad cs σ)) H locs) (hdg : decode cc pc = .ok (.getfield 59, 3)) (kk : W p l e R s m args below meth c H locs cells slots Q (F0 m (pc + 3) ls (.ref (ad 17) :: rest))) : W p l e R s m args below meth c H locs cells slots Q (F0 m pc ls (.ref (ad 0) :: rest)) :=
  q_get (own := "JobTerminalModel") (C := R_Mo) (T := F_Mo) (N := 31) (ci := 7) hx hb htg i_Mo hown hK I 0 (by decide) a_M_Mo rfl 17 (by decide) (htg _ mw503) rfl hdg kk
theorem G_Mo_Mo_was (hx : p.tables.exec = Jvm.exec) (hb : c.code = cc) (htg : ∀ w ∈ GW, w.before args s = true) (hown : s.vm.findClass R_Mo = some m.cls) (hK : va_K D vwCl (tyL cs) s) (hN : ∀ w ∈ NW, va_Nw w s) (I : q_I D vwCl A H0 (q_ws 23 ad (cM ad cs σ)) H locs) (hdg : decode cc pc = .ok (.getfield 56, 3)) (kk : W p l e R s m args below meth c H locs cells slots Q (F0 m (pc + 3) ls (.ref (ad 16) :: rest))) : W p l e R s m args below meth c H locs cells slots Q (F0 m pc ls (.ref (ad 0) :: rest)) :=
  q_get (own := "JobTerminalModel") (C := R_Mo) (T := F_Mo) (N := 31) (ci := 7) hx hb htg i_Mo hown hK I 0 (by decide) a_M_Mo rfl 16 (by decide) (htg _ mw504) rfl hdg kk
theorem P_Mo_Mo_code (hx : p.tables.exec = Jvm.exec) (hb : c.code = cc) (htg : ∀ w ∈ GW, w.before args s = true) (hown : s.vm.findClass R_Mo = some m.cls) (hK : va_K D vwCl (tyL cs) s) (hN : ∀ w ∈ NW, va_Nw w s) (I : q_I D vwCl A H0 (q_ws 23 ad (cM ad cs σ)) H locs) {x : Int32} (hdg : decode cc pc = .ok (.putfield 84, 3)) (kk : ∀ (H : Heap) (locs : List Loc), q_I D vwCl A H0 (q_ws 23 ad (cM ad cs (q_up σ 48 0 x))) H locs → W p l e R s m args below meth c H locs cells slots Q (F0 m (pc + 3) ls rest)) : W p l e R s m args below meth c H locs cells slots Q (F0 m pc ls (.int x :: .ref (ad 0) :: rest)) :=
  q_put (own := "JobTerminalModel") (C := R_Mo) (T := F_Mo) (N := 31) (ci := 7) hx hb htg i_Mo t_Mo t_Mo_ok n_Mo hown hK I 0 (by decide) a_M_Mo rfl 30 (by decide) (htg _ mw475) rfl rfl rfl (Nat.le_of_ble_eq_true rfl) (a_M_Mo.trans (by simp [e_M_Mo, q_up])) (h2_M_48) hdg kk
theorem P_Mo_Mo_edited (hx : p.tables.exec = Jvm.exec) (hb : c.code = cc) (htg : ∀ w ∈ GW, w.before args s = true) (hown : s.vm.findClass R_Mo = some m.cls) (hK : va_K D vwCl (tyL cs) s) (hN : ∀ w ∈ NW, va_Nw w s) (I : q_I D vwCl A H0 (q_ws 23 ad (cM ad cs σ)) H locs) {x : Int32} (hdg : decode cc pc = .ok (.putfield 119, 3)) (kk : ∀ (H : Heap) (locs : List Loc), q_I D vwCl A H0 (q_ws 23 ad (cM ad cs (q_up σ 44 0 x))) H locs → W p l e R s m args below meth c H locs cells slots Q (F0 m (pc + 3) ls rest)) : W p l e R s m args below meth c H locs cells slots Q (F0 m pc ls (.int x :: .ref (ad 0) :: rest)) :=
  q_put (own := "JobTerminalModel") (C := R_Mo) (T := F_Mo) (N := 31) (ci := 7) hx hb htg i_Mo t_Mo t_Mo_ok n_Mo hown hK I 0 (by decide) a_M_Mo rfl 23 (by decide) (htg _ mw477) rfl rfl rfl (Nat.le_of_ble_eq_true rfl) (a_M_Mo.trans (by simp [e_M_Mo, q_up])) (h2_M_44) hdg kk
theorem P_Mo_Mo_failed (hx : p.tables.exec = Jvm.exec) (hb : c.code = cc) (htg : ∀ w ∈ GW, w.before args s = true) (hown : s.vm.findClass R_Mo = some m.cls) (hK : va_K D vwCl (tyL cs) s) (hN : ∀ w ∈ NW, va_Nw w s) (I : q_I D vwCl A H0 (q_ws 23 ad (cM ad cs σ)) H locs) {x : Int32} (hB : q_isB x = true) (hdg : decode cc pc = .ok (.putfield 169, 3)) (kk : ∀ (H : Heap) (locs : List Loc), q_I D vwCl A H0 (q_ws 23 ad (cM ad cs (q_up σ 47 0 x))) H locs → W p l e R s m args below meth c H locs cells slots Q (F0 m (pc + 3) ls rest)) : W p l e R s m args below meth c H locs cells slots Q (F0 m pc ls (.int x :: .ref (ad 0) :: rest)) :=
  q_put (own := "JobTerminalModel") (C := R_Mo) (T := F_Mo) (N := 31) (ci := 7) hx hb htg i_Mo t_Mo t_Mo_ok n_Mo hown hK I 0 (by decide) a_M_Mo rfl 29 (by decide) (htg _ mw479) rfl (q_narB hB) (q_fitB hB) (Nat.le_of_ble_eq_true rfl) (a_M_Mo.trans (by simp [e_M_Mo, q_up])) (h2_M_47) hdg kk
theorem P_Mo_Mo_flag (hx : p.tables.exec = Jvm.exec) (hb : c.code = cc) (htg : ∀ w ∈ GW, w.before args s = true) (hown : s.vm.findClass R_Mo = some m.cls) (hK : va_K D vwCl (tyL cs) s) (hN : ∀ w ∈ NW, va_Nw w s) (I : q_I D vwCl A H0 (q_ws 23 ad (cM ad cs σ)) H locs) {x : Int32} (hdg : decode cc pc = .ok (.putfield 72, 3)) (kk : ∀ (H : Heap) (locs : List Loc), q_I D vwCl A H0 (q_ws 23 ad (cM ad cs (q_up σ 42 0 x))) H locs → W p l e R s m args below meth c H locs cells slots Q (F0 m (pc + 3) ls rest)) : W p l e R s m args below meth c H locs cells slots Q (F0 m pc ls (.int x :: .ref (ad 0) :: rest)) :=
  q_put (own := "JobTerminalModel") (C := R_Mo) (T := F_Mo) (N := 31) (ci := 7) hx hb htg i_Mo t_Mo t_Mo_ok n_Mo hown hK I 0 (by decide) a_M_Mo rfl 21 (by decide) (htg _ mw481) rfl rfl rfl (Nat.le_of_ble_eq_true rfl) (a_M_Mo.trans (by simp [e_M_Mo, q_up])) (h2_M_42) hdg kk
theorem P_Mo_Mo_front (hx : p.tables.exec = Jvm.exec) (hb : c.code = cc) (htg : ∀ w ∈ GW, w.before args s = true) (hown : s.vm.findClass R_Mo = some m.cls) (hK : va_K D vwCl (tyL cs) s) (hN : ∀ w ∈ NW, va_Nw w s) (I : q_I D vwCl A H0 (q_ws 23 ad (cM ad cs σ)) H locs) {x : Int32} (hdg : decode cc pc = .ok (.putfield 68, 3)) (kk : ∀ (H : Heap) (locs : List Loc), q_I D vwCl A H0 (q_ws 23 ad (cM ad cs (q_up σ 41 0 x))) H locs → W p l e R s m args below meth c H locs cells slots Q (F0 m (pc + 3) ls rest)) : W p l e R s m args below meth c H locs cells slots Q (F0 m pc ls (.int x :: .ref (ad 0) :: rest)) :=
  q_put (own := "JobTerminalModel") (C := R_Mo) (T := F_Mo) (N := 31) (ci := 7) hx hb htg i_Mo t_Mo t_Mo_ok n_Mo hown hK I 0 (by decide) a_M_Mo rfl 20 (by decide) (htg _ mw482) rfl rfl rfl (Nat.le_of_ble_eq_true rfl) (a_M_Mo.trans (by simp [e_M_Mo, q_up])) (h2_M_41) hdg kk
theorem P_Mo_Mo_hung (hx : p.tables.exec = Jvm.exec) (hb : c.code = cc) (htg : ∀ w ∈ GW, w.before args s = true) (hown : s.vm.findClass R_Mo = some m.cls) (hK : va_K D vwCl (tyL cs) s) (hN : ∀ w ∈ NW, va_Nw w s) (I : q_I D vwCl A H0 (q_ws 23 ad (cM ad cs σ)) H locs) {x : Int32} (hB : q_isB x = true) (hdg : decode cc pc = .ok (.putfield 153, 3)) (kk : ∀ (H : Heap) (locs : List Loc), q_I D vwCl A H0 (q_ws 23 ad (cM ad cs (q_up σ 43 0 x))) H locs → W p l e R s m args below meth c H locs cells slots Q (F0 m (pc + 3) ls rest)) : W p l e R s m args below meth c H locs cells slots Q (F0 m pc ls (.int x :: .ref (ad 0) :: rest)) :=
  q_put (own := "JobTerminalModel") (C := R_Mo) (T := F_Mo) (N := 31) (ci := 7) hx hb htg i_Mo t_Mo t_Mo_ok n_Mo hown hK I 0 (by decide) a_M_Mo rfl 22 (by decide) (htg _ mw483) rfl (q_narB hB) (q_fitB hB) (Nat.le_of_ble_eq_true rfl) (a_M_Mo.trans (by simp [e_M_Mo, q_up])) (h2_M_43) hdg kk
theorem P_Mo_Mo_queued (hx : p.tables.exec = Jvm.exec) (hb : c.code = cc) (htg : ∀ w ∈ GW, w.before args s = true) (hown : s.vm.findClass R_Mo = some m.cls) (hK : va_K D vwCl (tyL cs) s) (hN : ∀ w ∈ NW, va_Nw w s) (I : q_I D vwCl A H0 (q_ws 23 ad (cM ad cs σ)) H locs) {x : Int32} (hdg : decode cc pc = .ok (.putfield 122, 3)) (kk : ∀ (H : Heap) (locs : List Loc), q_I D vwCl A H0 (q_ws 23 ad (cM ad cs (q_up σ 45 0 x))) H locs → W p l e R s m args below meth c H locs cells slots Q (F0 m (pc + 3) ls rest)) : W p l e R s m args below meth c H locs cells slots Q (F0 m pc ls (.int x :: .ref (ad 0) :: rest)) :=
  q_put (own := "JobTerminalModel") (C := R_Mo) (T := F_Mo) (N := 31) (ci := 7) hx hb htg i_Mo t_Mo t_Mo_ok n_Mo hown hK I 0 (by decide) a_M_Mo rfl 25 (by decide) (htg _ mw495) rfl rfl rfl (Nat.le_of_ble_eq_true rfl) (a_M_Mo.trans (by simp [e_M_Mo, q_up])) (h2_M_45) hdg kk
theorem P_Mo_Mo_shows (hx : p.tables.exec = Jvm.exec) (hb : c.code = cc) (htg : ∀ w ∈ GW, w.before args s = true) (hown : s.vm.findClass R_Mo = some m.cls) (hK : va_K D vwCl (tyL cs) s) (hN : ∀ w ∈ NW, va_Nw w s) (I : q_I D vwCl A H0 (q_ws 23 ad (cM ad cs σ)) H locs) {x : Int32} (hdg : decode cc pc = .ok (.putfield 106, 3)) (kk : ∀ (H : Heap) (locs : List Loc), q_I D vwCl A H0 (q_ws 23 ad (cM ad cs (q_up σ 46 0 x))) H locs → W p l e R s m args below meth c H locs cells slots Q (F0 m (pc + 3) ls rest)) : W p l e R s m args below meth c H locs cells slots Q (F0 m pc ls (.int x :: .ref (ad 0) :: rest)) :=
  q_put (own := "JobTerminalModel") (C := R_Mo) (T := F_Mo) (N := 31) (ci := 7) hx hb htg i_Mo t_Mo t_Mo_ok n_Mo hown hK I 0 (by decide) a_M_Mo rfl 27 (by decide) (htg _ mw499) rfl rfl rfl (Nat.le_of_ble_eq_true rfl) (a_M_Mo.trans (by simp [e_M_Mo, q_up])) (h2_M_46) hdg kk
theorem P_Mo_Mo_turn (hx : p.tables.exec = Jvm.exec) (hb : c.code = cc) (htg : ∀ w ∈ GW, w.before args s = true) (hown : s.vm.findClass R_Mo = some m.cls) (hK : va_K D vwCl (tyL cs) s) (hN : ∀ w ∈ NW, va_Nw w s) (I : q_I D vwCl A H0 (q_ws 23 ad (cM ad cs σ)) H locs) {x : Int32} (hdg : decode cc pc = .ok (.putfield 188, 3)) (kk : ∀ (H : Heap) (locs : List Loc), q_I D vwCl A H0 (q_ws 23 ad (cM ad cs (q_up σ 40 0 x))) H locs → W p l e R s m args below meth c H locs cells slots Q (F0 m (pc + 3) ls rest)) : W p l e R s m args below meth c H locs cells slots Q (F0 m pc ls (.int x :: .ref (ad 0) :: rest)) :=
  q_put (own := "JobTerminalModel") (C := R_Mo) (T := F_Mo) (N := 31) (ci := 7) hx hb htg i_Mo t_Mo t_Mo_ok n_Mo hown hK I 0 (by decide) a_M_Mo rfl 12 (by decide) (htg _ mw502) rfl rfl rfl (Nat.le_of_ble_eq_true rfl) (a_M_Mo.trans (by simp [e_M_Mo, q_up])) (h2_M_40) hdg kk
theorem L_M_ops (hx : p.tables.exec = Jvm.exec) (hb : c.code = cc) (hK : va_K D vwCl (tyL cs) s) (I : q_I D vwCl A H0 (q_ws 23 ad (cM ad cs σ)) H locs) (hdg : decode cc pc = .ok (.arraylength, 1)) (kk : W p l e R s m args below meth c H locs cells slots Q (F0 m (pc + 1) ls (.int (64) :: rest))) : W p l e R s m args below meth c H locs cells slots Q (F0 m pc ls (.ref (ad 1) :: rest)) :=
  q_alen hx hb hK I 1 0 (by decide) a_M_ops rfl rfl hdg kk
theorem A_M_ops (hx : p.tables.exec = Jvm.exec) (hb : c.code = cc) (hK : va_K D vwCl (tyL cs) s) (I : q_I D vwCl A H0 (q_ws 23 ad (cM ad cs σ)) H locs) {i0 : Int32} (ho : q_in i0 64 = true) (hdg : decode cc pc = .ok (.iaload, 1)) (kk : W p l e R s m args below meth c H locs cells slots Q (F0 m (pc + 1) ls (.int (σ 0 i0.toNatClampNeg) :: rest))) : W p l e R s m args below meth c H locs cells slots Q (F0 m pc ls (.int i0 :: .ref (ad 1) :: rest)) :=
  q_iald hx hb hK I 1 0 (by decide) a_M_ops rfl ho hdg kk
theorem T_M_ops (hx : p.tables.exec = Jvm.exec) (hb : c.code = cc) (hK : va_K D vwCl (tyL cs) s) (I : q_I D vwCl A H0 (q_ws 23 ad (cM ad cs σ)) H locs) {i0 x : Int32} (ho : q_in i0 64 = true) (hdg : decode cc pc = .ok (.iastore, 1)) (kk : ∀ (H : Heap) (locs : List Loc), q_I D vwCl A H0 (q_ws 23 ad (cM ad cs (q_up σ 0 i0.toNatClampNeg x))) H locs → W p l e R s m args below meth c H locs cells slots Q (F0 m (pc + 1) ls rest)) : W p l e R s m args below meth c H locs cells slots Q (F0 m pc ls (.int x :: .int i0 :: .ref (ad 1) :: rest)) :=
  q_iast hx hb hK I 1 0 (by decide) a_M_ops rfl ho (a_M_ops.trans (by simp only [e_M_ops, q_up_row])) (h2_M_ops) hdg kk
theorem L_M_numbers (hx : p.tables.exec = Jvm.exec) (hb : c.code = cc) (hK : va_K D vwCl (tyL cs) s) (I : q_I D vwCl A H0 (q_ws 23 ad (cM ad cs σ)) H locs) (hdg : decode cc pc = .ok (.arraylength, 1)) (kk : W p l e R s m args below meth c H locs cells slots Q (F0 m (pc + 1) ls (.int (64) :: rest))) : W p l e R s m args below meth c H locs cells slots Q (F0 m pc ls (.ref (ad 2) :: rest)) :=
  q_alen hx hb hK I 2 0 (by decide) a_M_numbers rfl rfl hdg kk
theorem A_M_numbers (hx : p.tables.exec = Jvm.exec) (hb : c.code = cc) (hK : va_K D vwCl (tyL cs) s) (I : q_I D vwCl A H0 (q_ws 23 ad (cM ad cs σ)) H locs) {i0 : Int32} (ho : q_in i0 64 = true) (hdg : decode cc pc = .ok (.iaload, 1)) (kk : W p l e R s m args below meth c H locs cells slots Q (F0 m (pc + 1) ls (.int (σ 1 i0.toNatClampNeg) :: rest))) : W p l e R s m args below meth c H locs cells slots Q (F0 m pc ls (.int i0 :: .ref (ad 2) :: rest)) :=
  q_iald hx hb hK I 2 0 (by decide) a_M_numbers rfl ho hdg kk
theorem T_M_numbers (hx : p.tables.exec = Jvm.exec) (hb : c.code = cc) (hK : va_K D vwCl (tyL cs) s) (I : q_I D vwCl A H0 (q_ws 23 ad (cM ad cs σ)) H locs) {i0 x : Int32} (ho : q_in i0 64 = true) (hdg : decode cc pc = .ok (.iastore, 1)) (kk : ∀ (H : Heap) (locs : List Loc), q_I D vwCl A H0 (q_ws 23 ad (cM ad cs (q_up σ 1 i0.toNatClampNeg x))) H locs → W p l e R s m args below meth c H locs cells slots Q (F0 m (pc + 1) ls rest)) : W p l e R s m args below meth c H locs cells slots Q (F0 m pc ls (.int x :: .int i0 :: .ref (ad 2) :: rest)) :=
  q_iast hx hb hK I 2 0 (by decide) a_M_numbers rfl ho (a_M_numbers.trans (by simp only [e_M_numbers, q_up_row])) (h2_M_numbers) hdg kk
theorem L_M_state (hx : p.tables.exec = Jvm.exec) (hb : c.code = cc) (hK : va_K D vwCl (tyL cs) s) (I : q_I D vwCl A H0 (q_ws 23 ad (cM ad cs σ)) H locs) (hdg : decode cc pc = .ok (.arraylength, 1)) (kk : W p l e R s m args below meth c H locs cells slots Q (F0 m (pc + 1) ls (.int (8) :: rest))) : W p l e R s m args below meth c H locs cells slots Q (F0 m pc ls (.ref (ad 3) :: rest)) :=
  q_alen hx hb hK I 3 0 (by decide) a_M_state rfl rfl hdg kk
theorem A_M_state (hx : p.tables.exec = Jvm.exec) (hb : c.code = cc) (hK : va_K D vwCl (tyL cs) s) (I : q_I D vwCl A H0 (q_ws 23 ad (cM ad cs σ)) H locs) {i0 : Int32} (ho : q_in i0 8 = true) (hdg : decode cc pc = .ok (.iaload, 1)) (kk : W p l e R s m args below meth c H locs cells slots Q (F0 m (pc + 1) ls (.int (σ 2 i0.toNatClampNeg) :: rest))) : W p l e R s m args below meth c H locs cells slots Q (F0 m pc ls (.int i0 :: .ref (ad 3) :: rest)) :=
  q_iald hx hb hK I 3 0 (by decide) a_M_state rfl ho hdg kk
theorem T_M_state (hx : p.tables.exec = Jvm.exec) (hb : c.code = cc) (hK : va_K D vwCl (tyL cs) s) (I : q_I D vwCl A H0 (q_ws 23 ad (cM ad cs σ)) H locs) {i0 x : Int32} (ho : q_in i0 8 = true) (hdg : decode cc pc = .ok (.iastore, 1)) (kk : ∀ (H : Heap) (locs : List Loc), q_I D vwCl A H0 (q_ws 23 ad (cM ad cs (q_up σ 2 i0.toNatClampNeg x))) H locs → W p l e R s m args below meth c H locs cells slots Q (F0 m (pc + 1) ls rest)) : W p l e R s m args below meth c H locs cells slots Q (F0 m pc ls (.int x :: .int i0 :: .ref (ad 3) :: rest)) :=
  q_iast hx hb hK I 3 0 (by decide) a_M_state rfl ho (a_M_state.trans (by simp only [e_M_state, q_up_row])) (h2_M_state) hdg kk
theorem L_M_jobOf (hx : p.tables.exec = Jvm.exec) (hb : c.code = cc) (hK : va_K D vwCl (tyL cs) s) (I : q_I D vwCl A H0 (q_ws 23 ad (cM ad cs σ)) H locs) (hdg : decode cc pc = .ok (.arraylength, 1)) (kk : W p l e R s m args below meth c H locs cells slots Q (F0 m (pc + 1) ls (.int (8) :: rest))) : W p l e R s m args below meth c H locs cells slots Q (F0 m pc ls (.ref (ad 4) :: rest)) :=
  q_alen hx hb hK I 4 0 (by decide) a_M_jobOf rfl rfl hdg kk
theorem A_M_jobOf (hx : p.tables.exec = Jvm.exec) (hb : c.code = cc) (hK : va_K D vwCl (tyL cs) s) (I : q_I D vwCl A H0 (q_ws 23 ad (cM ad cs σ)) H locs) {i0 : Int32} (ho : q_in i0 8 = true) (hdg : decode cc pc = .ok (.iaload, 1)) (kk : W p l e R s m args below meth c H locs cells slots Q (F0 m (pc + 1) ls (.int (σ 3 i0.toNatClampNeg) :: rest))) : W p l e R s m args below meth c H locs cells slots Q (F0 m pc ls (.int i0 :: .ref (ad 4) :: rest)) :=
  q_iald hx hb hK I 4 0 (by decide) a_M_jobOf rfl ho hdg kk
theorem T_M_jobOf (hx : p.tables.exec = Jvm.exec) (hb : c.code = cc) (hK : va_K D vwCl (tyL cs) s) (I : q_I D vwCl A H0 (q_ws 23 ad (cM ad cs σ)) H locs) {i0 x : Int32} (ho : q_in i0 8 = true) (hdg : decode cc pc = .ok (.iastore, 1)) (kk : ∀ (H : Heap) (locs : List Loc), q_I D vwCl A H0 (q_ws 23 ad (cM ad cs (q_up σ 3 i0.toNatClampNeg x))) H locs → W p l e R s m args below meth c H locs cells slots Q (F0 m (pc + 1) ls rest)) : W p l e R s m args below meth c H locs cells slots Q (F0 m pc ls (.int x :: .int i0 :: .ref (ad 4) :: rest)) :=
  q_iast hx hb hK I 4 0 (by decide) a_M_jobOf rfl ho (a_M_jobOf.trans (by simp only [e_M_jobOf, q_up_row])) (h2_M_jobOf) hdg kk
theorem L_M_programOf (hx : p.tables.exec = Jvm.exec) (hb : c.code = cc) (hK : va_K D vwCl (tyL cs) s) (I : q_I D vwCl A H0 (q_ws 23 ad (cM ad cs σ)) H locs) (hdg : decode cc pc = .ok (.arraylength, 1)) (kk : W p l e R s m args below meth c H locs cells slots Q (F0 m (pc + 1) ls (.int (8) :: rest))) : W p l e R s m args below meth c H locs cells slots Q (F0 m pc ls (.ref (ad 5) :: rest)) :=
  q_alen hx hb hK I 5 0 (by decide) a_M_programOf rfl rfl hdg kk
theorem A_M_programOf (hx : p.tables.exec = Jvm.exec) (hb : c.code = cc) (hK : va_K D vwCl (tyL cs) s) (I : q_I D vwCl A H0 (q_ws 23 ad (cM ad cs σ)) H locs) {i0 : Int32} (ho : q_in i0 8 = true) (hdg : decode cc pc = .ok (.iaload, 1)) (kk : W p l e R s m args below meth c H locs cells slots Q (F0 m (pc + 1) ls (.int (σ 4 i0.toNatClampNeg) :: rest))) : W p l e R s m args below meth c H locs cells slots Q (F0 m pc ls (.int i0 :: .ref (ad 5) :: rest)) :=
  q_iald hx hb hK I 5 0 (by decide) a_M_programOf rfl ho hdg kk
theorem T_M_programOf (hx : p.tables.exec = Jvm.exec) (hb : c.code = cc) (hK : va_K D vwCl (tyL cs) s) (I : q_I D vwCl A H0 (q_ws 23 ad (cM ad cs σ)) H locs) {i0 x : Int32} (ho : q_in i0 8 = true) (hdg : decode cc pc = .ok (.iastore, 1)) (kk : ∀ (H : Heap) (locs : List Loc), q_I D vwCl A H0 (q_ws 23 ad (cM ad cs (q_up σ 4 i0.toNatClampNeg x))) H locs → W p l e R s m args below meth c H locs cells slots Q (F0 m (pc + 1) ls rest)) : W p l e R s m args below meth c H locs cells slots Q (F0 m pc ls (.int x :: .int i0 :: .ref (ad 5) :: rest)) :=
  q_iast hx hb hK I 5 0 (by decide) a_M_programOf rfl ho (a_M_programOf.trans (by simp only [e_M_programOf, q_up_row])) (h2_M_programOf) hdg kk
theorem L_M_line (hx : p.tables.exec = Jvm.exec) (hb : c.code = cc) (hK : va_K D vwCl (tyL cs) s) (I : q_I D vwCl A H0 (q_ws 23 ad (cM ad cs σ)) H locs) (hdg : decode cc pc = .ok (.arraylength, 1)) (kk : W p l e R s m args below meth c H locs cells slots Q (F0 m (pc + 1) ls (.int (8) :: rest))) : W p l e R s m args below meth c H locs cells slots Q (F0 m pc ls (.ref (ad 6) :: rest)) :=
  q_alen hx hb hK I 6 0 (by decide) a_M_line rfl rfl hdg kk
theorem A_M_line (hx : p.tables.exec = Jvm.exec) (hb : c.code = cc) (hK : va_K D vwCl (tyL cs) s) (I : q_I D vwCl A H0 (q_ws 23 ad (cM ad cs σ)) H locs) {i0 : Int32} (ho : q_in i0 8 = true) (hdg : decode cc pc = .ok (.iaload, 1)) (kk : W p l e R s m args below meth c H locs cells slots Q (F0 m (pc + 1) ls (.int (σ 5 i0.toNatClampNeg) :: rest))) : W p l e R s m args below meth c H locs cells slots Q (F0 m pc ls (.int i0 :: .ref (ad 6) :: rest)) :=
  q_iald hx hb hK I 6 0 (by decide) a_M_line rfl ho hdg kk
theorem T_M_line (hx : p.tables.exec = Jvm.exec) (hb : c.code = cc) (hK : va_K D vwCl (tyL cs) s) (I : q_I D vwCl A H0 (q_ws 23 ad (cM ad cs σ)) H locs) {i0 x : Int32} (ho : q_in i0 8 = true) (hdg : decode cc pc = .ok (.iastore, 1)) (kk : ∀ (H : Heap) (locs : List Loc), q_I D vwCl A H0 (q_ws 23 ad (cM ad cs (q_up σ 5 i0.toNatClampNeg x))) H locs → W p l e R s m args below meth c H locs cells slots Q (F0 m (pc + 1) ls rest)) : W p l e R s m args below meth c H locs cells slots Q (F0 m pc ls (.int x :: .int i0 :: .ref (ad 6) :: rest)) :=
  q_iast hx hb hK I 6 0 (by decide) a_M_line rfl ho (a_M_line.trans (by simp only [e_M_line, q_up_row])) (h2_M_line) hdg kk
theorem L_M_register (hx : p.tables.exec = Jvm.exec) (hb : c.code = cc) (hK : va_K D vwCl (tyL cs) s) (I : q_I D vwCl A H0 (q_ws 23 ad (cM ad cs σ)) H locs) (hdg : decode cc pc = .ok (.arraylength, 1)) (kk : W p l e R s m args below meth c H locs cells slots Q (F0 m (pc + 1) ls (.int (8) :: rest))) : W p l e R s m args below meth c H locs cells slots Q (F0 m pc ls (.ref (ad 7) :: rest)) :=
  q_alen hx hb hK I 7 0 (by decide) a_M_register rfl rfl hdg kk
theorem A_M_register (hx : p.tables.exec = Jvm.exec) (hb : c.code = cc) (hK : va_K D vwCl (tyL cs) s) (I : q_I D vwCl A H0 (q_ws 23 ad (cM ad cs σ)) H locs) {i0 : Int32} (ho : q_in i0 8 = true) (hdg : decode cc pc = .ok (.iaload, 1)) (kk : W p l e R s m args below meth c H locs cells slots Q (F0 m (pc + 1) ls (.int (σ 6 i0.toNatClampNeg) :: rest))) : W p l e R s m args below meth c H locs cells slots Q (F0 m pc ls (.int i0 :: .ref (ad 7) :: rest)) :=
  q_iald hx hb hK I 7 0 (by decide) a_M_register rfl ho hdg kk
theorem T_M_register (hx : p.tables.exec = Jvm.exec) (hb : c.code = cc) (hK : va_K D vwCl (tyL cs) s) (I : q_I D vwCl A H0 (q_ws 23 ad (cM ad cs σ)) H locs) {i0 x : Int32} (ho : q_in i0 8 = true) (hdg : decode cc pc = .ok (.iastore, 1)) (kk : ∀ (H : Heap) (locs : List Loc), q_I D vwCl A H0 (q_ws 23 ad (cM ad cs (q_up σ 6 i0.toNatClampNeg x))) H locs → W p l e R s m args below meth c H locs cells slots Q (F0 m (pc + 1) ls rest)) : W p l e R s m args below meth c H locs cells slots Q (F0 m pc ls (.int x :: .int i0 :: .ref (ad 7) :: rest)) :=
  q_iast hx hb hK I 7 0 (by decide) a_M_register rfl ho (a_M_register.trans (by simp only [e_M_register, q_up_row])) (h2_M_register) hdg kk
theorem L_M_ends (hx : p.tables.exec = Jvm.exec) (hb : c.code = cc) (hK : va_K D vwCl (tyL cs) s) (I : q_I D vwCl A H0 (q_ws 23 ad (cM ad cs σ)) H locs) (hdg : decode cc pc = .ok (.arraylength, 1)) (kk : W p l e R s m args below meth c H locs cells slots Q (F0 m (pc + 1) ls (.int (8) :: rest))) : W p l e R s m args below meth c H locs cells slots Q (F0 m pc ls (.ref (ad 8) :: rest)) :=
  q_alen hx hb hK I 8 0 (by decide) a_M_ends rfl rfl hdg kk
theorem A_M_ends (hx : p.tables.exec = Jvm.exec) (hb : c.code = cc) (hK : va_K D vwCl (tyL cs) s) (I : q_I D vwCl A H0 (q_ws 23 ad (cM ad cs σ)) H locs) {i0 : Int32} (ho : q_in i0 8 = true) (hdg : decode cc pc = .ok (.iaload, 1)) (kk : W p l e R s m args below meth c H locs cells slots Q (F0 m (pc + 1) ls (.int (σ 7 i0.toNatClampNeg) :: rest))) : W p l e R s m args below meth c H locs cells slots Q (F0 m pc ls (.int i0 :: .ref (ad 8) :: rest)) :=
  q_iald hx hb hK I 8 0 (by decide) a_M_ends rfl ho hdg kk
theorem T_M_ends (hx : p.tables.exec = Jvm.exec) (hb : c.code = cc) (hK : va_K D vwCl (tyL cs) s) (I : q_I D vwCl A H0 (q_ws 23 ad (cM ad cs σ)) H locs) {i0 x : Int32} (ho : q_in i0 8 = true) (hdg : decode cc pc = .ok (.iastore, 1)) (kk : ∀ (H : Heap) (locs : List Loc), q_I D vwCl A H0 (q_ws 23 ad (cM ad cs (q_up σ 7 i0.toNatClampNeg x))) H locs → W p l e R s m args below meth c H locs cells slots Q (F0 m (pc + 1) ls rest)) : W p l e R s m args below meth c H locs cells slots Q (F0 m pc ls (.int x :: .int i0 :: .ref (ad 8) :: rest)) :=
  q_iast hx hb hK I 8 0 (by decide) a_M_ends rfl ho (a_M_ends.trans (by simp only [e_M_ends, q_up_row])) (h2_M_ends) hdg kk
theorem L_M_pending (hx : p.tables.exec = Jvm.exec) (hb : c.code = cc) (hK : va_K D vwCl (tyL cs) s) (I : q_I D vwCl A H0 (q_ws 23 ad (cM ad cs σ)) H locs) (hdg : decode cc pc = .ok (.arraylength, 1)) (kk : W p l e R s m args below meth c H locs cells slots Q (F0 m (pc + 1) ls (.int (8) :: rest))) : W p l e R s m args below meth c H locs cells slots Q (F0 m pc ls (.ref (ad 9) :: rest)) :=
  q_alen hx hb hK I 9 0 (by decide) a_M_pending rfl rfl hdg kk
theorem A_M_pending (hx : p.tables.exec = Jvm.exec) (hb : c.code = cc) (hK : va_K D vwCl (tyL cs) s) (I : q_I D vwCl A H0 (q_ws 23 ad (cM ad cs σ)) H locs) {i0 : Int32} (ho : q_in i0 8 = true) (hdg : decode cc pc = .ok (.iaload, 1)) (kk : W p l e R s m args below meth c H locs cells slots Q (F0 m (pc + 1) ls (.int (σ 8 i0.toNatClampNeg) :: rest))) : W p l e R s m args below meth c H locs cells slots Q (F0 m pc ls (.int i0 :: .ref (ad 9) :: rest)) :=
  q_iald hx hb hK I 9 0 (by decide) a_M_pending rfl ho hdg kk
theorem T_M_pending (hx : p.tables.exec = Jvm.exec) (hb : c.code = cc) (hK : va_K D vwCl (tyL cs) s) (I : q_I D vwCl A H0 (q_ws 23 ad (cM ad cs σ)) H locs) {i0 x : Int32} (ho : q_in i0 8 = true) (hdg : decode cc pc = .ok (.iastore, 1)) (kk : ∀ (H : Heap) (locs : List Loc), q_I D vwCl A H0 (q_ws 23 ad (cM ad cs (q_up σ 8 i0.toNatClampNeg x))) H locs → W p l e R s m args below meth c H locs cells slots Q (F0 m (pc + 1) ls rest)) : W p l e R s m args below meth c H locs cells slots Q (F0 m pc ls (.int x :: .int i0 :: .ref (ad 9) :: rest)) :=
  q_iast hx hb hK I 9 0 (by decide) a_M_pending rfl ho (a_M_pending.trans (by simp only [e_M_pending, q_up_row])) (h2_M_pending) hdg kk
theorem L_M_blocked (hx : p.tables.exec = Jvm.exec) (hb : c.code = cc) (hK : va_K D vwCl (tyL cs) s) (I : q_I D vwCl A H0 (q_ws 23 ad (cM ad cs σ)) H locs) (hdg : decode cc pc = .ok (.arraylength, 1)) (kk : W p l e R s m args below meth c H locs cells slots Q (F0 m (pc + 1) ls (.int (8) :: rest))) : W p l e R s m args below meth c H locs cells slots Q (F0 m pc ls (.ref (ad 10) :: rest)) :=
  q_alen hx hb hK I 10 0 (by decide) a_M_blocked rfl rfl hdg kk
theorem A_M_blocked (hx : p.tables.exec = Jvm.exec) (hb : c.code = cc) (hK : va_K D vwCl (tyL cs) s) (I : q_I D vwCl A H0 (q_ws 23 ad (cM ad cs σ)) H locs) {i0 : Int32} (ho : q_in i0 8 = true) (hdg : decode cc pc = .ok (.iaload, 1)) (kk : W p l e R s m args below meth c H locs cells slots Q (F0 m (pc + 1) ls (.int (σ 9 i0.toNatClampNeg) :: rest))) : W p l e R s m args below meth c H locs cells slots Q (F0 m pc ls (.int i0 :: .ref (ad 10) :: rest)) :=
  q_iald hx hb hK I 10 0 (by decide) a_M_blocked rfl ho hdg kk
theorem T_M_blocked (hx : p.tables.exec = Jvm.exec) (hb : c.code = cc) (hK : va_K D vwCl (tyL cs) s) (I : q_I D vwCl A H0 (q_ws 23 ad (cM ad cs σ)) H locs) {i0 x : Int32} (ho : q_in i0 8 = true) (hdg : decode cc pc = .ok (.iastore, 1)) (kk : ∀ (H : Heap) (locs : List Loc), q_I D vwCl A H0 (q_ws 23 ad (cM ad cs (q_up σ 9 i0.toNatClampNeg x))) H locs → W p l e R s m args below meth c H locs cells slots Q (F0 m (pc + 1) ls rest)) : W p l e R s m args below meth c H locs cells slots Q (F0 m pc ls (.int x :: .int i0 :: .ref (ad 10) :: rest)) :=
  q_iast hx hb hK I 10 0 (by decide) a_M_blocked rfl ho (a_M_blocked.trans (by simp only [e_M_blocked, q_up_row])) (h2_M_blocked) hdg kk
theorem L_M_ignored (hx : p.tables.exec = Jvm.exec) (hb : c.code = cc) (hK : va_K D vwCl (tyL cs) s) (I : q_I D vwCl A H0 (q_ws 23 ad (cM ad cs σ)) H locs) (hdg : decode cc pc = .ok (.arraylength, 1)) (kk : W p l e R s m args below meth c H locs cells slots Q (F0 m (pc + 1) ls (.int (8) :: rest))) : W p l e R s m args below meth c H locs cells slots Q (F0 m pc ls (.ref (ad 11) :: rest)) :=
  q_alen hx hb hK I 11 0 (by decide) a_M_ignored rfl rfl hdg kk
theorem A_M_ignored (hx : p.tables.exec = Jvm.exec) (hb : c.code = cc) (hK : va_K D vwCl (tyL cs) s) (I : q_I D vwCl A H0 (q_ws 23 ad (cM ad cs σ)) H locs) {i0 : Int32} (ho : q_in i0 8 = true) (hdg : decode cc pc = .ok (.iaload, 1)) (kk : W p l e R s m args below meth c H locs cells slots Q (F0 m (pc + 1) ls (.int (σ 10 i0.toNatClampNeg) :: rest))) : W p l e R s m args below meth c H locs cells slots Q (F0 m pc ls (.int i0 :: .ref (ad 11) :: rest)) :=
  q_iald hx hb hK I 11 0 (by decide) a_M_ignored rfl ho hdg kk
theorem T_M_ignored (hx : p.tables.exec = Jvm.exec) (hb : c.code = cc) (hK : va_K D vwCl (tyL cs) s) (I : q_I D vwCl A H0 (q_ws 23 ad (cM ad cs σ)) H locs) {i0 x : Int32} (ho : q_in i0 8 = true) (hdg : decode cc pc = .ok (.iastore, 1)) (kk : ∀ (H : Heap) (locs : List Loc), q_I D vwCl A H0 (q_ws 23 ad (cM ad cs (q_up σ 10 i0.toNatClampNeg x))) H locs → W p l e R s m args below meth c H locs cells slots Q (F0 m (pc + 1) ls rest)) : W p l e R s m args below meth c H locs cells slots Q (F0 m pc ls (.int x :: .int i0 :: .ref (ad 11) :: rest)) :=
  q_iast hx hb hK I 11 0 (by decide) a_M_ignored rfl ho (a_M_ignored.trans (by simp only [e_M_ignored, q_up_row])) (h2_M_ignored) hdg kk
theorem L_M_nap (hx : p.tables.exec = Jvm.exec) (hb : c.code = cc) (hK : va_K D vwCl (tyL cs) s) (I : q_I D vwCl A H0 (q_ws 23 ad (cM ad cs σ)) H locs) (hdg : decode cc pc = .ok (.arraylength, 1)) (kk : W p l e R s m args below meth c H locs cells slots Q (F0 m (pc + 1) ls (.int (8) :: rest))) : W p l e R s m args below meth c H locs cells slots Q (F0 m pc ls (.ref (ad 12) :: rest)) :=
  q_alen hx hb hK I 12 0 (by decide) a_M_nap rfl rfl hdg kk
theorem A_M_nap (hx : p.tables.exec = Jvm.exec) (hb : c.code = cc) (hK : va_K D vwCl (tyL cs) s) (I : q_I D vwCl A H0 (q_ws 23 ad (cM ad cs σ)) H locs) {i0 : Int32} (ho : q_in i0 8 = true) (hdg : decode cc pc = .ok (.iaload, 1)) (kk : W p l e R s m args below meth c H locs cells slots Q (F0 m (pc + 1) ls (.int (σ 11 i0.toNatClampNeg) :: rest))) : W p l e R s m args below meth c H locs cells slots Q (F0 m pc ls (.int i0 :: .ref (ad 12) :: rest)) :=
  q_iald hx hb hK I 12 0 (by decide) a_M_nap rfl ho hdg kk
theorem T_M_nap (hx : p.tables.exec = Jvm.exec) (hb : c.code = cc) (hK : va_K D vwCl (tyL cs) s) (I : q_I D vwCl A H0 (q_ws 23 ad (cM ad cs σ)) H locs) {i0 x : Int32} (ho : q_in i0 8 = true) (hdg : decode cc pc = .ok (.iastore, 1)) (kk : ∀ (H : Heap) (locs : List Loc), q_I D vwCl A H0 (q_ws 23 ad (cM ad cs (q_up σ 11 i0.toNatClampNeg x))) H locs → W p l e R s m args below meth c H locs cells slots Q (F0 m (pc + 1) ls rest)) : W p l e R s m args below meth c H locs cells slots Q (F0 m pc ls (.int x :: .int i0 :: .ref (ad 12) :: rest)) :=
  q_iast hx hb hK I 12 0 (by decide) a_M_nap rfl ho (a_M_nap.trans (by simp only [e_M_nap, q_up_row])) (h2_M_nap) hdg kk
theorem L_M_there (hx : p.tables.exec = Jvm.exec) (hb : c.code = cc) (hK : va_K D vwCl (tyL cs) s) (I : q_I D vwCl A H0 (q_ws 23 ad (cM ad cs σ)) H locs) (hdg : decode cc pc = .ok (.arraylength, 1)) (kk : W p l e R s m args below meth c H locs cells slots Q (F0 m (pc + 1) ls (.int (4) :: rest))) : W p l e R s m args below meth c H locs cells slots Q (F0 m pc ls (.ref (ad 13) :: rest)) :=
  q_alen hx hb hK I 13 1 (by decide) a_M_there rfl rfl hdg kk
theorem A_M_there (hx : p.tables.exec = Jvm.exec) (hb : c.code = cc) (hK : va_K D vwCl (tyL cs) s) (I : q_I D vwCl A H0 (q_ws 23 ad (cM ad cs σ)) H locs) {i0 : Int32} (ho : q_in i0 4 = true) (hdg : decode cc pc = .ok (.baload, 1)) (kk : W p l e R s m args below meth c H locs cells slots Q (F0 m (pc + 1) ls (.int (σ 12 i0.toNatClampNeg) :: rest))) : W p l e R s m args below meth c H locs cells slots Q (F0 m pc ls (.int i0 :: .ref (ad 13) :: rest)) :=
  q_zald hx hb hK I 13 1 (by decide) a_M_there rfl ho hdg kk
theorem T_M_there (hx : p.tables.exec = Jvm.exec) (hb : c.code = cc) (hK : va_K D vwCl (tyL cs) s) (I : q_I D vwCl A H0 (q_ws 23 ad (cM ad cs σ)) H locs) {i0 x : Int32} (ho : q_in i0 4 = true) (hB : q_isB x = true) (hdg : decode cc pc = .ok (.bastore, 1)) (kk : ∀ (H : Heap) (locs : List Loc), q_I D vwCl A H0 (q_ws 23 ad (cM ad cs (q_up σ 12 i0.toNatClampNeg x))) H locs → W p l e R s m args below meth c H locs cells slots Q (F0 m (pc + 1) ls rest)) : W p l e R s m args below meth c H locs cells slots Q (F0 m pc ls (.int x :: .int i0 :: .ref (ad 13) :: rest)) :=
  q_zast hx hb hK I 13 1 (by decide) a_M_there rfl ho hB (a_M_there.trans (by simp only [e_M_there, q_up_row])) (h2_M_there) hdg kk
theorem L_M_first (hx : p.tables.exec = Jvm.exec) (hb : c.code = cc) (hK : va_K D vwCl (tyL cs) s) (I : q_I D vwCl A H0 (q_ws 23 ad (cM ad cs σ)) H locs) (hdg : decode cc pc = .ok (.arraylength, 1)) (kk : W p l e R s m args below meth c H locs cells slots Q (F0 m (pc + 1) ls (.int (4) :: rest))) : W p l e R s m args below meth c H locs cells slots Q (F0 m pc ls (.ref (ad 14) :: rest)) :=
  q_alen hx hb hK I 14 0 (by decide) a_M_first rfl rfl hdg kk
theorem A_M_first (hx : p.tables.exec = Jvm.exec) (hb : c.code = cc) (hK : va_K D vwCl (tyL cs) s) (I : q_I D vwCl A H0 (q_ws 23 ad (cM ad cs σ)) H locs) {i0 : Int32} (ho : q_in i0 4 = true) (hdg : decode cc pc = .ok (.iaload, 1)) (kk : W p l e R s m args below meth c H locs cells slots Q (F0 m (pc + 1) ls (.int (σ 13 i0.toNatClampNeg) :: rest))) : W p l e R s m args below meth c H locs cells slots Q (F0 m pc ls (.int i0 :: .ref (ad 14) :: rest)) :=
  q_iald hx hb hK I 14 0 (by decide) a_M_first rfl ho hdg kk
theorem T_M_first (hx : p.tables.exec = Jvm.exec) (hb : c.code = cc) (hK : va_K D vwCl (tyL cs) s) (I : q_I D vwCl A H0 (q_ws 23 ad (cM ad cs σ)) H locs) {i0 x : Int32} (ho : q_in i0 4 = true) (hdg : decode cc pc = .ok (.iastore, 1)) (kk : ∀ (H : Heap) (locs : List Loc), q_I D vwCl A H0 (q_ws 23 ad (cM ad cs (q_up σ 13 i0.toNatClampNeg x))) H locs → W p l e R s m args below meth c H locs cells slots Q (F0 m (pc + 1) ls rest)) : W p l e R s m args below meth c H locs cells slots Q (F0 m pc ls (.int x :: .int i0 :: .ref (ad 14) :: rest)) :=
  q_iast hx hb hK I 14 0 (by decide) a_M_first rfl ho (a_M_first.trans (by simp only [e_M_first, q_up_row])) (h2_M_first) hdg kk
theorem L_M_second (hx : p.tables.exec = Jvm.exec) (hb : c.code = cc) (hK : va_K D vwCl (tyL cs) s) (I : q_I D vwCl A H0 (q_ws 23 ad (cM ad cs σ)) H locs) (hdg : decode cc pc = .ok (.arraylength, 1)) (kk : W p l e R s m args below meth c H locs cells slots Q (F0 m (pc + 1) ls (.int (4) :: rest))) : W p l e R s m args below meth c H locs cells slots Q (F0 m pc ls (.ref (ad 15) :: rest)) :=
  q_alen hx hb hK I 15 0 (by decide) a_M_second rfl rfl hdg kk
theorem A_M_second (hx : p.tables.exec = Jvm.exec) (hb : c.code = cc) (hK : va_K D vwCl (tyL cs) s) (I : q_I D vwCl A H0 (q_ws 23 ad (cM ad cs σ)) H locs) {i0 : Int32} (ho : q_in i0 4 = true) (hdg : decode cc pc = .ok (.iaload, 1)) (kk : W p l e R s m args below meth c H locs cells slots Q (F0 m (pc + 1) ls (.int (σ 14 i0.toNatClampNeg) :: rest))) : W p l e R s m args below meth c H locs cells slots Q (F0 m pc ls (.int i0 :: .ref (ad 15) :: rest)) :=
  q_iald hx hb hK I 15 0 (by decide) a_M_second rfl ho hdg kk
theorem T_M_second (hx : p.tables.exec = Jvm.exec) (hb : c.code = cc) (hK : va_K D vwCl (tyL cs) s) (I : q_I D vwCl A H0 (q_ws 23 ad (cM ad cs σ)) H locs) {i0 x : Int32} (ho : q_in i0 4 = true) (hdg : decode cc pc = .ok (.iastore, 1)) (kk : ∀ (H : Heap) (locs : List Loc), q_I D vwCl A H0 (q_ws 23 ad (cM ad cs (q_up σ 14 i0.toNatClampNeg x))) H locs → W p l e R s m args below meth c H locs cells slots Q (F0 m (pc + 1) ls rest)) : W p l e R s m args below meth c H locs cells slots Q (F0 m pc ls (.int x :: .int i0 :: .ref (ad 15) :: rest)) :=
  q_iast hx hb hK I 15 0 (by decide) a_M_second rfl ho (a_M_second.trans (by simp only [e_M_second, q_up_row])) (h2_M_second) hdg kk
theorem L_M_was (hx : p.tables.exec = Jvm.exec) (hb : c.code = cc) (hK : va_K D vwCl (tyL cs) s) (I : q_I D vwCl A H0 (q_ws 23 ad (cM ad cs σ)) H locs) (hdg : decode cc pc = .ok (.arraylength, 1)) (kk : W p l e R s m args below meth c H locs cells slots Q (F0 m (pc + 1) ls (.int (4) :: rest))) : W p l e R s m args below meth c H locs cells slots Q (F0 m pc ls (.ref (ad 16) :: rest)) :=
  q_alen hx hb hK I 16 0 (by decide) a_M_was rfl rfl hdg kk
theorem A_M_was (hx : p.tables.exec = Jvm.exec) (hb : c.code = cc) (hK : va_K D vwCl (tyL cs) s) (I : q_I D vwCl A H0 (q_ws 23 ad (cM ad cs σ)) H locs) {i0 : Int32} (ho : q_in i0 4 = true) (hdg : decode cc pc = .ok (.iaload, 1)) (kk : W p l e R s m args below meth c H locs cells slots Q (F0 m (pc + 1) ls (.int (σ 15 i0.toNatClampNeg) :: rest))) : W p l e R s m args below meth c H locs cells slots Q (F0 m pc ls (.int i0 :: .ref (ad 16) :: rest)) :=
  q_iald hx hb hK I 16 0 (by decide) a_M_was rfl ho hdg kk
theorem T_M_was (hx : p.tables.exec = Jvm.exec) (hb : c.code = cc) (hK : va_K D vwCl (tyL cs) s) (I : q_I D vwCl A H0 (q_ws 23 ad (cM ad cs σ)) H locs) {i0 x : Int32} (ho : q_in i0 4 = true) (hdg : decode cc pc = .ok (.iastore, 1)) (kk : ∀ (H : Heap) (locs : List Loc), q_I D vwCl A H0 (q_ws 23 ad (cM ad cs (q_up σ 15 i0.toNatClampNeg x))) H locs → W p l e R s m args below meth c H locs cells slots Q (F0 m (pc + 1) ls rest)) : W p l e R s m args below meth c H locs cells slots Q (F0 m pc ls (.int x :: .int i0 :: .ref (ad 16) :: rest)) :=
  q_iast hx hb hK I 16 0 (by decide) a_M_was rfl ho (a_M_was.trans (by simp only [e_M_was, q_up_row])) (h2_M_was) hdg kk
theorem L_M_untold (hx : p.tables.exec = Jvm.exec) (hb : c.code = cc) (hK : va_K D vwCl (tyL cs) s) (I : q_I D vwCl A H0 (q_ws 23 ad (cM ad cs σ)) H locs) (hdg : decode cc pc = .ok (.arraylength, 1)) (kk : W p l e R s m args below meth c H locs cells slots Q (F0 m (pc + 1) ls (.int (4) :: rest))) : W p l e R s m args below meth c H locs cells slots Q (F0 m pc ls (.ref (ad 17) :: rest)) :=
  q_alen hx hb hK I 17 1 (by decide) a_M_untold rfl rfl hdg kk
theorem A_M_untold (hx : p.tables.exec = Jvm.exec) (hb : c.code = cc) (hK : va_K D vwCl (tyL cs) s) (I : q_I D vwCl A H0 (q_ws 23 ad (cM ad cs σ)) H locs) {i0 : Int32} (ho : q_in i0 4 = true) (hdg : decode cc pc = .ok (.baload, 1)) (kk : W p l e R s m args below meth c H locs cells slots Q (F0 m (pc + 1) ls (.int (σ 16 i0.toNatClampNeg) :: rest))) : W p l e R s m args below meth c H locs cells slots Q (F0 m pc ls (.int i0 :: .ref (ad 17) :: rest)) :=
  q_zald hx hb hK I 17 1 (by decide) a_M_untold rfl ho hdg kk
theorem T_M_untold (hx : p.tables.exec = Jvm.exec) (hb : c.code = cc) (hK : va_K D vwCl (tyL cs) s) (I : q_I D vwCl A H0 (q_ws 23 ad (cM ad cs σ)) H locs) {i0 x : Int32} (ho : q_in i0 4 = true) (hB : q_isB x = true) (hdg : decode cc pc = .ok (.bastore, 1)) (kk : ∀ (H : Heap) (locs : List Loc), q_I D vwCl A H0 (q_ws 23 ad (cM ad cs (q_up σ 16 i0.toNatClampNeg x))) H locs → W p l e R s m args below meth c H locs cells slots Q (F0 m (pc + 1) ls rest)) : W p l e R s m args below meth c H locs cells slots Q (F0 m pc ls (.int x :: .int i0 :: .ref (ad 17) :: rest)) :=
  q_zast hx hb hK I 17 1 (by decide) a_M_untold rfl ho hB (a_M_untold.trans (by simp only [e_M_untold, q_up_row])) (h2_M_untold) hdg kk
theorem L_M_piped (hx : p.tables.exec = Jvm.exec) (hb : c.code = cc) (hK : va_K D vwCl (tyL cs) s) (I : q_I D vwCl A H0 (q_ws 23 ad (cM ad cs σ)) H locs) (hdg : decode cc pc = .ok (.arraylength, 1)) (kk : W p l e R s m args below meth c H locs cells slots Q (F0 m (pc + 1) ls (.int (4) :: rest))) : W p l e R s m args below meth c H locs cells slots Q (F0 m pc ls (.ref (ad 18) :: rest)) :=
  q_alen hx hb hK I 18 0 (by decide) a_M_piped rfl rfl hdg kk
theorem A_M_piped (hx : p.tables.exec = Jvm.exec) (hb : c.code = cc) (hK : va_K D vwCl (tyL cs) s) (I : q_I D vwCl A H0 (q_ws 23 ad (cM ad cs σ)) H locs) {i0 : Int32} (ho : q_in i0 4 = true) (hdg : decode cc pc = .ok (.iaload, 1)) (kk : W p l e R s m args below meth c H locs cells slots Q (F0 m (pc + 1) ls (.int (σ 17 i0.toNatClampNeg) :: rest))) : W p l e R s m args below meth c H locs cells slots Q (F0 m pc ls (.int i0 :: .ref (ad 18) :: rest)) :=
  q_iald hx hb hK I 18 0 (by decide) a_M_piped rfl ho hdg kk
theorem T_M_piped (hx : p.tables.exec = Jvm.exec) (hb : c.code = cc) (hK : va_K D vwCl (tyL cs) s) (I : q_I D vwCl A H0 (q_ws 23 ad (cM ad cs σ)) H locs) {i0 x : Int32} (ho : q_in i0 4 = true) (hdg : decode cc pc = .ok (.iastore, 1)) (kk : ∀ (H : Heap) (locs : List Loc), q_I D vwCl A H0 (q_ws 23 ad (cM ad cs (q_up σ 17 i0.toNatClampNeg x))) H locs → W p l e R s m args below meth c H locs cells slots Q (F0 m (pc + 1) ls rest)) : W p l e R s m args below meth c H locs cells slots Q (F0 m pc ls (.int x :: .int i0 :: .ref (ad 18) :: rest)) :=
  q_iast hx hb hK I 18 0 (by decide) a_M_piped rfl ho (a_M_piped.trans (by simp only [e_M_piped, q_up_row])) (h2_M_piped) hdg kk
theorem L_M_pipe (hx : p.tables.exec = Jvm.exec) (hb : c.code = cc) (hK : va_K D vwCl (tyL cs) s) (I : q_I D vwCl A H0 (q_ws 23 ad (cM ad cs σ)) H locs) (hdg : decode cc pc = .ok (.arraylength, 1)) (kk : W p l e R s m args below meth c H locs cells slots Q (F0 m (pc + 1) ls (.int (16) :: rest))) : W p l e R s m args below meth c H locs cells slots Q (F0 m pc ls (.ref (ad 19) :: rest)) :=
  q_alen hx hb hK I 19 0 (by decide) a_M_pipe rfl rfl hdg kk
theorem A_M_pipe (hx : p.tables.exec = Jvm.exec) (hb : c.code = cc) (hK : va_K D vwCl (tyL cs) s) (I : q_I D vwCl A H0 (q_ws 23 ad (cM ad cs σ)) H locs) {i0 : Int32} (ho : q_in i0 16 = true) (hdg : decode cc pc = .ok (.iaload, 1)) (kk : W p l e R s m args below meth c H locs cells slots Q (F0 m (pc + 1) ls (.int (σ 18 i0.toNatClampNeg) :: rest))) : W p l e R s m args below meth c H locs cells slots Q (F0 m pc ls (.int i0 :: .ref (ad 19) :: rest)) :=
  q_iald hx hb hK I 19 0 (by decide) a_M_pipe rfl ho hdg kk
theorem T_M_pipe (hx : p.tables.exec = Jvm.exec) (hb : c.code = cc) (hK : va_K D vwCl (tyL cs) s) (I : q_I D vwCl A H0 (q_ws 23 ad (cM ad cs σ)) H locs) {i0 x : Int32} (ho : q_in i0 16 = true) (hdg : decode cc pc = .ok (.iastore, 1)) (kk : ∀ (H : Heap) (locs : List Loc), q_I D vwCl A H0 (q_ws 23 ad (cM ad cs (q_up σ 18 i0.toNatClampNeg x))) H locs → W p l e R s m args below meth c H locs cells slots Q (F0 m (pc + 1) ls rest)) : W p l e R s m args below meth c H locs cells slots Q (F0 m pc ls (.int x :: .int i0 :: .ref (ad 19) :: rest)) :=
  q_iast hx hb hK I 19 0 (by decide) a_M_pipe rfl ho (a_M_pipe.trans (by simp only [e_M_pipe, q_up_row])) (h2_M_pipe) hdg kk
theorem L_M_edit (hx : p.tables.exec = Jvm.exec) (hb : c.code = cc) (hK : va_K D vwCl (tyL cs) s) (I : q_I D vwCl A H0 (q_ws 23 ad (cM ad cs σ)) H locs) (hdg : decode cc pc = .ok (.arraylength, 1)) (kk : W p l e R s m args below meth c H locs cells slots Q (F0 m (pc + 1) ls (.int (20) :: rest))) : W p l e R s m args below meth c H locs cells slots Q (F0 m pc ls (.ref (ad 20) :: rest)) :=
  q_alen hx hb hK I 20 0 (by decide) a_M_edit rfl rfl hdg kk
theorem A_M_edit (hx : p.tables.exec = Jvm.exec) (hb : c.code = cc) (hK : va_K D vwCl (tyL cs) s) (I : q_I D vwCl A H0 (q_ws 23 ad (cM ad cs σ)) H locs) {i0 : Int32} (ho : q_in i0 20 = true) (hdg : decode cc pc = .ok (.iaload, 1)) (kk : W p l e R s m args below meth c H locs cells slots Q (F0 m (pc + 1) ls (.int (σ 19 i0.toNatClampNeg) :: rest))) : W p l e R s m args below meth c H locs cells slots Q (F0 m pc ls (.int i0 :: .ref (ad 20) :: rest)) :=
  q_iald hx hb hK I 20 0 (by decide) a_M_edit rfl ho hdg kk
theorem T_M_edit (hx : p.tables.exec = Jvm.exec) (hb : c.code = cc) (hK : va_K D vwCl (tyL cs) s) (I : q_I D vwCl A H0 (q_ws 23 ad (cM ad cs σ)) H locs) {i0 x : Int32} (ho : q_in i0 20 = true) (hdg : decode cc pc = .ok (.iastore, 1)) (kk : ∀ (H : Heap) (locs : List Loc), q_I D vwCl A H0 (q_ws 23 ad (cM ad cs (q_up σ 19 i0.toNatClampNeg x))) H locs → W p l e R s m args below meth c H locs cells slots Q (F0 m (pc + 1) ls rest)) : W p l e R s m args below meth c H locs cells slots Q (F0 m pc ls (.int x :: .int i0 :: .ref (ad 20) :: rest)) :=
  q_iast hx hb hK I 20 0 (by decide) a_M_edit rfl ho (a_M_edit.trans (by simp only [e_M_edit, q_up_row])) (h2_M_edit) hdg kk
theorem L_M_queue (hx : p.tables.exec = Jvm.exec) (hb : c.code = cc) (hK : va_K D vwCl (tyL cs) s) (I : q_I D vwCl A H0 (q_ws 23 ad (cM ad cs σ)) H locs) (hdg : decode cc pc = .ok (.arraylength, 1)) (kk : W p l e R s m args below meth c H locs cells slots Q (F0 m (pc + 1) ls (.int (40) :: rest))) : W p l e R s m args below meth c H locs cells slots Q (F0 m pc ls (.ref (ad 21) :: rest)) :=
  q_alen hx hb hK I 21 0 (by decide) a_M_queue rfl rfl hdg kk
theorem A_M_queue (hx : p.tables.exec = Jvm.exec) (hb : c.code = cc) (hK : va_K D vwCl (tyL cs) s) (I : q_I D vwCl A H0 (q_ws 23 ad (cM ad cs σ)) H locs) {i0 : Int32} (ho : q_in i0 40 = true) (hdg : decode cc pc = .ok (.iaload, 1)) (kk : W p l e R s m args below meth c H locs cells slots Q (F0 m (pc + 1) ls (.int (σ 20 i0.toNatClampNeg) :: rest))) : W p l e R s m args below meth c H locs cells slots Q (F0 m pc ls (.int i0 :: .ref (ad 21) :: rest)) :=
  q_iald hx hb hK I 21 0 (by decide) a_M_queue rfl ho hdg kk
theorem T_M_queue (hx : p.tables.exec = Jvm.exec) (hb : c.code = cc) (hK : va_K D vwCl (tyL cs) s) (I : q_I D vwCl A H0 (q_ws 23 ad (cM ad cs σ)) H locs) {i0 x : Int32} (ho : q_in i0 40 = true) (hdg : decode cc pc = .ok (.iastore, 1)) (kk : ∀ (H : Heap) (locs : List Loc), q_I D vwCl A H0 (q_ws 23 ad (cM ad cs (q_up σ 20 i0.toNatClampNeg x))) H locs → W p l e R s m args below meth c H locs cells slots Q (F0 m (pc + 1) ls rest)) : W p l e R s m args below meth c H locs cells slots Q (F0 m pc ls (.int x :: .int i0 :: .ref (ad 21) :: rest)) :=
  q_iast hx hb hK I 21 0 (by decide) a_M_queue rfl ho (a_M_queue.trans (by simp only [e_M_queue, q_up_row])) (h2_M_queue) hdg kk
theorem L_M_screen (hx : p.tables.exec = Jvm.exec) (hb : c.code = cc) (hK : va_K D vwCl (tyL cs) s) (I : q_I D vwCl A H0 (q_ws 23 ad (cM ad cs σ)) H locs) (hdg : decode cc pc = .ok (.arraylength, 1)) (kk : W p l e R s m args below meth c H locs cells slots Q (F0 m (pc + 1) ls (.int (100) :: rest))) : W p l e R s m args below meth c H locs cells slots Q (F0 m pc ls (.ref (ad 22) :: rest)) :=
  q_alen hx hb hK I 22 0 (by decide) a_M_screen rfl rfl hdg kk
theorem A_M_screen (hx : p.tables.exec = Jvm.exec) (hb : c.code = cc) (hK : va_K D vwCl (tyL cs) s) (I : q_I D vwCl A H0 (q_ws 23 ad (cM ad cs σ)) H locs) {i0 : Int32} (ho : q_in i0 100 = true) (hdg : decode cc pc = .ok (.iaload, 1)) (kk : W p l e R s m args below meth c H locs cells slots Q (F0 m (pc + 1) ls (.int (σ 21 i0.toNatClampNeg) :: rest))) : W p l e R s m args below meth c H locs cells slots Q (F0 m pc ls (.int i0 :: .ref (ad 22) :: rest)) :=
  q_iald hx hb hK I 22 0 (by decide) a_M_screen rfl ho hdg kk
theorem T_M_screen (hx : p.tables.exec = Jvm.exec) (hb : c.code = cc) (hK : va_K D vwCl (tyL cs) s) (I : q_I D vwCl A H0 (q_ws 23 ad (cM ad cs σ)) H locs) {i0 x : Int32} (ho : q_in i0 100 = true) (hdg : decode cc pc = .ok (.iastore, 1)) (kk : ∀ (H : Heap) (locs : List Loc), q_I D vwCl A H0 (q_ws 23 ad (cM ad cs (q_up σ 21 i0.toNatClampNeg x))) H locs → W p l e R s m args below meth c H locs cells slots Q (F0 m (pc + 1) ls rest)) : W p l e R s m args below meth c H locs cells slots Q (F0 m pc ls (.int x :: .int i0 :: .ref (ad 22) :: rest)) :=
  q_iast hx hb hK I 22 0 (by decide) a_M_screen rfl ho (a_M_screen.trans (by simp only [e_M_screen, q_up_row])) (h2_M_screen) hdg kk
end ROWSM
