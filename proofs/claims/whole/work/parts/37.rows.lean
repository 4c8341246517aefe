/-! ROWS OF NUMBERS: a ring in the class -/
/-- only the row r has changed -/
def eqr (r : Nat) (σ σ' : q_St) : Prop := (∀ f, f ≠ 10 + r → f ≠ 26 → f ≠ 27 → σ' f = σ f) ∧ ∀ k, k ≠ r → σ' 26 k = σ 26 k ∧ σ' 27 k = σ 27 k
theorem eqr_rf (r : Nat) (σ : q_St) : eqr r σ σ := ⟨fun _ _ _ _ => rfl, fun _ _ => ⟨rfl, rfl⟩⟩
theorem eqr_tr {r : Nat} {a b c : q_St} (h : eqr r a b) (k : eqr r b c) : eqr r a c := ⟨fun f h1 h2 h3 => (k.1 f h1 h2 h3).trans (h.1 f h1 h2 h3), fun x hx => ⟨((k.2 x hx).1).trans (h.2 x hx).1, ((k.2 x hx).2).trans (h.2 x hx).2⟩⟩
theorem ring_o {r r' N c : Nat} {g : Nat → Int32} {σ σ' : q_St} (h : eqr r σ σ') (hr : r' ≠ r) (hl : r' < 16) (hl2 : r < 16) (H : ring σ r' N c g) : ring σ' r' N c g := by
  obtain ⟨o, a1, a2, a3, a4, a5⟩ := H
  exact ⟨o, a1, by rw [(h.2 r' hr).1]; exact a2, by rw [(h.2 r' hr).2]; exact a3, a4, fun k hk => by rw [h.1 (10 + r') (by omega) (by omega) (by omega)]; exact a5 k hk⟩
theorem ring_g {r N c : Nat} {g g' : Nat → Int32} {σ : q_St} (h : ∀ k, k < c → g' k = g k) (H : ring σ r N c g) : ring σ r N c g' := by
  obtain ⟨o, a1, a2, a3, a4, a5⟩ := H
  exact ⟨o, a1, a2, a3, a4, fun k hk => by rw [h k hk]; exact a5 k hk⟩
theorem rl0 : q_rl 0 = 20 := rfl
theorem rl1 : q_rl 1 = 40 := rfl
theorem rl2 (j : Nat) : q_rl (2 + j) = 4 := by unfold q_rl; rw [if_neg (by omega), if_neg (by omega)]
theorem place_C {σ : q_St} {r N o k : Nat} (hN : q_rl r = N) (hN2 : N < 1000) (ho : o < N) (h : σ 26 r = nI o) (hk : k ≤ N) : f_NumberRow_placeOf σ r (nI k) = some (nI ((o + k) % N), σ) := by
  unfold f_NumberRow_placeOf f_NumberRow_placeOf_27
  rw [h, hN, nI_add]
  by_cases hl : o + k < N
  · rw [if_pos (nI_lt hl (by omega)), Nat.mod_eq_of_lt hl]
  · rw [if_neg (nI_nlt (by omega) (by omega)), pk_sub (by omega)]
    have : (o + k) % N = o + k - N := by rw [Nat.mod_eq_sub_mod (by omega), Nat.mod_eq_of_lt (by omega)]
    rw [this]
theorem isPlace_C {σ : q_St} {r N a : Nat} (hN : q_rl r = N) (hN2 : N < 1000) (ha : a < N) : f_NumberRow_isPlace σ r (nI a) = some (1, σ) := by
  unfold f_NumberRow_isPlace f_NumberRow_isPlace_18
  rw [hN, if_neg (nI_pos (show a < 2 ^ 31 by omega)), if_neg (nI_ge ha (by omega))]
  rfl
theorem numberAt_C {σ : q_St} {r N a : Nat} (hN : q_rl r = N) (hN2 : N < 1000) (ha : a < N) : f_NumberRow_numberAt σ r (nI a) = some (σ (10 + r) a, σ) := by
  unfold f_NumberRow_numberAt f_NumberRow_numberAt_18
  rw [q_bnd_s (isPlace_C hN hN2 ha), if_neg (show ¬ (1 : Int32) = 0 by decide), hN, q_grd_t (q_inT ha (by omega)), nI_clamp (show a < 2 ^ 31 by omega)]
theorem modne {o k k' N : Nat} (h : (o + k) % N = (o + k') % N) (hk : k < N) (hk' : k' < N) : k = k' := by
  have h1 : (o + k) % N = (o % N + k) % N := by rw [Nat.add_mod, Nat.mod_eq_of_lt hk]
  have h2 : (o + k') % N = (o % N + k') % N := by rw [Nat.add_mod, Nat.mod_eq_of_lt hk']
  have ho : o % N < N := Nat.mod_lt _ (by omega)
  rw [h1, h2] at h
  generalize o % N = z at *
  by_cases a : z + k < N
  · by_cases b : z + k' < N
    · rw [Nat.mod_eq_of_lt a, Nat.mod_eq_of_lt b] at h; omega
    · rw [Nat.mod_eq_of_lt a, Nat.mod_eq_sub_mod (by omega), Nat.mod_eq_of_lt (by omega)] at h; omega
  · by_cases b : z + k' < N
    · rw [Nat.mod_eq_of_lt b, Nat.mod_eq_sub_mod (by omega), Nat.mod_eq_of_lt (by omega)] at h; omega
    · rw [Nat.mod_eq_sub_mod (show N ≤ z + k by omega), Nat.mod_eq_of_lt (show z + k - N < N by omega), Nat.mod_eq_sub_mod (show N ≤ z + k' by omega), Nat.mod_eq_of_lt (show z + k' - N < N by omega)] at h; omega
theorem put_C {σ : q_St} {r N c : Nat} {g : Nat → Int32} (hr : r < 16) (hN : q_rl r = N) (hN2 : N < 1000) (H : ring σ r N c g) (hc : c < N) (x : Int32) : ∃ σ', f_NumberRow_putLast σ r x = some σ' ∧ eqr r σ σ' ∧ ring σ' r N (c + 1) (upd g c x) := by
  obtain ⟨o, a1, a2, a3, a4, a5⟩ := H
  have hm : (o + c) % N < N := Nat.mod_lt _ (by omega)
  refine ⟨q_up (q_up σ (10 + r) ((o + c) % N) x) 27 r (nI (c + 1)), ?_, ?_, o, a1, ?_, ?_, by omega, ?_⟩
  · unfold f_NumberRow_putLast f_NumberRow_putLast_46
    rw [a3, q_bnd_s (place_C hN hN2 a1 a2 (Nat.le_of_lt hc))]
    simp only []
    rw [a3, hN, if_neg (nI_ge hc (by omega)), q_bnd_s (isPlace_C hN hN2 hm), if_neg (show ¬ (1 : Int32) = 0 by decide), q_grd_t (q_inT hm (by omega)), nI_clamp (show (o + c) % N < 2 ^ 31 by omega)]
    have u : (q_up σ (10 + r) ((o + c) % N) x) 27 r = nI c := by rw [q_up_f (by omega)]; exact a3
    rw [u, nI_1]
  · refine ⟨fun f h1 h2 h3 => ?_, fun k hk => ⟨?_, ?_⟩⟩
    · rw [q_up_rowf h3, q_up_rowf h1]
    · rw [q_up_f (by decide), q_up_f (by omega)]
    · rw [q_up_i hk, q_up_f (by omega)]
  · rw [q_up_f (by decide), q_up_f (by omega)]; exact a2
  · rw [q_up_self]
  · intro k hk
    rw [q_up_f (by omega)]
    by_cases hkc : k = c
    · subst hkc; rw [q_up_self]; simp [upd]
    · rw [q_up_i (fun z => hkc (modne z (by omega) (by omega)))]
      simp only [upd, if_neg hkc]
      exact a5 k (by omega)
theorem room_C {σ : q_St} {r N c : Nat} {g : Nat → Int32} (hN : q_rl r = N) (hN2 : N < 1000) (H : ring σ r N c g) {m : Nat} (hm : m < 1000) : f_NumberRow_hasRoomFor σ r (nI m) = some (if c + m ≤ N then 1 else 0, σ) := by
  obtain ⟨o, a1, a2, a3, a4, a5⟩ := H
  unfold f_NumberRow_hasRoomFor f_NumberRow_hasRoomFor_19
  rw [a3, hN, nI_add]
  by_cases h : c + m ≤ N
  · rw [if_neg (nI_nlt h (by omega)), if_pos h]; rfl
  · rw [if_pos (nI_lt (by omega) (by omega)), if_neg h]; rfl
theorem old_C {σ : q_St} {r N c : Nat} {g : Nat → Int32} (hr : r < 16) (hN : q_rl r = N) (hN2 : N < 1000) (H : ring σ r N (c + 1) g) : ∃ σ', f_NumberRow_takeOldest σ r = some (g 0, σ') ∧ eqr r σ σ' ∧ ring σ' r N c (fun k => g (k + 1)) := by
  obtain ⟨o, a1, a2, a3, a4, a5⟩ := H
  have hm : (o + 1) % N < N := Nat.mod_lt _ (by omega)
  refine ⟨q_up (q_up σ 26 r (nI ((o + 1) % N))) 27 r (nI c), ?_, ?_, (o + 1) % N, hm, ?_, ?_, by omega, ?_⟩
  · unfold f_NumberRow_takeOldest
    have h1 := place_C (k := 1) hN hN2 a1 a2 (by omega)
    rw [show nI 1 = (1 : Int32) from rfl] at h1
    rw [a3, if_neg (nI_ne0 (by omega) (by omega)), a2, q_bnd_s (numberAt_C hN hN2 a1), q_bnd_s h1]
    have u : (q_up σ 26 r (nI ((o + 1) % N))) 27 r = nI (c + 1) := by rw [q_up_f (by decide)]; exact a3
    have v := a5 0 (by omega)
    rw [Nat.add_zero, Nat.mod_eq_of_lt a1] at v
    rw [u, nI_pred, v]
  · refine ⟨fun f h1 h2 h3 => ?_, fun k hk => ⟨?_, ?_⟩⟩
    · rw [q_up_rowf h3, q_up_rowf h2]
    · rw [q_up_f (by decide), q_up_i hk]
    · rw [q_up_i hk, q_up_f (by decide)]
  · rw [q_up_f (by decide), q_up_self]
  · rw [q_up_self]
  · intro k hk
    rw [q_up_f (by omega), q_up_f (by omega)]
    have : ((o + 1) % N + k) % N = (o + (k + 1)) % N := by rw [Nat.mod_add_mod]; congr 1; omega
    rw [this]
    exact a5 (k + 1) (by omega)
theorem old0_C {σ : q_St} {r N : Nat} {g : Nat → Int32} (H : ring σ r N 0 g) : f_NumberRow_takeOldest σ r = some (-1, σ) := by
  obtain ⟨o, a1, a2, a3, a4, a5⟩ := H
  unfold f_NumberRow_takeOldest
  rw [a3, if_pos (show nI 0 = 0 from rfl)]
theorem last_C {σ : q_St} {r N c : Nat} {g : Nat → Int32} (hr : r < 16) (hN : q_rl r = N) (hN2 : N < 1000) (H : ring σ r N (c + 1) g) : ∃ σ', f_NumberRow_takeLatest σ r = some (g c, σ') ∧ eqr r σ σ' ∧ ring σ' r N c g := by
  obtain ⟨o, a1, a2, a3, a4, a5⟩ := H
  have hm : (o + c) % N < N := Nat.mod_lt _ (by omega)
  refine ⟨q_up σ 27 r (nI c), ?_, ?_, o, a1, ?_, ?_, by omega, ?_⟩
  · unfold f_NumberRow_takeLatest
    rw [a3, if_neg (nI_ne0 (by omega) (by omega)), nI_pred, q_up_self, q_bnd_s (place_C hN hN2 a1 (by rw [q_up_f (by decide)]; exact a2) (by omega)), q_bnd_s (numberAt_C hN hN2 hm)]
    simp only [q_up_f (show 10 + r ≠ 27 by omega)]
    rw [a5 c (by omega)]
  · refine ⟨fun f h1 h2 h3 => by rw [q_up_rowf h3], fun k hk => ⟨by rw [q_up_f (by decide)], by rw [q_up_i hk]⟩⟩
  · rw [q_up_f (by decide)]; exact a2
  · rw [q_up_self]
  · intro k hk
    rw [q_up_f (by omega)]
    exact a5 k (by omega)
theorem clear_C {σ : q_St} {r N c : Nat} {g : Nat → Int32} (hr : r < 16) (H : ring σ r N c g) : f_NumberRow_clear σ r = some (q_up σ 27 r 0) ∧ eqr r σ (q_up σ 27 r 0) ∧ ∀ g', ring (q_up σ 27 r 0) r N 0 g' := by
  obtain ⟨o, a1, a2, a3, a4, a5⟩ := H
  refine ⟨rfl, ⟨fun f h1 h2 h3 => by rw [q_up_rowf h3], fun k hk => ⟨by rw [q_up_f (by decide)], by rw [q_up_i hk]⟩⟩, fun g' => ⟨o, a1, by rw [q_up_f (by decide)]; exact a2, by rw [q_up_self]; rfl, by omega, fun k hk => absurd hk (Nat.not_lt_zero k)⟩⟩
