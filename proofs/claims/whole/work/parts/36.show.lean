/-! SHOWING AND ECHOING -/
theorem has_C (σ : q_St) (f : Int32) : f_Terminal_has σ f = some (if (σ 22 0 &&& f) = 0 then 0 else 1, σ) := by
  unfold f_Terminal_has f_Terminal_has_14
  by_cases h : (σ 22 0 &&& f) = 0
  · rw [if_pos h, if_pos h]; rfl
  · rw [if_neg h, if_neg h]; rfl
theorem flagged_M (μ : q_St) (f : Int32) : f_Mo_flagged μ f = some (if (μ 42 0 &&& f) = 0 then 0 else 1, μ) := by
  unfold f_Mo_flagged f_Mo_flagged_14
  by_cases h : (μ 42 0 &&& f) = 0
  · rw [if_pos h, if_pos h]; rfl
  · rw [if_neg h, if_neg h]; rfl
def shw (B C : Nat) (σ μ : q_St) (a b : Option q_St) : Prop := ∃ σ' μ', a = some σ' ∧ b = some μ' ∧ eqx [2, 24, 25] σ σ' ∧ eqx [21, 46] μ μ' ∧ RD (B + C) σ' μ'
theorem shw_mono {B C D : Nat} {σ μ : q_St} {a b : Option q_St} (h : C ≤ D) (H : shw B C σ μ a b) : shw B D σ μ a b := by
  obtain ⟨σ', μ', h1, h2, h3, h4, h5⟩ := H
  exact ⟨σ', μ', h1, h2, h3, h4, RD_mono (by omega) h5⟩
theorem add_sim {B : Nat} (hB : B < 2 ^ 30) {σ μ : q_St} (H : RD B σ μ) (c : Int32) : shw B 1 σ μ (f_Display_add σ c) (f_Mo_put μ c) := by
  obtain ⟨T, hT, g1, g2, g3, g4⟩ := H
  have hm : T % 100 < 100 := Nat.mod_lt _ (by decide)
  -- where both write
  have eM : f_Mo_put μ c = some (q_up (q_up μ 21 (T % 100) c) 46 0 (nI (T + 1))) := by
    unfold f_Mo_put
    rw [g2, show (100 : Int32) = nI 100 from rfl, pk_rem (show T < 2 ^ 31 by omega) (by decide) (by decide), q_grd_t (q_inT hm (by decide)), nI_clamp (show T % 100 < 2 ^ 31 by omega), q_up_f (by decide), g2, nI_1]
  have eC21 : ∀ σ0 : q_St, σ0 24 0 = nI (T % 100) → σ0 25 0 = nI T → f_Display_add_21 σ0 c = some (q_up (q_up (q_up σ0 2 (T % 100) c) 24 0 (nI (T % 100 + 1))) 25 0 (nI (T + 1))) := by
    intro σ0 h1 h2
    unfold f_Display_add_21
    rw [h1, q_grd_t (q_inT hm (by decide)), nI_clamp (show T % 100 < 2 ^ 31 by omega)]
    have u1 : (q_up σ0 2 (T % 100) c) 24 0 = nI (T % 100) := by rw [q_up_f (by decide)]; exact h1
    rw [u1, nI_1]
    have u2 : (q_up (q_up σ0 2 (T % 100) c) 24 0 (nI (T % 100 + 1))) 25 0 = nI T := by rw [q_up_f (by decide), q_up_f (by decide)]; exact h2
    rw [u2, nI_1]
  obtain ⟨σ0, eC, e0, k24, k25, k2⟩ : ∃ σ0, f_Display_add σ c = f_Display_add_21 σ0 c ∧ eqx [2, 24, 25] σ σ0 ∧ σ0 24 0 = nI (T % 100) ∧ σ0 25 0 = nI T ∧ ∀ k, σ0 2 k = σ 2 k := by
    unfold f_Display_add f_Display_add_16
    rcases g3 with h | ⟨h, h'⟩
    · refine ⟨σ, ?_, eqx_rf _ _, h, g1, fun _ => rfl⟩
      rw [h, if_neg (nI_pos (show T % 100 < 2 ^ 31 by omega)), if_pos (show nI (T % 100) < (100 : Int32) by rw [show (100 : Int32) = nI 100 from rfl]; exact nI_lt hm (by decide))]
    · refine ⟨q_up σ 24 0 0, ?_, eqx_up (by decide), by rw [q_up_self, h']; rfl, by rw [q_up_f (by decide)]; exact g1, fun k => by rw [q_up_f (by decide)]⟩
      rw [h, if_neg (by decide), if_neg (by decide)]
  refine ⟨_, _, by rw [eC]; exact eC21 σ0 k24 k25, eM, eqx_tr (eqx_tr (eqx_tr e0 (eqx_up (by decide))) (eqx_up (by decide))) (eqx_up (by decide)), eqx_tr (eqx_up (by decide)) (eqx_up (by decide)), T + 1, by omega, by rw [q_up_self], by rw [q_up_self], ?_, ?_⟩
  · rw [q_up_f (by decide), q_up_self]
    by_cases h99 : T % 100 = 99
    · right; exact ⟨by rw [h99]; rfl, by omega⟩
    · left; rw [show (T + 1) % 100 = T % 100 + 1 by omega]
  · intro k hk
    have v1 : (q_up (q_up (q_up σ0 2 (T % 100) c) 24 0 (nI (T % 100 + 1))) 25 0 (nI (T + 1))) 2 k = if k = T % 100 then c else σ 2 k := by
      rw [q_up_f (by decide), q_up_f (by decide)]; unfold q_up; rw [k2]; simp
    have v2 : (q_up (q_up μ 21 (T % 100) c) 46 0 (nI (T + 1))) 21 k = if k = T % 100 then c else μ 21 k := by
      rw [q_up_f (by decide)]; unfold q_up; simp
    rw [v1, v2, g4 k hk]
/-- two showings, one behind the other -/
theorem shw_then {B C D : Nat} {σ μ : q_St} {a b : Option q_St} {f g : q_St → Option q_St} (H : shw B C σ μ a b) (k : ∀ σ' μ', eqx [2, 24, 25] σ σ' → eqx [21, 46] μ μ' → RD (B + C) σ' μ' → shw (B + C) D σ' μ' (f σ') (g μ')) : shw B (C + D) σ μ (q_bnd a f) (q_bnd b g) := by
  obtain ⟨σ1, μ1, e1, e2, h1, h2, h3⟩ := H
  obtain ⟨σ2, μ2, e3, e4, h4, h5, h6⟩ := k σ1 μ1 h1 h2 h3
  exact ⟨σ2, μ2, by rw [e1]; exact e3, by rw [e2]; exact e4, eqx_tr h1 h4, eqx_tr h2 h5, by rw [← Nat.add_assoc]; exact h6⟩
theorem shw_id {B : Nat} {σ μ : q_St} (H : RD B σ μ) : shw B 0 σ μ (some σ) (some μ) := ⟨σ, μ, rfl, rfl, eqx_rf _ _, eqx_rf _ _, H⟩
theorem show_sim {B : Nat} (hB : B < 2 ^ 29) {σ μ : q_St} (H : RD B σ μ) (hf : σ 22 0 = μ 42 0) (c : Int32) : shw B 2 σ μ (f_Terminal_show σ c) (f_Mo_show μ c) := by
  unfold f_Terminal_show f_Terminal_show_24 f_Mo_show f_Mo_show_21
  have one : ∀ (B : Nat) (σ μ : q_St), B < 2 ^ 30 → RD B σ μ → shw B 1 σ μ (q_bnd (f_Display_add σ c) fun r => some r) (q_bnd (f_Mo_put μ c) fun r => some r) := fun B σ μ hB H => shw_then (add_sim hB H c) (fun σ' μ' _ _ h => shw_id h)
  by_cases h : c = 10
  · rw [if_pos h, if_pos h, has_C, flagged_M, hf]
    simp only [q_bnd_v]
    by_cases h32 : (μ 42 0 &&& 32) = 0
    · simp only [h32, if_true]
      exact shw_mono (by decide) (one B σ μ (by omega) H)
    · simp only [h32, if_false, i1z]
      exact shw_then (add_sim (by omega) H 13) (fun σ' μ' _ _ h => one (B + 1) σ' μ' (by omega) h)
  · rw [if_neg h, if_neg h]
    exact shw_mono (by decide) (one B σ μ (by omega) H)
theorem echo_sim {B : Nat} (hB : B < 2 ^ 28) {σ μ : q_St} (H : RD B σ μ) (hf : σ 22 0 = μ 42 0) (c : Int32) : shw B 4 σ μ (f_Terminal_echo σ c) (f_Mo_echo μ c) := by
  have fl : ∀ {σ' μ' : q_St}, eqx [2, 24, 25] σ σ' → eqx [21, 46] μ μ' → σ' 22 0 = μ' 42 0 := fun h1 h2 => by rw [h1 22 (by decide), h2 42 (by decide)]; exact hf
  have one : shw B 4 σ μ (q_bnd (f_Terminal_show σ c) fun r => some r) (q_bnd (f_Mo_show μ c) fun r => some r) := shw_mono (by decide) (shw_then (D := 0) (show_sim (by omega) H hf c) (fun σ' μ' _ _ h => shw_id h))
  have two : ∀ d : Int32, shw B 4 σ μ (q_bnd (f_Terminal_show σ 94) fun r => q_bnd (f_Terminal_show r d) fun r => some r) (q_bnd (f_Mo_show μ 94) fun r => q_bnd (f_Mo_show r d) fun r => some r) := fun d => shw_then (D := 2) (show_sim (by omega) H hf 94) (fun σ' μ' h1 h2 h => shw_then (D := 0) (show_sim (by omega) h (fl h1 h2) d) (fun σ' μ' _ _ h => shw_id h))
  unfold f_Terminal_echo f_Terminal_echo_27 f_Terminal_echo_33 f_Terminal_echo_55 f_Mo_echo f_Mo_echo_21 f_Mo_echo_27 f_Mo_echo_49 f_Mo_echo_60
  rw [has_C, flagged_M, hf]
  simp only [q_bnd_v]
  by_cases h2 : (μ 42 0 &&& 2) = 0
  · simp only [h2, if_true]
    exact shw_mono (by decide) (shw_id H)
  · simp only [h2, if_false, i1z]
    by_cases h10 : c = 10
    · subst h10
      simp only [if_true, if_neg (show ¬ (10 : Int32) = 127 by decide)]
      exact one
    · by_cases h127 : c = 127
      · subst h127
        simp only [if_neg (show ¬ (127 : Int32) = 10 by decide), if_neg (show ¬ (127 : Int32) < 32 by decide), if_true]
        exact two 63
      · by_cases h32 : c < 32
        · simp only [h10, h127, h32, if_true, if_false]
          exact two (64 + c)
        · simp only [h10, h127, h32, if_false]
          exact one
