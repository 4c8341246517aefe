/-! KEYS that send no signal -/
def tfr (σ σ' : q_St) : Prop := (∀ f, f ∉ [2, 24, 25, 10, 11, 26, 27] → σ' f = σ f) ∧ ∀ k, 2 ≤ k → σ' 26 k = σ 26 k ∧ σ' 27 k = σ 27 k
abbrev mfr (μ μ' : q_St) : Prop := eqx [21, 46, 19, 20, 44, 45] μ μ'
theorem tfr_rf (σ : q_St) : tfr σ σ := ⟨fun _ _ => rfl, fun _ _ => ⟨rfl, rfl⟩⟩
theorem tfr_tr {a b c : q_St} (h : tfr a b) (k : tfr b c) : tfr a c := ⟨fun f z => (k.1 f z).trans (h.1 f z), fun x hx => ⟨((k.2 x hx).1).trans (h.2 x hx).1, ((k.2 x hx).2).trans (h.2 x hx).2⟩⟩
theorem tfr_eqr {r : Nat} {σ σ' : q_St} (hr : r < 2) (h : eqr r σ σ') : tfr σ σ' := by
  refine ⟨fun f hf => h.1 f ?_ ?_ ?_, fun k hk => h.2 k (by omega)⟩
  · intro z; apply hf; rcases (show r = 0 ∨ r = 1 by omega) with rfl | rfl <;> rw [z] <;> decide
  · intro z; apply hf; rw [z]; decide
  · intro z; apply hf; rw [z]; decide
theorem tfr_shw {σ σ' : q_St} (h : eqx [2, 24, 25] σ σ') : tfr σ σ' := ⟨fun f hf => h f (fun w => hf (by simp at w ⊢; omega)), fun k _ => ⟨by rw [h 26 (by decide)], by rw [h 27 (by decide)]⟩⟩
theorem mfr_shw {σ σ' : q_St} (h : eqx [21, 46] σ σ') : mfr σ σ' := eqx_mono h (by intro f; simp; omega)
/-- the terminal's rows and screen -/
def TS (B : Nat) (σ μ : q_St) : Prop := σ 22 0 = μ 42 0 ∧ RQ σ μ ∧ RD B σ μ
def TY (B C : Nat) (σ μ : q_St) (a b : Option (Int32 × q_St)) : Prop := ∃ r σ' μ', a = some (r, σ') ∧ b = some (r, μ') ∧ (r = 0 ∨ r = 1) ∧ tfr σ σ' ∧ mfr μ μ' ∧ TS (B + C) σ' μ'
theorem TY_mono {B C D : Nat} {σ μ : q_St} {a b : Option (Int32 × q_St)} (h : C ≤ D) (H : TY B C σ μ a b) : TY B D σ μ a b := by
  obtain ⟨r, σ', μ', h1, h2, h3, h4, h5, h6, h7, h8⟩ := H
  exact ⟨r, σ', μ', h1, h2, h3, h4, h5, h6, h7, RD_mono (by omega) h8⟩
/-- RQ again, where the first two rows were written -/
theorem RQ_mk {σ σ' μ μ' : q_St} (H : RQ σ μ) (ht : tfr σ σ') (hm : mfr μ μ') (h0 : ∃ c, ring σ' 0 20 c (μ' 19) ∧ μ' 44 0 = nI c) (h1 : ∃ c, ring σ' 1 40 c (μ' 20) ∧ μ' 45 0 = nI c) : RQ σ' μ' := by
  refine ⟨h0, h1, fun j hj => ?_⟩
  obtain ⟨c, ⟨o, a1, a2, a3, a4, a5⟩, b⟩ := H.2.2 j hj
  refine ⟨c, ⟨o, a1, by rw [(ht.2 (2 + j) (by omega)).1]; exact a2, by rw [(ht.2 (2 + j) (by omega)).2]; exact a3, a4, fun k hk => ?_⟩, by rw [hm 17 (by decide)]; exact b⟩
  rw [ht.1 (10 + (2 + j)) (by simp; omega), hm 18 (by decide)]
  exact a5 k hk
theorem RD_eqr {B r : Nat} {σ σ' μ μ' : q_St} (hr : r < 6) (h : eqr r σ σ') (g : eqx [19, 20, 44, 45, 17, 18] μ μ') (H : RD B σ μ) : RD B σ' μ' :=
  RD_c (F := [10 + r, 26, 27]) (fun f hf => h.1 f (fun z => hf (by rw [z]; simp)) (fun z => hf (by rw [z]; simp)) (fun z => hf (by rw [z]; simp))) g (by intro f hf; simp at hf ⊢; omega) (by decide) H
/-- an echo behind a write -/
theorem TS_echo {B : Nat} (hB : B < 2 ^ 28) {σ μ : q_St} (H : TS B σ μ) (c : Int32) : ∃ σ' μ', f_Terminal_echo σ c = some σ' ∧ f_Mo_echo μ c = some μ' ∧ tfr σ σ' ∧ mfr μ μ' ∧ TS (B + 4) σ' μ' := by
  obtain ⟨σ', μ', e1, e2, h1, h2, h3⟩ := echo_sim hB H.2.2 H.1 c
  exact ⟨σ', μ', e1, e2, tfr_shw h1, mfr_shw h2, by rw [h1 22 (by decide), h2 42 (by decide)]; exact H.1, RQ_c h1 h2 (by decide) (by decide) H.2.1, h3⟩
theorem upM (μ : q_St) (f c : Nat) (x y : Int32) (g : Nat) (h : f ≠ g) : (q_up (q_up μ f c x) g 0 y) f = upd (μ f) c x := by rw [q_up_rowf h, q_up_row]
/-- a number is put into the queue -/
theorem TS_push {B : Nat} {σ μ : q_St} (H : TS B σ μ) {c : Nat} (h1 : ring σ 1 40 c (μ 20)) (h2 : μ 45 0 = nI c) (hc : c < 40) (x : Int32) : ∃ σ', f_NumberRow_putLast σ 1 x = some σ' ∧ tfr σ σ' ∧ mfr μ (q_up (q_up μ 20 c x) 45 0 (nI (c + 1))) ∧ TS B σ' (q_up (q_up μ 20 c x) 45 0 (nI (c + 1))) ∧ eqr 1 σ σ' := by
  obtain ⟨σ', e1, E1, R1⟩ := put_C (by decide) rl1 (by decide) h1 hc x
  have E2 : eqx [20, 45] μ (q_up (q_up μ 20 c x) 45 0 (nI (c + 1))) := eqx_tr (eqx_up (by decide)) (eqx_up (by decide))
  have M2 : mfr μ (q_up (q_up μ 20 c x) 45 0 (nI (c + 1))) := eqx_mono E2 (by intro f; simp; omega)
  refine ⟨σ', e1, tfr_eqr (by decide) E1, M2, ⟨by rw [(tfr_eqr (by decide) E1).1 22 (by decide), E2 42 (by decide)]; exact H.1, ?_, RD_eqr (by decide) E1 (eqx_mono E2 (by intro f; simp; omega)) H.2.2⟩, E1⟩
  obtain ⟨⟨c0, a0, b0⟩, -, -⟩ := H.2.1
  refine RQ_mk H.2.1 (tfr_eqr (by decide) E1) M2 ⟨c0, ?_, by rw [E2 44 (by decide)]; exact b0⟩ ⟨c + 1, ?_, by rw [q_up_self]⟩
  · rw [E2 19 (by decide)]; exact ring_o E1 (by decide) (by decide) (by decide) a0
  · rw [upM _ _ _ _ _ _ (by decide)]; exact R1
theorem unedited_sim {B : Nat} (hB : B < 2 ^ 28) {σ μ : q_St} (H : TS B σ μ) (x : Int32) : TY B 4 σ μ (f_Terminal_typeUnedited σ x) (if (40 : Int32) ≤ μ 45 0 then some (0, μ) else q_grd (q_in (μ 45 0) 40) (q_bnd (f_Mo_echo (q_up (q_up μ 20 (μ 45 0).toNatClampNeg x) 45 0 (((q_up μ 20 (μ 45 0).toNatClampNeg x) 45 0) + 1)) x) (fun r => some (1, r)))) := by
  obtain ⟨c, h1, h2⟩ := H.2.1.2.1
  have hc40 : c ≤ 40 := by obtain ⟨o, a1, a2, a3, a4, a5⟩ := h1; exact a4
  unfold f_Terminal_typeUnedited
  have hr := room_C (m := 1) rl1 (by decide) h1 (by decide)
  rw [show nI 1 = (1 : Int32) from rfl] at hr
  rw [hr, h2]
  simp only [q_bnd_v]
  by_cases hc : c < 40
  · rw [if_pos (show c + 1 ≤ 40 by omega), if_neg (show ¬ (40 : Int32) ≤ nI c by rw [show (40 : Int32) = nI 40 from rfl]; exact nI_ge hc (by decide)), if_neg (show ¬ (1 : Int32) = 0 by decide), q_grd_t (q_inT hc (by decide)), nI_clamp (show c < 2 ^ 31 by omega)]
    have u : (q_up μ 20 c x) 45 0 = nI c := by rw [q_up_f (by decide)]; exact h2
    rw [u, nI_1]
    obtain ⟨σ1, e1, t1, m1, H1, -⟩ := TS_push H h1 h2 hc x
    obtain ⟨σ2, μ2, e3, e4, t2, m2, H2⟩ := TS_echo hB H1 x
    rw [q_bnd_s e1, q_bnd_s e3, q_bnd_s e4]
    exact ⟨1, σ2, μ2, rfl, rfl, Or.inr rfl, tfr_tr t1 t2, eqx_tr m1 m2, H2⟩
  · obtain rfl : c = 40 := by omega
    rw [if_neg (show ¬ 40 + 1 ≤ 40 by decide), if_pos (show (40 : Int32) ≤ nI 40 by decide), if_pos rfl]
    exact ⟨0, σ, μ, rfl, rfl, Or.inl rfl, tfr_rf _, eqx_rf _ _, H.1, H.2.1, RD_mono (by omega) H.2.2⟩
/-- a character is put into the edit -/
theorem addToEdit_sim {B : Nat} (hB : B < 2 ^ 28) {σ μ : q_St} (H : TS B σ μ) (x : Int32) : TY B 4 σ μ (f_Terminal_addToEdit σ x) (if μ 44 0 = 20 then some (0, μ) else q_grd (q_in (μ 44 0) 20) (q_bnd (f_Mo_echo (q_up (q_up μ 19 (μ 44 0).toNatClampNeg x) 44 0 (((q_up μ 19 (μ 44 0).toNatClampNeg x) 44 0) + 1)) x) (fun r => some (1, r)))) := by
  obtain ⟨c, h1, h2⟩ := H.2.1.1
  have hc40 : c ≤ 20 := by obtain ⟨o, a1, a2, a3, a4, a5⟩ := h1; exact a4
  unfold f_Terminal_addToEdit
  have hr := room_C (m := 1) rl0 (by decide) h1 (by decide)
  rw [show nI 1 = (1 : Int32) from rfl] at hr
  rw [hr, h2]
  simp only [q_bnd_v]
  by_cases hc : c < 20
  · rw [if_pos (show c + 1 ≤ 20 by omega), if_neg (show ¬ nI c = (20 : Int32) from nI_ne (b := 20) (by omega) (by decide) (by omega)), if_neg (show ¬ (1 : Int32) = 0 by decide), q_grd_t (q_inT hc (by decide)), nI_clamp (show c < 2 ^ 31 by omega)]
    have u : (q_up μ 19 c x) 44 0 = nI c := by rw [q_up_f (by decide)]; exact h2
    rw [u, nI_1]
    obtain ⟨σ1, e1, E1, R1⟩ := put_C (by decide) rl0 (by decide) h1 hc x
    have E2 : eqx [19, 44] μ (q_up (q_up μ 19 c x) 44 0 (nI (c + 1))) := eqx_tr (eqx_up (by decide)) (eqx_up (by decide))
    have M2 : mfr μ (q_up (q_up μ 19 c x) 44 0 (nI (c + 1))) := eqx_mono E2 (by intro f; simp; omega)
    have t1 := tfr_eqr (by decide) E1
    have H1 : TS B σ1 (q_up (q_up μ 19 c x) 44 0 (nI (c + 1))) := by
      refine ⟨by rw [t1.1 22 (by decide), E2 42 (by decide)]; exact H.1, ?_, RD_eqr (by decide) E1 (eqx_mono E2 (by intro f; simp; omega)) H.2.2⟩
      obtain ⟨-, ⟨c1, a1, b1⟩, -⟩ := H.2.1
      refine RQ_mk H.2.1 t1 M2 ⟨c + 1, ?_, by rw [q_up_self]⟩ ⟨c1, ?_, by rw [E2 45 (by decide)]; exact b1⟩
      · rw [upM _ _ _ _ _ _ (by decide)]; exact R1
      · rw [E2 20 (by decide)]; exact ring_o E1 (by decide) (by decide) (by decide) a1
    obtain ⟨σ2, μ2, e3, e4, t2, m2, H2⟩ := TS_echo hB H1 x
    rw [q_bnd_s e1, q_bnd_s e3, q_bnd_s e4]
    exact ⟨1, σ2, μ2, rfl, rfl, Or.inr rfl, tfr_tr t1 t2, eqx_tr M2 m2, H2⟩
  · obtain rfl : c = 20 := by omega
    rw [if_neg (show ¬ 20 + 1 ≤ 20 by decide), if_pos (show nI 20 = (20 : Int32) from rfl), if_pos rfl]
    exact ⟨0, σ, μ, rfl, rfl, Or.inl rfl, tfr_rf _, eqx_rf _ _, H.1, H.2.1, RD_mono (by omega) H.2.2⟩
def eq01 (σ σ' : q_St) : Prop := (∀ f, f ∉ [10, 11, 26, 27] → σ' f = σ f) ∧ ∀ k, 2 ≤ k → σ' 26 k = σ 26 k ∧ σ' 27 k = σ 27 k
theorem eq01_rf (σ : q_St) : eq01 σ σ := ⟨fun _ _ => rfl, fun _ _ => ⟨rfl, rfl⟩⟩
theorem eq01_tr {a b c : q_St} (h : eq01 a b) (k : eq01 b c) : eq01 a c := ⟨fun f z => (k.1 f z).trans (h.1 f z), fun x hx => ⟨((k.2 x hx).1).trans (h.2 x hx).1, ((k.2 x hx).2).trans (h.2 x hx).2⟩⟩
theorem eq01_eqr {r : Nat} {σ σ' : q_St} (hr : r < 2) (h : eqr r σ σ') : eq01 σ σ' := by
  refine ⟨fun f hf => h.1 f ?_ ?_ ?_, fun k hk => h.2 k (by omega)⟩
  · intro z; apply hf; rcases (show r = 0 ∨ r = 1 by omega) with rfl | rfl <;> rw [z] <;> decide
  · intro z; apply hf; rw [z]; decide
  · intro z; apply hf; rw [z]; decide
theorem tfr_eq01 {σ σ' : q_St} (h : eq01 σ σ') : tfr σ σ' := ⟨fun f hf => h.1 f (fun z => hf (by simp at z ⊢; omega)), h.2⟩
/-- the edit goes into the queue: k characters are left -/
theorem move_sim {e q : Nat} (he : e ≤ 20) (hq : q + e ≤ 40) {more num : Int32} : ∀ (k n m : Nat) (σ μ : q_St), k ≤ e → k < n → k < m → ring σ 0 20 k (fun i => μ 19 (e - k + i)) → ring σ 1 40 (q + (e - k)) (μ 20) → μ 44 0 = nI e → μ 45 0 = nI (q + (e - k)) → ∃ σ' μ', f_Terminal_queueEdit_23 n σ (nI (e - k)) = some (1, σ') ∧ f_Mo_enter_20 m μ more num (nI (e - k)) = f_Mo_enter_20 (m - k) μ' more num (nI e) ∧ eq01 σ σ' ∧ eqx [20, 45] μ μ' ∧ (∀ g, ring σ' 0 20 0 g) ∧ ring σ' 1 40 (q + e) (μ' 20) ∧ μ' 45 0 = nI (q + e) := by
  intro k
  induction k with
  | zero =>
    intro n m σ μ _ hn hm R0 R1 h44 h45
    obtain ⟨n, rfl⟩ : ∃ z, n = z + 1 := ⟨n - 1, by omega⟩
    refine ⟨σ, μ, ?_, rfl, eq01_rf _, eqx_rf _ _, ?_, R1, h45⟩
    · obtain ⟨o, a1, a2, a3, a4, a5⟩ := R0
      rw [f_Terminal_queueEdit_23]
      unfold f_Terminal_queueEdit_59
      rw [a3, if_pos (show nI 0 ≤ (0 : Int32) by decide)]
      by_cases h : (20 : Int32) ≤ nI (e - 0)
      · rw [if_pos h]
      · rw [if_neg h]
    · intro g
      obtain ⟨o, a1, a2, a3, a4, a5⟩ := R0
      exact ⟨o, a1, a2, a3, a4, fun k hk => absurd hk (Nat.not_lt_zero k)⟩
  | succ k ih =>
    intro n m σ μ hk hn hm R0 R1 h44 h45
    obtain ⟨n, rfl⟩ : ∃ z, n = z + 1 := ⟨n - 1, by omega⟩
    obtain ⟨m, rfl⟩ : ∃ z, m = z + 1 := ⟨m - 1, by omega⟩
    have hcount : σ 27 0 = nI (k + 1) := by obtain ⟨o, a1, a2, a3, a4, a5⟩ := R0; exact a3
    obtain ⟨σ1, e1, E1, Q1⟩ := old_C (by decide) rl0 (by decide) R0
    obtain ⟨σ2, e2, E2, Q2⟩ := put_C (by decide) rl1 (by decide) (ring_o E1 (show 1 ≠ 0 by decide) (by decide) (by decide) R1) (show q + (e - (k + 1)) < 40 by omega) (μ 19 (e - (k + 1) + 0))
    have hx : e - (k + 1) + 1 = e - k := by omega
    obtain ⟨σ', μ', f1, f2, f3, f4, f5, f6, f7⟩ := ih n m σ2 (q_up (q_up μ 20 (q + (e - (k + 1))) (μ 19 (e - (k + 1)))) 45 0 (nI (q + (e - (k + 1)) + 1))) (by omega) (by omega) (by omega)
      (by rw [q_up_rowf (show 19 ≠ 45 by decide), q_up_rowf (show 19 ≠ 20 by decide)]
          exact ring_g (fun i _ => by congr 1; omega) (ring_o E2 (show 0 ≠ 1 by decide) (by decide) (by decide) Q1))
      (by rw [upM _ _ _ _ _ _ (by decide), show q + (e - k) = q + (e - (k + 1)) + 1 by omega]; exact Q2)
      (by rw [q_up_f (by decide), q_up_f (by decide)]; exact h44)
      (by rw [q_up_self]; congr 1; omega)
    refine ⟨σ', μ', ?_, ?_, eq01_tr (eq01_tr (eq01_eqr (by decide) E1) (eq01_eqr (by decide) E2)) f3, eqx_tr (eqx_tr (eqx_up (by decide)) (eqx_up (by decide))) f4, f5, f6, f7⟩
    · rw [f_Terminal_queueEdit_23, if_neg (show ¬ (20 : Int32) ≤ nI (e - (k + 1)) by rw [show (20 : Int32) = nI 20 from rfl]; exact nI_ge (by omega) (by decide)), hcount, if_neg (nI_nle (show 0 < k + 1 by omega) (by omega)), q_bnd_s e1, q_bnd_s e2, nI_1, hx]
      exact f1
    · rw [f_Mo_enter_20, h44, if_neg (nI_ge (show e - (k + 1) < e by omega) (by omega)), q_grd_t (q_inT (show e - (k + 1) < 20 by omega) (by decide)), h45, q_grd_t (q_inT (show q + (e - (k + 1)) < 40 by omega) (by decide)), nI_clamp (show q + (e - (k + 1)) < 2 ^ 31 by omega), nI_clamp (show e - (k + 1) < 2 ^ 31 by omega)]
      have u : (q_up μ 20 (q + (e - (k + 1))) (μ 19 (e - (k + 1)))) 45 0 = nI (q + (e - (k + 1))) := by rw [q_up_f (by decide)]; exact h45
      rw [u, nI_1, nI_1, hx, f2]
      congr 1
      omega
theorem RD_eq01 {B : Nat} {σ σ' μ μ' : q_St} (h : eq01 σ σ') (g : eqx [19, 20, 44, 45] μ μ') (H : RD B σ μ) : RD B σ' μ' := RD_c (F := [10, 11, 26, 27]) h.1 g (by decide) (by decide) H
/-- the whole of it: 'more' numbers behind the edit -/
theorem enter_sim {B : Nat} {σ μ : q_St} (H : TS B σ μ) {more : Nat} (hm : more ≤ 1) (num : Int32) : TY B 0 σ μ (q_bnd (f_Terminal_queueEdit σ (nI more)) (fun r => if r.1 = 0 then some (0, r.2) else if more = 1 then q_bnd (f_NumberRow_putLast r.2 1 num) (fun r => some (1, r)) else some (1, r.2))) (f_Mo_enter μ (nI more) num) := by
  obtain ⟨⟨e, h0, b0⟩, ⟨q, h1, b1⟩, -⟩ := H.2.1
  have he : e ≤ 20 := by obtain ⟨o, a1, a2, a3, a4, a5⟩ := h0; exact a4
  have hq : q ≤ 40 := by obtain ⟨o, a1, a2, a3, a4, a5⟩ := h1; exact a4
  have c0 : σ 27 0 = nI e := by obtain ⟨o, a1, a2, a3, a4, a5⟩ := h0; exact a3
  unfold f_Terminal_queueEdit f_Mo_enter
  rw [c0, nI_add, room_C rl1 (by decide) h1 (show e + more < 1000 by omega), b0, b1, nI_add, nI_add]
  simp only [q_bnd_v]
  by_cases hr : q + (e + more) ≤ 40
  · rw [if_pos hr, if_neg (show ¬ (1 : Int32) = 0 by decide), if_pos (show nI (q + e + more) ≤ (40 : Int32) by rw [show (40 : Int32) = nI 40 from rfl]; exact nI_le (by omega) (by decide))]
    obtain ⟨σ1, μ1, f1, f2, f3, f4, f5, f6, f7⟩ := move_sim (more := nI more) (num := num) he (show q + e ≤ 40 by omega) e 200 200 σ μ (Nat.le_refl _) (by omega) (by omega) (by rw [Nat.sub_self]; exact ring_g (fun i _ => by rw [Nat.zero_add]) h0) (by rw [Nat.sub_self]; exact h1) b0 (by rw [Nat.sub_self]; exact b1)
    rw [Nat.sub_self] at f1 f2
    rw [show (0 : Int32) = nI 0 from rfl, f1, f2, show 200 - e = (199 - e) + 1 by omega, f_Mo_enter_20, f4 44 (by decide), b0, if_pos (nI_le (Nat.le_refl e) (by omega))]
    simp only [q_bnd_v]
    rw [if_neg (show ¬ (1 : Int32) = nI 0 by decide)]
    -- behind the moving: the edit is empty on both sides
    have E1 : eqx [20, 45, 44] μ (q_up μ1 44 0 0) := eqx_tr (eqx_mono f4 (by intro f; simp; omega)) (eqx_up (by decide))
    have M1 : mfr μ (q_up μ1 44 0 0) := eqx_mono E1 (by intro f; simp; omega)
    have H1 : TS B σ1 (q_up μ1 44 0 0) := by
      refine ⟨by rw [f3.1 22 (by decide), E1 42 (by decide)]; exact H.1, ?_, RD_eq01 f3 (eqx_mono E1 (by intro f; simp; omega)) H.2.2⟩
      exact RQ_mk H.2.1 (tfr_eq01 f3) M1 ⟨0, f5 _, by rw [q_up_self]; rfl⟩ ⟨q + e, by rw [q_up_rowf (by decide)]; exact f6, by rw [q_up_f (by decide)]; exact f7⟩
    rcases (show more = 0 ∨ more = 1 by omega) with rfl | rfl
    · rw [if_neg (by decide), if_neg (show ¬ nI 0 = (1 : Int32) by decide)]
      unfold f_Mo_enter_89
      exact ⟨1, σ1, q_up μ1 44 0 0, rfl, rfl, Or.inr rfl, tfr_eq01 f3, M1, H1⟩
    · rw [if_pos rfl, if_pos (show nI 1 = (1 : Int32) from rfl)]
      unfold f_Mo_enter_89
      have u45 : (q_up μ1 44 0 0) 45 0 = nI (q + e) := by rw [q_up_f (by decide)]; exact f7
      obtain ⟨σ2, e1, t1, m1, H2, -⟩ := TS_push H1 (c := q + e) (by rw [q_up_rowf (by decide)]; exact f6) u45 (by omega) num
      rw [u45, q_grd_t (q_inT (show q + e < 40 by omega) (by decide)), nI_clamp (show q + e < 2 ^ 31 by omega), q_bnd_s e1]
      have u : (q_up (q_up μ1 44 0 0) 20 (q + e) num) 45 0 = nI (q + e) := by rw [q_up_f (by decide)]; exact u45
      rw [u, nI_1]
      exact ⟨1, σ2, _, rfl, rfl, Or.inr rfl, tfr_tr (tfr_eq01 f3) t1, eqx_tr M1 m1, H2⟩
  · rw [if_neg hr, if_pos rfl, if_neg (show ¬ nI (q + e + more) ≤ (40 : Int32) by rw [show (40 : Int32) = nI 40 from rfl]; exact nI_ge (by omega) (by omega))]
    exact ⟨0, σ, μ, rfl, rfl, Or.inl rfl, tfr_rf _, eqx_rf _ _, H⟩

/-- rubbing out: the showing alone -/
theorem rubs_sim {B : Nat} (hB : B < 2 ^ 28) {σ μ : q_St} (H : RD B σ μ) (hf : σ 22 0 = μ 42 0) : shw B 6 σ μ (f_Terminal_showRubbing σ) (q_bnd (f_Mo_show μ 8) (fun r7 => q_bnd (f_Mo_show r7 32) (fun r9 => q_bnd (f_Mo_show r9 8) (fun r11 => some r11)))) := by
  unfold f_Terminal_showRubbing
  have fl : ∀ {a b c d : q_St}, a 22 0 = b 42 0 → eqx [2, 24, 25] a c → eqx [21, 46] b d → c 22 0 = d 42 0 := fun h h1 h2 => by rw [h1 22 (by decide), h2 42 (by decide)]; exact h
  exact shw_then (C := 2) (D := 4) (show_sim (by omega) H hf 8) (fun σ1 μ1 h1 h2 h => shw_then (C := 2) (D := 2) (show_sim (by omega) h (fl hf h1 h2) 32) (fun σ2 μ2 h3 h4 h' => shw_then (C := 2) (D := 0) (show_sim (by omega) h' (fl (fl hf h1 h2) h3 h4) 8) (fun σ3 μ3 _ _ h'' => shw_id h'')))
/-- a character that goes: 'ch' is it -/
theorem rub1_sim {B : Nat} (hB : B < 2 ^ 27) {σ μ : q_St} (H : RD B σ μ) (hf : σ 22 0 = μ 42 0) (ch : Int32) : shw B 12 σ μ (q_bnd (f_Terminal_has σ 2) (fun r5 => if r5.1 = 0 then some r5.2 else q_bnd (f_Terminal_showRubbing r5.2) (fun r8 => if 32 ≤ ch then some r8 else q_bnd (f_Terminal_showRubbing r8) (fun r11 => some r11)))) (if 32 ≤ ch then f_Mo_rubOut_29 μ 1 else f_Mo_rubOut_29 μ 2) := by
  have fl : ∀ {a b c d : q_St}, a 22 0 = b 42 0 → eqx [2, 24, 25] a c → eqx [21, 46] b d → c 22 0 = d 42 0 := fun h h1 h2 => by rw [h1 22 (by decide), h2 42 (by decide)]; exact h
  rw [has_C]
  simp only [q_bnd_v]
  unfold f_Mo_rubOut_29
  have ex : ∀ (n : Nat) (μ : q_St) (x y : Int32), x ≤ y → f_Mo_rubOut_32 (n + 1) μ x y = some μ := fun n μ x y h => by rw [f_Mo_rubOut_32, if_pos h]; rfl
  have go : ∀ (n : Nat) (μ : q_St) (x y : Int32), ¬ x ≤ y → f_Mo_rubOut_32 (n + 1) μ x y = if (μ 42 0 &&& 2) = 0 then some μ else q_bnd (f_Mo_show μ 8) (fun r7 => q_bnd (f_Mo_show r7 32) (fun r9 => q_bnd (f_Mo_show r9 8) (fun r11 => f_Mo_rubOut_32 n r11 x (y + 1)))) := by
    intro n μ x y h
    rw [f_Mo_rubOut_32, if_neg h, flagged_M]
    simp only [q_bnd_v]
    unfold f_Mo_rubOut_69
    by_cases h2 : (μ 42 0 &&& 2) = 0
    · simp only [h2, if_true]
    · simp only [h2, if_false, i1z]
  have asc : ∀ (μ : q_St) (k : q_St → Option q_St), q_bnd (f_Mo_show μ 8) (fun r7 => q_bnd (f_Mo_show r7 32) (fun r9 => q_bnd (f_Mo_show r9 8) k)) = q_bnd (q_bnd (f_Mo_show μ 8) (fun r7 => q_bnd (f_Mo_show r7 32) (fun r9 => q_bnd (f_Mo_show r9 8) (fun r11 => some r11)))) k := by
    intro μ k
    cases f_Mo_show μ 8 with
    | none => rfl
    | some a =>
      simp only [q_bnd_v]
      cases f_Mo_show a 32 with
      | none => rfl
      | some b =>
        simp only [q_bnd_v]
        cases f_Mo_show b 8 <;> rfl
  rw [hf]
  by_cases h2 : (μ 42 0 &&& 2) = 0
  · simp only [h2, if_true]
    by_cases h32 : 32 ≤ ch
    · rw [if_pos h32, go 199 _ _ _ (by decide), if_pos h2]; exact shw_mono (by decide) (shw_id H)
    · rw [if_neg h32, go 199 _ _ _ (by decide), if_pos h2]; exact shw_mono (by decide) (shw_id H)
  · simp only [h2, if_false, i1z]
    by_cases h32 : 32 ≤ ch
    · simp only [h32, if_true]
      rw [go 199 _ _ _ (by decide), if_neg h2, asc]
      exact shw_mono (by decide) (shw_then (C := 6) (D := 0) (rubs_sim (by omega) H hf) (fun σ' μ' _ _ h => by
        rw [ex 198 μ' 1 (0 + 1) (by decide)]; exact shw_id h))
    · simp only [h32, if_false]
      rw [go 199 _ _ _ (by decide), if_neg h2, asc]
      refine shw_then (C := 6) (D := 6) (rubs_sim (by omega) H hf) (fun σ' μ' h1 h2' h => ?_)
      rw [go 198 μ' 2 (0 + 1) (by decide), h2' 42 (by decide), if_neg h2, asc]
      exact shw_then (C := 6) (D := 0) (rubs_sim (by omega) h (fl hf h1 h2')) (fun σ'' μ'' _ _ h'' => by
        rw [ex 197 μ'' 2 (0 + 1 + 1) (by decide)]; exact shw_id h'')
