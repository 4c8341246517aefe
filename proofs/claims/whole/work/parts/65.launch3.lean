/-! LAUNCH: the call -/
def cB (s : q_St) (j : Nat) (av bv v : Int32) : q_St := q_up (q_up (q_up (q_up (q_up (q_up s 28 j av) 29 j bv) 27 (2 + j) 0) 30 j 0) 31 j 1) 20 0 v
def mB (s : q_St) (j : Nat) (av bv v : Int32) : q_St := q_up (q_up (q_up (q_up (q_up (q_up s 13 j av) 14 j bv) 15 j 1) 16 j 0) 17 j 0) 41 0 v
theorem cB_eqx (s : q_St) (j : Nat) (av bv v : Int32) : eqx [20, 27, 28, 29, 30, 31] s (cB s j av bv v) := by
  unfold cB
  exact eqx_tr (eqx_tr (eqx_tr (eqx_tr (eqx_tr (eqx_up (by decide)) (eqx_up (by decide))) (eqx_up (by decide))) (eqx_up (by decide))) (eqx_up (by decide))) (eqx_up (by decide))
theorem mB_eqx (s : q_St) (j : Nat) (av bv v : Int32) : eqx [13, 14, 15, 16, 17, 41] s (mB s j av bv v) := by
  unfold mB
  exact eqx_tr (eqx_tr (eqx_tr (eqx_tr (eqx_tr (eqx_up (by decide)) (eqx_up (by decide))) (eqx_up (by decide))) (eqx_up (by decide))) (eqx_up (by decide))) (eqx_up (by decide))
theorem bgM_13 (s : q_St) (j b : Nat) (x o p : Int32) : bgM (q_up s 13 j x) b o p = q_up (bgM s b o p) 13 j x := by
  funext f k
  unfold bgM q_up
  by_cases h : f = 13
  · simp [h]
  · simp [h]
theorem bgC_s (σ : q_St) (i : Nat) (o p : Int32) : (bgC σ i o p) 32 i = o ∧ (bgC σ i o p) 33 i = 1 ∧ (bgC σ i o p) 34 i = p ∧ (bgC σ i o p) 35 i = 0 ∧ (bgC σ i o p) 36 i = 0 ∧ (bgC σ i o p) 37 i = 0 ∧ (bgC σ i o p) 38 i = 0 ∧ (bgC σ i o p) 39 i = 0 ∧ (bgC σ i o p) 40 i = 0 ∧ (bgC σ i o p) 41 i = 0 := by
  simp [bgC, q_up]
theorem bgM_s (σ : q_St) (i : Nat) (o p : Int32) : (bgM σ i o p) 3 i = o ∧ (bgM σ i o p) 2 i = 1 ∧ (bgM σ i o p) 4 i = p ∧ (bgM σ i o p) 5 i = 0 ∧ (bgM σ i o p) 6 i = 0 ∧ (bgM σ i o p) 7 i = 0 ∧ (bgM σ i o p) 8 i = 0 ∧ (bgM σ i o p) 9 i = 0 ∧ (bgM σ i o p) 10 i = 0 ∧ (bgM σ i o p) 11 i = 0 := by
  simp [bgM, q_up]
def sl2 (sC sM : q_St) (i j : Nat) : Prop := (sC 32 i = nI j ∧ sM 3 i = nI j) ∧ (sC 33 i = 1 ∧ sM 2 i = 1) ∧ (∃ z, z < 4 ∧ sC 34 i = nI z ∧ sM 4 i = nI z) ∧ (sC 35 i = 0 ∧ sM 5 i = 0) ∧ (sC 36 i = 0 ∧ sM 6 i = 0) ∧ (sC 37 i = 0 ∧ sM 7 i = 0) ∧ (sC 38 i = 0 ∧ sM 8 i = 0) ∧ (sC 39 i = 0 ∧ sM 9 i = 0) ∧ (sC 40 i = 0 ∧ sM 10 i = 0) ∧ (sC 41 i = 0 ∧ sM 11 i = 0)
theorem sl2_bg (σ μ : q_St) (i j : Nat) {z : Nat} (hz : z < 4) : sl2 (bgC σ i (nI j) (nI z)) (bgM μ i (nI j) (nI z)) i j := by
  obtain ⟨a1, a2, a3, a4, a5, a6, a7, a8, a9, a10⟩ := bgC_s σ i (nI j) (nI z)
  obtain ⟨b1, b2, b3, b4, b5, b6, b7, b8, b9, b10⟩ := bgM_s μ i (nI j) (nI z)
  exact ⟨⟨a1, b1⟩, ⟨a2, b2⟩, ⟨z, hz, a3, b3⟩, ⟨a4, b4⟩, ⟨a5, b5⟩, ⟨a6, b6⟩, ⟨a7, b7⟩, ⟨a8, b8⟩, ⟨a9, b9⟩, ⟨a10, b10⟩⟩
theorem sl2_c {sC sC' sM sM' : q_St} {i j : Nat} (h1 : ∀ f, sC' f i = sC f i) (h2 : ∀ f, sM' f i = sM f i) (H : sl2 sC sM i j) : sl2 sC' sM' i j := by
  unfold sl2
  rw [h1 32, h1 33, h1 34, h1 35, h1 36, h1 37, h1 38, h1 39, h1 40, h1 41, h2 2, h2 3, h2 4, h2 5, h2 6, h2 7, h2 8, h2 9, h2 10, h2 11]
  exact H
theorem fin_RR {B : Nat} {σ sC μ sM : q_St} (H : RR B σ μ) {j a : Nat} {bv v v' : Int32} (hj : j < 4) (hg : gone σ μ j) (ha : a < 8) (hfa : free σ a) (hb : bv = -1 ∨ ∃ b, b < 8 ∧ b ≠ a ∧ bv = nI b ∧ free σ b)
    (s1 : ∀ i, i < 8 → (i = a ∨ bv = nI i) → sl2 sC sM i j)
    (s2 : ∀ i, i < 8 → ¬ (i = a ∨ bv = nI i) → (∀ f, sC f i = σ f i) ∧ ∀ f, 2 ≤ f → f < 12 → sM f i = μ f i)
    (EC : eqx [32, 33, 34, 35, 36, 37, 38, 39, 40, 41] σ sC) (EM : eqx [2, 3, 4, 5, 6, 7, 8, 9, 10, 11, 12, 48] μ sM) (h12 : sM 12 j = 1) (h12o : ∀ k, k ≠ j → sM 12 k = μ 12 k)
    (fg : (v = nI j ∧ v' = nI j) ∨ (v = σ 20 0 ∧ v' = μ 41 0)) : RR B (cB sC j (nI a) bv v) (mB sM j (nI a) bv v') := by
  have eC := cB_eqx sC j (nI a) bv v
  have eM := mB_eqx sM j (nI a) bv v'
  refine begun_RR H hj hg ha hfa hb (fun i hi hz => ?_) (fun i hi hz => ⟨fun f h1 h2 => ?_, fun f h1 h2 => ?_⟩) ?_ ?_ ?_ ?_ ?_ ?_ (fun k hk => ?_) (fun r hr => ?_) ?_ ?_ ?_
  · have := s1 i hi hz
    unfold sl2 at this
    rw [eC 32 (by decide), eC 33 (by decide), eC 34 (by decide), eC 35 (by decide), eC 36 (by decide), eC 37 (by decide), eC 38 (by decide), eC 39 (by decide), eC 40 (by decide), eC 41 (by decide), eM 2 (by decide), eM 3 (by decide), eM 4 (by decide), eM 5 (by decide), eM 6 (by decide), eM 7 (by decide), eM 8 (by decide), eM 9 (by decide), eM 10 (by decide), eM 11 (by decide)]
    exact this
  · rw [eC f (by simp; omega)]; exact (s2 i hi hz).1 f
  · rw [eM f (by simp; omega)]; exact (s2 i hi hz).2 f h1 h2
  · simp [cB, mB, q_up]
  · simp [cB, mB, q_up]
  · simp [cB, mB, q_up]
  · simp [cB, mB, q_up]
  · rw [eM 12 (by decide)]; exact h12
  · simp [cB, mB, q_up]
  · refine ⟨⟨?_, ?_, ?_, ?_⟩, ?_, ?_, ?_, ?_, ?_, ?_⟩
    · rw [← EC 28 (by decide)]; simp [cB, q_up, hk]
    · rw [← EC 29 (by decide)]; simp [cB, q_up, hk]
    · rw [← EC 30 (by decide)]; simp [cB, q_up, hk]
    · rw [← EC 31 (by decide)]; simp [cB, q_up, hk]
    · rw [eM 12 (by decide)]; exact h12o k hk
    · rw [← EM 13 (by decide)]; simp [mB, q_up, hk]
    · rw [← EM 14 (by decide)]; simp [mB, q_up, hk]
    · rw [← EM 15 (by decide)]; simp [mB, q_up, hk]
    · rw [← EM 16 (by decide)]; simp [mB, q_up, hk]
    · rw [← EM 17 (by decide)]; simp [mB, q_up, hk]
  · rw [← EC 27 (by decide)]; simp [cB, q_up, hr]
  · exact eqx_un EC eC (by decide) (by decide)
  · exact eqx_un EM eM (by decide) (by decide)
  · rcases fg with ⟨f1, f2⟩ | ⟨f1, f2⟩
    · left; rw [f1, f2]; simp [cB, mB, q_up]
    · right; rw [f1, f2]; simp [cB, mB, q_up]
theorem launch_go {B : Nat} {σ μ : q_St} (H : RR B σ μ) {z j : Nat} (hz : z < 4) (hj : j < 4) (hg : gone σ μ j) {q y0 : Int32} (hq : (q = -1 ∧ y0 = 0) ∨ ∃ c, c < 4 ∧ q = nI c ∧ y0 = 1) (b : Int32) (hfg : b = 0 → σ 20 0 < 0) (hu : f_JT_unusedJob σ = some (nI j, σ)) :
    ∃ r σ' μ', f_JT_launch_62 σ (nI z) q b y0 = some (r, σ') ∧ f_Mo_launch_133 (q_up μ 48 0 0) (nI z) q b (nI j) = some (r, μ') ∧ μ' 48 0 = 0 ∧ RR B σ' μ' := by
  obtain ⟨a, c, hac, hc8, hfa, hfc, hba, hbc⟩ := two_free H.1.1 H.1.2.1 hj hg
  have ha8 : a < 8 := by omega
  have hjq := q_inT hj (show 4 < 2 ^ 31 by decide)
  have hjc : (nI j).toNatClampNeg = j := nI_clamp (by omega)
  have hjn : ¬ nI j < 0 := nI_pos (by omega)
  have haq := q_inT ha8 (show 8 < 2 ^ 31 by decide)
  have hacl : (nI a).toNatClampNeg = a := nI_clamp (by omega)
  have han : ¬ nI a < 0 := nI_pos (by omega)
  have hcq := q_inT hc8 (show 8 < 2 ^ 31 by decide)
  have hccl : (nI c).toNatClampNeg = c := nI_clamp (by omega)
  have hcn : ¬ nI c < 0 := nI_pos (by omega)
  have e0 : f_JT_freeProcess σ 0 = some (nI a, σ) := fp0 ha8 hfa a 0 200 (by omega) (by omega) (fun i _ h => hba i h)
  have e1 : f_JT_freeProcess σ 1 = some (nI c, σ) := fp1 hac hc8 hfa hfc hbc a 0 200 (by omega) (by omega) (fun i _ h => hba i h)
  have u2 : ∀ i, (q_up (q_up μ 48 0 0) 12 j 1) 2 i = μ 2 i := fun i => by rw [q_up_f (by decide), q_up_f (by decide)]
  have m0 : f_Mo_begin (q_up (q_up μ 48 0 0) 12 j 1) (nI z) (nI j) = some (nI a, bgM (q_up (q_up μ 48 0 0) 12 j 1) a (nI j) (nI z)) :=
    mb ha8 (by rw [u2]; exact (free_M H.1.1 ha8).mp hfa) a 0 200 (by omega) (by omega) (fun i _ h => by rw [u2]; exact fun w => hba i h ((free_M H.1.1 (by omega)).mpr w))
  -- the job before the terminal, or as it was
  have fgv : ∃ v v', ((v = nI j ∧ v' = nI j) ∨ (v = σ 20 0 ∧ v' = μ 41 0)) ∧ (v = if b = 0 then nI j else σ 20 0) ∧ (v' = if b = 0 then nI j else μ 41 0) := by
    by_cases hb : b = 0
    · exact ⟨nI j, nI j, Or.inl ⟨rfl, rfl⟩, by rw [if_pos hb], by rw [if_pos hb]⟩
    · exact ⟨σ 20 0, μ 41 0, Or.inr ⟨rfl, rfl⟩, by rw [if_neg hb], by rw [if_neg hb]⟩
  obtain ⟨v, v', hvv, hv, hv'⟩ := fgv
  -- the class's last steps
  have tailC : ∀ (sC : q_St) (bv : Int32), sC 20 0 = σ 20 0 → f_JT_launch_152 sC b (nI j) (nI a) bv = some (nI j, cB sC j (nI a) bv v) := by
    intro sC bv h20
    unfold f_JT_launch_152 f_JT_launch_171 f_Job_begin f_NumberRow_clear
    simp only [q_grd_t hjq, hjc, q_bnd_v]
    by_cases hb : b = 0
    · rw [if_pos hb] at hv ⊢
      rw [hv]; rfl
    · rw [if_neg hb] at hv ⊢
      have hw : (q_up (q_up (q_up (q_up (q_up sC 28 j (nI a)) 29 j bv) 27 (2 + j) 0) 30 j 0) 31 j 1) 20 0 = v := by rw [hv, ← h20]; simp [q_up]
      unfold cB
      rw [up_same hw]
  have tailM : ∀ (sM : q_St) (bv : Int32), sM 41 0 = μ 41 0 → f_Mo_launch_185 (q_up sM 13 j (nI a)) b (nI j) bv (nI j) = some (nI j, mB sM j (nI a) bv v') := by
    intro sM bv h41
    unfold f_Mo_launch_185 f_Mo_launch_224
    simp only [q_grd_t hjq, hjc]
    have w41 : (q_up (q_up (q_up (q_up (q_up sM 13 j (nI a)) 14 j bv) 15 j 1) 16 j 0) 17 j 0) 41 0 = μ 41 0 := by rw [← h41]; simp [q_up]
    rw [w41]
    by_cases hb : b = 0
    · rw [if_pos hb] at hv' ⊢
      rw [hv']; rfl
    · rw [if_neg hb] at hv' ⊢
      rw [hv']; rfl
  have rows : ∀ f, 2 ≤ f → f < 12 → ∀ i, (q_up (q_up μ 48 0 0) 12 j 1) f i = μ f i := fun f h1 h2 i => by rw [q_up_f (by omega), q_up_f (by omega)]
  have g12 : (q_up (q_up μ 48 0 0) 12 j 1) 12 j = 1 := q_up_self _ _ _ _
  have g12o : ∀ k, k ≠ j → (q_up (q_up μ 48 0 0) 12 j 1) 12 k = μ 12 k := fun k hk => by rw [q_up_i hk, q_up_f (by decide)]
  have E12 : eqx [12, 48] μ (q_up (q_up μ 48 0 0) 12 j 1) := eqx_tr (eqx_up (by decide)) (eqx_up (by decide))
  unfold f_JT_launch_62 f_JT_launch_89 f_JT_launch_131 f_Mo_launch_133
  simp only [q_bnd_s hu, q_bnd_s e0, q_bnd_s e1, if_neg hjn, if_neg han, q_grd_t haq, hacl, q_grd_t hjq, hjc]
  rw [q_up_self, if_pos (show (0 : Int32) ≤ 0 by decide), q_bnd_s m0]
  have b0 : f_JobProcess_begin σ a (nI j) (nI z) = some (bgC σ a (nI j) (nI z)) := rfl
  simp only [q_bnd_s b0]
  rcases hq with ⟨rfl, rfl⟩ | ⟨c', hc', rfl, rfl⟩
  · -- one process
    rw [if_pos rfl, if_pos m1lt, if_neg (show ¬ (0 : Int32) ≤ -1 by decide)]
    refine ⟨nI j, _, _, tailC _ _ (by rw [bgC_eqx σ a (nI j) (nI z) 20 (by decide)]), tailM _ _ (by rw [bgM_eqx _ a (nI j) (nI z) 41 (by decide), E12 41 (by decide)]), ?_, ?_⟩
    · rw [mB_eqx _ _ _ _ _ 48 (by decide), bgM_eqx _ a (nI j) (nI z) 48 (by decide), q_up_f (by decide), q_up_self]
    · refine fin_RR H hj hg ha8 hfa (Or.inl rfl) (fun i hi hi' => ?_) (fun i hi hi' => ⟨fun f => ?_, fun f h1 h2 => ?_⟩) (bgC_eqx _ _ _ _) (eqx_un E12 (bgM_eqx _ _ _ _) (by decide) (by decide)) ?_ (fun k hk => ?_) hvv
      · rcases hi' with rfl | hi'
        · exact sl2_bg _ _ _ _ hz
        · exact absurd hi'.symm (nIm1 i (by omega))
      · exact bgC_o _ _ _ (fun w => hi' (Or.inl w)) f
      · rw [bgM_o _ _ _ (fun w => hi' (Or.inl w)) f]; exact rows f h1 h2 i
      · rw [bgM_eqx _ _ _ _ 12 (by decide)]; exact g12
      · rw [bgM_eqx _ _ _ _ 12 (by decide)]; exact g12o k hk
  · -- two
    have m1 : f_Mo_begin (q_up (bgM (q_up (q_up μ 48 0 0) 12 j 1) a (nI j) (nI z)) 13 j (nI a)) (nI c') (nI j) = some (nI c, bgM (q_up (bgM (q_up (q_up μ 48 0 0) 12 j 1) a (nI j) (nI z)) 13 j (nI a)) c (nI j) (nI c')) := by
      refine mb hc8 ?_ c 0 200 (by omega) (by omega) (fun i _ h => ?_)
      · rw [q_up_f (by decide), bgM_o _ _ _ (by omega), u2]; exact (free_M H.1.1 hc8).mp hfc
      · rw [q_up_f (by decide)]
        by_cases hia : i = a
        · subst hia; rw [(bgM_s _ _ _ _).2.1]; decide
        · rw [bgM_o _ _ _ hia, u2]
          intro w
          have hfi : free σ i := (free_M H.1.1 (by omega)).mpr w
          by_cases z1 : i < a
          · exact hba i z1 hfi
          · exact hbc i (by omega) h hfi
    have hc'n : (0 : Int32) ≤ nI c' := nI_pos' (by omega)
    rw [if_neg (show ¬ (1 : Int32) = 0 by decide), if_neg hcn, if_pos hc'n, q_bnd_s m1, bgM_13]
    simp only [if_neg hcn, q_grd_t hcq, hccl]
    have b1 : f_JobProcess_begin (bgC σ a (nI j) (nI z)) c (nI j) (nI c') = some (bgC (bgC σ a (nI j) (nI z)) c (nI j) (nI c')) := rfl
    rw [q_bnd_s b1]
    refine ⟨nI j, _, _, tailC _ _ (by rw [bgC_eqx _ c (nI j) (nI c') 20 (by decide), bgC_eqx σ a (nI j) (nI z) 20 (by decide)]), tailM _ _ (by rw [bgM_eqx _ c (nI j) (nI c') 41 (by decide), bgM_eqx _ a (nI j) (nI z) 41 (by decide), E12 41 (by decide)]), ?_, ?_⟩
    · rw [mB_eqx _ _ _ _ _ 48 (by decide), bgM_eqx _ c (nI j) (nI c') 48 (by decide), bgM_eqx _ a (nI j) (nI z) 48 (by decide), q_up_f (by decide), q_up_self]
    · refine fin_RR H hj hg ha8 hfa (Or.inr ⟨c, hc8, by omega, rfl, hfc⟩) (fun i hi hi' => ?_) (fun i hi hi' => ⟨fun f => ?_, fun f h1 h2 => ?_⟩) (eqx_tr (bgC_eqx _ _ _ _) (bgC_eqx _ _ _ _)) (eqx_un (eqx_un E12 (bgM_eqx _ _ _ _) (K := [2, 3, 4, 5, 6, 7, 8, 9, 10, 11, 12, 48]) (by decide) (by decide)) (bgM_eqx _ _ _ _) (by decide) (by decide)) ?_ (fun k hk => ?_) hvv
      · by_cases hic : i = c
        · subst hic; exact sl2_bg _ _ _ _ hc'
        · rcases hi' with rfl | hi'
          · exact sl2_c (fun f => bgC_o _ _ _ hic f) (fun f => bgM_o _ _ _ hic f) (sl2_bg _ _ _ _ hz)
          · exact absurd ((nI_eq (show c < 2 ^ 31 by omega) (show i < 2 ^ 31 by omega)).mp hi').symm hic
      · have h1 : i ≠ c := fun w => hi' (Or.inr (by rw [w]))
        rw [bgC_o _ _ _ h1, bgC_o _ _ _ (fun w => hi' (Or.inl w))]
      · have h3 : i ≠ c := fun w => hi' (Or.inr (by rw [w]))
        rw [bgM_o _ _ _ h3, bgM_o _ _ _ (fun w => hi' (Or.inl w))]; exact rows f h1 h2 i
      · rw [bgM_eqx _ _ _ _ 12 (by decide), bgM_eqx _ _ _ _ 12 (by decide)]; exact g12
      · rw [bgM_eqx _ _ _ _ 12 (by decide), bgM_eqx _ _ _ _ 12 (by decide)]; exact g12o k hk
theorem up48 (μ : q_St) (y : Int32) : q_up (q_up μ 48 0 0) 48 0 y = q_up μ 48 0 y := up_up _ _ _ _ _
theorem launch_sim {B : Nat} {σ μ : q_St} (H : RR B σ μ) (p q b : Int32) : SIMX B (f_JT_launch σ p q b) (f_JT_launchX σ p q b) (f_Mo_launch μ p q b) := by
  -- the first job that isn't there, or 4
  obtain ⟨j0, hj0, hg0, hth0⟩ : ∃ j0, j0 ≤ 4 ∧ (j0 = 4 ∨ gone σ μ j0) ∧ ∀ j, j < j0 → there σ μ j := by
    by_cases hx : ∃ j, j < 4 ∧ gone σ μ j
    · obtain ⟨j, hj, hg, hn⟩ := first_of hx
      exact ⟨j, by omega, Or.inr hg, fun k hk => by
        rcases (H.1.2.1 k (by omega)).2 with h | h
        · exact absurd h (hn k hk)
        · exact h⟩
    · exact ⟨4, by omega, Or.inl rfl, fun k hk => by
        rcases (H.1.2.1 k hk).2 with h | h
        · exact absurd ⟨k, hk, h⟩ hx
        · exact h⟩
  have r12 : ∀ k, (q_up μ 48 0 0) 12 k = μ 12 k := fun k => q_up_f (by decide)
  have eM : f_Mo_launch μ p q b = f_Mo_launch_70 (q_up μ 48 0 0) p q b (nI (cF (q_up μ 48 0 0) 8)) (nI j0) := by
    unfold f_Mo_launch
    have := lc p q b (q_up μ 48 0 0) 8 200 0 (by omega) (by omega)
    rw [Nat.zero_add] at this
    rw [show f_Mo_launch_11 200 (q_up μ 48 0 0) p q b 0 0 = _ from this]
    refine lj (σ := σ) hj0 ?_ j0 0 200 (by omega) (by omega) (fun j _ h => by rw [r12]; exact (hth0 j h).1)
    rcases hg0 with h | h
    · exact Or.inl h
    · exact Or.inr (by rw [r12]; exact h.1)
  have hu : f_JT_unusedJob σ = some (if j0 = 4 then -1 else nI j0, σ) := un_some H.1.2.1 hj0 hg0 j0 0 200 (by omega) (by omega) (fun j _ h => hth0 j h)
  have t1 : ∀ x, f_Mo_launch_89 (q_up μ 48 0 0) x q b (nI j0) = some (0, q_up μ 48 0 1) := fun x => by
    unfold f_Mo_launch_89 f_Mo_launch_133
    rw [up48, q_up_self, if_neg (by decide)]
  have t2 : ∀ x, f_Mo_launch_128 (q_up μ 48 0 0) x q b (nI j0) = some (0, q_up μ 48 0 2) := fun x => by
    unfold f_Mo_launch_128 f_Mo_launch_133
    rw [up48, q_up_self, if_neg (by decide)]
  rw [eM]
  unfold f_Mo_launch_70
  -- a program that isn't there
  have badp : (p < 0 ∨ nI 4 ≤ p) → SIMX B (f_JT_launch σ p q b) (f_JT_launchX σ p q b) (f_Mo_launch_89 (q_up μ 48 0 0) p q b (nI j0)) := by
    intro h
    refine SIMX_t (r := 0) (y := 1) H true rfl ?_ (t1 p)
    unfold f_JT_launchX f_JT_launchX_10 f_JT_launchX_31
    rw [hasP0 σ h]
    simp only [q_bnd_v, if_true]
    exact ite_self _
  rcases pk_ix p (show 4 < 2 ^ 31 by decide) with h | h | ⟨z, hz, rfl⟩
  · rw [if_pos h]; exact badp (Or.inl h)
  · by_cases h0 : p < 0
    · rw [if_pos h0]; exact badp (Or.inl h0)
    · rw [if_neg h0, if_pos (show (3 : Int32) < p from le_lt1 (n := 3) (by decide) h)]; exact badp (Or.inr h)
  · rw [if_neg (nI_pos (show z < 2 ^ 31 by omega)), if_neg (show ¬ (3 : Int32) < nI z by rw [show (3 : Int32) = nI 3 from rfl]; exact nI_nlt (by omega) (by decide))]
    have e41 : (q_up μ 48 0 0) 41 0 = σ 20 0 := by rw [q_up_f (by decide)]; exact H.1.2.2.1.1.symm
    -- both programs are there
    have key : ∀ y0 : Int32, ((q = -1 ∧ y0 = 0) ∨ ∃ c, c < 4 ∧ q = nI c ∧ y0 = 1) → SIMX B (f_JT_launch_41 σ (nI z) q b y0) (f_JT_launchX_41 σ (nI z) q b y0) (if (q_up μ 48 0 0) 41 0 < 0 then f_Mo_launch_108 (q_up μ 48 0 0) (nI z) q b (nI (cF (q_up μ 48 0 0) 8)) (nI j0) else if b = 0 then f_Mo_launch_128 (q_up μ 48 0 0) (nI z) q b (nI j0) else f_Mo_launch_108 (q_up μ 48 0 0) (nI z) q b (nI (cF (q_up μ 48 0 0) 8)) (nI j0)) := by
      intro y0 hq
      rw [e41]
      unfold f_JT_launch_41 f_JT_launchX_41
      have key2 : (b = 0 → σ 20 0 < 0) → SIMX B (f_JT_launch_62 σ (nI z) q b y0) (f_JT_launchX_62 σ (nI z) q b y0) (f_Mo_launch_108 (q_up μ 48 0 0) (nI z) q b (nI (cF (q_up μ 48 0 0) 8)) (nI j0)) := by
        intro hfg
        unfold f_Mo_launch_108
        by_cases h4 : j0 = 4
        · subst h4
          rw [if_pos (show nI 4 = (4 : Int32) from rfl)]
          refine SIMX_t (r := 0) (y := 2) H false rfl ?_ (t2 _)
          rw [if_pos rfl] at hu
          obtain ⟨v0, f0⟩ := fp_some σ 8 0 200 0 rfl (by decide)
          obtain ⟨v1, f1⟩ := fp_some σ 8 0 200 1 rfl (by decide)
          have f0' : f_JT_freeProcess σ 0 = some (v0, σ) := f0
          have f1' : f_JT_freeProcess σ 1 = some (v1, σ) := f1
          unfold f_JT_launchX_62 f_JT_launchX_89
          simp only [q_bnd_s hu, q_bnd_s f0', q_bnd_s f1', if_pos m1lt]
          exact ite_self _
        · have hj4 : j0 < 4 := by omega
          have hg : gone σ μ j0 := hg0.resolve_left h4
          rw [if_neg h4] at hu
          obtain ⟨a, c, hac, hc8, hfa, hfc, -, -⟩ := two_free H.1.1 H.1.2.1 hj4 hg
          have hC : 2 ≤ cF (q_up μ 48 0 0) 8 := cF_two hac hc8 (by rw [q_up_f (by decide)]; exact (free_M H.1.1 (by omega)).mp hfa) (by rw [q_up_f (by decide)]; exact (free_M H.1.1 hc8).mp hfc)
          have hC8 := cF_le (q_up μ 48 0 0) 8
          obtain ⟨r, σ', μ', g1, g2, g3, g4⟩ := launch_go H hz hj4 hg hq b hfg hu
          refine Or.inl ⟨r, σ', μ', g1, ?_, g3, RR_mono (by omega) g4⟩
          rw [if_neg (show ¬ nI j0 = (4 : Int32) by rw [show (4 : Int32) = nI 4 from rfl]; exact nI_ne (by omega) (by decide) h4)]
          unfold f_Mo_launch_125
          rw [if_pos (show (2 : Int32) ≤ nI (cF (q_up μ 48 0 0) 8) by rw [show (2 : Int32) = nI 2 from rfl]; exact nI_le hC (by omega)), if_pos (show (1 : Int32) ≤ nI (cF (q_up μ 48 0 0) 8) by rw [show (1 : Int32) = nI 1 from rfl]; exact nI_le (by omega) (by omega)), ite_self]
          exact g2
      by_cases hb : b = 0
      · rw [if_pos hb, if_pos hb, if_pos hb]
        by_cases hf : σ 20 0 < 0
        · rw [if_pos hf, if_pos hf, if_pos hf]; exact key2 (fun _ => hf)
        · rw [if_neg hf, if_neg hf, if_neg hf]
          exact SIMX_t (r := 0) (y := 2) H false rfl rfl (t2 _)
      · rw [if_neg hb, if_neg hb, if_neg hb, ite_self]
        exact key2 (fun w => absurd w hb)
    have hz1 := hasP σ hz
    unfold f_JT_launch f_JT_launchX f_JT_launch_10 f_JT_launchX_10
    simp only [q_bnd_s hz1, if_neg (show ¬ (1 : Int32) = 0 by decide), if_true]
    by_cases hq1 : q = -1
    · subst hq1
      rw [if_pos rfl, if_pos rfl, if_neg (show ¬ (-1 : Int32) < -1 by decide), if_pos (show (-1 : Int32) ≤ 3 by decide)]
      exact key 0 (Or.inl ⟨rfl, rfl⟩)
    · rw [if_neg hq1, if_neg hq1]
      have badq : (q < 0 ∨ nI 4 ≤ q) → SIMX B (q_bnd (f_Programs_hasProgram σ q) fun r6 => if r6.1 = 0 then f_JT_launch_31 r6.2 else f_JT_launch_41 r6.2 (nI z) q b 1) (q_bnd (f_Programs_hasProgram σ q) fun r6 => if r6.1 = 0 then f_JT_launchX_31 r6.2 else f_JT_launchX_41 r6.2 (nI z) q b 1) (f_Mo_launch_89 (q_up μ 48 0 0) (nI z) q b (nI j0)) := by
        intro h
        refine SIMX_t (r := 0) (y := 1) H true rfl ?_ (t1 _)
        unfold f_JT_launchX_31
        rw [hasP0 σ h, q_bnd_v, if_pos rfl]
      rcases pk_ix q (show 4 < 2 ^ 31 by decide) with h | h | ⟨c, hc, rfl⟩
      · have hlt : q < -1 := by
          have hne : q.toInt ≠ (-1 : Int32).toInt := fun w => hq1 (Int32.toInt_inj.mp w)
          rw [Int32.lt_iff_toInt_lt] at h ⊢
          have e1 : (-1 : Int32).toInt = -1 := by decide
          have e0 : (0 : Int32).toInt = 0 := by decide
          omega
        rw [if_pos hlt]; exact badq (Or.inl h)
      · have hnl : ¬ q < -1 := by
          rw [Int32.le_iff_toInt_le, nI_toInt (by decide)] at h
          rw [Int32.lt_iff_toInt_lt]
          have e1 : (-1 : Int32).toInt = -1 := by decide
          omega
        rw [if_neg hnl, if_neg (show ¬ q ≤ (3 : Int32) from nle_of_lt (le_lt1 (n := 3) (by decide) h))]; exact badq (Or.inr h)
      · have hnl : ¬ nI c < -1 := by
          rw [Int32.lt_iff_toInt_lt, nI_toInt (by omega)]
          have e1 : (-1 : Int32).toInt = -1 := by decide
          omega
        rw [if_neg hnl, if_pos (show nI c ≤ (3 : Int32) by rw [show (3 : Int32) = nI 3 from rfl]; exact nI_le (by omega) (by decide))]
        have hc1 := hasP σ hc
        simp only [q_bnd_s hc1, if_neg (show ¬ (1 : Int32) = 0 by decide)]
        exact key 1 (Or.inr ⟨c, hc, rfl, rfl⟩)
