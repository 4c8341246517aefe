/-! THE START: from what the constructors lay to the worlds; the states -/
def s0 : q_St := fun f _ => if f = 20 ∨ f = 28 ∨ f = 29 ∨ f = 31 ∨ f = 32 then -1 else if f = 21 then 7 else if f = 22 then 47 else 0
def m0 : q_St := fun f _ => if f = 41 then -1 else if f = 42 then 47 else 0
theorem RR0 : RR 0 s0 m0 := by
  refine ⟨⟨fun i hi => ⟨⟨⟨rfl, rfl, rfl⟩, rfl, rfl, rfl, rfl, rfl, rfl, fun i _ _ => b_0 i, ⟨0, by decide, rfl⟩, ⟨0, by decide, rfl⟩⟩, Or.inl ⟨rfl, rfl⟩⟩, fun j hj => ⟨rfl, Or.inl ⟨rfl, rfl, rfl, rfl⟩⟩, ⟨rfl, rfl, rfl, Or.inl rfl, 7, by decide, rfl, rfl⟩, fun k hk => ⟨rfl, rfl⟩, ⟨⟨0, ⟨0, by decide, rfl, rfl, by decide, fun k hk => absurd hk (Nat.not_lt_zero k)⟩, rfl⟩, ⟨0, ⟨0, by decide, rfl, rfl, by decide, fun k hk => absurd hk (Nat.not_lt_zero k)⟩, rfl⟩, fun j hj => ⟨0, ⟨0, by decide, rfl, rfl, by decide, fun k hk => absurd hk (Nat.not_lt_zero k)⟩, rfl⟩⟩, ⟨0, Nat.le_refl _, rfl, rfl, Or.inl rfl, fun k hk => rfl⟩⟩, fun j hj => ?_⟩
  unfold stJ
  rw [if_pos (show s0 28 j < 0 from m1lt)]; rfl
theorem va_at_refs {D : va_G} {cl : List vw_C} {a : Nat} {cA : ClassId} {n : Nat} {f g : Nat → Option Nat} {H : Heap} (h : va_at D cl (a, .inl (cA, n, .inr (.inr (.inr (.inr f))))) H) (hfg : ∀ j, j < n → f j = g j) : va_at D cl (a, .inl (cA, n, .inr (.inr (.inr (.inr g))))) H := by
  have h1 : H[a]? = some (vp_cell cA (n, .inr (.inr (.inr (.inr f))))) := h
  have h2 : vp_cell cA (n, .inr (.inr (.inr (.inr f)))) = vp_cell cA (n, .inr (.inr (.inr (.inr g)))) := by
    show arrV cA n (fun j => va_rf (f j)) = arrV cA n (fun j => va_rf (g j))
    unfold arrV
    congr 1
    apply Array.ext
    · simp
    · intro i h1 h2
      simp only [Array.getElem_ofFn]
      rw [hfg i (by simpa using h1)]
  show H[a]? = some (vp_cell cA (n, .inr (.inr (.inr (.inr g)))))
  rw [← h2]; exact h1
theorem q_conv {D : va_G} {cl : List vw_C} {A : Nat → Prop} {H0 H : Heap} {locs : List Loc} {a a' b : va_W} (I : q_I D cl A H0 (a ++ b) H locs) (hP : va_P D cl a' H) (hD : va_D A a') (hadr : ∀ (k : Nat) (x : Nat × va_E), a'[k]? = some x → ∃ (k' : Nat) (y : Nat × va_E), a[k']? = some y ∧ y.1 = x.1) : q_I D cl A H0 (a' ++ b) H locs := by
  have at1 : ∀ (i : Nat) (x : Nat × va_E), a[i]? = some x → (a ++ b)[i]? = some x := fun i x h => by
    rw [List.getElem?_append_left (List.getElem?_eq_some_iff.mp h).1]; exact h
  have at2 : ∀ (i : Nat) (x : Nat × va_E), b[i]? = some x → (a ++ b)[a.length + i]? = some x := fun i x h => by
    rw [List.getElem?_append_right (by omega), Nat.add_sub_cancel_left]; exact h
  refine ⟨va_P.app hP (fun j y hy => I.1 _ y (at2 j y hy)), va_D.app hD ⟨fun i j x y hx hy hxy => ?_, fun k x hx => I.2.1.2 _ x (at2 k x hx)⟩ (fun i j x y hx hy hxy => ?_), I.2.2⟩
  · have := I.2.1.1 _ _ x y (at2 i x hx) (at2 j y hy) hxy
    omega
  · obtain ⟨k', z, hz, hzx⟩ := hadr i x hx
    have := I.2.1.1 k' (a.length + j) z y (at1 k' z hz) (at2 j y hy) (hzx.trans hxy)
    have := (List.getElem?_eq_some_iff.mp hz).1
    omega

def pC (cs : Nat → ClassId) (h0 : Nat) (u : Nat → Nat) : va_W := [(h0, .inr (6, [.ref (u 0), .ref (u 10), .ref (u 19), .ref (u 3), .null, .int 7])), (u 0, .inr (4, [.ref (u 1), .ref (u 2)])), (u 1, .inl (cs 0, 64, .inl (fun _ => 0))), (u 2, .inl (cs 0, 64, .inl (fun _ => 0))), (u 3, .inr (5, [.ref (u 4), .ref (u 6), .ref (u 8), .int 47, .int 0])), (u 4, .inr (3, [.ref (u 5), .int 0, .int 0])), (u 5, .inl (cs 0, 20, .inl (fun _ => 0))), (u 6, .inr (3, [.ref (u 7), .int 0, .int 0])), (u 7, .inl (cs 0, 40, .inl (fun _ => 0))), (u 8, .inr (0, [.ref (u 9), .int 0, .int 0])), (u 9, .inl (cs 0, 100, .inl (fun _ => 0))), (u 10, .inl (cs 2, 8, .inr (.inr (.inr (.inr (va_up (va_up (va_up (va_up (va_up (va_up (va_up (va_up (fun _ => none) 0 (some (u 11))) 1 (some (u 12))) 2 (some (u 13))) 3 (some (u 14))) 4 (some (u 15))) 5 (some (u 16))) 6 (some (u 17))) 7 (some (u 18)))))))), (u 11, .inr (2, [.null, .int 0, .int 0, .int 0, .int 0, .int 0, .int 0, .int 0, .int 0, .int 0])), (u 12, .inr (2, [.null, .int 0, .int 0, .int 0, .int 0, .int 0, .int 0, .int 0, .int 0, .int 0])), (u 13, .inr (2, [.null, .int 0, .int 0, .int 0, .int 0, .int 0, .int 0, .int 0, .int 0, .int 0])), (u 14, .inr (2, [.null, .int 0, .int 0, .int 0, .int 0, .int 0, .int 0, .int 0, .int 0, .int 0])), (u 15, .inr (2, [.null, .int 0, .int 0, .int 0, .int 0, .int 0, .int 0, .int 0, .int 0, .int 0])), (u 16, .inr (2, [.null, .int 0, .int 0, .int 0, .int 0, .int 0, .int 0, .int 0, .int 0, .int 0])), (u 17, .inr (2, [.null, .int 0, .int 0, .int 0, .int 0, .int 0, .int 0, .int 0, .int 0, .int 0])), (u 18, .inr (2, [.null, .int 0, .int 0, .int 0, .int 0, .int 0, .int 0, .int 0, .int 0, .int 0])), (u 19, .inl (cs 3, 4, .inr (.inr (.inr (.inr (va_up (va_up (va_up (va_up (fun _ => none) 0 (some (u 20))) 1 (some (u 23))) 2 (some (u 26))) 3 (some (u 29)))))))), (u 20, .inr (1, [.int 0, .ref (u 21), .null, .null, .int 0, .int (-1)])), (u 21, .inr (3, [.ref (u 22), .int 0, .int 0])), (u 22, .inl (cs 0, 4, .inl (fun _ => 0))), (u 23, .inr (1, [.int 1, .ref (u 24), .null, .null, .int 0, .int (-1)])), (u 24, .inr (3, [.ref (u 25), .int 0, .int 0])), (u 25, .inl (cs 0, 4, .inl (fun _ => 0))), (u 26, .inr (1, [.int 2, .ref (u 27), .null, .null, .int 0, .int (-1)])), (u 27, .inr (3, [.ref (u 28), .int 0, .int 0])), (u 28, .inl (cs 0, 4, .inl (fun _ => 0))), (u 29, .inr (1, [.int 3, .ref (u 30), .null, .null, .int 0, .int (-1)])), (u 30, .inr (3, [.ref (u 31), .int 0, .int 0])), (u 31, .inl (cs 0, 4, .inl (fun _ => 0)))]
def adC (h0 : Nat) (u : Nat → Nat) (k : Nat) : Nat := ([h0, u 0, u 1, u 2, u 10, u 19, u 3, u 8, u 9, u 11, u 12, u 13, u 14, u 15, u 16, u 17, u 18, u 20, u 23, u 26, u 29, u 4, u 6, u 21, u 24, u 27, u 30, u 5, u 7, u 22, u 25, u 28, u 31] : List Nat).getD k 0
def piC (k : Nat) : Nat := ([0, 1, 2, 3, 11, 20, 4, 9, 10, 12, 13, 14, 15, 16, 17, 18, 19, 21, 24, 27, 30, 5, 7, 22, 25, 28, 31, 6, 8, 23, 26, 29, 32] : List Nat).getD k 0
theorem piC_inj : ∀ i, i < 33 → ∀ j, j < 33 → piC i = piC j → i = j := by decide +kernel
theorem atC (cs : Nat → ClassId) (h0 : Nat) (u : Nat → Nat) (k : Nat) (hk : k < 33) : ∃ e, (pC cs h0 u)[piC k]? = some (adC h0 u k, e) := by
  match k, hk with
  | 0, _ => exact ⟨_, rfl⟩
  | 1, _ => exact ⟨_, rfl⟩
  | 2, _ => exact ⟨_, rfl⟩
  | 3, _ => exact ⟨_, rfl⟩
  | 4, _ => exact ⟨_, rfl⟩
  | 5, _ => exact ⟨_, rfl⟩
  | 6, _ => exact ⟨_, rfl⟩
  | 7, _ => exact ⟨_, rfl⟩
  | 8, _ => exact ⟨_, rfl⟩
  | 9, _ => exact ⟨_, rfl⟩
  | 10, _ => exact ⟨_, rfl⟩
  | 11, _ => exact ⟨_, rfl⟩
  | 12, _ => exact ⟨_, rfl⟩
  | 13, _ => exact ⟨_, rfl⟩
  | 14, _ => exact ⟨_, rfl⟩
  | 15, _ => exact ⟨_, rfl⟩
  | 16, _ => exact ⟨_, rfl⟩
  | 17, _ => exact ⟨_, rfl⟩
  | 18, _ => exact ⟨_, rfl⟩
  | 19, _ => exact ⟨_, rfl⟩
  | 20, _ => exact ⟨_, rfl⟩
  | 21, _ => exact ⟨_, rfl⟩
  | 22, _ => exact ⟨_, rfl⟩
  | 23, _ => exact ⟨_, rfl⟩
  | 24, _ => exact ⟨_, rfl⟩
  | 25, _ => exact ⟨_, rfl⟩
  | 26, _ => exact ⟨_, rfl⟩
  | 27, _ => exact ⟨_, rfl⟩
  | 28, _ => exact ⟨_, rfl⟩
  | 29, _ => exact ⟨_, rfl⟩
  | 30, _ => exact ⟨_, rfl⟩
  | 31, _ => exact ⟨_, rfl⟩
  | 32, _ => exact ⟨_, rfl⟩
  | k + 33, hk => exact absurd hk (by omega)
theorem celC {D : va_G} {cs : Nat → ClassId} {h0 : Nat} {u : Nat → Nat} {H : Heap} (hP : va_P D vwCl (pC cs h0 u) H) (k : Nat) (hk : k < 33) : va_at D vwCl (adC h0 u k, cC (adC h0 u) cs s0 k) H := by
  match k, hk with
  | 0, _ => exact hP 0 _ rfl
  | 1, _ => exact hP 1 _ rfl
  | 2, _ => exact hP 2 _ rfl
  | 3, _ => exact hP 3 _ rfl
  | 4, _ => exact va_at_refs (hP 11 _ rfl) (by intro j hj; match j, hj with | 0, _ => rfl | 1, _ => rfl | 2, _ => rfl | 3, _ => rfl | 4, _ => rfl | 5, _ => rfl | 6, _ => rfl | 7, _ => rfl | j + 8, hj => exact absurd hj (by omega))
  | 5, _ => exact va_at_refs (hP 20 _ rfl) (by intro j hj; match j, hj with | 0, _ => rfl | 1, _ => rfl | 2, _ => rfl | 3, _ => rfl | j + 4, hj => exact absurd hj (by omega))
  | 6, _ => exact hP 4 _ rfl
  | 7, _ => exact hP 9 _ rfl
  | 8, _ => exact hP 10 _ rfl
  | 9, _ => exact hP 12 _ rfl
  | 10, _ => exact hP 13 _ rfl
  | 11, _ => exact hP 14 _ rfl
  | 12, _ => exact hP 15 _ rfl
  | 13, _ => exact hP 16 _ rfl
  | 14, _ => exact hP 17 _ rfl
  | 15, _ => exact hP 18 _ rfl
  | 16, _ => exact hP 19 _ rfl
  | 17, _ => exact hP 21 _ rfl
  | 18, _ => exact hP 24 _ rfl
  | 19, _ => exact hP 27 _ rfl
  | 20, _ => exact hP 30 _ rfl
  | 21, _ => exact hP 5 _ rfl
  | 22, _ => exact hP 7 _ rfl
  | 23, _ => exact hP 22 _ rfl
  | 24, _ => exact hP 25 _ rfl
  | 25, _ => exact hP 28 _ rfl
  | 26, _ => exact hP 31 _ rfl
  | 27, _ => exact hP 6 _ rfl
  | 28, _ => exact hP 8 _ rfl
  | 29, _ => exact hP 23 _ rfl
  | 30, _ => exact hP 26 _ rfl
  | 31, _ => exact hP 29 _ rfl
  | 32, _ => exact hP 32 _ rfl
  | k + 33, hk => exact absurd hk (by omega)
theorem startC {D : va_G} {cs : Nat → ClassId} {h0 : Nat} {u : Nat → Nat} {H H0 : Heap} {A : Nat → Prop} {locs : List Loc} {w2 : va_W} (I : q_I D vwCl A H0 (pC cs h0 u ++ w2) H locs) : q_I D vwCl A H0 (q_ws 33 (adC h0 u) (cC (adC h0 u) cs s0) ++ w2) H locs := by
  obtain ⟨lP, lD⟩ := q_left I
  have key : ∀ (k : Nat) (x : Nat × va_E), (q_ws 33 (adC h0 u) (cC (adC h0 u) cs s0))[k]? = some x → k < 33 ∧ x.1 = adC h0 u k := by
    intro k x hx
    have hk : k < 33 := by have := (List.getElem?_eq_some_iff.mp hx).1; rwa [q_wsl] at this
    rw [q_ws_at hk] at hx
    exact ⟨hk, by rw [← Option.some.inj hx]⟩
  refine q_conv I (fun k x hx => ?_) ⟨fun i j x y hx hy hxy => ?_, fun k x hx => ?_⟩ (fun k x hx => ?_)
  · have hk := (key k x hx).1
    rw [q_ws_at hk] at hx
    rw [← Option.some.inj hx]
    exact celC lP k hk
  · obtain ⟨hi, e1⟩ := key i x hx
    obtain ⟨hj, e2⟩ := key j y hy
    obtain ⟨a1, b1⟩ := atC cs h0 u i hi
    obtain ⟨a2, b2⟩ := atC cs h0 u j hj
    exact piC_inj i hi j hj (lD.1 _ _ _ _ b1 b2 (by rw [← e1, ← e2]; exact hxy))
  · obtain ⟨hk, e1⟩ := key k x hx
    obtain ⟨a1, b1⟩ := atC cs h0 u k hk
    rw [e1]; exact lD.2 _ _ b1
  · obtain ⟨hk, e1⟩ := key k x hx
    obtain ⟨a1, b1⟩ := atC cs h0 u k hk
    exact ⟨_, _, b1, e1.symm⟩
def pM (cs : Nat → ClassId) (h0 : Nat) (u : Nat → Nat) : va_W := [(h0, .inr (7, [.ref (u 0), .ref (u 1), .ref (u 2), .ref (u 3), .ref (u 4), .ref (u 5), .ref (u 6), .ref (u 7), .ref (u 8), .ref (u 9), .ref (u 10), .ref (u 11), .int 0, .ref (u 12), .ref (u 13), .ref (u 14), .ref (u 15), .ref (u 16), .ref (u 17), .ref (u 18), .int (-1), .int 47, .int 0, .int 0, .ref (u 19), .int 0, .ref (u 20), .int 0, .ref (u 21), .int 0, .int 0])), (u 0, .inl (cs 0, 64, .inl (fun _ => 0))), (u 1, .inl (cs 0, 64, .inl (fun _ => 0))), (u 2, .inl (cs 0, 8, .inl (fun _ => 0))), (u 3, .inl (cs 0, 8, .inl (fun _ => 0))), (u 4, .inl (cs 0, 8, .inl (fun _ => 0))), (u 5, .inl (cs 0, 8, .inl (fun _ => 0))), (u 6, .inl (cs 0, 8, .inl (fun _ => 0))), (u 7, .inl (cs 0, 8, .inl (fun _ => 0))), (u 8, .inl (cs 0, 8, .inl (fun _ => 0))), (u 9, .inl (cs 0, 8, .inl (fun _ => 0))), (u 10, .inl (cs 0, 8, .inl (fun _ => 0))), (u 11, .inl (cs 0, 8, .inl (fun _ => 0))), (u 12, .inl (cs 1, 4, .inl (fun _ => 0))), (u 13, .inl (cs 0, 4, .inl (fun _ => 0))), (u 14, .inl (cs 0, 4, .inl (fun _ => 0))), (u 15, .inl (cs 0, 4, .inl (fun _ => 0))), (u 16, .inl (cs 1, 4, .inl (fun _ => 0))), (u 17, .inl (cs 0, 4, .inl (fun _ => 0))), (u 18, .inl (cs 0, 16, .inl (fun _ => 0))), (u 19, .inl (cs 0, 20, .inl (fun _ => 0))), (u 20, .inl (cs 0, 40, .inl (fun _ => 0))), (u 21, .inl (cs 0, 100, .inl (fun _ => 0)))]
def adM (h0 : Nat) (u : Nat → Nat) (k : Nat) : Nat := ([h0, u 0, u 1, u 2, u 3, u 4, u 5, u 6, u 7, u 8, u 9, u 10, u 11, u 12, u 13, u 14, u 15, u 16, u 17, u 18, u 19, u 20, u 21] : List Nat).getD k 0
def piM (k : Nat) : Nat := ([0, 1, 2, 3, 4, 5, 6, 7, 8, 9, 10, 11, 12, 13, 14, 15, 16, 17, 18, 19, 20, 21, 22] : List Nat).getD k 0
theorem piM_inj : ∀ i, i < 23 → ∀ j, j < 23 → piM i = piM j → i = j := by decide +kernel
theorem atM (cs : Nat → ClassId) (h0 : Nat) (u : Nat → Nat) (k : Nat) (hk : k < 23) : ∃ e, (pM cs h0 u)[piM k]? = some (adM h0 u k, e) := by
  match k, hk with
  | 0, _ => exact ⟨_, rfl⟩
  | 1, _ => exact ⟨_, rfl⟩
  | 2, _ => exact ⟨_, rfl⟩
  | 3, _ => exact ⟨_, rfl⟩
  | 4, _ => exact ⟨_, rfl⟩
  | 5, _ => exact ⟨_, rfl⟩
  | 6, _ => exact ⟨_, rfl⟩
  | 7, _ => exact ⟨_, rfl⟩
  | 8, _ => exact ⟨_, rfl⟩
  | 9, _ => exact ⟨_, rfl⟩
  | 10, _ => exact ⟨_, rfl⟩
  | 11, _ => exact ⟨_, rfl⟩
  | 12, _ => exact ⟨_, rfl⟩
  | 13, _ => exact ⟨_, rfl⟩
  | 14, _ => exact ⟨_, rfl⟩
  | 15, _ => exact ⟨_, rfl⟩
  | 16, _ => exact ⟨_, rfl⟩
  | 17, _ => exact ⟨_, rfl⟩
  | 18, _ => exact ⟨_, rfl⟩
  | 19, _ => exact ⟨_, rfl⟩
  | 20, _ => exact ⟨_, rfl⟩
  | 21, _ => exact ⟨_, rfl⟩
  | 22, _ => exact ⟨_, rfl⟩
  | k + 23, hk => exact absurd hk (by omega)
theorem celM {D : va_G} {cs : Nat → ClassId} {h0 : Nat} {u : Nat → Nat} {H : Heap} (hP : va_P D vwCl (pM cs h0 u) H) (k : Nat) (hk : k < 23) : va_at D vwCl (adM h0 u k, cM (adM h0 u) cs m0 k) H := by
  match k, hk with
  | 0, _ => exact hP 0 _ rfl
  | 1, _ => exact hP 1 _ rfl
  | 2, _ => exact hP 2 _ rfl
  | 3, _ => exact hP 3 _ rfl
  | 4, _ => exact hP 4 _ rfl
  | 5, _ => exact hP 5 _ rfl
  | 6, _ => exact hP 6 _ rfl
  | 7, _ => exact hP 7 _ rfl
  | 8, _ => exact hP 8 _ rfl
  | 9, _ => exact hP 9 _ rfl
  | 10, _ => exact hP 10 _ rfl
  | 11, _ => exact hP 11 _ rfl
  | 12, _ => exact hP 12 _ rfl
  | 13, _ => exact hP 13 _ rfl
  | 14, _ => exact hP 14 _ rfl
  | 15, _ => exact hP 15 _ rfl
  | 16, _ => exact hP 16 _ rfl
  | 17, _ => exact hP 17 _ rfl
  | 18, _ => exact hP 18 _ rfl
  | 19, _ => exact hP 19 _ rfl
  | 20, _ => exact hP 20 _ rfl
  | 21, _ => exact hP 21 _ rfl
  | 22, _ => exact hP 22 _ rfl
  | k + 23, hk => exact absurd hk (by omega)
theorem startM {D : va_G} {cs : Nat → ClassId} {h0 : Nat} {u : Nat → Nat} {H H0 : Heap} {A : Nat → Prop} {locs : List Loc} {w2 : va_W} (I : q_I D vwCl A H0 (pM cs h0 u ++ w2) H locs) : q_I D vwCl A H0 (q_ws 23 (adM h0 u) (cM (adM h0 u) cs m0) ++ w2) H locs := by
  obtain ⟨lP, lD⟩ := q_left I
  have key : ∀ (k : Nat) (x : Nat × va_E), (q_ws 23 (adM h0 u) (cM (adM h0 u) cs m0))[k]? = some x → k < 23 ∧ x.1 = adM h0 u k := by
    intro k x hx
    have hk : k < 23 := by have := (List.getElem?_eq_some_iff.mp hx).1; rwa [q_wsl] at this
    rw [q_ws_at hk] at hx
    exact ⟨hk, by rw [← Option.some.inj hx]⟩
  refine q_conv I (fun k x hx => ?_) ⟨fun i j x y hx hy hxy => ?_, fun k x hx => ?_⟩ (fun k x hx => ?_)
  · have hk := (key k x hx).1
    rw [q_ws_at hk] at hx
    rw [← Option.some.inj hx]
    exact celM lP k hk
  · obtain ⟨hi, e1⟩ := key i x hx
    obtain ⟨hj, e2⟩ := key j y hy
    obtain ⟨a1, b1⟩ := atM cs h0 u i hi
    obtain ⟨a2, b2⟩ := atM cs h0 u j hj
    exact piM_inj i hi j hj (lD.1 _ _ _ _ b1 b2 (by rw [← e1, ← e2]; exact hxy))
  · obtain ⟨hk, e1⟩ := key k x hx
    obtain ⟨a1, b1⟩ := atM cs h0 u k hk
    rw [e1]; exact lD.2 _ _ b1
  · obtain ⟨hk, e1⟩ := key k x hx
    obtain ⟨a1, b1⟩ := atM cs h0 u k hk
    exact ⟨_, _, b1, e1.symm⟩
