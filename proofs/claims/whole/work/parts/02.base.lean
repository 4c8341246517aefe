/-! BASE: states as tables of ints, references by code, guards, worlds as tables of cells, and rows over them -/
abbrev q_St : Type := Nat → Nat → Int32
def q_up (σ : q_St) (f i : Nat) (x : Int32) : q_St := fun g j => if g = f ∧ j = i then x else σ g j
theorem q_up_self (σ : q_St) (f i : Nat) (x : Int32) : q_up σ f i x f i = x := by simp [q_up]
theorem q_up_f {σ : q_St} {f g i j : Nat} {x : Int32} (h : g ≠ f) : q_up σ f i x g j = σ g j := by simp [q_up, h]
theorem q_up_i {σ : q_St} {f g i j : Nat} {x : Int32} (h : j ≠ i) : q_up σ f i x g j = σ g j := by simp [q_up, h]
theorem q_up_rowf {σ : q_St} {f g i : Nat} {x : Int32} (h : g ≠ f) : q_up σ f i x g = σ g := by funext j; simp [q_up, h]
theorem q_up_row (σ : q_St) (f i : Nat) (x : Int32) : q_up σ f i x f = upd (σ f) i x := by funext j; simp [q_up, upd]
def q_rfo (ad : Nat → Nat) (b : Nat) (v : Int32) : Option Nat := if v < 0 then none else some (ad (b + v.toNatClampNeg))
def q_rv (ad : Nat → Nat) (b : Nat) (v : Int32) : Value := va_rf (q_rfo ad b v)
def q_in (v : Int32) (n : Nat) : Bool := decide (¬ v < 0) && decide (v.toNatClampNeg < n)
def q_okn (v : Int32) (n : Nat) : Bool := decide (v = -1) || q_in v n
def q_isB (v : Int32) : Bool := decide (v = 0) || decide (v = 1)
def q_grd {α : Type} (b : Bool) (k : Option α) : Option α := if b = true then k else none
def q_bnd {α β : Type} (o : Option α) (k : α → Option β) : Option β := match o with
  | none => none
  | some a => k a
theorem q_grd_some {α : Type} {b : Bool} {k : Option α} {x : α} (h : q_grd b k = some x) : b = true ∧ k = some x := by
  unfold q_grd at h
  by_cases hb : b = true
  · rw [if_pos hb] at h; exact ⟨hb, h⟩
  · rw [if_neg hb] at h; cases h
theorem q_bnd_some {α β : Type} {o : Option α} {k : α → Option β} {x : β} (h : q_bnd o k = some x) : ∃ a, o = some a ∧ k a = some x := by
  cases o with
  | none => cases h
  | some a => exact ⟨a, rfl, h⟩
theorem q_grd_t {α : Type} {b : Bool} {k : Option α} (h : b = true) : q_grd b k = k := by rw [h]; rfl
theorem q_bnd_s {α β : Type} {o : Option α} {k : α → Option β} {a : α} (h : o = some a) : q_bnd o k = k a := by rw [h]; rfl
theorem q_in_pos {v : Int32} {n : Nat} (h : q_in v n = true) : ¬ v < 0 := by
  simp only [q_in, Bool.and_eq_true, decide_eq_true_eq] at h; exact h.1
theorem q_in_lt {v : Int32} {n : Nat} (h : q_in v n = true) : v.toNatClampNeg < n := by
  simp only [q_in, Bool.and_eq_true, decide_eq_true_eq] at h; exact h.2
theorem q_in_vp {v : Int32} {n : Nat} (h : q_in v n = true) : vp_in v n := by
  have h1 := q_in_pos h
  have h2 := q_in_lt h
  intro h3
  rcases h3 with h3 | h3
  · exact h1 h3
  · omega
theorem q_in_nI {i n : Nat} (h : i < n) (hn : n < 2 ^ 31) : q_in (nI i) n = true := by
  simp only [q_in, Bool.and_eq_true, decide_eq_true_eq]
  exact ⟨nI_pos (by omega), by rw [nI_clamp (by omega)]; exact h⟩
theorem q_of_in {v : Int32} {n : Nat} (h : q_in v n = true) (hn : n < 2 ^ 31) : ∃ j : Nat, j < n ∧ v = nI j := vp_in_of (q_in_vp h) hn
theorem q_rfo_s {ad : Nat → Nat} {b : Nat} {v : Int32} (h : ¬ v < 0) : q_rfo ad b v = some (ad (b + v.toNatClampNeg)) := if_neg h
theorem q_rfo_n {ad : Nat → Nat} {b : Nat} {v : Int32} (h : v < 0) : q_rfo ad b v = none := if_pos h
theorem q_rv_ref {ad : Nat → Nat} {b : Nat} {v : Int32} (h : ¬ v < 0) : q_rv ad b v = .ref (ad (b + v.toNatClampNeg)) := by
  unfold q_rv; rw [q_rfo_s h]; rfl
theorem q_rv_null {ad : Nat → Nat} {b : Nat} {v : Int32} (h : v < 0) : q_rv ad b v = .null := by
  unfold q_rv; rw [q_rfo_n h]; rfl
theorem q_rv_m1 {ad : Nat → Nat} {b : Nat} : q_rv ad b (-1) = .null := q_rv_null (by decide)
theorem q_rv_nI {ad : Nat → Nat} {b t : Nat} (h : t < 2 ^ 31) : q_rv ad b (nI t) = .ref (ad (b + t)) := by
  rw [q_rv_ref (nI_pos h), nI_clamp h]
def q_ws (N : Nat) (ad : Nat → Nat) (cel : Nat → va_E) : va_W := (List.range N).map (fun k => (ad k, cel k))
theorem q_ws_at {N : Nat} {ad : Nat → Nat} {cel : Nat → va_E} {k : Nat} (h : k < N) : (q_ws N ad cel)[k]? = some (ad k, cel k) := by
  unfold q_ws
  rw [List.getElem?_map, List.getElem?_range h]
  rfl
theorem q_ws_none {N : Nat} {ad : Nat → Nat} {cel : Nat → va_E} {k : Nat} (h : ¬ k < N) : (q_ws N ad cel)[k]? = none := by
  apply List.getElem?_eq_none
  simp [q_ws]; omega
theorem q_ws_set {N : Nat} {ad : Nat → Nat} {cel cel' : Nat → va_E} {k : Nat} {e : va_E} (h : k < N) (h1 : cel' k = e) (h2 : ∀ j, j ≠ k → cel' j = cel j) : (q_ws N ad cel).set k (ad k, e) = q_ws N ad cel' := by
  apply List.ext_getElem?
  intro j
  by_cases hj : j = k
  · subst hj
    rw [List.getElem?_set_self (by simp [q_ws]; exact h), q_ws_at h, h1]
  · rw [List.getElem?_set_ne (Ne.symm hj)]
    by_cases hl : j < N
    · rw [q_ws_at hl, q_ws_at hl, h2 j hj]
    · rw [q_ws_none hl, q_ws_none hl]
theorem q_inj {A : Nat → Prop} {N : Nat} {ad : Nat → Nat} {cel : Nat → va_E} (hD : va_D A (q_ws N ad cel)) {i j : Nat} (hi : i < N) (hj : j < N) (h : ad i = ad j) : i = j :=
  hD.1 i j _ _ (q_ws_at hi) (q_ws_at hj) h
theorem q_rfo_inj {A : Nat → Prop} {N : Nat} {ad : Nat → Nat} {cel : Nat → va_E} (hD : va_D A (q_ws N ad cel)) {b n : Nat} (hb : b + n ≤ N) (hn : n < 2 ^ 31) {v w : Int32} (hv : q_okn v n = true) (hw : q_okn w n = true) : q_rfo ad b v = q_rfo ad b w ↔ v = w := by
  simp only [q_okn, Bool.or_eq_true, decide_eq_true_eq] at hv hw
  constructor
  · intro h
    rcases hv with rfl | hv <;> rcases hw with rfl | hw
    · rfl
    · rw [q_rfo_n (by decide), q_rfo_s (q_in_pos hw)] at h; cases h
    · rw [q_rfo_n (v := -1) (by decide), q_rfo_s (q_in_pos hv)] at h; cases h
    · rw [q_rfo_s (q_in_pos hv), q_rfo_s (q_in_pos hw)] at h
      obtain ⟨i, hi, rfl⟩ := q_of_in hv hn
      obtain ⟨j, hj, rfl⟩ := q_of_in hw hn
      rw [nI_clamp (by omega), nI_clamp (by omega)] at h
      have := q_inj hD (by omega) (by omega) (Option.some.inj h)
      rw [show i = j by omega]
  · intro h; rw [h]
/-- the caller's, or the method's own, heap: its world ws, apart, and what has changed since H0 -/
def q_I (D : va_G) (cl : List vw_C) (A : Nat → Prop) (H0 : Heap) (ws : va_W) (H : Heap) (locs : List Loc) : Prop := va_P D cl ws H ∧ va_D A ws ∧ va_S A H0 H locs
section QREF
variable {p : Program} {l : Launch} {e : Env} {R : Room} {s : State} {m : MethodId} {args : Array Value} {below : List Frame} {meth : Method} {c : Code} {H : Heap} {locs : List Loc} {cells slots : Nat} {Q : State → Prop}
variable {cc : ByteArray} {pc : Nat} {ls : Array Slot} {rest : List Value} {ad : Nat → Nat}
theorem q_aload_n (hexec : p.tables.exec = Jvm.exec) (hb : c.code = cc) {k : Fin 4} {i b : Nat} {v : Int32} (hdg : decode cc pc = .ok (.aload_n k, 1)) (hi : (k : Nat) = i) (hl : ls[i]? = some (.val (q_rv ad b v)))
    (kk : W p l e R s m args below meth c H locs cells slots Q (F0 m (pc + 1) ls (q_rv ad b v :: rest))) : W p l e R s m args below meth c H locs cells slots Q (F0 m pc ls rest) := by
  by_cases h : v < 0
  · rw [q_rv_null h] at hl kk
    exact lv_aload_nN hexec hb hdg hi hl kk
  · rw [q_rv_ref h] at hl kk
    exact lv_aload_n hexec hb hdg hi hl kk
theorem q_aload (hexec : p.tables.exec = Jvm.exec) (hb : c.code = cc) {i b : Nat} {v : Int32} (hdg : decode cc pc = .ok (.aload i, 2)) (hl : ls[i]? = some (.val (q_rv ad b v)))
    (kk : W p l e R s m args below meth c H locs cells slots Q (F0 m (pc + 2) ls (q_rv ad b v :: rest))) : W p l e R s m args below meth c H locs cells slots Q (F0 m pc ls rest) := by
  by_cases h : v < 0
  · rw [q_rv_null h] at hl kk
    exact lv_aloadN hexec hb hdg hl kk
  · rw [q_rv_ref h] at hl kk
    exact lv_aload hexec hb hdg hl kk
theorem q_astore_n (hexec : p.tables.exec = Jvm.exec) (hb : c.code = cc) {k : Fin 4} {i nL b : Nat} {v : Int32} {lv lv' : List (Nat × Value)} (hdg : decode cc pc = .ok (.astore_n k, 1)) (hi : (k : Nat) = i) (h : lv_has ls nL lv) (hn : i < nL) (hl : (i, q_rv ad b v) :: lv.filter (fun q => !(q.1 == i) && !(q.1 + 1 == i && q.2.category == 2)) = lv')
    (kk : ∀ ls' : Array Slot, lv_has ls' nL lv' → W p l e R s m args below meth c H locs cells slots Q (F0 m (pc + 1) ls' rest)) : W p l e R s m args below meth c H locs cells slots Q (F0 m pc ls (q_rv ad b v :: rest)) := by
  by_cases hv : v < 0
  · rw [q_rv_null hv] at hl ⊢
    exact lv_astore_nN hexec hb hdg hi h hn hl kk
  · rw [q_rv_ref hv] at hl ⊢
    exact lv_astore_n hexec hb hdg hi h hn hl kk
theorem q_astore (hexec : p.tables.exec = Jvm.exec) (hb : c.code = cc) {i nL b : Nat} {v : Int32} {lv lv' : List (Nat × Value)} (hdg : decode cc pc = .ok (.astore i, 2)) (h : lv_has ls nL lv) (hn : i < nL) (hl : (i, q_rv ad b v) :: lv.filter (fun q => !(q.1 == i) && !(q.1 + 1 == i && q.2.category == 2)) = lv')
    (kk : ∀ ls' : Array Slot, lv_has ls' nL lv' → W p l e R s m args below meth c H locs cells slots Q (F0 m (pc + 2) ls' rest)) : W p l e R s m args below meth c H locs cells slots Q (F0 m pc ls (q_rv ad b v :: rest)) := by
  by_cases hv : v < 0
  · rw [q_rv_null hv] at hl ⊢
    exact lv_astoreN hexec hb hdg h hn hl kk
  · rw [q_rv_ref hv] at hl ⊢
    exact lv_astore hexec hb hdg h hn hl kk
theorem q_null (hexec : p.tables.exec = Jvm.exec) (hb : c.code = cc) (b : Nat) (hdg : decode cc pc = .ok (.aconst_null, 1)) (kk : W p l e R s m args below meth c H locs cells slots Q (F0 m (pc + 1) ls (q_rv ad b (-1) :: rest))) : W p l e R s m args below meth c H locs cells slots Q (F0 m pc ls rest) := by
  rw [q_rv_m1] at kk
  exact lv_null hexec hb hdg kk
theorem q_ifnull (hexec : p.tables.exec = Jvm.exec) (hb : c.code = cc) {b : Nat} {v : Int32} {off : Int} {tgt : Nat} (hdg : decode cc pc = .ok (.ifnull off, 3)) (ht : (pc : Int) + off = (tgt : Int))
    (kt : v < 0 → W p l e R s m args below meth c H locs cells slots Q (F0 m tgt ls rest)) (kf : ¬ v < 0 → W p l e R s m args below meth c H locs cells slots Q (F0 m (pc + 3) ls rest)) : W p l e R s m args below meth c H locs cells slots Q (F0 m pc ls (q_rv ad b v :: rest)) := by
  by_cases h : v < 0
  · rw [q_rv_null h]; exact lv_ifnullN hexec hb hdg ht (kt h)
  · rw [q_rv_ref h]; exact lv_ifnull hexec hb hdg (kf h)
theorem q_ifnonnull (hexec : p.tables.exec = Jvm.exec) (hb : c.code = cc) {b : Nat} {v : Int32} {off : Int} {tgt : Nat} (hdg : decode cc pc = .ok (.ifnonnull off, 3)) (ht : (pc : Int) + off = (tgt : Int))
    (kt : ¬ v < 0 → W p l e R s m args below meth c H locs cells slots Q (F0 m tgt ls rest)) (kf : v < 0 → W p l e R s m args below meth c H locs cells slots Q (F0 m (pc + 3) ls rest)) : W p l e R s m args below meth c H locs cells slots Q (F0 m pc ls (q_rv ad b v :: rest)) := by
  by_cases h : v < 0
  · rw [q_rv_null h]; exact lv_ifnonnullN hexec hb hdg (kf h)
  · rw [q_rv_ref h]; exact lv_ifnonnull hexec hb hdg ht (kt h)
theorem q_acmp_eq (hexec : p.tables.exec = Jvm.exec) (hb : c.code = cc) {A : Nat → Prop} {N b n : Nat} {cel : Nat → va_E} {v w : Int32} {off : Int} {tgt : Nat} (hD : va_D A (q_ws N ad cel)) (hbn : b + n ≤ N) (hn : n < 2 ^ 31) (hv : q_okn v n = true) (hw : q_okn w n = true) (hdg : decode cc pc = .ok (.if_acmp .eq off, 3)) (ht : (pc : Int) + off = (tgt : Int))
    (kt : v = w → W p l e R s m args below meth c H locs cells slots Q (F0 m tgt ls rest)) (kf : ¬ v = w → W p l e R s m args below meth c H locs cells slots Q (F0 m (pc + 3) ls rest)) : W p l e R s m args below meth c H locs cells slots Q (F0 m pc ls (q_rv ad b w :: q_rv ad b v :: rest)) :=
  lv_acmp_eq hexec hb hdg ht (fun h => kt ((q_rfo_inj hD hbn hn hv hw).mp h)) (fun h => kf (fun h2 => h ((q_rfo_inj hD hbn hn hv hw).mpr h2)))
theorem q_acmp_ne (hexec : p.tables.exec = Jvm.exec) (hb : c.code = cc) {A : Nat → Prop} {N b n : Nat} {cel : Nat → va_E} {v w : Int32} {off : Int} {tgt : Nat} (hD : va_D A (q_ws N ad cel)) (hbn : b + n ≤ N) (hn : n < 2 ^ 31) (hv : q_okn v n = true) (hw : q_okn w n = true) (hdg : decode cc pc = .ok (.if_acmp .ne off, 3)) (ht : (pc : Int) + off = (tgt : Int))
    (kt : ¬ v = w → W p l e R s m args below meth c H locs cells slots Q (F0 m tgt ls rest)) (kf : v = w → W p l e R s m args below meth c H locs cells slots Q (F0 m (pc + 3) ls rest)) : W p l e R s m args below meth c H locs cells slots Q (F0 m pc ls (q_rv ad b w :: q_rv ad b v :: rest)) :=
  lv_acmp_ne hexec hb hdg ht (fun h => kt (fun h2 => h ((q_rfo_inj hD hbn hn hv hw).mpr h2))) (fun h => kf ((q_rfo_inj hD hbn hn hv hw).mp h))
end QREF
def q_nwOk (nw : List Cond) : Prop := ∀ w ∈ nw, (∀ (s U : State), s.vm = U.vm → va_Nw w s → va_Nw w U) ∧ ∀ (s U : State), s.WarmedH U.vm → va_Nw w s → va_Nw w U
/-- a method's start: its world, the tables, the nest's words -/
def q_Pre (D : va_G) (cl : List vw_C) (tys : List (ClassId × FieldType)) (nw : List Cond) (av : List Value) (ws : va_W) (sz : Nat) : Array Value → State → Prop :=
  va_Pc av (fun U => U.heap.size = sz ∧ va_P D cl ws U.heap ∧ va_K D cl tys U ∧ va_D (fun _ => True) ws ∧ ∀ w ∈ nw, va_Nw w U)
theorem q_Pre_blind {D : va_G} {cl : List vw_C} {tys : List (ClassId × FieldType)} {nw : List Cond} {av : List Value} {ws : va_W} {sz : Nat} (hnw : q_nwOk nw) : FrameBlind (q_Pre D cl tys nw av ws sz) := by
  intro a U g mk h
  obtain ⟨q0, q1, qP, qK, qD, qN⟩ := h
  exact ⟨q0, q1, qP, va_K.moved (u := U) (U := U.calling g mk a) (Vm.Alike.refl U.vm) qK, qD, fun w hw => (hnw w hw).1 U (U.calling g mk a) rfl (qN w hw)⟩
theorem q_Pre_at {D : va_G} {cl : List vw_C} {tys : List (ClassId × FieldType)} {nw : List Cond} {av : List Value} {ws : va_W} {s U : State} {H : Heap} {A : Nat → Prop} (hnw : q_nwOk nw) (hK : va_K D cl tys s) (hN : ∀ w ∈ nw, va_Nw w s) (hP : va_P D cl ws H) (hD : va_D A ws) (hU : U.heap = H) (hW : s.WarmedH U.vm) : q_Pre D cl tys nw av ws H.size av.toArray U :=
  ⟨rfl, by rw [hU], by rw [hU]; exact hP, va_K.moved hW.alike hK, hD.weaken (fun _ _ _ _ => trivial), fun w hw => (hnw w hw).2 s U hW (hN w hw)⟩
/-- a method's end: its answer, its world -/
def q_Qi (D : va_G) (cl : List vw_C) (r0 : Int32) (ws' : va_W) (A : Nat → Prop) : Array Value → State → Outcome → State → Prop := va_Qi (fun r (_ : Unit) => r = r0) (fun _ t => va_P D cl ws' t.heap ∧ va_D A ws') A
def q_Qv (D : va_G) (cl : List vw_C) (ws' : va_W) (A : Nat → Prop) : Array Value → State → Outcome → State → Prop := va_Qv (fun (_ : Unit) => True) (fun _ t => va_P D cl ws' t.heap ∧ va_D A ws') A
def q_Qq (D : va_G) (cl : List vw_C) (r0 : Option Nat) (ws' : va_W) (A : Nat → Prop) : Array Value → State → Outcome → State → Prop := va_Qq (fun r (_ : Unit) => r = r0) (fun _ t => va_P D cl ws' t.heap ∧ va_D A ws') A
section QRUN
variable {p : Program} {l : Launch} {e : Env} {R : Room} {s : State} {m : MethodId} {args : Array Value} {below : List Frame} {meth : Method} {c : Code} {H H0 : Heap} {locs : List Loc} {cells slots : Nat} {Q : State → Prop}
variable {cc : ByteArray} {pc : Nat} {ls : Array Slot} {rest st0 : List Value} {D : va_G} {cl : List vw_C} {A : Nat → Prop} {ws ws' : va_W} {a : Array Value} {tys : List (ClassId × FieldType)} {nw : List Cond}
theorem q_sub (hA : ∀ q, H0.size ≤ q → A q) (I : q_I D cl A H0 ws H locs) : ∀ q, va_A ws H.size q → A q := by
  intro q h
  rcases h with ⟨k, e, h⟩ | h
  · exact I.2.1.2 k (q, e) h
  · exact hA q (Nat.le_trans I.2.2.1 h)
theorem q_ki {r0 : Int32} (hA : ∀ q, H0.size ≤ q → A q) (I : q_I D cl A H0 ws H locs) (hr : va_Run p l e R s m args below meth c H locs cells slots 0 0 (F0 m pc ls st0) rest (q_Qi D cl r0 ws' (va_A ws H.size) a) (va_A ws H.size))
    (kk : ∀ (H1 : Heap) (locs1 : List Loc), q_I D cl A H0 ws' H1 locs1 → W p l e R s m args below meth c H1 locs1 cells slots Q (F0 m (pc + 3) ls (.int r0 :: rest))) : W p l e R s m args below meth c H locs cells slots Q (F0 m pc ls st0) := by
  have hF := q_sub hA I
  refine va_calli hr I.2.2 (fun q _ h => hF q h) hF (fun r u t H1 locs1 ht hvm hw hB hz1 hk1 hS1 => ?_)
  obtain ⟨hP1, hD1⟩ := hB
  rw [ht] at hP1
  subst hw
  exact kk H1 locs1 ⟨hP1, hD1.weaken (fun _ _ _ h => hF _ h), hS1⟩
theorem q_kv (hA : ∀ q, H0.size ≤ q → A q) (I : q_I D cl A H0 ws H locs) (hr : va_Run p l e R s m args below meth c H locs cells slots 0 0 (F0 m pc ls st0) rest (q_Qv D cl ws' (va_A ws H.size) a) (va_A ws H.size))
    (kk : ∀ (H1 : Heap) (locs1 : List Loc), q_I D cl A H0 ws' H1 locs1 → W p l e R s m args below meth c H1 locs1 cells slots Q (F0 m (pc + 3) ls rest)) : W p l e R s m args below meth c H locs cells slots Q (F0 m pc ls st0) := by
  have hF := q_sub hA I
  refine va_callv hr I.2.2 (fun q _ h => hF q h) hF (fun u t H1 locs1 ht hvm hw hB hz1 hk1 hS1 => ?_)
  obtain ⟨hP1, hD1⟩ := hB
  rw [ht] at hP1
  exact kk H1 locs1 ⟨hP1, hD1.weaken (fun _ _ _ h => hF _ h), hS1⟩
theorem q_kq {r0 : Option Nat} (hA : ∀ q, H0.size ≤ q → A q) (I : q_I D cl A H0 ws H locs) (hr : va_Run p l e R s m args below meth c H locs cells slots 0 0 (F0 m pc ls st0) rest (q_Qq D cl r0 ws' (va_A ws H.size) a) (va_A ws H.size))
    (kk : ∀ (H1 : Heap) (locs1 : List Loc), q_I D cl A H0 ws' H1 locs1 → W p l e R s m args below meth c H1 locs1 cells slots Q (F0 m (pc + 3) ls (va_rf r0 :: rest))) : W p l e R s m args below meth c H locs cells slots Q (F0 m pc ls st0) := by
  have hF := q_sub hA I
  refine va_callq hr I.2.2 (fun q _ h => hF q h) hF (fun r u t H1 locs1 ht hvm hw hB hz1 hk1 hS1 => ?_)
  obtain ⟨hP1, hD1⟩ := hB
  rw [ht] at hP1
  subst hw
  exact kk H1 locs1 ⟨hP1, hD1.weaken (fun _ _ _ h => hF _ h), hS1⟩
variable {y : MethodName} {bytes : ByteArray} {maxL nL n index : Nat} {ret : Option FieldType} {wy : List Cond} {rm : Room} {Qc : Array Value → State → Outcome → State → Prop} {free : Addr → Prop} {Ts : List Cond} {own C : String} {b : Addr} {As : List Value}
theorem q_runV (S : CallFix p m c cc nL s args Ts own) (hM : Met l y wy rm (q_Pre D cl tys nw (.ref b :: As) ws H.size) Qc 0 0 free) (cw : CallW R s args own C index y bytes maxL ret wy rm 0 0 n) (hnw : q_nwOk nw) (hK : va_K D cl tys s) (hN : ∀ w ∈ nw, va_Nw w s) (I : q_I D cl A H0 ws H locs) {q0 ci : Nat} {T : u_T} {N : Nat} {fs : List Value} (hc : cl[ci]? = some (C, T, N)) (he : ws[q0]? = some (b, .inr (ci, fs)))
    (hn : As.length = n) (hsize : ls.size = nL) (hstack : st0 = As.reverse ++ .ref b :: rest) (hW : (rest.map fun v => v.category).sum ≤ 8) (hdg : decode cc pc = .ok (.invokevirtual index, 3)) (hf : cells ≤ R.cells ∧ slots ≤ R.slots) :
    va_Run p l e R s m args below meth c H locs cells slots 0 0 (F0 m pc ls st0) rest (Qc (Value.ref b :: As).toArray) free :=
  va_runV (g := F0 m pc ls st0) S hM cw ⟨q_Pre_blind hnw, va_recv hK I.1 hc he, fun U hU hW => q_Pre_at hnw hK hN I.1 I.2.1 hU hW⟩ rfl hn hsize hstack (lv_room hW) hdg hf
theorem q_runS (S : CallFix p m c cc nL s args Ts own) (hM : Met l y wy rm (q_Pre D cl tys nw As ws H.size) Qc 0 0 free) (cw : CallB R s args own index y bytes maxL ret wy rm 0 0 n ∧ (Cond.static y).before args s = true) (hnw : q_nwOk nw) (hK : va_K D cl tys s) (hN : ∀ w ∈ nw, va_Nw w s) (I : q_I D cl A H0 ws H locs)
    (hn : As.length = n) (hsize : ls.size = nL) (hstack : st0 = As.reverse ++ rest) (hW : (rest.map fun v => v.category).sum ≤ 8) (hdg : decode cc pc = .ok (.invokestatic index, 3)) (hf : cells ≤ R.cells ∧ slots ≤ R.slots) :
    va_Run p l e R s m args below meth c H locs cells slots 0 0 (F0 m pc ls st0) rest (Qc As.toArray) free :=
  va_runS (g := F0 m pc ls st0) S hM cw ⟨q_Pre_blind hnw, fun U hU hW => q_Pre_at hnw hK hN I.1 I.2.1 hU hW⟩ rfl hn hsize hstack (lv_room hW) hdg hf
/-- ends -/
theorem q_iret {r0 : Int32} (hx : p.tables.exec = Jvm.exec) (hb : c.code = cc) (hr : meth.sig.returnType = some .int) (hlocks : meth.locks = false) (I : q_I D cl A s.heap ws' H locs) (hdg : decode cc pc = .ok (.ireturn, 1)) : W p l e R s m args below meth c H locs cells slots (MQ below (q_Qi D cl r0 ws' A) args s cells slots A) (F0 m pc ls [.int r0]) :=
  W.iret (v := r0) hx hb hr (fun t ht hW => ⟨⟨r0, (), rfl, rfl, by rw [ht]; exact I.1, I.2.1⟩, I.2.2.F ht⟩) I.2.2.2.2 hdg hlocks
theorem q_zret {r0 : Int32} (hx : p.tables.exec = Jvm.exec) (hb : c.code = cc) (hr : meth.sig.returnType = some .boolean) (hlocks : meth.locks = false) (hB : q_isB r0 = true) (I : q_I D cl A s.heap ws' H locs) (hdg : decode cc pc = .ok (.ireturn, 1)) : W p l e R s m args below meth c H locs cells slots (MQ below (q_Qi D cl r0 ws' A) args s cells slots A) (F0 m pc ls [.int r0]) :=
  W.zret (v := r0) hx hb hr (by
    simp only [q_isB, Bool.or_eq_true, decide_eq_true_eq] at hB
    rcases hB with rfl | rfl <;> rfl) (fun t ht hW => ⟨⟨r0, (), rfl, rfl, by rw [ht]; exact I.1, I.2.1⟩, I.2.2.F ht⟩) I.2.2.2.2 hdg hlocks
theorem q_vret (hx : p.tables.exec = Jvm.exec) (hb : c.code = cc) (hr : meth.sig.returnType = none) (hlocks : meth.locks = false) (I : q_I D cl A s.heap ws' H locs) (hdg : decode cc pc = .ok (.return_, 1)) : W p l e R s m args below meth c H locs cells slots (MQ below (q_Qv D cl ws' A) args s cells slots A) (F0 m pc ls []) :=
  W.vret hx hb hr (fun t ht hW => ⟨⟨(), rfl, trivial, by rw [ht]; exact I.1, I.2.1⟩, I.2.2.F ht⟩) I.2.2.2.2 hdg hlocks
theorem q_aret {ad : Nat → Nat} {bb : Nat} {v : Int32} {cn : String} (hx : p.tables.exec = Jvm.exec) (hb : c.code = cc) (hr : meth.sig.returnType = some (.object cn)) (hlocks : meth.locks = false) (I : q_I D cl A s.heap ws' H locs) (hdg : decode cc pc = .ok (.areturn, 1)) : W p l e R s m args below meth c H locs cells slots (MQ below (q_Qq D cl (q_rfo ad bb v) ws' A) args s cells slots A) (F0 m pc ls [q_rv ad bb v]) :=
  W.aret hx hb hr (Or.inl ⟨cn, rfl⟩) (va_rf_or _) (fun t ht hW => ⟨⟨q_rfo ad bb v, (), rfl, rfl, by rw [ht]; exact I.1, I.2.1⟩, I.2.2.F ht⟩) I.2.2.2.2 hdg hlocks
variable {ad : Nat → Nat} {cel cel' : Nat → va_E} {NN : Nat}
/-- fields of the world's objects, and elements of its arrays -/
theorem q_get (hexec : p.tables.exec = Jvm.exec) (hb : c.code = cc) {own C : String} {T : u_T} {N ci index : Nat} {Ts : List Cond} (hts : ∀ w ∈ Ts, w.before args s = true) (hin : ∀ w ∈ u_ws C T N, w ∈ Ts) (hown : s.vm.findClass own = some m.cls) (hK : va_K D cl tys s) (I : q_I D cl A H0 (q_ws NN ad cel) H locs) (k : Nat) (hk : k < NN) {fs : List Value} (he : cel k = .inr (ci, fs)) (hc : cl[ci]? = some (C, T, N)) (j : Nat) (hj : j < N) (hlink : (Cond.fieldLink own index (T j).1 (T j).2.1 (T j).2.2.1).before args s = true) {v : Value} (hv : fs[j]? = some v) (hdg : decode cc pc = .ok (.getfield index, 3))
    (kk : W p l e R s m args below meth c H locs cells slots Q (F0 m (pc + 3) ls (v :: rest))) : W p l e R s m args below meth c H locs cells slots Q (F0 m pc ls (.ref (ad k) :: rest)) :=
  va_get hexec hb hts hin hown hK I.1 k (by rw [q_ws_at hk, he]) hc j hj hlink (fun _ h9 => h9) hv hdg kk
theorem q_getN (hexec : p.tables.exec = Jvm.exec) (hb : c.code = cc) {own C host : String} {T : u_T} {N ci index : Nat} {Ts : List Cond} (hts : ∀ w ∈ Ts, w.before args s = true) (hin : ∀ w ∈ u_ws C T N, w ∈ Ts) (hown : s.vm.findClass own = some m.cls) (hK : va_K D cl tys s) (I : q_I D cl A H0 (q_ws NN ad cel) H locs) (k : Nat) (hk : k < NN) {fs : List Value} (he : cel k = .inr (ci, fs)) (hc : cl[ci]? = some (C, T, N)) (j : Nat) (hj : j < N) (hlink : (Cond.fieldLinkNest own index (T j).1 (T j).2.1 (T j).2.2.1 host).before args s = true) {v : Value} (hv : fs[j]? = some v) (hdg : decode cc pc = .ok (.getfield index, 3))
    (kk : W p l e R s m args below meth c H locs cells slots Q (F0 m (pc + 3) ls (v :: rest))) : W p l e R s m args below meth c H locs cells slots Q (F0 m pc ls (.ref (ad k) :: rest)) :=
  va_getN hexec hb hts hin hown hK I.1 k (by rw [q_ws_at hk, he]) hc j hj hlink (fun _ h9 => h9) hv hdg kk
theorem q_put (hexec : p.tables.exec = Jvm.exec) (hb : c.code = cc) {own C : String} {T : u_T} {N ci index : Nat} {Ts : List Cond} (hts : ∀ w ∈ Ts, w.before args s = true) (hin : ∀ w ∈ u_ws C T N, w ∈ Ts) (ty0 : Nat → FieldType) (hty : ∀ k, k < N → parseFieldDescriptor (T k).2.2.1 = some (ty0 k)) (hnm : ∀ a, a < N → ∀ b, b < N → a ≠ b → (T a).2.1 ≠ (T b).2.1) (hown : s.vm.findClass own = some m.cls) (hK : va_K D cl tys s) (I : q_I D cl A H0 (q_ws NN ad cel) H locs) (k : Nat) (hk : k < NN) {fs : List Value} (he : cel k = .inr (ci, fs)) (hc : cl[ci]? = some (C, T, N)) (j : Nat) (hj : j < N) (hlink : (Cond.fieldLink own index (T j).1 (T j).2.1 (T j).2.2.1).before args s = true) (hfin : (T j).2.2.2 = false) {v : Value} (hn : narrow (ty0 j) v = v) (hfit : fits (ty0 j) v = true) (hl : j < fs.length) (h1 : cel' k = .inr (ci, fs.set j v)) (h2 : ∀ i, i ≠ k → cel' i = cel i) (hdg : decode cc pc = .ok (.putfield index, 3))
    (kk : ∀ (H1 : Heap) (locs1 : List Loc), q_I D cl A H0 (q_ws NN ad cel') H1 locs1 → W p l e R s m args below meth c H1 locs1 cells slots Q (F0 m (pc + 3) ls rest)) : W p l e R s m args below meth c H locs cells slots Q (F0 m pc ls (v :: .ref (ad k) :: rest)) := by
  refine va_put hexec hb hts hin ty0 hty hnm hown hK I.1 I.2.1 I.2.2 k (by rw [q_ws_at hk, he]) hc j hj hlink (fun _ h9 => h9) hfin (hty j hj) hn hfit hl hdg (fun H1 locs1 hP hD hS => ?_)
  rw [q_ws_set hk h1 h2] at hP hD
  exact kk H1 locs1 ⟨hP, hD, hS⟩
theorem q_putN (hexec : p.tables.exec = Jvm.exec) (hb : c.code = cc) {own C host : String} {T : u_T} {N ci index : Nat} {Ts : List Cond} (hts : ∀ w ∈ Ts, w.before args s = true) (hin : ∀ w ∈ u_ws C T N, w ∈ Ts) (ty0 : Nat → FieldType) (hty : ∀ k, k < N → parseFieldDescriptor (T k).2.2.1 = some (ty0 k)) (hnm : ∀ a, a < N → ∀ b, b < N → a ≠ b → (T a).2.1 ≠ (T b).2.1) (hown : s.vm.findClass own = some m.cls) (hK : va_K D cl tys s) (I : q_I D cl A H0 (q_ws NN ad cel) H locs) (k : Nat) (hk : k < NN) {fs : List Value} (he : cel k = .inr (ci, fs)) (hc : cl[ci]? = some (C, T, N)) (j : Nat) (hj : j < N) (hlink : (Cond.fieldLinkNest own index (T j).1 (T j).2.1 (T j).2.2.1 host).before args s = true) (hfin : (T j).2.2.2 = false) {v : Value} (hn : narrow (ty0 j) v = v) (hfit : fits (ty0 j) v = true) (hl : j < fs.length) (h1 : cel' k = .inr (ci, fs.set j v)) (h2 : ∀ i, i ≠ k → cel' i = cel i) (hdg : decode cc pc = .ok (.putfield index, 3))
    (kk : ∀ (H1 : Heap) (locs1 : List Loc), q_I D cl A H0 (q_ws NN ad cel') H1 locs1 → W p l e R s m args below meth c H1 locs1 cells slots Q (F0 m (pc + 3) ls rest)) : W p l e R s m args below meth c H locs cells slots Q (F0 m pc ls (v :: .ref (ad k) :: rest)) := by
  refine va_putN hexec hb hts hin ty0 hty hnm hown hK I.1 I.2.1 I.2.2 k (by rw [q_ws_at hk, he]) hc j hj hlink (fun _ h9 => h9) hfin (hty j hj) hn hfit hl hdg (fun H1 locs1 hP hD hS => ?_)
  rw [q_ws_set hk h1 h2] at hP hD
  exact kk H1 locs1 ⟨hP, hD, hS⟩
theorem q_iald (hexec : p.tables.exec = Jvm.exec) (hb : c.code = cc) (hK : va_K D cl tys s) (I : q_I D cl A H0 (q_ws NN ad cel) H locs) (k t0 : Nat) (hk : k < NN) {cA : ClassId} {n : Nat} {f : Nat → Int32} (he : cel k = .inl (cA, n, .inl f)) (ht : tys[t0]? = some (cA, .int)) {i : Int32} (hin : q_in i n = true) (hdg : decode cc pc = .ok (.iaload, 1))
    (kk : W p l e R s m args below meth c H locs cells slots Q (F0 m (pc + 1) ls (.int (f i.toNatClampNeg) :: rest))) : W p l e R s m args below meth c H locs cells slots Q (F0 m pc ls (.int i :: .ref (ad k) :: rest)) :=
  va_iald hexec hb hK I.1 k t0 (by rw [q_ws_at hk, he]) ht (q_in_vp hin) hdg kk
theorem q_iast (hexec : p.tables.exec = Jvm.exec) (hb : c.code = cc) (hK : va_K D cl tys s) (I : q_I D cl A H0 (q_ws NN ad cel) H locs) (k t0 : Nat) (hk : k < NN) {cA : ClassId} {n : Nat} {f : Nat → Int32} (he : cel k = .inl (cA, n, .inl f)) (ht : tys[t0]? = some (cA, .int)) {i x : Int32} (hin : q_in i n = true) (h1 : cel' k = .inl (cA, n, .inl (upd f i.toNatClampNeg x))) (h2 : ∀ i, i ≠ k → cel' i = cel i) (hdg : decode cc pc = .ok (.iastore, 1))
    (kk : ∀ (H1 : Heap) (locs1 : List Loc), q_I D cl A H0 (q_ws NN ad cel') H1 locs1 → W p l e R s m args below meth c H1 locs1 cells slots Q (F0 m (pc + 1) ls rest)) : W p l e R s m args below meth c H locs cells slots Q (F0 m pc ls (.int x :: .int i :: .ref (ad k) :: rest)) := by
  refine va_iast hexec hb hK I.1 I.2.1 I.2.2 k t0 (by rw [q_ws_at hk, he]) ht (q_in_vp hin) hdg (fun H1 locs1 hP hD hS => ?_)
  rw [q_ws_set hk h1 h2] at hP hD
  exact kk H1 locs1 ⟨hP, hD, hS⟩
theorem q_alen (hexec : p.tables.exec = Jvm.exec) (hb : c.code = cc) (hK : va_K D cl tys s) (I : q_I D cl A H0 (q_ws NN ad cel) H locs) (k t0 : Nat) (hk : k < NN) {cA : ClassId} {x : vp_A} (he : cel k = .inl (cA, x)) {ty : FieldType} (ht : tys[t0]? = some (cA, ty)) {v : Int32} (hv : Int32.ofNat x.1 = v) (hdg : decode cc pc = .ok (.arraylength, 1))
    (kk : W p l e R s m args below meth c H locs cells slots Q (F0 m (pc + 1) ls (.int v :: rest))) : W p l e R s m args below meth c H locs cells slots Q (F0 m pc ls (.ref (ad k) :: rest)) :=
  va_alen hexec hb hK I.1 k t0 (by rw [q_ws_at hk, he]) ht hv hdg kk
/-- an array of references to the pool's objects b, b + 1 .. -/
theorem q_aald (hexec : p.tables.exec = Jvm.exec) (hb : c.code = cc) (hK : va_K D cl tys s) (I : q_I D cl A H0 (q_ws NN ad cel) H locs) (k t0 bb : Nat) (hk : k < NN) {cA : ClassId} {C : String} {n : Nat} (he : cel k = .inl (cA, n, .inr (.inr (.inr (.inr (fun j => some (ad (bb + j)))))))) (ht : tys[t0]? = some (cA, .object C)) {i : Int32} (hin : q_in i n = true) (hdg : decode cc pc = .ok (.aaload, 1))
    (kk : W p l e R s m args below meth c H locs cells slots Q (F0 m (pc + 1) ls (q_rv ad bb i :: rest))) : W p l e R s m args below meth c H locs cells slots Q (F0 m pc ls (.int i :: .ref (ad k) :: rest)) := by
  rw [q_rv_ref (q_in_pos hin)] at kk
  exact va_aldq (f := fun j => some (ad (bb + j))) hexec hb hK I.1 k t0 (by rw [q_ws_at hk, he]) ht (q_in_vp hin) hdg kk
end QRUN

/-- locals: the listed values are held, and each takes one place -/
def q_has (ls : Array Slot) (nL : Nat) (lv : List (Nat × Value)) : Prop := lv_has ls nL lv ∧ ∀ q ∈ lv, q.2.category = 1
theorem q_cat {ad : Nat → Nat} {b : Nat} {v : Int32} : (q_rv ad b v).category = 1 := by
  by_cases h : v < 0
  · rw [q_rv_null h]; rfl
  · rw [q_rv_ref h]; rfl
theorem q_at {ls : Array Slot} {nL : Nat} {l : List (Nat × Value)} (h : q_has ls nL l) (k : Nat) {i : Nat} {v : Value} (hk : l[k]? = some (i, v)) : ls[i]? = some (.val v) := lv_at h.1 k hk
theorem q_sz {ls : Array Slot} {nL : Nat} {l : List (Nat × Value)} (h : q_has ls nL l) : ls.size = nL := h.1.1
theorem q_hsub {ls : Array Slot} {nL : Nat} {l l' : List (Nat × Value)} (h : q_has ls nL l) (ks : List Nat) (hl : lv_pick l ks = l') : q_has ls nL l' := by
  refine ⟨lv_sub h.1 ks hl, fun q hq => ?_⟩
  rw [← hl] at hq
  obtain ⟨k, -, hk⟩ := List.mem_filterMap.mp hq
  exact h.2 q (List.mem_of_getElem? hk)
theorem q_filt {lv : List (Nat × Value)} {i : Nat} (h : ∀ q ∈ lv, q.2.category = 1) : lv.filter (fun q => !(q.1 == i) && !(q.1 + 1 == i && q.2.category == 2)) = lv.filter (fun q => !(q.1 == i)) := by
  apply List.filter_congr
  intro q hq
  rw [h q hq]
  simp
theorem q_hnew {ls : Array Slot} {nL i : Nat} {v : Value} {lv lv' : List (Nat × Value)} (hv : v.category = 1) (h : ∀ q ∈ lv, q.2.category = 1) (hl : (i, v) :: lv.filter (fun q => !(q.1 == i)) = lv') (h2 : lv_has ls nL lv') : q_has ls nL lv' := by
  refine ⟨h2, fun q hq => ?_⟩
  rw [← hl] at hq
  rcases List.mem_cons.mp hq with rfl | hq
  · exact hv
  · exact h q (List.mem_filter.mp hq).1
section QLOC
variable {p : Program} {l : Launch} {e : Env} {R : Room} {s : State} {m : MethodId} {args : Array Value} {below : List Frame} {meth : Method} {c : Code} {H : Heap} {locs : List Loc} {cells slots : Nat} {Q : State → Prop}
variable {cc : ByteArray} {pc : Nat} {ls : Array Slot} {rest : List Value} {ad : Nat → Nat}
theorem q_istore_n (hexec : p.tables.exec = Jvm.exec) (hb : c.code = cc) {k : Fin 4} {i nL : Nat} {x : Int32} {lv lv' : List (Nat × Value)} (hdg : decode cc pc = .ok (.istore_n k, 1)) (hi : (k : Nat) = i) (h : q_has ls nL lv) (hn : i < nL) (hl : (i, Value.int x) :: lv.filter (fun q => !(q.1 == i)) = lv')
    (kk : ∀ ls' : Array Slot, q_has ls' nL lv' → W p l e R s m args below meth c H locs cells slots Q (F0 m (pc + 1) ls' rest)) : W p l e R s m args below meth c H locs cells slots Q (F0 m pc ls (.int x :: rest)) :=
  lv_istore_n hexec hb hdg hi h.1 hn (by rw [q_filt h.2]; exact hl) (fun ls' h' => kk ls' (q_hnew rfl h.2 hl h'))
theorem q_istore (hexec : p.tables.exec = Jvm.exec) (hb : c.code = cc) {i nL : Nat} {x : Int32} {lv lv' : List (Nat × Value)} (hdg : decode cc pc = .ok (.istore i, 2)) (h : q_has ls nL lv) (hn : i < nL) (hl : (i, Value.int x) :: lv.filter (fun q => !(q.1 == i)) = lv')
    (kk : ∀ ls' : Array Slot, q_has ls' nL lv' → W p l e R s m args below meth c H locs cells slots Q (F0 m (pc + 2) ls' rest)) : W p l e R s m args below meth c H locs cells slots Q (F0 m pc ls (.int x :: rest)) :=
  lv_istore hexec hb hdg h.1 hn (by rw [q_filt h.2]; exact hl) (fun ls' h' => kk ls' (q_hnew rfl h.2 hl h'))
theorem q_iinc (hexec : p.tables.exec = Jvm.exec) (hb : c.code = cc) {i nL k : Nat} {n : Int} {x v : Int32} {lv lv' : List (Nat × Value)} (hdg : decode cc pc = .ok (.iinc i n, 3)) (h : q_has ls nL lv) (hk : lv[k]? = some (i, .int x)) (hv : x + Int32.ofInt n = v) (hn : i < nL) (hl : (i, Value.int v) :: lv.filter (fun q => !(q.1 == i)) = lv')
    (kk : ∀ ls' : Array Slot, q_has ls' nL lv' → W p l e R s m args below meth c H locs cells slots Q (F0 m (pc + 3) ls' rest)) : W p l e R s m args below meth c H locs cells slots Q (F0 m pc ls rest) :=
  lv_iinc hexec hb hdg h.1 hk hv hn (by rw [q_filt h.2]; exact hl) (fun ls' h' => kk ls' (q_hnew rfl h.2 hl h'))
theorem q_astoreR_n (hexec : p.tables.exec = Jvm.exec) (hb : c.code = cc) {k : Fin 4} {i nL : Nat} {x : Nat} {lv lv' : List (Nat × Value)} (hdg : decode cc pc = .ok (.astore_n k, 1)) (hi : (k : Nat) = i) (h : q_has ls nL lv) (hn : i < nL) (hl : (i, Value.ref x) :: lv.filter (fun q => !(q.1 == i)) = lv')
    (kk : ∀ ls' : Array Slot, q_has ls' nL lv' → W p l e R s m args below meth c H locs cells slots Q (F0 m (pc + 1) ls' rest)) : W p l e R s m args below meth c H locs cells slots Q (F0 m pc ls (.ref x :: rest)) :=
  lv_astore_n hexec hb hdg hi h.1 hn (by rw [q_filt h.2]; exact hl) (fun ls' h' => kk ls' (q_hnew rfl h.2 hl h'))
theorem q_astoreR (hexec : p.tables.exec = Jvm.exec) (hb : c.code = cc) {i nL : Nat} {x : Nat} {lv lv' : List (Nat × Value)} (hdg : decode cc pc = .ok (.astore i, 2)) (h : q_has ls nL lv) (hn : i < nL) (hl : (i, Value.ref x) :: lv.filter (fun q => !(q.1 == i)) = lv')
    (kk : ∀ ls' : Array Slot, q_has ls' nL lv' → W p l e R s m args below meth c H locs cells slots Q (F0 m (pc + 2) ls' rest)) : W p l e R s m args below meth c H locs cells slots Q (F0 m pc ls (.ref x :: rest)) :=
  lv_astore hexec hb hdg h.1 hn (by rw [q_filt h.2]; exact hl) (fun ls' h' => kk ls' (q_hnew rfl h.2 hl h'))
theorem q_astoreV_n (hexec : p.tables.exec = Jvm.exec) (hb : c.code = cc) {k : Fin 4} {i nL b : Nat} {v : Int32} {lv lv' : List (Nat × Value)} (hdg : decode cc pc = .ok (.astore_n k, 1)) (hi : (k : Nat) = i) (h : q_has ls nL lv) (hn : i < nL) (hl : (i, q_rv ad b v) :: lv.filter (fun q => !(q.1 == i)) = lv')
    (kk : ∀ ls' : Array Slot, q_has ls' nL lv' → W p l e R s m args below meth c H locs cells slots Q (F0 m (pc + 1) ls' rest)) : W p l e R s m args below meth c H locs cells slots Q (F0 m pc ls (q_rv ad b v :: rest)) :=
  q_astore_n hexec hb hdg hi h.1 hn (by rw [q_filt h.2]; exact hl) (fun ls' h' => kk ls' (q_hnew q_cat h.2 hl h'))
theorem q_astoreV (hexec : p.tables.exec = Jvm.exec) (hb : c.code = cc) {i nL b : Nat} {v : Int32} {lv lv' : List (Nat × Value)} (hdg : decode cc pc = .ok (.astore i, 2)) (h : q_has ls nL lv) (hn : i < nL) (hl : (i, q_rv ad b v) :: lv.filter (fun q => !(q.1 == i)) = lv')
    (kk : ∀ ls' : Array Slot, q_has ls' nL lv' → W p l e R s m args below meth c H locs cells slots Q (F0 m (pc + 2) ls' rest)) : W p l e R s m args below meth c H locs cells slots Q (F0 m pc ls (q_rv ad b v :: rest)) :=
  q_astore hexec hb hdg h.1 hn (by rw [q_filt h.2]; exact hl) (fun ls' h' => kk ls' (q_hnew q_cat h.2 hl h'))
end QLOC
/-- a method's locals at its entry -/
theorem q_args {vs : List Value} (h : ∀ v ∈ vs, v.category = 1) : ∀ k, lv_args k vs = (List.range vs.length).zipWith (fun i v => (k + i, v)) vs := by
  induction vs with
  | nil => intro k; rfl
  | cons v vs ih =>
    intro k
    have hv : v.category = 1 := h v List.mem_cons_self
    have ih := ih (fun w hw => h w (List.mem_cons_of_mem _ hw))
    rw [lv_args, hv, if_neg (by decide), ih (k + 1)]
    rw [List.length_cons, List.range_succ_eq_map, List.zipWith_cons_cons, List.zipWith_map_left]
    simp only [Nat.add_zero]
    congr 2
    funext i v
    simp only [Nat.succ_eq_add_one, Prod.mk.injEq, and_true]
    omega
theorem q_slen {vs : List Value} (h : ∀ v ∈ vs, v.category = 1) : (lg_sl vs).length = vs.length := by
  induction vs with
  | nil => rfl
  | cons v vs ih =>
    have hv : v.category = 1 := h v List.mem_cons_self
    have ih := ih (fun w hw => h w (List.mem_cons_of_mem _ hw))
    show (((if v.category = 2 then [Slot.val v, Slot.second] else [Slot.val v]) ++ lg_sl vs) : List Slot).length = _
    rw [hv, if_neg (by decide), List.length_append, ih]
    simp only [List.length_cons, List.length_nil]
    omega
theorem q_entry {vs : List Value} {n : Nat} {lv : List (Nat × Value)} (h : ∀ v ∈ vs, v.category = 1) (hn : vs.length ≤ n) (hl : (List.range vs.length).zipWith (fun i v => (0 + i, v)) vs = lv) : ∃ ls : Array Slot, (∀ m : MethodId, entryFrame m vs.toArray n = F0 m 0 ls []) ∧ q_has ls n lv := by
  refine ⟨_, fun m => lg_entry_eq m vs n, ?_⟩
  have h1 := lv_entry vs (n := n) (by rw [q_slen h]; exact hn)
  rw [q_args h 0, hl] at h1
  refine ⟨h1, fun q hq => ?_⟩
  rw [← hl] at hq
  obtain ⟨i, hi⟩ := List.getElem?_of_mem hq
  rw [List.getElem?_zipWith] at hi
  cases h3 : vs[i]? with
  | none => rw [h3] at hi; cases h4 : (List.range vs.length)[i]? <;> rw [h4] at hi <;> simp at hi
  | some v =>
    rw [h3] at hi
    cases h4 : (List.range vs.length)[i]? with
    | none => rw [h4] at hi; simp at hi
    | some j => rw [h4] at hi; simp at hi; rw [← hi]; exact h v (List.mem_of_getElem? h3)
section QZ
variable {p : Program} {l : Launch} {e : Env} {R : Room} {s : State} {m : MethodId} {args : Array Value} {below : List Frame} {meth : Method} {c : Code} {H H0 : Heap} {locs : List Loc} {cells slots : Nat} {Q : State → Prop}
variable {cc : ByteArray} {pc : Nat} {ls : Array Slot} {rest : List Value} {D : va_G} {cl : List vw_C} {A : Nat → Prop} {tys : List (ClassId × FieldType)} {ad : Nat → Nat} {cel cel' : Nat → va_E} {NN : Nat}
theorem q_nar {x : Int32} (h : q_isB x = true) : vp_nar .boolean x = x := by
  simp only [q_isB, Bool.or_eq_true, decide_eq_true_eq] at h
  rcases h with rfl | rfl <;> rfl
theorem q_zald (hexec : p.tables.exec = Jvm.exec) (hb : c.code = cc) (hK : va_K D cl tys s) (I : q_I D cl A H0 (q_ws NN ad cel) H locs) (k t0 : Nat) (hk : k < NN) {cA : ClassId} {n : Nat} {f : Nat → Int32} (he : cel k = .inl (cA, n, .inl f)) (ht : tys[t0]? = some (cA, .boolean)) {i : Int32} (hin : q_in i n = true) (hdg : decode cc pc = .ok (.baload, 1))
    (kk : W p l e R s m args below meth c H locs cells slots Q (F0 m (pc + 1) ls (.int (f i.toNatClampNeg) :: rest))) : W p l e R s m args below meth c H locs cells slots Q (F0 m pc ls (.int i :: .ref (ad k) :: rest)) :=
  va_zald hexec hb hK I.1 k t0 (by rw [q_ws_at hk, he]) ht (q_in_vp hin) hdg kk
theorem q_zast (hexec : p.tables.exec = Jvm.exec) (hb : c.code = cc) (hK : va_K D cl tys s) (I : q_I D cl A H0 (q_ws NN ad cel) H locs) (k t0 : Nat) (hk : k < NN) {cA : ClassId} {n : Nat} {f : Nat → Int32} (he : cel k = .inl (cA, n, .inl f)) (ht : tys[t0]? = some (cA, .boolean)) {i x : Int32} (hin : q_in i n = true) (hB : q_isB x = true) (h1 : cel' k = .inl (cA, n, .inl (upd f i.toNatClampNeg x))) (h2 : ∀ i, i ≠ k → cel' i = cel i) (hdg : decode cc pc = .ok (.bastore, 1))
    (kk : ∀ (H1 : Heap) (locs1 : List Loc), q_I D cl A H0 (q_ws NN ad cel') H1 locs1 → W p l e R s m args below meth c H1 locs1 cells slots Q (F0 m (pc + 1) ls rest)) : W p l e R s m args below meth c H locs cells slots Q (F0 m pc ls (.int x :: .int i :: .ref (ad k) :: rest)) := by
  refine va_zast hexec hb hK I.1 I.2.1 I.2.2 k t0 (by rw [q_ws_at hk, he]) ht (q_in_vp hin) hdg (fun H1 locs1 hP hD hS => ?_)
  rw [q_nar hB, q_ws_set hk h1 h2] at hP hD
  exact kk H1 locs1 ⟨hP, hD, hS⟩
theorem q_narR {ad : Nat → Nat} {b : Nat} {v : Int32} {C : String} : narrow (.object C) (q_rv ad b v) = q_rv ad b v := by
  by_cases h : v < 0
  · rw [q_rv_null h]; rfl
  · rw [q_rv_ref h]; rfl
theorem q_fitR {ad : Nat → Nat} {b : Nat} {v : Int32} {C : String} : fits (.object C) (q_rv ad b v) = true := by
  by_cases h : v < 0
  · rw [q_rv_null h]; rfl
  · rw [q_rv_ref h]; rfl
theorem q_narB {x : Int32} (h : q_isB x = true) : narrow .boolean (.int x) = .int x := by
  simp only [q_isB, Bool.or_eq_true, decide_eq_true_eq] at h
  rcases h with rfl | rfl <;> rfl
theorem q_fitB {x : Int32} (h : q_isB x = true) : fits .boolean (.int x) = true := by
  simp only [q_isB, Bool.or_eq_true, decide_eq_true_eq] at h
  rcases h with rfl | rfl <;> rfl
end QZ
/-- what a method's walk stands on -/
abbrev q_Cx (own : String) (cc : ByteArray) (nL : Nat) (ret : Option FieldType) (Ts : List Cond) (D : va_G) (cl : List vw_C) (tys : List (ClassId × FieldType)) (nw : List Cond) (p : Program) (s : State) (m : MethodId) (args : Array Value) (meth : Method) (c : Code) : Prop :=
  p.tables.exec = Jvm.exec ∧ c.code = cc ∧ meth.sig.returnType = ret ∧ c.maxLocals = nL ∧ s.vm.findClass own = some m.cls ∧ (∀ w ∈ Ts, w.before args s = true) ∧ meth.locks = false ∧ va_K D cl tys s ∧ ∀ w ∈ nw, va_Nw w s
theorem q_wsE {NN : Nat} {ad : Nat → Nat} {cel : Nat → va_E} {k : Nat} {o : va_E} (hk : k < NN) (he : cel k = o) : (q_ws NN ad cel)[k]? = some (ad k, o) := by rw [q_ws_at hk, he]
theorem q_sum {vs : List Value} (h : ∀ v ∈ vs, v.category = 1) (hn : vs.length ≤ 8) : (vs.map fun v => v.category).sum ≤ 8 := by
  have k : (vs.map fun v => v.category).sum = vs.length := by
    clear hn
    induction vs with
    | nil => rfl
    | cons v vs ih =>
      rw [List.map_cons, List.sum_cons, h v List.mem_cons_self, ih (fun w hw => h w (List.mem_cons_of_mem _ hw)), List.length_cons]
      omega
  omega

