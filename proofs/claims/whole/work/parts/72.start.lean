/-! THE CLAIM OUT OF ONE WALK OF THE LAW'S BODY. Your part is whole_start (and what it stands on); all else here is the same for every law, but numbers. -/
def R_law : String := "JobTerminalLaw"
def lw_P (b : Addr) (xs : List Int32) (args : Array Value) (s : State) : Prop := args = #[.ref b] ∧ s.IntsAt b xs ∧ xs.length ≤ 2560 ∧ (Jvm.Cond.and given_1 narrow_1).before args s = true
def lw_Q (_ : Array Value) (s : State) (o : Outcome) (t : State) : Prop := o = .returned (some (.int 1)) ∧ Framed s o t [] 633060 7196923
def lw_Z (below : List Frame) (a : Array Value) (s : State) : State → Prop := fun t => ∃ o, t.status = .running ∧ Ended t below o ∧ lw_Q a s o t
/-- the law's own end, with 1 on the stack, nothing written that was there before, its room as the claim has it -/
theorem lw_ret {p : Program} {l : Launch} {e : Env} {s : State} {m : MethodId} {below : List Frame} {meth : Method} {c : Code} {b : Nat} (hx : p.tables.exec = Jvm.exec) (hb : c.code = code) (hr : meth.sig.returnType = ret) (hlocks : meth.locks = false) {pc : Nat} {H : Heap} {ls : Array Slot} (hdg : decode code pc = .ok (.ireturn, 1)) : W p l e room_1 s m #[Value.ref b] below meth c H [] 633060 7196923 (lw_Z below #[Value.ref b] s) (F0 m pc ls [.int 1]) := by
  intro T hT X
  obtain ⟨fs, hret, hrun, hended, hW, hframe⟩ := X.leave (v := some (.int 1)) (hlocks := hlocks) (fun h => by rw [hr] at h; cases h)
  have hmeth' : T.vm.method? m = some meth := X.method'
  refine ⟨T.setFrames fs, ?_, .returned (some (.int 1)), hrun, hended, rfl, ⟨_, rfl⟩, hW, hframe⟩
  jvm_step X.here [X.here.top, hx, hb, hdg, hmeth', hr, ret, narrow_b1]
  (try refine ⟨rfl, ?_⟩); (try refine ⟨rfl, ?_⟩)
  first | (intro acts; rw [hret _ acts rfl rfl rfl]) | rw [hret _ _ rfl rfl rfl]
  exact Steps.refl _
/-- what holds at the law's entry: the machine, the code, the tables' words (any of lw_tbl by 'hts w (by decide +kernel)'), the script of L ints xs at the cell b, what the Statement gives of the start (any of its parts by flat_of_before) -/
def lw_At (p : Program) (s : State) (m : MethodId) (meth : Method) (c : Code) (b L : Nat) (xs : Nat → Int32) : Prop :=
  p.tables.exec = Jvm.exec ∧ c.code = code ∧ meth.sig.returnType = ret ∧ c.maxLocals = 7 ∧ s.vm.findClass R_law = some m.cls ∧ (∀ w ∈ lw_tbl, w.before #[Value.ref b] s = true) ∧ va_X b L xs s s.heap ∧ b < s.heap.size ∧ meth.locks = false ∧ (Jvm.Cond.and given_1 narrow_1).before #[Value.ref b] s = true
theorem mw723 : (Jvm.Cond.instantiable "JobTerminal" (6 : Nat)) ∈ GW := q_mem 71 rfl rfl
set_option maxRecDepth 20000 in
theorem mw724 : (Jvm.Cond.instantiable "JobTerminalModel" (31 : Nat)) ∈ GW := q_mem 696 rfl rfl
set_option maxRecDepth 20000 in
theorem mw725 : (Jvm.Cond.arrayClass Jvm.ClassFile.FieldType.long) ∈ GW := q_mem 979 rfl rfl
theorem mw726 : (Jvm.Cond.classLink "JobTerminalLaw" (8 : Nat) "JobTerminal") ∈ GW := q_mem 70 rfl rfl
theorem mw727 : (Jvm.Cond.code ({ cls := "JobTerminal", name := "<init>", desc := "()V" } : Jvm.MethodName) prog_1_method_1_code (2 : Nat) (Option.none : Option Jvm.ClassFile.FieldType)) ∈ GW := q_mem 74 rfl rfl
theorem mw728 : (Jvm.Cond.methodLink "JobTerminalLaw" (28 : Nat) ({ cls := "JobTerminal", name := "<init>", desc := "()V" } : Jvm.MethodName)) ∈ GW := q_mem 72 rfl rfl
theorem mw729 : (Jvm.Cond.instanceMethod ({ cls := "JobTerminal", name := "<init>", desc := "()V" } : Jvm.MethodName)) ∈ GW := q_mem 73 rfl rfl
set_option maxRecDepth 20000 in
theorem mw730 : (Jvm.Cond.classLink "JobTerminalLaw" (29 : Nat) "JobTerminalModel") ∈ GW := q_mem 695 rfl rfl
set_option maxRecDepth 20000 in
theorem mw731 : (Jvm.Cond.code ({ cls := "JobTerminalModel", name := "<init>", desc := "()V" } : Jvm.MethodName) prog_9_method_1_code (1 : Nat) (Option.none : Option Jvm.ClassFile.FieldType)) ∈ GW := q_mem 699 rfl rfl
set_option maxRecDepth 20000 in
theorem mw732 : (Jvm.Cond.methodLink "JobTerminalLaw" (31 : Nat) ({ cls := "JobTerminalModel", name := "<init>", desc := "()V" } : Jvm.MethodName)) ∈ GW := q_mem 697 rfl rfl
set_option maxRecDepth 20000 in
theorem mw733 : (Jvm.Cond.instanceMethod ({ cls := "JobTerminalModel", name := "<init>", desc := "()V" } : Jvm.MethodName)) ∈ GW := q_mem 698 rfl rfl
theorem q_noTrace {l : Launch} (h : l.flags = flags0) : l.stackTraces = false := by
  unfold Launch.stackTraces
  rw [h]
  decide +kernel
theorem q_goodIL {b : Cond} (hb : b ∈ GW) : GoodIn GW (b :: GW) := by
  intro w hw
  have k : w ∈ GW := by
    rcases List.mem_cons.mp hw with rfl | hw <;> assumption
  exact ⟨k, (q_gw k).2⟩
theorem XW_in : ∀ w ∈ XW, w ∈ lw_tbl := by decide +kernel
theorem XS_in : ∀ q ∈ XS, Cond.stringRef "JobTerminal" q.1 q.2 ∈ lw_tbl := by decide +kernel
theorem q_cA_long {D : va_G} {cs : Nat → ClassId} {cA : ClassId} {s : State} (h : va_K D vwCl (tyL cs ++ [(cA, .long)]) s) : cA = cs 4 := by
  have h1 := (h.2 5 (cA, .long) rfl).2
  have h2 := (h.2 4 (cs 4, .long) rfl).2
  exact Option.some.inj ((show s.vm.findClass _ = some cA from h1).symm.trans h2)
set_option maxRecDepth 20000 in
theorem q_N0 {s : State} {args : Array Value} (hts : ∀ w ∈ lw_tbl, w.before args s = true) : ∀ w ∈ NW, va_Nw w s := by
  intro w hw
  have h := hts w (NW_in w hw)
  simp only [NW, List.mem_cons, List.not_mem_nil, or_false] at hw
  rcases hw with rfl | rfl | rfl | rfl | rfl | rfl | rfl | rfl | rfl | rfl | rfl | rfl | rfl | rfl | rfl | rfl | rfl | rfl | rfl | rfl | rfl | rfl | rfl | rfl <;> first | exact va_Nw.of rfl h | exact va_AO.of h
set_option maxRecDepth 20000 in
theorem q_K0 {s : State} {args : Array Value} (htg : ∀ w ∈ GW, w.before args s = true) (hts : ∀ w ∈ lw_tbl, w.before args s = true) : ∃ (D : va_G) (cs : Nat → ClassId), va_K D vwCl (tyL cs) s := by
  obtain ⟨c0, i0, k0⟩ := u_known htg i_Display (htg _ mw526)
  obtain ⟨c1, i1, k1⟩ := u_known htg i_Job (htg _ mw546)
  obtain ⟨c2, i2, k2⟩ := u_known htg i_JobProcess (htg _ mw542)
  obtain ⟨c3, i3, k3⟩ := u_known htg i_NumberRow (htg _ mw518)
  obtain ⟨c4, i4, k4⟩ := u_known htg i_Programs (htg _ mw532)
  obtain ⟨c5, i5, k5⟩ := u_known htg i_Terminal (htg _ mw537)
  obtain ⟨c6, i6, k6⟩ := u_known htg i_JT (htg _ mw723)
  obtain ⟨c7, i7, k7⟩ := u_known htg i_Mo (htg _ mw724)
  obtain ⟨a0, ka0, cm0, f0, g0, h0⟩ := Cond.arrayClass_spec (htg _ mw508)
  obtain ⟨a1, ka1, cm1, f1, g1, h1⟩ := Cond.arrayClass_spec (htg _ mw551)
  obtain ⟨a4, ka4, cm4, f4, g4, h4⟩ := Cond.arrayClass_spec (htg _ mw725)
  obtain ⟨cm2, a2, ka2, f2, -, g2, h2, n2⟩ := Cond.arrayOver_spec (hts (Jvm.Cond.arrayOver (Jvm.ClassFile.FieldType.object "JobTerminal$JobProcess")) (List.mem_of_getElem? (i := 158) rfl))
  obtain ⟨cm3, a3, ka3, f3, -, g3, h3, n3⟩ := Cond.arrayOver_spec (hts (Jvm.Cond.arrayOver (Jvm.ClassFile.FieldType.object "JobTerminal$Job")) (List.mem_of_getElem? (i := 203) rfl))
  refine ⟨(fun c => match c with | 0 => c0 | 1 => c1 | 2 => c2 | 3 => c3 | 4 => c4 | 5 => c5 | 6 => c6 | _ => c7, fun c => match c with | 0 => i0 | 1 => i1 | 2 => i2 | 3 => i3 | 4 => i4 | 5 => i5 | 6 => i6 | _ => i7), fun k => match k with | 0 => a0 | 1 => a1 | 2 => a2 | 3 => a3 | _ => a4, fun c q hq => ?_, fun k q hk => ?_⟩
  · match c, hq with
    | 0, hq => cases hq; exact k0
    | 1, hq => cases hq; exact k1
    | 2, hq => cases hq; exact k2
    | 3, hq => cases hq; exact k3
    | 4, hq => cases hq; exact k4
    | 5, hq => cases hq; exact k5
    | 6, hq => cases hq; exact k6
    | 7, hq => cases hq; exact k7
    | c + 8, hq => exact absurd (List.getElem?_eq_some_iff.mp hq).1 (by simp [vwCl])
  · match k, hk with
    | 0, hk => cases hk; exact ⟨fun n z => ⟨fun k h => (by cases h), ka0, g0, cm0, h0⟩, f0⟩
    | 1, hk => cases hk; exact ⟨fun n z => ⟨fun k h => (by cases h), ka1, g1, cm1, h1⟩, f1⟩
    | 2, hk => cases hk; exact ⟨fun n z => ⟨fun k h => (by cases h), ka2, g2, cm2, h2⟩, ka2, cm2, g2, h2, f2, n2⟩
    | 3, hk => cases hk; exact ⟨fun n z => ⟨fun k h => (by cases h), ka3, g3, cm3, h3⟩, ka3, cm3, g3, h3, f3, n3⟩
    | 4, hk => cases hk; exact ⟨fun n z => ⟨fun k h => (by cases h), ka4, g4, cm4, h4⟩, f4⟩
    | k + 5, hk => exact absurd (List.getElem?_eq_some_iff.mp hk).1 (by simp [tyL])
theorem q_kcF {p : Program} {l : Launch} {e : Env} {R : Room} {s : State} {m : MethodId} {args : Array Value} {below : List Frame} {meth : Method} {c : Code} {H H0 : Heap} {locs : List Loc} {cells slots : Nat} {Q : State → Prop} {pc : Nat} {ls : Array Slot} {rest st0 : List Value} {D : va_G} {cl : List vw_C} {A : Nat → Prop} {mc ms : Nat} {w1 w2 : va_W} {post : (Nat → Nat) → va_W} {a : Array Value} (hA : ∀ q, H0.size ≤ q → A q) (I : q_I D cl A H0 (w1 ++ w2) H locs) (hr : va_Run p l e R s m args below meth c H locs cells slots mc ms (F0 m pc ls st0) rest (q_Qc D cl post (va_A w1 H.size) a) (va_A w1 H.size))
    (kk : ∀ (u : Nat → Nat) (H1 : Heap) (locs1 : List Loc), q_I D cl A H0 (post u ++ w2) H1 locs1 → W p l e R s m args below meth c H1 locs1 (cells + mc) (slots + ms) Q (F0 m (pc + 3) ls rest)) : W p l e R s m args below meth c H locs cells slots Q (F0 m pc ls st0) := by
  obtain ⟨lP, lD⟩ := q_left I
  have hF : ∀ q, va_A w1 H.size q → A q := by
    intro q h
    rcases h with ⟨k, e9, h⟩ | h
    · exact lD.2 k (q, e9) h
    · exact hA q (Nat.le_trans I.2.2.1 h)
  refine va_callv hr I.2.2 (fun q _ h => hF q h) hF (fun u t H1 locs1 ht hvm hw hB hz1 hk1 hS1 => ?_)
  obtain ⟨hP1, hD1⟩ := hB
  rw [ht] at hP1
  obtain ⟨j1, j2⟩ := q_join hA I hP1 hD1 hk1
  exact kk u H1 locs1 ⟨j1, j2, hS1⟩
set_option maxHeartbeats 4000000 in
set_option maxRecDepth 100000 in
theorem whole_start {p : Program} {e : Env} {s : State} {m : MethodId} {below : List Frame} {meth : Method} {c : Code} (l : Launch) (hls : l.stackTraces = false) {b L : Nat} {xs : Nat → Int32} (hL : L ≤ 2560) (C0 : lw_At p s m meth c b L xs) : W p l e room_1 s m #[Value.ref b] below meth c s.heap [] 0 0 (lw_Z below #[Value.ref b] s) (entryFrame m ([Value.ref b] : List Value).toArray 7) := by
  obtain ⟨hx, hb, hr, hml, hown, hts, hX, hbl, hlocks, hgv⟩ := C0
  have htg : ∀ w ∈ GW, w.before #[Value.ref b] s = true := fun w h => hts w (List.mem_filter.mp h).1
  obtain ⟨D, cs, hK⟩ := q_K0 htg hts
  have hN := q_N0 hts
  obtain ⟨A, hAd⟩ : ∃ A : Nat → Prop, A = fun q => s.heap.size ≤ q := ⟨_, rfl⟩
  have hA : ∀ q, s.heap.size ≤ q → A q := by rw [hAd]; exact fun _ h => h
  have hAn : ∀ a : Nat, a < s.heap.size → ¬ A a := by rw [hAd]; exact fun a h z => Nat.not_le.mpr h z
  have hfl := flat_of_before _ hgv
  have hXt : q_Xt s := by
    refine ⟨fun w hw => va_Nw.of (XW_k w hw).1 (hts w (XW_in w hw)), fun q hq => ?_⟩
    have h1 := hts _ (XS_in q hq)
    obtain ⟨-, -, -, sa, -, -, -, -, -, hev⟩ := Cond.stringRef_spec (hK.1 6 _ rfl).2.1 h1
    exact ⟨sa, vk_R.of h1 hev⟩
  have hXz : q_Xz A s s.heap := ⟨q_Sl_of (hts _ (by decide +kernel)) (hts (.initialized Bundle.tN) (by decide +kernel)) (hfl _ (by decide +kernel)) hAn, q_Sl_of (hts _ (by decide +kernel)) (hts (.initialized Bundle.tN) (by decide +kernel)) (hfl _ (by decide +kernel)) hAn⟩
  have hnc : va_Nc xIS xIA s := va_Nc.of (hfl _ (by decide +kernel))
  have C1 : q_L0 p l s m c b L xs D cs A := ⟨hx, hb, hml, hown, htg, hX, hbl, hK, hN, hls, hXt, hXz, hnc, hA, hAn b hbl⟩
  have hret : ∀ (H : Heap) (locs : List Loc) (ls : Array Slot) (i : Nat), i ≤ 512 → (∀ q ∈ locs, A q.base) → W p l e room_1 s m #[Value.ref b] below meth c H locs (57 + i) (1058 + 6 * i) (lw_Z below #[Value.ref b] s) (F0 m 717 ls []) := by
    intro H locs ls i hi hlo
    refine lv_iconst (v := 1) hx hb d_La_law_717 (by decide) ?_
    refine va_forget (fun q hq => by have h9 := hlo q hq; rw [hAd] at h9; exact h9) ?_
    refine W.widen (k := 633060) (n := 7196923) (by omega) (by omega) ?_
    exact lw_ret hx hb hr hlocks d_La_law_718
  obtain ⟨ls, hen, hl⟩ := q_entry (vs := [.ref b]) (n := 7) (lv := [(0, .ref b)]) (by intro v hv; simp only [List.mem_cons, List.not_mem_nil, or_false] at hv; rw [hv]; rfl) (Nat.le_of_ble_eq_true rfl) rfl
  rw [show entryFrame m ([Value.ref b] : List Value).toArray 7 = F0 m 0 ls [] from hen m]
  have I : q_I D vwCl A s.heap [] s.heap [] := ⟨fun k q h => by simp at h, ⟨fun i j x y h => by simp at h, fun k q h => by simp at h⟩, va_S.rf⟩
  refine va_new (ci := 6) (fs := [.null, .null, .null, .null, .null, .int 0]) (C := R_JT) (T := F_JT) (N := 6) hx hb htg i_JT t_JT t_JT_ok hown (htg _ mw726) (htg _ mw723) (htg _ mw184) hK I.1 I.2.1 I.2.2 hA rfl (fun j hj => by match j, hj with | 0, _ => rfl | 1, _ => rfl | 2, _ => rfl | 3, _ => rfl | 4, _ => rfl | 5, _ => rfl | j + 6, hj => exact absurd hj (by omega)) (Nat.le_of_ble_eq_true rfl) (Nat.le_of_ble_eq_true rfl) d_La_law_0 (fun q1 H hP hD hS => ?_)
  have I : q_I D vwCl A s.heap ([(q1, .inr (6, [.null, .null, .null, .null, .null, .int 0]))] ++ []) H [] := ⟨hP, hD, hS⟩
  refine lv_dup hx hb d_La_law_3 rfl ?_
  refine q_kcF hA I (va_runI (As := []) (rest := [.ref q1]) ⟨hx, hb, hml, hown, htg⟩ (c_JT_init (l := l) (D := D) (cs := cs) (h0 := q1) (sz := H.size)) (cwI 0 htg (q_goodIL mw727) rfl rfl rfl (htg _ mw184) (htg _ mw728) (htg _ mw729) rfl (by decide +kernel) ⟨(Nat.le_of_ble_eq_true rfl), (Nat.le_of_ble_eq_true rfl)⟩) ⟨q_Pre_blind NW_ok, fun U hU hW => q_Pre_at NW_ok hK hN (q_left I).1 (q_left I).2 hU hW⟩ rfl rfl (q_sz hl) rfl (lv_room (Nat.le_of_ble_eq_true rfl)) d_La_law_4 ⟨(Nat.le_of_ble_eq_true rfl), (Nat.le_of_ble_eq_true rfl)⟩) (fun u1 H locs I => ?_)
  have I : q_I D vwCl A s.heap (pC cs q1 u1 ++ []) H locs := I
  have I := startC I
  refine q_astoreR_n (lv' := [(1, .ref q1), (0, .ref b)]) hx hb d_La_law_7 rfl hl (by decide) rfl (fun ls hl => ?_)
  refine va_new (ci := 7) (fs := [.null, .null, .null, .null, .null, .null, .null, .null, .null, .null, .null, .null, .int 0, .null, .null, .null, .null, .null, .null, .null, .int 0, .int 0, .int 0, .int 0, .null, .int 0, .null, .int 0, .null, .int 0, .int 0]) (C := R_Mo) (T := F_Mo) (N := 31) hx hb htg i_Mo t_Mo t_Mo_ok hown (htg _ mw730) (htg _ mw724) (htg _ mw366) hK I.1 I.2.1 I.2.2 hA rfl (fun j hj => by match j, hj with | 0, _ => rfl | 1, _ => rfl | 2, _ => rfl | 3, _ => rfl | 4, _ => rfl | 5, _ => rfl | 6, _ => rfl | 7, _ => rfl | 8, _ => rfl | 9, _ => rfl | 10, _ => rfl | 11, _ => rfl | 12, _ => rfl | 13, _ => rfl | 14, _ => rfl | 15, _ => rfl | 16, _ => rfl | 17, _ => rfl | 18, _ => rfl | 19, _ => rfl | 20, _ => rfl | 21, _ => rfl | 22, _ => rfl | 23, _ => rfl | 24, _ => rfl | 25, _ => rfl | 26, _ => rfl | 27, _ => rfl | 28, _ => rfl | 29, _ => rfl | 30, _ => rfl | j + 31, hj => exact absurd hj (by omega)) (Nat.le_of_ble_eq_true rfl) (Nat.le_of_ble_eq_true rfl) d_La_law_8 (fun q2 H hP hD hS => ?_)
  have I : q_I D vwCl A s.heap ([(q2, .inr (7, [.null, .null, .null, .null, .null, .null, .null, .null, .null, .null, .null, .null, .int 0, .null, .null, .null, .null, .null, .null, .null, .int 0, .int 0, .int 0, .int 0, .null, .int 0, .null, .int 0, .null, .int 0, .int 0]))] ++ (q_ws 33 (adC q1 u1) (cC (adC q1 u1) cs s0) ++ [])) H locs := q_swap ⟨hP, hD, hS⟩
  refine lv_dup hx hb d_La_law_11 rfl ?_
  refine q_kcF hA I (va_runI (As := []) (rest := [.ref q2]) ⟨hx, hb, hml, hown, htg⟩ (c_Mo_init (l := l) (D := D) (cs := cs) (h0 := q2) (sz := H.size)) (cwI 0 htg (q_goodIL mw731) rfl rfl rfl (htg _ mw366) (htg _ mw732) (htg _ mw733) rfl (by decide +kernel) ⟨(Nat.le_of_ble_eq_true rfl), (Nat.le_of_ble_eq_true rfl)⟩) ⟨q_Pre_blind NW_ok, fun U hU hW => q_Pre_at NW_ok hK hN (q_left I).1 (q_left I).2 hU hW⟩ rfl rfl (q_sz hl) rfl (lv_room (Nat.le_of_ble_eq_true rfl)) d_La_law_12 ⟨(Nat.le_of_ble_eq_true rfl), (Nat.le_of_ble_eq_true rfl)⟩) (fun u2 H locs I => ?_)
  have I : q_I D vwCl A s.heap (pM cs q2 u2 ++ (q_ws 33 (adC q1 u1) (cC (adC q1 u1) cs s0) ++ [])) H locs := I
  have I := startM I
  refine q_astoreR_n (lv' := [(2, .ref q2), (1, .ref q1), (0, .ref b)]) hx hb d_La_law_15 rfl hl (by decide) rfl (fun ls hl => ?_)
  refine lv_iconst (v := 1) hx hb d_La_law_16 (by decide) ?_
  refine va_newa (atype := .long) (ty := .long) (N' := 1) (a0 := (1, .inr (.inl (fun _ => 0)))) hx hb (htg _ mw725) rfl hK I.1 I.2.1 I.2.2 hA (fun _ => rfl) (by decide) (by decide) (by decide) (Nat.le_of_ble_eq_true rfl) (Nat.le_of_ble_eq_true rfl) d_La_law_17 (fun q3 cA H hK9 hP hD hS => ?_)
  obtain rfl : cA = cs 4 := q_cA_long hK9
  have I : q_I D vwCl A s.heap ((q_ws 23 (adM q2 u2) (cM (adM q2 u2) cs m0) ++ (q_ws 33 (adC q1 u1) (cC (adC q1 u1) cs s0) ++ [])) ++ [(q3, .inl (cs 4, 1, .inr (.inl (fun _ => 0))))]) H locs := ⟨hP, hD, hS⟩
  rw [List.append_nil] at I
  have I := q_swap (q_as I)
  refine q_astoreR_n (lv' := [(3, .ref q3), (2, .ref q2), (1, .ref q1), (0, .ref b)]) hx hb d_La_law_19 rfl hl (by decide) rfl (fun ls hl => ?_)
  refine lv_iconst (v := 0) hx hb d_La_law_20 (by decide) ?_
  refine q_istore (lv' := [(4, .int 0), (3, .ref q3), (2, .ref q2), (1, .ref q1), (0, .ref b)]) hx hb d_La_law_21 hl (by decide) rfl (fun ls hl => ?_)
  exact law_loop C1 (ad := adC q1 u1) (ad2 := adM q2 u2) (oa := q3) hL hret 512 0 (fun _ => 0) s0 m0 H locs ls (by omega) (by omega) RR0 I (q_hsub hl [4, 3, 2, 1, 0] rfl)
