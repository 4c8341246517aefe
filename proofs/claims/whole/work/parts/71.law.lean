set_option maxHeartbeats 4000000 in
set_option maxRecDepth 100000 in
theorem k_program {p : Program} {l : Launch} {e : Env} {s : State} {m : MethodId} {below : List Frame} {meth : Method} {c : Code} {b L : Nat} {xs : Nat → Int32} {D : va_G} {cs : Nat → ClassId} {A : Nat → Prop} {Q : State → Prop} (C0 : q_L0 p l s m c b L xs D cs A) {ad ad2 : Nat → Nat} {oa j B cells slots : Nat} {g : Nat → Int64} {σ μ : q_St} {H : Heap} {locs : List Loc} {ls : Array Slot} (HR : RR B σ μ) (hB : B + 300 < 2 ^ 27) (I : q_I D vwCl A s.heap ((q_ws 33 ad (cC ad cs σ) ++ [(oa, .inl (cs 4, 1, .inr (.inl g)))]) ++ q_ws 23 ad2 (cM ad2 cs μ)) H locs) (hl : q_has ls 7 [(0, .ref b), (1, .ref (ad 0)), (2, .ref (ad2 0)), (3, .ref oa), (4, .int (nI j))]) (hj : j + 5 ≤ L) (hL : L ≤ 2560) (hc : cells + 1 ≤ 633060) (hs : slots + 6 ≤ 7196923)
    (hend : ∀ (σ μ : q_St) (g : Nat → Int64) (H : Heap) (locs : List Loc) (ls : Array Slot), RR (B + 300) σ μ → q_I D vwCl A s.heap ((q_ws 33 ad (cC ad cs σ) ++ [(oa, .inl (cs 4, 1, .inr (.inl g)))]) ++ q_ws 23 ad2 (cM ad2 cs μ)) H locs → q_has ls 7 [(0, .ref b), (1, .ref (ad 0)), (2, .ref (ad2 0)), (3, .ref oa), (4, .int (nI j))] → W p l e room_1 s m #[Value.ref b] below meth c H locs (cells + 1) (slots + 6) Q (F0 m 711 ls [])) : W p l e room_1 s m #[Value.ref b] below meth c H locs cells slots Q (F0 m 120 ls []) := by
  obtain ⟨hx, hb, hml, hown, htg, hX, hbl, hK, hN, hls, hXt, hXz, hnc, hA, hbA⟩ := C0
  obtain ⟨r, σ2, μ2, e1, e2, HR2⟩ := program_sim HR ((xs (nI j + 1).toNatClampNeg)) ((xs (nI j + 2).toNatClampNeg)) ((xs (nI j + 3).toNatClampNeg)) ((xs (nI j + 4).toNatClampNeg))
  refine lv_aload_n hx hb d_La_law_120 rfl (q_at hl 1 rfl) ?_
  refine lv_aload_n hx hb d_La_law_121 rfl (q_at hl 0 rfl) ?_
  refine lv_iload hx hb d_La_law_122 (q_at hl 4 rfl) ?_
  refine lv_iconst (v := 1) hx hb d_La_law_124 (by decide) ?_
  refine lv_iadd hx hb d_La_law_125 ?_
  refine va_sld hx hb hX hbl hbA I.2.2 (show vp_in (nI j + 1) L from q_ix (k := 1) hj hL (by decide)) d_La_law_126 ?_
  refine lv_aload_n hx hb d_La_law_127 rfl (q_at hl 0 rfl) ?_
  refine lv_iload hx hb d_La_law_128 (q_at hl 4 rfl) ?_
  refine lv_iconst (v := 2) hx hb d_La_law_130 (by decide) ?_
  refine lv_iadd hx hb d_La_law_131 ?_
  refine va_sld hx hb hX hbl hbA I.2.2 (show vp_in (nI j + 2) L from q_ix (k := 2) hj hL (by decide)) d_La_law_132 ?_
  refine lv_aload_n hx hb d_La_law_133 rfl (q_at hl 0 rfl) ?_
  refine lv_iload hx hb d_La_law_134 (q_at hl 4 rfl) ?_
  refine lv_iconst (v := 3) hx hb d_La_law_136 (by decide) ?_
  refine lv_iadd hx hb d_La_law_137 ?_
  refine va_sld hx hb hX hbl hbA I.2.2 (show vp_in (nI j + 3) L from q_ix (k := 3) hj hL (by decide)) d_La_law_138 ?_
  refine lv_aload_n hx hb d_La_law_139 rfl (q_at hl 0 rfl) ?_
  refine lv_iload hx hb d_La_law_140 (q_at hl 4 rfl) ?_
  refine lv_iconst (v := 4) hx hb d_La_law_142 (by decide) ?_
  refine lv_iadd hx hb d_La_law_143 ?_
  refine va_sld hx hb hX hbl hbA I.2.2 (show vp_in (nI j + 4) L from q_ix (k := 4) hj hL (by decide)) d_La_law_144 ?_
  refine q_kiF hA (q_as I) (q_runVF (C := "JobTerminal") (As := [.int (xs (nI j + 1).toNatClampNeg), .int (xs (nI j + 2).toNatClampNeg), .int (xs (nI j + 3).toNatClampNeg), .int (xs (nI j + 4).toNatClampNeg)]) (rest := []) ⟨hx, hb, hml, hown, htg⟩ (c_JT_program (sz := H.size) e1) (cwV 4 htg (q_goodVL mw590 mw591 mw592 mw593 mw184) rfl rfl rfl (by decide +kernel) ⟨(Nat.le_of_ble_eq_true rfl), (Nat.le_of_ble_eq_true rfl)⟩) NW_ok hK hN (q_as I) rfl (q_wsE (by decide) a_C_JT) rfl (q_sz hl) rfl (Nat.le_of_ble_eq_true rfl) d_La_law_145 ⟨by show cells ≤ 633060; omega, by show slots ≤ 7196923; omega⟩) (fun H locs I => ?_)
  have I := q_swap (q_sa I)
  refine lv_aload_n hx hb d_La_law_148 rfl (q_at hl 2 rfl) ?_
  refine lv_aload_n hx hb d_La_law_149 rfl (q_at hl 0 rfl) ?_
  refine lv_iload hx hb d_La_law_150 (q_at hl 4 rfl) ?_
  refine lv_iconst (v := 1) hx hb d_La_law_152 (by decide) ?_
  refine lv_iadd hx hb d_La_law_153 ?_
  refine va_sld hx hb hX hbl hbA I.2.2 (show vp_in (nI j + 1) L from q_ix (k := 1) hj hL (by decide)) d_La_law_154 ?_
  refine lv_aload_n hx hb d_La_law_155 rfl (q_at hl 0 rfl) ?_
  refine lv_iload hx hb d_La_law_156 (q_at hl 4 rfl) ?_
  refine lv_iconst (v := 2) hx hb d_La_law_158 (by decide) ?_
  refine lv_iadd hx hb d_La_law_159 ?_
  refine va_sld hx hb hX hbl hbA I.2.2 (show vp_in (nI j + 2) L from q_ix (k := 2) hj hL (by decide)) d_La_law_160 ?_
  refine lv_aload_n hx hb d_La_law_161 rfl (q_at hl 0 rfl) ?_
  refine lv_iload hx hb d_La_law_162 (q_at hl 4 rfl) ?_
  refine lv_iconst (v := 3) hx hb d_La_law_164 (by decide) ?_
  refine lv_iadd hx hb d_La_law_165 ?_
  refine va_sld hx hb hX hbl hbA I.2.2 (show vp_in (nI j + 3) L from q_ix (k := 3) hj hL (by decide)) d_La_law_166 ?_
  refine lv_aload_n hx hb d_La_law_167 rfl (q_at hl 0 rfl) ?_
  refine lv_iload hx hb d_La_law_168 (q_at hl 4 rfl) ?_
  refine lv_iconst (v := 4) hx hb d_La_law_170 (by decide) ?_
  refine lv_iadd hx hb d_La_law_171 ?_
  refine va_sld hx hb hX hbl hbA I.2.2 (show vp_in (nI j + 4) L from q_ix (k := 4) hj hL (by decide)) d_La_law_172 ?_
  refine q_kiF hA I (q_runVF (C := "JobTerminalModel") (As := [.int (xs (nI j + 1).toNatClampNeg), .int (xs (nI j + 2).toNatClampNeg), .int (xs (nI j + 3).toNatClampNeg), .int (xs (nI j + 4).toNatClampNeg)]) (rest := [.int r]) ⟨hx, hb, hml, hown, htg⟩ (c_Mo_program (sz := H.size) e2) (cwV 4 htg (q_goodVL mw594 mw595 mw596 mw597 mw366) rfl rfl rfl (by decide +kernel) ⟨(Nat.le_of_ble_eq_true rfl), (Nat.le_of_ble_eq_true rfl)⟩) NW_ok hK hN I rfl (q_wsE (by decide) a_M_Mo) rfl (q_sz hl) rfl (Nat.le_of_ble_eq_true rfl) d_La_law_173 ⟨by show cells ≤ 633060; omega, by show slots ≤ 7196923; omega⟩) (fun H locs I => ?_)
  refine lv_icmp_eq (tgt := 711) hx hb d_La_law_176 (by decide) (fun _ => ?_) (fun h => absurd rfl h)
  refine W.widen (Nat.le_succ _) (Nat.le_add_right _ 6) ?_
  exact hend σ2 μ2 g H locs ls HR2 (q_swap I) hl
set_option maxHeartbeats 4000000 in
set_option maxRecDepth 100000 in
theorem k_flags {p : Program} {l : Launch} {e : Env} {s : State} {m : MethodId} {below : List Frame} {meth : Method} {c : Code} {b L : Nat} {xs : Nat → Int32} {D : va_G} {cs : Nat → ClassId} {A : Nat → Prop} {Q : State → Prop} (C0 : q_L0 p l s m c b L xs D cs A) {ad ad2 : Nat → Nat} {oa j B cells slots : Nat} {g : Nat → Int64} {σ μ : q_St} {H : Heap} {locs : List Loc} {ls : Array Slot} (HR : RR B σ μ) (hB : B + 300 < 2 ^ 27) (I : q_I D vwCl A s.heap ((q_ws 33 ad (cC ad cs σ) ++ [(oa, .inl (cs 4, 1, .inr (.inl g)))]) ++ q_ws 23 ad2 (cM ad2 cs μ)) H locs) (hl : q_has ls 7 [(0, .ref b), (1, .ref (ad 0)), (2, .ref (ad2 0)), (3, .ref oa), (4, .int (nI j))]) (hj : j + 5 ≤ L) (hL : L ≤ 2560) (hc : cells + 1 ≤ 633060) (hs : slots + 6 ≤ 7196923)
    (hend : ∀ (σ μ : q_St) (g : Nat → Int64) (H : Heap) (locs : List Loc) (ls : Array Slot), RR (B + 300) σ μ → q_I D vwCl A s.heap ((q_ws 33 ad (cC ad cs σ) ++ [(oa, .inl (cs 4, 1, .inr (.inl g)))]) ++ q_ws 23 ad2 (cM ad2 cs μ)) H locs → q_has ls 7 [(0, .ref b), (1, .ref (ad 0)), (2, .ref (ad2 0)), (3, .ref oa), (4, .int (nI j))] → W p l e room_1 s m #[Value.ref b] below meth c H locs (cells + 1) (slots + 6) Q (F0 m 711 ls [])) : W p l e room_1 s m #[Value.ref b] below meth c H locs cells slots Q (F0 m 181 ls []) := by
  obtain ⟨hx, hb, hml, hown, htg, hX, hbl, hK, hN, hls, hXt, hXz, hnc, hA, hbA⟩ := C0
  obtain ⟨r, σ2, μ2, e1, e2, HR2⟩ := flags_sim HR ((xs (nI j + 1).toNatClampNeg))
  refine lv_aload_n hx hb d_La_law_181 rfl (q_at hl 1 rfl) ?_
  refine lv_aload_n hx hb d_La_law_182 rfl (q_at hl 0 rfl) ?_
  refine lv_iload hx hb d_La_law_183 (q_at hl 4 rfl) ?_
  refine lv_iconst (v := 1) hx hb d_La_law_185 (by decide) ?_
  refine lv_iadd hx hb d_La_law_186 ?_
  refine va_sld hx hb hX hbl hbA I.2.2 (show vp_in (nI j + 1) L from q_ix (k := 1) hj hL (by decide)) d_La_law_187 ?_
  refine q_kiF hA (q_as I) (q_runVF (C := "JobTerminal") (As := [.int (xs (nI j + 1).toNatClampNeg)]) (rest := []) ⟨hx, hb, hml, hown, htg⟩ (c_JT_flags (sz := H.size) e1) (cwV 1 htg (q_goodVL mw598 mw599 mw600 mw601 mw184) rfl rfl rfl (by decide +kernel) ⟨(Nat.le_of_ble_eq_true rfl), (Nat.le_of_ble_eq_true rfl)⟩) NW_ok hK hN (q_as I) rfl (q_wsE (by decide) a_C_JT) rfl (q_sz hl) rfl (Nat.le_of_ble_eq_true rfl) d_La_law_188 ⟨by show cells ≤ 633060; omega, by show slots ≤ 7196923; omega⟩) (fun H locs I => ?_)
  have I := q_swap (q_sa I)
  refine lv_aload_n hx hb d_La_law_191 rfl (q_at hl 2 rfl) ?_
  refine lv_aload_n hx hb d_La_law_192 rfl (q_at hl 0 rfl) ?_
  refine lv_iload hx hb d_La_law_193 (q_at hl 4 rfl) ?_
  refine lv_iconst (v := 1) hx hb d_La_law_195 (by decide) ?_
  refine lv_iadd hx hb d_La_law_196 ?_
  refine va_sld hx hb hX hbl hbA I.2.2 (show vp_in (nI j + 1) L from q_ix (k := 1) hj hL (by decide)) d_La_law_197 ?_
  refine q_kiF hA I (q_runVF (C := "JobTerminalModel") (As := [.int (xs (nI j + 1).toNatClampNeg)]) (rest := [.int r]) ⟨hx, hb, hml, hown, htg⟩ (c_Mo_flags (sz := H.size) e2) (cwV 1 htg (q_goodVL mw602 mw603 mw604 mw605 mw366) rfl rfl rfl (by decide +kernel) ⟨(Nat.le_of_ble_eq_true rfl), (Nat.le_of_ble_eq_true rfl)⟩) NW_ok hK hN I rfl (q_wsE (by decide) a_M_Mo) rfl (q_sz hl) rfl (Nat.le_of_ble_eq_true rfl) d_La_law_198 ⟨by show cells ≤ 633060; omega, by show slots ≤ 7196923; omega⟩) (fun H locs I => ?_)
  refine lv_icmp_eq (tgt := 711) hx hb d_La_law_201 (by decide) (fun _ => ?_) (fun h => absurd rfl h)
  refine W.widen (Nat.le_succ _) (Nat.le_add_right _ 6) ?_
  exact hend σ2 μ2 g H locs ls HR2 (q_swap I) hl
set_option maxHeartbeats 4000000 in
set_option maxRecDepth 100000 in
theorem k_key {p : Program} {l : Launch} {e : Env} {s : State} {m : MethodId} {below : List Frame} {meth : Method} {c : Code} {b L : Nat} {xs : Nat → Int32} {D : va_G} {cs : Nat → ClassId} {A : Nat → Prop} {Q : State → Prop} (C0 : q_L0 p l s m c b L xs D cs A) {ad ad2 : Nat → Nat} {oa j B cells slots : Nat} {g : Nat → Int64} {σ μ : q_St} {H : Heap} {locs : List Loc} {ls : Array Slot} (HR : RR B σ μ) (hB : B + 300 < 2 ^ 27) (I : q_I D vwCl A s.heap ((q_ws 33 ad (cC ad cs σ) ++ [(oa, .inl (cs 4, 1, .inr (.inl g)))]) ++ q_ws 23 ad2 (cM ad2 cs μ)) H locs) (hl : q_has ls 7 [(0, .ref b), (1, .ref (ad 0)), (2, .ref (ad2 0)), (3, .ref oa), (4, .int (nI j))]) (hj : j + 5 ≤ L) (hL : L ≤ 2560) (hc : cells + 1 ≤ 633060) (hs : slots + 6 ≤ 7196923)
    (hend : ∀ (σ μ : q_St) (g : Nat → Int64) (H : Heap) (locs : List Loc) (ls : Array Slot), RR (B + 300) σ μ → q_I D vwCl A s.heap ((q_ws 33 ad (cC ad cs σ) ++ [(oa, .inl (cs 4, 1, .inr (.inl g)))]) ++ q_ws 23 ad2 (cM ad2 cs μ)) H locs → q_has ls 7 [(0, .ref b), (1, .ref (ad 0)), (2, .ref (ad2 0)), (3, .ref oa), (4, .int (nI j))] → W p l e room_1 s m #[Value.ref b] below meth c H locs (cells + 1) (slots + 6) Q (F0 m 711 ls [])) : W p l e room_1 s m #[Value.ref b] below meth c H locs cells slots Q (F0 m 206 ls []) := by
  obtain ⟨hx, hb, hml, hown, htg, hX, hbl, hK, hN, hls, hXt, hXz, hnc, hA, hbA⟩ := C0
  obtain ⟨r, σ2, μ2, e1, e2, HR2⟩ := key_sim hB HR ((((xs (nI j + 1).toNatClampNeg).toUInt32 % 65536).toInt32))
  refine lv_aload_n hx hb d_La_law_206 rfl (q_at hl 1 rfl) ?_
  refine lv_aload_n hx hb d_La_law_207 rfl (q_at hl 0 rfl) ?_
  refine lv_iload hx hb d_La_law_208 (q_at hl 4 rfl) ?_
  refine lv_iconst (v := 1) hx hb d_La_law_210 (by decide) ?_
  refine lv_iadd hx hb d_La_law_211 ?_
  refine va_sld hx hb hX hbl hbA I.2.2 (show vp_in (nI j + 1) L from q_ix (k := 1) hj hL (by decide)) d_La_law_212 ?_
  refine lv_i2c (v := ((xs (nI j + 1).toNatClampNeg).toUInt32 % 65536).toInt32) hx hb d_La_law_213 rfl ?_
  refine q_kiF hA (q_as I) (q_runVF (C := "JobTerminal") (As := [.int (((xs (nI j + 1).toNatClampNeg).toUInt32 % 65536).toInt32)]) (rest := []) ⟨hx, hb, hml, hown, htg⟩ (c_JT_key (sz := H.size) e1) (cwV 1 htg (q_goodVL mw606 mw607 mw608 mw609 mw184) rfl rfl rfl (by decide +kernel) ⟨(Nat.le_of_ble_eq_true rfl), (Nat.le_of_ble_eq_true rfl)⟩) NW_ok hK hN (q_as I) rfl (q_wsE (by decide) a_C_JT) rfl (q_sz hl) rfl (Nat.le_of_ble_eq_true rfl) d_La_law_214 ⟨by show cells ≤ 633060; omega, by show slots ≤ 7196923; omega⟩) (fun H locs I => ?_)
  have I := q_swap (q_sa I)
  refine lv_aload_n hx hb d_La_law_217 rfl (q_at hl 2 rfl) ?_
  refine lv_aload_n hx hb d_La_law_218 rfl (q_at hl 0 rfl) ?_
  refine lv_iload hx hb d_La_law_219 (q_at hl 4 rfl) ?_
  refine lv_iconst (v := 1) hx hb d_La_law_221 (by decide) ?_
  refine lv_iadd hx hb d_La_law_222 ?_
  refine va_sld hx hb hX hbl hbA I.2.2 (show vp_in (nI j + 1) L from q_ix (k := 1) hj hL (by decide)) d_La_law_223 ?_
  refine lv_i2c (v := ((xs (nI j + 1).toNatClampNeg).toUInt32 % 65536).toInt32) hx hb d_La_law_224 rfl ?_
  refine q_kiF hA I (q_runVF (C := "JobTerminalModel") (As := [.int (((xs (nI j + 1).toNatClampNeg).toUInt32 % 65536).toInt32)]) (rest := [.int r]) ⟨hx, hb, hml, hown, htg⟩ (c_Mo_key (sz := H.size) e2) (cwV 1 htg (q_goodVL mw610 mw611 mw612 mw613 mw366) rfl rfl rfl (by decide +kernel) ⟨(Nat.le_of_ble_eq_true rfl), (Nat.le_of_ble_eq_true rfl)⟩) NW_ok hK hN I rfl (q_wsE (by decide) a_M_Mo) rfl (q_sz hl) rfl (Nat.le_of_ble_eq_true rfl) d_La_law_225 ⟨by show cells ≤ 633060; omega, by show slots ≤ 7196923; omega⟩) (fun H locs I => ?_)
  refine lv_icmp_eq (tgt := 711) hx hb d_La_law_228 (by decide) (fun _ => ?_) (fun h => absurd rfl h)
  refine W.widen (Nat.le_succ _) (Nat.le_add_right _ 6) ?_
  exact hend σ2 μ2 g H locs ls HR2 (q_swap I) hl
set_option maxHeartbeats 4000000 in
set_option maxRecDepth 100000 in
theorem k_launch {p : Program} {l : Launch} {e : Env} {s : State} {m : MethodId} {below : List Frame} {meth : Method} {c : Code} {b L : Nat} {xs : Nat → Int32} {D : va_G} {cs : Nat → ClassId} {A : Nat → Prop} {Q : State → Prop} (C0 : q_L0 p l s m c b L xs D cs A) {ad ad2 : Nat → Nat} {oa j B cells slots : Nat} {g : Nat → Int64} {σ μ : q_St} {H : Heap} {locs : List Loc} {ls : Array Slot} (HR : RR B σ μ) (hB : B + 300 < 2 ^ 27) (I : q_I D vwCl A s.heap ((q_ws 33 ad (cC ad cs σ) ++ [(oa, .inl (cs 4, 1, .inr (.inl g)))]) ++ q_ws 23 ad2 (cM ad2 cs μ)) H locs) (hl : q_has ls 7 [(0, .ref b), (1, .ref (ad 0)), (2, .ref (ad2 0)), (3, .ref oa), (4, .int (nI j))]) (hj : j + 5 ≤ L) (hL : L ≤ 2560) (hc : cells + 1 ≤ 633060) (hs : slots + 6 ≤ 7196923)
    (hend : ∀ (σ μ : q_St) (g : Nat → Int64) (H : Heap) (locs : List Loc) (ls : Array Slot), RR (B + 300) σ μ → q_I D vwCl A s.heap ((q_ws 33 ad (cC ad cs σ) ++ [(oa, .inl (cs 4, 1, .inr (.inl g)))]) ++ q_ws 23 ad2 (cM ad2 cs μ)) H locs → q_has ls 7 [(0, .ref b), (1, .ref (ad 0)), (2, .ref (ad2 0)), (3, .ref oa), (4, .int (nI j))] → W p l e room_1 s m #[Value.ref b] below meth c H locs (cells + 1) (slots + 6) Q (F0 m 711 ls [])) : W p l e room_1 s m #[Value.ref b] below meth c H locs cells slots Q (F0 m 233 ls []) := by
  obtain ⟨hx, hb, hml, hown, htg, hX, hbl, hK, hN, hls, hXt, hXz, hnc, hA, hbA⟩ := C0
  by_cases h3 : (xs (nI j + 3).toNatClampNeg) = 0
  · rcases launch_sim HR (xs (nI j + 1).toNatClampNeg) (xs (nI j + 2).toNatClampNeg) 0 with ⟨r, σ2, μ2, e1, e2, e48, HR2⟩ | ⟨bb, σ2, r, μ2, e1, e2, e48, HR2⟩
    · refine lv_aload_n hx hb d_La_law_233 rfl (q_at hl 1 rfl) ?_
      refine lv_aload_n hx hb d_La_law_234 rfl (q_at hl 0 rfl) ?_
      refine lv_iload hx hb d_La_law_235 (q_at hl 4 rfl) ?_
      refine lv_iconst (v := 1) hx hb d_La_law_237 (by decide) ?_
      refine lv_iadd hx hb d_La_law_238 ?_
      refine va_sld hx hb hX hbl hbA I.2.2 (show vp_in (nI j + 1) L from q_ix (k := 1) hj hL (by decide)) d_La_law_239 ?_
      refine lv_aload_n hx hb d_La_law_240 rfl (q_at hl 0 rfl) ?_
      refine lv_iload hx hb d_La_law_241 (q_at hl 4 rfl) ?_
      refine lv_iconst (v := 2) hx hb d_La_law_243 (by decide) ?_
      refine lv_iadd hx hb d_La_law_244 ?_
      refine va_sld hx hb hX hbl hbA I.2.2 (show vp_in (nI j + 2) L from q_ix (k := 2) hj hL (by decide)) d_La_law_245 ?_
      refine lv_aload_n hx hb d_La_law_246 rfl (q_at hl 0 rfl) ?_
      refine lv_iload hx hb d_La_law_247 (q_at hl 4 rfl) ?_
      refine lv_iconst (v := 3) hx hb d_La_law_249 (by decide) ?_
      refine lv_iadd hx hb d_La_law_250 ?_
      refine va_sld hx hb hX hbl hbA I.2.2 (show vp_in (nI j + 3) L from q_ix (k := 3) hj hL (by decide)) d_La_law_251 ?_
      refine lv_if_eq (tgt := 259) hx hb d_La_law_252 (by decide) (fun _ => ?_) (fun h => absurd h3 h)
      refine lv_iconst (v := 0) hx hb d_La_law_259 (by decide) ?_
      refine lv_aload_n hx hb d_La_law_260 rfl (q_at hl 3 rfl) ?_
      refine q_kiF hA I (q_runSW (As := [.ref (ad 0), .int (xs (nI j + 1).toNatClampNeg), .int (xs (nI j + 2).toNatClampNeg), .int 0, .ref oa]) (rest := []) ⟨hx, hb, hml, hown, htg⟩ (h_launch (sz := H.size) (g := g) (oa := oa) e1) (q_cwSW 5 htg mw568 mw614 mw615 mw616 rfl rfl (by decide +kernel) ⟨(Nat.le_of_ble_eq_true rfl), (Nat.le_of_ble_eq_true rfl)⟩) ⟨q_Pre_blind NW_ok, fun U hU hW => q_Pre_at NW_ok hK hN (q_left I).1 (q_left I).2 hU hW⟩ rfl (q_sz hl) rfl (Nat.le_of_ble_eq_true rfl) d_La_law_261 ⟨by show cells + 0 ≤ 633060; omega, by show slots + 0 ≤ 7196923; omega⟩) (fun H locs I => ?_)
      refine q_istore (lv' := [(5, .int 0), (0, .ref b), (1, .ref (ad 0)), (2, .ref (ad2 0)), (3, .ref oa), (4, .int (nI j))]) hx hb d_La_law_264 hl (by decide) rfl (fun ls hl => ?_)
      have I := q_swap I
      refine lv_aload_n hx hb d_La_law_266 rfl (q_at hl 3 rfl) ?_
      refine lv_aload_n hx hb d_La_law_267 rfl (q_at hl 1 rfl) ?_
      refine lv_iload hx hb d_La_law_268 (q_at hl 5 rfl) ?_
      refine lv_iconst (v := 1) hx hb d_La_law_270 (by decide) ?_
      refine lv_iadd hx hb d_La_law_271 ?_
      refine va_sld hx hb hX hbl hbA I.2.2 (show vp_in (nI j + 1) L from q_ix (k := 1) hj hL (by decide)) d_La_law_272 ?_
      refine lv_aload_n hx hb d_La_law_273 rfl (q_at hl 1 rfl) ?_
      refine lv_iload hx hb d_La_law_274 (q_at hl 5 rfl) ?_
      refine lv_iconst (v := 2) hx hb d_La_law_276 (by decide) ?_
      refine lv_iadd hx hb d_La_law_277 ?_
      refine va_sld hx hb hX hbl hbA I.2.2 (show vp_in (nI j + 2) L from q_ix (k := 2) hj hL (by decide)) d_La_law_278 ?_
      refine lv_aload_n hx hb d_La_law_279 rfl (q_at hl 1 rfl) ?_
      refine lv_iload hx hb d_La_law_280 (q_at hl 5 rfl) ?_
      refine lv_iconst (v := 3) hx hb d_La_law_282 (by decide) ?_
      refine lv_iadd hx hb d_La_law_283 ?_
      refine va_sld hx hb hX hbl hbA I.2.2 (show vp_in (nI j + 3) L from q_ix (k := 3) hj hL (by decide)) d_La_law_284 ?_
      refine lv_if_eq (tgt := 292) hx hb d_La_law_285 (by decide) (fun _ => ?_) (fun h => absurd h3 h)
      refine lv_iconst (v := 0) hx hb d_La_law_292 (by decide) ?_
      refine q_kiF hA I (q_runVF (C := "JobTerminalModel") (As := [.int (xs (nI j + 1).toNatClampNeg), .int (xs (nI j + 2).toNatClampNeg), .int 0]) (rest := []) ⟨hx, hb, hml, hown, htg⟩ (c_Mo_launch (sz := H.size) e2) (cwV 3 htg (q_goodVL mw617 mw618 mw619 mw620 mw366) rfl rfl rfl (by decide +kernel) ⟨(Nat.le_of_ble_eq_true rfl), (Nat.le_of_ble_eq_true rfl)⟩) NW_ok hK hN I rfl (q_wsE (by decide) a_M_Mo) rfl (q_sz hl) rfl (Nat.le_of_ble_eq_true rfl) d_La_law_293 ⟨by show cells + 0 ≤ 633060; omega, by show slots + 0 ≤ 7196923; omega⟩) (fun H locs I => ?_)
      refine q_istore (lv' := [(6, .int r), (5, .int 0), (0, .ref b), (1, .ref (ad 0)), (2, .ref (ad2 0)), (3, .ref oa), (4, .int (nI j))]) hx hb d_La_law_296 hl (by decide) rfl (fun ls hl => ?_)
      refine lv_aload_n hx hb d_La_law_298 rfl (q_at hl 4 rfl) ?_
      refine q_kiF hA I (q_runVF (C := "JobTerminalModel") (As := []) (rest := []) ⟨hx, hb, hml, hown, htg⟩ (c_Mo_thrown (sz := H.size) (res := (μ2 48 0, μ2)) rfl) (cwV 0 htg (q_goodVL mw621 mw622 mw623 mw624 mw366) rfl rfl rfl (by decide +kernel) ⟨(Nat.le_of_ble_eq_true rfl), (Nat.le_of_ble_eq_true rfl)⟩) NW_ok hK hN I rfl (q_wsE (by decide) a_M_Mo) rfl (q_sz hl) rfl (Nat.le_of_ble_eq_true rfl) d_La_law_299 ⟨by show cells + 0 ≤ 633060; omega, by show slots + 0 ≤ 7196923; omega⟩) (fun H locs I => ?_)
      refine lv_iload hx hb d_La_law_302 (q_at hl 1 rfl) ?_
      refine lv_icmp_eq (tgt := 309) hx hb d_La_law_304 (by decide) (fun _ => ?_) (fun h => absurd e48 h)
      refine lv_iload hx hb d_La_law_309 (q_at hl 1 rfl) ?_
      refine lv_if_ne (tgt := 326) hx hb d_La_law_311 (by decide) (fun h => absurd rfl h) (fun _ => ?_)
      refine lv_aload_n hx hb d_La_law_314 rfl (q_at hl 5 rfl) ?_
      refine lv_iconst (v := 0) hx hb d_La_law_315 (by decide) ?_
      refine q_lald1 hx hb hK (q_swap I) d_La_law_316 ?_
      refine lv_iload hx hb d_La_law_317 (q_at hl 0 rfl) ?_
      refine lv_i2l (v := r.toInt64) hx hb d_La_law_319 rfl ?_
      refine W.lcmp hx hb d_La_law_320 ?_
      rw [show vp_updL g 0 r.toInt64 0 = r.toInt64 from pk_uLs, q_cmp0]
      refine lv_if_eq (tgt := 326) hx hb d_La_law_321 (by decide) (fun _ => ?_) (fun h => absurd rfl h)
      refine lv_goto (tgt := 711) hx hb d_La_law_326 (by decide) ?_
      refine W.widen (Nat.le_succ _) (Nat.le_add_right _ 6) ?_
      exact hend σ2 μ2 (vp_updL g 0 r.toInt64) H locs ls HR2 (q_swap I) (q_hsub hl [2, 3, 4, 5, 6] rfl)
    · refine lv_aload_n hx hb d_La_law_233 rfl (q_at hl 1 rfl) ?_
      refine lv_aload_n hx hb d_La_law_234 rfl (q_at hl 0 rfl) ?_
      refine lv_iload hx hb d_La_law_235 (q_at hl 4 rfl) ?_
      refine lv_iconst (v := 1) hx hb d_La_law_237 (by decide) ?_
      refine lv_iadd hx hb d_La_law_238 ?_
      refine va_sld hx hb hX hbl hbA I.2.2 (show vp_in (nI j + 1) L from q_ix (k := 1) hj hL (by decide)) d_La_law_239 ?_
      refine lv_aload_n hx hb d_La_law_240 rfl (q_at hl 0 rfl) ?_
      refine lv_iload hx hb d_La_law_241 (q_at hl 4 rfl) ?_
      refine lv_iconst (v := 2) hx hb d_La_law_243 (by decide) ?_
      refine lv_iadd hx hb d_La_law_244 ?_
      refine va_sld hx hb hX hbl hbA I.2.2 (show vp_in (nI j + 2) L from q_ix (k := 2) hj hL (by decide)) d_La_law_245 ?_
      refine lv_aload_n hx hb d_La_law_246 rfl (q_at hl 0 rfl) ?_
      refine lv_iload hx hb d_La_law_247 (q_at hl 4 rfl) ?_
      refine lv_iconst (v := 3) hx hb d_La_law_249 (by decide) ?_
      refine lv_iadd hx hb d_La_law_250 ?_
      refine va_sld hx hb hX hbl hbA I.2.2 (show vp_in (nI j + 3) L from q_ix (k := 3) hj hL (by decide)) d_La_law_251 ?_
      refine lv_if_eq (tgt := 259) hx hb d_La_law_252 (by decide) (fun _ => ?_) (fun h => absurd h3 h)
      refine lv_iconst (v := 0) hx hb d_La_law_259 (by decide) ?_
      refine lv_aload_n hx hb d_La_law_260 rfl (q_at hl 3 rfl) ?_
      refine q_kiF hA I (q_runSW (As := [.ref (ad 0), .int (xs (nI j + 1).toNatClampNeg), .int (xs (nI j + 2).toNatClampNeg), .int 0, .ref oa]) (rest := []) ⟨hx, hb, hml, hown, htg⟩ (e_launch hls (sz := H.size) (g := g) (oa := oa) e1) (q_cwSW 5 htg mw568 mw614 mw615 mw616 rfl rfl (by decide +kernel) ⟨(Nat.le_of_ble_eq_true rfl), (Nat.le_of_ble_eq_true rfl)⟩) ⟨q_PreY_blind NW_ok, fun U hU hW => q_PreY_at hA NW_ok hK hN (q_left I).1 (q_left I).2 I.2.2 hXt hXz hnc hU hW⟩ rfl (q_sz hl) rfl (Nat.le_of_ble_eq_true rfl) d_La_law_261 ⟨by show cells + 1 ≤ 633060; omega, by show slots + 6 ≤ 7196923; omega⟩) (fun H locs I => ?_)
      refine q_istore (lv' := [(5, .int (if bb then 1 else 2)), (0, .ref b), (1, .ref (ad 0)), (2, .ref (ad2 0)), (3, .ref oa), (4, .int (nI j))]) hx hb d_La_law_264 hl (by decide) rfl (fun ls hl => ?_)
      have I := q_swap I
      refine lv_aload_n hx hb d_La_law_266 rfl (q_at hl 3 rfl) ?_
      refine lv_aload_n hx hb d_La_law_267 rfl (q_at hl 1 rfl) ?_
      refine lv_iload hx hb d_La_law_268 (q_at hl 5 rfl) ?_
      refine lv_iconst (v := 1) hx hb d_La_law_270 (by decide) ?_
      refine lv_iadd hx hb d_La_law_271 ?_
      refine va_sld hx hb hX hbl hbA I.2.2 (show vp_in (nI j + 1) L from q_ix (k := 1) hj hL (by decide)) d_La_law_272 ?_
      refine lv_aload_n hx hb d_La_law_273 rfl (q_at hl 1 rfl) ?_
      refine lv_iload hx hb d_La_law_274 (q_at hl 5 rfl) ?_
      refine lv_iconst (v := 2) hx hb d_La_law_276 (by decide) ?_
      refine lv_iadd hx hb d_La_law_277 ?_
      refine va_sld hx hb hX hbl hbA I.2.2 (show vp_in (nI j + 2) L from q_ix (k := 2) hj hL (by decide)) d_La_law_278 ?_
      refine lv_aload_n hx hb d_La_law_279 rfl (q_at hl 1 rfl) ?_
      refine lv_iload hx hb d_La_law_280 (q_at hl 5 rfl) ?_
      refine lv_iconst (v := 3) hx hb d_La_law_282 (by decide) ?_
      refine lv_iadd hx hb d_La_law_283 ?_
      refine va_sld hx hb hX hbl hbA I.2.2 (show vp_in (nI j + 3) L from q_ix (k := 3) hj hL (by decide)) d_La_law_284 ?_
      refine lv_if_eq (tgt := 292) hx hb d_La_law_285 (by decide) (fun _ => ?_) (fun h => absurd h3 h)
      refine lv_iconst (v := 0) hx hb d_La_law_292 (by decide) ?_
      refine q_kiF hA I (q_runVF (C := "JobTerminalModel") (As := [.int (xs (nI j + 1).toNatClampNeg), .int (xs (nI j + 2).toNatClampNeg), .int 0]) (rest := []) ⟨hx, hb, hml, hown, htg⟩ (c_Mo_launch (sz := H.size) e2) (cwV 3 htg (q_goodVL mw617 mw618 mw619 mw620 mw366) rfl rfl rfl (by decide +kernel) ⟨(Nat.le_of_ble_eq_true rfl), (Nat.le_of_ble_eq_true rfl)⟩) NW_ok hK hN I rfl (q_wsE (by decide) a_M_Mo) rfl (q_sz hl) rfl (Nat.le_of_ble_eq_true rfl) d_La_law_293 ⟨by show cells + 1 ≤ 633060; omega, by show slots + 6 ≤ 7196923; omega⟩) (fun H locs I => ?_)
      refine q_istore (lv' := [(6, .int r), (5, .int (if bb then 1 else 2)), (0, .ref b), (1, .ref (ad 0)), (2, .ref (ad2 0)), (3, .ref oa), (4, .int (nI j))]) hx hb d_La_law_296 hl (by decide) rfl (fun ls hl => ?_)
      refine lv_aload_n hx hb d_La_law_298 rfl (q_at hl 4 rfl) ?_
      refine q_kiF hA I (q_runVF (C := "JobTerminalModel") (As := []) (rest := []) ⟨hx, hb, hml, hown, htg⟩ (c_Mo_thrown (sz := H.size) (res := (μ2 48 0, μ2)) rfl) (cwV 0 htg (q_goodVL mw621 mw622 mw623 mw624 mw366) rfl rfl rfl (by decide +kernel) ⟨(Nat.le_of_ble_eq_true rfl), (Nat.le_of_ble_eq_true rfl)⟩) NW_ok hK hN I rfl (q_wsE (by decide) a_M_Mo) rfl (q_sz hl) rfl (Nat.le_of_ble_eq_true rfl) d_La_law_299 ⟨by show cells + 1 ≤ 633060; omega, by show slots + 6 ≤ 7196923; omega⟩) (fun H locs I => ?_)
      refine lv_iload hx hb d_La_law_302 (q_at hl 1 rfl) ?_
      refine lv_icmp_eq (tgt := 309) hx hb d_La_law_304 (by decide) (fun _ => ?_) (fun h => absurd e48 h)
      refine lv_iload hx hb d_La_law_309 (q_at hl 1 rfl) ?_
      refine lv_if_ne (tgt := 326) hx hb d_La_law_311 (by decide) (fun _ => ?_) (fun h => absurd h (q_bz bb))
      refine lv_goto (tgt := 711) hx hb d_La_law_326 (by decide) ?_
      exact hend σ2 μ2 g H locs ls HR2 (q_swap I) (q_hsub hl [2, 3, 4, 5, 6] rfl)
  · rcases launch_sim HR (xs (nI j + 1).toNatClampNeg) (xs (nI j + 2).toNatClampNeg) 1 with ⟨r, σ2, μ2, e1, e2, e48, HR2⟩ | ⟨bb, σ2, r, μ2, e1, e2, e48, HR2⟩
    · refine lv_aload_n hx hb d_La_law_233 rfl (q_at hl 1 rfl) ?_
      refine lv_aload_n hx hb d_La_law_234 rfl (q_at hl 0 rfl) ?_
      refine lv_iload hx hb d_La_law_235 (q_at hl 4 rfl) ?_
      refine lv_iconst (v := 1) hx hb d_La_law_237 (by decide) ?_
      refine lv_iadd hx hb d_La_law_238 ?_
      refine va_sld hx hb hX hbl hbA I.2.2 (show vp_in (nI j + 1) L from q_ix (k := 1) hj hL (by decide)) d_La_law_239 ?_
      refine lv_aload_n hx hb d_La_law_240 rfl (q_at hl 0 rfl) ?_
      refine lv_iload hx hb d_La_law_241 (q_at hl 4 rfl) ?_
      refine lv_iconst (v := 2) hx hb d_La_law_243 (by decide) ?_
      refine lv_iadd hx hb d_La_law_244 ?_
      refine va_sld hx hb hX hbl hbA I.2.2 (show vp_in (nI j + 2) L from q_ix (k := 2) hj hL (by decide)) d_La_law_245 ?_
      refine lv_aload_n hx hb d_La_law_246 rfl (q_at hl 0 rfl) ?_
      refine lv_iload hx hb d_La_law_247 (q_at hl 4 rfl) ?_
      refine lv_iconst (v := 3) hx hb d_La_law_249 (by decide) ?_
      refine lv_iadd hx hb d_La_law_250 ?_
      refine va_sld hx hb hX hbl hbA I.2.2 (show vp_in (nI j + 3) L from q_ix (k := 3) hj hL (by decide)) d_La_law_251 ?_
      refine lv_if_eq (tgt := 259) hx hb d_La_law_252 (by decide) (fun h => absurd h h3) (fun _ => ?_)
      refine lv_iconst (v := 1) hx hb d_La_law_255 (by decide) ?_
      refine lv_goto (tgt := 260) hx hb d_La_law_256 (by decide) ?_
      refine lv_aload_n hx hb d_La_law_260 rfl (q_at hl 3 rfl) ?_
      refine q_kiF hA I (q_runSW (As := [.ref (ad 0), .int (xs (nI j + 1).toNatClampNeg), .int (xs (nI j + 2).toNatClampNeg), .int 1, .ref oa]) (rest := []) ⟨hx, hb, hml, hown, htg⟩ (h_launch (sz := H.size) (g := g) (oa := oa) e1) (q_cwSW 5 htg mw568 mw614 mw615 mw616 rfl rfl (by decide +kernel) ⟨(Nat.le_of_ble_eq_true rfl), (Nat.le_of_ble_eq_true rfl)⟩) ⟨q_Pre_blind NW_ok, fun U hU hW => q_Pre_at NW_ok hK hN (q_left I).1 (q_left I).2 hU hW⟩ rfl (q_sz hl) rfl (Nat.le_of_ble_eq_true rfl) d_La_law_261 ⟨by show cells + 0 ≤ 633060; omega, by show slots + 0 ≤ 7196923; omega⟩) (fun H locs I => ?_)
      refine q_istore (lv' := [(5, .int 0), (0, .ref b), (1, .ref (ad 0)), (2, .ref (ad2 0)), (3, .ref oa), (4, .int (nI j))]) hx hb d_La_law_264 hl (by decide) rfl (fun ls hl => ?_)
      have I := q_swap I
      refine lv_aload_n hx hb d_La_law_266 rfl (q_at hl 3 rfl) ?_
      refine lv_aload_n hx hb d_La_law_267 rfl (q_at hl 1 rfl) ?_
      refine lv_iload hx hb d_La_law_268 (q_at hl 5 rfl) ?_
      refine lv_iconst (v := 1) hx hb d_La_law_270 (by decide) ?_
      refine lv_iadd hx hb d_La_law_271 ?_
      refine va_sld hx hb hX hbl hbA I.2.2 (show vp_in (nI j + 1) L from q_ix (k := 1) hj hL (by decide)) d_La_law_272 ?_
      refine lv_aload_n hx hb d_La_law_273 rfl (q_at hl 1 rfl) ?_
      refine lv_iload hx hb d_La_law_274 (q_at hl 5 rfl) ?_
      refine lv_iconst (v := 2) hx hb d_La_law_276 (by decide) ?_
      refine lv_iadd hx hb d_La_law_277 ?_
      refine va_sld hx hb hX hbl hbA I.2.2 (show vp_in (nI j + 2) L from q_ix (k := 2) hj hL (by decide)) d_La_law_278 ?_
      refine lv_aload_n hx hb d_La_law_279 rfl (q_at hl 1 rfl) ?_
      refine lv_iload hx hb d_La_law_280 (q_at hl 5 rfl) ?_
      refine lv_iconst (v := 3) hx hb d_La_law_282 (by decide) ?_
      refine lv_iadd hx hb d_La_law_283 ?_
      refine va_sld hx hb hX hbl hbA I.2.2 (show vp_in (nI j + 3) L from q_ix (k := 3) hj hL (by decide)) d_La_law_284 ?_
      refine lv_if_eq (tgt := 292) hx hb d_La_law_285 (by decide) (fun h => absurd h h3) (fun _ => ?_)
      refine lv_iconst (v := 1) hx hb d_La_law_288 (by decide) ?_
      refine lv_goto (tgt := 293) hx hb d_La_law_289 (by decide) ?_
      refine q_kiF hA I (q_runVF (C := "JobTerminalModel") (As := [.int (xs (nI j + 1).toNatClampNeg), .int (xs (nI j + 2).toNatClampNeg), .int 1]) (rest := []) ⟨hx, hb, hml, hown, htg⟩ (c_Mo_launch (sz := H.size) e2) (cwV 3 htg (q_goodVL mw617 mw618 mw619 mw620 mw366) rfl rfl rfl (by decide +kernel) ⟨(Nat.le_of_ble_eq_true rfl), (Nat.le_of_ble_eq_true rfl)⟩) NW_ok hK hN I rfl (q_wsE (by decide) a_M_Mo) rfl (q_sz hl) rfl (Nat.le_of_ble_eq_true rfl) d_La_law_293 ⟨by show cells + 0 ≤ 633060; omega, by show slots + 0 ≤ 7196923; omega⟩) (fun H locs I => ?_)
      refine q_istore (lv' := [(6, .int r), (5, .int 0), (0, .ref b), (1, .ref (ad 0)), (2, .ref (ad2 0)), (3, .ref oa), (4, .int (nI j))]) hx hb d_La_law_296 hl (by decide) rfl (fun ls hl => ?_)
      refine lv_aload_n hx hb d_La_law_298 rfl (q_at hl 4 rfl) ?_
      refine q_kiF hA I (q_runVF (C := "JobTerminalModel") (As := []) (rest := []) ⟨hx, hb, hml, hown, htg⟩ (c_Mo_thrown (sz := H.size) (res := (μ2 48 0, μ2)) rfl) (cwV 0 htg (q_goodVL mw621 mw622 mw623 mw624 mw366) rfl rfl rfl (by decide +kernel) ⟨(Nat.le_of_ble_eq_true rfl), (Nat.le_of_ble_eq_true rfl)⟩) NW_ok hK hN I rfl (q_wsE (by decide) a_M_Mo) rfl (q_sz hl) rfl (Nat.le_of_ble_eq_true rfl) d_La_law_299 ⟨by show cells + 0 ≤ 633060; omega, by show slots + 0 ≤ 7196923; omega⟩) (fun H locs I => ?_)
      refine lv_iload hx hb d_La_law_302 (q_at hl 1 rfl) ?_
      refine lv_icmp_eq (tgt := 309) hx hb d_La_law_304 (by decide) (fun _ => ?_) (fun h => absurd e48 h)
      refine lv_iload hx hb d_La_law_309 (q_at hl 1 rfl) ?_
      refine lv_if_ne (tgt := 326) hx hb d_La_law_311 (by decide) (fun h => absurd rfl h) (fun _ => ?_)
      refine lv_aload_n hx hb d_La_law_314 rfl (q_at hl 5 rfl) ?_
      refine lv_iconst (v := 0) hx hb d_La_law_315 (by decide) ?_
      refine q_lald1 hx hb hK (q_swap I) d_La_law_316 ?_
      refine lv_iload hx hb d_La_law_317 (q_at hl 0 rfl) ?_
      refine lv_i2l (v := r.toInt64) hx hb d_La_law_319 rfl ?_
      refine W.lcmp hx hb d_La_law_320 ?_
      rw [show vp_updL g 0 r.toInt64 0 = r.toInt64 from pk_uLs, q_cmp0]
      refine lv_if_eq (tgt := 326) hx hb d_La_law_321 (by decide) (fun _ => ?_) (fun h => absurd rfl h)
      refine lv_goto (tgt := 711) hx hb d_La_law_326 (by decide) ?_
      refine W.widen (Nat.le_succ _) (Nat.le_add_right _ 6) ?_
      exact hend σ2 μ2 (vp_updL g 0 r.toInt64) H locs ls HR2 (q_swap I) (q_hsub hl [2, 3, 4, 5, 6] rfl)
    · refine lv_aload_n hx hb d_La_law_233 rfl (q_at hl 1 rfl) ?_
      refine lv_aload_n hx hb d_La_law_234 rfl (q_at hl 0 rfl) ?_
      refine lv_iload hx hb d_La_law_235 (q_at hl 4 rfl) ?_
      refine lv_iconst (v := 1) hx hb d_La_law_237 (by decide) ?_
      refine lv_iadd hx hb d_La_law_238 ?_
      refine va_sld hx hb hX hbl hbA I.2.2 (show vp_in (nI j + 1) L from q_ix (k := 1) hj hL (by decide)) d_La_law_239 ?_
      refine lv_aload_n hx hb d_La_law_240 rfl (q_at hl 0 rfl) ?_
      refine lv_iload hx hb d_La_law_241 (q_at hl 4 rfl) ?_
      refine lv_iconst (v := 2) hx hb d_La_law_243 (by decide) ?_
      refine lv_iadd hx hb d_La_law_244 ?_
      refine va_sld hx hb hX hbl hbA I.2.2 (show vp_in (nI j + 2) L from q_ix (k := 2) hj hL (by decide)) d_La_law_245 ?_
      refine lv_aload_n hx hb d_La_law_246 rfl (q_at hl 0 rfl) ?_
      refine lv_iload hx hb d_La_law_247 (q_at hl 4 rfl) ?_
      refine lv_iconst (v := 3) hx hb d_La_law_249 (by decide) ?_
      refine lv_iadd hx hb d_La_law_250 ?_
      refine va_sld hx hb hX hbl hbA I.2.2 (show vp_in (nI j + 3) L from q_ix (k := 3) hj hL (by decide)) d_La_law_251 ?_
      refine lv_if_eq (tgt := 259) hx hb d_La_law_252 (by decide) (fun h => absurd h h3) (fun _ => ?_)
      refine lv_iconst (v := 1) hx hb d_La_law_255 (by decide) ?_
      refine lv_goto (tgt := 260) hx hb d_La_law_256 (by decide) ?_
      refine lv_aload_n hx hb d_La_law_260 rfl (q_at hl 3 rfl) ?_
      refine q_kiF hA I (q_runSW (As := [.ref (ad 0), .int (xs (nI j + 1).toNatClampNeg), .int (xs (nI j + 2).toNatClampNeg), .int 1, .ref oa]) (rest := []) ⟨hx, hb, hml, hown, htg⟩ (e_launch hls (sz := H.size) (g := g) (oa := oa) e1) (q_cwSW 5 htg mw568 mw614 mw615 mw616 rfl rfl (by decide +kernel) ⟨(Nat.le_of_ble_eq_true rfl), (Nat.le_of_ble_eq_true rfl)⟩) ⟨q_PreY_blind NW_ok, fun U hU hW => q_PreY_at hA NW_ok hK hN (q_left I).1 (q_left I).2 I.2.2 hXt hXz hnc hU hW⟩ rfl (q_sz hl) rfl (Nat.le_of_ble_eq_true rfl) d_La_law_261 ⟨by show cells + 1 ≤ 633060; omega, by show slots + 6 ≤ 7196923; omega⟩) (fun H locs I => ?_)
      refine q_istore (lv' := [(5, .int (if bb then 1 else 2)), (0, .ref b), (1, .ref (ad 0)), (2, .ref (ad2 0)), (3, .ref oa), (4, .int (nI j))]) hx hb d_La_law_264 hl (by decide) rfl (fun ls hl => ?_)
      have I := q_swap I
      refine lv_aload_n hx hb d_La_law_266 rfl (q_at hl 3 rfl) ?_
      refine lv_aload_n hx hb d_La_law_267 rfl (q_at hl 1 rfl) ?_
      refine lv_iload hx hb d_La_law_268 (q_at hl 5 rfl) ?_
      refine lv_iconst (v := 1) hx hb d_La_law_270 (by decide) ?_
      refine lv_iadd hx hb d_La_law_271 ?_
      refine va_sld hx hb hX hbl hbA I.2.2 (show vp_in (nI j + 1) L from q_ix (k := 1) hj hL (by decide)) d_La_law_272 ?_
      refine lv_aload_n hx hb d_La_law_273 rfl (q_at hl 1 rfl) ?_
      refine lv_iload hx hb d_La_law_274 (q_at hl 5 rfl) ?_
      refine lv_iconst (v := 2) hx hb d_La_law_276 (by decide) ?_
      refine lv_iadd hx hb d_La_law_277 ?_
      refine va_sld hx hb hX hbl hbA I.2.2 (show vp_in (nI j + 2) L from q_ix (k := 2) hj hL (by decide)) d_La_law_278 ?_
      refine lv_aload_n hx hb d_La_law_279 rfl (q_at hl 1 rfl) ?_
      refine lv_iload hx hb d_La_law_280 (q_at hl 5 rfl) ?_
      refine lv_iconst (v := 3) hx hb d_La_law_282 (by decide) ?_
      refine lv_iadd hx hb d_La_law_283 ?_
      refine va_sld hx hb hX hbl hbA I.2.2 (show vp_in (nI j + 3) L from q_ix (k := 3) hj hL (by decide)) d_La_law_284 ?_
      refine lv_if_eq (tgt := 292) hx hb d_La_law_285 (by decide) (fun h => absurd h h3) (fun _ => ?_)
      refine lv_iconst (v := 1) hx hb d_La_law_288 (by decide) ?_
      refine lv_goto (tgt := 293) hx hb d_La_law_289 (by decide) ?_
      refine q_kiF hA I (q_runVF (C := "JobTerminalModel") (As := [.int (xs (nI j + 1).toNatClampNeg), .int (xs (nI j + 2).toNatClampNeg), .int 1]) (rest := []) ⟨hx, hb, hml, hown, htg⟩ (c_Mo_launch (sz := H.size) e2) (cwV 3 htg (q_goodVL mw617 mw618 mw619 mw620 mw366) rfl rfl rfl (by decide +kernel) ⟨(Nat.le_of_ble_eq_true rfl), (Nat.le_of_ble_eq_true rfl)⟩) NW_ok hK hN I rfl (q_wsE (by decide) a_M_Mo) rfl (q_sz hl) rfl (Nat.le_of_ble_eq_true rfl) d_La_law_293 ⟨by show cells + 1 ≤ 633060; omega, by show slots + 6 ≤ 7196923; omega⟩) (fun H locs I => ?_)
      refine q_istore (lv' := [(6, .int r), (5, .int (if bb then 1 else 2)), (0, .ref b), (1, .ref (ad 0)), (2, .ref (ad2 0)), (3, .ref oa), (4, .int (nI j))]) hx hb d_La_law_296 hl (by decide) rfl (fun ls hl => ?_)
      refine lv_aload_n hx hb d_La_law_298 rfl (q_at hl 4 rfl) ?_
      refine q_kiF hA I (q_runVF (C := "JobTerminalModel") (As := []) (rest := []) ⟨hx, hb, hml, hown, htg⟩ (c_Mo_thrown (sz := H.size) (res := (μ2 48 0, μ2)) rfl) (cwV 0 htg (q_goodVL mw621 mw622 mw623 mw624 mw366) rfl rfl rfl (by decide +kernel) ⟨(Nat.le_of_ble_eq_true rfl), (Nat.le_of_ble_eq_true rfl)⟩) NW_ok hK hN I rfl (q_wsE (by decide) a_M_Mo) rfl (q_sz hl) rfl (Nat.le_of_ble_eq_true rfl) d_La_law_299 ⟨by show cells + 1 ≤ 633060; omega, by show slots + 6 ≤ 7196923; omega⟩) (fun H locs I => ?_)
      refine lv_iload hx hb d_La_law_302 (q_at hl 1 rfl) ?_
      refine lv_icmp_eq (tgt := 309) hx hb d_La_law_304 (by decide) (fun _ => ?_) (fun h => absurd e48 h)
      refine lv_iload hx hb d_La_law_309 (q_at hl 1 rfl) ?_
      refine lv_if_ne (tgt := 326) hx hb d_La_law_311 (by decide) (fun _ => ?_) (fun h => absurd h (q_bz bb))
      refine lv_goto (tgt := 711) hx hb d_La_law_326 (by decide) ?_
      exact hend σ2 μ2 g H locs ls HR2 (q_swap I) (q_hsub hl [2, 3, 4, 5, 6] rfl)
set_option maxHeartbeats 4000000 in
set_option maxRecDepth 100000 in
theorem k_front {p : Program} {l : Launch} {e : Env} {s : State} {m : MethodId} {below : List Frame} {meth : Method} {c : Code} {b L : Nat} {xs : Nat → Int32} {D : va_G} {cs : Nat → ClassId} {A : Nat → Prop} {Q : State → Prop} (C0 : q_L0 p l s m c b L xs D cs A) {ad ad2 : Nat → Nat} {oa j B cells slots : Nat} {g : Nat → Int64} {σ μ : q_St} {H : Heap} {locs : List Loc} {ls : Array Slot} (HR : RR B σ μ) (hB : B + 300 < 2 ^ 27) (I : q_I D vwCl A s.heap ((q_ws 33 ad (cC ad cs σ) ++ [(oa, .inl (cs 4, 1, .inr (.inl g)))]) ++ q_ws 23 ad2 (cM ad2 cs μ)) H locs) (hl : q_has ls 7 [(0, .ref b), (1, .ref (ad 0)), (2, .ref (ad2 0)), (3, .ref oa), (4, .int (nI j))]) (hj : j + 5 ≤ L) (hL : L ≤ 2560) (hc : cells + 1 ≤ 633060) (hs : slots + 6 ≤ 7196923)
    (hend : ∀ (σ μ : q_St) (g : Nat → Int64) (H : Heap) (locs : List Loc) (ls : Array Slot), RR (B + 300) σ μ → q_I D vwCl A s.heap ((q_ws 33 ad (cC ad cs σ) ++ [(oa, .inl (cs 4, 1, .inr (.inl g)))]) ++ q_ws 23 ad2 (cM ad2 cs μ)) H locs → q_has ls 7 [(0, .ref b), (1, .ref (ad 0)), (2, .ref (ad2 0)), (3, .ref oa), (4, .int (nI j))] → W p l e room_1 s m #[Value.ref b] below meth c H locs (cells + 1) (slots + 6) Q (F0 m 711 ls [])) : W p l e room_1 s m #[Value.ref b] below meth c H locs cells slots Q (F0 m 329 ls []) := by
  obtain ⟨hx, hb, hml, hown, htg, hX, hbl, hK, hN, hls, hXt, hXz, hnc, hA, hbA⟩ := C0
  rcases front_sim HR (xs (nI j + 1).toNatClampNeg) with ⟨r, σ2, μ2, e1, e2, e48, HR2⟩ | ⟨bb, σ2, r, μ2, e1, e2, e48, HR2⟩
  · refine lv_aload_n hx hb d_La_law_329 rfl (q_at hl 1 rfl) ?_
    refine lv_aload_n hx hb d_La_law_330 rfl (q_at hl 0 rfl) ?_
    refine lv_iload hx hb d_La_law_331 (q_at hl 4 rfl) ?_
    refine lv_iconst (v := 1) hx hb d_La_law_333 (by decide) ?_
    refine lv_iadd hx hb d_La_law_334 ?_
    refine va_sld hx hb hX hbl hbA I.2.2 (show vp_in (nI j + 1) L from q_ix (k := 1) hj hL (by decide)) d_La_law_335 ?_
    refine lv_aload_n hx hb d_La_law_336 rfl (q_at hl 3 rfl) ?_
    refine q_kiF hA I (q_runSW (As := [.ref (ad 0), .int (xs (nI j + 1).toNatClampNeg), .ref oa]) (rest := []) ⟨hx, hb, hml, hown, htg⟩ (h_front (sz := H.size) (g := g) (oa := oa) e1) (q_cwSW 3 htg mw575 mw625 mw626 mw616 rfl rfl (by decide +kernel) ⟨(Nat.le_of_ble_eq_true rfl), (Nat.le_of_ble_eq_true rfl)⟩) ⟨q_Pre_blind NW_ok, fun U hU hW => q_Pre_at NW_ok hK hN (q_left I).1 (q_left I).2 hU hW⟩ rfl (q_sz hl) rfl (Nat.le_of_ble_eq_true rfl) d_La_law_337 ⟨by show cells + 0 ≤ 633060; omega, by show slots + 0 ≤ 7196923; omega⟩) (fun H locs I => ?_)
    refine q_istore (lv' := [(5, .int 0), (0, .ref b), (1, .ref (ad 0)), (2, .ref (ad2 0)), (3, .ref oa), (4, .int (nI j))]) hx hb d_La_law_340 hl (by decide) rfl (fun ls hl => ?_)
    have I := q_swap I
    refine lv_aload_n hx hb d_La_law_342 rfl (q_at hl 3 rfl) ?_
    refine lv_aload_n hx hb d_La_law_343 rfl (q_at hl 1 rfl) ?_
    refine lv_iload hx hb d_La_law_344 (q_at hl 5 rfl) ?_
    refine lv_iconst (v := 1) hx hb d_La_law_346 (by decide) ?_
    refine lv_iadd hx hb d_La_law_347 ?_
    refine va_sld hx hb hX hbl hbA I.2.2 (show vp_in (nI j + 1) L from q_ix (k := 1) hj hL (by decide)) d_La_law_348 ?_
    refine q_kiF hA I (q_runVF (C := "JobTerminalModel") (As := [.int (xs (nI j + 1).toNatClampNeg)]) (rest := []) ⟨hx, hb, hml, hown, htg⟩ (c_Mo_front (sz := H.size) e2) (cwV 1 htg (q_goodVL mw627 mw628 mw629 mw630 mw366) rfl rfl rfl (by decide +kernel) ⟨(Nat.le_of_ble_eq_true rfl), (Nat.le_of_ble_eq_true rfl)⟩) NW_ok hK hN I rfl (q_wsE (by decide) a_M_Mo) rfl (q_sz hl) rfl (Nat.le_of_ble_eq_true rfl) d_La_law_349 ⟨by show cells + 0 ≤ 633060; omega, by show slots + 0 ≤ 7196923; omega⟩) (fun H locs I => ?_)
    refine q_istore (lv' := [(6, .int r), (5, .int 0), (0, .ref b), (1, .ref (ad 0)), (2, .ref (ad2 0)), (3, .ref oa), (4, .int (nI j))]) hx hb d_La_law_352 hl (by decide) rfl (fun ls hl => ?_)
    refine lv_aload_n hx hb d_La_law_354 rfl (q_at hl 4 rfl) ?_
    refine q_kiF hA I (q_runVF (C := "JobTerminalModel") (As := []) (rest := []) ⟨hx, hb, hml, hown, htg⟩ (c_Mo_thrown (sz := H.size) (res := (μ2 48 0, μ2)) rfl) (cwV 0 htg (q_goodVL mw621 mw622 mw623 mw624 mw366) rfl rfl rfl (by decide +kernel) ⟨(Nat.le_of_ble_eq_true rfl), (Nat.le_of_ble_eq_true rfl)⟩) NW_ok hK hN I rfl (q_wsE (by decide) a_M_Mo) rfl (q_sz hl) rfl (Nat.le_of_ble_eq_true rfl) d_La_law_355 ⟨by show cells + 0 ≤ 633060; omega, by show slots + 0 ≤ 7196923; omega⟩) (fun H locs I => ?_)
    refine lv_iload hx hb d_La_law_358 (q_at hl 1 rfl) ?_
    refine lv_icmp_eq (tgt := 365) hx hb d_La_law_360 (by decide) (fun _ => ?_) (fun h => absurd e48 h)
    refine lv_iload hx hb d_La_law_365 (q_at hl 1 rfl) ?_
    refine lv_if_ne (tgt := 382) hx hb d_La_law_367 (by decide) (fun h => absurd rfl h) (fun _ => ?_)
    refine lv_aload_n hx hb d_La_law_370 rfl (q_at hl 5 rfl) ?_
    refine lv_iconst (v := 0) hx hb d_La_law_371 (by decide) ?_
    refine q_lald1 hx hb hK (q_swap I) d_La_law_372 ?_
    refine lv_iload hx hb d_La_law_373 (q_at hl 0 rfl) ?_
    refine lv_i2l (v := r.toInt64) hx hb d_La_law_375 rfl ?_
    refine W.lcmp hx hb d_La_law_376 ?_
    rw [show vp_updL g 0 r.toInt64 0 = r.toInt64 from pk_uLs, q_cmp0]
    refine lv_if_eq (tgt := 382) hx hb d_La_law_377 (by decide) (fun _ => ?_) (fun h => absurd rfl h)
    refine lv_goto (tgt := 711) hx hb d_La_law_382 (by decide) ?_
    refine W.widen (Nat.le_succ _) (Nat.le_add_right _ 6) ?_
    exact hend σ2 μ2 (vp_updL g 0 r.toInt64) H locs ls HR2 (q_swap I) (q_hsub hl [2, 3, 4, 5, 6] rfl)
  · refine lv_aload_n hx hb d_La_law_329 rfl (q_at hl 1 rfl) ?_
    refine lv_aload_n hx hb d_La_law_330 rfl (q_at hl 0 rfl) ?_
    refine lv_iload hx hb d_La_law_331 (q_at hl 4 rfl) ?_
    refine lv_iconst (v := 1) hx hb d_La_law_333 (by decide) ?_
    refine lv_iadd hx hb d_La_law_334 ?_
    refine va_sld hx hb hX hbl hbA I.2.2 (show vp_in (nI j + 1) L from q_ix (k := 1) hj hL (by decide)) d_La_law_335 ?_
    refine lv_aload_n hx hb d_La_law_336 rfl (q_at hl 3 rfl) ?_
    refine q_kiF hA I (q_runSW (As := [.ref (ad 0), .int (xs (nI j + 1).toNatClampNeg), .ref oa]) (rest := []) ⟨hx, hb, hml, hown, htg⟩ (e_front hls (sz := H.size) (g := g) (oa := oa) e1) (q_cwSW 3 htg mw575 mw625 mw626 mw616 rfl rfl (by decide +kernel) ⟨(Nat.le_of_ble_eq_true rfl), (Nat.le_of_ble_eq_true rfl)⟩) ⟨q_PreY_blind NW_ok, fun U hU hW => q_PreY_at hA NW_ok hK hN (q_left I).1 (q_left I).2 I.2.2 hXt hXz hnc hU hW⟩ rfl (q_sz hl) rfl (Nat.le_of_ble_eq_true rfl) d_La_law_337 ⟨by show cells + 1 ≤ 633060; omega, by show slots + 6 ≤ 7196923; omega⟩) (fun H locs I => ?_)
    refine q_istore (lv' := [(5, .int (if bb then 1 else 2)), (0, .ref b), (1, .ref (ad 0)), (2, .ref (ad2 0)), (3, .ref oa), (4, .int (nI j))]) hx hb d_La_law_340 hl (by decide) rfl (fun ls hl => ?_)
    have I := q_swap I
    refine lv_aload_n hx hb d_La_law_342 rfl (q_at hl 3 rfl) ?_
    refine lv_aload_n hx hb d_La_law_343 rfl (q_at hl 1 rfl) ?_
    refine lv_iload hx hb d_La_law_344 (q_at hl 5 rfl) ?_
    refine lv_iconst (v := 1) hx hb d_La_law_346 (by decide) ?_
    refine lv_iadd hx hb d_La_law_347 ?_
    refine va_sld hx hb hX hbl hbA I.2.2 (show vp_in (nI j + 1) L from q_ix (k := 1) hj hL (by decide)) d_La_law_348 ?_
    refine q_kiF hA I (q_runVF (C := "JobTerminalModel") (As := [.int (xs (nI j + 1).toNatClampNeg)]) (rest := []) ⟨hx, hb, hml, hown, htg⟩ (c_Mo_front (sz := H.size) e2) (cwV 1 htg (q_goodVL mw627 mw628 mw629 mw630 mw366) rfl rfl rfl (by decide +kernel) ⟨(Nat.le_of_ble_eq_true rfl), (Nat.le_of_ble_eq_true rfl)⟩) NW_ok hK hN I rfl (q_wsE (by decide) a_M_Mo) rfl (q_sz hl) rfl (Nat.le_of_ble_eq_true rfl) d_La_law_349 ⟨by show cells + 1 ≤ 633060; omega, by show slots + 6 ≤ 7196923; omega⟩) (fun H locs I => ?_)
    refine q_istore (lv' := [(6, .int r), (5, .int (if bb then 1 else 2)), (0, .ref b), (1, .ref (ad 0)), (2, .ref (ad2 0)), (3, .ref oa), (4, .int (nI j))]) hx hb d_La_law_352 hl (by decide) rfl (fun ls hl => ?_)
    refine lv_aload_n hx hb d_La_law_354 rfl (q_at hl 4 rfl) ?_
    refine q_kiF hA I (q_runVF (C := "JobTerminalModel") (As := []) (rest := []) ⟨hx, hb, hml, hown, htg⟩ (c_Mo_thrown (sz := H.size) (res := (μ2 48 0, μ2)) rfl) (cwV 0 htg (q_goodVL mw621 mw622 mw623 mw624 mw366) rfl rfl rfl (by decide +kernel) ⟨(Nat.le_of_ble_eq_true rfl), (Nat.le_of_ble_eq_true rfl)⟩) NW_ok hK hN I rfl (q_wsE (by decide) a_M_Mo) rfl (q_sz hl) rfl (Nat.le_of_ble_eq_true rfl) d_La_law_355 ⟨by show cells + 1 ≤ 633060; omega, by show slots + 6 ≤ 7196923; omega⟩) (fun H locs I => ?_)
    refine lv_iload hx hb d_La_law_358 (q_at hl 1 rfl) ?_
    refine lv_icmp_eq (tgt := 365) hx hb d_La_law_360 (by decide) (fun _ => ?_) (fun h => absurd e48 h)
    refine lv_iload hx hb d_La_law_365 (q_at hl 1 rfl) ?_
    refine lv_if_ne (tgt := 382) hx hb d_La_law_367 (by decide) (fun _ => ?_) (fun h => absurd h (q_bz bb))
    refine lv_goto (tgt := 711) hx hb d_La_law_382 (by decide) ?_
    exact hend σ2 μ2 g H locs ls HR2 (q_swap I) (q_hsub hl [2, 3, 4, 5, 6] rfl)
set_option maxHeartbeats 4000000 in
set_option maxRecDepth 100000 in
theorem k_back {p : Program} {l : Launch} {e : Env} {s : State} {m : MethodId} {below : List Frame} {meth : Method} {c : Code} {b L : Nat} {xs : Nat → Int32} {D : va_G} {cs : Nat → ClassId} {A : Nat → Prop} {Q : State → Prop} (C0 : q_L0 p l s m c b L xs D cs A) {ad ad2 : Nat → Nat} {oa j B cells slots : Nat} {g : Nat → Int64} {σ μ : q_St} {H : Heap} {locs : List Loc} {ls : Array Slot} (HR : RR B σ μ) (hB : B + 300 < 2 ^ 27) (I : q_I D vwCl A s.heap ((q_ws 33 ad (cC ad cs σ) ++ [(oa, .inl (cs 4, 1, .inr (.inl g)))]) ++ q_ws 23 ad2 (cM ad2 cs μ)) H locs) (hl : q_has ls 7 [(0, .ref b), (1, .ref (ad 0)), (2, .ref (ad2 0)), (3, .ref oa), (4, .int (nI j))]) (hj : j + 5 ≤ L) (hL : L ≤ 2560) (hc : cells + 1 ≤ 633060) (hs : slots + 6 ≤ 7196923)
    (hend : ∀ (σ μ : q_St) (g : Nat → Int64) (H : Heap) (locs : List Loc) (ls : Array Slot), RR (B + 300) σ μ → q_I D vwCl A s.heap ((q_ws 33 ad (cC ad cs σ) ++ [(oa, .inl (cs 4, 1, .inr (.inl g)))]) ++ q_ws 23 ad2 (cM ad2 cs μ)) H locs → q_has ls 7 [(0, .ref b), (1, .ref (ad 0)), (2, .ref (ad2 0)), (3, .ref oa), (4, .int (nI j))] → W p l e room_1 s m #[Value.ref b] below meth c H locs (cells + 1) (slots + 6) Q (F0 m 711 ls [])) : W p l e room_1 s m #[Value.ref b] below meth c H locs cells slots Q (F0 m 385 ls []) := by
  obtain ⟨hx, hb, hml, hown, htg, hX, hbl, hK, hN, hls, hXt, hXz, hnc, hA, hbA⟩ := C0
  rcases back_sim HR (xs (nI j + 1).toNatClampNeg) with ⟨r, σ2, μ2, e1, e2, e48, HR2⟩ | ⟨bb, σ2, r, μ2, e1, e2, e48, HR2⟩
  · refine lv_aload_n hx hb d_La_law_385 rfl (q_at hl 1 rfl) ?_
    refine lv_aload_n hx hb d_La_law_386 rfl (q_at hl 0 rfl) ?_
    refine lv_iload hx hb d_La_law_387 (q_at hl 4 rfl) ?_
    refine lv_iconst (v := 1) hx hb d_La_law_389 (by decide) ?_
    refine lv_iadd hx hb d_La_law_390 ?_
    refine va_sld hx hb hX hbl hbA I.2.2 (show vp_in (nI j + 1) L from q_ix (k := 1) hj hL (by decide)) d_La_law_391 ?_
    refine lv_aload_n hx hb d_La_law_392 rfl (q_at hl 3 rfl) ?_
    refine q_kiF hA I (q_runSW (As := [.ref (ad 0), .int (xs (nI j + 1).toNatClampNeg), .ref oa]) (rest := []) ⟨hx, hb, hml, hown, htg⟩ (h_back (sz := H.size) (g := g) (oa := oa) e1) (q_cwSW 3 htg mw580 mw631 mw632 mw616 rfl rfl (by decide +kernel) ⟨(Nat.le_of_ble_eq_true rfl), (Nat.le_of_ble_eq_true rfl)⟩) ⟨q_Pre_blind NW_ok, fun U hU hW => q_Pre_at NW_ok hK hN (q_left I).1 (q_left I).2 hU hW⟩ rfl (q_sz hl) rfl (Nat.le_of_ble_eq_true rfl) d_La_law_393 ⟨by show cells + 0 ≤ 633060; omega, by show slots + 0 ≤ 7196923; omega⟩) (fun H locs I => ?_)
    refine q_istore (lv' := [(5, .int 0), (0, .ref b), (1, .ref (ad 0)), (2, .ref (ad2 0)), (3, .ref oa), (4, .int (nI j))]) hx hb d_La_law_396 hl (by decide) rfl (fun ls hl => ?_)
    have I := q_swap I
    refine lv_aload_n hx hb d_La_law_398 rfl (q_at hl 3 rfl) ?_
    refine lv_aload_n hx hb d_La_law_399 rfl (q_at hl 1 rfl) ?_
    refine lv_iload hx hb d_La_law_400 (q_at hl 5 rfl) ?_
    refine lv_iconst (v := 1) hx hb d_La_law_402 (by decide) ?_
    refine lv_iadd hx hb d_La_law_403 ?_
    refine va_sld hx hb hX hbl hbA I.2.2 (show vp_in (nI j + 1) L from q_ix (k := 1) hj hL (by decide)) d_La_law_404 ?_
    refine q_kiF hA I (q_runVF (C := "JobTerminalModel") (As := [.int (xs (nI j + 1).toNatClampNeg)]) (rest := []) ⟨hx, hb, hml, hown, htg⟩ (c_Mo_back (sz := H.size) e2) (cwV 1 htg (q_goodVL mw633 mw634 mw635 mw636 mw366) rfl rfl rfl (by decide +kernel) ⟨(Nat.le_of_ble_eq_true rfl), (Nat.le_of_ble_eq_true rfl)⟩) NW_ok hK hN I rfl (q_wsE (by decide) a_M_Mo) rfl (q_sz hl) rfl (Nat.le_of_ble_eq_true rfl) d_La_law_405 ⟨by show cells + 0 ≤ 633060; omega, by show slots + 0 ≤ 7196923; omega⟩) (fun H locs I => ?_)
    refine q_istore (lv' := [(6, .int r), (5, .int 0), (0, .ref b), (1, .ref (ad 0)), (2, .ref (ad2 0)), (3, .ref oa), (4, .int (nI j))]) hx hb d_La_law_408 hl (by decide) rfl (fun ls hl => ?_)
    refine lv_aload_n hx hb d_La_law_410 rfl (q_at hl 4 rfl) ?_
    refine q_kiF hA I (q_runVF (C := "JobTerminalModel") (As := []) (rest := []) ⟨hx, hb, hml, hown, htg⟩ (c_Mo_thrown (sz := H.size) (res := (μ2 48 0, μ2)) rfl) (cwV 0 htg (q_goodVL mw621 mw622 mw623 mw624 mw366) rfl rfl rfl (by decide +kernel) ⟨(Nat.le_of_ble_eq_true rfl), (Nat.le_of_ble_eq_true rfl)⟩) NW_ok hK hN I rfl (q_wsE (by decide) a_M_Mo) rfl (q_sz hl) rfl (Nat.le_of_ble_eq_true rfl) d_La_law_411 ⟨by show cells + 0 ≤ 633060; omega, by show slots + 0 ≤ 7196923; omega⟩) (fun H locs I => ?_)
    refine lv_iload hx hb d_La_law_414 (q_at hl 1 rfl) ?_
    refine lv_icmp_eq (tgt := 421) hx hb d_La_law_416 (by decide) (fun _ => ?_) (fun h => absurd e48 h)
    refine lv_iload hx hb d_La_law_421 (q_at hl 1 rfl) ?_
    refine lv_if_ne (tgt := 438) hx hb d_La_law_423 (by decide) (fun h => absurd rfl h) (fun _ => ?_)
    refine lv_aload_n hx hb d_La_law_426 rfl (q_at hl 5 rfl) ?_
    refine lv_iconst (v := 0) hx hb d_La_law_427 (by decide) ?_
    refine q_lald1 hx hb hK (q_swap I) d_La_law_428 ?_
    refine lv_iload hx hb d_La_law_429 (q_at hl 0 rfl) ?_
    refine lv_i2l (v := r.toInt64) hx hb d_La_law_431 rfl ?_
    refine W.lcmp hx hb d_La_law_432 ?_
    rw [show vp_updL g 0 r.toInt64 0 = r.toInt64 from pk_uLs, q_cmp0]
    refine lv_if_eq (tgt := 438) hx hb d_La_law_433 (by decide) (fun _ => ?_) (fun h => absurd rfl h)
    refine lv_goto (tgt := 711) hx hb d_La_law_438 (by decide) ?_
    refine W.widen (Nat.le_succ _) (Nat.le_add_right _ 6) ?_
    exact hend σ2 μ2 (vp_updL g 0 r.toInt64) H locs ls HR2 (q_swap I) (q_hsub hl [2, 3, 4, 5, 6] rfl)
  · refine lv_aload_n hx hb d_La_law_385 rfl (q_at hl 1 rfl) ?_
    refine lv_aload_n hx hb d_La_law_386 rfl (q_at hl 0 rfl) ?_
    refine lv_iload hx hb d_La_law_387 (q_at hl 4 rfl) ?_
    refine lv_iconst (v := 1) hx hb d_La_law_389 (by decide) ?_
    refine lv_iadd hx hb d_La_law_390 ?_
    refine va_sld hx hb hX hbl hbA I.2.2 (show vp_in (nI j + 1) L from q_ix (k := 1) hj hL (by decide)) d_La_law_391 ?_
    refine lv_aload_n hx hb d_La_law_392 rfl (q_at hl 3 rfl) ?_
    refine q_kiF hA I (q_runSW (As := [.ref (ad 0), .int (xs (nI j + 1).toNatClampNeg), .ref oa]) (rest := []) ⟨hx, hb, hml, hown, htg⟩ (e_back hls (sz := H.size) (g := g) (oa := oa) e1) (q_cwSW 3 htg mw580 mw631 mw632 mw616 rfl rfl (by decide +kernel) ⟨(Nat.le_of_ble_eq_true rfl), (Nat.le_of_ble_eq_true rfl)⟩) ⟨q_PreY_blind NW_ok, fun U hU hW => q_PreY_at hA NW_ok hK hN (q_left I).1 (q_left I).2 I.2.2 hXt hXz hnc hU hW⟩ rfl (q_sz hl) rfl (Nat.le_of_ble_eq_true rfl) d_La_law_393 ⟨by show cells + 1 ≤ 633060; omega, by show slots + 6 ≤ 7196923; omega⟩) (fun H locs I => ?_)
    refine q_istore (lv' := [(5, .int (if bb then 1 else 2)), (0, .ref b), (1, .ref (ad 0)), (2, .ref (ad2 0)), (3, .ref oa), (4, .int (nI j))]) hx hb d_La_law_396 hl (by decide) rfl (fun ls hl => ?_)
    have I := q_swap I
    refine lv_aload_n hx hb d_La_law_398 rfl (q_at hl 3 rfl) ?_
    refine lv_aload_n hx hb d_La_law_399 rfl (q_at hl 1 rfl) ?_
    refine lv_iload hx hb d_La_law_400 (q_at hl 5 rfl) ?_
    refine lv_iconst (v := 1) hx hb d_La_law_402 (by decide) ?_
    refine lv_iadd hx hb d_La_law_403 ?_
    refine va_sld hx hb hX hbl hbA I.2.2 (show vp_in (nI j + 1) L from q_ix (k := 1) hj hL (by decide)) d_La_law_404 ?_
    refine q_kiF hA I (q_runVF (C := "JobTerminalModel") (As := [.int (xs (nI j + 1).toNatClampNeg)]) (rest := []) ⟨hx, hb, hml, hown, htg⟩ (c_Mo_back (sz := H.size) e2) (cwV 1 htg (q_goodVL mw633 mw634 mw635 mw636 mw366) rfl rfl rfl (by decide +kernel) ⟨(Nat.le_of_ble_eq_true rfl), (Nat.le_of_ble_eq_true rfl)⟩) NW_ok hK hN I rfl (q_wsE (by decide) a_M_Mo) rfl (q_sz hl) rfl (Nat.le_of_ble_eq_true rfl) d_La_law_405 ⟨by show cells + 1 ≤ 633060; omega, by show slots + 6 ≤ 7196923; omega⟩) (fun H locs I => ?_)
    refine q_istore (lv' := [(6, .int r), (5, .int (if bb then 1 else 2)), (0, .ref b), (1, .ref (ad 0)), (2, .ref (ad2 0)), (3, .ref oa), (4, .int (nI j))]) hx hb d_La_law_408 hl (by decide) rfl (fun ls hl => ?_)
    refine lv_aload_n hx hb d_La_law_410 rfl (q_at hl 4 rfl) ?_
    refine q_kiF hA I (q_runVF (C := "JobTerminalModel") (As := []) (rest := []) ⟨hx, hb, hml, hown, htg⟩ (c_Mo_thrown (sz := H.size) (res := (μ2 48 0, μ2)) rfl) (cwV 0 htg (q_goodVL mw621 mw622 mw623 mw624 mw366) rfl rfl rfl (by decide +kernel) ⟨(Nat.le_of_ble_eq_true rfl), (Nat.le_of_ble_eq_true rfl)⟩) NW_ok hK hN I rfl (q_wsE (by decide) a_M_Mo) rfl (q_sz hl) rfl (Nat.le_of_ble_eq_true rfl) d_La_law_411 ⟨by show cells + 1 ≤ 633060; omega, by show slots + 6 ≤ 7196923; omega⟩) (fun H locs I => ?_)
    refine lv_iload hx hb d_La_law_414 (q_at hl 1 rfl) ?_
    refine lv_icmp_eq (tgt := 421) hx hb d_La_law_416 (by decide) (fun _ => ?_) (fun h => absurd e48 h)
    refine lv_iload hx hb d_La_law_421 (q_at hl 1 rfl) ?_
    refine lv_if_ne (tgt := 438) hx hb d_La_law_423 (by decide) (fun _ => ?_) (fun h => absurd h (q_bz bb))
    refine lv_goto (tgt := 711) hx hb d_La_law_438 (by decide) ?_
    exact hend σ2 μ2 g H locs ls HR2 (q_swap I) (q_hsub hl [2, 3, 4, 5, 6] rfl)
set_option maxHeartbeats 4000000 in
set_option maxRecDepth 100000 in
theorem k_send {p : Program} {l : Launch} {e : Env} {s : State} {m : MethodId} {below : List Frame} {meth : Method} {c : Code} {b L : Nat} {xs : Nat → Int32} {D : va_G} {cs : Nat → ClassId} {A : Nat → Prop} {Q : State → Prop} (C0 : q_L0 p l s m c b L xs D cs A) {ad ad2 : Nat → Nat} {oa j B cells slots : Nat} {g : Nat → Int64} {σ μ : q_St} {H : Heap} {locs : List Loc} {ls : Array Slot} (HR : RR B σ μ) (hB : B + 300 < 2 ^ 27) (I : q_I D vwCl A s.heap ((q_ws 33 ad (cC ad cs σ) ++ [(oa, .inl (cs 4, 1, .inr (.inl g)))]) ++ q_ws 23 ad2 (cM ad2 cs μ)) H locs) (hl : q_has ls 7 [(0, .ref b), (1, .ref (ad 0)), (2, .ref (ad2 0)), (3, .ref oa), (4, .int (nI j))]) (hj : j + 5 ≤ L) (hL : L ≤ 2560) (hc : cells + 1 ≤ 633060) (hs : slots + 6 ≤ 7196923)
    (hend : ∀ (σ μ : q_St) (g : Nat → Int64) (H : Heap) (locs : List Loc) (ls : Array Slot), RR (B + 300) σ μ → q_I D vwCl A s.heap ((q_ws 33 ad (cC ad cs σ) ++ [(oa, .inl (cs 4, 1, .inr (.inl g)))]) ++ q_ws 23 ad2 (cM ad2 cs μ)) H locs → q_has ls 7 [(0, .ref b), (1, .ref (ad 0)), (2, .ref (ad2 0)), (3, .ref oa), (4, .int (nI j))] → W p l e room_1 s m #[Value.ref b] below meth c H locs (cells + 1) (slots + 6) Q (F0 m 711 ls [])) : W p l e room_1 s m #[Value.ref b] below meth c H locs cells slots Q (F0 m 441 ls []) := by
  obtain ⟨hx, hb, hml, hown, htg, hX, hbl, hK, hN, hls, hXt, hXz, hnc, hA, hbA⟩ := C0
  rcases send_sim HR (xs (nI j + 1).toNatClampNeg) (xs (nI j + 2).toNatClampNeg) with ⟨r, σ2, μ2, e1, e2, e48, HR2⟩ | ⟨bb, σ2, r, μ2, e1, e2, e48, HR2⟩
  · refine lv_aload_n hx hb d_La_law_441 rfl (q_at hl 1 rfl) ?_
    refine lv_aload_n hx hb d_La_law_442 rfl (q_at hl 0 rfl) ?_
    refine lv_iload hx hb d_La_law_443 (q_at hl 4 rfl) ?_
    refine lv_iconst (v := 1) hx hb d_La_law_445 (by decide) ?_
    refine lv_iadd hx hb d_La_law_446 ?_
    refine va_sld hx hb hX hbl hbA I.2.2 (show vp_in (nI j + 1) L from q_ix (k := 1) hj hL (by decide)) d_La_law_447 ?_
    refine lv_aload_n hx hb d_La_law_448 rfl (q_at hl 0 rfl) ?_
    refine lv_iload hx hb d_La_law_449 (q_at hl 4 rfl) ?_
    refine lv_iconst (v := 2) hx hb d_La_law_451 (by decide) ?_
    refine lv_iadd hx hb d_La_law_452 ?_
    refine va_sld hx hb hX hbl hbA I.2.2 (show vp_in (nI j + 2) L from q_ix (k := 2) hj hL (by decide)) d_La_law_453 ?_
    refine lv_aload_n hx hb d_La_law_454 rfl (q_at hl 3 rfl) ?_
    refine q_kiF hA I (q_runSW (As := [.ref (ad 0), .int (xs (nI j + 1).toNatClampNeg), .int (xs (nI j + 2).toNatClampNeg), .ref oa]) (rest := []) ⟨hx, hb, hml, hown, htg⟩ (h_send (sz := H.size) (g := g) (oa := oa) e1) (q_cwSW 4 htg mw585 mw637 mw638 mw616 rfl rfl (by decide +kernel) ⟨(Nat.le_of_ble_eq_true rfl), (Nat.le_of_ble_eq_true rfl)⟩) ⟨q_Pre_blind NW_ok, fun U hU hW => q_Pre_at NW_ok hK hN (q_left I).1 (q_left I).2 hU hW⟩ rfl (q_sz hl) rfl (Nat.le_of_ble_eq_true rfl) d_La_law_455 ⟨by show cells + 0 ≤ 633060; omega, by show slots + 0 ≤ 7196923; omega⟩) (fun H locs I => ?_)
    refine q_istore (lv' := [(5, .int 0), (0, .ref b), (1, .ref (ad 0)), (2, .ref (ad2 0)), (3, .ref oa), (4, .int (nI j))]) hx hb d_La_law_458 hl (by decide) rfl (fun ls hl => ?_)
    have I := q_swap I
    refine lv_aload_n hx hb d_La_law_460 rfl (q_at hl 3 rfl) ?_
    refine lv_aload_n hx hb d_La_law_461 rfl (q_at hl 1 rfl) ?_
    refine lv_iload hx hb d_La_law_462 (q_at hl 5 rfl) ?_
    refine lv_iconst (v := 1) hx hb d_La_law_464 (by decide) ?_
    refine lv_iadd hx hb d_La_law_465 ?_
    refine va_sld hx hb hX hbl hbA I.2.2 (show vp_in (nI j + 1) L from q_ix (k := 1) hj hL (by decide)) d_La_law_466 ?_
    refine lv_aload_n hx hb d_La_law_467 rfl (q_at hl 1 rfl) ?_
    refine lv_iload hx hb d_La_law_468 (q_at hl 5 rfl) ?_
    refine lv_iconst (v := 2) hx hb d_La_law_470 (by decide) ?_
    refine lv_iadd hx hb d_La_law_471 ?_
    refine va_sld hx hb hX hbl hbA I.2.2 (show vp_in (nI j + 2) L from q_ix (k := 2) hj hL (by decide)) d_La_law_472 ?_
    refine q_kiF hA I (q_runVF (C := "JobTerminalModel") (As := [.int (xs (nI j + 1).toNatClampNeg), .int (xs (nI j + 2).toNatClampNeg)]) (rest := []) ⟨hx, hb, hml, hown, htg⟩ (c_Mo_send (sz := H.size) e2) (cwV 2 htg (q_goodVL mw639 mw640 mw641 mw642 mw366) rfl rfl rfl (by decide +kernel) ⟨(Nat.le_of_ble_eq_true rfl), (Nat.le_of_ble_eq_true rfl)⟩) NW_ok hK hN I rfl (q_wsE (by decide) a_M_Mo) rfl (q_sz hl) rfl (Nat.le_of_ble_eq_true rfl) d_La_law_473 ⟨by show cells + 0 ≤ 633060; omega, by show slots + 0 ≤ 7196923; omega⟩) (fun H locs I => ?_)
    refine q_istore (lv' := [(6, .int r), (5, .int 0), (0, .ref b), (1, .ref (ad 0)), (2, .ref (ad2 0)), (3, .ref oa), (4, .int (nI j))]) hx hb d_La_law_476 hl (by decide) rfl (fun ls hl => ?_)
    refine lv_aload_n hx hb d_La_law_478 rfl (q_at hl 4 rfl) ?_
    refine q_kiF hA I (q_runVF (C := "JobTerminalModel") (As := []) (rest := []) ⟨hx, hb, hml, hown, htg⟩ (c_Mo_thrown (sz := H.size) (res := (μ2 48 0, μ2)) rfl) (cwV 0 htg (q_goodVL mw621 mw622 mw623 mw624 mw366) rfl rfl rfl (by decide +kernel) ⟨(Nat.le_of_ble_eq_true rfl), (Nat.le_of_ble_eq_true rfl)⟩) NW_ok hK hN I rfl (q_wsE (by decide) a_M_Mo) rfl (q_sz hl) rfl (Nat.le_of_ble_eq_true rfl) d_La_law_479 ⟨by show cells + 0 ≤ 633060; omega, by show slots + 0 ≤ 7196923; omega⟩) (fun H locs I => ?_)
    refine lv_iload hx hb d_La_law_482 (q_at hl 1 rfl) ?_
    refine lv_icmp_eq (tgt := 489) hx hb d_La_law_484 (by decide) (fun _ => ?_) (fun h => absurd e48 h)
    refine lv_iload hx hb d_La_law_489 (q_at hl 1 rfl) ?_
    refine lv_if_ne (tgt := 506) hx hb d_La_law_491 (by decide) (fun h => absurd rfl h) (fun _ => ?_)
    refine lv_aload_n hx hb d_La_law_494 rfl (q_at hl 5 rfl) ?_
    refine lv_iconst (v := 0) hx hb d_La_law_495 (by decide) ?_
    refine q_lald1 hx hb hK (q_swap I) d_La_law_496 ?_
    refine lv_iload hx hb d_La_law_497 (q_at hl 0 rfl) ?_
    refine lv_i2l (v := r.toInt64) hx hb d_La_law_499 rfl ?_
    refine W.lcmp hx hb d_La_law_500 ?_
    rw [show vp_updL g 0 r.toInt64 0 = r.toInt64 from pk_uLs, q_cmp0]
    refine lv_if_eq (tgt := 506) hx hb d_La_law_501 (by decide) (fun _ => ?_) (fun h => absurd rfl h)
    refine lv_goto (tgt := 711) hx hb d_La_law_506 (by decide) ?_
    refine W.widen (Nat.le_succ _) (Nat.le_add_right _ 6) ?_
    exact hend σ2 μ2 (vp_updL g 0 r.toInt64) H locs ls HR2 (q_swap I) (q_hsub hl [2, 3, 4, 5, 6] rfl)
  · refine lv_aload_n hx hb d_La_law_441 rfl (q_at hl 1 rfl) ?_
    refine lv_aload_n hx hb d_La_law_442 rfl (q_at hl 0 rfl) ?_
    refine lv_iload hx hb d_La_law_443 (q_at hl 4 rfl) ?_
    refine lv_iconst (v := 1) hx hb d_La_law_445 (by decide) ?_
    refine lv_iadd hx hb d_La_law_446 ?_
    refine va_sld hx hb hX hbl hbA I.2.2 (show vp_in (nI j + 1) L from q_ix (k := 1) hj hL (by decide)) d_La_law_447 ?_
    refine lv_aload_n hx hb d_La_law_448 rfl (q_at hl 0 rfl) ?_
    refine lv_iload hx hb d_La_law_449 (q_at hl 4 rfl) ?_
    refine lv_iconst (v := 2) hx hb d_La_law_451 (by decide) ?_
    refine lv_iadd hx hb d_La_law_452 ?_
    refine va_sld hx hb hX hbl hbA I.2.2 (show vp_in (nI j + 2) L from q_ix (k := 2) hj hL (by decide)) d_La_law_453 ?_
    refine lv_aload_n hx hb d_La_law_454 rfl (q_at hl 3 rfl) ?_
    refine q_kiF hA I (q_runSW (As := [.ref (ad 0), .int (xs (nI j + 1).toNatClampNeg), .int (xs (nI j + 2).toNatClampNeg), .ref oa]) (rest := []) ⟨hx, hb, hml, hown, htg⟩ (e_send hls (sz := H.size) (g := g) (oa := oa) e1 (sendX_true e1)) (q_cwSW 4 htg mw585 mw637 mw638 mw616 rfl rfl (by decide +kernel) ⟨(Nat.le_of_ble_eq_true rfl), (Nat.le_of_ble_eq_true rfl)⟩) ⟨q_PreY_blind NW_ok, fun U hU hW => q_PreY_at hA NW_ok hK hN (q_left I).1 (q_left I).2 I.2.2 hXt hXz hnc hU hW⟩ rfl (q_sz hl) rfl (Nat.le_of_ble_eq_true rfl) d_La_law_455 ⟨by show cells + 1 ≤ 633060; omega, by show slots + 6 ≤ 7196923; omega⟩) (fun H locs I => ?_)
    refine q_istore (lv' := [(5, .int (if bb then 1 else 2)), (0, .ref b), (1, .ref (ad 0)), (2, .ref (ad2 0)), (3, .ref oa), (4, .int (nI j))]) hx hb d_La_law_458 hl (by decide) rfl (fun ls hl => ?_)
    have I := q_swap I
    refine lv_aload_n hx hb d_La_law_460 rfl (q_at hl 3 rfl) ?_
    refine lv_aload_n hx hb d_La_law_461 rfl (q_at hl 1 rfl) ?_
    refine lv_iload hx hb d_La_law_462 (q_at hl 5 rfl) ?_
    refine lv_iconst (v := 1) hx hb d_La_law_464 (by decide) ?_
    refine lv_iadd hx hb d_La_law_465 ?_
    refine va_sld hx hb hX hbl hbA I.2.2 (show vp_in (nI j + 1) L from q_ix (k := 1) hj hL (by decide)) d_La_law_466 ?_
    refine lv_aload_n hx hb d_La_law_467 rfl (q_at hl 1 rfl) ?_
    refine lv_iload hx hb d_La_law_468 (q_at hl 5 rfl) ?_
    refine lv_iconst (v := 2) hx hb d_La_law_470 (by decide) ?_
    refine lv_iadd hx hb d_La_law_471 ?_
    refine va_sld hx hb hX hbl hbA I.2.2 (show vp_in (nI j + 2) L from q_ix (k := 2) hj hL (by decide)) d_La_law_472 ?_
    refine q_kiF hA I (q_runVF (C := "JobTerminalModel") (As := [.int (xs (nI j + 1).toNatClampNeg), .int (xs (nI j + 2).toNatClampNeg)]) (rest := []) ⟨hx, hb, hml, hown, htg⟩ (c_Mo_send (sz := H.size) e2) (cwV 2 htg (q_goodVL mw639 mw640 mw641 mw642 mw366) rfl rfl rfl (by decide +kernel) ⟨(Nat.le_of_ble_eq_true rfl), (Nat.le_of_ble_eq_true rfl)⟩) NW_ok hK hN I rfl (q_wsE (by decide) a_M_Mo) rfl (q_sz hl) rfl (Nat.le_of_ble_eq_true rfl) d_La_law_473 ⟨by show cells + 1 ≤ 633060; omega, by show slots + 6 ≤ 7196923; omega⟩) (fun H locs I => ?_)
    refine q_istore (lv' := [(6, .int r), (5, .int (if bb then 1 else 2)), (0, .ref b), (1, .ref (ad 0)), (2, .ref (ad2 0)), (3, .ref oa), (4, .int (nI j))]) hx hb d_La_law_476 hl (by decide) rfl (fun ls hl => ?_)
    refine lv_aload_n hx hb d_La_law_478 rfl (q_at hl 4 rfl) ?_
    refine q_kiF hA I (q_runVF (C := "JobTerminalModel") (As := []) (rest := []) ⟨hx, hb, hml, hown, htg⟩ (c_Mo_thrown (sz := H.size) (res := (μ2 48 0, μ2)) rfl) (cwV 0 htg (q_goodVL mw621 mw622 mw623 mw624 mw366) rfl rfl rfl (by decide +kernel) ⟨(Nat.le_of_ble_eq_true rfl), (Nat.le_of_ble_eq_true rfl)⟩) NW_ok hK hN I rfl (q_wsE (by decide) a_M_Mo) rfl (q_sz hl) rfl (Nat.le_of_ble_eq_true rfl) d_La_law_479 ⟨by show cells + 1 ≤ 633060; omega, by show slots + 6 ≤ 7196923; omega⟩) (fun H locs I => ?_)
    refine lv_iload hx hb d_La_law_482 (q_at hl 1 rfl) ?_
    refine lv_icmp_eq (tgt := 489) hx hb d_La_law_484 (by decide) (fun _ => ?_) (fun h => absurd e48 h)
    refine lv_iload hx hb d_La_law_489 (q_at hl 1 rfl) ?_
    refine lv_if_ne (tgt := 506) hx hb d_La_law_491 (by decide) (fun _ => ?_) (fun h => absurd h (q_bz bb))
    refine lv_goto (tgt := 711) hx hb d_La_law_506 (by decide) ?_
    exact hend σ2 μ2 g H locs ls HR2 (q_swap I) (q_hsub hl [2, 3, 4, 5, 6] rfl)
set_option maxHeartbeats 4000000 in
set_option maxRecDepth 100000 in
theorem k_report {p : Program} {l : Launch} {e : Env} {s : State} {m : MethodId} {below : List Frame} {meth : Method} {c : Code} {b L : Nat} {xs : Nat → Int32} {D : va_G} {cs : Nat → ClassId} {A : Nat → Prop} {Q : State → Prop} (C0 : q_L0 p l s m c b L xs D cs A) {ad ad2 : Nat → Nat} {oa j B cells slots : Nat} {g : Nat → Int64} {σ μ : q_St} {H : Heap} {locs : List Loc} {ls : Array Slot} (HR : RR B σ μ) (hB : B + 300 < 2 ^ 27) (I : q_I D vwCl A s.heap ((q_ws 33 ad (cC ad cs σ) ++ [(oa, .inl (cs 4, 1, .inr (.inl g)))]) ++ q_ws 23 ad2 (cM ad2 cs μ)) H locs) (hl : q_has ls 7 [(0, .ref b), (1, .ref (ad 0)), (2, .ref (ad2 0)), (3, .ref oa), (4, .int (nI j))]) (hj : j + 5 ≤ L) (hL : L ≤ 2560) (hc : cells + 1 ≤ 633060) (hs : slots + 6 ≤ 7196923)
    (hend : ∀ (σ μ : q_St) (g : Nat → Int64) (H : Heap) (locs : List Loc) (ls : Array Slot), RR (B + 300) σ μ → q_I D vwCl A s.heap ((q_ws 33 ad (cC ad cs σ) ++ [(oa, .inl (cs 4, 1, .inr (.inl g)))]) ++ q_ws 23 ad2 (cM ad2 cs μ)) H locs → q_has ls 7 [(0, .ref b), (1, .ref (ad 0)), (2, .ref (ad2 0)), (3, .ref oa), (4, .int (nI j))] → W p l e room_1 s m #[Value.ref b] below meth c H locs (cells + 1) (slots + 6) Q (F0 m 711 ls [])) : W p l e room_1 s m #[Value.ref b] below meth c H locs cells slots Q (F0 m 509 ls []) := by
  obtain ⟨hx, hb, hml, hown, htg, hX, hbl, hK, hN, hls, hXt, hXz, hnc, hA, hbA⟩ := C0
  obtain ⟨r, σ2, μ2, e1, e2, HR2⟩ := report_sim HR 
  refine lv_aload_n hx hb d_La_law_509 rfl (q_at hl 1 rfl) ?_
  refine q_kiF hA (q_as I) (q_runVF (C := "JobTerminal") (As := []) (rest := []) ⟨hx, hb, hml, hown, htg⟩ (c_JT_report (sz := H.size) e1) (cwV 0 htg (q_goodVL mw643 mw644 mw645 mw646 mw184) rfl rfl rfl (by decide +kernel) ⟨(Nat.le_of_ble_eq_true rfl), (Nat.le_of_ble_eq_true rfl)⟩) NW_ok hK hN (q_as I) rfl (q_wsE (by decide) a_C_JT) rfl (q_sz hl) rfl (Nat.le_of_ble_eq_true rfl) d_La_law_510 ⟨by show cells ≤ 633060; omega, by show slots ≤ 7196923; omega⟩) (fun H locs I => ?_)
  have I := q_swap (q_sa I)
  refine lv_aload_n hx hb d_La_law_513 rfl (q_at hl 2 rfl) ?_
  refine q_kiF hA I (q_runVF (C := "JobTerminalModel") (As := []) (rest := [.int r]) ⟨hx, hb, hml, hown, htg⟩ (c_Mo_report (sz := H.size) e2) (cwV 0 htg (q_goodVL mw647 mw648 mw649 mw650 mw366) rfl rfl rfl (by decide +kernel) ⟨(Nat.le_of_ble_eq_true rfl), (Nat.le_of_ble_eq_true rfl)⟩) NW_ok hK hN I rfl (q_wsE (by decide) a_M_Mo) rfl (q_sz hl) rfl (Nat.le_of_ble_eq_true rfl) d_La_law_514 ⟨by show cells ≤ 633060; omega, by show slots ≤ 7196923; omega⟩) (fun H locs I => ?_)
  refine lv_icmp_eq (tgt := 711) hx hb d_La_law_517 (by decide) (fun _ => ?_) (fun h => absurd rfl h)
  refine W.widen (Nat.le_succ _) (Nat.le_add_right _ 6) ?_
  exact hend σ2 μ2 g H locs ls HR2 (q_swap I) hl
set_option maxHeartbeats 4000000 in
set_option maxRecDepth 100000 in
theorem k_step {p : Program} {l : Launch} {e : Env} {s : State} {m : MethodId} {below : List Frame} {meth : Method} {c : Code} {b L : Nat} {xs : Nat → Int32} {D : va_G} {cs : Nat → ClassId} {A : Nat → Prop} {Q : State → Prop} (C0 : q_L0 p l s m c b L xs D cs A) {ad ad2 : Nat → Nat} {oa j B cells slots : Nat} {g : Nat → Int64} {σ μ : q_St} {H : Heap} {locs : List Loc} {ls : Array Slot} (HR : RR B σ μ) (hB : B + 300 < 2 ^ 27) (I : q_I D vwCl A s.heap ((q_ws 33 ad (cC ad cs σ) ++ [(oa, .inl (cs 4, 1, .inr (.inl g)))]) ++ q_ws 23 ad2 (cM ad2 cs μ)) H locs) (hl : q_has ls 7 [(0, .ref b), (1, .ref (ad 0)), (2, .ref (ad2 0)), (3, .ref oa), (4, .int (nI j))]) (hj : j + 5 ≤ L) (hL : L ≤ 2560) (hc : cells + 1 ≤ 633060) (hs : slots + 6 ≤ 7196923)
    (hend : ∀ (σ μ : q_St) (g : Nat → Int64) (H : Heap) (locs : List Loc) (ls : Array Slot), RR (B + 300) σ μ → q_I D vwCl A s.heap ((q_ws 33 ad (cC ad cs σ) ++ [(oa, .inl (cs 4, 1, .inr (.inl g)))]) ++ q_ws 23 ad2 (cM ad2 cs μ)) H locs → q_has ls 7 [(0, .ref b), (1, .ref (ad 0)), (2, .ref (ad2 0)), (3, .ref oa), (4, .int (nI j))] → W p l e room_1 s m #[Value.ref b] below meth c H locs (cells + 1) (slots + 6) Q (F0 m 711 ls [])) : W p l e room_1 s m #[Value.ref b] below meth c H locs cells slots Q (F0 m 522 ls []) := by
  obtain ⟨hx, hb, hml, hown, htg, hX, hbl, hK, hN, hls, hXt, hXz, hnc, hA, hbA⟩ := C0
  obtain ⟨r, σ2, μ2, e1, e2, HR2⟩ := step_sim hB HR ((xs (nI j + 1).toNatClampNeg))
  refine lv_aload_n hx hb d_La_law_522 rfl (q_at hl 1 rfl) ?_
  refine lv_aload_n hx hb d_La_law_523 rfl (q_at hl 0 rfl) ?_
  refine lv_iload hx hb d_La_law_524 (q_at hl 4 rfl) ?_
  refine lv_iconst (v := 1) hx hb d_La_law_526 (by decide) ?_
  refine lv_iadd hx hb d_La_law_527 ?_
  refine va_sld hx hb hX hbl hbA I.2.2 (show vp_in (nI j + 1) L from q_ix (k := 1) hj hL (by decide)) d_La_law_528 ?_
  refine q_kiF hA (q_as I) (q_runVF (C := "JobTerminal") (As := [.int (xs (nI j + 1).toNatClampNeg)]) (rest := []) ⟨hx, hb, hml, hown, htg⟩ (c_JT_step (sz := H.size) e1) (cwV 1 htg (q_goodVL mw651 mw652 mw653 mw654 mw184) rfl rfl rfl (by decide +kernel) ⟨(Nat.le_of_ble_eq_true rfl), (Nat.le_of_ble_eq_true rfl)⟩) NW_ok hK hN (q_as I) rfl (q_wsE (by decide) a_C_JT) rfl (q_sz hl) rfl (Nat.le_of_ble_eq_true rfl) d_La_law_529 ⟨by show cells ≤ 633060; omega, by show slots ≤ 7196923; omega⟩) (fun H locs I => ?_)
  have I := q_swap (q_sa I)
  refine lv_aload_n hx hb d_La_law_532 rfl (q_at hl 2 rfl) ?_
  refine lv_aload_n hx hb d_La_law_533 rfl (q_at hl 0 rfl) ?_
  refine lv_iload hx hb d_La_law_534 (q_at hl 4 rfl) ?_
  refine lv_iconst (v := 1) hx hb d_La_law_536 (by decide) ?_
  refine lv_iadd hx hb d_La_law_537 ?_
  refine va_sld hx hb hX hbl hbA I.2.2 (show vp_in (nI j + 1) L from q_ix (k := 1) hj hL (by decide)) d_La_law_538 ?_
  refine q_kiF hA I (q_runVF (C := "JobTerminalModel") (As := [.int (xs (nI j + 1).toNatClampNeg)]) (rest := [.int r]) ⟨hx, hb, hml, hown, htg⟩ (c_Mo_step (sz := H.size) e2) (cwV 1 htg (q_goodVL mw655 mw656 mw657 mw658 mw366) rfl rfl rfl (by decide +kernel) ⟨(Nat.le_of_ble_eq_true rfl), (Nat.le_of_ble_eq_true rfl)⟩) NW_ok hK hN I rfl (q_wsE (by decide) a_M_Mo) rfl (q_sz hl) rfl (Nat.le_of_ble_eq_true rfl) d_La_law_539 ⟨by show cells ≤ 633060; omega, by show slots ≤ 7196923; omega⟩) (fun H locs I => ?_)
  refine lv_icmp_eq (tgt := 711) hx hb d_La_law_542 (by decide) (fun _ => ?_) (fun h => absurd rfl h)
  refine W.widen (Nat.le_succ _) (Nat.le_add_right _ 6) ?_
  exact hend σ2 μ2 g H locs ls HR2 (q_swap I) hl
set_option maxHeartbeats 4000000 in
set_option maxRecDepth 100000 in
theorem k_tick {p : Program} {l : Launch} {e : Env} {s : State} {m : MethodId} {below : List Frame} {meth : Method} {c : Code} {b L : Nat} {xs : Nat → Int32} {D : va_G} {cs : Nat → ClassId} {A : Nat → Prop} {Q : State → Prop} (C0 : q_L0 p l s m c b L xs D cs A) {ad ad2 : Nat → Nat} {oa j B cells slots : Nat} {g : Nat → Int64} {σ μ : q_St} {H : Heap} {locs : List Loc} {ls : Array Slot} (HR : RR B σ μ) (hB : B + 300 < 2 ^ 27) (I : q_I D vwCl A s.heap ((q_ws 33 ad (cC ad cs σ) ++ [(oa, .inl (cs 4, 1, .inr (.inl g)))]) ++ q_ws 23 ad2 (cM ad2 cs μ)) H locs) (hl : q_has ls 7 [(0, .ref b), (1, .ref (ad 0)), (2, .ref (ad2 0)), (3, .ref oa), (4, .int (nI j))]) (hj : j + 5 ≤ L) (hL : L ≤ 2560) (hc : cells + 1 ≤ 633060) (hs : slots + 6 ≤ 7196923)
    (hend : ∀ (σ μ : q_St) (g : Nat → Int64) (H : Heap) (locs : List Loc) (ls : Array Slot), RR (B + 300) σ μ → q_I D vwCl A s.heap ((q_ws 33 ad (cC ad cs σ) ++ [(oa, .inl (cs 4, 1, .inr (.inl g)))]) ++ q_ws 23 ad2 (cM ad2 cs μ)) H locs → q_has ls 7 [(0, .ref b), (1, .ref (ad 0)), (2, .ref (ad2 0)), (3, .ref oa), (4, .int (nI j))] → W p l e room_1 s m #[Value.ref b] below meth c H locs (cells + 1) (slots + 6) Q (F0 m 711 ls [])) : W p l e room_1 s m #[Value.ref b] below meth c H locs cells slots Q (F0 m 547 ls []) := by
  obtain ⟨hx, hb, hml, hown, htg, hX, hbl, hK, hN, hls, hXt, hXz, hnc, hA, hbA⟩ := C0
  obtain ⟨r, σ2, μ2, e1, e2, HR2⟩ := tick_sim HR 
  refine lv_aload_n hx hb d_La_law_547 rfl (q_at hl 1 rfl) ?_
  refine q_kiF hA (q_as I) (q_runVF (C := "JobTerminal") (As := []) (rest := []) ⟨hx, hb, hml, hown, htg⟩ (c_JT_tick (sz := H.size) e1) (cwV 0 htg (q_goodVL mw659 mw660 mw661 mw662 mw184) rfl rfl rfl (by decide +kernel) ⟨(Nat.le_of_ble_eq_true rfl), (Nat.le_of_ble_eq_true rfl)⟩) NW_ok hK hN (q_as I) rfl (q_wsE (by decide) a_C_JT) rfl (q_sz hl) rfl (Nat.le_of_ble_eq_true rfl) d_La_law_548 ⟨by show cells ≤ 633060; omega, by show slots ≤ 7196923; omega⟩) (fun H locs I => ?_)
  have I := q_swap (q_sa I)
  refine lv_aload_n hx hb d_La_law_551 rfl (q_at hl 2 rfl) ?_
  refine q_kiF hA I (q_runVF (C := "JobTerminalModel") (As := []) (rest := [.int r]) ⟨hx, hb, hml, hown, htg⟩ (c_Mo_tick (sz := H.size) e2) (cwV 0 htg (q_goodVL mw663 mw664 mw665 mw666 mw366) rfl rfl rfl (by decide +kernel) ⟨(Nat.le_of_ble_eq_true rfl), (Nat.le_of_ble_eq_true rfl)⟩) NW_ok hK hN I rfl (q_wsE (by decide) a_M_Mo) rfl (q_sz hl) rfl (Nat.le_of_ble_eq_true rfl) d_La_law_552 ⟨by show cells ≤ 633060; omega, by show slots ≤ 7196923; omega⟩) (fun H locs I => ?_)
  refine lv_icmp_eq (tgt := 711) hx hb d_La_law_555 (by decide) (fun _ => ?_) (fun h => absurd rfl h)
  refine W.widen (Nat.le_succ _) (Nat.le_add_right _ 6) ?_
  exact hend σ2 μ2 g H locs ls HR2 (q_swap I) hl
set_option maxHeartbeats 4000000 in
set_option maxRecDepth 100000 in
theorem k_hang {p : Program} {l : Launch} {e : Env} {s : State} {m : MethodId} {below : List Frame} {meth : Method} {c : Code} {b L : Nat} {xs : Nat → Int32} {D : va_G} {cs : Nat → ClassId} {A : Nat → Prop} {Q : State → Prop} (C0 : q_L0 p l s m c b L xs D cs A) {ad ad2 : Nat → Nat} {oa j B cells slots : Nat} {g : Nat → Int64} {σ μ : q_St} {H : Heap} {locs : List Loc} {ls : Array Slot} (HR : RR B σ μ) (hB : B + 300 < 2 ^ 27) (I : q_I D vwCl A s.heap ((q_ws 33 ad (cC ad cs σ) ++ [(oa, .inl (cs 4, 1, .inr (.inl g)))]) ++ q_ws 23 ad2 (cM ad2 cs μ)) H locs) (hl : q_has ls 7 [(0, .ref b), (1, .ref (ad 0)), (2, .ref (ad2 0)), (3, .ref oa), (4, .int (nI j))]) (hj : j + 5 ≤ L) (hL : L ≤ 2560) (hc : cells + 1 ≤ 633060) (hs : slots + 6 ≤ 7196923)
    (hend : ∀ (σ μ : q_St) (g : Nat → Int64) (H : Heap) (locs : List Loc) (ls : Array Slot), RR (B + 300) σ μ → q_I D vwCl A s.heap ((q_ws 33 ad (cC ad cs σ) ++ [(oa, .inl (cs 4, 1, .inr (.inl g)))]) ++ q_ws 23 ad2 (cM ad2 cs μ)) H locs → q_has ls 7 [(0, .ref b), (1, .ref (ad 0)), (2, .ref (ad2 0)), (3, .ref oa), (4, .int (nI j))] → W p l e room_1 s m #[Value.ref b] below meth c H locs (cells + 1) (slots + 6) Q (F0 m 711 ls [])) : W p l e room_1 s m #[Value.ref b] below meth c H locs cells slots Q (F0 m 560 ls []) := by
  obtain ⟨hx, hb, hml, hown, htg, hX, hbl, hK, hN, hls, hXt, hXz, hnc, hA, hbA⟩ := C0
  obtain ⟨r, σ2, μ2, e1, e2, HR2⟩ := hang_sim HR 
  refine lv_aload_n hx hb d_La_law_560 rfl (q_at hl 1 rfl) ?_
  refine q_kiF hA (q_as I) (q_runVF (C := "JobTerminal") (As := []) (rest := []) ⟨hx, hb, hml, hown, htg⟩ (c_JT_hang (sz := H.size) e1) (cwV 0 htg (q_goodVL mw667 mw668 mw669 mw670 mw184) rfl rfl rfl (by decide +kernel) ⟨(Nat.le_of_ble_eq_true rfl), (Nat.le_of_ble_eq_true rfl)⟩) NW_ok hK hN (q_as I) rfl (q_wsE (by decide) a_C_JT) rfl (q_sz hl) rfl (Nat.le_of_ble_eq_true rfl) d_La_law_561 ⟨by show cells ≤ 633060; omega, by show slots ≤ 7196923; omega⟩) (fun H locs I => ?_)
  have I := q_swap (q_sa I)
  refine lv_aload_n hx hb d_La_law_564 rfl (q_at hl 2 rfl) ?_
  refine q_kiF hA I (q_runVF (C := "JobTerminalModel") (As := []) (rest := [.int r]) ⟨hx, hb, hml, hown, htg⟩ (c_Mo_hang (sz := H.size) e2) (cwV 0 htg (q_goodVL mw671 mw672 mw673 mw674 mw366) rfl rfl rfl (by decide +kernel) ⟨(Nat.le_of_ble_eq_true rfl), (Nat.le_of_ble_eq_true rfl)⟩) NW_ok hK hN I rfl (q_wsE (by decide) a_M_Mo) rfl (q_sz hl) rfl (Nat.le_of_ble_eq_true rfl) d_La_law_565 ⟨by show cells ≤ 633060; omega, by show slots ≤ 7196923; omega⟩) (fun H locs I => ?_)
  refine lv_icmp_eq (tgt := 711) hx hb d_La_law_568 (by decide) (fun _ => ?_) (fun h => absurd rfl h)
  refine W.widen (Nat.le_succ _) (Nat.le_add_right _ 6) ?_
  exact hend σ2 μ2 g H locs ls HR2 (q_swap I) hl
set_option maxHeartbeats 4000000 in
set_option maxRecDepth 100000 in
theorem k_foreground {p : Program} {l : Launch} {e : Env} {s : State} {m : MethodId} {below : List Frame} {meth : Method} {c : Code} {b L : Nat} {xs : Nat → Int32} {D : va_G} {cs : Nat → ClassId} {A : Nat → Prop} {Q : State → Prop} (C0 : q_L0 p l s m c b L xs D cs A) {ad ad2 : Nat → Nat} {oa j B cells slots : Nat} {g : Nat → Int64} {σ μ : q_St} {H : Heap} {locs : List Loc} {ls : Array Slot} (HR : RR B σ μ) (hB : B + 300 < 2 ^ 27) (I : q_I D vwCl A s.heap ((q_ws 33 ad (cC ad cs σ) ++ [(oa, .inl (cs 4, 1, .inr (.inl g)))]) ++ q_ws 23 ad2 (cM ad2 cs μ)) H locs) (hl : q_has ls 7 [(0, .ref b), (1, .ref (ad 0)), (2, .ref (ad2 0)), (3, .ref oa), (4, .int (nI j))]) (hj : j + 5 ≤ L) (hL : L ≤ 2560) (hc : cells + 1 ≤ 633060) (hs : slots + 6 ≤ 7196923)
    (hend : ∀ (σ μ : q_St) (g : Nat → Int64) (H : Heap) (locs : List Loc) (ls : Array Slot), RR (B + 300) σ μ → q_I D vwCl A s.heap ((q_ws 33 ad (cC ad cs σ) ++ [(oa, .inl (cs 4, 1, .inr (.inl g)))]) ++ q_ws 23 ad2 (cM ad2 cs μ)) H locs → q_has ls 7 [(0, .ref b), (1, .ref (ad 0)), (2, .ref (ad2 0)), (3, .ref oa), (4, .int (nI j))] → W p l e room_1 s m #[Value.ref b] below meth c H locs (cells + 1) (slots + 6) Q (F0 m 711 ls [])) : W p l e room_1 s m #[Value.ref b] below meth c H locs cells slots Q (F0 m 573 ls []) := by
  obtain ⟨hx, hb, hml, hown, htg, hX, hbl, hK, hN, hls, hXt, hXz, hnc, hA, hbA⟩ := C0
  obtain ⟨r, σ2, μ2, e1, e2, HR2⟩ := foreground_sim HR 
  refine lv_aload_n hx hb d_La_law_573 rfl (q_at hl 1 rfl) ?_
  refine q_kiF hA (q_as I) (q_runVF (C := "JobTerminal") (As := []) (rest := []) ⟨hx, hb, hml, hown, htg⟩ (c_JT_foreground (sz := H.size) e1) (cwV 0 htg (q_goodVL mw675 mw676 mw677 mw678 mw184) rfl rfl rfl (by decide +kernel) ⟨(Nat.le_of_ble_eq_true rfl), (Nat.le_of_ble_eq_true rfl)⟩) NW_ok hK hN (q_as I) rfl (q_wsE (by decide) a_C_JT) rfl (q_sz hl) rfl (Nat.le_of_ble_eq_true rfl) d_La_law_574 ⟨by show cells ≤ 633060; omega, by show slots ≤ 7196923; omega⟩) (fun H locs I => ?_)
  have I := q_swap (q_sa I)
  refine lv_aload_n hx hb d_La_law_577 rfl (q_at hl 2 rfl) ?_
  refine q_kiF hA I (q_runVF (C := "JobTerminalModel") (As := []) (rest := [.int r]) ⟨hx, hb, hml, hown, htg⟩ (c_Mo_foreground (sz := H.size) e2) (cwV 0 htg (q_goodVL mw679 mw680 mw681 mw682 mw366) rfl rfl rfl (by decide +kernel) ⟨(Nat.le_of_ble_eq_true rfl), (Nat.le_of_ble_eq_true rfl)⟩) NW_ok hK hN I rfl (q_wsE (by decide) a_M_Mo) rfl (q_sz hl) rfl (Nat.le_of_ble_eq_true rfl) d_La_law_578 ⟨by show cells ≤ 633060; omega, by show slots ≤ 7196923; omega⟩) (fun H locs I => ?_)
  refine lv_icmp_eq (tgt := 711) hx hb d_La_law_581 (by decide) (fun _ => ?_) (fun h => absurd rfl h)
  refine W.widen (Nat.le_succ _) (Nat.le_add_right _ 6) ?_
  exact hend σ2 μ2 g H locs ls HR2 (q_swap I) hl
set_option maxHeartbeats 4000000 in
set_option maxRecDepth 100000 in
theorem k_job {p : Program} {l : Launch} {e : Env} {s : State} {m : MethodId} {below : List Frame} {meth : Method} {c : Code} {b L : Nat} {xs : Nat → Int32} {D : va_G} {cs : Nat → ClassId} {A : Nat → Prop} {Q : State → Prop} (C0 : q_L0 p l s m c b L xs D cs A) {ad ad2 : Nat → Nat} {oa j B cells slots : Nat} {g : Nat → Int64} {σ μ : q_St} {H : Heap} {locs : List Loc} {ls : Array Slot} (HR : RR B σ μ) (hB : B + 300 < 2 ^ 27) (I : q_I D vwCl A s.heap ((q_ws 33 ad (cC ad cs σ) ++ [(oa, .inl (cs 4, 1, .inr (.inl g)))]) ++ q_ws 23 ad2 (cM ad2 cs μ)) H locs) (hl : q_has ls 7 [(0, .ref b), (1, .ref (ad 0)), (2, .ref (ad2 0)), (3, .ref oa), (4, .int (nI j))]) (hj : j + 5 ≤ L) (hL : L ≤ 2560) (hc : cells + 1 ≤ 633060) (hs : slots + 6 ≤ 7196923)
    (hend : ∀ (σ μ : q_St) (g : Nat → Int64) (H : Heap) (locs : List Loc) (ls : Array Slot), RR (B + 300) σ μ → q_I D vwCl A s.heap ((q_ws 33 ad (cC ad cs σ) ++ [(oa, .inl (cs 4, 1, .inr (.inl g)))]) ++ q_ws 23 ad2 (cM ad2 cs μ)) H locs → q_has ls 7 [(0, .ref b), (1, .ref (ad 0)), (2, .ref (ad2 0)), (3, .ref oa), (4, .int (nI j))] → W p l e room_1 s m #[Value.ref b] below meth c H locs (cells + 1) (slots + 6) Q (F0 m 711 ls [])) : W p l e room_1 s m #[Value.ref b] below meth c H locs cells slots Q (F0 m 586 ls []) := by
  obtain ⟨hx, hb, hml, hown, htg, hX, hbl, hK, hN, hls, hXt, hXz, hnc, hA, hbA⟩ := C0
  obtain ⟨r, σ2, μ2, e1, e2, HR2⟩ := job_sim HR ((xs (nI j + 1).toNatClampNeg))
  refine lv_aload_n hx hb d_La_law_586 rfl (q_at hl 1 rfl) ?_
  refine lv_aload_n hx hb d_La_law_587 rfl (q_at hl 0 rfl) ?_
  refine lv_iload hx hb d_La_law_588 (q_at hl 4 rfl) ?_
  refine lv_iconst (v := 1) hx hb d_La_law_590 (by decide) ?_
  refine lv_iadd hx hb d_La_law_591 ?_
  refine va_sld hx hb hX hbl hbA I.2.2 (show vp_in (nI j + 1) L from q_ix (k := 1) hj hL (by decide)) d_La_law_592 ?_
  refine q_kiF hA (q_as I) (q_runVF (C := "JobTerminal") (As := [.int (xs (nI j + 1).toNatClampNeg)]) (rest := []) ⟨hx, hb, hml, hown, htg⟩ (c_JT_job (sz := H.size) e1) (cwV 1 htg (q_goodVL mw683 mw684 mw685 mw686 mw184) rfl rfl rfl (by decide +kernel) ⟨(Nat.le_of_ble_eq_true rfl), (Nat.le_of_ble_eq_true rfl)⟩) NW_ok hK hN (q_as I) rfl (q_wsE (by decide) a_C_JT) rfl (q_sz hl) rfl (Nat.le_of_ble_eq_true rfl) d_La_law_593 ⟨by show cells ≤ 633060; omega, by show slots ≤ 7196923; omega⟩) (fun H locs I => ?_)
  have I := q_swap (q_sa I)
  refine lv_aload_n hx hb d_La_law_596 rfl (q_at hl 2 rfl) ?_
  refine lv_aload_n hx hb d_La_law_597 rfl (q_at hl 0 rfl) ?_
  refine lv_iload hx hb d_La_law_598 (q_at hl 4 rfl) ?_
  refine lv_iconst (v := 1) hx hb d_La_law_600 (by decide) ?_
  refine lv_iadd hx hb d_La_law_601 ?_
  refine va_sld hx hb hX hbl hbA I.2.2 (show vp_in (nI j + 1) L from q_ix (k := 1) hj hL (by decide)) d_La_law_602 ?_
  refine q_kiF hA I (q_runVF (C := "JobTerminalModel") (As := [.int (xs (nI j + 1).toNatClampNeg)]) (rest := [.int r]) ⟨hx, hb, hml, hown, htg⟩ (c_Mo_job (sz := H.size) e2) (cwV 1 htg (q_goodVL mw687 mw688 mw689 mw690 mw366) rfl rfl rfl (by decide +kernel) ⟨(Nat.le_of_ble_eq_true rfl), (Nat.le_of_ble_eq_true rfl)⟩) NW_ok hK hN I rfl (q_wsE (by decide) a_M_Mo) rfl (q_sz hl) rfl (Nat.le_of_ble_eq_true rfl) d_La_law_603 ⟨by show cells ≤ 633060; omega, by show slots ≤ 7196923; omega⟩) (fun H locs I => ?_)
  refine lv_icmp_eq (tgt := 711) hx hb d_La_law_606 (by decide) (fun _ => ?_) (fun h => absurd rfl h)
  refine W.widen (Nat.le_succ _) (Nat.le_add_right _ 6) ?_
  exact hend σ2 μ2 g H locs ls HR2 (q_swap I) hl
set_option maxHeartbeats 4000000 in
set_option maxRecDepth 100000 in
theorem k_process {p : Program} {l : Launch} {e : Env} {s : State} {m : MethodId} {below : List Frame} {meth : Method} {c : Code} {b L : Nat} {xs : Nat → Int32} {D : va_G} {cs : Nat → ClassId} {A : Nat → Prop} {Q : State → Prop} (C0 : q_L0 p l s m c b L xs D cs A) {ad ad2 : Nat → Nat} {oa j B cells slots : Nat} {g : Nat → Int64} {σ μ : q_St} {H : Heap} {locs : List Loc} {ls : Array Slot} (HR : RR B σ μ) (hB : B + 300 < 2 ^ 27) (I : q_I D vwCl A s.heap ((q_ws 33 ad (cC ad cs σ) ++ [(oa, .inl (cs 4, 1, .inr (.inl g)))]) ++ q_ws 23 ad2 (cM ad2 cs μ)) H locs) (hl : q_has ls 7 [(0, .ref b), (1, .ref (ad 0)), (2, .ref (ad2 0)), (3, .ref oa), (4, .int (nI j))]) (hj : j + 5 ≤ L) (hL : L ≤ 2560) (hc : cells + 1 ≤ 633060) (hs : slots + 6 ≤ 7196923)
    (hend : ∀ (σ μ : q_St) (g : Nat → Int64) (H : Heap) (locs : List Loc) (ls : Array Slot), RR (B + 300) σ μ → q_I D vwCl A s.heap ((q_ws 33 ad (cC ad cs σ) ++ [(oa, .inl (cs 4, 1, .inr (.inl g)))]) ++ q_ws 23 ad2 (cM ad2 cs μ)) H locs → q_has ls 7 [(0, .ref b), (1, .ref (ad 0)), (2, .ref (ad2 0)), (3, .ref oa), (4, .int (nI j))] → W p l e room_1 s m #[Value.ref b] below meth c H locs (cells + 1) (slots + 6) Q (F0 m 711 ls [])) : W p l e room_1 s m #[Value.ref b] below meth c H locs cells slots Q (F0 m 611 ls []) := by
  obtain ⟨hx, hb, hml, hown, htg, hX, hbl, hK, hN, hls, hXt, hXz, hnc, hA, hbA⟩ := C0
  obtain ⟨r, σ2, μ2, e1, e2, HR2⟩ := process_sim HR ((xs (nI j + 1).toNatClampNeg)) ((xs (nI j + 2).toNatClampNeg))
  refine lv_aload_n hx hb d_La_law_611 rfl (q_at hl 1 rfl) ?_
  refine lv_aload_n hx hb d_La_law_612 rfl (q_at hl 0 rfl) ?_
  refine lv_iload hx hb d_La_law_613 (q_at hl 4 rfl) ?_
  refine lv_iconst (v := 1) hx hb d_La_law_615 (by decide) ?_
  refine lv_iadd hx hb d_La_law_616 ?_
  refine va_sld hx hb hX hbl hbA I.2.2 (show vp_in (nI j + 1) L from q_ix (k := 1) hj hL (by decide)) d_La_law_617 ?_
  refine lv_aload_n hx hb d_La_law_618 rfl (q_at hl 0 rfl) ?_
  refine lv_iload hx hb d_La_law_619 (q_at hl 4 rfl) ?_
  refine lv_iconst (v := 2) hx hb d_La_law_621 (by decide) ?_
  refine lv_iadd hx hb d_La_law_622 ?_
  refine va_sld hx hb hX hbl hbA I.2.2 (show vp_in (nI j + 2) L from q_ix (k := 2) hj hL (by decide)) d_La_law_623 ?_
  refine q_kiF hA (q_as I) (q_runVF (C := "JobTerminal") (As := [.int (xs (nI j + 1).toNatClampNeg), .int (xs (nI j + 2).toNatClampNeg)]) (rest := []) ⟨hx, hb, hml, hown, htg⟩ (c_JT_process (sz := H.size) e1) (cwV 2 htg (q_goodVL mw691 mw692 mw693 mw694 mw184) rfl rfl rfl (by decide +kernel) ⟨(Nat.le_of_ble_eq_true rfl), (Nat.le_of_ble_eq_true rfl)⟩) NW_ok hK hN (q_as I) rfl (q_wsE (by decide) a_C_JT) rfl (q_sz hl) rfl (Nat.le_of_ble_eq_true rfl) d_La_law_624 ⟨by show cells ≤ 633060; omega, by show slots ≤ 7196923; omega⟩) (fun H locs I => ?_)
  have I := q_swap (q_sa I)
  refine lv_aload_n hx hb d_La_law_627 rfl (q_at hl 2 rfl) ?_
  refine lv_aload_n hx hb d_La_law_628 rfl (q_at hl 0 rfl) ?_
  refine lv_iload hx hb d_La_law_629 (q_at hl 4 rfl) ?_
  refine lv_iconst (v := 1) hx hb d_La_law_631 (by decide) ?_
  refine lv_iadd hx hb d_La_law_632 ?_
  refine va_sld hx hb hX hbl hbA I.2.2 (show vp_in (nI j + 1) L from q_ix (k := 1) hj hL (by decide)) d_La_law_633 ?_
  refine lv_aload_n hx hb d_La_law_634 rfl (q_at hl 0 rfl) ?_
  refine lv_iload hx hb d_La_law_635 (q_at hl 4 rfl) ?_
  refine lv_iconst (v := 2) hx hb d_La_law_637 (by decide) ?_
  refine lv_iadd hx hb d_La_law_638 ?_
  refine va_sld hx hb hX hbl hbA I.2.2 (show vp_in (nI j + 2) L from q_ix (k := 2) hj hL (by decide)) d_La_law_639 ?_
  refine q_kiF hA I (q_runVF (C := "JobTerminalModel") (As := [.int (xs (nI j + 1).toNatClampNeg), .int (xs (nI j + 2).toNatClampNeg)]) (rest := [.int r]) ⟨hx, hb, hml, hown, htg⟩ (c_Mo_process (sz := H.size) e2) (cwV 2 htg (q_goodVL mw695 mw696 mw697 mw698 mw366) rfl rfl rfl (by decide +kernel) ⟨(Nat.le_of_ble_eq_true rfl), (Nat.le_of_ble_eq_true rfl)⟩) NW_ok hK hN I rfl (q_wsE (by decide) a_M_Mo) rfl (q_sz hl) rfl (Nat.le_of_ble_eq_true rfl) d_La_law_640 ⟨by show cells ≤ 633060; omega, by show slots ≤ 7196923; omega⟩) (fun H locs I => ?_)
  refine lv_icmp_eq (tgt := 711) hx hb d_La_law_643 (by decide) (fun _ => ?_) (fun h => absurd rfl h)
  refine W.widen (Nat.le_succ _) (Nat.le_add_right _ 6) ?_
  exact hend σ2 μ2 g H locs ls HR2 (q_swap I) hl
set_option maxHeartbeats 4000000 in
set_option maxRecDepth 100000 in
theorem k_shown {p : Program} {l : Launch} {e : Env} {s : State} {m : MethodId} {below : List Frame} {meth : Method} {c : Code} {b L : Nat} {xs : Nat → Int32} {D : va_G} {cs : Nat → ClassId} {A : Nat → Prop} {Q : State → Prop} (C0 : q_L0 p l s m c b L xs D cs A) {ad ad2 : Nat → Nat} {oa j B cells slots : Nat} {g : Nat → Int64} {σ μ : q_St} {H : Heap} {locs : List Loc} {ls : Array Slot} (HR : RR B σ μ) (hB : B + 300 < 2 ^ 27) (I : q_I D vwCl A s.heap ((q_ws 33 ad (cC ad cs σ) ++ [(oa, .inl (cs 4, 1, .inr (.inl g)))]) ++ q_ws 23 ad2 (cM ad2 cs μ)) H locs) (hl : q_has ls 7 [(0, .ref b), (1, .ref (ad 0)), (2, .ref (ad2 0)), (3, .ref oa), (4, .int (nI j))]) (hj : j + 5 ≤ L) (hL : L ≤ 2560) (hc : cells + 1 ≤ 633060) (hs : slots + 6 ≤ 7196923)
    (hend : ∀ (σ μ : q_St) (g : Nat → Int64) (H : Heap) (locs : List Loc) (ls : Array Slot), RR (B + 300) σ μ → q_I D vwCl A s.heap ((q_ws 33 ad (cC ad cs σ) ++ [(oa, .inl (cs 4, 1, .inr (.inl g)))]) ++ q_ws 23 ad2 (cM ad2 cs μ)) H locs → q_has ls 7 [(0, .ref b), (1, .ref (ad 0)), (2, .ref (ad2 0)), (3, .ref oa), (4, .int (nI j))] → W p l e room_1 s m #[Value.ref b] below meth c H locs (cells + 1) (slots + 6) Q (F0 m 711 ls [])) : W p l e room_1 s m #[Value.ref b] below meth c H locs cells slots Q (F0 m 648 ls []) := by
  obtain ⟨hx, hb, hml, hown, htg, hX, hbl, hK, hN, hls, hXt, hXz, hnc, hA, hbA⟩ := C0
  obtain ⟨r, σ2, μ2, e1, e2, HR2⟩ := shown_sim HR 
  refine lv_aload_n hx hb d_La_law_648 rfl (q_at hl 1 rfl) ?_
  refine q_kiF hA (q_as I) (q_runVF (C := "JobTerminal") (As := []) (rest := []) ⟨hx, hb, hml, hown, htg⟩ (c_JT_shown (sz := H.size) e1) (cwV 0 htg (q_goodVL mw699 mw700 mw701 mw702 mw184) rfl rfl rfl (by decide +kernel) ⟨(Nat.le_of_ble_eq_true rfl), (Nat.le_of_ble_eq_true rfl)⟩) NW_ok hK hN (q_as I) rfl (q_wsE (by decide) a_C_JT) rfl (q_sz hl) rfl (Nat.le_of_ble_eq_true rfl) d_La_law_649 ⟨by show cells ≤ 633060; omega, by show slots ≤ 7196923; omega⟩) (fun H locs I => ?_)
  have I := q_swap (q_sa I)
  refine lv_aload_n hx hb d_La_law_652 rfl (q_at hl 2 rfl) ?_
  refine q_kiF hA I (q_runVF (C := "JobTerminalModel") (As := []) (rest := [.int r]) ⟨hx, hb, hml, hown, htg⟩ (c_Mo_shown (sz := H.size) e2) (cwV 0 htg (q_goodVL mw703 mw704 mw705 mw706 mw366) rfl rfl rfl (by decide +kernel) ⟨(Nat.le_of_ble_eq_true rfl), (Nat.le_of_ble_eq_true rfl)⟩) NW_ok hK hN I rfl (q_wsE (by decide) a_M_Mo) rfl (q_sz hl) rfl (Nat.le_of_ble_eq_true rfl) d_La_law_653 ⟨by show cells ≤ 633060; omega, by show slots ≤ 7196923; omega⟩) (fun H locs I => ?_)
  refine lv_icmp_eq (tgt := 711) hx hb d_La_law_656 (by decide) (fun _ => ?_) (fun h => absurd rfl h)
  refine W.widen (Nat.le_succ _) (Nat.le_add_right _ 6) ?_
  exact hend σ2 μ2 g H locs ls HR2 (q_swap I) hl
set_option maxHeartbeats 4000000 in
set_option maxRecDepth 100000 in
theorem k_screen {p : Program} {l : Launch} {e : Env} {s : State} {m : MethodId} {below : List Frame} {meth : Method} {c : Code} {b L : Nat} {xs : Nat → Int32} {D : va_G} {cs : Nat → ClassId} {A : Nat → Prop} {Q : State → Prop} (C0 : q_L0 p l s m c b L xs D cs A) {ad ad2 : Nat → Nat} {oa j B cells slots : Nat} {g : Nat → Int64} {σ μ : q_St} {H : Heap} {locs : List Loc} {ls : Array Slot} (HR : RR B σ μ) (hB : B + 300 < 2 ^ 27) (I : q_I D vwCl A s.heap ((q_ws 33 ad (cC ad cs σ) ++ [(oa, .inl (cs 4, 1, .inr (.inl g)))]) ++ q_ws 23 ad2 (cM ad2 cs μ)) H locs) (hl : q_has ls 7 [(0, .ref b), (1, .ref (ad 0)), (2, .ref (ad2 0)), (3, .ref oa), (4, .int (nI j))]) (hj : j + 5 ≤ L) (hL : L ≤ 2560) (hc : cells + 1 ≤ 633060) (hs : slots + 6 ≤ 7196923)
    (hend : ∀ (σ μ : q_St) (g : Nat → Int64) (H : Heap) (locs : List Loc) (ls : Array Slot), RR (B + 300) σ μ → q_I D vwCl A s.heap ((q_ws 33 ad (cC ad cs σ) ++ [(oa, .inl (cs 4, 1, .inr (.inl g)))]) ++ q_ws 23 ad2 (cM ad2 cs μ)) H locs → q_has ls 7 [(0, .ref b), (1, .ref (ad 0)), (2, .ref (ad2 0)), (3, .ref oa), (4, .int (nI j))] → W p l e room_1 s m #[Value.ref b] below meth c H locs (cells + 1) (slots + 6) Q (F0 m 711 ls [])) : W p l e room_1 s m #[Value.ref b] below meth c H locs cells slots Q (F0 m 661 ls []) := by
  obtain ⟨hx, hb, hml, hown, htg, hX, hbl, hK, hN, hls, hXt, hXz, hnc, hA, hbA⟩ := C0
  obtain ⟨r, σ2, μ2, e1, e2, HR2⟩ := screen_sim (by omega) HR ((xs (nI j + 1).toNatClampNeg))
  refine lv_aload_n hx hb d_La_law_661 rfl (q_at hl 1 rfl) ?_
  refine lv_aload_n hx hb d_La_law_662 rfl (q_at hl 0 rfl) ?_
  refine lv_iload hx hb d_La_law_663 (q_at hl 4 rfl) ?_
  refine lv_iconst (v := 1) hx hb d_La_law_665 (by decide) ?_
  refine lv_iadd hx hb d_La_law_666 ?_
  refine va_sld hx hb hX hbl hbA I.2.2 (show vp_in (nI j + 1) L from q_ix (k := 1) hj hL (by decide)) d_La_law_667 ?_
  refine q_kiF hA (q_as I) (q_runVF (C := "JobTerminal") (As := [.int (xs (nI j + 1).toNatClampNeg)]) (rest := []) ⟨hx, hb, hml, hown, htg⟩ (c_JT_screen (sz := H.size) e1) (cwV 1 htg (q_goodVL mw707 mw708 mw709 mw710 mw184) rfl rfl rfl (by decide +kernel) ⟨(Nat.le_of_ble_eq_true rfl), (Nat.le_of_ble_eq_true rfl)⟩) NW_ok hK hN (q_as I) rfl (q_wsE (by decide) a_C_JT) rfl (q_sz hl) rfl (Nat.le_of_ble_eq_true rfl) d_La_law_668 ⟨by show cells ≤ 633060; omega, by show slots ≤ 7196923; omega⟩) (fun H locs I => ?_)
  have I := q_swap (q_sa I)
  refine lv_aload_n hx hb d_La_law_671 rfl (q_at hl 2 rfl) ?_
  refine lv_aload_n hx hb d_La_law_672 rfl (q_at hl 0 rfl) ?_
  refine lv_iload hx hb d_La_law_673 (q_at hl 4 rfl) ?_
  refine lv_iconst (v := 1) hx hb d_La_law_675 (by decide) ?_
  refine lv_iadd hx hb d_La_law_676 ?_
  refine va_sld hx hb hX hbl hbA I.2.2 (show vp_in (nI j + 1) L from q_ix (k := 1) hj hL (by decide)) d_La_law_677 ?_
  refine q_kiF hA I (q_runVF (C := "JobTerminalModel") (As := [.int (xs (nI j + 1).toNatClampNeg)]) (rest := [.int r]) ⟨hx, hb, hml, hown, htg⟩ (c_Mo_screen (sz := H.size) e2) (cwV 1 htg (q_goodVL mw711 mw712 mw713 mw714 mw366) rfl rfl rfl (by decide +kernel) ⟨(Nat.le_of_ble_eq_true rfl), (Nat.le_of_ble_eq_true rfl)⟩) NW_ok hK hN I rfl (q_wsE (by decide) a_M_Mo) rfl (q_sz hl) rfl (Nat.le_of_ble_eq_true rfl) d_La_law_678 ⟨by show cells ≤ 633060; omega, by show slots ≤ 7196923; omega⟩) (fun H locs I => ?_)
  refine lv_icmp_eq (tgt := 711) hx hb d_La_law_681 (by decide) (fun _ => ?_) (fun h => absurd rfl h)
  refine W.widen (Nat.le_succ _) (Nat.le_add_right _ 6) ?_
  exact hend σ2 μ2 g H locs ls HR2 (q_swap I) hl
set_option maxHeartbeats 4000000 in
set_option maxRecDepth 100000 in
theorem k_held {p : Program} {l : Launch} {e : Env} {s : State} {m : MethodId} {below : List Frame} {meth : Method} {c : Code} {b L : Nat} {xs : Nat → Int32} {D : va_G} {cs : Nat → ClassId} {A : Nat → Prop} {Q : State → Prop} (C0 : q_L0 p l s m c b L xs D cs A) {ad ad2 : Nat → Nat} {oa j B cells slots : Nat} {g : Nat → Int64} {σ μ : q_St} {H : Heap} {locs : List Loc} {ls : Array Slot} (HR : RR B σ μ) (hB : B + 300 < 2 ^ 27) (I : q_I D vwCl A s.heap ((q_ws 33 ad (cC ad cs σ) ++ [(oa, .inl (cs 4, 1, .inr (.inl g)))]) ++ q_ws 23 ad2 (cM ad2 cs μ)) H locs) (hl : q_has ls 7 [(0, .ref b), (1, .ref (ad 0)), (2, .ref (ad2 0)), (3, .ref oa), (4, .int (nI j))]) (hj : j + 5 ≤ L) (hL : L ≤ 2560) (hc : cells + 1 ≤ 633060) (hs : slots + 6 ≤ 7196923)
    (hend : ∀ (σ μ : q_St) (g : Nat → Int64) (H : Heap) (locs : List Loc) (ls : Array Slot), RR (B + 300) σ μ → q_I D vwCl A s.heap ((q_ws 33 ad (cC ad cs σ) ++ [(oa, .inl (cs 4, 1, .inr (.inl g)))]) ++ q_ws 23 ad2 (cM ad2 cs μ)) H locs → q_has ls 7 [(0, .ref b), (1, .ref (ad 0)), (2, .ref (ad2 0)), (3, .ref oa), (4, .int (nI j))] → W p l e room_1 s m #[Value.ref b] below meth c H locs (cells + 1) (slots + 6) Q (F0 m 711 ls [])) : W p l e room_1 s m #[Value.ref b] below meth c H locs cells slots Q (F0 m 686 ls []) := by
  obtain ⟨hx, hb, hml, hown, htg, hX, hbl, hK, hN, hls, hXt, hXz, hnc, hA, hbA⟩ := C0
  obtain ⟨r, σ2, μ2, e1, e2, HR2⟩ := held_sim HR ((xs (nI j + 1).toNatClampNeg))
  refine lv_aload_n hx hb d_La_law_686 rfl (q_at hl 1 rfl) ?_
  refine lv_aload_n hx hb d_La_law_687 rfl (q_at hl 0 rfl) ?_
  refine lv_iload hx hb d_La_law_688 (q_at hl 4 rfl) ?_
  refine lv_iconst (v := 1) hx hb d_La_law_690 (by decide) ?_
  refine lv_iadd hx hb d_La_law_691 ?_
  refine va_sld hx hb hX hbl hbA I.2.2 (show vp_in (nI j + 1) L from q_ix (k := 1) hj hL (by decide)) d_La_law_692 ?_
  refine q_kiF hA (q_as I) (q_runVF (C := "JobTerminal") (As := [.int (xs (nI j + 1).toNatClampNeg)]) (rest := []) ⟨hx, hb, hml, hown, htg⟩ (c_JT_held (sz := H.size) e1) (cwV 1 htg (q_goodVL mw715 mw716 mw717 mw718 mw184) rfl rfl rfl (by decide +kernel) ⟨(Nat.le_of_ble_eq_true rfl), (Nat.le_of_ble_eq_true rfl)⟩) NW_ok hK hN (q_as I) rfl (q_wsE (by decide) a_C_JT) rfl (q_sz hl) rfl (Nat.le_of_ble_eq_true rfl) d_La_law_693 ⟨by show cells ≤ 633060; omega, by show slots ≤ 7196923; omega⟩) (fun H locs I => ?_)
  have I := q_swap (q_sa I)
  refine lv_aload_n hx hb d_La_law_696 rfl (q_at hl 2 rfl) ?_
  refine lv_aload_n hx hb d_La_law_697 rfl (q_at hl 0 rfl) ?_
  refine lv_iload hx hb d_La_law_698 (q_at hl 4 rfl) ?_
  refine lv_iconst (v := 1) hx hb d_La_law_700 (by decide) ?_
  refine lv_iadd hx hb d_La_law_701 ?_
  refine va_sld hx hb hX hbl hbA I.2.2 (show vp_in (nI j + 1) L from q_ix (k := 1) hj hL (by decide)) d_La_law_702 ?_
  refine q_kiF hA I (q_runVF (C := "JobTerminalModel") (As := [.int (xs (nI j + 1).toNatClampNeg)]) (rest := [.int r]) ⟨hx, hb, hml, hown, htg⟩ (c_Mo_held (sz := H.size) e2) (cwV 1 htg (q_goodVL mw719 mw720 mw721 mw722 mw366) rfl rfl rfl (by decide +kernel) ⟨(Nat.le_of_ble_eq_true rfl), (Nat.le_of_ble_eq_true rfl)⟩) NW_ok hK hN I rfl (q_wsE (by decide) a_M_Mo) rfl (q_sz hl) rfl (Nat.le_of_ble_eq_true rfl) d_La_law_703 ⟨by show cells ≤ 633060; omega, by show slots ≤ 7196923; omega⟩) (fun H locs I => ?_)
  refine lv_icmp_eq (tgt := 711) hx hb d_La_law_706 (by decide) (fun _ => ?_) (fun h => absurd rfl h)
  refine W.widen (Nat.le_succ _) (Nat.le_add_right _ 6) ?_
  exact hend σ2 μ2 g H locs ls HR2 (q_swap I) hl
set_option maxHeartbeats 4000000 in
set_option maxRecDepth 100000 in
theorem law_loop {p : Program} {l : Launch} {e : Env} {s : State} {m : MethodId} {below : List Frame} {meth : Method} {c : Code} {b L : Nat} {xs : Nat → Int32} {D : va_G} {cs : Nat → ClassId} {A : Nat → Prop} {Q : State → Prop} (C0 : q_L0 p l s m c b L xs D cs A) {ad ad2 : Nat → Nat} {oa : Nat} (hL : L ≤ 2560)
    (hret : ∀ (H : Heap) (locs : List Loc) (ls : Array Slot) (i : Nat), i ≤ 512 → (∀ q ∈ locs, A q.base) → W p l e room_1 s m #[Value.ref b] below meth c H locs (57 + i) (1058 + 6 * i) Q (F0 m 717 ls [])) :
    ∀ (k i : Nat) (g : Nat → Int64) (σ μ : q_St) (H : Heap) (locs : List Loc) (ls : Array Slot), L < 5 * i + 5 * (k + 1) → i ≤ 512 → RR (300 * i) σ μ → q_I D vwCl A s.heap ((q_ws 33 ad (cC ad cs σ) ++ [(oa, .inl (cs 4, 1, .inr (.inl g)))]) ++ q_ws 23 ad2 (cM ad2 cs μ)) H locs → q_has ls 7 [(0, .ref b), (1, .ref (ad 0)), (2, .ref (ad2 0)), (3, .ref oa), (4, .int (nI (5 * i)))] → W p l e room_1 s m #[Value.ref b] below meth c H locs (57 + i) (1058 + 6 * i) Q (F0 m 23 ls []) := by
  intro k
  induction k with
  | zero =>
    intro i g σ μ H locs ls hk hi HR I hl
    obtain ⟨hx, hb, hml, hown, htg, hX, hbl, hK, hN, hls, hXt, hXz, hnc, hA, hbA⟩ := C0
    refine lv_iload hx hb d_La_law_23 (q_at hl 4 rfl) ?_
    refine lv_aload_n hx hb d_La_law_25 rfl (q_at hl 0 rfl) ?_
    refine va_slen hx hb hX hbl hbA I.2.2 d_La_law_26 ?_
    refine lv_iconst (v := 5) hx hb d_La_law_27 (by decide) ?_
    refine lv_isub hx hb d_La_law_28 ?_
    refine lv_icmp_gt (tgt := 717) hx hb d_La_law_29 (by decide) (fun _ => hret H locs ls i hi I.2.2.2.2) (fun h => absurd (q_go (i := i) (by omega) (by omega) h) (by omega))
  | succ k ih =>
    intro i g σ μ H locs ls hk hi HR I hl
    have C1 := C0
    obtain ⟨hx, hb, hml, hown, htg, hX, hbl, hK, hN, hls, hXt, hXz, hnc, hA, hbA⟩ := C1
    refine lv_iload hx hb d_La_law_23 (q_at hl 4 rfl) ?_
    refine lv_aload_n hx hb d_La_law_25 rfl (q_at hl 0 rfl) ?_
    refine va_slen hx hb hX hbl hbA I.2.2 d_La_law_26 ?_
    refine lv_iconst (v := 5) hx hb d_La_law_27 (by decide) ?_
    refine lv_isub hx hb d_La_law_28 ?_
    refine lv_icmp_gt (tgt := 717) hx hb d_La_law_29 (by decide) (fun _ => hret H locs ls i hi I.2.2.2.2) (fun h => ?_)
    have hj : 5 * i + 5 ≤ L := q_go (i := i) (by omega) (by omega) h
    have hend : ∀ (σ μ : q_St) (g : Nat → Int64) (H : Heap) (locs : List Loc) (ls : Array Slot), RR (300 * i + 300) σ μ → q_I D vwCl A s.heap ((q_ws 33 ad (cC ad cs σ) ++ [(oa, .inl (cs 4, 1, .inr (.inl g)))]) ++ q_ws 23 ad2 (cM ad2 cs μ)) H locs → q_has ls 7 [(0, .ref b), (1, .ref (ad 0)), (2, .ref (ad2 0)), (3, .ref oa), (4, .int (nI (5 * i)))] → W p l e room_1 s m #[Value.ref b] below meth c H locs (57 + i + 1) (1058 + 6 * i + 6) Q (F0 m 711 ls []) := by
      intro σ μ g H locs ls HR I hl
      refine q_iinc (v := nI (5 * (i + 1))) (lv' := [(4, .int (nI (5 * (i + 1)))), (0, .ref b), (1, .ref (ad 0)), (2, .ref (ad2 0)), (3, .ref oa)]) hx hb d_La_law_711 hl (k := 4) rfl (by show nI (5 * i) + nI 5 = _; rw [nI_add]; rfl) (by decide) rfl (fun ls hl => ?_)
      refine lv_goto (tgt := 23) hx hb d_La_law_714 (by decide) ?_
      exact ih (i + 1) g σ μ H locs ls (by omega) (by omega) HR I (q_hsub hl [1, 2, 3, 4, 0] rfl)
    refine lv_aload_n hx hb d_La_law_32 rfl (q_at hl 0 rfl) ?_
    refine lv_iload hx hb d_La_law_33 (q_at hl 4 rfl) ?_
    refine va_sld hx hb hX hbl hbA I.2.2 (q_in_vp (q_inT (show 5 * i < L by omega) (by omega))) d_La_law_35 ?_
    refine lv_bipush (v := 31) hx hb d_La_law_36 (by decide) ?_
    refine lv_iand hx hb d_La_law_38 ?_
    generalize hxx : xs (nI (5 * i)).toNatClampNeg &&& 31 = x
    by_cases c0 : x = (0 : Int32)
    · refine lv_tableIn (tgt := 120) hx hb d_La_law_39 (by rw [c0] <;> decide) (by rw [c0] <;> decide) (by rw [c0] <;> rfl) (by decide) ?_
      exact k_program C0 HR (by omega) I hl hj hL (by omega) (by omega) hend
    by_cases c1 : x = (1 : Int32)
    · refine lv_tableIn (tgt := 181) hx hb d_La_law_39 (by rw [c1] <;> decide) (by rw [c1] <;> decide) (by rw [c1] <;> rfl) (by decide) ?_
      exact k_flags C0 HR (by omega) I hl hj hL (by omega) (by omega) hend
    by_cases c2 : x = (2 : Int32)
    · refine lv_tableIn (tgt := 206) hx hb d_La_law_39 (by rw [c2] <;> decide) (by rw [c2] <;> decide) (by rw [c2] <;> rfl) (by decide) ?_
      exact k_key C0 HR (by omega) I hl hj hL (by omega) (by omega) hend
    by_cases c3 : x = (3 : Int32)
    · refine lv_tableIn (tgt := 233) hx hb d_La_law_39 (by rw [c3] <;> decide) (by rw [c3] <;> decide) (by rw [c3] <;> rfl) (by decide) ?_
      exact k_launch C0 HR (by omega) I hl hj hL (by omega) (by omega) hend
    by_cases c4 : x = (4 : Int32)
    · refine lv_tableIn (tgt := 329) hx hb d_La_law_39 (by rw [c4] <;> decide) (by rw [c4] <;> decide) (by rw [c4] <;> rfl) (by decide) ?_
      exact k_front C0 HR (by omega) I hl hj hL (by omega) (by omega) hend
    by_cases c5 : x = (5 : Int32)
    · refine lv_tableIn (tgt := 385) hx hb d_La_law_39 (by rw [c5] <;> decide) (by rw [c5] <;> decide) (by rw [c5] <;> rfl) (by decide) ?_
      exact k_back C0 HR (by omega) I hl hj hL (by omega) (by omega) hend
    by_cases c6 : x = (6 : Int32)
    · refine lv_tableIn (tgt := 441) hx hb d_La_law_39 (by rw [c6] <;> decide) (by rw [c6] <;> decide) (by rw [c6] <;> rfl) (by decide) ?_
      exact k_send C0 HR (by omega) I hl hj hL (by omega) (by omega) hend
    by_cases c7 : x = (7 : Int32)
    · refine lv_tableIn (tgt := 509) hx hb d_La_law_39 (by rw [c7] <;> decide) (by rw [c7] <;> decide) (by rw [c7] <;> rfl) (by decide) ?_
      exact k_report C0 HR (by omega) I hl hj hL (by omega) (by omega) hend
    by_cases c8 : x = (8 : Int32)
    · refine lv_tableIn (tgt := 522) hx hb d_La_law_39 (by rw [c8] <;> decide) (by rw [c8] <;> decide) (by rw [c8] <;> rfl) (by decide) ?_
      exact k_step C0 HR (by omega) I hl hj hL (by omega) (by omega) hend
    by_cases c9 : x = (9 : Int32)
    · refine lv_tableIn (tgt := 547) hx hb d_La_law_39 (by rw [c9] <;> decide) (by rw [c9] <;> decide) (by rw [c9] <;> rfl) (by decide) ?_
      exact k_tick C0 HR (by omega) I hl hj hL (by omega) (by omega) hend
    by_cases c10 : x = (10 : Int32)
    · refine lv_tableIn (tgt := 560) hx hb d_La_law_39 (by rw [c10] <;> decide) (by rw [c10] <;> decide) (by rw [c10] <;> rfl) (by decide) ?_
      exact k_hang C0 HR (by omega) I hl hj hL (by omega) (by omega) hend
    by_cases c11 : x = (11 : Int32)
    · refine lv_tableIn (tgt := 573) hx hb d_La_law_39 (by rw [c11] <;> decide) (by rw [c11] <;> decide) (by rw [c11] <;> rfl) (by decide) ?_
      exact k_foreground C0 HR (by omega) I hl hj hL (by omega) (by omega) hend
    by_cases c12 : x = (12 : Int32)
    · refine lv_tableIn (tgt := 586) hx hb d_La_law_39 (by rw [c12] <;> decide) (by rw [c12] <;> decide) (by rw [c12] <;> rfl) (by decide) ?_
      exact k_job C0 HR (by omega) I hl hj hL (by omega) (by omega) hend
    by_cases c13 : x = (13 : Int32)
    · refine lv_tableIn (tgt := 611) hx hb d_La_law_39 (by rw [c13] <;> decide) (by rw [c13] <;> decide) (by rw [c13] <;> rfl) (by decide) ?_
      exact k_process C0 HR (by omega) I hl hj hL (by omega) (by omega) hend
    by_cases c14 : x = (14 : Int32)
    · refine lv_tableIn (tgt := 648) hx hb d_La_law_39 (by rw [c14] <;> decide) (by rw [c14] <;> decide) (by rw [c14] <;> rfl) (by decide) ?_
      exact k_shown C0 HR (by omega) I hl hj hL (by omega) (by omega) hend
    by_cases c15 : x = (15 : Int32)
    · refine lv_tableIn (tgt := 661) hx hb d_La_law_39 (by rw [c15] <;> decide) (by rw [c15] <;> decide) (by rw [c15] <;> rfl) (by decide) ?_
      exact k_screen C0 HR (by omega) I hl hj hL (by omega) (by omega) hend
    by_cases c16 : x = (16 : Int32)
    · refine lv_tableIn (tgt := 686) hx hb d_La_law_39 (by rw [c16] <;> decide) (by rw [c16] <;> decide) (by rw [c16] <;> rfl) (by decide) ?_
      exact k_held C0 HR (by omega) I hl hj hL (by omega) (by omega) hend
    refine lv_tableOut (tgt := 711) hx hb d_La_law_39 (by have := lv_neT (a := 0) c0 (by decide); have := lv_neT (a := 1) c1 (by decide); have := lv_neT (a := 2) c2 (by decide); have := lv_neT (a := 3) c3 (by decide); have := lv_neT (a := 4) c4 (by decide); have := lv_neT (a := 5) c5 (by decide); have := lv_neT (a := 6) c6 (by decide); have := lv_neT (a := 7) c7 (by decide); have := lv_neT (a := 8) c8 (by decide); have := lv_neT (a := 9) c9 (by decide); have := lv_neT (a := 10) c10 (by decide); have := lv_neT (a := 11) c11 (by decide); have := lv_neT (a := 12) c12 (by decide); have := lv_neT (a := 13) c13 (by decide); have := lv_neT (a := 14) c14 (by decide); have := lv_neT (a := 15) c15 (by decide); have := lv_neT (a := 16) c16 (by decide); omega) (by decide) ?_
    refine W.widen (Nat.le_succ _) (Nat.le_add_right _ 6) ?_
    exact hend σ μ g H locs ls (RR_mono (by omega) HR) I hl
