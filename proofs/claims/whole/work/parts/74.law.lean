/-! the law: its world, its loop -/
theorem law_E {s : State} {args : Array Value} (hts : ∀ w ∈ lw_tbl, w.before args s = true) : ∃ E : EV, KK E s ∧ Ao s := by
  have hG : ∀ w ∈ GG, w.before args s = true := fun w hw => hts w (gg_tbl w hw)
  obtain ⟨c0, i0, k0⟩ := u_known (C := RX0) (T := TX0) (N := 2) (n := 2) hG mLY_X0 (hG _ mIS_X0)
  obtain ⟨c1, i1, k1⟩ := u_known (C := RX1) (T := TX1) (N := 4) (n := 4) hG mLY_X1 (hG _ mIS_X1)
  obtain ⟨c2, i2, k2⟩ := u_known (C := RX2) (T := TX2) (N := 3) (n := 3) hG mLY_X2 (hG _ mIS_X2)
  obtain ⟨c3, i3, k3⟩ := u_known (C := RX3) (T := TX3) (N := 13) (n := 13) hG mLY_X3 (hG _ mIS_X3)
  obtain ⟨c4, i4, k4⟩ := u_known (C := RX4) (T := TX4) (N := 4) (n := 4) hG mLY_X4 (hG _ mIS_X4)
  obtain ⟨c5, i5, k5⟩ := u_known (C := RX5) (T := TX5) (N := 2) (n := 2) hG mLY_X5 (hG _ mIS_X5)
  obtain ⟨c6, i6, k6⟩ := u_known (C := RX6) (T := TX6) (N := 3) (n := 3) hG mLY_X6 (hG _ mIS_X6)
  obtain ⟨c7, i7, k7⟩ := u_known (C := RX7) (T := TX7) (N := 7) (n := 7) hG mLY_X7 (hG _ mIS_X7)
  obtain ⟨c8, i8, k8⟩ := u_known (C := RX8) (T := TX8) (N := 20) (n := 20) hG mLY_X8 (hG _ mIS_X8)
  obtain ⟨a0, b0, d0, e0, f0, g0⟩ := Cond.arrayClass_spec (hG _ mAC_int)
  obtain ⟨a1, b1, d1, e1, f1, g1⟩ := Cond.arrayClass_spec (hG _ mAC_long)
  obtain ⟨a2, b2, d2, e2, f2, g2⟩ := Cond.arrayClass_spec (hG _ mAC_boolean)
  have hao : Ao s := va_AO.of (hts _ (List.mem_of_getElem? (i := 173) (by decide +kernel)))
  obtain ⟨comp, a3, b3, h1, h2, h3, h4, h5⟩ := Cond.arrayOver_spec hao
  refine ⟨((fun k => [c0, c1, c2, c3, c4, c5, c6, c7, c8].getD k c0, fun k => [i0, i1, i2, i3, i4, i5, i6, i7, i8].getD k i0), fun k => [a0, a1, a2, a3].getD k a0), ⟨⟨fun c q hq => ?_, fun k q hk => ?_⟩, fun w hw => ?_⟩, hao⟩
  · match c, hq with
    | 0, hq => cases hq; exact k0
    | 1, hq => cases hq; exact k1
    | 2, hq => cases hq; exact k2
    | 3, hq => cases hq; exact k3
    | 4, hq => cases hq; exact k4
    | 5, hq => cases hq; exact k5
    | 6, hq => cases hq; exact k6
    | 7, hq => cases hq; exact k7
    | 8, hq => cases hq; exact k8
    | c + 9, hq => simp [vwCl] at hq
  · match k, hk with
    | 0, hk => cases hk; exact ⟨fun n z => ⟨fun k h => (by cases h), b0, f0, d0, g0⟩, e0⟩
    | 1, hk => cases hk; exact ⟨fun n z => ⟨fun k h => (by cases h), b1, f1, d1, g1⟩, e1⟩
    | 2, hk => cases hk; exact ⟨fun n z => ⟨fun k h => (by cases h), b2, f2, d2, g2⟩, e2⟩
    | 3, hk => cases hk; exact ⟨fun n z => ⟨fun k h => (by cases h), b3, h3, comp, h4⟩, b3, comp, h3, h4, h1, h5⟩
    | k + 4, hk => simp [tyL] at hk
  · obtain ⟨x, i, y, h, rfl⟩ := nestL_form w hw
    exact va_Nw.of rfl (hts _ (nestL_in _ hw))
theorem W7_fst (E : EV) (d : D7) (x x' : S7) : (W7 E d x').map Prod.fst = (W7 E d x).map Prod.fst := rfl
theorem W8_fst (E : EV) (a : Nat → Nat) (y y' : S8) : (W8 E a y').map Prod.fst = (W8 E a y).map Prod.fst := rfl
set_option maxHeartbeats 4000000 in
set_option maxRecDepth 100000 in
theorem case_type {p : Program} {e : Env} {s : State} {m : MethodId} {below : List Frame} {meth : Method} {c : Code} (l : Launch) {b L : Nat} {xs : Nat → Int32} (C0 : lw_At p s m meth c b L xs) {E : EV} (hC : Cx p E s m #[Value.ref b] meth c cL_law 4 RL ret) (d : D7) (a : Nat → Nat) {i : Nat} (hi : i + 4 ≤ L) (hL : L ≤ 2048) {x : S7} {y : S8} (hR : Rel x y) {H : Heap} {locs : List Loc} {ls : Array Slot} (hN : Nw E s (fun q => s.heap.size ≤ q) (W7 E d x ++ W8 E a y) H locs) (hl : lv_has ls 4 [(0, .ref b), (1, .ref (d.c 0)), (2, .ref (a 0)), (3, .int (nI i))])
    (K : ∀ (x' : S7) (y' : S8) (H : Heap) (locs : List Loc) (ls : Array Slot), Rel x' y' → Nw E s (fun q => s.heap.size ≤ q) (W7 E d x' ++ W8 E a y') H locs → lv_has ls 4 [(0, .ref b), (1, .ref (d.c 0)), (2, .ref (a 0)), (3, .int (nI i))] → W p l e room_1 s m #[Value.ref b] below meth c H locs 600000 7302250 (lw_Z below #[Value.ref b] s) (F0 m 776 ls [])) : W p l e room_1 s m #[Value.ref b] below meth c H locs 600000 7302250 (lw_Z below #[Value.ref b] s) (F0 m 144 ls []) := by
  obtain ⟨hx, hb, hr, hml, hown, hts, hX, hbl, hlocks, hgv⟩ := id C0
  have hbA : ¬ (fun q : Nat => s.heap.size ≤ q) b := Nat.not_le.mpr hbl
  obtain ⟨x', y', v, c7, c8, hR'⟩ := q_type l E d a x y (xs (nI (i + 1)).toNatClampNeg) hR
  refine lv_aload_n hx hb dL_law_144 rfl (lv_at hl 1 rfl) ?_
  refine lv_aload_n hx hb dL_law_145 rfl (lv_at hl 0 rfl) ?_
  refine lv_iload_n hx hb dL_law_146 rfl (lv_at hl 3 rfl) ?_
  refine lv_iconst (v := 1) hx hb dL_law_147 rfl ?_
  refine lv_iadd hx hb dL_law_148 ?_
  refine lv_topi (fun w ew => ?_)
  obtain rfl : w = nI (i + 1) := ew.trans (nI_add i 1)
  refine va_sld hx hb hX hbl hbA hN.2.2 (vp_in_nI (by omega) (by omega)) dL_law_149 ?_
  refine n_callVi (ws' := W7 E d x' ++ W8 E a y) hC hN c7 cy_X7_type mML_L_13 mIM_X7_type mSE_X7_type rfl rfl (k := 0) rfl (List.Perm.refl _) (List.Perm.refl _) (W7_fst E d x x') rfl hl.1 rfl (Nat.le_of_ble_eq_true rfl) dL_law_150 ⟨Nat.le_of_ble_eq_true rfl, Nat.le_of_ble_eq_true rfl⟩ ⟨Nat.le_of_ble_eq_true rfl, Nat.le_of_ble_eq_true rfl⟩ (fun H locs hN => ?_)
  refine lv_aload_n hx hb dL_law_153 rfl (lv_at hl 2 rfl) ?_
  refine lv_aload_n hx hb dL_law_154 rfl (lv_at hl 0 rfl) ?_
  refine lv_iload_n hx hb dL_law_155 rfl (lv_at hl 3 rfl) ?_
  refine lv_iconst (v := 1) hx hb dL_law_156 rfl ?_
  refine lv_iadd hx hb dL_law_157 ?_
  refine lv_topi (fun w ew => ?_)
  obtain rfl : w = nI (i + 1) := ew.trans (nI_add i 1)
  refine va_sld hx hb hX hbl hbA hN.2.2 (vp_in_nI (by omega) (by omega)) dL_law_158 ?_
  refine n_callVi (ws' := W7 E d x' ++ W8 E a y') hC hN c8 cy_X8_type mML_L_17 mIM_X8_type mSE_X8_type rfl rfl (k := 0) rfl List.perm_append_comm List.perm_append_comm (W8_fst E a y y') rfl hl.1 rfl (Nat.le_of_ble_eq_true rfl) dL_law_159 ⟨Nat.le_of_ble_eq_true rfl, Nat.le_of_ble_eq_true rfl⟩ ⟨Nat.le_of_ble_eq_true rfl, Nat.le_of_ble_eq_true rfl⟩ (fun H locs hN => ?_)
  exact lv_icmp_eq (tgt := 776) hx hb dL_law_162 (by decide) (fun _ => K x' y' H locs ls hR' hN hl) (fun hne => absurd rfl hne)
set_option maxHeartbeats 4000000 in
set_option maxRecDepth 100000 in
theorem case_clear {p : Program} {e : Env} {s : State} {m : MethodId} {below : List Frame} {meth : Method} {c : Code} (l : Launch) {b L : Nat} {xs : Nat → Int32} (C0 : lw_At p s m meth c b L xs) {E : EV} (hC : Cx p E s m #[Value.ref b] meth c cL_law 4 RL ret) (d : D7) (a : Nat → Nat) {i : Nat} (hi : i + 4 ≤ L) (hL : L ≤ 2048) {x : S7} {y : S8} (hR : Rel x y) {H : Heap} {locs : List Loc} {ls : Array Slot} (hN : Nw E s (fun q => s.heap.size ≤ q) (W7 E d x ++ W8 E a y) H locs) (hl : lv_has ls 4 [(0, .ref b), (1, .ref (d.c 0)), (2, .ref (a 0)), (3, .int (nI i))])
    (K : ∀ (x' : S7) (y' : S8) (H : Heap) (locs : List Loc) (ls : Array Slot), Rel x' y' → Nw E s (fun q => s.heap.size ≤ q) (W7 E d x' ++ W8 E a y') H locs → lv_has ls 4 [(0, .ref b), (1, .ref (d.c 0)), (2, .ref (a 0)), (3, .int (nI i))] → W p l e room_1 s m #[Value.ref b] below meth c H locs 600000 7302250 (lw_Z below #[Value.ref b] s) (F0 m 776 ls [])) : W p l e room_1 s m #[Value.ref b] below meth c H locs 600000 7302250 (lw_Z below #[Value.ref b] s) (F0 m 167 ls []) := by
  obtain ⟨hx, hb, hr, hml, hown, hts, hX, hbl, hlocks, hgv⟩ := id C0
  have hbA : ¬ (fun q : Nat => s.heap.size ≤ q) b := Nat.not_le.mpr hbl
  obtain ⟨x', y', v, c7, c8, hR'⟩ := q_clear l E d a x y  hR
  refine lv_aload_n hx hb dL_law_167 rfl (lv_at hl 1 rfl) ?_
  refine n_callVi (ws' := W7 E d x' ++ W8 E a y) hC hN c7 cy_X7_clear mML_L_18 mIM_X7_clear mSE_X7_clear rfl rfl (k := 0) rfl (List.Perm.refl _) (List.Perm.refl _) (W7_fst E d x x') rfl hl.1 rfl (Nat.le_of_ble_eq_true rfl) dL_law_168 ⟨Nat.le_of_ble_eq_true rfl, Nat.le_of_ble_eq_true rfl⟩ ⟨Nat.le_of_ble_eq_true rfl, Nat.le_of_ble_eq_true rfl⟩ (fun H locs hN => ?_)
  refine lv_aload_n hx hb dL_law_171 rfl (lv_at hl 2 rfl) ?_
  refine n_callVi (ws' := W7 E d x' ++ W8 E a y') hC hN c8 cy_X8_clear mML_L_22 mIM_X8_clear mSE_X8_clear rfl rfl (k := 0) rfl List.perm_append_comm List.perm_append_comm (W8_fst E a y y') rfl hl.1 rfl (Nat.le_of_ble_eq_true rfl) dL_law_172 ⟨Nat.le_of_ble_eq_true rfl, Nat.le_of_ble_eq_true rfl⟩ ⟨Nat.le_of_ble_eq_true rfl, Nat.le_of_ble_eq_true rfl⟩ (fun H locs hN => ?_)
  exact lv_icmp_eq (tgt := 776) hx hb dL_law_175 (by decide) (fun _ => K x' y' H locs ls hR' hN hl) (fun hne => absurd rfl hne)
set_option maxHeartbeats 4000000 in
set_option maxRecDepth 100000 in
theorem case_tells {p : Program} {e : Env} {s : State} {m : MethodId} {below : List Frame} {meth : Method} {c : Code} (l : Launch) {b L : Nat} {xs : Nat → Int32} (C0 : lw_At p s m meth c b L xs) {E : EV} (hC : Cx p E s m #[Value.ref b] meth c cL_law 4 RL ret) (d : D7) (a : Nat → Nat) {i : Nat} (hi : i + 4 ≤ L) (hL : L ≤ 2048) {x : S7} {y : S8} (hR : Rel x y) {H : Heap} {locs : List Loc} {ls : Array Slot} (hN : Nw E s (fun q => s.heap.size ≤ q) (W7 E d x ++ W8 E a y) H locs) (hl : lv_has ls 4 [(0, .ref b), (1, .ref (d.c 0)), (2, .ref (a 0)), (3, .int (nI i))])
    (K : ∀ (x' : S7) (y' : S8) (H : Heap) (locs : List Loc) (ls : Array Slot), Rel x' y' → Nw E s (fun q => s.heap.size ≤ q) (W7 E d x' ++ W8 E a y') H locs → lv_has ls 4 [(0, .ref b), (1, .ref (d.c 0)), (2, .ref (a 0)), (3, .int (nI i))] → W p l e room_1 s m #[Value.ref b] below meth c H locs 600000 7302250 (lw_Z below #[Value.ref b] s) (F0 m 776 ls [])) : W p l e room_1 s m #[Value.ref b] below meth c H locs 600000 7302250 (lw_Z below #[Value.ref b] s) (F0 m 180 ls []) := by
  obtain ⟨hx, hb, hr, hml, hown, hts, hX, hbl, hlocks, hgv⟩ := id C0
  have hbA : ¬ (fun q : Nat => s.heap.size ≤ q) b := Nat.not_le.mpr hbl
  obtain ⟨x', y', v, c7, c8, hR'⟩ := q_tells l E d a x y  hR
  refine lv_aload_n hx hb dL_law_180 rfl (lv_at hl 1 rfl) ?_
  refine n_callVi (ws' := W7 E d x' ++ W8 E a y) hC hN c7 cy_X7_tells mML_L_23 mIM_X7_tells mSE_X7_tells rfl rfl (k := 0) rfl (List.Perm.refl _) (List.Perm.refl _) (W7_fst E d x x') rfl hl.1 rfl (Nat.le_of_ble_eq_true rfl) dL_law_181 ⟨Nat.le_of_ble_eq_true rfl, Nat.le_of_ble_eq_true rfl⟩ ⟨Nat.le_of_ble_eq_true rfl, Nat.le_of_ble_eq_true rfl⟩ (fun H locs hN => ?_)
  refine lv_aload_n hx hb dL_law_184 rfl (lv_at hl 2 rfl) ?_
  refine n_callVi (ws' := W7 E d x' ++ W8 E a y') hC hN c8 cy_X8_tells mML_L_26 mIM_X8_tells mSE_X8_tells rfl rfl (k := 0) rfl List.perm_append_comm List.perm_append_comm (W8_fst E a y y') rfl hl.1 rfl (Nat.le_of_ble_eq_true rfl) dL_law_185 ⟨Nat.le_of_ble_eq_true rfl, Nat.le_of_ble_eq_true rfl⟩ ⟨Nat.le_of_ble_eq_true rfl, Nat.le_of_ble_eq_true rfl⟩ (fun H locs hN => ?_)
  exact lv_icmp_eq (tgt := 776) hx hb dL_law_188 (by decide) (fun _ => K x' y' H locs ls hR' hN hl) (fun hne => absurd rfl hne)
set_option maxHeartbeats 4000000 in
set_option maxRecDepth 100000 in
theorem case_joins {p : Program} {e : Env} {s : State} {m : MethodId} {below : List Frame} {meth : Method} {c : Code} (l : Launch) {b L : Nat} {xs : Nat → Int32} (C0 : lw_At p s m meth c b L xs) {E : EV} (hC : Cx p E s m #[Value.ref b] meth c cL_law 4 RL ret) (d : D7) (a : Nat → Nat) {i : Nat} (hi : i + 4 ≤ L) (hL : L ≤ 2048) {x : S7} {y : S8} (hR : Rel x y) {H : Heap} {locs : List Loc} {ls : Array Slot} (hN : Nw E s (fun q => s.heap.size ≤ q) (W7 E d x ++ W8 E a y) H locs) (hl : lv_has ls 4 [(0, .ref b), (1, .ref (d.c 0)), (2, .ref (a 0)), (3, .int (nI i))])
    (K : ∀ (x' : S7) (y' : S8) (H : Heap) (locs : List Loc) (ls : Array Slot), Rel x' y' → Nw E s (fun q => s.heap.size ≤ q) (W7 E d x' ++ W8 E a y') H locs → lv_has ls 4 [(0, .ref b), (1, .ref (d.c 0)), (2, .ref (a 0)), (3, .int (nI i))] → W p l e room_1 s m #[Value.ref b] below meth c H locs 600000 7302250 (lw_Z below #[Value.ref b] s) (F0 m 776 ls [])) : W p l e room_1 s m #[Value.ref b] below meth c H locs 600000 7302250 (lw_Z below #[Value.ref b] s) (F0 m 193 ls []) := by
  obtain ⟨hx, hb, hr, hml, hown, hts, hX, hbl, hlocks, hgv⟩ := id C0
  have hbA : ¬ (fun q : Nat => s.heap.size ≤ q) b := Nat.not_le.mpr hbl
  obtain ⟨x', y', v, c7, c8, hR'⟩ := q_joins l E d a x y (xs (nI (i + 1)).toNatClampNeg) (xs (nI (i + 2)).toNatClampNeg) hR
  refine lv_aload_n hx hb dL_law_193 rfl (lv_at hl 1 rfl) ?_
  refine lv_aload_n hx hb dL_law_194 rfl (lv_at hl 0 rfl) ?_
  refine lv_iload_n hx hb dL_law_195 rfl (lv_at hl 3 rfl) ?_
  refine lv_iconst (v := 1) hx hb dL_law_196 rfl ?_
  refine lv_iadd hx hb dL_law_197 ?_
  refine lv_topi (fun w ew => ?_)
  obtain rfl : w = nI (i + 1) := ew.trans (nI_add i 1)
  refine va_sld hx hb hX hbl hbA hN.2.2 (vp_in_nI (by omega) (by omega)) dL_law_198 ?_
  refine lv_aload_n hx hb dL_law_199 rfl (lv_at hl 0 rfl) ?_
  refine lv_iload_n hx hb dL_law_200 rfl (lv_at hl 3 rfl) ?_
  refine lv_iconst (v := 2) hx hb dL_law_201 rfl ?_
  refine lv_iadd hx hb dL_law_202 ?_
  refine lv_topi (fun w ew => ?_)
  obtain rfl : w = nI (i + 2) := ew.trans (nI_add i 2)
  refine va_sld hx hb hX hbl hbA hN.2.2 (vp_in_nI (by omega) (by omega)) dL_law_203 ?_
  refine n_callVi (ws' := W7 E d x' ++ W8 E a y) hC hN c7 cy_X7_joins mML_L_27 mIM_X7_joins mSE_X7_joins rfl rfl (k := 0) rfl (List.Perm.refl _) (List.Perm.refl _) (W7_fst E d x x') rfl hl.1 rfl (Nat.le_of_ble_eq_true rfl) dL_law_204 ⟨Nat.le_of_ble_eq_true rfl, Nat.le_of_ble_eq_true rfl⟩ ⟨Nat.le_of_ble_eq_true rfl, Nat.le_of_ble_eq_true rfl⟩ (fun H locs hN => ?_)
  refine lv_aload_n hx hb dL_law_207 rfl (lv_at hl 2 rfl) ?_
  refine lv_aload_n hx hb dL_law_208 rfl (lv_at hl 0 rfl) ?_
  refine lv_iload_n hx hb dL_law_209 rfl (lv_at hl 3 rfl) ?_
  refine lv_iconst (v := 1) hx hb dL_law_210 rfl ?_
  refine lv_iadd hx hb dL_law_211 ?_
  refine lv_topi (fun w ew => ?_)
  obtain rfl : w = nI (i + 1) := ew.trans (nI_add i 1)
  refine va_sld hx hb hX hbl hbA hN.2.2 (vp_in_nI (by omega) (by omega)) dL_law_212 ?_
  refine lv_aload_n hx hb dL_law_213 rfl (lv_at hl 0 rfl) ?_
  refine lv_iload_n hx hb dL_law_214 rfl (lv_at hl 3 rfl) ?_
  refine lv_iconst (v := 2) hx hb dL_law_215 rfl ?_
  refine lv_iadd hx hb dL_law_216 ?_
  refine lv_topi (fun w ew => ?_)
  obtain rfl : w = nI (i + 2) := ew.trans (nI_add i 2)
  refine va_sld hx hb hX hbl hbA hN.2.2 (vp_in_nI (by omega) (by omega)) dL_law_217 ?_
  refine n_callVi (ws' := W7 E d x' ++ W8 E a y') hC hN c8 cy_X8_joins mML_L_31 mIM_X8_joins mSE_X8_joins rfl rfl (k := 0) rfl List.perm_append_comm List.perm_append_comm (W8_fst E a y y') rfl hl.1 rfl (Nat.le_of_ble_eq_true rfl) dL_law_218 ⟨Nat.le_of_ble_eq_true rfl, Nat.le_of_ble_eq_true rfl⟩ ⟨Nat.le_of_ble_eq_true rfl, Nat.le_of_ble_eq_true rfl⟩ (fun H locs hN => ?_)
  exact lv_icmp_eq (tgt := 776) hx hb dL_law_221 (by decide) (fun _ => K x' y' H locs ls hR' hN hl) (fun hne => absurd rfl hne)
set_option maxHeartbeats 4000000 in
set_option maxRecDepth 100000 in
theorem case_cuts {p : Program} {e : Env} {s : State} {m : MethodId} {below : List Frame} {meth : Method} {c : Code} (l : Launch) {b L : Nat} {xs : Nat → Int32} (C0 : lw_At p s m meth c b L xs) {E : EV} (hC : Cx p E s m #[Value.ref b] meth c cL_law 4 RL ret) (d : D7) (a : Nat → Nat) {i : Nat} (hi : i + 4 ≤ L) (hL : L ≤ 2048) {x : S7} {y : S8} (hR : Rel x y) {H : Heap} {locs : List Loc} {ls : Array Slot} (hN : Nw E s (fun q => s.heap.size ≤ q) (W7 E d x ++ W8 E a y) H locs) (hl : lv_has ls 4 [(0, .ref b), (1, .ref (d.c 0)), (2, .ref (a 0)), (3, .int (nI i))])
    (K : ∀ (x' : S7) (y' : S8) (H : Heap) (locs : List Loc) (ls : Array Slot), Rel x' y' → Nw E s (fun q => s.heap.size ≤ q) (W7 E d x' ++ W8 E a y') H locs → lv_has ls 4 [(0, .ref b), (1, .ref (d.c 0)), (2, .ref (a 0)), (3, .int (nI i))] → W p l e room_1 s m #[Value.ref b] below meth c H locs 600000 7302250 (lw_Z below #[Value.ref b] s) (F0 m 776 ls [])) : W p l e room_1 s m #[Value.ref b] below meth c H locs 600000 7302250 (lw_Z below #[Value.ref b] s) (F0 m 226 ls []) := by
  obtain ⟨hx, hb, hr, hml, hown, hts, hX, hbl, hlocks, hgv⟩ := id C0
  have hbA : ¬ (fun q : Nat => s.heap.size ≤ q) b := Nat.not_le.mpr hbl
  obtain ⟨x', y', v, c7, c8, hR'⟩ := q_cuts l E d a x y (xs (nI (i + 1)).toNatClampNeg) (xs (nI (i + 2)).toNatClampNeg) hR
  refine lv_aload_n hx hb dL_law_226 rfl (lv_at hl 1 rfl) ?_
  refine lv_aload_n hx hb dL_law_227 rfl (lv_at hl 0 rfl) ?_
  refine lv_iload_n hx hb dL_law_228 rfl (lv_at hl 3 rfl) ?_
  refine lv_iconst (v := 1) hx hb dL_law_229 rfl ?_
  refine lv_iadd hx hb dL_law_230 ?_
  refine lv_topi (fun w ew => ?_)
  obtain rfl : w = nI (i + 1) := ew.trans (nI_add i 1)
  refine va_sld hx hb hX hbl hbA hN.2.2 (vp_in_nI (by omega) (by omega)) dL_law_231 ?_
  refine lv_aload_n hx hb dL_law_232 rfl (lv_at hl 0 rfl) ?_
  refine lv_iload_n hx hb dL_law_233 rfl (lv_at hl 3 rfl) ?_
  refine lv_iconst (v := 2) hx hb dL_law_234 rfl ?_
  refine lv_iadd hx hb dL_law_235 ?_
  refine lv_topi (fun w ew => ?_)
  obtain rfl : w = nI (i + 2) := ew.trans (nI_add i 2)
  refine va_sld hx hb hX hbl hbA hN.2.2 (vp_in_nI (by omega) (by omega)) dL_law_236 ?_
  refine n_callVi (ws' := W7 E d x' ++ W8 E a y) hC hN c7 cy_X7_cuts mML_L_32 mIM_X7_cuts mSE_X7_cuts rfl rfl (k := 0) rfl (List.Perm.refl _) (List.Perm.refl _) (W7_fst E d x x') rfl hl.1 rfl (Nat.le_of_ble_eq_true rfl) dL_law_237 ⟨Nat.le_of_ble_eq_true rfl, Nat.le_of_ble_eq_true rfl⟩ ⟨Nat.le_of_ble_eq_true rfl, Nat.le_of_ble_eq_true rfl⟩ (fun H locs hN => ?_)
  refine lv_aload_n hx hb dL_law_240 rfl (lv_at hl 2 rfl) ?_
  refine lv_aload_n hx hb dL_law_241 rfl (lv_at hl 0 rfl) ?_
  refine lv_iload_n hx hb dL_law_242 rfl (lv_at hl 3 rfl) ?_
  refine lv_iconst (v := 1) hx hb dL_law_243 rfl ?_
  refine lv_iadd hx hb dL_law_244 ?_
  refine lv_topi (fun w ew => ?_)
  obtain rfl : w = nI (i + 1) := ew.trans (nI_add i 1)
  refine va_sld hx hb hX hbl hbA hN.2.2 (vp_in_nI (by omega) (by omega)) dL_law_245 ?_
  refine lv_aload_n hx hb dL_law_246 rfl (lv_at hl 0 rfl) ?_
  refine lv_iload_n hx hb dL_law_247 rfl (lv_at hl 3 rfl) ?_
  refine lv_iconst (v := 2) hx hb dL_law_248 rfl ?_
  refine lv_iadd hx hb dL_law_249 ?_
  refine lv_topi (fun w ew => ?_)
  obtain rfl : w = nI (i + 2) := ew.trans (nI_add i 2)
  refine va_sld hx hb hX hbl hbA hN.2.2 (vp_in_nI (by omega) (by omega)) dL_law_250 ?_
  refine n_callVi (ws' := W7 E d x' ++ W8 E a y') hC hN c8 cy_X8_cuts mML_L_35 mIM_X8_cuts mSE_X8_cuts rfl rfl (k := 0) rfl List.perm_append_comm List.perm_append_comm (W8_fst E a y y') rfl hl.1 rfl (Nat.le_of_ble_eq_true rfl) dL_law_251 ⟨Nat.le_of_ble_eq_true rfl, Nat.le_of_ble_eq_true rfl⟩ ⟨Nat.le_of_ble_eq_true rfl, Nat.le_of_ble_eq_true rfl⟩ (fun H locs hN => ?_)
  exact lv_icmp_eq (tgt := 776) hx hb dL_law_254 (by decide) (fun _ => K x' y' H locs ls hR' hN hl) (fun hne => absurd rfl hne)
set_option maxHeartbeats 4000000 in
set_option maxRecDepth 100000 in
theorem case_zones {p : Program} {e : Env} {s : State} {m : MethodId} {below : List Frame} {meth : Method} {c : Code} (l : Launch) {b L : Nat} {xs : Nat → Int32} (C0 : lw_At p s m meth c b L xs) {E : EV} (hC : Cx p E s m #[Value.ref b] meth c cL_law 4 RL ret) (d : D7) (a : Nat → Nat) {i : Nat} (hi : i + 4 ≤ L) (hL : L ≤ 2048) {x : S7} {y : S8} (hR : Rel x y) {H : Heap} {locs : List Loc} {ls : Array Slot} (hN : Nw E s (fun q => s.heap.size ≤ q) (W7 E d x ++ W8 E a y) H locs) (hl : lv_has ls 4 [(0, .ref b), (1, .ref (d.c 0)), (2, .ref (a 0)), (3, .int (nI i))])
    (K : ∀ (x' : S7) (y' : S8) (H : Heap) (locs : List Loc) (ls : Array Slot), Rel x' y' → Nw E s (fun q => s.heap.size ≤ q) (W7 E d x' ++ W8 E a y') H locs → lv_has ls 4 [(0, .ref b), (1, .ref (d.c 0)), (2, .ref (a 0)), (3, .int (nI i))] → W p l e room_1 s m #[Value.ref b] below meth c H locs 600000 7302250 (lw_Z below #[Value.ref b] s) (F0 m 776 ls [])) : W p l e room_1 s m #[Value.ref b] below meth c H locs 600000 7302250 (lw_Z below #[Value.ref b] s) (F0 m 259 ls []) := by
  obtain ⟨hx, hb, hr, hml, hown, hts, hX, hbl, hlocks, hgv⟩ := id C0
  have hbA : ¬ (fun q : Nat => s.heap.size ≤ q) b := Nat.not_le.mpr hbl
  obtain ⟨x', y', v, c7, c8, hR'⟩ := q_zones l E d a x y (xs (nI (i + 1)).toNatClampNeg) (xs (nI (i + 2)).toNatClampNeg) (xs (nI (i + 3)).toNatClampNeg) hR
  refine lv_aload_n hx hb dL_law_259 rfl (lv_at hl 1 rfl) ?_
  refine lv_aload_n hx hb dL_law_260 rfl (lv_at hl 0 rfl) ?_
  refine lv_iload_n hx hb dL_law_261 rfl (lv_at hl 3 rfl) ?_
  refine lv_iconst (v := 1) hx hb dL_law_262 rfl ?_
  refine lv_iadd hx hb dL_law_263 ?_
  refine lv_topi (fun w ew => ?_)
  obtain rfl : w = nI (i + 1) := ew.trans (nI_add i 1)
  refine va_sld hx hb hX hbl hbA hN.2.2 (vp_in_nI (by omega) (by omega)) dL_law_264 ?_
  refine lv_aload_n hx hb dL_law_265 rfl (lv_at hl 0 rfl) ?_
  refine lv_iload_n hx hb dL_law_266 rfl (lv_at hl 3 rfl) ?_
  refine lv_iconst (v := 2) hx hb dL_law_267 rfl ?_
  refine lv_iadd hx hb dL_law_268 ?_
  refine lv_topi (fun w ew => ?_)
  obtain rfl : w = nI (i + 2) := ew.trans (nI_add i 2)
  refine va_sld hx hb hX hbl hbA hN.2.2 (vp_in_nI (by omega) (by omega)) dL_law_269 ?_
  refine lv_aload_n hx hb dL_law_270 rfl (lv_at hl 0 rfl) ?_
  refine lv_iload_n hx hb dL_law_271 rfl (lv_at hl 3 rfl) ?_
  refine lv_iconst (v := 3) hx hb dL_law_272 rfl ?_
  refine lv_iadd hx hb dL_law_273 ?_
  refine lv_topi (fun w ew => ?_)
  obtain rfl : w = nI (i + 3) := ew.trans (nI_add i 3)
  refine va_sld hx hb hX hbl hbA hN.2.2 (vp_in_nI (by omega) (by omega)) dL_law_274 ?_
  refine n_callVi (ws' := W7 E d x' ++ W8 E a y) hC hN c7 cy_X7_zones mML_L_36 mIM_X7_zones mSE_X7_zones rfl rfl (k := 0) rfl (List.Perm.refl _) (List.Perm.refl _) (W7_fst E d x x') rfl hl.1 rfl (Nat.le_of_ble_eq_true rfl) dL_law_275 ⟨Nat.le_of_ble_eq_true rfl, Nat.le_of_ble_eq_true rfl⟩ ⟨Nat.le_of_ble_eq_true rfl, Nat.le_of_ble_eq_true rfl⟩ (fun H locs hN => ?_)
  refine lv_aload_n hx hb dL_law_278 rfl (lv_at hl 2 rfl) ?_
  refine lv_aload_n hx hb dL_law_279 rfl (lv_at hl 0 rfl) ?_
  refine lv_iload_n hx hb dL_law_280 rfl (lv_at hl 3 rfl) ?_
  refine lv_iconst (v := 1) hx hb dL_law_281 rfl ?_
  refine lv_iadd hx hb dL_law_282 ?_
  refine lv_topi (fun w ew => ?_)
  obtain rfl : w = nI (i + 1) := ew.trans (nI_add i 1)
  refine va_sld hx hb hX hbl hbA hN.2.2 (vp_in_nI (by omega) (by omega)) dL_law_283 ?_
  refine lv_aload_n hx hb dL_law_284 rfl (lv_at hl 0 rfl) ?_
  refine lv_iload_n hx hb dL_law_285 rfl (lv_at hl 3 rfl) ?_
  refine lv_iconst (v := 2) hx hb dL_law_286 rfl ?_
  refine lv_iadd hx hb dL_law_287 ?_
  refine lv_topi (fun w ew => ?_)
  obtain rfl : w = nI (i + 2) := ew.trans (nI_add i 2)
  refine va_sld hx hb hX hbl hbA hN.2.2 (vp_in_nI (by omega) (by omega)) dL_law_288 ?_
  refine lv_aload_n hx hb dL_law_289 rfl (lv_at hl 0 rfl) ?_
  refine lv_iload_n hx hb dL_law_290 rfl (lv_at hl 3 rfl) ?_
  refine lv_iconst (v := 3) hx hb dL_law_291 rfl ?_
  refine lv_iadd hx hb dL_law_292 ?_
  refine lv_topi (fun w ew => ?_)
  obtain rfl : w = nI (i + 3) := ew.trans (nI_add i 3)
  refine va_sld hx hb hX hbl hbA hN.2.2 (vp_in_nI (by omega) (by omega)) dL_law_293 ?_
  refine n_callVi (ws' := W7 E d x' ++ W8 E a y') hC hN c8 cy_X8_zones mML_L_40 mIM_X8_zones mSE_X8_zones rfl rfl (k := 0) rfl List.perm_append_comm List.perm_append_comm (W8_fst E a y y') rfl hl.1 rfl (Nat.le_of_ble_eq_true rfl) dL_law_294 ⟨Nat.le_of_ble_eq_true rfl, Nat.le_of_ble_eq_true rfl⟩ ⟨Nat.le_of_ble_eq_true rfl, Nat.le_of_ble_eq_true rfl⟩ (fun H locs hN => ?_)
  exact lv_icmp_eq (tgt := 776) hx hb dL_law_297 (by decide) (fun _ => K x' y' H locs ls hR' hN hl) (fun hne => absurd rfl hne)
set_option maxHeartbeats 4000000 in
set_option maxRecDepth 100000 in
theorem case_moves {p : Program} {e : Env} {s : State} {m : MethodId} {below : List Frame} {meth : Method} {c : Code} (l : Launch) {b L : Nat} {xs : Nat → Int32} (C0 : lw_At p s m meth c b L xs) {E : EV} (hC : Cx p E s m #[Value.ref b] meth c cL_law 4 RL ret) (d : D7) (a : Nat → Nat) {i : Nat} (hi : i + 4 ≤ L) (hL : L ≤ 2048) {x : S7} {y : S8} (hR : Rel x y) {H : Heap} {locs : List Loc} {ls : Array Slot} (hN : Nw E s (fun q => s.heap.size ≤ q) (W7 E d x ++ W8 E a y) H locs) (hl : lv_has ls 4 [(0, .ref b), (1, .ref (d.c 0)), (2, .ref (a 0)), (3, .int (nI i))])
    (K : ∀ (x' : S7) (y' : S8) (H : Heap) (locs : List Loc) (ls : Array Slot), Rel x' y' → Nw E s (fun q => s.heap.size ≤ q) (W7 E d x' ++ W8 E a y') H locs → lv_has ls 4 [(0, .ref b), (1, .ref (d.c 0)), (2, .ref (a 0)), (3, .int (nI i))] → W p l e room_1 s m #[Value.ref b] below meth c H locs 600000 7302250 (lw_Z below #[Value.ref b] s) (F0 m 776 ls [])) : W p l e room_1 s m #[Value.ref b] below meth c H locs 600000 7302250 (lw_Z below #[Value.ref b] s) (F0 m 302 ls []) := by
  obtain ⟨hx, hb, hr, hml, hown, hts, hX, hbl, hlocks, hgv⟩ := id C0
  have hbA : ¬ (fun q : Nat => s.heap.size ≤ q) b := Nat.not_le.mpr hbl
  obtain ⟨x', y', v, c7, c8, hR'⟩ := q_moves l E d a x y (xs (nI (i + 1)).toNatClampNeg) (xs (nI (i + 2)).toNatClampNeg) hR
  refine lv_aload_n hx hb dL_law_302 rfl (lv_at hl 1 rfl) ?_
  refine lv_aload_n hx hb dL_law_303 rfl (lv_at hl 0 rfl) ?_
  refine lv_iload_n hx hb dL_law_304 rfl (lv_at hl 3 rfl) ?_
  refine lv_iconst (v := 1) hx hb dL_law_305 rfl ?_
  refine lv_iadd hx hb dL_law_306 ?_
  refine lv_topi (fun w ew => ?_)
  obtain rfl : w = nI (i + 1) := ew.trans (nI_add i 1)
  refine va_sld hx hb hX hbl hbA hN.2.2 (vp_in_nI (by omega) (by omega)) dL_law_307 ?_
  refine lv_aload_n hx hb dL_law_308 rfl (lv_at hl 0 rfl) ?_
  refine lv_iload_n hx hb dL_law_309 rfl (lv_at hl 3 rfl) ?_
  refine lv_iconst (v := 2) hx hb dL_law_310 rfl ?_
  refine lv_iadd hx hb dL_law_311 ?_
  refine lv_topi (fun w ew => ?_)
  obtain rfl : w = nI (i + 2) := ew.trans (nI_add i 2)
  refine va_sld hx hb hX hbl hbA hN.2.2 (vp_in_nI (by omega) (by omega)) dL_law_312 ?_
  refine n_callVi (ws' := W7 E d x' ++ W8 E a y) hC hN c7 cy_X7_moves mML_L_41 mIM_X7_moves mSE_X7_moves rfl rfl (k := 0) rfl (List.Perm.refl _) (List.Perm.refl _) (W7_fst E d x x') rfl hl.1 rfl (Nat.le_of_ble_eq_true rfl) dL_law_313 ⟨Nat.le_of_ble_eq_true rfl, Nat.le_of_ble_eq_true rfl⟩ ⟨Nat.le_of_ble_eq_true rfl, Nat.le_of_ble_eq_true rfl⟩ (fun H locs hN => ?_)
  refine lv_aload_n hx hb dL_law_316 rfl (lv_at hl 2 rfl) ?_
  refine lv_aload_n hx hb dL_law_317 rfl (lv_at hl 0 rfl) ?_
  refine lv_iload_n hx hb dL_law_318 rfl (lv_at hl 3 rfl) ?_
  refine lv_iconst (v := 1) hx hb dL_law_319 rfl ?_
  refine lv_iadd hx hb dL_law_320 ?_
  refine lv_topi (fun w ew => ?_)
  obtain rfl : w = nI (i + 1) := ew.trans (nI_add i 1)
  refine va_sld hx hb hX hbl hbA hN.2.2 (vp_in_nI (by omega) (by omega)) dL_law_321 ?_
  refine lv_aload_n hx hb dL_law_322 rfl (lv_at hl 0 rfl) ?_
  refine lv_iload_n hx hb dL_law_323 rfl (lv_at hl 3 rfl) ?_
  refine lv_iconst (v := 2) hx hb dL_law_324 rfl ?_
  refine lv_iadd hx hb dL_law_325 ?_
  refine lv_topi (fun w ew => ?_)
  obtain rfl : w = nI (i + 2) := ew.trans (nI_add i 2)
  refine va_sld hx hb hX hbl hbA hN.2.2 (vp_in_nI (by omega) (by omega)) dL_law_326 ?_
  refine n_callVi (ws' := W7 E d x' ++ W8 E a y') hC hN c8 cy_X8_moves mML_L_44 mIM_X8_moves mSE_X8_moves rfl rfl (k := 0) rfl List.perm_append_comm List.perm_append_comm (W8_fst E a y y') rfl hl.1 rfl (Nat.le_of_ble_eq_true rfl) dL_law_327 ⟨Nat.le_of_ble_eq_true rfl, Nat.le_of_ble_eq_true rfl⟩ ⟨Nat.le_of_ble_eq_true rfl, Nat.le_of_ble_eq_true rfl⟩ (fun H locs hN => ?_)
  exact lv_icmp_eq (tgt := 776) hx hb dL_law_330 (by decide) (fun _ => K x' y' H locs ls hR' hN hl) (fun hne => absurd rfl hne)
set_option maxHeartbeats 4000000 in
set_option maxRecDepth 100000 in
theorem case_ranks {p : Program} {e : Env} {s : State} {m : MethodId} {below : List Frame} {meth : Method} {c : Code} (l : Launch) {b L : Nat} {xs : Nat → Int32} (C0 : lw_At p s m meth c b L xs) {E : EV} (hC : Cx p E s m #[Value.ref b] meth c cL_law 4 RL ret) (d : D7) (a : Nat → Nat) {i : Nat} (hi : i + 4 ≤ L) (hL : L ≤ 2048) {x : S7} {y : S8} (hR : Rel x y) {H : Heap} {locs : List Loc} {ls : Array Slot} (hN : Nw E s (fun q => s.heap.size ≤ q) (W7 E d x ++ W8 E a y) H locs) (hl : lv_has ls 4 [(0, .ref b), (1, .ref (d.c 0)), (2, .ref (a 0)), (3, .int (nI i))])
    (K : ∀ (x' : S7) (y' : S8) (H : Heap) (locs : List Loc) (ls : Array Slot), Rel x' y' → Nw E s (fun q => s.heap.size ≤ q) (W7 E d x' ++ W8 E a y') H locs → lv_has ls 4 [(0, .ref b), (1, .ref (d.c 0)), (2, .ref (a 0)), (3, .int (nI i))] → W p l e room_1 s m #[Value.ref b] below meth c H locs 600000 7302250 (lw_Z below #[Value.ref b] s) (F0 m 776 ls [])) : W p l e room_1 s m #[Value.ref b] below meth c H locs 600000 7302250 (lw_Z below #[Value.ref b] s) (F0 m 335 ls []) := by
  obtain ⟨hx, hb, hr, hml, hown, hts, hX, hbl, hlocks, hgv⟩ := id C0
  have hbA : ¬ (fun q : Nat => s.heap.size ≤ q) b := Nat.not_le.mpr hbl
  obtain ⟨x', y', v, c7, c8, hR'⟩ := q_ranks l E d a x y (xs (nI (i + 1)).toNatClampNeg) (xs (nI (i + 2)).toNatClampNeg) hR
  refine lv_aload_n hx hb dL_law_335 rfl (lv_at hl 1 rfl) ?_
  refine lv_aload_n hx hb dL_law_336 rfl (lv_at hl 0 rfl) ?_
  refine lv_iload_n hx hb dL_law_337 rfl (lv_at hl 3 rfl) ?_
  refine lv_iconst (v := 1) hx hb dL_law_338 rfl ?_
  refine lv_iadd hx hb dL_law_339 ?_
  refine lv_topi (fun w ew => ?_)
  obtain rfl : w = nI (i + 1) := ew.trans (nI_add i 1)
  refine va_sld hx hb hX hbl hbA hN.2.2 (vp_in_nI (by omega) (by omega)) dL_law_340 ?_
  refine lv_aload_n hx hb dL_law_341 rfl (lv_at hl 0 rfl) ?_
  refine lv_iload_n hx hb dL_law_342 rfl (lv_at hl 3 rfl) ?_
  refine lv_iconst (v := 2) hx hb dL_law_343 rfl ?_
  refine lv_iadd hx hb dL_law_344 ?_
  refine lv_topi (fun w ew => ?_)
  obtain rfl : w = nI (i + 2) := ew.trans (nI_add i 2)
  refine va_sld hx hb hX hbl hbA hN.2.2 (vp_in_nI (by omega) (by omega)) dL_law_345 ?_
  refine n_callVi (ws' := W7 E d x' ++ W8 E a y) hC hN c7 cy_X7_ranks mML_L_45 mIM_X7_ranks mSE_X7_ranks rfl rfl (k := 0) rfl (List.Perm.refl _) (List.Perm.refl _) (W7_fst E d x x') rfl hl.1 rfl (Nat.le_of_ble_eq_true rfl) dL_law_346 ⟨Nat.le_of_ble_eq_true rfl, Nat.le_of_ble_eq_true rfl⟩ ⟨Nat.le_of_ble_eq_true rfl, Nat.le_of_ble_eq_true rfl⟩ (fun H locs hN => ?_)
  refine lv_aload_n hx hb dL_law_349 rfl (lv_at hl 2 rfl) ?_
  refine lv_aload_n hx hb dL_law_350 rfl (lv_at hl 0 rfl) ?_
  refine lv_iload_n hx hb dL_law_351 rfl (lv_at hl 3 rfl) ?_
  refine lv_iconst (v := 1) hx hb dL_law_352 rfl ?_
  refine lv_iadd hx hb dL_law_353 ?_
  refine lv_topi (fun w ew => ?_)
  obtain rfl : w = nI (i + 1) := ew.trans (nI_add i 1)
  refine va_sld hx hb hX hbl hbA hN.2.2 (vp_in_nI (by omega) (by omega)) dL_law_354 ?_
  refine lv_aload_n hx hb dL_law_355 rfl (lv_at hl 0 rfl) ?_
  refine lv_iload_n hx hb dL_law_356 rfl (lv_at hl 3 rfl) ?_
  refine lv_iconst (v := 2) hx hb dL_law_357 rfl ?_
  refine lv_iadd hx hb dL_law_358 ?_
  refine lv_topi (fun w ew => ?_)
  obtain rfl : w = nI (i + 2) := ew.trans (nI_add i 2)
  refine va_sld hx hb hX hbl hbA hN.2.2 (vp_in_nI (by omega) (by omega)) dL_law_359 ?_
  refine n_callVi (ws' := W7 E d x' ++ W8 E a y') hC hN c8 cy_X8_ranks mML_L_48 mIM_X8_ranks mSE_X8_ranks rfl rfl (k := 0) rfl List.perm_append_comm List.perm_append_comm (W8_fst E a y y') rfl hl.1 rfl (Nat.le_of_ble_eq_true rfl) dL_law_360 ⟨Nat.le_of_ble_eq_true rfl, Nat.le_of_ble_eq_true rfl⟩ ⟨Nat.le_of_ble_eq_true rfl, Nat.le_of_ble_eq_true rfl⟩ (fun H locs hN => ?_)
  exact lv_icmp_eq (tgt := 776) hx hb dL_law_363 (by decide) (fun _ => K x' y' H locs ls hR' hN hl) (fun hne => absurd rfl hne)
set_option maxHeartbeats 4000000 in
set_option maxRecDepth 100000 in
theorem case_renews {p : Program} {e : Env} {s : State} {m : MethodId} {below : List Frame} {meth : Method} {c : Code} (l : Launch) {b L : Nat} {xs : Nat → Int32} (C0 : lw_At p s m meth c b L xs) {E : EV} (hC : Cx p E s m #[Value.ref b] meth c cL_law 4 RL ret) (d : D7) (a : Nat → Nat) {i : Nat} (hi : i + 4 ≤ L) (hL : L ≤ 2048) {x : S7} {y : S8} (hR : Rel x y) {H : Heap} {locs : List Loc} {ls : Array Slot} (hN : Nw E s (fun q => s.heap.size ≤ q) (W7 E d x ++ W8 E a y) H locs) (hl : lv_has ls 4 [(0, .ref b), (1, .ref (d.c 0)), (2, .ref (a 0)), (3, .int (nI i))])
    (K : ∀ (x' : S7) (y' : S8) (H : Heap) (locs : List Loc) (ls : Array Slot), Rel x' y' → Nw E s (fun q => s.heap.size ≤ q) (W7 E d x' ++ W8 E a y') H locs → lv_has ls 4 [(0, .ref b), (1, .ref (d.c 0)), (2, .ref (a 0)), (3, .int (nI i))] → W p l e room_1 s m #[Value.ref b] below meth c H locs 600000 7302250 (lw_Z below #[Value.ref b] s) (F0 m 776 ls [])) : W p l e room_1 s m #[Value.ref b] below meth c H locs 600000 7302250 (lw_Z below #[Value.ref b] s) (F0 m 368 ls []) := by
  obtain ⟨hx, hb, hr, hml, hown, hts, hX, hbl, hlocks, hgv⟩ := id C0
  have hbA : ¬ (fun q : Nat => s.heap.size ≤ q) b := Nat.not_le.mpr hbl
  obtain ⟨x', y', v, c7, c8, hR'⟩ := q_renews l E d a x y (xs (nI (i + 1)).toNatClampNeg) hR
  refine lv_aload_n hx hb dL_law_368 rfl (lv_at hl 1 rfl) ?_
  refine lv_aload_n hx hb dL_law_369 rfl (lv_at hl 0 rfl) ?_
  refine lv_iload_n hx hb dL_law_370 rfl (lv_at hl 3 rfl) ?_
  refine lv_iconst (v := 1) hx hb dL_law_371 rfl ?_
  refine lv_iadd hx hb dL_law_372 ?_
  refine lv_topi (fun w ew => ?_)
  obtain rfl : w = nI (i + 1) := ew.trans (nI_add i 1)
  refine va_sld hx hb hX hbl hbA hN.2.2 (vp_in_nI (by omega) (by omega)) dL_law_373 ?_
  refine n_callVi (ws' := W7 E d x' ++ W8 E a y) hC hN c7 cy_X7_renews mML_L_49 mIM_X7_renews mSE_X7_renews rfl rfl (k := 0) rfl (List.Perm.refl _) (List.Perm.refl _) (W7_fst E d x x') rfl hl.1 rfl (Nat.le_of_ble_eq_true rfl) dL_law_374 ⟨Nat.le_of_ble_eq_true rfl, Nat.le_of_ble_eq_true rfl⟩ ⟨Nat.le_of_ble_eq_true rfl, Nat.le_of_ble_eq_true rfl⟩ (fun H locs hN => ?_)
  refine lv_aload_n hx hb dL_law_377 rfl (lv_at hl 2 rfl) ?_
  refine lv_aload_n hx hb dL_law_378 rfl (lv_at hl 0 rfl) ?_
  refine lv_iload_n hx hb dL_law_379 rfl (lv_at hl 3 rfl) ?_
  refine lv_iconst (v := 1) hx hb dL_law_380 rfl ?_
  refine lv_iadd hx hb dL_law_381 ?_
  refine lv_topi (fun w ew => ?_)
  obtain rfl : w = nI (i + 1) := ew.trans (nI_add i 1)
  refine va_sld hx hb hX hbl hbA hN.2.2 (vp_in_nI (by omega) (by omega)) dL_law_382 ?_
  refine n_callVi (ws' := W7 E d x' ++ W8 E a y') hC hN c8 cy_X8_renews mML_L_52 mIM_X8_renews mSE_X8_renews rfl rfl (k := 0) rfl List.perm_append_comm List.perm_append_comm (W8_fst E a y y') rfl hl.1 rfl (Nat.le_of_ble_eq_true rfl) dL_law_383 ⟨Nat.le_of_ble_eq_true rfl, Nat.le_of_ble_eq_true rfl⟩ ⟨Nat.le_of_ble_eq_true rfl, Nat.le_of_ble_eq_true rfl⟩ (fun H locs hN => ?_)
  exact lv_icmp_eq (tgt := 776) hx hb dL_law_386 (by decide) (fun _ => K x' y' H locs ls hR' hN hl) (fun hne => absurd rfl hne)
set_option maxHeartbeats 4000000 in
set_option maxRecDepth 100000 in
theorem case_allows {p : Program} {e : Env} {s : State} {m : MethodId} {below : List Frame} {meth : Method} {c : Code} (l : Launch) {b L : Nat} {xs : Nat → Int32} (C0 : lw_At p s m meth c b L xs) {E : EV} (hC : Cx p E s m #[Value.ref b] meth c cL_law 4 RL ret) (d : D7) (a : Nat → Nat) {i : Nat} (hi : i + 4 ≤ L) (hL : L ≤ 2048) {x : S7} {y : S8} (hR : Rel x y) {H : Heap} {locs : List Loc} {ls : Array Slot} (hN : Nw E s (fun q => s.heap.size ≤ q) (W7 E d x ++ W8 E a y) H locs) (hl : lv_has ls 4 [(0, .ref b), (1, .ref (d.c 0)), (2, .ref (a 0)), (3, .int (nI i))])
    (K : ∀ (x' : S7) (y' : S8) (H : Heap) (locs : List Loc) (ls : Array Slot), Rel x' y' → Nw E s (fun q => s.heap.size ≤ q) (W7 E d x' ++ W8 E a y') H locs → lv_has ls 4 [(0, .ref b), (1, .ref (d.c 0)), (2, .ref (a 0)), (3, .int (nI i))] → W p l e room_1 s m #[Value.ref b] below meth c H locs 600000 7302250 (lw_Z below #[Value.ref b] s) (F0 m 776 ls [])) : W p l e room_1 s m #[Value.ref b] below meth c H locs 600000 7302250 (lw_Z below #[Value.ref b] s) (F0 m 391 ls []) := by
  obtain ⟨hx, hb, hr, hml, hown, hts, hX, hbl, hlocks, hgv⟩ := id C0
  have hbA : ¬ (fun q : Nat => s.heap.size ≤ q) b := Nat.not_le.mpr hbl
  obtain ⟨x', y', v, c7, c8, hR'⟩ := q_allows l E d a x y (xs (nI (i + 1)).toNatClampNeg) hR
  refine lv_aload_n hx hb dL_law_391 rfl (lv_at hl 1 rfl) ?_
  refine lv_aload_n hx hb dL_law_392 rfl (lv_at hl 0 rfl) ?_
  refine lv_iload_n hx hb dL_law_393 rfl (lv_at hl 3 rfl) ?_
  refine lv_iconst (v := 1) hx hb dL_law_394 rfl ?_
  refine lv_iadd hx hb dL_law_395 ?_
  refine lv_topi (fun w ew => ?_)
  obtain rfl : w = nI (i + 1) := ew.trans (nI_add i 1)
  refine va_sld hx hb hX hbl hbA hN.2.2 (vp_in_nI (by omega) (by omega)) dL_law_396 ?_
  refine n_callVi (ws' := W7 E d x' ++ W8 E a y) hC hN c7 cy_X7_allows mML_L_53 mIM_X7_allows mSE_X7_allows rfl rfl (k := 0) rfl (List.Perm.refl _) (List.Perm.refl _) (W7_fst E d x x') rfl hl.1 rfl (Nat.le_of_ble_eq_true rfl) dL_law_397 ⟨Nat.le_of_ble_eq_true rfl, Nat.le_of_ble_eq_true rfl⟩ ⟨Nat.le_of_ble_eq_true rfl, Nat.le_of_ble_eq_true rfl⟩ (fun H locs hN => ?_)
  refine lv_aload_n hx hb dL_law_400 rfl (lv_at hl 2 rfl) ?_
  refine lv_aload_n hx hb dL_law_401 rfl (lv_at hl 0 rfl) ?_
  refine lv_iload_n hx hb dL_law_402 rfl (lv_at hl 3 rfl) ?_
  refine lv_iconst (v := 1) hx hb dL_law_403 rfl ?_
  refine lv_iadd hx hb dL_law_404 ?_
  refine lv_topi (fun w ew => ?_)
  obtain rfl : w = nI (i + 1) := ew.trans (nI_add i 1)
  refine va_sld hx hb hX hbl hbA hN.2.2 (vp_in_nI (by omega) (by omega)) dL_law_405 ?_
  refine n_callVi (ws' := W7 E d x' ++ W8 E a y') hC hN c8 cy_X8_allows mML_L_56 mIM_X8_allows mSE_X8_allows rfl rfl (k := 0) rfl List.perm_append_comm List.perm_append_comm (W8_fst E a y y') rfl hl.1 rfl (Nat.le_of_ble_eq_true rfl) dL_law_406 ⟨Nat.le_of_ble_eq_true rfl, Nat.le_of_ble_eq_true rfl⟩ ⟨Nat.le_of_ble_eq_true rfl, Nat.le_of_ble_eq_true rfl⟩ (fun H locs hN => ?_)
  exact lv_icmp_eq (tgt := 776) hx hb dL_law_409 (by decide) (fun _ => K x' y' H locs ls hR' hN hl) (fun hne => absurd rfl hne)
set_option maxHeartbeats 4000000 in
set_option maxRecDepth 100000 in
theorem case_undo {p : Program} {e : Env} {s : State} {m : MethodId} {below : List Frame} {meth : Method} {c : Code} (l : Launch) {b L : Nat} {xs : Nat → Int32} (C0 : lw_At p s m meth c b L xs) {E : EV} (hC : Cx p E s m #[Value.ref b] meth c cL_law 4 RL ret) (d : D7) (a : Nat → Nat) {i : Nat} (hi : i + 4 ≤ L) (hL : L ≤ 2048) {x : S7} {y : S8} (hR : Rel x y) {H : Heap} {locs : List Loc} {ls : Array Slot} (hN : Nw E s (fun q => s.heap.size ≤ q) (W7 E d x ++ W8 E a y) H locs) (hl : lv_has ls 4 [(0, .ref b), (1, .ref (d.c 0)), (2, .ref (a 0)), (3, .int (nI i))])
    (K : ∀ (x' : S7) (y' : S8) (H : Heap) (locs : List Loc) (ls : Array Slot), Rel x' y' → Nw E s (fun q => s.heap.size ≤ q) (W7 E d x' ++ W8 E a y') H locs → lv_has ls 4 [(0, .ref b), (1, .ref (d.c 0)), (2, .ref (a 0)), (3, .int (nI i))] → W p l e room_1 s m #[Value.ref b] below meth c H locs 600000 7302250 (lw_Z below #[Value.ref b] s) (F0 m 776 ls [])) : W p l e room_1 s m #[Value.ref b] below meth c H locs 600000 7302250 (lw_Z below #[Value.ref b] s) (F0 m 414 ls []) := by
  obtain ⟨hx, hb, hr, hml, hown, hts, hX, hbl, hlocks, hgv⟩ := id C0
  have hbA : ¬ (fun q : Nat => s.heap.size ≤ q) b := Nat.not_le.mpr hbl
  obtain ⟨x', y', v, c7, c8, hR'⟩ := q_undo l E d a x y  hR
  refine lv_aload_n hx hb dL_law_414 rfl (lv_at hl 1 rfl) ?_
  refine n_callVi (ws' := W7 E d x' ++ W8 E a y) hC hN c7 cy_X7_undo mML_L_57 mIM_X7_undo mSE_X7_undo rfl rfl (k := 0) rfl (List.Perm.refl _) (List.Perm.refl _) (W7_fst E d x x') rfl hl.1 rfl (Nat.le_of_ble_eq_true rfl) dL_law_415 ⟨Nat.le_of_ble_eq_true rfl, Nat.le_of_ble_eq_true rfl⟩ ⟨Nat.le_of_ble_eq_true rfl, Nat.le_of_ble_eq_true rfl⟩ (fun H locs hN => ?_)
  refine lv_aload_n hx hb dL_law_418 rfl (lv_at hl 2 rfl) ?_
  refine n_callVi (ws' := W7 E d x' ++ W8 E a y') hC hN c8 cy_X8_undo mML_L_60 mIM_X8_undo mSE_X8_undo rfl rfl (k := 0) rfl List.perm_append_comm List.perm_append_comm (W8_fst E a y y') rfl hl.1 rfl (Nat.le_of_ble_eq_true rfl) dL_law_419 ⟨Nat.le_of_ble_eq_true rfl, Nat.le_of_ble_eq_true rfl⟩ ⟨Nat.le_of_ble_eq_true rfl, Nat.le_of_ble_eq_true rfl⟩ (fun H locs hN => ?_)
  exact lv_icmp_eq (tgt := 776) hx hb dL_law_422 (by decide) (fun _ => K x' y' H locs ls hR' hN hl) (fun hne => absurd rfl hne)
set_option maxHeartbeats 4000000 in
set_option maxRecDepth 100000 in
theorem case_device {p : Program} {e : Env} {s : State} {m : MethodId} {below : List Frame} {meth : Method} {c : Code} (l : Launch) {b L : Nat} {xs : Nat → Int32} (C0 : lw_At p s m meth c b L xs) {E : EV} (hC : Cx p E s m #[Value.ref b] meth c cL_law 4 RL ret) (d : D7) (a : Nat → Nat) {i : Nat} (hi : i + 4 ≤ L) (hL : L ≤ 2048) {x : S7} {y : S8} (hR : Rel x y) {H : Heap} {locs : List Loc} {ls : Array Slot} (hN : Nw E s (fun q => s.heap.size ≤ q) (W7 E d x ++ W8 E a y) H locs) (hl : lv_has ls 4 [(0, .ref b), (1, .ref (d.c 0)), (2, .ref (a 0)), (3, .int (nI i))])
    (K : ∀ (x' : S7) (y' : S8) (H : Heap) (locs : List Loc) (ls : Array Slot), Rel x' y' → Nw E s (fun q => s.heap.size ≤ q) (W7 E d x' ++ W8 E a y') H locs → lv_has ls 4 [(0, .ref b), (1, .ref (d.c 0)), (2, .ref (a 0)), (3, .int (nI i))] → W p l e room_1 s m #[Value.ref b] below meth c H locs 600000 7302250 (lw_Z below #[Value.ref b] s) (F0 m 776 ls [])) : W p l e room_1 s m #[Value.ref b] below meth c H locs 600000 7302250 (lw_Z below #[Value.ref b] s) (F0 m 427 ls []) := by
  obtain ⟨hx, hb, hr, hml, hown, hts, hX, hbl, hlocks, hgv⟩ := id C0
  have hbA : ¬ (fun q : Nat => s.heap.size ≤ q) b := Nat.not_le.mpr hbl
  obtain ⟨x', y', v, c7, c8, hR'⟩ := q_device l E d a x y (xs (nI (i + 1)).toNatClampNeg) (xs (nI (i + 2)).toNatClampNeg) hR
  refine lv_aload_n hx hb dL_law_427 rfl (lv_at hl 1 rfl) ?_
  refine lv_aload_n hx hb dL_law_428 rfl (lv_at hl 0 rfl) ?_
  refine lv_iload_n hx hb dL_law_429 rfl (lv_at hl 3 rfl) ?_
  refine lv_iconst (v := 1) hx hb dL_law_430 rfl ?_
  refine lv_iadd hx hb dL_law_431 ?_
  refine lv_topi (fun w ew => ?_)
  obtain rfl : w = nI (i + 1) := ew.trans (nI_add i 1)
  refine va_sld hx hb hX hbl hbA hN.2.2 (vp_in_nI (by omega) (by omega)) dL_law_432 ?_
  refine lv_aload_n hx hb dL_law_433 rfl (lv_at hl 0 rfl) ?_
  refine lv_iload_n hx hb dL_law_434 rfl (lv_at hl 3 rfl) ?_
  refine lv_iconst (v := 2) hx hb dL_law_435 rfl ?_
  refine lv_iadd hx hb dL_law_436 ?_
  refine lv_topi (fun w ew => ?_)
  obtain rfl : w = nI (i + 2) := ew.trans (nI_add i 2)
  refine va_sld hx hb hX hbl hbA hN.2.2 (vp_in_nI (by omega) (by omega)) dL_law_437 ?_
  refine n_callVi (ws' := W7 E d x' ++ W8 E a y) hC hN c7 cy_X7_device mML_L_61 mIM_X7_device mSE_X7_device rfl rfl (k := 0) rfl (List.Perm.refl _) (List.Perm.refl _) (W7_fst E d x x') rfl hl.1 rfl (Nat.le_of_ble_eq_true rfl) dL_law_438 ⟨Nat.le_of_ble_eq_true rfl, Nat.le_of_ble_eq_true rfl⟩ ⟨Nat.le_of_ble_eq_true rfl, Nat.le_of_ble_eq_true rfl⟩ (fun H locs hN => ?_)
  refine lv_aload_n hx hb dL_law_441 rfl (lv_at hl 2 rfl) ?_
  refine lv_aload_n hx hb dL_law_442 rfl (lv_at hl 0 rfl) ?_
  refine lv_iload_n hx hb dL_law_443 rfl (lv_at hl 3 rfl) ?_
  refine lv_iconst (v := 1) hx hb dL_law_444 rfl ?_
  refine lv_iadd hx hb dL_law_445 ?_
  refine lv_topi (fun w ew => ?_)
  obtain rfl : w = nI (i + 1) := ew.trans (nI_add i 1)
  refine va_sld hx hb hX hbl hbA hN.2.2 (vp_in_nI (by omega) (by omega)) dL_law_446 ?_
  refine lv_aload_n hx hb dL_law_447 rfl (lv_at hl 0 rfl) ?_
  refine lv_iload_n hx hb dL_law_448 rfl (lv_at hl 3 rfl) ?_
  refine lv_iconst (v := 2) hx hb dL_law_449 rfl ?_
  refine lv_iadd hx hb dL_law_450 ?_
  refine lv_topi (fun w ew => ?_)
  obtain rfl : w = nI (i + 2) := ew.trans (nI_add i 2)
  refine va_sld hx hb hX hbl hbA hN.2.2 (vp_in_nI (by omega) (by omega)) dL_law_451 ?_
  refine n_callVi (ws' := W7 E d x' ++ W8 E a y') hC hN c8 cy_X8_device mML_L_64 mIM_X8_device mSE_X8_device rfl rfl (k := 0) rfl List.perm_append_comm List.perm_append_comm (W8_fst E a y y') rfl hl.1 rfl (Nat.le_of_ble_eq_true rfl) dL_law_452 ⟨Nat.le_of_ble_eq_true rfl, Nat.le_of_ble_eq_true rfl⟩ ⟨Nat.le_of_ble_eq_true rfl, Nat.le_of_ble_eq_true rfl⟩ (fun H locs hN => ?_)
  exact lv_icmp_eq (tgt := 776) hx hb dL_law_455 (by decide) (fun _ => K x' y' H locs ls hR' hN hl) (fun hne => absurd rfl hne)
set_option maxHeartbeats 4000000 in
set_option maxRecDepth 100000 in
theorem case_link {p : Program} {e : Env} {s : State} {m : MethodId} {below : List Frame} {meth : Method} {c : Code} (l : Launch) {b L : Nat} {xs : Nat → Int32} (C0 : lw_At p s m meth c b L xs) {E : EV} (hC : Cx p E s m #[Value.ref b] meth c cL_law 4 RL ret) (d : D7) (a : Nat → Nat) {i : Nat} (hi : i + 4 ≤ L) (hL : L ≤ 2048) {x : S7} {y : S8} (hR : Rel x y) {H : Heap} {locs : List Loc} {ls : Array Slot} (hN : Nw E s (fun q => s.heap.size ≤ q) (W7 E d x ++ W8 E a y) H locs) (hl : lv_has ls 4 [(0, .ref b), (1, .ref (d.c 0)), (2, .ref (a 0)), (3, .int (nI i))])
    (K : ∀ (x' : S7) (y' : S8) (H : Heap) (locs : List Loc) (ls : Array Slot), Rel x' y' → Nw E s (fun q => s.heap.size ≤ q) (W7 E d x' ++ W8 E a y') H locs → lv_has ls 4 [(0, .ref b), (1, .ref (d.c 0)), (2, .ref (a 0)), (3, .int (nI i))] → W p l e room_1 s m #[Value.ref b] below meth c H locs 600000 7302250 (lw_Z below #[Value.ref b] s) (F0 m 776 ls [])) : W p l e room_1 s m #[Value.ref b] below meth c H locs 600000 7302250 (lw_Z below #[Value.ref b] s) (F0 m 460 ls []) := by
  obtain ⟨hx, hb, hr, hml, hown, hts, hX, hbl, hlocks, hgv⟩ := id C0
  have hbA : ¬ (fun q : Nat => s.heap.size ≤ q) b := Nat.not_le.mpr hbl
  obtain ⟨x', y', v, c7, c8, hR'⟩ := q_link l E d a x y (xs (nI (i + 1)).toNatClampNeg) (xs (nI (i + 2)).toNatClampNeg) hR
  refine lv_aload_n hx hb dL_law_460 rfl (lv_at hl 1 rfl) ?_
  refine lv_aload_n hx hb dL_law_461 rfl (lv_at hl 0 rfl) ?_
  refine lv_iload_n hx hb dL_law_462 rfl (lv_at hl 3 rfl) ?_
  refine lv_iconst (v := 1) hx hb dL_law_463 rfl ?_
  refine lv_iadd hx hb dL_law_464 ?_
  refine lv_topi (fun w ew => ?_)
  obtain rfl : w = nI (i + 1) := ew.trans (nI_add i 1)
  refine va_sld hx hb hX hbl hbA hN.2.2 (vp_in_nI (by omega) (by omega)) dL_law_465 ?_
  refine lv_aload_n hx hb dL_law_466 rfl (lv_at hl 0 rfl) ?_
  refine lv_iload_n hx hb dL_law_467 rfl (lv_at hl 3 rfl) ?_
  refine lv_iconst (v := 2) hx hb dL_law_468 rfl ?_
  refine lv_iadd hx hb dL_law_469 ?_
  refine lv_topi (fun w ew => ?_)
  obtain rfl : w = nI (i + 2) := ew.trans (nI_add i 2)
  refine va_sld hx hb hX hbl hbA hN.2.2 (vp_in_nI (by omega) (by omega)) dL_law_470 ?_
  refine n_callVi (ws' := W7 E d x' ++ W8 E a y) hC hN c7 cy_X7_link mML_L_65 mIM_X7_link mSE_X7_link rfl rfl (k := 0) rfl (List.Perm.refl _) (List.Perm.refl _) (W7_fst E d x x') rfl hl.1 rfl (Nat.le_of_ble_eq_true rfl) dL_law_471 ⟨Nat.le_of_ble_eq_true rfl, Nat.le_of_ble_eq_true rfl⟩ ⟨Nat.le_of_ble_eq_true rfl, Nat.le_of_ble_eq_true rfl⟩ (fun H locs hN => ?_)
  refine lv_aload_n hx hb dL_law_474 rfl (lv_at hl 2 rfl) ?_
  refine lv_aload_n hx hb dL_law_475 rfl (lv_at hl 0 rfl) ?_
  refine lv_iload_n hx hb dL_law_476 rfl (lv_at hl 3 rfl) ?_
  refine lv_iconst (v := 1) hx hb dL_law_477 rfl ?_
  refine lv_iadd hx hb dL_law_478 ?_
  refine lv_topi (fun w ew => ?_)
  obtain rfl : w = nI (i + 1) := ew.trans (nI_add i 1)
  refine va_sld hx hb hX hbl hbA hN.2.2 (vp_in_nI (by omega) (by omega)) dL_law_479 ?_
  refine lv_aload_n hx hb dL_law_480 rfl (lv_at hl 0 rfl) ?_
  refine lv_iload_n hx hb dL_law_481 rfl (lv_at hl 3 rfl) ?_
  refine lv_iconst (v := 2) hx hb dL_law_482 rfl ?_
  refine lv_iadd hx hb dL_law_483 ?_
  refine lv_topi (fun w ew => ?_)
  obtain rfl : w = nI (i + 2) := ew.trans (nI_add i 2)
  refine va_sld hx hb hX hbl hbA hN.2.2 (vp_in_nI (by omega) (by omega)) dL_law_484 ?_
  refine n_callVi (ws' := W7 E d x' ++ W8 E a y') hC hN c8 cy_X8_link mML_L_68 mIM_X8_link mSE_X8_link rfl rfl (k := 0) rfl List.perm_append_comm List.perm_append_comm (W8_fst E a y y') rfl hl.1 rfl (Nat.le_of_ble_eq_true rfl) dL_law_485 ⟨Nat.le_of_ble_eq_true rfl, Nat.le_of_ble_eq_true rfl⟩ ⟨Nat.le_of_ble_eq_true rfl, Nat.le_of_ble_eq_true rfl⟩ (fun H locs hN => ?_)
  exact lv_icmp_eq (tgt := 776) hx hb dL_law_488 (by decide) (fun _ => K x' y' H locs ls hR' hN hl) (fun hne => absurd rfl hne)
set_option maxHeartbeats 4000000 in
set_option maxRecDepth 100000 in
theorem case_zone {p : Program} {e : Env} {s : State} {m : MethodId} {below : List Frame} {meth : Method} {c : Code} (l : Launch) {b L : Nat} {xs : Nat → Int32} (C0 : lw_At p s m meth c b L xs) {E : EV} (hC : Cx p E s m #[Value.ref b] meth c cL_law 4 RL ret) (d : D7) (a : Nat → Nat) {i : Nat} (hi : i + 4 ≤ L) (hL : L ≤ 2048) {x : S7} {y : S8} (hR : Rel x y) {H : Heap} {locs : List Loc} {ls : Array Slot} (hN : Nw E s (fun q => s.heap.size ≤ q) (W7 E d x ++ W8 E a y) H locs) (hl : lv_has ls 4 [(0, .ref b), (1, .ref (d.c 0)), (2, .ref (a 0)), (3, .int (nI i))])
    (K : ∀ (x' : S7) (y' : S8) (H : Heap) (locs : List Loc) (ls : Array Slot), Rel x' y' → Nw E s (fun q => s.heap.size ≤ q) (W7 E d x' ++ W8 E a y') H locs → lv_has ls 4 [(0, .ref b), (1, .ref (d.c 0)), (2, .ref (a 0)), (3, .int (nI i))] → W p l e room_1 s m #[Value.ref b] below meth c H locs 600000 7302250 (lw_Z below #[Value.ref b] s) (F0 m 776 ls [])) : W p l e room_1 s m #[Value.ref b] below meth c H locs 600000 7302250 (lw_Z below #[Value.ref b] s) (F0 m 493 ls []) := by
  obtain ⟨hx, hb, hr, hml, hown, hts, hX, hbl, hlocks, hgv⟩ := id C0
  have hbA : ¬ (fun q : Nat => s.heap.size ≤ q) b := Nat.not_le.mpr hbl
  obtain ⟨x', y', v, c7, c8, hR'⟩ := q_zone l E d a x y (xs (nI (i + 1)).toNatClampNeg) (xs (nI (i + 2)).toNatClampNeg) hR
  refine lv_aload_n hx hb dL_law_493 rfl (lv_at hl 1 rfl) ?_
  refine lv_aload_n hx hb dL_law_494 rfl (lv_at hl 0 rfl) ?_
  refine lv_iload_n hx hb dL_law_495 rfl (lv_at hl 3 rfl) ?_
  refine lv_iconst (v := 1) hx hb dL_law_496 rfl ?_
  refine lv_iadd hx hb dL_law_497 ?_
  refine lv_topi (fun w ew => ?_)
  obtain rfl : w = nI (i + 1) := ew.trans (nI_add i 1)
  refine va_sld hx hb hX hbl hbA hN.2.2 (vp_in_nI (by omega) (by omega)) dL_law_498 ?_
  refine lv_aload_n hx hb dL_law_499 rfl (lv_at hl 0 rfl) ?_
  refine lv_iload_n hx hb dL_law_500 rfl (lv_at hl 3 rfl) ?_
  refine lv_iconst (v := 2) hx hb dL_law_501 rfl ?_
  refine lv_iadd hx hb dL_law_502 ?_
  refine lv_topi (fun w ew => ?_)
  obtain rfl : w = nI (i + 2) := ew.trans (nI_add i 2)
  refine va_sld hx hb hX hbl hbA hN.2.2 (vp_in_nI (by omega) (by omega)) dL_law_503 ?_
  refine n_callVi (ws' := W7 E d x' ++ W8 E a y) hC hN c7 cy_X7_zone mML_L_69 mIM_X7_zone mSE_X7_zone rfl rfl (k := 0) rfl (List.Perm.refl _) (List.Perm.refl _) (W7_fst E d x x') rfl hl.1 rfl (Nat.le_of_ble_eq_true rfl) dL_law_504 ⟨Nat.le_of_ble_eq_true rfl, Nat.le_of_ble_eq_true rfl⟩ ⟨Nat.le_of_ble_eq_true rfl, Nat.le_of_ble_eq_true rfl⟩ (fun H locs hN => ?_)
  refine lv_aload_n hx hb dL_law_507 rfl (lv_at hl 2 rfl) ?_
  refine lv_aload_n hx hb dL_law_508 rfl (lv_at hl 0 rfl) ?_
  refine lv_iload_n hx hb dL_law_509 rfl (lv_at hl 3 rfl) ?_
  refine lv_iconst (v := 1) hx hb dL_law_510 rfl ?_
  refine lv_iadd hx hb dL_law_511 ?_
  refine lv_topi (fun w ew => ?_)
  obtain rfl : w = nI (i + 1) := ew.trans (nI_add i 1)
  refine va_sld hx hb hX hbl hbA hN.2.2 (vp_in_nI (by omega) (by omega)) dL_law_512 ?_
  refine lv_aload_n hx hb dL_law_513 rfl (lv_at hl 0 rfl) ?_
  refine lv_iload_n hx hb dL_law_514 rfl (lv_at hl 3 rfl) ?_
  refine lv_iconst (v := 2) hx hb dL_law_515 rfl ?_
  refine lv_iadd hx hb dL_law_516 ?_
  refine lv_topi (fun w ew => ?_)
  obtain rfl : w = nI (i + 2) := ew.trans (nI_add i 2)
  refine va_sld hx hb hX hbl hbA hN.2.2 (vp_in_nI (by omega) (by omega)) dL_law_517 ?_
  refine n_callVi (ws' := W7 E d x' ++ W8 E a y') hC hN c8 cy_X8_zone mML_L_72 mIM_X8_zone mSE_X8_zone rfl rfl (k := 0) rfl List.perm_append_comm List.perm_append_comm (W8_fst E a y y') rfl hl.1 rfl (Nat.le_of_ble_eq_true rfl) dL_law_518 ⟨Nat.le_of_ble_eq_true rfl, Nat.le_of_ble_eq_true rfl⟩ ⟨Nat.le_of_ble_eq_true rfl, Nat.le_of_ble_eq_true rfl⟩ (fun H locs hN => ?_)
  exact lv_icmp_eq (tgt := 776) hx hb dL_law_521 (by decide) (fun _ => K x' y' H locs ls hR' hN hl) (fun hne => absurd rfl hne)
set_option maxHeartbeats 4000000 in
set_option maxRecDepth 100000 in
theorem case_host {p : Program} {e : Env} {s : State} {m : MethodId} {below : List Frame} {meth : Method} {c : Code} (l : Launch) {b L : Nat} {xs : Nat → Int32} (C0 : lw_At p s m meth c b L xs) {E : EV} (hC : Cx p E s m #[Value.ref b] meth c cL_law 4 RL ret) (d : D7) (a : Nat → Nat) {i : Nat} (hi : i + 4 ≤ L) (hL : L ≤ 2048) {x : S7} {y : S8} (hR : Rel x y) {H : Heap} {locs : List Loc} {ls : Array Slot} (hN : Nw E s (fun q => s.heap.size ≤ q) (W7 E d x ++ W8 E a y) H locs) (hl : lv_has ls 4 [(0, .ref b), (1, .ref (d.c 0)), (2, .ref (a 0)), (3, .int (nI i))])
    (K : ∀ (x' : S7) (y' : S8) (H : Heap) (locs : List Loc) (ls : Array Slot), Rel x' y' → Nw E s (fun q => s.heap.size ≤ q) (W7 E d x' ++ W8 E a y') H locs → lv_has ls 4 [(0, .ref b), (1, .ref (d.c 0)), (2, .ref (a 0)), (3, .int (nI i))] → W p l e room_1 s m #[Value.ref b] below meth c H locs 600000 7302250 (lw_Z below #[Value.ref b] s) (F0 m 776 ls [])) : W p l e room_1 s m #[Value.ref b] below meth c H locs 600000 7302250 (lw_Z below #[Value.ref b] s) (F0 m 526 ls []) := by
  obtain ⟨hx, hb, hr, hml, hown, hts, hX, hbl, hlocks, hgv⟩ := id C0
  have hbA : ¬ (fun q : Nat => s.heap.size ≤ q) b := Nat.not_le.mpr hbl
  obtain ⟨x', y', v, c7, c8, hR'⟩ := q_host l E d a x y (xs (nI (i + 1)).toNatClampNeg) (xs (nI (i + 2)).toNatClampNeg) hR
  refine lv_aload_n hx hb dL_law_526 rfl (lv_at hl 1 rfl) ?_
  refine lv_aload_n hx hb dL_law_527 rfl (lv_at hl 0 rfl) ?_
  refine lv_iload_n hx hb dL_law_528 rfl (lv_at hl 3 rfl) ?_
  refine lv_iconst (v := 1) hx hb dL_law_529 rfl ?_
  refine lv_iadd hx hb dL_law_530 ?_
  refine lv_topi (fun w ew => ?_)
  obtain rfl : w = nI (i + 1) := ew.trans (nI_add i 1)
  refine va_sld hx hb hX hbl hbA hN.2.2 (vp_in_nI (by omega) (by omega)) dL_law_531 ?_
  refine lv_aload_n hx hb dL_law_532 rfl (lv_at hl 0 rfl) ?_
  refine lv_iload_n hx hb dL_law_533 rfl (lv_at hl 3 rfl) ?_
  refine lv_iconst (v := 2) hx hb dL_law_534 rfl ?_
  refine lv_iadd hx hb dL_law_535 ?_
  refine lv_topi (fun w ew => ?_)
  obtain rfl : w = nI (i + 2) := ew.trans (nI_add i 2)
  refine va_sld hx hb hX hbl hbA hN.2.2 (vp_in_nI (by omega) (by omega)) dL_law_536 ?_
  refine n_callVi (ws' := W7 E d x' ++ W8 E a y) hC hN c7 cy_X7_host mML_L_73 mIM_X7_host mSE_X7_host rfl rfl (k := 0) rfl (List.Perm.refl _) (List.Perm.refl _) (W7_fst E d x x') rfl hl.1 rfl (Nat.le_of_ble_eq_true rfl) dL_law_537 ⟨Nat.le_of_ble_eq_true rfl, Nat.le_of_ble_eq_true rfl⟩ ⟨Nat.le_of_ble_eq_true rfl, Nat.le_of_ble_eq_true rfl⟩ (fun H locs hN => ?_)
  refine lv_aload_n hx hb dL_law_540 rfl (lv_at hl 2 rfl) ?_
  refine lv_aload_n hx hb dL_law_541 rfl (lv_at hl 0 rfl) ?_
  refine lv_iload_n hx hb dL_law_542 rfl (lv_at hl 3 rfl) ?_
  refine lv_iconst (v := 1) hx hb dL_law_543 rfl ?_
  refine lv_iadd hx hb dL_law_544 ?_
  refine lv_topi (fun w ew => ?_)
  obtain rfl : w = nI (i + 1) := ew.trans (nI_add i 1)
  refine va_sld hx hb hX hbl hbA hN.2.2 (vp_in_nI (by omega) (by omega)) dL_law_545 ?_
  refine lv_aload_n hx hb dL_law_546 rfl (lv_at hl 0 rfl) ?_
  refine lv_iload_n hx hb dL_law_547 rfl (lv_at hl 3 rfl) ?_
  refine lv_iconst (v := 2) hx hb dL_law_548 rfl ?_
  refine lv_iadd hx hb dL_law_549 ?_
  refine lv_topi (fun w ew => ?_)
  obtain rfl : w = nI (i + 2) := ew.trans (nI_add i 2)
  refine va_sld hx hb hX hbl hbA hN.2.2 (vp_in_nI (by omega) (by omega)) dL_law_550 ?_
  refine n_callVi (ws' := W7 E d x' ++ W8 E a y') hC hN c8 cy_X8_host mML_L_76 mIM_X8_host mSE_X8_host rfl rfl (k := 0) rfl List.perm_append_comm List.perm_append_comm (W8_fst E a y y') rfl hl.1 rfl (Nat.le_of_ble_eq_true rfl) dL_law_551 ⟨Nat.le_of_ble_eq_true rfl, Nat.le_of_ble_eq_true rfl⟩ ⟨Nat.le_of_ble_eq_true rfl, Nat.le_of_ble_eq_true rfl⟩ (fun H locs hN => ?_)
  exact lv_icmp_eq (tgt := 776) hx hb dL_law_554 (by decide) (fun _ => K x' y' H locs ls hR' hN hl) (fun hne => absurd rfl hne)
set_option maxHeartbeats 4000000 in
set_option maxRecDepth 100000 in
theorem case_would {p : Program} {e : Env} {s : State} {m : MethodId} {below : List Frame} {meth : Method} {c : Code} (l : Launch) {b L : Nat} {xs : Nat → Int32} (C0 : lw_At p s m meth c b L xs) {E : EV} (hC : Cx p E s m #[Value.ref b] meth c cL_law 4 RL ret) (d : D7) (a : Nat → Nat) {i : Nat} (hi : i + 4 ≤ L) (hL : L ≤ 2048) {x : S7} {y : S8} (hR : Rel x y) {H : Heap} {locs : List Loc} {ls : Array Slot} (hN : Nw E s (fun q => s.heap.size ≤ q) (W7 E d x ++ W8 E a y) H locs) (hl : lv_has ls 4 [(0, .ref b), (1, .ref (d.c 0)), (2, .ref (a 0)), (3, .int (nI i))])
    (K : ∀ (x' : S7) (y' : S8) (H : Heap) (locs : List Loc) (ls : Array Slot), Rel x' y' → Nw E s (fun q => s.heap.size ≤ q) (W7 E d x' ++ W8 E a y') H locs → lv_has ls 4 [(0, .ref b), (1, .ref (d.c 0)), (2, .ref (a 0)), (3, .int (nI i))] → W p l e room_1 s m #[Value.ref b] below meth c H locs 600000 7302250 (lw_Z below #[Value.ref b] s) (F0 m 776 ls [])) : W p l e room_1 s m #[Value.ref b] below meth c H locs 600000 7302250 (lw_Z below #[Value.ref b] s) (F0 m 559 ls []) := by
  obtain ⟨hx, hb, hr, hml, hown, hts, hX, hbl, hlocks, hgv⟩ := id C0
  have hbA : ¬ (fun q : Nat => s.heap.size ≤ q) b := Nat.not_le.mpr hbl
  obtain ⟨x', y', v, c7, c8, hR'⟩ := q_would l E d a x y (xs (nI (i + 1)).toNatClampNeg) (xs (nI (i + 2)).toNatClampNeg) hR
  refine lv_aload_n hx hb dL_law_559 rfl (lv_at hl 1 rfl) ?_
  refine lv_aload_n hx hb dL_law_560 rfl (lv_at hl 0 rfl) ?_
  refine lv_iload_n hx hb dL_law_561 rfl (lv_at hl 3 rfl) ?_
  refine lv_iconst (v := 1) hx hb dL_law_562 rfl ?_
  refine lv_iadd hx hb dL_law_563 ?_
  refine lv_topi (fun w ew => ?_)
  obtain rfl : w = nI (i + 1) := ew.trans (nI_add i 1)
  refine va_sld hx hb hX hbl hbA hN.2.2 (vp_in_nI (by omega) (by omega)) dL_law_564 ?_
  refine lv_aload_n hx hb dL_law_565 rfl (lv_at hl 0 rfl) ?_
  refine lv_iload_n hx hb dL_law_566 rfl (lv_at hl 3 rfl) ?_
  refine lv_iconst (v := 2) hx hb dL_law_567 rfl ?_
  refine lv_iadd hx hb dL_law_568 ?_
  refine lv_topi (fun w ew => ?_)
  obtain rfl : w = nI (i + 2) := ew.trans (nI_add i 2)
  refine va_sld hx hb hX hbl hbA hN.2.2 (vp_in_nI (by omega) (by omega)) dL_law_569 ?_
  refine n_callVi (ws' := W7 E d x' ++ W8 E a y) hC hN c7 cy_X7_would mML_L_77 mIM_X7_would mSE_X7_would rfl rfl (k := 0) rfl (List.Perm.refl _) (List.Perm.refl _) (W7_fst E d x x') rfl hl.1 rfl (Nat.le_of_ble_eq_true rfl) dL_law_570 ⟨Nat.le_of_ble_eq_true rfl, Nat.le_of_ble_eq_true rfl⟩ ⟨Nat.le_of_ble_eq_true rfl, Nat.le_of_ble_eq_true rfl⟩ (fun H locs hN => ?_)
  refine lv_aload_n hx hb dL_law_573 rfl (lv_at hl 2 rfl) ?_
  refine lv_aload_n hx hb dL_law_574 rfl (lv_at hl 0 rfl) ?_
  refine lv_iload_n hx hb dL_law_575 rfl (lv_at hl 3 rfl) ?_
  refine lv_iconst (v := 1) hx hb dL_law_576 rfl ?_
  refine lv_iadd hx hb dL_law_577 ?_
  refine lv_topi (fun w ew => ?_)
  obtain rfl : w = nI (i + 1) := ew.trans (nI_add i 1)
  refine va_sld hx hb hX hbl hbA hN.2.2 (vp_in_nI (by omega) (by omega)) dL_law_578 ?_
  refine lv_aload_n hx hb dL_law_579 rfl (lv_at hl 0 rfl) ?_
  refine lv_iload_n hx hb dL_law_580 rfl (lv_at hl 3 rfl) ?_
  refine lv_iconst (v := 2) hx hb dL_law_581 rfl ?_
  refine lv_iadd hx hb dL_law_582 ?_
  refine lv_topi (fun w ew => ?_)
  obtain rfl : w = nI (i + 2) := ew.trans (nI_add i 2)
  refine va_sld hx hb hX hbl hbA hN.2.2 (vp_in_nI (by omega) (by omega)) dL_law_583 ?_
  refine n_callVi (ws' := W7 E d x' ++ W8 E a y') hC hN c8 cy_X8_would mML_L_80 mIM_X8_would mSE_X8_would rfl rfl (k := 0) rfl List.perm_append_comm List.perm_append_comm (W8_fst E a y y') rfl hl.1 rfl (Nat.le_of_ble_eq_true rfl) dL_law_584 ⟨Nat.le_of_ble_eq_true rfl, Nat.le_of_ble_eq_true rfl⟩ ⟨Nat.le_of_ble_eq_true rfl, Nat.le_of_ble_eq_true rfl⟩ (fun H locs hN => ?_)
  exact lv_icmp_eq (tgt := 776) hx hb dL_law_587 (by decide) (fun _ => K x' y' H locs ls hR' hN hl) (fun hne => absurd rfl hne)
set_option maxHeartbeats 4000000 in
set_option maxRecDepth 100000 in
theorem case_weakest {p : Program} {e : Env} {s : State} {m : MethodId} {below : List Frame} {meth : Method} {c : Code} (l : Launch) {b L : Nat} {xs : Nat → Int32} (C0 : lw_At p s m meth c b L xs) {E : EV} (hC : Cx p E s m #[Value.ref b] meth c cL_law 4 RL ret) (d : D7) (a : Nat → Nat) {i : Nat} (hi : i + 4 ≤ L) (hL : L ≤ 2048) {x : S7} {y : S8} (hR : Rel x y) {H : Heap} {locs : List Loc} {ls : Array Slot} (hN : Nw E s (fun q => s.heap.size ≤ q) (W7 E d x ++ W8 E a y) H locs) (hl : lv_has ls 4 [(0, .ref b), (1, .ref (d.c 0)), (2, .ref (a 0)), (3, .int (nI i))])
    (K : ∀ (x' : S7) (y' : S8) (H : Heap) (locs : List Loc) (ls : Array Slot), Rel x' y' → Nw E s (fun q => s.heap.size ≤ q) (W7 E d x' ++ W8 E a y') H locs → lv_has ls 4 [(0, .ref b), (1, .ref (d.c 0)), (2, .ref (a 0)), (3, .int (nI i))] → W p l e room_1 s m #[Value.ref b] below meth c H locs 600000 7302250 (lw_Z below #[Value.ref b] s) (F0 m 776 ls [])) : W p l e room_1 s m #[Value.ref b] below meth c H locs 600000 7302250 (lw_Z below #[Value.ref b] s) (F0 m 592 ls []) := by
  obtain ⟨hx, hb, hr, hml, hown, hts, hX, hbl, hlocks, hgv⟩ := id C0
  have hbA : ¬ (fun q : Nat => s.heap.size ≤ q) b := Nat.not_le.mpr hbl
  obtain ⟨x', y', v, c7, c8, hR'⟩ := q_weakest l E d a x y (xs (nI (i + 1)).toNatClampNeg) hR
  refine lv_aload_n hx hb dL_law_592 rfl (lv_at hl 1 rfl) ?_
  refine lv_aload_n hx hb dL_law_593 rfl (lv_at hl 0 rfl) ?_
  refine lv_iload_n hx hb dL_law_594 rfl (lv_at hl 3 rfl) ?_
  refine lv_iconst (v := 1) hx hb dL_law_595 rfl ?_
  refine lv_iadd hx hb dL_law_596 ?_
  refine lv_topi (fun w ew => ?_)
  obtain rfl : w = nI (i + 1) := ew.trans (nI_add i 1)
  refine va_sld hx hb hX hbl hbA hN.2.2 (vp_in_nI (by omega) (by omega)) dL_law_597 ?_
  refine n_callVi (ws' := W7 E d x' ++ W8 E a y) hC hN c7 cy_X7_weakest mML_L_81 mIM_X7_weakest mSE_X7_weakest rfl rfl (k := 0) rfl (List.Perm.refl _) (List.Perm.refl _) (W7_fst E d x x') rfl hl.1 rfl (Nat.le_of_ble_eq_true rfl) dL_law_598 ⟨Nat.le_of_ble_eq_true rfl, Nat.le_of_ble_eq_true rfl⟩ ⟨Nat.le_of_ble_eq_true rfl, Nat.le_of_ble_eq_true rfl⟩ (fun H locs hN => ?_)
  refine lv_aload_n hx hb dL_law_601 rfl (lv_at hl 2 rfl) ?_
  refine lv_aload_n hx hb dL_law_602 rfl (lv_at hl 0 rfl) ?_
  refine lv_iload_n hx hb dL_law_603 rfl (lv_at hl 3 rfl) ?_
  refine lv_iconst (v := 1) hx hb dL_law_604 rfl ?_
  refine lv_iadd hx hb dL_law_605 ?_
  refine lv_topi (fun w ew => ?_)
  obtain rfl : w = nI (i + 1) := ew.trans (nI_add i 1)
  refine va_sld hx hb hX hbl hbA hN.2.2 (vp_in_nI (by omega) (by omega)) dL_law_606 ?_
  refine n_callVi (ws' := W7 E d x' ++ W8 E a y') hC hN c8 cy_X8_weakest mML_L_84 mIM_X8_weakest mSE_X8_weakest rfl rfl (k := 0) rfl List.perm_append_comm List.perm_append_comm (W8_fst E a y y') rfl hl.1 rfl (Nat.le_of_ble_eq_true rfl) dL_law_607 ⟨Nat.le_of_ble_eq_true rfl, Nat.le_of_ble_eq_true rfl⟩ ⟨Nat.le_of_ble_eq_true rfl, Nat.le_of_ble_eq_true rfl⟩ (fun H locs hN => ?_)
  exact lv_icmp_eq (tgt := 776) hx hb dL_law_610 (by decide) (fun _ => K x' y' H locs ls hR' hN hl) (fun hne => absurd rfl hne)
set_option maxHeartbeats 4000000 in
set_option maxRecDepth 100000 in
theorem case_sees {p : Program} {e : Env} {s : State} {m : MethodId} {below : List Frame} {meth : Method} {c : Code} (l : Launch) {b L : Nat} {xs : Nat → Int32} (C0 : lw_At p s m meth c b L xs) {E : EV} (hC : Cx p E s m #[Value.ref b] meth c cL_law 4 RL ret) (d : D7) (a : Nat → Nat) {i : Nat} (hi : i + 4 ≤ L) (hL : L ≤ 2048) {x : S7} {y : S8} (hR : Rel x y) {H : Heap} {locs : List Loc} {ls : Array Slot} (hN : Nw E s (fun q => s.heap.size ≤ q) (W7 E d x ++ W8 E a y) H locs) (hl : lv_has ls 4 [(0, .ref b), (1, .ref (d.c 0)), (2, .ref (a 0)), (3, .int (nI i))])
    (K : ∀ (x' : S7) (y' : S8) (H : Heap) (locs : List Loc) (ls : Array Slot), Rel x' y' → Nw E s (fun q => s.heap.size ≤ q) (W7 E d x' ++ W8 E a y') H locs → lv_has ls 4 [(0, .ref b), (1, .ref (d.c 0)), (2, .ref (a 0)), (3, .int (nI i))] → W p l e room_1 s m #[Value.ref b] below meth c H locs 600000 7302250 (lw_Z below #[Value.ref b] s) (F0 m 776 ls [])) : W p l e room_1 s m #[Value.ref b] below meth c H locs 600000 7302250 (lw_Z below #[Value.ref b] s) (F0 m 615 ls []) := by
  obtain ⟨hx, hb, hr, hml, hown, hts, hX, hbl, hlocks, hgv⟩ := id C0
  have hbA : ¬ (fun q : Nat => s.heap.size ≤ q) b := Nat.not_le.mpr hbl
  obtain ⟨x', y', v, c7, c8, hR'⟩ := q_sees l E d a x y (xs (nI (i + 1)).toNatClampNeg) (xs (nI (i + 2)).toNatClampNeg) (xs (nI (i + 3)).toNatClampNeg) hR
  refine lv_aload_n hx hb dL_law_615 rfl (lv_at hl 1 rfl) ?_
  refine lv_aload_n hx hb dL_law_616 rfl (lv_at hl 0 rfl) ?_
  refine lv_iload_n hx hb dL_law_617 rfl (lv_at hl 3 rfl) ?_
  refine lv_iconst (v := 1) hx hb dL_law_618 rfl ?_
  refine lv_iadd hx hb dL_law_619 ?_
  refine lv_topi (fun w ew => ?_)
  obtain rfl : w = nI (i + 1) := ew.trans (nI_add i 1)
  refine va_sld hx hb hX hbl hbA hN.2.2 (vp_in_nI (by omega) (by omega)) dL_law_620 ?_
  refine lv_aload_n hx hb dL_law_621 rfl (lv_at hl 0 rfl) ?_
  refine lv_iload_n hx hb dL_law_622 rfl (lv_at hl 3 rfl) ?_
  refine lv_iconst (v := 2) hx hb dL_law_623 rfl ?_
  refine lv_iadd hx hb dL_law_624 ?_
  refine lv_topi (fun w ew => ?_)
  obtain rfl : w = nI (i + 2) := ew.trans (nI_add i 2)
  refine va_sld hx hb hX hbl hbA hN.2.2 (vp_in_nI (by omega) (by omega)) dL_law_625 ?_
  refine lv_aload_n hx hb dL_law_626 rfl (lv_at hl 0 rfl) ?_
  refine lv_iload_n hx hb dL_law_627 rfl (lv_at hl 3 rfl) ?_
  refine lv_iconst (v := 3) hx hb dL_law_628 rfl ?_
  refine lv_iadd hx hb dL_law_629 ?_
  refine lv_topi (fun w ew => ?_)
  obtain rfl : w = nI (i + 3) := ew.trans (nI_add i 3)
  refine va_sld hx hb hX hbl hbA hN.2.2 (vp_in_nI (by omega) (by omega)) dL_law_630 ?_
  refine n_callVi (ws' := W7 E d x' ++ W8 E a y) hC hN c7 cy_X7_sees mML_L_85 mIM_X7_sees mSE_X7_sees rfl rfl (k := 0) rfl (List.Perm.refl _) (List.Perm.refl _) (W7_fst E d x x') rfl hl.1 rfl (Nat.le_of_ble_eq_true rfl) dL_law_631 ⟨Nat.le_of_ble_eq_true rfl, Nat.le_of_ble_eq_true rfl⟩ ⟨Nat.le_of_ble_eq_true rfl, Nat.le_of_ble_eq_true rfl⟩ (fun H locs hN => ?_)
  refine lv_aload_n hx hb dL_law_634 rfl (lv_at hl 2 rfl) ?_
  refine lv_aload_n hx hb dL_law_635 rfl (lv_at hl 0 rfl) ?_
  refine lv_iload_n hx hb dL_law_636 rfl (lv_at hl 3 rfl) ?_
  refine lv_iconst (v := 1) hx hb dL_law_637 rfl ?_
  refine lv_iadd hx hb dL_law_638 ?_
  refine lv_topi (fun w ew => ?_)
  obtain rfl : w = nI (i + 1) := ew.trans (nI_add i 1)
  refine va_sld hx hb hX hbl hbA hN.2.2 (vp_in_nI (by omega) (by omega)) dL_law_639 ?_
  refine lv_aload_n hx hb dL_law_640 rfl (lv_at hl 0 rfl) ?_
  refine lv_iload_n hx hb dL_law_641 rfl (lv_at hl 3 rfl) ?_
  refine lv_iconst (v := 2) hx hb dL_law_642 rfl ?_
  refine lv_iadd hx hb dL_law_643 ?_
  refine lv_topi (fun w ew => ?_)
  obtain rfl : w = nI (i + 2) := ew.trans (nI_add i 2)
  refine va_sld hx hb hX hbl hbA hN.2.2 (vp_in_nI (by omega) (by omega)) dL_law_644 ?_
  refine lv_aload_n hx hb dL_law_645 rfl (lv_at hl 0 rfl) ?_
  refine lv_iload_n hx hb dL_law_646 rfl (lv_at hl 3 rfl) ?_
  refine lv_iconst (v := 3) hx hb dL_law_647 rfl ?_
  refine lv_iadd hx hb dL_law_648 ?_
  refine lv_topi (fun w ew => ?_)
  obtain rfl : w = nI (i + 3) := ew.trans (nI_add i 3)
  refine va_sld hx hb hX hbl hbA hN.2.2 (vp_in_nI (by omega) (by omega)) dL_law_649 ?_
  refine n_callVi (ws' := W7 E d x' ++ W8 E a y') hC hN c8 cy_X8_sees mML_L_88 mIM_X8_sees mSE_X8_sees rfl rfl (k := 0) rfl List.perm_append_comm List.perm_append_comm (W8_fst E a y y') rfl hl.1 rfl (Nat.le_of_ble_eq_true rfl) dL_law_650 ⟨Nat.le_of_ble_eq_true rfl, Nat.le_of_ble_eq_true rfl⟩ ⟨Nat.le_of_ble_eq_true rfl, Nat.le_of_ble_eq_true rfl⟩ (fun H locs hN => ?_)
  exact lv_icmp_eq (tgt := 776) hx hb dL_law_653 (by decide) (fun _ => K x' y' H locs ls hR' hN hl) (fun hne => absurd rfl hne)
set_option maxHeartbeats 4000000 in
set_option maxRecDepth 100000 in
theorem case_forget {p : Program} {e : Env} {s : State} {m : MethodId} {below : List Frame} {meth : Method} {c : Code} (l : Launch) {b L : Nat} {xs : Nat → Int32} (C0 : lw_At p s m meth c b L xs) {E : EV} (hC : Cx p E s m #[Value.ref b] meth c cL_law 4 RL ret) (d : D7) (a : Nat → Nat) {i : Nat} (hi : i + 4 ≤ L) (hL : L ≤ 2048) {x : S7} {y : S8} (hR : Rel x y) {H : Heap} {locs : List Loc} {ls : Array Slot} (hN : Nw E s (fun q => s.heap.size ≤ q) (W7 E d x ++ W8 E a y) H locs) (hl : lv_has ls 4 [(0, .ref b), (1, .ref (d.c 0)), (2, .ref (a 0)), (3, .int (nI i))])
    (K : ∀ (x' : S7) (y' : S8) (H : Heap) (locs : List Loc) (ls : Array Slot), Rel x' y' → Nw E s (fun q => s.heap.size ≤ q) (W7 E d x' ++ W8 E a y') H locs → lv_has ls 4 [(0, .ref b), (1, .ref (d.c 0)), (2, .ref (a 0)), (3, .int (nI i))] → W p l e room_1 s m #[Value.ref b] below meth c H locs 600000 7302250 (lw_Z below #[Value.ref b] s) (F0 m 776 ls [])) : W p l e room_1 s m #[Value.ref b] below meth c H locs 600000 7302250 (lw_Z below #[Value.ref b] s) (F0 m 658 ls []) := by
  obtain ⟨hx, hb, hr, hml, hown, hts, hX, hbl, hlocks, hgv⟩ := id C0
  have hbA : ¬ (fun q : Nat => s.heap.size ≤ q) b := Nat.not_le.mpr hbl
  obtain ⟨x', y', v, c7, c8, hR'⟩ := q_forget l E d a x y  hR
  refine lv_aload_n hx hb dL_law_658 rfl (lv_at hl 1 rfl) ?_
  refine n_callVi (ws' := W7 E d x' ++ W8 E a y) hC hN c7 cy_X7_forget mML_L_89 mIM_X7_forget mSE_X7_forget rfl rfl (k := 0) rfl (List.Perm.refl _) (List.Perm.refl _) (W7_fst E d x x') rfl hl.1 rfl (Nat.le_of_ble_eq_true rfl) dL_law_659 ⟨Nat.le_of_ble_eq_true rfl, Nat.le_of_ble_eq_true rfl⟩ ⟨Nat.le_of_ble_eq_true rfl, Nat.le_of_ble_eq_true rfl⟩ (fun H locs hN => ?_)
  refine lv_aload_n hx hb dL_law_662 rfl (lv_at hl 2 rfl) ?_
  refine n_callVi (ws' := W7 E d x' ++ W8 E a y') hC hN c8 cy_X8_forget mML_L_92 mIM_X8_forget mSE_X8_forget rfl rfl (k := 0) rfl List.perm_append_comm List.perm_append_comm (W8_fst E a y y') rfl hl.1 rfl (Nat.le_of_ble_eq_true rfl) dL_law_663 ⟨Nat.le_of_ble_eq_true rfl, Nat.le_of_ble_eq_true rfl⟩ ⟨Nat.le_of_ble_eq_true rfl, Nat.le_of_ble_eq_true rfl⟩ (fun H locs hN => ?_)
  exact lv_icmp_eq (tgt := 776) hx hb dL_law_666 (by decide) (fun _ => K x' y' H locs ls hR' hN hl) (fun hne => absurd rfl hne)
set_option maxHeartbeats 4000000 in
set_option maxRecDepth 100000 in
theorem case_which {p : Program} {e : Env} {s : State} {m : MethodId} {below : List Frame} {meth : Method} {c : Code} (l : Launch) {b L : Nat} {xs : Nat → Int32} (C0 : lw_At p s m meth c b L xs) {E : EV} (hC : Cx p E s m #[Value.ref b] meth c cL_law 4 RL ret) (d : D7) (a : Nat → Nat) {i : Nat} (hi : i + 4 ≤ L) (hL : L ≤ 2048) {x : S7} {y : S8} (hR : Rel x y) {H : Heap} {locs : List Loc} {ls : Array Slot} (hN : Nw E s (fun q => s.heap.size ≤ q) (W7 E d x ++ W8 E a y) H locs) (hl : lv_has ls 4 [(0, .ref b), (1, .ref (d.c 0)), (2, .ref (a 0)), (3, .int (nI i))])
    (K : ∀ (x' : S7) (y' : S8) (H : Heap) (locs : List Loc) (ls : Array Slot), Rel x' y' → Nw E s (fun q => s.heap.size ≤ q) (W7 E d x' ++ W8 E a y') H locs → lv_has ls 4 [(0, .ref b), (1, .ref (d.c 0)), (2, .ref (a 0)), (3, .int (nI i))] → W p l e room_1 s m #[Value.ref b] below meth c H locs 600000 7302250 (lw_Z below #[Value.ref b] s) (F0 m 776 ls [])) : W p l e room_1 s m #[Value.ref b] below meth c H locs 600000 7302250 (lw_Z below #[Value.ref b] s) (F0 m 671 ls []) := by
  obtain ⟨hx, hb, hr, hml, hown, hts, hX, hbl, hlocks, hgv⟩ := id C0
  have hbA : ¬ (fun q : Nat => s.heap.size ≤ q) b := Nat.not_le.mpr hbl
  obtain ⟨x', y', v, c7, c8, hR'⟩ := q_which l E d a x y (xs (nI (i + 1)).toNatClampNeg) hR
  refine lv_aload_n hx hb dL_law_671 rfl (lv_at hl 1 rfl) ?_
  refine lv_aload_n hx hb dL_law_672 rfl (lv_at hl 0 rfl) ?_
  refine lv_iload_n hx hb dL_law_673 rfl (lv_at hl 3 rfl) ?_
  refine lv_iconst (v := 1) hx hb dL_law_674 rfl ?_
  refine lv_iadd hx hb dL_law_675 ?_
  refine lv_topi (fun w ew => ?_)
  obtain rfl : w = nI (i + 1) := ew.trans (nI_add i 1)
  refine va_sld hx hb hX hbl hbA hN.2.2 (vp_in_nI (by omega) (by omega)) dL_law_676 ?_
  refine n_callVi (ws' := W7 E d x' ++ W8 E a y) hC hN c7 cy_X7_which mML_L_93 mIM_X7_which mSE_X7_which rfl rfl (k := 0) rfl (List.Perm.refl _) (List.Perm.refl _) (W7_fst E d x x') rfl hl.1 rfl (Nat.le_of_ble_eq_true rfl) dL_law_677 ⟨Nat.le_of_ble_eq_true rfl, Nat.le_of_ble_eq_true rfl⟩ ⟨Nat.le_of_ble_eq_true rfl, Nat.le_of_ble_eq_true rfl⟩ (fun H locs hN => ?_)
  refine lv_aload_n hx hb dL_law_680 rfl (lv_at hl 2 rfl) ?_
  refine lv_aload_n hx hb dL_law_681 rfl (lv_at hl 0 rfl) ?_
  refine lv_iload_n hx hb dL_law_682 rfl (lv_at hl 3 rfl) ?_
  refine lv_iconst (v := 1) hx hb dL_law_683 rfl ?_
  refine lv_iadd hx hb dL_law_684 ?_
  refine lv_topi (fun w ew => ?_)
  obtain rfl : w = nI (i + 1) := ew.trans (nI_add i 1)
  refine va_sld hx hb hX hbl hbA hN.2.2 (vp_in_nI (by omega) (by omega)) dL_law_685 ?_
  refine n_callVi (ws' := W7 E d x' ++ W8 E a y') hC hN c8 cy_X8_which mML_L_96 mIM_X8_which mSE_X8_which rfl rfl (k := 0) rfl List.perm_append_comm List.perm_append_comm (W8_fst E a y y') rfl hl.1 rfl (Nat.le_of_ble_eq_true rfl) dL_law_686 ⟨Nat.le_of_ble_eq_true rfl, Nat.le_of_ble_eq_true rfl⟩ ⟨Nat.le_of_ble_eq_true rfl, Nat.le_of_ble_eq_true rfl⟩ (fun H locs hN => ?_)
  exact lv_icmp_eq (tgt := 776) hx hb dL_law_689 (by decide) (fun _ => K x' y' H locs ls hR' hN hl) (fun hne => absurd rfl hne)
set_option maxHeartbeats 4000000 in
set_option maxRecDepth 100000 in
theorem case_ask {p : Program} {e : Env} {s : State} {m : MethodId} {below : List Frame} {meth : Method} {c : Code} (l : Launch) {b L : Nat} {xs : Nat → Int32} (C0 : lw_At p s m meth c b L xs) {E : EV} (hC : Cx p E s m #[Value.ref b] meth c cL_law 4 RL ret) (d : D7) (a : Nat → Nat) {i : Nat} (hi : i + 4 ≤ L) (hL : L ≤ 2048) {x : S7} {y : S8} (hR : Rel x y) {H : Heap} {locs : List Loc} {ls : Array Slot} (hN : Nw E s (fun q => s.heap.size ≤ q) (W7 E d x ++ W8 E a y) H locs) (hl : lv_has ls 4 [(0, .ref b), (1, .ref (d.c 0)), (2, .ref (a 0)), (3, .int (nI i))])
    (K : ∀ (x' : S7) (y' : S8) (H : Heap) (locs : List Loc) (ls : Array Slot), Rel x' y' → Nw E s (fun q => s.heap.size ≤ q) (W7 E d x' ++ W8 E a y') H locs → lv_has ls 4 [(0, .ref b), (1, .ref (d.c 0)), (2, .ref (a 0)), (3, .int (nI i))] → W p l e room_1 s m #[Value.ref b] below meth c H locs 600000 7302250 (lw_Z below #[Value.ref b] s) (F0 m 776 ls [])) : W p l e room_1 s m #[Value.ref b] below meth c H locs 600000 7302250 (lw_Z below #[Value.ref b] s) (F0 m 694 ls []) := by
  obtain ⟨hx, hb, hr, hml, hown, hts, hX, hbl, hlocks, hgv⟩ := id C0
  have hbA : ¬ (fun q : Nat => s.heap.size ≤ q) b := Nat.not_le.mpr hbl
  obtain ⟨x', y', v, c7, c8, hR'⟩ := q_ask l E d a x y  hR
  refine lv_aload_n hx hb dL_law_694 rfl (lv_at hl 1 rfl) ?_
  refine n_callVi (ws' := W7 E d x' ++ W8 E a y) hC hN c7 cy_X7_ask mML_L_97 mIM_X7_ask mSE_X7_ask rfl rfl (k := 0) rfl (List.Perm.refl _) (List.Perm.refl _) (W7_fst E d x x') rfl hl.1 rfl (Nat.le_of_ble_eq_true rfl) dL_law_695 ⟨Nat.le_of_ble_eq_true rfl, Nat.le_of_ble_eq_true rfl⟩ ⟨Nat.le_of_ble_eq_true rfl, Nat.le_of_ble_eq_true rfl⟩ (fun H locs hN => ?_)
  refine lv_aload_n hx hb dL_law_698 rfl (lv_at hl 2 rfl) ?_
  refine n_callVi (ws' := W7 E d x' ++ W8 E a y') hC hN c8 cy_X8_ask mML_L_100 mIM_X8_ask mSE_X8_ask rfl rfl (k := 0) rfl List.perm_append_comm List.perm_append_comm (W8_fst E a y y') rfl hl.1 rfl (Nat.le_of_ble_eq_true rfl) dL_law_699 ⟨Nat.le_of_ble_eq_true rfl, Nat.le_of_ble_eq_true rfl⟩ ⟨Nat.le_of_ble_eq_true rfl, Nat.le_of_ble_eq_true rfl⟩ (fun H locs hN => ?_)
  exact lv_icmp_eq (tgt := 776) hx hb dL_law_702 (by decide) (fun _ => K x' y' H locs ls hR' hN hl) (fun hne => absurd rfl hne)
set_option maxHeartbeats 4000000 in
set_option maxRecDepth 100000 in
theorem case_keep {p : Program} {e : Env} {s : State} {m : MethodId} {below : List Frame} {meth : Method} {c : Code} (l : Launch) {b L : Nat} {xs : Nat → Int32} (C0 : lw_At p s m meth c b L xs) {E : EV} (hC : Cx p E s m #[Value.ref b] meth c cL_law 4 RL ret) (d : D7) (a : Nat → Nat) {i : Nat} (hi : i + 4 ≤ L) (hL : L ≤ 2048) {x : S7} {y : S8} (hR : Rel x y) {H : Heap} {locs : List Loc} {ls : Array Slot} (hN : Nw E s (fun q => s.heap.size ≤ q) (W7 E d x ++ W8 E a y) H locs) (hl : lv_has ls 4 [(0, .ref b), (1, .ref (d.c 0)), (2, .ref (a 0)), (3, .int (nI i))])
    (K : ∀ (x' : S7) (y' : S8) (H : Heap) (locs : List Loc) (ls : Array Slot), Rel x' y' → Nw E s (fun q => s.heap.size ≤ q) (W7 E d x' ++ W8 E a y') H locs → lv_has ls 4 [(0, .ref b), (1, .ref (d.c 0)), (2, .ref (a 0)), (3, .int (nI i))] → W p l e room_1 s m #[Value.ref b] below meth c H locs 600000 7302250 (lw_Z below #[Value.ref b] s) (F0 m 776 ls [])) : W p l e room_1 s m #[Value.ref b] below meth c H locs 600000 7302250 (lw_Z below #[Value.ref b] s) (F0 m 707 ls []) := by
  obtain ⟨hx, hb, hr, hml, hown, hts, hX, hbl, hlocks, hgv⟩ := id C0
  have hbA : ¬ (fun q : Nat => s.heap.size ≤ q) b := Nat.not_le.mpr hbl
  obtain ⟨x', y', v, c7, c8, hR'⟩ := q_keep l E d a x y (xs (nI (i + 1)).toNatClampNeg) hR
  refine lv_aload_n hx hb dL_law_707 rfl (lv_at hl 1 rfl) ?_
  refine lv_aload_n hx hb dL_law_708 rfl (lv_at hl 0 rfl) ?_
  refine lv_iload_n hx hb dL_law_709 rfl (lv_at hl 3 rfl) ?_
  refine lv_iconst (v := 1) hx hb dL_law_710 rfl ?_
  refine lv_iadd hx hb dL_law_711 ?_
  refine lv_topi (fun w ew => ?_)
  obtain rfl : w = nI (i + 1) := ew.trans (nI_add i 1)
  refine va_sld hx hb hX hbl hbA hN.2.2 (vp_in_nI (by omega) (by omega)) dL_law_712 ?_
  refine n_callVi (ws' := W7 E d x' ++ W8 E a y) hC hN c7 cy_X7_keep mML_L_101 mIM_X7_keep mSE_X7_keep rfl rfl (k := 0) rfl (List.Perm.refl _) (List.Perm.refl _) (W7_fst E d x x') rfl hl.1 rfl (Nat.le_of_ble_eq_true rfl) dL_law_713 ⟨Nat.le_of_ble_eq_true rfl, Nat.le_of_ble_eq_true rfl⟩ ⟨Nat.le_of_ble_eq_true rfl, Nat.le_of_ble_eq_true rfl⟩ (fun H locs hN => ?_)
  refine lv_aload_n hx hb dL_law_716 rfl (lv_at hl 2 rfl) ?_
  refine lv_aload_n hx hb dL_law_717 rfl (lv_at hl 0 rfl) ?_
  refine lv_iload_n hx hb dL_law_718 rfl (lv_at hl 3 rfl) ?_
  refine lv_iconst (v := 1) hx hb dL_law_719 rfl ?_
  refine lv_iadd hx hb dL_law_720 ?_
  refine lv_topi (fun w ew => ?_)
  obtain rfl : w = nI (i + 1) := ew.trans (nI_add i 1)
  refine va_sld hx hb hX hbl hbA hN.2.2 (vp_in_nI (by omega) (by omega)) dL_law_721 ?_
  refine n_callVi (ws' := W7 E d x' ++ W8 E a y') hC hN c8 cy_X8_keep mML_L_104 mIM_X8_keep mSE_X8_keep rfl rfl (k := 0) rfl List.perm_append_comm List.perm_append_comm (W8_fst E a y y') rfl hl.1 rfl (Nat.le_of_ble_eq_true rfl) dL_law_722 ⟨Nat.le_of_ble_eq_true rfl, Nat.le_of_ble_eq_true rfl⟩ ⟨Nat.le_of_ble_eq_true rfl, Nat.le_of_ble_eq_true rfl⟩ (fun H locs hN => ?_)
  exact lv_icmp_eq (tgt := 776) hx hb dL_law_725 (by decide) (fun _ => K x' y' H locs ls hR' hN hl) (fun hne => absurd rfl hne)
set_option maxHeartbeats 4000000 in
set_option maxRecDepth 100000 in
theorem case_back {p : Program} {e : Env} {s : State} {m : MethodId} {below : List Frame} {meth : Method} {c : Code} (l : Launch) {b L : Nat} {xs : Nat → Int32} (C0 : lw_At p s m meth c b L xs) {E : EV} (hC : Cx p E s m #[Value.ref b] meth c cL_law 4 RL ret) (d : D7) (a : Nat → Nat) {i : Nat} (hi : i + 4 ≤ L) (hL : L ≤ 2048) {x : S7} {y : S8} (hR : Rel x y) {H : Heap} {locs : List Loc} {ls : Array Slot} (hN : Nw E s (fun q => s.heap.size ≤ q) (W7 E d x ++ W8 E a y) H locs) (hl : lv_has ls 4 [(0, .ref b), (1, .ref (d.c 0)), (2, .ref (a 0)), (3, .int (nI i))])
    (K : ∀ (x' : S7) (y' : S8) (H : Heap) (locs : List Loc) (ls : Array Slot), Rel x' y' → Nw E s (fun q => s.heap.size ≤ q) (W7 E d x' ++ W8 E a y') H locs → lv_has ls 4 [(0, .ref b), (1, .ref (d.c 0)), (2, .ref (a 0)), (3, .int (nI i))] → W p l e room_1 s m #[Value.ref b] below meth c H locs 600000 7302250 (lw_Z below #[Value.ref b] s) (F0 m 776 ls [])) : W p l e room_1 s m #[Value.ref b] below meth c H locs 600000 7302250 (lw_Z below #[Value.ref b] s) (F0 m 730 ls []) := by
  obtain ⟨hx, hb, hr, hml, hown, hts, hX, hbl, hlocks, hgv⟩ := id C0
  have hbA : ¬ (fun q : Nat => s.heap.size ≤ q) b := Nat.not_le.mpr hbl
  obtain ⟨x', y', v, c7, c8, hR'⟩ := q_back l E d a x y (xs (nI (i + 1)).toNatClampNeg) hR
  refine lv_aload_n hx hb dL_law_730 rfl (lv_at hl 1 rfl) ?_
  refine lv_aload_n hx hb dL_law_731 rfl (lv_at hl 0 rfl) ?_
  refine lv_iload_n hx hb dL_law_732 rfl (lv_at hl 3 rfl) ?_
  refine lv_iconst (v := 1) hx hb dL_law_733 rfl ?_
  refine lv_iadd hx hb dL_law_734 ?_
  refine lv_topi (fun w ew => ?_)
  obtain rfl : w = nI (i + 1) := ew.trans (nI_add i 1)
  refine va_sld hx hb hX hbl hbA hN.2.2 (vp_in_nI (by omega) (by omega)) dL_law_735 ?_
  refine n_callVi (ws' := W7 E d x' ++ W8 E a y) hC hN c7 cy_X7_back mML_L_105 mIM_X7_back mSE_X7_back rfl rfl (k := 0) rfl (List.Perm.refl _) (List.Perm.refl _) (W7_fst E d x x') rfl hl.1 rfl (Nat.le_of_ble_eq_true rfl) dL_law_736 ⟨Nat.le_of_ble_eq_true rfl, Nat.le_of_ble_eq_true rfl⟩ ⟨Nat.le_of_ble_eq_true rfl, Nat.le_of_ble_eq_true rfl⟩ (fun H locs hN => ?_)
  refine lv_aload_n hx hb dL_law_739 rfl (lv_at hl 2 rfl) ?_
  refine lv_aload_n hx hb dL_law_740 rfl (lv_at hl 0 rfl) ?_
  refine lv_iload_n hx hb dL_law_741 rfl (lv_at hl 3 rfl) ?_
  refine lv_iconst (v := 1) hx hb dL_law_742 rfl ?_
  refine lv_iadd hx hb dL_law_743 ?_
  refine lv_topi (fun w ew => ?_)
  obtain rfl : w = nI (i + 1) := ew.trans (nI_add i 1)
  refine va_sld hx hb hX hbl hbA hN.2.2 (vp_in_nI (by omega) (by omega)) dL_law_744 ?_
  refine n_callVi (ws' := W7 E d x' ++ W8 E a y') hC hN c8 cy_X8_back mML_L_108 mIM_X8_back mSE_X8_back rfl rfl (k := 0) rfl List.perm_append_comm List.perm_append_comm (W8_fst E a y y') rfl hl.1 rfl (Nat.le_of_ble_eq_true rfl) dL_law_745 ⟨Nat.le_of_ble_eq_true rfl, Nat.le_of_ble_eq_true rfl⟩ ⟨Nat.le_of_ble_eq_true rfl, Nat.le_of_ble_eq_true rfl⟩ (fun H locs hN => ?_)
  exact lv_icmp_eq (tgt := 776) hx hb dL_law_748 (by decide) (fun _ => K x' y' H locs ls hR' hN hl) (fun hne => absurd rfl hne)
set_option maxHeartbeats 4000000 in
set_option maxRecDepth 100000 in
theorem case_count {p : Program} {e : Env} {s : State} {m : MethodId} {below : List Frame} {meth : Method} {c : Code} (l : Launch) {b L : Nat} {xs : Nat → Int32} (C0 : lw_At p s m meth c b L xs) {E : EV} (hC : Cx p E s m #[Value.ref b] meth c cL_law 4 RL ret) (d : D7) (a : Nat → Nat) {i : Nat} (hi : i + 4 ≤ L) (hL : L ≤ 2048) {x : S7} {y : S8} (hR : Rel x y) {H : Heap} {locs : List Loc} {ls : Array Slot} (hN : Nw E s (fun q => s.heap.size ≤ q) (W7 E d x ++ W8 E a y) H locs) (hl : lv_has ls 4 [(0, .ref b), (1, .ref (d.c 0)), (2, .ref (a 0)), (3, .int (nI i))])
    (K : ∀ (x' : S7) (y' : S8) (H : Heap) (locs : List Loc) (ls : Array Slot), Rel x' y' → Nw E s (fun q => s.heap.size ≤ q) (W7 E d x' ++ W8 E a y') H locs → lv_has ls 4 [(0, .ref b), (1, .ref (d.c 0)), (2, .ref (a 0)), (3, .int (nI i))] → W p l e room_1 s m #[Value.ref b] below meth c H locs 600000 7302250 (lw_Z below #[Value.ref b] s) (F0 m 776 ls [])) : W p l e room_1 s m #[Value.ref b] below meth c H locs 600000 7302250 (lw_Z below #[Value.ref b] s) (F0 m 753 ls []) := by
  obtain ⟨hx, hb, hr, hml, hown, hts, hX, hbl, hlocks, hgv⟩ := id C0
  have hbA : ¬ (fun q : Nat => s.heap.size ≤ q) b := Nat.not_le.mpr hbl
  obtain ⟨x', y', v, c7, c8, hR'⟩ := q_count l E d a x y (xs (nI (i + 1)).toNatClampNeg) hR
  refine lv_aload_n hx hb dL_law_753 rfl (lv_at hl 1 rfl) ?_
  refine lv_aload_n hx hb dL_law_754 rfl (lv_at hl 0 rfl) ?_
  refine lv_iload_n hx hb dL_law_755 rfl (lv_at hl 3 rfl) ?_
  refine lv_iconst (v := 1) hx hb dL_law_756 rfl ?_
  refine lv_iadd hx hb dL_law_757 ?_
  refine lv_topi (fun w ew => ?_)
  obtain rfl : w = nI (i + 1) := ew.trans (nI_add i 1)
  refine va_sld hx hb hX hbl hbA hN.2.2 (vp_in_nI (by omega) (by omega)) dL_law_758 ?_
  refine n_callVi (ws' := W7 E d x' ++ W8 E a y) hC hN c7 cy_X7_count mML_L_109 mIM_X7_count mSE_X7_count rfl rfl (k := 0) rfl (List.Perm.refl _) (List.Perm.refl _) (W7_fst E d x x') rfl hl.1 rfl (Nat.le_of_ble_eq_true rfl) dL_law_759 ⟨Nat.le_of_ble_eq_true rfl, Nat.le_of_ble_eq_true rfl⟩ ⟨Nat.le_of_ble_eq_true rfl, Nat.le_of_ble_eq_true rfl⟩ (fun H locs hN => ?_)
  refine lv_aload_n hx hb dL_law_762 rfl (lv_at hl 2 rfl) ?_
  refine lv_aload_n hx hb dL_law_763 rfl (lv_at hl 0 rfl) ?_
  refine lv_iload_n hx hb dL_law_764 rfl (lv_at hl 3 rfl) ?_
  refine lv_iconst (v := 1) hx hb dL_law_765 rfl ?_
  refine lv_iadd hx hb dL_law_766 ?_
  refine lv_topi (fun w ew => ?_)
  obtain rfl : w = nI (i + 1) := ew.trans (nI_add i 1)
  refine va_sld hx hb hX hbl hbA hN.2.2 (vp_in_nI (by omega) (by omega)) dL_law_767 ?_
  refine n_callVi (ws' := W7 E d x' ++ W8 E a y') hC hN c8 cy_X8_count mML_L_112 mIM_X8_count mSE_X8_count rfl rfl (k := 0) rfl List.perm_append_comm List.perm_append_comm (W8_fst E a y y') rfl hl.1 rfl (Nat.le_of_ble_eq_true rfl) dL_law_768 ⟨Nat.le_of_ble_eq_true rfl, Nat.le_of_ble_eq_true rfl⟩ ⟨Nat.le_of_ble_eq_true rfl, Nat.le_of_ble_eq_true rfl⟩ (fun H locs hN => ?_)
  exact lv_icmp_eq (tgt := 776) hx hb dL_law_771 (by decide) (fun _ => K x' y' H locs ls hR' hN hl) (fun hne => absurd rfl hne)
set_option maxHeartbeats 4000000 in
set_option maxRecDepth 100000 in
theorem law_loop {p : Program} {e : Env} {s : State} {m : MethodId} {below : List Frame} {meth : Method} {c : Code} (l : Launch) {b L : Nat} {xs : Nat → Int32} (C0 : lw_At p s m meth c b L xs) {E : EV} (hC : Cx p E s m #[Value.ref b] meth c cL_law 4 RL ret) (d : D7) (a : Nat → Nat) (hL : L ≤ 2048) : ∀ (n i : Nat) (x : S7) (y : S8) (H : Heap) (locs : List Loc) (ls : Array Slot), i ≤ L + 4 → L + 4 - i < n → Rel x y → Nw E s (fun q => s.heap.size ≤ q) (W7 E d x ++ W8 E a y) H locs → lv_has ls 4 [(0, .ref b), (1, .ref (d.c 0)), (2, .ref (a 0)), (3, .int (nI i))] →
    W p l e room_1 s m #[Value.ref b] below meth c H locs 600000 7302250 (lw_Z below #[Value.ref b] s) (F0 m 18 ls []) := by
  obtain ⟨hx, hb, hr, hml, hown, hts, hX, hbl, hlocks, hgv⟩ := id C0
  have hbA : ¬ (fun q : Nat => s.heap.size ≤ q) b := Nat.not_le.mpr hbl
  intro n
  induction n with
  | zero => intro i x y H locs ls h1 h2; omega
  | succ n ih =>
    intro i x y H locs ls hiL hn hR hN hl
    refine lv_iload_n hx hb dL_law_18 rfl (lv_at hl 3 rfl) ?_
    refine lv_aload_n hx hb dL_law_19 rfl (lv_at hl 0 rfl) ?_
    refine va_slen hx hb hX hbl hbA hN.2.2 dL_law_20 ?_
    refine lv_iconst (v := 4) hx hb dL_law_21 rfl ?_
    refine lv_isub hx hb dL_law_22 ?_
    have hcmp : (Int32.ofNat L - 4 < nI i) ↔ L < i + 4 := by
      show nI L - nI 4 < nI i ↔ _
      rw [fa_lt, pk_sub_toInt (by omega) (by decide), nI_toInt (by omega)]
      omega
    refine lv_icmp_gt (tgt := 782) hx hb dL_law_23 (by decide) (fun hgt => ?_) (fun hgt => ?_)
    · refine lv_iconst (v := 1) hx hb dL_law_782 rfl ?_
      refine va_forget (fun q hq => hN.2.2.2.2 q hq) ?_
      exact lw_ret hx hb hr hlocks dL_law_783
    · have hi : i + 4 ≤ L := by
        rcases Nat.lt_or_ge L (i + 4) with q | q
        · exact absurd (hcmp.mpr q) hgt
        · exact q
      refine lv_aload_n hx hb dL_law_26 rfl (lv_at hl 0 rfl) ?_
      refine lv_iload_n hx hb dL_law_27 rfl (lv_at hl 3 rfl) ?_
      refine va_sld hx hb hX hbl hbA hN.2.2 (vp_in_nI (by omega) (by omega)) dL_law_28 ?_
      refine lv_bipush (v := 31) hx hb dL_law_29 (by decide) ?_
      refine lv_iand hx hb dL_law_31 ?_
      refine lv_topi (fun w ew => ?_)
      obtain ⟨j, hj, ej⟩ := pk_andE (xs (nI i).toNatClampNeg) (m := 31) 5 (by decide)
      obtain rfl : w = nI j := ew.trans ej
      clear ew ej
      have K : ∀ (x' : S7) (y' : S8) (H : Heap) (locs : List Loc) (ls : Array Slot), Rel x' y' → Nw E s (fun q => s.heap.size ≤ q) (W7 E d x' ++ W8 E a y') H locs → lv_has ls 4 [(0, .ref b), (1, .ref (d.c 0)), (2, .ref (a 0)), (3, .int (nI i))] → W p l e room_1 s m #[Value.ref b] below meth c H locs 600000 7302250 (lw_Z below #[Value.ref b] s) (F0 m 776 ls []) := by
        intro x' y' H locs ls hR hN hl
        refine lv_iinc (v := nI (i + 4)) (lv' := [(3, .int (nI (i + 4))), (0, .ref b), (1, .ref (d.c 0)), (2, .ref (a 0))]) hx hb dL_law_776 hl (k := 3) rfl (nI_add i 4) (by decide) rfl (fun ls hl => ?_)
        refine lv_goto (tgt := 18) hx hb dL_law_779 (by decide) ?_
        exact ih (i + 4) x' y' H locs ls (by omega) (by omega) hR hN (lv_sub hl [1, 2, 3, 0] rfl)
      have hjI : (nI j).toInt = (j : Int) := nI_toInt (by omega)
      rcases Nat.lt_or_ge j 24 with hj24 | hj24
      · have sw : ∀ (j0 : Nat), j = j0 → W p l e room_1 s m #[Value.ref b] below meth c H locs 600000 7302250 (lw_Z below #[Value.ref b] s) (F0 m 32 ls [.int (nI j)]) := by
          intro j0 hj0
          match j0, hj0 with
          | 0, hj0 => subst hj0; exact lv_tableIn (tgt := 144) hx hb dL_law_32 (by rw [hjI]; decide) (by rw [hjI]; decide) (by rw [hjI]; rfl) (by decide) (case_type l C0 hC d a hi hL hR hN hl K)
          | 1, hj0 => subst hj0; exact lv_tableIn (tgt := 167) hx hb dL_law_32 (by rw [hjI]; decide) (by rw [hjI]; decide) (by rw [hjI]; rfl) (by decide) (case_clear l C0 hC d a hi hL hR hN hl K)
          | 2, hj0 => subst hj0; exact lv_tableIn (tgt := 180) hx hb dL_law_32 (by rw [hjI]; decide) (by rw [hjI]; decide) (by rw [hjI]; rfl) (by decide) (case_tells l C0 hC d a hi hL hR hN hl K)
          | 3, hj0 => subst hj0; exact lv_tableIn (tgt := 193) hx hb dL_law_32 (by rw [hjI]; decide) (by rw [hjI]; decide) (by rw [hjI]; rfl) (by decide) (case_joins l C0 hC d a hi hL hR hN hl K)
          | 4, hj0 => subst hj0; exact lv_tableIn (tgt := 226) hx hb dL_law_32 (by rw [hjI]; decide) (by rw [hjI]; decide) (by rw [hjI]; rfl) (by decide) (case_cuts l C0 hC d a hi hL hR hN hl K)
          | 5, hj0 => subst hj0; exact lv_tableIn (tgt := 259) hx hb dL_law_32 (by rw [hjI]; decide) (by rw [hjI]; decide) (by rw [hjI]; rfl) (by decide) (case_zones l C0 hC d a hi hL hR hN hl K)
          | 6, hj0 => subst hj0; exact lv_tableIn (tgt := 302) hx hb dL_law_32 (by rw [hjI]; decide) (by rw [hjI]; decide) (by rw [hjI]; rfl) (by decide) (case_moves l C0 hC d a hi hL hR hN hl K)
          | 7, hj0 => subst hj0; exact lv_tableIn (tgt := 335) hx hb dL_law_32 (by rw [hjI]; decide) (by rw [hjI]; decide) (by rw [hjI]; rfl) (by decide) (case_ranks l C0 hC d a hi hL hR hN hl K)
          | 8, hj0 => subst hj0; exact lv_tableIn (tgt := 368) hx hb dL_law_32 (by rw [hjI]; decide) (by rw [hjI]; decide) (by rw [hjI]; rfl) (by decide) (case_renews l C0 hC d a hi hL hR hN hl K)
          | 9, hj0 => subst hj0; exact lv_tableIn (tgt := 391) hx hb dL_law_32 (by rw [hjI]; decide) (by rw [hjI]; decide) (by rw [hjI]; rfl) (by decide) (case_allows l C0 hC d a hi hL hR hN hl K)
          | 10, hj0 => subst hj0; exact lv_tableIn (tgt := 414) hx hb dL_law_32 (by rw [hjI]; decide) (by rw [hjI]; decide) (by rw [hjI]; rfl) (by decide) (case_undo l C0 hC d a hi hL hR hN hl K)
          | 11, hj0 => subst hj0; exact lv_tableIn (tgt := 427) hx hb dL_law_32 (by rw [hjI]; decide) (by rw [hjI]; decide) (by rw [hjI]; rfl) (by decide) (case_device l C0 hC d a hi hL hR hN hl K)
          | 12, hj0 => subst hj0; exact lv_tableIn (tgt := 460) hx hb dL_law_32 (by rw [hjI]; decide) (by rw [hjI]; decide) (by rw [hjI]; rfl) (by decide) (case_link l C0 hC d a hi hL hR hN hl K)
          | 13, hj0 => subst hj0; exact lv_tableIn (tgt := 493) hx hb dL_law_32 (by rw [hjI]; decide) (by rw [hjI]; decide) (by rw [hjI]; rfl) (by decide) (case_zone l C0 hC d a hi hL hR hN hl K)
          | 14, hj0 => subst hj0; exact lv_tableIn (tgt := 526) hx hb dL_law_32 (by rw [hjI]; decide) (by rw [hjI]; decide) (by rw [hjI]; rfl) (by decide) (case_host l C0 hC d a hi hL hR hN hl K)
          | 15, hj0 => subst hj0; exact lv_tableIn (tgt := 559) hx hb dL_law_32 (by rw [hjI]; decide) (by rw [hjI]; decide) (by rw [hjI]; rfl) (by decide) (case_would l C0 hC d a hi hL hR hN hl K)
          | 16, hj0 => subst hj0; exact lv_tableIn (tgt := 592) hx hb dL_law_32 (by rw [hjI]; decide) (by rw [hjI]; decide) (by rw [hjI]; rfl) (by decide) (case_weakest l C0 hC d a hi hL hR hN hl K)
          | 17, hj0 => subst hj0; exact lv_tableIn (tgt := 615) hx hb dL_law_32 (by rw [hjI]; decide) (by rw [hjI]; decide) (by rw [hjI]; rfl) (by decide) (case_sees l C0 hC d a hi hL hR hN hl K)
          | 18, hj0 => subst hj0; exact lv_tableIn (tgt := 658) hx hb dL_law_32 (by rw [hjI]; decide) (by rw [hjI]; decide) (by rw [hjI]; rfl) (by decide) (case_forget l C0 hC d a hi hL hR hN hl K)
          | 19, hj0 => subst hj0; exact lv_tableIn (tgt := 671) hx hb dL_law_32 (by rw [hjI]; decide) (by rw [hjI]; decide) (by rw [hjI]; rfl) (by decide) (case_which l C0 hC d a hi hL hR hN hl K)
          | 20, hj0 => subst hj0; exact lv_tableIn (tgt := 694) hx hb dL_law_32 (by rw [hjI]; decide) (by rw [hjI]; decide) (by rw [hjI]; rfl) (by decide) (case_ask l C0 hC d a hi hL hR hN hl K)
          | 21, hj0 => subst hj0; exact lv_tableIn (tgt := 707) hx hb dL_law_32 (by rw [hjI]; decide) (by rw [hjI]; decide) (by rw [hjI]; rfl) (by decide) (case_keep l C0 hC d a hi hL hR hN hl K)
          | 22, hj0 => subst hj0; exact lv_tableIn (tgt := 730) hx hb dL_law_32 (by rw [hjI]; decide) (by rw [hjI]; decide) (by rw [hjI]; rfl) (by decide) (case_back l C0 hC d a hi hL hR hN hl K)
          | 23, hj0 => subst hj0; exact lv_tableIn (tgt := 753) hx hb dL_law_32 (by rw [hjI]; decide) (by rw [hjI]; decide) (by rw [hjI]; rfl) (by decide) (case_count l C0 hC d a hi hL hR hN hl K)
          | j0 + 24, hj0 => omega
        exact sw j rfl
      · exact lv_tableOut (tgt := 776) hx hb dL_law_32 (Or.inr (by rw [hjI]; omega)) (by decide) (K x y H locs ls hR hN hl)
