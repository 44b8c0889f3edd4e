/-! the constructors -/
theorem dfX8 : ∀ j, j < 20 → defaultValue (tyX8 j) = vp_V [.null, .null, .null, .int 0, .null, .null, .null, .int 0, .int 0, .int 0, .int 0, .int 0, .null, .int 0, .null, .int 0, .int 0, .null, .null, .int 0] j := by decide +kernel
theorem dfX7 : ∀ j, j < 7 → defaultValue (tyX7 j) = vp_V [.null, .null, .null, .null, .null, .null, .null] j := by decide +kernel
theorem dfX6 : ∀ j, j < 3 → defaultValue (tyX6 j) = vp_V [.null, .null, .int 0] j := by decide +kernel
theorem dfX5 : ∀ j, j < 2 → defaultValue (tyX5 j) = vp_V [.null, .int 0] j := by decide +kernel
theorem dfX4 : ∀ j, j < 4 → defaultValue (tyX4 j) = vp_V [.null, .int 0, .int 0, .int 0] j := by decide +kernel
theorem dfX3 : ∀ j, j < 13 → defaultValue (tyX3 j) = vp_V [.int 0, .int 0, .int 0, .null, .null, .null, .null, .null, .null, .null, .null, .null, .null] j := by decide +kernel
theorem dfX2 : ∀ j, j < 3 → defaultValue (tyX2 j) = vp_V [.null, .int 0, .int 0] j := by decide +kernel
theorem dfX1 : ∀ j, j < 4 → defaultValue (tyX1 j) = vp_V [.int 0, .int 0, .long 0, .long 0] j := by decide +kernel
theorem dfX0 : ∀ j, j < 2 → defaultValue (tyX0 j) = vp_V [.null, .int 0] j := by decide +kernel
set_option maxHeartbeats 4000000 in
set_option maxRecDepth 100000 in
theorem kX3_init (l : Launch) (E : EV) : Mk l E yX3_init cX3_init 1 1 10 84 12 3 [.int 0, .int 0, .int 0, .null, .null, .null, .null, .null, .null, .null, .null, .null, .null] (fun h0 w1 => ∃ a : Nat → Nat, a 0 = h0 ∧ w1 = wN E a netZ) := by
  refine Mk.ofW (by decide +kernel) rfl (Nat.le_of_ble_eq_true rfl) ?_
  intro h0 p e s m args below meth c ls hC hao hin hB hN hl
  have hx := hC.1
  have hb := hC.2.1
  refine lv_aload_n hx hb dX3_init_0 rfl (lv_at hl 0 rfl) ?_
  refine n_obj hC mML_X3_3 hl.1 dX3_init_1 (Nat.le_of_ble_eq_true rfl) (Nat.le_of_ble_eq_true rfl) ?_
  refine lv_aload_n hx hb dX3_init_4 rfl (lv_at hl 0 rfl) ?_
  refine lv_bipush (v := 6) hx hb dX3_init_5 (by decide) ?_
  refine n_newI hC hN hB 6 (by decide) rfl (Nat.le_of_ble_eq_true rfl) (Nat.le_of_ble_eq_true rfl) (Nat.le_of_ble_eq_true rfl) dX3_init_7 (fun q1 H hN => ?_)
  refine n_putF (C := RX3) (T := TX3) (N := 13) (ci := 3) 3 tyX3 tyX3_ok nmX3 mLY_X3 rfl (by decide) mFL_X3_9 rfl rfl hin hC hN 0 rfl rfl rfl (Nat.le_of_ble_eq_true rfl) (ws' := [(h0, .inr (3, [.int 0, .int 0, .int 0, .ref q1, .null, .null, .null, .null, .null, .null, .null, .null, .null])), (q1, .inl (E.2 0, 6, .inl (fun _ => 0)))]) rfl dX3_init_9 (fun H locs hN => ?_)
  refine lv_aload_n hx hb dX3_init_12 rfl (lv_at hl 0 rfl) ?_
  refine lv_bipush (v := 6) hx hb dX3_init_13 (by decide) ?_
  refine n_newI hC hN hB 6 (by decide) rfl (Nat.le_of_ble_eq_true rfl) (Nat.le_of_ble_eq_true rfl) (Nat.le_of_ble_eq_true rfl) dX3_init_15 (fun q2 H hN => ?_)
  refine n_putF (C := RX3) (T := TX3) (N := 13) (ci := 3) 4 tyX3 tyX3_ok nmX3 mLY_X3 rfl (by decide) mFL_X3_15 rfl rfl hin hC hN 0 rfl rfl rfl (Nat.le_of_ble_eq_true rfl) (ws' := [(h0, .inr (3, [.int 0, .int 0, .int 0, .ref q1, .ref q2, .null, .null, .null, .null, .null, .null, .null, .null])), (q1, .inl (E.2 0, 6, .inl (fun _ => 0))), (q2, .inl (E.2 0, 6, .inl (fun _ => 0)))]) rfl dX3_init_17 (fun H locs hN => ?_)
  refine lv_aload_n hx hb dX3_init_20 rfl (lv_at hl 0 rfl) ?_
  refine lv_bipush (v := 6) hx hb dX3_init_21 (by decide) ?_
  refine n_newI hC hN hB 6 (by decide) rfl (Nat.le_of_ble_eq_true rfl) (Nat.le_of_ble_eq_true rfl) (Nat.le_of_ble_eq_true rfl) dX3_init_23 (fun q3 H hN => ?_)
  refine n_putF (C := RX3) (T := TX3) (N := 13) (ci := 3) 5 tyX3 tyX3_ok nmX3 mLY_X3 rfl (by decide) mFL_X3_18 rfl rfl hin hC hN 0 rfl rfl rfl (Nat.le_of_ble_eq_true rfl) (ws' := [(h0, .inr (3, [.int 0, .int 0, .int 0, .ref q1, .ref q2, .ref q3, .null, .null, .null, .null, .null, .null, .null])), (q1, .inl (E.2 0, 6, .inl (fun _ => 0))), (q2, .inl (E.2 0, 6, .inl (fun _ => 0))), (q3, .inl (E.2 0, 6, .inl (fun _ => 0)))]) rfl dX3_init_25 (fun H locs hN => ?_)
  refine lv_aload_n hx hb dX3_init_28 rfl (lv_at hl 0 rfl) ?_
  refine lv_bipush (v := 6) hx hb dX3_init_29 (by decide) ?_
  refine n_newI hC hN hB 6 (by decide) rfl (Nat.le_of_ble_eq_true rfl) (Nat.le_of_ble_eq_true rfl) (Nat.le_of_ble_eq_true rfl) dX3_init_31 (fun q4 H hN => ?_)
  refine n_putF (C := RX3) (T := TX3) (N := 13) (ci := 3) 6 tyX3 tyX3_ok nmX3 mLY_X3 rfl (by decide) mFL_X3_21 rfl rfl hin hC hN 0 rfl rfl rfl (Nat.le_of_ble_eq_true rfl) (ws' := [(h0, .inr (3, [.int 0, .int 0, .int 0, .ref q1, .ref q2, .ref q3, .ref q4, .null, .null, .null, .null, .null, .null])), (q1, .inl (E.2 0, 6, .inl (fun _ => 0))), (q2, .inl (E.2 0, 6, .inl (fun _ => 0))), (q3, .inl (E.2 0, 6, .inl (fun _ => 0))), (q4, .inl (E.2 0, 6, .inl (fun _ => 0)))]) rfl dX3_init_33 (fun H locs hN => ?_)
  refine lv_aload_n hx hb dX3_init_36 rfl (lv_at hl 0 rfl) ?_
  refine lv_bipush (v := 6) hx hb dX3_init_37 (by decide) ?_
  refine n_newI hC hN hB 6 (by decide) rfl (Nat.le_of_ble_eq_true rfl) (Nat.le_of_ble_eq_true rfl) (Nat.le_of_ble_eq_true rfl) dX3_init_39 (fun q5 H hN => ?_)
  refine n_putF (C := RX3) (T := TX3) (N := 13) (ci := 3) 7 tyX3 tyX3_ok nmX3 mLY_X3 rfl (by decide) mFL_X3_24 rfl rfl hin hC hN 0 rfl rfl rfl (Nat.le_of_ble_eq_true rfl) (ws' := [(h0, .inr (3, [.int 0, .int 0, .int 0, .ref q1, .ref q2, .ref q3, .ref q4, .ref q5, .null, .null, .null, .null, .null])), (q1, .inl (E.2 0, 6, .inl (fun _ => 0))), (q2, .inl (E.2 0, 6, .inl (fun _ => 0))), (q3, .inl (E.2 0, 6, .inl (fun _ => 0))), (q4, .inl (E.2 0, 6, .inl (fun _ => 0))), (q5, .inl (E.2 0, 6, .inl (fun _ => 0)))]) rfl dX3_init_41 (fun H locs hN => ?_)
  refine lv_aload_n hx hb dX3_init_44 rfl (lv_at hl 0 rfl) ?_
  refine lv_bipush (v := 6) hx hb dX3_init_45 (by decide) ?_
  refine n_newI hC hN hB 6 (by decide) rfl (Nat.le_of_ble_eq_true rfl) (Nat.le_of_ble_eq_true rfl) (Nat.le_of_ble_eq_true rfl) dX3_init_47 (fun q6 H hN => ?_)
  refine n_putF (C := RX3) (T := TX3) (N := 13) (ci := 3) 8 tyX3 tyX3_ok nmX3 mLY_X3 rfl (by decide) mFL_X3_27 rfl rfl hin hC hN 0 rfl rfl rfl (Nat.le_of_ble_eq_true rfl) (ws' := [(h0, .inr (3, [.int 0, .int 0, .int 0, .ref q1, .ref q2, .ref q3, .ref q4, .ref q5, .ref q6, .null, .null, .null, .null])), (q1, .inl (E.2 0, 6, .inl (fun _ => 0))), (q2, .inl (E.2 0, 6, .inl (fun _ => 0))), (q3, .inl (E.2 0, 6, .inl (fun _ => 0))), (q4, .inl (E.2 0, 6, .inl (fun _ => 0))), (q5, .inl (E.2 0, 6, .inl (fun _ => 0))), (q6, .inl (E.2 0, 6, .inl (fun _ => 0)))]) rfl dX3_init_49 (fun H locs hN => ?_)
  refine lv_aload_n hx hb dX3_init_52 rfl (lv_at hl 0 rfl) ?_
  refine lv_bipush (v := 24) hx hb dX3_init_53 (by decide) ?_
  refine n_newI hC hN hB 24 (by decide) rfl (Nat.le_of_ble_eq_true rfl) (Nat.le_of_ble_eq_true rfl) (Nat.le_of_ble_eq_true rfl) dX3_init_55 (fun q7 H hN => ?_)
  refine n_putF (C := RX3) (T := TX3) (N := 13) (ci := 3) 9 tyX3 tyX3_ok nmX3 mLY_X3 rfl (by decide) mFL_X3_30 rfl rfl hin hC hN 0 rfl rfl rfl (Nat.le_of_ble_eq_true rfl) (ws' := [(h0, .inr (3, [.int 0, .int 0, .int 0, .ref q1, .ref q2, .ref q3, .ref q4, .ref q5, .ref q6, .ref q7, .null, .null, .null])), (q1, .inl (E.2 0, 6, .inl (fun _ => 0))), (q2, .inl (E.2 0, 6, .inl (fun _ => 0))), (q3, .inl (E.2 0, 6, .inl (fun _ => 0))), (q4, .inl (E.2 0, 6, .inl (fun _ => 0))), (q5, .inl (E.2 0, 6, .inl (fun _ => 0))), (q6, .inl (E.2 0, 6, .inl (fun _ => 0))), (q7, .inl (E.2 0, 24, .inl (fun _ => 0)))]) rfl dX3_init_57 (fun H locs hN => ?_)
  refine lv_aload_n hx hb dX3_init_60 rfl (lv_at hl 0 rfl) ?_
  refine lv_bipush (v := 8) hx hb dX3_init_61 (by decide) ?_
  refine n_newI hC hN hB 8 (by decide) rfl (Nat.le_of_ble_eq_true rfl) (Nat.le_of_ble_eq_true rfl) (Nat.le_of_ble_eq_true rfl) dX3_init_63 (fun q8 H hN => ?_)
  refine n_putF (C := RX3) (T := TX3) (N := 13) (ci := 3) 10 tyX3 tyX3_ok nmX3 mLY_X3 rfl (by decide) mFL_X3_33 rfl rfl hin hC hN 0 rfl rfl rfl (Nat.le_of_ble_eq_true rfl) (ws' := [(h0, .inr (3, [.int 0, .int 0, .int 0, .ref q1, .ref q2, .ref q3, .ref q4, .ref q5, .ref q6, .ref q7, .ref q8, .null, .null])), (q1, .inl (E.2 0, 6, .inl (fun _ => 0))), (q2, .inl (E.2 0, 6, .inl (fun _ => 0))), (q3, .inl (E.2 0, 6, .inl (fun _ => 0))), (q4, .inl (E.2 0, 6, .inl (fun _ => 0))), (q5, .inl (E.2 0, 6, .inl (fun _ => 0))), (q6, .inl (E.2 0, 6, .inl (fun _ => 0))), (q7, .inl (E.2 0, 24, .inl (fun _ => 0))), (q8, .inl (E.2 0, 8, .inl (fun _ => 0)))]) rfl dX3_init_65 (fun H locs hN => ?_)
  refine lv_aload_n hx hb dX3_init_68 rfl (lv_at hl 0 rfl) ?_
  refine lv_bipush (v := 8) hx hb dX3_init_69 (by decide) ?_
  refine n_newI hC hN hB 8 (by decide) rfl (Nat.le_of_ble_eq_true rfl) (Nat.le_of_ble_eq_true rfl) (Nat.le_of_ble_eq_true rfl) dX3_init_71 (fun q9 H hN => ?_)
  refine n_putF (C := RX3) (T := TX3) (N := 13) (ci := 3) 11 tyX3 tyX3_ok nmX3 mLY_X3 rfl (by decide) mFL_X3_36 rfl rfl hin hC hN 0 rfl rfl rfl (Nat.le_of_ble_eq_true rfl) (ws' := [(h0, .inr (3, [.int 0, .int 0, .int 0, .ref q1, .ref q2, .ref q3, .ref q4, .ref q5, .ref q6, .ref q7, .ref q8, .ref q9, .null])), (q1, .inl (E.2 0, 6, .inl (fun _ => 0))), (q2, .inl (E.2 0, 6, .inl (fun _ => 0))), (q3, .inl (E.2 0, 6, .inl (fun _ => 0))), (q4, .inl (E.2 0, 6, .inl (fun _ => 0))), (q5, .inl (E.2 0, 6, .inl (fun _ => 0))), (q6, .inl (E.2 0, 6, .inl (fun _ => 0))), (q7, .inl (E.2 0, 24, .inl (fun _ => 0))), (q8, .inl (E.2 0, 8, .inl (fun _ => 0))), (q9, .inl (E.2 0, 8, .inl (fun _ => 0)))]) rfl dX3_init_73 (fun H locs hN => ?_)
  refine lv_aload_n hx hb dX3_init_76 rfl (lv_at hl 0 rfl) ?_
  refine lv_bipush (v := 8) hx hb dX3_init_77 (by decide) ?_
  refine n_newI hC hN hB 8 (by decide) rfl (Nat.le_of_ble_eq_true rfl) (Nat.le_of_ble_eq_true rfl) (Nat.le_of_ble_eq_true rfl) dX3_init_79 (fun q10 H hN => ?_)
  refine n_putF (C := RX3) (T := TX3) (N := 13) (ci := 3) 12 tyX3 tyX3_ok nmX3 mLY_X3 rfl (by decide) mFL_X3_39 rfl rfl hin hC hN 0 rfl rfl rfl (Nat.le_of_ble_eq_true rfl) (ws' := [(h0, .inr (3, [.int 0, .int 0, .int 0, .ref q1, .ref q2, .ref q3, .ref q4, .ref q5, .ref q6, .ref q7, .ref q8, .ref q9, .ref q10])), (q1, .inl (E.2 0, 6, .inl (fun _ => 0))), (q2, .inl (E.2 0, 6, .inl (fun _ => 0))), (q3, .inl (E.2 0, 6, .inl (fun _ => 0))), (q4, .inl (E.2 0, 6, .inl (fun _ => 0))), (q5, .inl (E.2 0, 6, .inl (fun _ => 0))), (q6, .inl (E.2 0, 6, .inl (fun _ => 0))), (q7, .inl (E.2 0, 24, .inl (fun _ => 0))), (q8, .inl (E.2 0, 8, .inl (fun _ => 0))), (q9, .inl (E.2 0, 8, .inl (fun _ => 0))), (q10, .inl (E.2 0, 8, .inl (fun _ => 0)))]) rfl dX3_init_81 (fun H locs hN => ?_)
  refine n_vretI hC hN ⟨fun i => [h0, q1, q2, q3, q4, q5, q6, q7, q8, q9, q10].getD i 0, rfl, rfl⟩ (Nat.le_of_ble_eq_true rfl) (Nat.le_of_ble_eq_true rfl) dX3_init_84
set_option maxHeartbeats 4000000 in
set_option maxRecDepth 100000 in
theorem kX5_init (l : Launch) (E : EV) : Mk l E yX5_init cX5_init 1 1 1 100 12 5 [.null, .int 0] (fun h0 w1 => ∃ a : Nat → Nat, a 0 = h0 ∧ w1 = wX5 E a z0 0) := by
  refine Mk.ofW (by decide +kernel) rfl (Nat.le_of_ble_eq_true rfl) ?_
  intro h0 p e s m args below meth c ls hC hao hin hB hN hl
  have hx := hC.1
  have hb := hC.2.1
  refine lv_aload_n hx hb dX5_init_0 rfl (lv_at hl 0 rfl) ?_
  refine n_obj hC mML_X5_3 hl.1 dX5_init_1 (Nat.le_of_ble_eq_true rfl) (Nat.le_of_ble_eq_true rfl) ?_
  refine lv_aload_n hx hb dX5_init_4 rfl (lv_at hl 0 rfl) ?_
  refine lv_bipush (v := 100) hx hb dX5_init_5 (by decide) ?_
  refine n_newI hC hN hB 100 (by decide) rfl (Nat.le_of_ble_eq_true rfl) (Nat.le_of_ble_eq_true rfl) (Nat.le_of_ble_eq_true rfl) dX5_init_7 (fun q1 H hN => ?_)
  refine n_putF (C := RX5) (T := TX5) (N := 2) (ci := 5) 0 tyX5 tyX5_ok nmX5 mLY_X5 rfl (by decide) mFL_X5_9 rfl rfl hin hC hN 0 rfl rfl rfl (Nat.le_of_ble_eq_true rfl) (ws' := [(h0, .inr (5, [.ref q1, .int 0])), (q1, .inl (E.2 0, 100, .inl (fun _ => 0)))]) rfl dX5_init_9 (fun H locs hN => ?_)
  refine n_vretI hC hN ⟨fun i => [h0, q1].getD i 0, rfl, rfl⟩ (Nat.le_of_ble_eq_true rfl) (Nat.le_of_ble_eq_true rfl) dX5_init_12
set_option maxHeartbeats 4000000 in
set_option maxRecDepth 100000 in
theorem kX1_init (l : Launch) (E : EV) : Mk l E yX1_init cX1_init 1 1 0 0 12 1 [.int 0, .int 0, .long 0, .long 0] (fun h0 w1 => ∃ a : Nat → Nat, a 0 = h0 ∧ w1 = wX1 E a 0 0 0 0) := by
  refine Mk.ofW (by decide +kernel) rfl (Nat.le_of_ble_eq_true rfl) ?_
  intro h0 p e s m args below meth c ls hC hao hin hB hN hl
  have hx := hC.1
  have hb := hC.2.1
  refine lv_aload_n hx hb dX1_init_0 rfl (lv_at hl 0 rfl) ?_
  refine n_obj hC mML_X1_3 hl.1 dX1_init_1 (Nat.le_of_ble_eq_true rfl) (Nat.le_of_ble_eq_true rfl) ?_
  refine n_vretI hC hN ⟨fun _ => h0, rfl, rfl⟩ (Nat.le_of_ble_eq_true rfl) (Nat.le_of_ble_eq_true rfl) dX1_init_4
set_option maxHeartbeats 4000000 in
set_option maxRecDepth 100000 in
theorem kX6_init (l : Launch) (E : EV) : Mk l E yX6_init cX6_init 1 1 2 30 12 6 [.null, .null, .int 0] (fun h0 w1 => ∃ a : Nat → Nat, a 0 = h0 ∧ w1 = wX6 E a z0 (fun _ => 0) 0) := by
  refine Mk.ofW (by decide +kernel) rfl (Nat.le_of_ble_eq_true rfl) ?_
  intro h0 p e s m args below meth c ls hC hao hin hB hN hl
  have hx := hC.1
  have hb := hC.2.1
  refine lv_aload_n hx hb dX6_init_0 rfl (lv_at hl 0 rfl) ?_
  refine n_obj hC mML_X6_3 hl.1 dX6_init_1 (Nat.le_of_ble_eq_true rfl) (Nat.le_of_ble_eq_true rfl) ?_
  refine lv_aload_n hx hb dX6_init_4 rfl (lv_at hl 0 rfl) ?_
  refine lv_bipush (v := 15) hx hb dX6_init_5 (by decide) ?_
  refine n_newI hC hN hB 15 (by decide) rfl (Nat.le_of_ble_eq_true rfl) (Nat.le_of_ble_eq_true rfl) (Nat.le_of_ble_eq_true rfl) dX6_init_7 (fun q1 H hN => ?_)
  refine n_putF (C := RX6) (T := TX6) (N := 3) (ci := 6) 0 tyX6 tyX6_ok nmX6 mLY_X6 rfl (by decide) mFL_X6_9 rfl rfl hin hC hN 0 rfl rfl rfl (Nat.le_of_ble_eq_true rfl) (ws' := [(h0, .inr (6, [.ref q1, .null, .int 0])), (q1, .inl (E.2 0, 15, .inl (fun _ => 0)))]) rfl dX6_init_9 (fun H locs hN => ?_)
  refine lv_aload_n hx hb dX6_init_12 rfl (lv_at hl 0 rfl) ?_
  refine lv_bipush (v := 15) hx hb dX6_init_13 (by decide) ?_
  refine n_newL hC hN hB 15 (by decide) rfl (Nat.le_of_ble_eq_true rfl) (Nat.le_of_ble_eq_true rfl) (Nat.le_of_ble_eq_true rfl) dX6_init_15 (fun q2 H hN => ?_)
  refine n_putF (C := RX6) (T := TX6) (N := 3) (ci := 6) 1 tyX6 tyX6_ok nmX6 mLY_X6 rfl (by decide) mFL_X6_15 rfl rfl hin hC hN 0 rfl rfl rfl (Nat.le_of_ble_eq_true rfl) (ws' := [(h0, .inr (6, [.ref q1, .ref q2, .int 0])), (q1, .inl (E.2 0, 15, .inl (fun _ => 0))), (q2, .inl (E.2 1, 15, .inr (.inl (fun _ => 0))))]) rfl dX6_init_17 (fun H locs hN => ?_)
  refine n_vretI hC hN ⟨fun i => [h0, q1, q2].getD i 0, rfl, rfl⟩ (Nat.le_of_ble_eq_true rfl) (Nat.le_of_ble_eq_true rfl) dX6_init_20
set_option maxHeartbeats 4000000 in
set_option maxRecDepth 100000 in
theorem kX4_init (l : Launch) (E : EV) : Mk l E yX4_init cX4_init 1 2 11 97 32 4 [.null, .int 0, .int 0, .int 0] (fun h0 w1 => ∃ a t : Nat → Nat, a 0 = h0 ∧ w1 = wX4 E a t 0 0 0 ++ wN E t netZ) := by
  refine Mk.ofW (by decide +kernel) rfl (Nat.le_of_ble_eq_true rfl) ?_
  intro h0 p e s m args below meth c ls hC hao hin hB hN hl
  have hx := hC.1
  have hb := hC.2.1
  refine lv_aload_n hx hb dX4_init_0 rfl (lv_at hl 0 rfl) ?_
  refine n_obj hC mML_X4_3 hl.1 dX4_init_1 (Nat.le_of_ble_eq_true rfl) (Nat.le_of_ble_eq_true rfl) ?_
  refine lv_aload_n hx hb dX4_init_4 rfl (lv_at hl 0 rfl) ?_
  refine n_new (C := RX3) (T := TX3) (N := 13) (ci := 3) (fs := [.int 0, .int 0, .int 0, .null, .null, .null, .null, .null, .null, .null, .null, .null, .null]) tyX3 tyX3_ok mLY_X3 rfl mCL_X4_9 mIS_X3 mIN_X3 hC hN hB (dfX3) (Nat.le_of_ble_eq_true rfl) (Nat.le_of_ble_eq_true rfl) dX4_init_5 (fun q H hN => ?_)
  refine lv_dup hx hb dX4_init_8 rfl ?_
  refine n_made (ws := [(h0, .inr (4, [.null, .int 0, .int 0, .int 0]))]) hC hao hN hB (kX3_init l E) cy_X3_init rfl mIM_X3_init (Or.inl ⟨_, List.mem_of_getElem? (l := nestL) (i := 2) rfl⟩) hl.1 (Nat.le_of_ble_eq_true rfl) dX4_init_9 ⟨Nat.le_of_ble_eq_true rfl, Nat.le_of_ble_eq_true rfl⟩ ⟨Nat.le_of_ble_eq_true rfl, Nat.le_of_ble_eq_true rfl⟩ (fun w1 H locs hp hN => ?_)
  obtain ⟨t, rfl, rfl⟩ := hp
  refine n_putF (C := RX4) (T := TX4) (N := 4) (ci := 4) 0 tyX4 tyX4_ok nmX4 mLY_X4 rfl (by decide) mFL_X4_12 rfl rfl hin hC hN 0 rfl rfl rfl (Nat.le_of_ble_eq_true rfl) (ws' := [(h0, .inr (4, [.ref (t 0), .int 0, .int 0, .int 0]))] ++ wN E t netZ) rfl dX4_init_12 (fun H locs hN => ?_)
  exact n_vretI hC hN ⟨fun _ => h0, t, rfl, rfl⟩ (Nat.le_of_ble_eq_true rfl) (Nat.le_of_ble_eq_true rfl) dX4_init_15
theorem Nw.perm {E : EV} {s : State} {B : Nat → Prop} {ws ws' : va_W} {H : Heap} {locs : List Loc} (hN : Nw E s B ws H locs) (h : ws.Perm ws') : Nw E s B ws' H locs := ⟨hN.1.perm h, hN.2.1.perm (h.map Prod.fst), hN.2.2⟩
theorem Nw.cell {E : EV} {s : State} {B : Nat → Prop} {x : Nat × va_E} {q : Nat} {cA : ClassId} {a0 a1 : vp_A} {r : va_W} {H : Heap} {locs : List Loc} (hN : Nw E s B (x :: (q, .inl (cA, a0)) :: r) H locs) (h : vp_cell cA a0 = vp_cell cA a1) : Nw E s B (x :: (q, .inl (cA, a1)) :: r) H locs := by
  refine ⟨va_P.mem (fun y hy => ?_), va_D.mk' hN.2.1.nd hN.2.1.all, hN.2.2⟩
  rcases List.mem_cons.mp hy with rfl | hy
  · exact hN.1.of _ List.mem_cons_self
  · rcases List.mem_cons.mp hy with rfl | hy
    · have h1 : H[q]? = some (vp_cell cA a0) := hN.1.of (q, .inl (cA, a0)) (List.mem_cons_of_mem _ List.mem_cons_self)
      show H[q]? = some (vp_cell cA a1)
      rw [← h]; exact h1
    · exact hN.1.of y (List.mem_cons_of_mem _ (List.mem_cons_of_mem _ hy))
theorem arrQ {cA : ClassId} {n : Nat} {f g : Nat → Option Nat} (h : ∀ i, i < n → f i = g i) : vp_cell cA (n, .inr (.inr (.inr (.inr f)))) = vp_cell cA (n, .inr (.inr (.inr (.inr g)))) := by
  rw [vp_cell_q, vp_cell_q]
  unfold arrV
  congr 2
  funext j
  exact congrArg va_rf (h j.val j.isLt)
set_option maxHeartbeats 4000000 in
set_option maxRecDepth 100000 in
theorem kX2_init (l : Launch) (E : EV) : Mk l E yX2_init cX2_init 2 2 56 490 32 2 [.null, .int 0, .int 0] (fun h0 w1 => ∃ (a : Nat → Nat) (e : Nat → Nat → Nat), a 0 = h0 ∧ w1 = wX2 E a e (fun _ => netZ) 0 0) := by
  refine Mk.ofW (by decide +kernel) rfl (Nat.le_of_ble_eq_true rfl) ?_
  intro h0 p e s m args below meth c ls hC hao hin hB hN hl
  have hx := hC.1
  have hb := hC.2.1
  refine lv_aload_n hx hb dX2_init_0 rfl (lv_at hl 0 rfl) ?_
  refine n_obj hC mML_X2_3 hl.1 dX2_init_1 (Nat.le_of_ble_eq_true rfl) (Nat.le_of_ble_eq_true rfl) ?_
  refine lv_aload_n hx hb dX2_init_4 rfl (lv_at hl 0 rfl) ?_
  refine lv_iconst (v := 5) hx hb dX2_init_5 rfl ?_
  refine n_newQ hC hao mCL_X2_9 hN hB 5 (by decide) rfl (Nat.le_of_ble_eq_true rfl) (Nat.le_of_ble_eq_true rfl) (Nat.le_of_ble_eq_true rfl) dX2_init_6 (fun qa H hN => ?_)
  refine n_putF (C := RX2) (T := TX2) (N := 3) (ci := 2) 0 tyX2 tyX2_ok nmX2 mLY_X2 rfl (by decide) mFL_X2_11 rfl rfl hin hC hN 0 rfl rfl rfl (Nat.le_of_ble_eq_true rfl) (ws' := [(h0, .inr (2, [.ref qa, .int 0, .int 0])), (qa, .inl (E.2 3, 5, .inr (.inr (.inr (.inr (fun _ => none))))))]) rfl dX2_init_9 (fun H locs hN => ?_)
  refine lv_iconst (v := 0) hx hb dX2_init_12 rfl ?_
  refine lv_istore_n (lv' := [(1, .int 0), (0, .ref h0)]) hx hb dX2_init_13 rfl hl (by decide) rfl (fun ls hl => ?_)
  have L1 : ∀ (d j : Nat) (ad : Nat → Nat → Nat) (f : Nat → Option Nat) (H : Heap) (locs : List Loc) (ls : Array Slot), j + d = 5 → (∀ i, i < j → f i = some (ad i 0)) → Nw E s (va_A [(h0, .inr (2, [.null, .int 0, .int 0]))] s.heap.size) ((h0, .inr (2, [.ref qa, .int 0, .int 0])) :: (qa, .inl (E.2 3, 5, .inr (.inr (.inr (.inr f))))) :: (List.range j).flatMap (fun i => wN E (ad i) netZ)) H locs → lv_has ls 2 [(0, .ref h0), (1, .int (nI j))] → W p l e ({ frames := 2, cells := 56, slots := 490, locals := 32 }) s m args below meth c H locs (1 + 11 * j) (5 + 97 * j) (MQ below (Qm E h0 2 [.null, .int 0, .int 0] s.heap.size (fun w1 => ∃ (a : Nat → Nat) (e : Nat → Nat → Nat), a 0 = h0 ∧ w1 = wX2 E a e (fun _ => netZ) 0 0)) args s 56 490 (va_A [(h0, .inr (2, [.null, .int 0, .int 0]))] s.heap.size)) (F0 m 14 ls []) := by
    intro d
    induction d with
    | zero =>
      intro j ad f H locs ls hj hf hN hl
      obtain rfl : j = 5 := by omega
      refine lv_iload_n hx hb dX2_init_14 rfl (lv_at hl 1 rfl) ?_
      refine lv_iconst (v := 5) hx hb dX2_init_15 rfl ?_
      refine lv_icmp_ge (tgt := 38) hx hb dX2_init_16 (by decide) (fun _ => ?_) (fun c3 => absurd (show (5 : Int32) ≤ nI 5 from by decide) c3)
      have hN := hN.cell (a1 := (5, .inr (.inr (.inr (.inr (fun i => some (ad i 0))))))) (arrQ hf)
      exact n_vretI hC hN ⟨fun i => [h0, qa].getD i 0, ad, rfl, rfl⟩ (Nat.le_of_ble_eq_true rfl) (Nat.le_of_ble_eq_true rfl) dX2_init_38
    | succ d ih =>
      intro j ad f H locs ls hj hf hN hl
      have hjn : j < 5 := by omega
      refine lv_iload_n hx hb dX2_init_14 rfl (lv_at hl 1 rfl) ?_
      refine lv_iconst (v := 5) hx hb dX2_init_15 rfl ?_
      refine lv_icmp_ge (tgt := 38) hx hb dX2_init_16 (by decide) (fun c3 => absurd c3 (nI_ge (b := 5) hjn (by decide))) (fun _ => ?_)
      refine lv_aload_n hx hb dX2_init_19 rfl (lv_at hl 0 rfl) ?_
      refine gt_X2_nets hC hN 0 rfl rfl dX2_init_20 ?_
      refine lv_iload_n hx hb dX2_init_23 rfl (lv_at hl 1 rfl) ?_
      refine n_new (C := RX3) (T := TX3) (N := 13) (ci := 3) (fs := [.int 0, .int 0, .int 0, .null, .null, .null, .null, .null, .null, .null, .null, .null, .null]) tyX3 tyX3_ok mLY_X3 rfl mCL_X2_9 mIS_X3 mIN_X3 hC hN hB dfX3 (by show 1 + 11 * j + 1 ≤ 56; omega) (by show 5 + 97 * j + 13 ≤ 490; omega) dX2_init_24 (fun q H hN => ?_)
      refine lv_dup hx hb dX2_init_27 rfl ?_
      refine n_made hC hao hN hB (kX3_init l E) cy_X3_init rfl mIM_X3_init (Or.inl ⟨_, List.mem_of_getElem? (l := nestL) (i := 4) rfl⟩) hl.1 (Nat.le_of_ble_eq_true rfl) dX2_init_28 ⟨Nat.le_of_ble_eq_true rfl, Nat.le_of_ble_eq_true rfl⟩ ⟨by show 1 + 11 * j + 1 + 10 ≤ 56; omega, by show 5 + 97 * j + 13 + 84 ≤ 490; omega⟩ (fun w1 H locs hp hN => ?_)
      obtain ⟨t, rfl, rfl⟩ := hp
      have hN := hN.perm (ws' := (h0, .inr (2, [.ref qa, .int 0, .int 0])) :: (qa, .inl (E.2 3, 5, .inr (.inr (.inr (.inr f))))) :: (wN E t netZ ++ (List.range j).flatMap (fun i => wN E (ad i) netZ))) (((List.perm_append_comm).cons _).cons _)
      refine va_astq hx hb hC.2.2.2.2.2.2.2.1 hN.1 hN.2.1 hN.2.2 1 3 2 3 rfl rfl rfl rfl (vp_in_nI hjn (by decide)) dX2_init_31 (fun H locs h1 h2 h3 => ?_)
      have hN : Nw E s (va_A [(h0, .inr (2, [.null, .int 0, .int 0]))] s.heap.size) ((h0, .inr (2, [.ref qa, .int 0, .int 0])) :: (qa, .inl (E.2 3, 5, .inr (.inr (.inr (.inr (va_up f (nI j).toNatClampNeg (some (t 0)))))))) :: (wN E t netZ ++ (List.range j).flatMap (fun i => wN E (ad i) netZ))) H locs := ⟨h1, h2, h3⟩
      have hfm : (List.range j).flatMap (fun i => wN E (if i = j then t else ad i) netZ) = (List.range j).flatMap (fun i => wN E (ad i) netZ) := by
        show (List.map _ _).flatten = (List.map _ _).flatten
        refine congrArg List.flatten (List.map_congr_left (fun i hi => ?_))
        rw [if_neg (by have := List.mem_range.mp hi; omega)]
      have hN := hN.perm (ws' := (h0, .inr (2, [.ref qa, .int 0, .int 0])) :: (qa, .inl (E.2 3, 5, .inr (.inr (.inr (.inr (va_up f (nI j).toNatClampNeg (some (t 0)))))))) :: (List.range (j + 1)).flatMap (fun i => wN E (if i = j then t else ad i) netZ)) ((List.Perm.cons _ (List.Perm.cons _ (by
        rw [List.range_succ, List.flatMap_append, hfm, List.flatMap_cons, List.flatMap_nil, List.append_nil, if_pos rfl]
        exact List.perm_append_comm))))
      refine lv_iinc (v := nI (j + 1)) (lv' := [(1, .int (nI (j + 1))), (0, .ref h0)]) hx hb dX2_init_32 hl (k := 1) rfl (nI_1 j) (by decide) rfl (fun ls hl => ?_)
      refine lv_goto (tgt := 14) hx hb dX2_init_35 (by decide) ?_
      refine W.widen (k := 1 + 11 * (j + 1)) (n := 5 + 97 * (j + 1)) (by omega) (by omega) ?_
      refine ih (j + 1) (fun i => if i = j then t else ad i) _ H locs ls (by omega) (fun i hi => ?_) hN (lv_sub hl [1, 0] rfl)
      rw [nI_N (by omega)]
      by_cases hq : i = j
      · subst hq; simp [va_up]
      · rw [show va_up f j (some (t 0)) i = f i from by simp [va_up, hq], hf i (by omega), if_neg hq]
  exact L1 5 0 (fun _ _ => 0) (fun _ => none) H locs ls rfl (fun i hi => by omega) hN (lv_sub hl [1, 0] rfl)
set_option maxHeartbeats 4000000 in
set_option maxRecDepth 100000 in
theorem kX0_init (l : Launch) (E : EV) : Mk l E yX0_init cX0_init 2 2 23 196 32 0 [.null, .int 0] (fun h0 w1 => ∃ (a : Nat → Nat) (e : Nat → Nat → Nat), a 0 = h0 ∧ w1 = wX0 E a e (fun _ => netZ) 0) := by
  refine Mk.ofW (by decide +kernel) rfl (Nat.le_of_ble_eq_true rfl) ?_
  intro h0 p e s m args below meth c ls hC hao hin hB hN hl
  have hx := hC.1
  have hb := hC.2.1
  refine lv_aload_n hx hb dX0_init_0 rfl (lv_at hl 0 rfl) ?_
  refine n_obj hC mML_X0_3 hl.1 dX0_init_1 (Nat.le_of_ble_eq_true rfl) (Nat.le_of_ble_eq_true rfl) ?_
  refine lv_aload_n hx hb dX0_init_4 rfl (lv_at hl 0 rfl) ?_
  refine lv_iconst (v := 2) hx hb dX0_init_5 rfl ?_
  refine n_newQ hC hao mCL_X0_9 hN hB 2 (by decide) rfl (Nat.le_of_ble_eq_true rfl) (Nat.le_of_ble_eq_true rfl) (Nat.le_of_ble_eq_true rfl) dX0_init_6 (fun qa H hN => ?_)
  refine n_putF (C := RX0) (T := TX0) (N := 2) (ci := 0) 0 tyX0 tyX0_ok nmX0 mLY_X0 rfl (by decide) mFL_X0_11 rfl rfl hin hC hN 0 rfl rfl rfl (Nat.le_of_ble_eq_true rfl) (ws' := [(h0, .inr (0, [.ref qa, .int 0])), (qa, .inl (E.2 3, 2, .inr (.inr (.inr (.inr (fun _ => none))))))]) rfl dX0_init_9 (fun H locs hN => ?_)
  refine lv_iconst (v := 0) hx hb dX0_init_12 rfl ?_
  refine lv_istore_n (lv' := [(1, .int 0), (0, .ref h0)]) hx hb dX0_init_13 rfl hl (by decide) rfl (fun ls hl => ?_)
  have L1 : ∀ (d j : Nat) (ad : Nat → Nat → Nat) (f : Nat → Option Nat) (H : Heap) (locs : List Loc) (ls : Array Slot), j + d = 2 → (∀ i, i < j → f i = some (ad i 0)) → Nw E s (va_A [(h0, .inr (0, [.null, .int 0]))] s.heap.size) ((h0, .inr (0, [.ref qa, .int 0])) :: (qa, .inl (E.2 3, 2, .inr (.inr (.inr (.inr f))))) :: (List.range j).flatMap (fun i => wN E (ad i) netZ)) H locs → lv_has ls 2 [(0, .ref h0), (1, .int (nI j))] → W p l e ({ frames := 2, cells := 23, slots := 196, locals := 32 }) s m args below meth c H locs (1 + 11 * j) (2 + 97 * j) (MQ below (Qm E h0 0 [.null, .int 0] s.heap.size (fun w1 => ∃ (a : Nat → Nat) (e : Nat → Nat → Nat), a 0 = h0 ∧ w1 = wX0 E a e (fun _ => netZ) 0)) args s 23 196 (va_A [(h0, .inr (0, [.null, .int 0]))] s.heap.size)) (F0 m 14 ls []) := by
    intro d
    induction d with
    | zero =>
      intro j ad f H locs ls hj hf hN hl
      obtain rfl : j = 2 := by omega
      refine lv_iload_n hx hb dX0_init_14 rfl (lv_at hl 1 rfl) ?_
      refine lv_iconst (v := 2) hx hb dX0_init_15 rfl ?_
      refine lv_icmp_ge (tgt := 38) hx hb dX0_init_16 (by decide) (fun _ => ?_) (fun c3 => absurd (show (2 : Int32) ≤ nI 2 from by decide) c3)
      have hN := hN.cell (a1 := (2, .inr (.inr (.inr (.inr (fun i => some (ad i 0))))))) (arrQ hf)
      exact n_vretI hC hN ⟨fun i => [h0, qa].getD i 0, ad, rfl, rfl⟩ (Nat.le_of_ble_eq_true rfl) (Nat.le_of_ble_eq_true rfl) dX0_init_38
    | succ d ih =>
      intro j ad f H locs ls hj hf hN hl
      have hjn : j < 2 := by omega
      refine lv_iload_n hx hb dX0_init_14 rfl (lv_at hl 1 rfl) ?_
      refine lv_iconst (v := 2) hx hb dX0_init_15 rfl ?_
      refine lv_icmp_ge (tgt := 38) hx hb dX0_init_16 (by decide) (fun c3 => absurd c3 (nI_ge (b := 2) hjn (by decide))) (fun _ => ?_)
      refine lv_aload_n hx hb dX0_init_19 rfl (lv_at hl 0 rfl) ?_
      refine gt_X0_nets hC hN 0 rfl rfl dX0_init_20 ?_
      refine lv_iload_n hx hb dX0_init_23 rfl (lv_at hl 1 rfl) ?_
      refine n_new (C := RX3) (T := TX3) (N := 13) (ci := 3) (fs := [.int 0, .int 0, .int 0, .null, .null, .null, .null, .null, .null, .null, .null, .null, .null]) tyX3 tyX3_ok mLY_X3 rfl mCL_X0_9 mIS_X3 mIN_X3 hC hN hB dfX3 (by show 1 + 11 * j + 1 ≤ 23; omega) (by show 2 + 97 * j + 13 ≤ 196; omega) dX0_init_24 (fun q H hN => ?_)
      refine lv_dup hx hb dX0_init_27 rfl ?_
      refine n_made hC hao hN hB (kX3_init l E) cy_X3_init rfl mIM_X3_init (Or.inl ⟨_, List.mem_of_getElem? (l := nestL) (i := 5) rfl⟩) hl.1 (Nat.le_of_ble_eq_true rfl) dX0_init_28 ⟨Nat.le_of_ble_eq_true rfl, Nat.le_of_ble_eq_true rfl⟩ ⟨by show 1 + 11 * j + 1 + 10 ≤ 23; omega, by show 2 + 97 * j + 13 + 84 ≤ 196; omega⟩ (fun w1 H locs hp hN => ?_)
      obtain ⟨t, rfl, rfl⟩ := hp
      have hN := hN.perm (ws' := (h0, .inr (0, [.ref qa, .int 0])) :: (qa, .inl (E.2 3, 2, .inr (.inr (.inr (.inr f))))) :: (wN E t netZ ++ (List.range j).flatMap (fun i => wN E (ad i) netZ))) (((List.perm_append_comm).cons _).cons _)
      refine va_astq hx hb hC.2.2.2.2.2.2.2.1 hN.1 hN.2.1 hN.2.2 1 3 2 3 rfl rfl rfl rfl (vp_in_nI hjn (by decide)) dX0_init_31 (fun H locs h1 h2 h3 => ?_)
      have hN : Nw E s (va_A [(h0, .inr (0, [.null, .int 0]))] s.heap.size) ((h0, .inr (0, [.ref qa, .int 0])) :: (qa, .inl (E.2 3, 2, .inr (.inr (.inr (.inr (va_up f (nI j).toNatClampNeg (some (t 0)))))))) :: (wN E t netZ ++ (List.range j).flatMap (fun i => wN E (ad i) netZ))) H locs := ⟨h1, h2, h3⟩
      have hfm : (List.range j).flatMap (fun i => wN E (if i = j then t else ad i) netZ) = (List.range j).flatMap (fun i => wN E (ad i) netZ) := by
        show (List.map _ _).flatten = (List.map _ _).flatten
        refine congrArg List.flatten (List.map_congr_left (fun i hi => ?_))
        rw [if_neg (by have := List.mem_range.mp hi; omega)]
      have hN := hN.perm (ws' := (h0, .inr (0, [.ref qa, .int 0])) :: (qa, .inl (E.2 3, 2, .inr (.inr (.inr (.inr (va_up f (nI j).toNatClampNeg (some (t 0)))))))) :: (List.range (j + 1)).flatMap (fun i => wN E (if i = j then t else ad i) netZ)) ((List.Perm.cons _ (List.Perm.cons _ (by
        rw [List.range_succ, List.flatMap_append, hfm, List.flatMap_cons, List.flatMap_nil, List.append_nil, if_pos rfl]
        exact List.perm_append_comm))))
      refine lv_iinc (v := nI (j + 1)) (lv' := [(1, .int (nI (j + 1))), (0, .ref h0)]) hx hb dX0_init_32 hl (k := 1) rfl (nI_1 j) (by decide) rfl (fun ls hl => ?_)
      refine lv_goto (tgt := 14) hx hb dX0_init_35 (by decide) ?_
      refine W.widen (k := 1 + 11 * (j + 1)) (n := 2 + 97 * (j + 1)) (by omega) (by omega) ?_
      refine ih (j + 1) (fun i => if i = j then t else ad i) _ H locs ls (by omega) (fun i hi => ?_) hN (lv_sub hl [1, 0] rfl)
      rw [nI_N (by omega)]
      by_cases hq : i = j
      · subst hq; simp [va_up]
      · rw [show va_up f j (some (t 0)) i = f i from by simp [va_up, hq], hf i (by omega), if_neg hq]
  exact L1 2 0 (fun _ _ => 0) (fun _ => none) H locs ls rfl (fun i hi => by omega) hN (lv_sub hl [1, 0] rfl)
theorem cat9 (A B C D N F G I J : va_W) : ((((((A ++ B) ++ (C ++ D)) ++ N) ++ F) ++ G) ++ I) ++ J = cat [A, B, C, D, N, F, G, I, J] := by
  simp only [cat, List.append_assoc]
def net1 (zo : Nat → Int32) : NetT := (nI 1, 0, 0, upd z0 0 5, upd z0 0 0, upd z0 0 (nI 0), upd z0 0 (nI (bk 0)), upd z0 0 0, upd z0 0 0, zo, z0, z0, z0)
set_option maxHeartbeats 4000000 in
set_option maxRecDepth 100000 in
theorem kX7_init (l : Launch) (E : EV) : Mk l E yX7_init cX7_init 1 4 110 1028 100 7 [.null, .null, .null, .null, .null, .null, .null] (fun h0 w1 => ∃ (d : D7) (x : S7), d.c 0 = h0 ∧ w1 = W7 E d x ∧ (∃ zo, x.now = net1 zo ∧ ∀ z, z < 4 → zo (4 * 0 + z) = 0) ∧ x.letters = z0 ∧ x.ssize = 0 ∧ x.ho = 0 ∧ x.hs = 0 ∧ x.bk = 0 ∧ x.ksize = 0 ∧ x.kment = 0 ∧ x.kseen = 0 ∧ x.kuns = 0) := by
  refine Mk.ofW (by decide +kernel) rfl (Nat.le_of_ble_eq_true rfl) ?_
  intro h0 p e s m args below meth c ls hC hao hin hB hN hl
  have hx := hC.1
  have hb := hC.2.1
  refine lv_aload_n hx hb dX7_init_0 rfl (lv_at hl 0 rfl) ?_
  refine n_obj hC mML_X7_3 hl.1 dX7_init_1 (Nat.le_of_ble_eq_true rfl) (Nat.le_of_ble_eq_true rfl) ?_
  refine lv_aload_n hx hb dX7_init_4 rfl (lv_at hl 0 rfl) ?_
  refine n_new (C := RX5) (T := TX5) (N := 2) (ci := 5) (fs := [.null, .int 0]) tyX5 tyX5_ok mLY_X5 rfl mCL_X7_9 mIS_X5 mIN_X5 hC hN hB (dfX5) (Nat.le_of_ble_eq_true rfl) (Nat.le_of_ble_eq_true rfl) dX7_init_5 (fun q0 H hN => ?_)
  refine lv_dup hx hb dX7_init_8 rfl ?_
  refine n_made (ws := [(h0, .inr (7, [.null, .null, .null, .null, .null, .null, .null]))]) hC hao hN hB (kX5_init l E) cy_X5_init rfl mIM_X5_init (Or.inl ⟨_, List.mem_of_getElem? (l := nestL) (i := 0) rfl⟩) hl.1 (Nat.le_of_ble_eq_true rfl) dX7_init_9 ⟨Nat.le_of_ble_eq_true rfl, Nat.le_of_ble_eq_true rfl⟩ ⟨Nat.le_of_ble_eq_true rfl, Nat.le_of_ble_eq_true rfl⟩ (fun w0 H locs hp0 hN => ?_)
  refine n_putF (C := RX7) (T := TX7) (N := 7) (ci := 7) 0 tyX7 tyX7_ok nmX7 mLY_X7 rfl (by decide) mFL_X7_12 rfl rfl hin hC hN 0 rfl rfl rfl (Nat.le_of_ble_eq_true rfl) (ws' := ([(h0, .inr (7, [.ref q0, .null, .null, .null, .null, .null, .null]))] ++ w0)) rfl dX7_init_12 (fun H locs hN => ?_)
  refine lv_aload_n hx hb dX7_init_15 rfl (lv_at hl 0 rfl) ?_
  refine n_new (C := RX4) (T := TX4) (N := 4) (ci := 4) (fs := [.null, .int 0, .int 0, .int 0]) tyX4 tyX4_ok mLY_X4 rfl mCL_X7_16 mIS_X4 mIN_X4 hC hN hB (dfX4) (Nat.le_of_ble_eq_true rfl) (Nat.le_of_ble_eq_true rfl) dX7_init_16 (fun q1 H hN => ?_)
  refine lv_dup hx hb dX7_init_19 rfl ?_
  refine n_made (ws := ([(h0, .inr (7, [.ref q0, .null, .null, .null, .null, .null, .null]))] ++ w0)) hC hao hN hB (kX4_init l E) cy_X4_init rfl mIM_X4_init (Or.inl ⟨_, List.mem_of_getElem? (l := nestL) (i := 1) rfl⟩) hl.1 (Nat.le_of_ble_eq_true rfl) dX7_init_20 ⟨Nat.le_of_ble_eq_true rfl, Nat.le_of_ble_eq_true rfl⟩ ⟨Nat.le_of_ble_eq_true rfl, Nat.le_of_ble_eq_true rfl⟩ (fun w1 H locs hp1 hN => ?_)
  refine n_putF (C := RX7) (T := TX7) (N := 7) (ci := 7) 1 tyX7 tyX7_ok nmX7 mLY_X7 rfl (by decide) mFL_X7_19 rfl rfl hin hC hN 0 rfl rfl rfl (Nat.le_of_ble_eq_true rfl) (ws' := (([(h0, .inr (7, [.ref q0, .ref q1, .null, .null, .null, .null, .null]))] ++ w0) ++ w1)) rfl dX7_init_23 (fun H locs hN => ?_)
  refine lv_aload_n hx hb dX7_init_26 rfl (lv_at hl 0 rfl) ?_
  refine n_new (C := RX3) (T := TX3) (N := 13) (ci := 3) (fs := [.int 0, .int 0, .int 0, .null, .null, .null, .null, .null, .null, .null, .null, .null, .null]) tyX3 tyX3_ok mLY_X3 rfl mCL_X7_23 mIS_X3 mIN_X3 hC hN hB (dfX3) (Nat.le_of_ble_eq_true rfl) (Nat.le_of_ble_eq_true rfl) dX7_init_27 (fun q2 H hN => ?_)
  refine lv_dup hx hb dX7_init_30 rfl ?_
  refine n_made (ws := (([(h0, .inr (7, [.ref q0, .ref q1, .null, .null, .null, .null, .null]))] ++ w0) ++ w1)) hC hao hN hB (kX3_init l E) cy_X3_init rfl mIM_X3_init (Or.inl ⟨_, List.mem_of_getElem? (l := nestL) (i := 3) rfl⟩) hl.1 (Nat.le_of_ble_eq_true rfl) dX7_init_31 ⟨Nat.le_of_ble_eq_true rfl, Nat.le_of_ble_eq_true rfl⟩ ⟨Nat.le_of_ble_eq_true rfl, Nat.le_of_ble_eq_true rfl⟩ (fun w2 H locs hp2 hN => ?_)
  refine n_putF (C := RX7) (T := TX7) (N := 7) (ci := 7) 2 tyX7 tyX7_ok nmX7 mLY_X7 rfl (by decide) mFL_X7_26 rfl rfl hin hC hN 0 rfl rfl rfl (Nat.le_of_ble_eq_true rfl) (ws' := ((([(h0, .inr (7, [.ref q0, .ref q1, .ref q2, .null, .null, .null, .null]))] ++ w0) ++ w1) ++ w2)) rfl dX7_init_34 (fun H locs hN => ?_)
  obtain ⟨n, hn0, rfl⟩ := hp2
  obtain ⟨zo, e1, hzo, -⟩ := X3_addSwitch (m := 0) (w := 0) (by omega) (by omega) z0 z0 z0 z0 z0 z0 z0 5 0
  have e1 : fX3_addSwitch 0 z0 z0 z0 z0 z0 z0 z0 5 0 0 = _ := e1
  refine lv_aload_n hx hb dX7_init_37 rfl (lv_at hl 0 rfl) ?_
  refine gt_X7_now hC hN 0 rfl rfl dX7_init_38 ?_
  refine lv_iconst (v := 5) hx hb dX7_init_41 rfl ?_
  refine lv_iconst (v := 0) hx hb dX7_init_42 rfl ?_
  refine lv_iconst (v := 0) hx hb dX7_init_43 rfl ?_
  subst hn0
  refine n_callVv (ws' := (([(h0, .inr (7, [.ref q0, .ref q1, .ref (n 0), .null, .null, .null, .null]))] ++ w0) ++ w1) ++ wN E n (net1 zo)) hC hN (tX3_addSwitch l E n 0 0 0 z0 z0 z0 z0 z0 z0 z0 z0 z0 z0 5 0 0 _ e1) cy_X3_addSwitch mML_X7_30 mIM_X3_addSwitch mSE_X3_addSwitch rfl rfl (k := 0) rfl (wr := (([(h0, .inr (7, [.ref q0, .ref q1, .ref (n 0), .null, .null, .null, .null]))] ++ w0) ++ w1)) List.perm_append_comm List.perm_append_comm rfl rfl hl.1 rfl (Nat.le_of_ble_eq_true rfl) dX7_init_44 ⟨Nat.le_of_ble_eq_true rfl, Nat.le_of_ble_eq_true rfl⟩ ⟨Nat.le_of_ble_eq_true rfl, Nat.le_of_ble_eq_true rfl⟩ (fun H locs hN => ?_)
  refine lv_aload_n hx hb dX7_init_47 rfl (lv_at hl 0 rfl) ?_
  refine n_new (C := RX2) (T := TX2) (N := 3) (ci := 2) (fs := [.null, .int 0, .int 0]) tyX2 tyX2_ok mLY_X2 rfl mCL_X7_34 mIS_X2 mIN_X2 hC hN hB (dfX2) (Nat.le_of_ble_eq_true rfl) (Nat.le_of_ble_eq_true rfl) dX7_init_48 (fun q3 H hN => ?_)
  refine lv_dup hx hb dX7_init_51 rfl ?_
  refine n_made (ws := ((([(h0, .inr (7, [.ref q0, .ref q1, .ref (n 0), .null, .null, .null, .null]))] ++ w0) ++ w1) ++ wN E n (net1 zo))) hC hao hN hB (kX2_init l E) cy_X2_init rfl mIM_X2_init (Or.inr mML_X7_36) hl.1 (Nat.le_of_ble_eq_true rfl) dX7_init_52 ⟨Nat.le_of_ble_eq_true rfl, Nat.le_of_ble_eq_true rfl⟩ ⟨Nat.le_of_ble_eq_true rfl, Nat.le_of_ble_eq_true rfl⟩ (fun w3 H locs hp3 hN => ?_)
  refine n_putF (C := RX7) (T := TX7) (N := 7) (ci := 7) 3 tyX7 tyX7_ok nmX7 mLY_X7 rfl (by decide) mFL_X7_37 rfl rfl hin hC hN 0 rfl rfl rfl (Nat.le_of_ble_eq_true rfl) (ws' := (((([(h0, .inr (7, [.ref q0, .ref q1, .ref (n 0), .ref q3, .null, .null, .null]))] ++ w0) ++ w1) ++ wN E n (net1 zo)) ++ w3)) rfl dX7_init_55 (fun H locs hN => ?_)
  refine lv_aload_n hx hb dX7_init_58 rfl (lv_at hl 0 rfl) ?_
  refine n_new (C := RX0) (T := TX0) (N := 2) (ci := 0) (fs := [.null, .int 0]) tyX0 tyX0_ok mLY_X0 rfl mCL_X7_41 mIS_X0 mIN_X0 hC hN hB (dfX0) (Nat.le_of_ble_eq_true rfl) (Nat.le_of_ble_eq_true rfl) dX7_init_59 (fun q4 H hN => ?_)
  refine lv_dup hx hb dX7_init_62 rfl ?_
  refine n_made (ws := (((([(h0, .inr (7, [.ref q0, .ref q1, .ref (n 0), .ref q3, .null, .null, .null]))] ++ w0) ++ w1) ++ wN E n (net1 zo)) ++ w3)) hC hao hN hB (kX0_init l E) cy_X0_init rfl mIM_X0_init (Or.inr mML_X7_43) hl.1 (Nat.le_of_ble_eq_true rfl) dX7_init_63 ⟨Nat.le_of_ble_eq_true rfl, Nat.le_of_ble_eq_true rfl⟩ ⟨Nat.le_of_ble_eq_true rfl, Nat.le_of_ble_eq_true rfl⟩ (fun w4 H locs hp4 hN => ?_)
  refine n_putF (C := RX7) (T := TX7) (N := 7) (ci := 7) 4 tyX7 tyX7_ok nmX7 mLY_X7 rfl (by decide) mFL_X7_44 rfl rfl hin hC hN 0 rfl rfl rfl (Nat.le_of_ble_eq_true rfl) (ws' := ((((([(h0, .inr (7, [.ref q0, .ref q1, .ref (n 0), .ref q3, .ref q4, .null, .null]))] ++ w0) ++ w1) ++ wN E n (net1 zo)) ++ w3) ++ w4)) rfl dX7_init_66 (fun H locs hN => ?_)
  refine lv_aload_n hx hb dX7_init_69 rfl (lv_at hl 0 rfl) ?_
  refine n_new (C := RX1) (T := TX1) (N := 4) (ci := 1) (fs := [.int 0, .int 0, .long 0, .long 0]) tyX1 tyX1_ok mLY_X1 rfl mCL_X7_48 mIS_X1 mIN_X1 hC hN hB (dfX1) (Nat.le_of_ble_eq_true rfl) (Nat.le_of_ble_eq_true rfl) dX7_init_70 (fun q5 H hN => ?_)
  refine lv_dup hx hb dX7_init_73 rfl ?_
  refine n_made (ws := ((((([(h0, .inr (7, [.ref q0, .ref q1, .ref (n 0), .ref q3, .ref q4, .null, .null]))] ++ w0) ++ w1) ++ wN E n (net1 zo)) ++ w3) ++ w4)) hC hao hN hB (kX1_init l E) cy_X1_init rfl mIM_X1_init (Or.inl ⟨_, List.mem_of_getElem? (l := nestL) (i := 6) rfl⟩) hl.1 (Nat.le_of_ble_eq_true rfl) dX7_init_74 ⟨Nat.le_of_ble_eq_true rfl, Nat.le_of_ble_eq_true rfl⟩ ⟨Nat.le_of_ble_eq_true rfl, Nat.le_of_ble_eq_true rfl⟩ (fun w5 H locs hp5 hN => ?_)
  refine n_putF (C := RX7) (T := TX7) (N := 7) (ci := 7) 5 tyX7 tyX7_ok nmX7 mLY_X7 rfl (by decide) mFL_X7_51 rfl rfl hin hC hN 0 rfl rfl rfl (Nat.le_of_ble_eq_true rfl) (ws' := (((((([(h0, .inr (7, [.ref q0, .ref q1, .ref (n 0), .ref q3, .ref q4, .ref q5, .null]))] ++ w0) ++ w1) ++ wN E n (net1 zo)) ++ w3) ++ w4) ++ w5)) rfl dX7_init_77 (fun H locs hN => ?_)
  refine lv_aload_n hx hb dX7_init_80 rfl (lv_at hl 0 rfl) ?_
  refine n_new (C := RX6) (T := TX6) (N := 3) (ci := 6) (fs := [.null, .null, .int 0]) tyX6 tyX6_ok mLY_X6 rfl mCL_X7_55 mIS_X6 mIN_X6 hC hN hB (dfX6) (Nat.le_of_ble_eq_true rfl) (Nat.le_of_ble_eq_true rfl) dX7_init_81 (fun q6 H hN => ?_)
  refine lv_dup hx hb dX7_init_84 rfl ?_
  refine n_made (ws := (((((([(h0, .inr (7, [.ref q0, .ref q1, .ref (n 0), .ref q3, .ref q4, .ref q5, .null]))] ++ w0) ++ w1) ++ wN E n (net1 zo)) ++ w3) ++ w4) ++ w5)) hC hao hN hB (kX6_init l E) cy_X6_init rfl mIM_X6_init (Or.inl ⟨_, List.mem_of_getElem? (l := nestL) (i := 7) rfl⟩) hl.1 (Nat.le_of_ble_eq_true rfl) dX7_init_85 ⟨Nat.le_of_ble_eq_true rfl, Nat.le_of_ble_eq_true rfl⟩ ⟨Nat.le_of_ble_eq_true rfl, Nat.le_of_ble_eq_true rfl⟩ (fun w6 H locs hp6 hN => ?_)
  refine n_putF (C := RX7) (T := TX7) (N := 7) (ci := 7) 6 tyX7 tyX7_ok nmX7 mLY_X7 rfl (by decide) mFL_X7_58 rfl rfl hin hC hN 0 rfl rfl rfl (Nat.le_of_ble_eq_true rfl) (ws' := ((((((([(h0, .inr (7, [.ref q0, .ref q1, .ref (n 0), .ref q3, .ref q4, .ref q5, .ref q6]))] ++ w0) ++ w1) ++ wN E n (net1 zo)) ++ w3) ++ w4) ++ w5) ++ w6)) rfl dX7_init_88 (fun H locs hN => ?_)
  obtain ⟨sa, rfl, rfl⟩ := hp0
  obtain ⟨ra, ta, rfl, rfl⟩ := hp1
  obtain ⟨ha, eh, rfl, rfl⟩ := hp3
  obtain ⟨ba, eb, rfl, rfl⟩ := hp4
  obtain ⟨ka, rfl, rfl⟩ := hp5
  obtain ⟨qa, rfl, rfl⟩ := hp6
  refine n_vretI hC hN ⟨⟨fun _ => h0, sa, ra, ta, n, ha, eh, ba, eb, ka, qa⟩, ⟨z0, 0, 0, 0, 0, netZ, net1 zo, fun _ => netZ, 0, 0, fun _ => netZ, 0, 0, 0, 0, 0, z0, fun _ => 0, 0⟩, rfl, ?_, ⟨zo, rfl, hzo⟩, rfl, rfl, rfl, rfl, rfl, rfl, rfl, rfl, rfl⟩ (Nat.le_of_ble_eq_true rfl) (Nat.le_of_ble_eq_true rfl) dX7_init_91
  exact cat9 _ _ _ _ _ _ _ _ _
set_option maxHeartbeats 4000000 in
set_option maxRecDepth 100000 in
theorem kX8_init (l : Launch) (E : EV) : Mk l E yX8_init cX8_init 2 1 10 1046 12 8 [.null, .null, .null, .int 0, .null, .null, .null, .int 0, .int 0, .int 0, .int 0, .int 0, .null, .int 0, .null, .int 0, .int 0, .null, .null, .int 0] (fun h0 w1 => ∃ (a : Nat → Nat) (y : S8), a 0 = h0 ∧ w1 = W8 E a y ∧ (y.now 0 = 1 ∧ y.now 3 = 5 ∧ y.now 6 = 1 ∧ (∀ x, x < 87 → x ≠ 0 → x ≠ 3 → x ≠ 6 → (x < 27 ∨ 35 ≤ x) → y.now x = 0)) ∧ y.deeds = 0 ∧ y.isK = z0 ∧ y.text = z0 ∧ y.letters = 0 ∧ y.seen = 0) := by
  refine Mk.ofW (by decide +kernel) rfl (Nat.le_of_ble_eq_true rfl) ?_
  intro h0 p e s m args below meth c ls hC hao hin hB hN hl
  have hx := hC.1
  have hb := hC.2.1
  refine lv_aload_n hx hb dX8_init_0 rfl (lv_at hl 0 rfl) ?_
  refine n_obj hC mML_X8_1 hl.1 dX8_init_1 (Nat.le_of_ble_eq_true rfl) (Nat.le_of_ble_eq_true rfl) ?_
  refine lv_aload_n hx hb dX8_init_4 rfl (lv_at hl 0 rfl) ?_
  refine lv_bipush (v := 87) hx hb dX8_init_5 (by decide) ?_
  refine n_newI hC hN hB 87 (by decide) rfl (Nat.le_of_ble_eq_true rfl) (Nat.le_of_ble_eq_true rfl) (Nat.le_of_ble_eq_true rfl) dX8_init_7 (fun q1 H hN => ?_)
  refine n_putF (C := RX8) (T := TX8) (N := 20) (ci := 8) 0 tyX8 tyX8_ok nmX8 mLY_X8 rfl (by decide) mFL_X8_7 rfl rfl hin hC hN 0 rfl rfl rfl (Nat.le_of_ble_eq_true rfl) (ws' := [(h0, .inr (8, [.ref q1, .null, .null, .int 0, .null, .null, .null, .int 0, .int 0, .int 0, .int 0, .int 0, .null, .int 0, .null, .int 0, .int 0, .null, .null, .int 0])), (q1, .inl (E.2 0, 87, .inl (fun _ => 0)))]) rfl dX8_init_9 (fun H locs hN => ?_)
  refine lv_aload_n hx hb dX8_init_12 rfl (lv_at hl 0 rfl) ?_
  refine lv_bipush (v := 87) hx hb dX8_init_13 (by decide) ?_
  refine n_newI hC hN hB 87 (by decide) rfl (Nat.le_of_ble_eq_true rfl) (Nat.le_of_ble_eq_true rfl) (Nat.le_of_ble_eq_true rfl) dX8_init_15 (fun q2 H hN => ?_)
  refine n_putF (C := RX8) (T := TX8) (N := 20) (ci := 8) 1 tyX8 tyX8_ok nmX8 mLY_X8 rfl (by decide) mFL_X8_13 rfl rfl hin hC hN 0 rfl rfl rfl (Nat.le_of_ble_eq_true rfl) (ws' := [(h0, .inr (8, [.ref q1, .ref q2, .null, .int 0, .null, .null, .null, .int 0, .int 0, .int 0, .int 0, .int 0, .null, .int 0, .null, .int 0, .int 0, .null, .null, .int 0])), (q1, .inl (E.2 0, 87, .inl (fun _ => 0))), (q2, .inl (E.2 0, 87, .inl (fun _ => 0)))]) rfl dX8_init_17 (fun H locs hN => ?_)
  refine lv_aload_n hx hb dX8_init_20 rfl (lv_at hl 0 rfl) ?_
  refine lv_sipush (v := 435) hx hb dX8_init_21 (by decide) ?_
  refine n_newI hC hN hB 435 (by decide) rfl (Nat.le_of_ble_eq_true rfl) (Nat.le_of_ble_eq_true rfl) (Nat.le_of_ble_eq_true rfl) dX8_init_24 (fun q3 H hN => ?_)
  refine n_putF (C := RX8) (T := TX8) (N := 20) (ci := 8) 2 tyX8 tyX8_ok nmX8 mLY_X8 rfl (by decide) mFL_X8_16 rfl rfl hin hC hN 0 rfl rfl rfl (Nat.le_of_ble_eq_true rfl) (ws' := [(h0, .inr (8, [.ref q1, .ref q2, .ref q3, .int 0, .null, .null, .null, .int 0, .int 0, .int 0, .int 0, .int 0, .null, .int 0, .null, .int 0, .int 0, .null, .null, .int 0])), (q1, .inl (E.2 0, 87, .inl (fun _ => 0))), (q2, .inl (E.2 0, 87, .inl (fun _ => 0))), (q3, .inl (E.2 0, 435, .inl (fun _ => 0)))]) rfl dX8_init_26 (fun H locs hN => ?_)
  refine lv_aload_n hx hb dX8_init_29 rfl (lv_at hl 0 rfl) ?_
  refine lv_sipush (v := 174) hx hb dX8_init_30 (by decide) ?_
  refine n_newI hC hN hB 174 (by decide) rfl (Nat.le_of_ble_eq_true rfl) (Nat.le_of_ble_eq_true rfl) (Nat.le_of_ble_eq_true rfl) dX8_init_33 (fun q4 H hN => ?_)
  refine n_putF (C := RX8) (T := TX8) (N := 20) (ci := 8) 4 tyX8 tyX8_ok nmX8 mLY_X8 rfl (by decide) mFL_X8_19 rfl rfl hin hC hN 0 rfl rfl rfl (Nat.le_of_ble_eq_true rfl) (ws' := [(h0, .inr (8, [.ref q1, .ref q2, .ref q3, .int 0, .ref q4, .null, .null, .int 0, .int 0, .int 0, .int 0, .int 0, .null, .int 0, .null, .int 0, .int 0, .null, .null, .int 0])), (q1, .inl (E.2 0, 87, .inl (fun _ => 0))), (q2, .inl (E.2 0, 87, .inl (fun _ => 0))), (q3, .inl (E.2 0, 435, .inl (fun _ => 0))), (q4, .inl (E.2 0, 174, .inl (fun _ => 0)))]) rfl dX8_init_35 (fun H locs hN => ?_)
  refine lv_aload_n hx hb dX8_init_38 rfl (lv_at hl 0 rfl) ?_
  refine lv_iconst (v := 2) hx hb dX8_init_39 rfl ?_
  refine n_newZ hC hN hB 2 (by decide) rfl (Nat.le_of_ble_eq_true rfl) (Nat.le_of_ble_eq_true rfl) (Nat.le_of_ble_eq_true rfl) dX8_init_40 (fun q5 H hN => ?_)
  refine n_putF (C := RX8) (T := TX8) (N := 20) (ci := 8) 5 tyX8 tyX8_ok nmX8 mLY_X8 rfl (by decide) mFL_X8_22 rfl rfl hin hC hN 0 rfl rfl rfl (Nat.le_of_ble_eq_true rfl) (ws' := [(h0, .inr (8, [.ref q1, .ref q2, .ref q3, .int 0, .ref q4, .ref q5, .null, .int 0, .int 0, .int 0, .int 0, .int 0, .null, .int 0, .null, .int 0, .int 0, .null, .null, .int 0])), (q1, .inl (E.2 0, 87, .inl (fun _ => 0))), (q2, .inl (E.2 0, 87, .inl (fun _ => 0))), (q3, .inl (E.2 0, 435, .inl (fun _ => 0))), (q4, .inl (E.2 0, 174, .inl (fun _ => 0))), (q5, .inl (E.2 2, 2, .inl (fun _ => 0)))]) rfl dX8_init_42 (fun H locs hN => ?_)
  refine lv_aload_n hx hb dX8_init_45 rfl (lv_at hl 0 rfl) ?_
  refine lv_bipush (v := 100) hx hb dX8_init_46 (by decide) ?_
  refine n_newI hC hN hB 100 (by decide) rfl (Nat.le_of_ble_eq_true rfl) (Nat.le_of_ble_eq_true rfl) (Nat.le_of_ble_eq_true rfl) dX8_init_48 (fun q6 H hN => ?_)
  refine n_putF (C := RX8) (T := TX8) (N := 20) (ci := 8) 6 tyX8 tyX8_ok nmX8 mLY_X8 rfl (by decide) mFL_X8_26 rfl rfl hin hC hN 0 rfl rfl rfl (Nat.le_of_ble_eq_true rfl) (ws' := [(h0, .inr (8, [.ref q1, .ref q2, .ref q3, .int 0, .ref q4, .ref q5, .ref q6, .int 0, .int 0, .int 0, .int 0, .int 0, .null, .int 0, .null, .int 0, .int 0, .null, .null, .int 0])), (q1, .inl (E.2 0, 87, .inl (fun _ => 0))), (q2, .inl (E.2 0, 87, .inl (fun _ => 0))), (q3, .inl (E.2 0, 435, .inl (fun _ => 0))), (q4, .inl (E.2 0, 174, .inl (fun _ => 0))), (q5, .inl (E.2 2, 2, .inl (fun _ => 0))), (q6, .inl (E.2 0, 100, .inl (fun _ => 0)))]) rfl dX8_init_50 (fun H locs hN => ?_)
  refine lv_aload_n hx hb dX8_init_53 rfl (lv_at hl 0 rfl) ?_
  refine lv_bipush (v := 18) hx hb dX8_init_54 (by decide) ?_
  refine n_newI hC hN hB 18 (by decide) rfl (Nat.le_of_ble_eq_true rfl) (Nat.le_of_ble_eq_true rfl) (Nat.le_of_ble_eq_true rfl) dX8_init_56 (fun q7 H hN => ?_)
  refine n_putF (C := RX8) (T := TX8) (N := 20) (ci := 8) 12 tyX8 tyX8_ok nmX8 mLY_X8 rfl (by decide) mFL_X8_29 rfl rfl hin hC hN 0 rfl rfl rfl (Nat.le_of_ble_eq_true rfl) (ws' := [(h0, .inr (8, [.ref q1, .ref q2, .ref q3, .int 0, .ref q4, .ref q5, .ref q6, .int 0, .int 0, .int 0, .int 0, .int 0, .ref q7, .int 0, .null, .int 0, .int 0, .null, .null, .int 0])), (q1, .inl (E.2 0, 87, .inl (fun _ => 0))), (q2, .inl (E.2 0, 87, .inl (fun _ => 0))), (q3, .inl (E.2 0, 435, .inl (fun _ => 0))), (q4, .inl (E.2 0, 174, .inl (fun _ => 0))), (q5, .inl (E.2 2, 2, .inl (fun _ => 0))), (q6, .inl (E.2 0, 100, .inl (fun _ => 0))), (q7, .inl (E.2 0, 18, .inl (fun _ => 0)))]) rfl dX8_init_58 (fun H locs hN => ?_)
  refine lv_aload_n hx hb dX8_init_61 rfl (lv_at hl 0 rfl) ?_
  refine lv_bipush (v := 8) hx hb dX8_init_62 (by decide) ?_
  refine n_newI hC hN hB 8 (by decide) rfl (Nat.le_of_ble_eq_true rfl) (Nat.le_of_ble_eq_true rfl) (Nat.le_of_ble_eq_true rfl) dX8_init_64 (fun q8 H hN => ?_)
  refine n_putF (C := RX8) (T := TX8) (N := 20) (ci := 8) 14 tyX8 tyX8_ok nmX8 mLY_X8 rfl (by decide) mFL_X8_32 rfl rfl hin hC hN 0 rfl rfl rfl (Nat.le_of_ble_eq_true rfl) (ws' := [(h0, .inr (8, [.ref q1, .ref q2, .ref q3, .int 0, .ref q4, .ref q5, .ref q6, .int 0, .int 0, .int 0, .int 0, .int 0, .ref q7, .int 0, .ref q8, .int 0, .int 0, .null, .null, .int 0])), (q1, .inl (E.2 0, 87, .inl (fun _ => 0))), (q2, .inl (E.2 0, 87, .inl (fun _ => 0))), (q3, .inl (E.2 0, 435, .inl (fun _ => 0))), (q4, .inl (E.2 0, 174, .inl (fun _ => 0))), (q5, .inl (E.2 2, 2, .inl (fun _ => 0))), (q6, .inl (E.2 0, 100, .inl (fun _ => 0))), (q7, .inl (E.2 0, 18, .inl (fun _ => 0))), (q8, .inl (E.2 0, 8, .inl (fun _ => 0)))]) rfl dX8_init_66 (fun H locs hN => ?_)
  refine lv_aload_n hx hb dX8_init_69 rfl (lv_at hl 0 rfl) ?_
  refine lv_bipush (v := 15) hx hb dX8_init_70 (by decide) ?_
  refine n_newI hC hN hB 15 (by decide) rfl (Nat.le_of_ble_eq_true rfl) (Nat.le_of_ble_eq_true rfl) (Nat.le_of_ble_eq_true rfl) dX8_init_72 (fun q9 H hN => ?_)
  refine n_putF (C := RX8) (T := TX8) (N := 20) (ci := 8) 17 tyX8 tyX8_ok nmX8 mLY_X8 rfl (by decide) mFL_X8_35 rfl rfl hin hC hN 0 rfl rfl rfl (Nat.le_of_ble_eq_true rfl) (ws' := [(h0, .inr (8, [.ref q1, .ref q2, .ref q3, .int 0, .ref q4, .ref q5, .ref q6, .int 0, .int 0, .int 0, .int 0, .int 0, .ref q7, .int 0, .ref q8, .int 0, .int 0, .ref q9, .null, .int 0])), (q1, .inl (E.2 0, 87, .inl (fun _ => 0))), (q2, .inl (E.2 0, 87, .inl (fun _ => 0))), (q3, .inl (E.2 0, 435, .inl (fun _ => 0))), (q4, .inl (E.2 0, 174, .inl (fun _ => 0))), (q5, .inl (E.2 2, 2, .inl (fun _ => 0))), (q6, .inl (E.2 0, 100, .inl (fun _ => 0))), (q7, .inl (E.2 0, 18, .inl (fun _ => 0))), (q8, .inl (E.2 0, 8, .inl (fun _ => 0))), (q9, .inl (E.2 0, 15, .inl (fun _ => 0)))]) rfl dX8_init_74 (fun H locs hN => ?_)
  refine lv_aload_n hx hb dX8_init_77 rfl (lv_at hl 0 rfl) ?_
  refine lv_bipush (v := 120) hx hb dX8_init_78 (by decide) ?_
  refine n_newI hC hN hB 120 (by decide) rfl (Nat.le_of_ble_eq_true rfl) (Nat.le_of_ble_eq_true rfl) (Nat.le_of_ble_eq_true rfl) dX8_init_80 (fun q10 H hN => ?_)
  refine n_putF (C := RX8) (T := TX8) (N := 20) (ci := 8) 18 tyX8 tyX8_ok nmX8 mLY_X8 rfl (by decide) mFL_X8_38 rfl rfl hin hC hN 0 rfl rfl rfl (Nat.le_of_ble_eq_true rfl) (ws' := [(h0, .inr (8, [.ref q1, .ref q2, .ref q3, .int 0, .ref q4, .ref q5, .ref q6, .int 0, .int 0, .int 0, .int 0, .int 0, .ref q7, .int 0, .ref q8, .int 0, .int 0, .ref q9, .ref q10, .int 0])), (q1, .inl (E.2 0, 87, .inl (fun _ => 0))), (q2, .inl (E.2 0, 87, .inl (fun _ => 0))), (q3, .inl (E.2 0, 435, .inl (fun _ => 0))), (q4, .inl (E.2 0, 174, .inl (fun _ => 0))), (q5, .inl (E.2 2, 2, .inl (fun _ => 0))), (q6, .inl (E.2 0, 100, .inl (fun _ => 0))), (q7, .inl (E.2 0, 18, .inl (fun _ => 0))), (q8, .inl (E.2 0, 8, .inl (fun _ => 0))), (q9, .inl (E.2 0, 15, .inl (fun _ => 0))), (q10, .inl (E.2 0, 120, .inl (fun _ => 0)))]) rfl dX8_init_82 (fun H locs hN => ?_)
  refine lv_aload_n hx hb dX8_init_85 rfl (lv_at hl 0 rfl) ?_
  refine gt_X8_now hC hN 0 rfl rfl dX8_init_86 ?_
  refine lv_iconst (v := 0) hx hb dX8_init_89 rfl ?_
  refine lv_iconst (v := 1) hx hb dX8_init_90 rfl ?_
  obtain ⟨f1, ef1⟩ : ∃ y : Nat → Int32, y = upd (fun _ => 0) (0 : Int32).toNatClampNeg 1 := ⟨_, rfl⟩
  refine n_iast hC hN 1 rfl (inB_vp (by decide)) ef1 (ws' := [(h0, .inr (8, [.ref q1, .ref q2, .ref q3, .int 0, .ref q4, .ref q5, .ref q6, .int 0, .int 0, .int 0, .int 0, .int 0, .ref q7, .int 0, .ref q8, .int 0, .int 0, .ref q9, .ref q10, .int 0])), (q1, .inl (E.2 0, 87, .inl f1)), (q2, .inl (E.2 0, 87, .inl (fun _ => 0))), (q3, .inl (E.2 0, 435, .inl (fun _ => 0))), (q4, .inl (E.2 0, 174, .inl (fun _ => 0))), (q5, .inl (E.2 2, 2, .inl (fun _ => 0))), (q6, .inl (E.2 0, 100, .inl (fun _ => 0))), (q7, .inl (E.2 0, 18, .inl (fun _ => 0))), (q8, .inl (E.2 0, 8, .inl (fun _ => 0))), (q9, .inl (E.2 0, 15, .inl (fun _ => 0))), (q10, .inl (E.2 0, 120, .inl (fun _ => 0)))]) rfl dX8_init_91 (fun H locs hN => ?_)
  refine lv_aload_n hx hb dX8_init_92 rfl (lv_at hl 0 rfl) ?_
  refine gt_X8_now hC hN 0 rfl rfl dX8_init_93 ?_
  refine lv_iconst (v := 3) hx hb dX8_init_96 rfl ?_
  refine lv_iconst (v := 5) hx hb dX8_init_97 rfl ?_
  obtain ⟨f2, ef2⟩ : ∃ y : Nat → Int32, y = upd f1 (3 : Int32).toNatClampNeg 5 := ⟨_, rfl⟩
  refine n_iast hC hN 1 rfl (inB_vp (by decide)) ef2 (ws' := [(h0, .inr (8, [.ref q1, .ref q2, .ref q3, .int 0, .ref q4, .ref q5, .ref q6, .int 0, .int 0, .int 0, .int 0, .int 0, .ref q7, .int 0, .ref q8, .int 0, .int 0, .ref q9, .ref q10, .int 0])), (q1, .inl (E.2 0, 87, .inl f2)), (q2, .inl (E.2 0, 87, .inl (fun _ => 0))), (q3, .inl (E.2 0, 435, .inl (fun _ => 0))), (q4, .inl (E.2 0, 174, .inl (fun _ => 0))), (q5, .inl (E.2 2, 2, .inl (fun _ => 0))), (q6, .inl (E.2 0, 100, .inl (fun _ => 0))), (q7, .inl (E.2 0, 18, .inl (fun _ => 0))), (q8, .inl (E.2 0, 8, .inl (fun _ => 0))), (q9, .inl (E.2 0, 15, .inl (fun _ => 0))), (q10, .inl (E.2 0, 120, .inl (fun _ => 0)))]) rfl dX8_init_98 (fun H locs hN => ?_)
  refine lv_aload_n hx hb dX8_init_99 rfl (lv_at hl 0 rfl) ?_
  refine gt_X8_now hC hN 0 rfl rfl dX8_init_100 ?_
  refine lv_bipush (v := 6) hx hb dX8_init_103 (by decide) ?_
  refine lv_iconst (v := 1) hx hb dX8_init_105 rfl ?_
  obtain ⟨f3, ef3⟩ : ∃ y : Nat → Int32, y = upd f2 (6 : Int32).toNatClampNeg 1 := ⟨_, rfl⟩
  refine n_iast hC hN 1 rfl (inB_vp (by decide)) ef3 (ws' := [(h0, .inr (8, [.ref q1, .ref q2, .ref q3, .int 0, .ref q4, .ref q5, .ref q6, .int 0, .int 0, .int 0, .int 0, .int 0, .ref q7, .int 0, .ref q8, .int 0, .int 0, .ref q9, .ref q10, .int 0])), (q1, .inl (E.2 0, 87, .inl f3)), (q2, .inl (E.2 0, 87, .inl (fun _ => 0))), (q3, .inl (E.2 0, 435, .inl (fun _ => 0))), (q4, .inl (E.2 0, 174, .inl (fun _ => 0))), (q5, .inl (E.2 2, 2, .inl (fun _ => 0))), (q6, .inl (E.2 0, 100, .inl (fun _ => 0))), (q7, .inl (E.2 0, 18, .inl (fun _ => 0))), (q8, .inl (E.2 0, 8, .inl (fun _ => 0))), (q9, .inl (E.2 0, 15, .inl (fun _ => 0))), (q10, .inl (E.2 0, 120, .inl (fun _ => 0)))]) rfl dX8_init_106 (fun H locs hN => ?_)
  refine lv_iconst (v := 0) hx hb dX8_init_107 rfl ?_
  refine lv_istore_n (lv' := [(1, .int 0), (0, .ref h0)]) hx hb dX8_init_108 rfl hl (by decide) rfl (fun ls hl => ?_)
  have L1 : ∀ (d j : Nat) (f : Nat → Int32) (H : Heap) (locs : List Loc) (ls : Array Slot), j + d = 8 → (f 0 = 1 ∧ f 3 = 5 ∧ f 6 = 1 ∧ (∀ x, x < 87 → x ≠ 0 → x ≠ 3 → x ≠ 6 → (x < 27 ∨ 35 ≤ x) → f x = 0)) → Nw E s (va_A [(h0, .inr (8, [.null, .null, .null, .int 0, .null, .null, .null, .int 0, .int 0, .int 0, .int 0, .int 0, .null, .int 0, .null, .int 0, .int 0, .null, .null, .int 0]))] s.heap.size) ([(h0, .inr (8, [.ref q1, .ref q2, .ref q3, .int 0, .ref q4, .ref q5, .ref q6, .int 0, .int 0, .int 0, .int 0, .int 0, .ref q7, .int 0, .ref q8, .int 0, .int 0, .ref q9, .ref q10, .int 0])), (q1, .inl (E.2 0, 87, .inl f)), (q2, .inl (E.2 0, 87, .inl (fun _ => 0))), (q3, .inl (E.2 0, 435, .inl (fun _ => 0))), (q4, .inl (E.2 0, 174, .inl (fun _ => 0))), (q5, .inl (E.2 2, 2, .inl (fun _ => 0))), (q6, .inl (E.2 0, 100, .inl (fun _ => 0))), (q7, .inl (E.2 0, 18, .inl (fun _ => 0))), (q8, .inl (E.2 0, 8, .inl (fun _ => 0))), (q9, .inl (E.2 0, 15, .inl (fun _ => 0))), (q10, .inl (E.2 0, 120, .inl (fun _ => 0)))]) H locs → lv_has ls 2 [(0, .ref h0), (1, .int (nI j))] → W p l e ({ frames := 1, cells := 10, slots := 1046, locals := 12 }) s m args below meth c H locs 10 1046 (MQ below (Qm E h0 8 [.null, .null, .null, .int 0, .null, .null, .null, .int 0, .int 0, .int 0, .int 0, .int 0, .null, .int 0, .null, .int 0, .int 0, .null, .null, .int 0] s.heap.size (fun w1 => ∃ (a : Nat → Nat) (y : S8), a 0 = h0 ∧ w1 = W8 E a y ∧ (y.now 0 = 1 ∧ y.now 3 = 5 ∧ y.now 6 = 1 ∧ (∀ x, x < 87 → x ≠ 0 → x ≠ 3 → x ≠ 6 → (x < 27 ∨ 35 ≤ x) → y.now x = 0)) ∧ y.deeds = 0 ∧ y.isK = z0 ∧ y.text = z0 ∧ y.letters = 0 ∧ y.seen = 0)) args s 10 1046 (va_A [(h0, .inr (8, [.null, .null, .null, .int 0, .null, .null, .null, .int 0, .int 0, .int 0, .int 0, .int 0, .null, .int 0, .null, .int 0, .int 0, .null, .null, .int 0]))] s.heap.size)) (F0 m 109 ls []) := by
    intro d
    induction d with
    | zero =>
      intro j f H locs ls hj hf hN hl
      obtain rfl : j = 8 := by omega
      refine lv_iload_n hx hb dX8_init_109 rfl (lv_at hl 1 rfl) ?_
      refine lv_bipush (v := 8) hx hb dX8_init_110 (by decide) ?_
      refine lv_icmp_ge (tgt := 132) hx hb dX8_init_112 (by decide) (fun _ => ?_) (fun c3 => absurd (show (8 : Int32) ≤ nI 8 from by decide) c3)
      exact n_vretI hC hN ⟨fun i => [h0, q1, q2, q3, q4, q5, q6, q7, q8, q9, q10].getD i 0, ⟨f, z0, z0, 0, z0, z0, z0, 0, 0, 0, 0, 0, z0, 0, z0, 0, 0, z0, z0, 0⟩, rfl, rfl, hf, rfl, rfl, rfl, rfl, rfl⟩ (Nat.le_of_ble_eq_true rfl) (Nat.le_of_ble_eq_true rfl) dX8_init_132
    | succ d ih =>
      intro j f H locs ls hj hf hN hl
      have hjn : j < 8 := by omega
      refine lv_iload_n hx hb dX8_init_109 rfl (lv_at hl 1 rfl) ?_
      refine lv_bipush (v := 8) hx hb dX8_init_110 (by decide) ?_
      refine lv_icmp_ge (tgt := 132) hx hb dX8_init_112 (by decide) (fun c3 => absurd c3 (nI_ge (b := 8) hjn (by decide))) (fun _ => ?_)
      refine lv_aload_n hx hb dX8_init_115 rfl (lv_at hl 0 rfl) ?_
      refine gt_X8_now hC hN 0 rfl rfl dX8_init_116 ?_
      refine lv_bipush (v := 27) hx hb dX8_init_119 (by decide) ?_
      refine lv_iload_n hx hb dX8_init_121 rfl (lv_at hl 1 rfl) ?_
      refine lv_iadd hx hb dX8_init_122 ?_
      have ix : 27 + nI j = nI (27 + j) := by rw [l27, nI_add]
      refine W.eq (g2 := F0 m 123 ls [.int (nI (27 + j)), .ref q1]) (by rw [← ix]) ?_
      refine lv_bipush (v := -9) hx hb dX8_init_123 (by decide) ?_
      obtain ⟨f2, ef2⟩ : ∃ y : Nat → Int32, y = upd f (nI (27 + j)).toNatClampNeg (-9) := ⟨_, rfl⟩
      refine n_iast hC hN 1 rfl (vp_in_nI (by omega) (by decide)) ef2 (ws' := [(h0, .inr (8, [.ref q1, .ref q2, .ref q3, .int 0, .ref q4, .ref q5, .ref q6, .int 0, .int 0, .int 0, .int 0, .int 0, .ref q7, .int 0, .ref q8, .int 0, .int 0, .ref q9, .ref q10, .int 0])), (q1, .inl (E.2 0, 87, .inl f2)), (q2, .inl (E.2 0, 87, .inl (fun _ => 0))), (q3, .inl (E.2 0, 435, .inl (fun _ => 0))), (q4, .inl (E.2 0, 174, .inl (fun _ => 0))), (q5, .inl (E.2 2, 2, .inl (fun _ => 0))), (q6, .inl (E.2 0, 100, .inl (fun _ => 0))), (q7, .inl (E.2 0, 18, .inl (fun _ => 0))), (q8, .inl (E.2 0, 8, .inl (fun _ => 0))), (q9, .inl (E.2 0, 15, .inl (fun _ => 0))), (q10, .inl (E.2 0, 120, .inl (fun _ => 0)))]) rfl dX8_init_125 (fun H locs hN => ?_)
      refine lv_iinc (v := nI (j + 1)) (lv' := [(1, .int (nI (j + 1))), (0, .ref h0)]) hx hb dX8_init_126 hl (k := 1) rfl (nI_1 j) (by decide) rfl (fun ls hl => ?_)
      refine lv_goto (tgt := 109) hx hb dX8_init_129 (by decide) ?_
      rw [nI_N (by omega)] at ef2
      refine ih (j + 1) f2 H locs ls (by omega) ?_ hN (lv_sub hl [1, 0] rfl)
      rw [ef2]
      refine ⟨by rw [pk_un (by omega)]; exact hf.1, by rw [pk_un (by omega)]; exact hf.2.1, by rw [pk_un (by omega)]; exact hf.2.2.1, fun x h1 h2 h3 h4 h5 => by rw [pk_un (by omega)]; exact hf.2.2.2 x h1 h2 h3 h4 h5⟩
  refine W.widen (k := 10) (n := 1046) (Nat.le_of_ble_eq_true rfl) (Nat.le_of_ble_eq_true rfl) ?_
  refine L1 8 0 f3 H locs ls rfl ?_ hN (lv_sub hl [1, 0] rfl)
  rw [ef3, ef2, ef1]
  refine ⟨rfl, rfl, rfl, fun x h1 h2 h3 h4 h5 => ?_⟩
  rw [show (6 : Int32).toNatClampNeg = 6 from rfl, show (3 : Int32).toNatClampNeg = 3 from rfl, z0N, pk_un h4, pk_un h3, pk_un h2]
