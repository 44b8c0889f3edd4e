set_option maxHeartbeats 4000000 in
set_option maxRecDepth 100000 in
theorem tX8_isHost (l : Launch) (E : EV) (adc : Nat → Nat) (c_now : Nat → Int32) (c_read : Nat → Int32) (c_past : Nat → Int32) (c_deeds : Int32) (c_images : Nat → Int32) (c_isKept : Nat → Int32) (c_text : Nat → Int32) (c_letters : Int32) (c_at : Int32) (c_token : Int32) (c_tokenAt : Int32) (c_value : Int32) (c_facts : Nat → Int32) (c_seen : Int32) (c_seenAhead : Nat → Int32) (c_weakLink : Int32) (c_weakTwos : Int32) (c_which : Nat → Int32) (c_views : Nat → Int32) (c_whichMany : Int32) (p1 : Int32) (z : Int32) (h : fX8_isHost c_now p1 = some z) : Cn l E yX8_isHost cX8_isHost 2 (some .boolean) 1 22 [.ref (adc 0), .int p1] (wX8 E adc c_now c_read c_past c_deeds c_images c_isKept c_text c_letters c_at c_token c_tokenAt c_value c_facts c_seen c_seenAhead c_weakLink c_weakTwos c_which c_views c_whichMany) (wX8 E adc c_now c_read c_past c_deeds c_images c_isKept c_text c_letters c_at c_token c_tokenAt c_value c_facts c_seen c_seenAhead c_weakLink c_weakTwos c_which c_views c_whichMany) (some (.int z)) := by
  refine Cn.ofW (by decide +kernel) (Nat.le_of_ble_eq_true rfl) ?_
  intro p e s m args below meth c ls hC hN hl
  have hl : lv_has ls 2 [(0, .ref (adc 0)), (1, .int p1)] := hl
  have hx := hC.1
  have hb := hC.2.1
  unfold fX8_isHost at h
  refine lv_iload_n hx hb dX8_isHost_0 rfl (lv_at hl 1 rfl) ?_
  refine lv_iconst (v := 0) hx hb dX8_isHost_1 rfl ?_
  refine lv_aload_n hx hb dX8_isHost_2 rfl (lv_at hl 0 rfl) ?_
  refine gt_X8_now hC hN 0 rfl rfl dX8_isHost_3 ?_
  refine lv_iconst (v := 1) hx hb dX8_isHost_6 rfl ?_
  have g := inB_vp (gd_c h)
  have h := gd_e h
  refine n_iald hC hN 1 rfl g dX8_isHost_7 ?_
  refine lv_iconst (v := 1) hx hb dX8_isHost_8 rfl ?_
  refine lv_isub hx hb dX8_isHost_9 ?_
  obtain ⟨r_1, hr_1, h⟩ := bi_e h
  refine n_callSi (ws' := wX8 E adc c_now c_read c_past c_deeds c_images c_isKept c_text c_letters c_at c_token c_tokenAt c_value c_facts c_seen c_seenAhead c_weakLink c_weakTwos c_which c_views c_whichMany) hC hN (tX8_in l E p1 0 ((c_now (1 : Int32).toNatClampNeg) - 1) r_1 hr_1) cy_X8_in mML_X8_55 mST_X8_in (perm_nil _) (perm_nil _) rfl rfl hl.1 rfl (Nat.le_of_ble_eq_true rfl) dX8_isHost_10 ⟨Nat.le_of_ble_eq_true rfl, Nat.le_of_ble_eq_true rfl⟩ ⟨Nat.le_refl _, Nat.le_refl _⟩ (fun H locs hN => ?_)
  have gB := gd_c h
  have h := gd_e h
  obtain rfl := Option.some.inj h
  exact n_zret hC hN gB dX8_isHost_13
set_option maxHeartbeats 4000000 in
set_option maxRecDepth 100000 in
theorem tX8_areTwo (l : Launch) (E : EV) (adc : Nat → Nat) (c_now : Nat → Int32) (c_read : Nat → Int32) (c_past : Nat → Int32) (c_deeds : Int32) (c_images : Nat → Int32) (c_isKept : Nat → Int32) (c_text : Nat → Int32) (c_letters : Int32) (c_at : Int32) (c_token : Int32) (c_tokenAt : Int32) (c_value : Int32) (c_facts : Nat → Int32) (c_seen : Int32) (c_seenAhead : Nat → Int32) (c_weakLink : Int32) (c_weakTwos : Int32) (c_which : Nat → Int32) (c_views : Nat → Int32) (c_whichMany : Int32) (p1 : Int32) (p2 : Int32) (z : Int32) (h : fX8_areTwo c_now p1 p2 = some z) : Cn l E yX8_areTwo cX8_areTwo 3 (some .boolean) 2 43 [.ref (adc 0), .int p1, .int p2] (wX8 E adc c_now c_read c_past c_deeds c_images c_isKept c_text c_letters c_at c_token c_tokenAt c_value c_facts c_seen c_seenAhead c_weakLink c_weakTwos c_which c_views c_whichMany) (wX8 E adc c_now c_read c_past c_deeds c_images c_isKept c_text c_letters c_at c_token c_tokenAt c_value c_facts c_seen c_seenAhead c_weakLink c_weakTwos c_which c_views c_whichMany) (some (.int z)) := by
  refine Cn.ofW (by decide +kernel) (Nat.le_of_ble_eq_true rfl) ?_
  intro p e s m args below meth c ls hC hN hl
  have hl : lv_has ls 3 [(0, .ref (adc 0)), (1, .int p1), (2, .int p2)] := hl
  have hx := hC.1
  have hb := hC.2.1
  unfold fX8_areTwo at h
  refine lv_aload_n hx hb dX8_areTwo_0 rfl (lv_at hl 0 rfl) ?_
  refine lv_iload_n hx hb dX8_areTwo_1 rfl (lv_at hl 1 rfl) ?_
  obtain ⟨r_1, hr_1, h⟩ := bi_e h
  refine n_callVi (ws' := wX8 E adc c_now c_read c_past c_deeds c_images c_isKept c_text c_letters c_at c_token c_tokenAt c_value c_facts c_seen c_seenAhead c_weakLink c_weakTwos c_which c_views c_whichMany) hC hN (tX8_isSwitch l E adc c_now c_read c_past c_deeds c_images c_isKept c_text c_letters c_at c_token c_tokenAt c_value c_facts c_seen c_seenAhead c_weakLink c_weakTwos c_which c_views c_whichMany p1 r_1 hr_1) cy_X8_isSwitch mML_X8_99 mIM_X8_isSwitch mSE_X8_isSwitch rfl rfl (k := 0) rfl (perm_self _) (perm_self _) rfl rfl hl.1 rfl (Nat.le_of_ble_eq_true rfl) dX8_areTwo_2 ⟨Nat.le_of_ble_eq_true rfl, Nat.le_of_ble_eq_true rfl⟩ ⟨Nat.le_refl _, Nat.le_refl _⟩ (fun H locs hN => ?_)
  refine lv_if_eq (tgt := 25) hx hb dX8_areTwo_5 (by decide) (fun c2 => ?_) (fun c2 => ?_)
  · have h := if_t h c2
    refine lv_iconst (v := 0) hx hb dX8_areTwo_25 rfl ?_
    obtain rfl := Option.some.inj h
    exact n_zret hC hN (Or.inl rfl) dX8_areTwo_26
  · have h := if_f h c2
    refine lv_aload_n hx hb dX8_areTwo_8 rfl (lv_at hl 0 rfl) ?_
    refine lv_iload_n hx hb dX8_areTwo_9 rfl (lv_at hl 2 rfl) ?_
    obtain ⟨r_3, hr_3, h⟩ := bi_e h
    refine n_callVi (ws' := wX8 E adc c_now c_read c_past c_deeds c_images c_isKept c_text c_letters c_at c_token c_tokenAt c_value c_facts c_seen c_seenAhead c_weakLink c_weakTwos c_which c_views c_whichMany) hC hN (tX8_isSwitch l E adc c_now c_read c_past c_deeds c_images c_isKept c_text c_letters c_at c_token c_tokenAt c_value c_facts c_seen c_seenAhead c_weakLink c_weakTwos c_which c_views c_whichMany p2 r_3 hr_3) cy_X8_isSwitch mML_X8_99 mIM_X8_isSwitch mSE_X8_isSwitch rfl rfl (k := 0) rfl (perm_self _) (perm_self _) rfl rfl hl.1 rfl (Nat.le_of_ble_eq_true rfl) dX8_areTwo_10 ⟨Nat.le_of_ble_eq_true rfl, Nat.le_of_ble_eq_true rfl⟩ ⟨Nat.le_refl _, Nat.le_refl _⟩ (fun H locs hN => ?_)
    refine lv_if_eq (tgt := 25) hx hb dX8_areTwo_13 (by decide) (fun c4 => ?_) (fun c4 => ?_)
    · have h := if_t h c4
      refine lv_iconst (v := 0) hx hb dX8_areTwo_25 rfl ?_
      obtain rfl := Option.some.inj h
      exact n_zret hC hN (Or.inl rfl) dX8_areTwo_26
    · have h := if_f h c4
      refine lv_iload_n hx hb dX8_areTwo_16 rfl (lv_at hl 1 rfl) ?_
      refine lv_iload_n hx hb dX8_areTwo_17 rfl (lv_at hl 2 rfl) ?_
      refine lv_icmp_eq (tgt := 25) hx hb dX8_areTwo_18 (by decide) (fun c5 => ?_) (fun c5 => ?_)
      · have h := if_t h c5
        refine lv_iconst (v := 0) hx hb dX8_areTwo_25 rfl ?_
        obtain rfl := Option.some.inj h
        exact n_zret hC hN (Or.inl rfl) dX8_areTwo_26
      · have h := if_f h c5
        refine lv_iconst (v := 1) hx hb dX8_areTwo_21 rfl ?_
        refine lv_goto (tgt := 26) hx hb dX8_areTwo_22 (by decide) ?_
        obtain rfl := Option.some.inj h
        exact n_zret hC hN (Or.inr rfl) dX8_areTwo_26
set_option maxHeartbeats 4000000 in
set_option maxRecDepth 100000 in
theorem tX8_of (l : Launch) (E : EV) (adc : Nat → Nat) (c_now : Nat → Int32) (c_read : Nat → Int32) (c_past : Nat → Int32) (c_deeds : Int32) (c_images : Nat → Int32) (c_isKept : Nat → Int32) (c_text : Nat → Int32) (c_letters : Int32) (c_at : Int32) (c_token : Int32) (c_tokenAt : Int32) (c_value : Int32) (c_facts : Nat → Int32) (c_seen : Int32) (c_seenAhead : Nat → Int32) (c_weakLink : Int32) (c_weakTwos : Int32) (c_which : Nat → Int32) (c_views : Nat → Int32) (c_whichMany : Int32) (p1 : Int32) (p2 : Int32) (z : Int32) (h : fX8_of c_now p1 p2 = some z) : Cn l E yX8_of cX8_of 3 (some .int) 0 0 [.ref (adc 0), .int p1, .int p2] (wX8 E adc c_now c_read c_past c_deeds c_images c_isKept c_text c_letters c_at c_token c_tokenAt c_value c_facts c_seen c_seenAhead c_weakLink c_weakTwos c_which c_views c_whichMany) (wX8 E adc c_now c_read c_past c_deeds c_images c_isKept c_text c_letters c_at c_token c_tokenAt c_value c_facts c_seen c_seenAhead c_weakLink c_weakTwos c_which c_views c_whichMany) (some (.int z)) := by
  refine Cn.ofW (by decide +kernel) (Nat.le_of_ble_eq_true rfl) ?_
  intro p e s m args below meth c ls hC hN hl
  have hl : lv_has ls 3 [(0, .ref (adc 0)), (1, .int p1), (2, .int p2)] := hl
  have hx := hC.1
  have hb := hC.2.1
  unfold fX8_of at h
  refine lv_aload_n hx hb dX8_of_0 rfl (lv_at hl 0 rfl) ?_
  refine gt_X8_now hC hN 0 rfl rfl dX8_of_1 ?_
  refine lv_iconst (v := 3) hx hb dX8_of_4 rfl ?_
  refine lv_iconst (v := 4) hx hb dX8_of_5 rfl ?_
  refine lv_iload_n hx hb dX8_of_6 rfl (lv_at hl 1 rfl) ?_
  refine lv_imul hx hb dX8_of_7 ?_
  refine lv_iadd hx hb dX8_of_8 ?_
  refine lv_iload_n hx hb dX8_of_9 rfl (lv_at hl 2 rfl) ?_
  refine lv_iadd hx hb dX8_of_10 ?_
  have g := inB_vp (gd_c h)
  have h := gd_e h
  refine n_iald hC hN 1 rfl g dX8_of_11 ?_
  obtain rfl := Option.some.inj h
  exact n_iret hC hN dX8_of_12
set_option maxHeartbeats 4000000 in
set_option maxRecDepth 100000 in
theorem tX8_besides (l : Launch) (E : EV) (adc : Nat → Nat) (c_now : Nat → Int32) (c_read : Nat → Int32) (c_past : Nat → Int32) (c_deeds : Int32) (c_images : Nat → Int32) (c_isKept : Nat → Int32) (c_text : Nat → Int32) (c_letters : Int32) (c_at : Int32) (c_token : Int32) (c_tokenAt : Int32) (c_value : Int32) (c_facts : Nat → Int32) (c_seen : Int32) (c_seenAhead : Nat → Int32) (c_weakLink : Int32) (c_weakTwos : Int32) (c_which : Nat → Int32) (c_views : Nat → Int32) (c_whichMany : Int32) (p1 : Int32) (z : Int32) (h : fX8_besides c_now p1 = some z) : Cn l E yX8_besides cX8_besides 4 (some .int) 1 21 [.ref (adc 0), .int p1] (wX8 E adc c_now c_read c_past c_deeds c_images c_isKept c_text c_letters c_at c_token c_tokenAt c_value c_facts c_seen c_seenAhead c_weakLink c_weakTwos c_which c_views c_whichMany) (wX8 E adc c_now c_read c_past c_deeds c_images c_isKept c_text c_letters c_at c_token c_tokenAt c_value c_facts c_seen c_seenAhead c_weakLink c_weakTwos c_which c_views c_whichMany) (some (.int z)) := by
  refine Cn.ofW (by decide +kernel) (Nat.le_of_ble_eq_true rfl) ?_
  intro p e s m args below meth c ls hC hN hl
  obtain ⟨z0, hz0⟩ : ∃ y, y = z := ⟨_, rfl⟩
  rw [← hz0] at h ⊢
  clear hz0
  have hl : lv_has ls 4 [(0, .ref (adc 0)), (1, .int p1)] := hl
  have hx := hC.1
  have hb := hC.2.1
  unfold fX8_besides at h
  refine lv_iload_n hx hb dX8_besides_0 rfl (lv_at hl 1 rfl) ?_
  refine lv_istore_n (lv' := [(2, .int p1), (0, .ref (adc 0)), (1, .int p1)]) hx hb dX8_besides_1 rfl hl (by decide) rfl (fun ls hl => ?_)
  refine lv_iconst (v := 0) hx hb dX8_besides_2 rfl ?_
  refine lv_istore_n (lv' := [(3, .int 0), (2, .int p1), (0, .ref (adc 0)), (1, .int p1)]) hx hb dX8_besides_3 rfl hl (by decide) rfl (fun ls hl => ?_)
  have L1 : ∀ (fu : Nat) (v2_1 : Int32) (v3_2 : Int32) (z : Int32 × Int32) (H : Heap) (locs : List Loc) (ls : Array Slot), Nw E s (AD (wX8 E adc c_now c_read c_past c_deeds c_images c_isKept c_text c_letters c_at c_token c_tokenAt c_value c_facts c_seen c_seenAhead c_weakLink c_weakTwos c_which c_views c_whichMany)) (wX8 E adc c_now c_read c_past c_deeds c_images c_isKept c_text c_letters c_at c_token c_tokenAt c_value c_facts c_seen c_seenAhead c_weakLink c_weakTwos c_which c_views c_whichMany) H locs → lv_has ls 4 [(0, .ref (adc 0)), (1, .int p1), (2, .int v2_1), (3, .int v3_2)] → fX8_besides_L1 c_now p1 fu v2_1 v3_2 = some z → (∀ (H : Heap) (locs : List Loc) (ls : Array Slot), Nw E s (AD (wX8 E adc c_now c_read c_past c_deeds c_images c_isKept c_text c_letters c_at c_token c_tokenAt c_value c_facts c_seen c_seenAhead c_weakLink c_weakTwos c_which c_views c_whichMany)) (wX8 E adc c_now c_read c_past c_deeds c_images c_isKept c_text c_letters c_at c_token c_tokenAt c_value c_facts c_seen c_seenAhead c_weakLink c_weakTwos c_which c_views c_whichMany) H locs → lv_has ls 4 [(0, .ref (adc 0)), (1, .int p1), (2, .int z.1), (3, .int z.2)] → WN p l e 1 21 s m args below meth c E (wX8 E adc c_now c_read c_past c_deeds c_images c_isKept c_text c_letters c_at c_token c_tokenAt c_value c_facts c_seen c_seenAhead c_weakLink c_weakTwos c_which c_views c_whichMany) (some (.int z0)) (wX8 E adc c_now c_read c_past c_deeds c_images c_isKept c_text c_letters c_at c_token c_tokenAt c_value c_facts c_seen c_seenAhead c_weakLink c_weakTwos c_which c_views c_whichMany) H locs (F0 m 44 ls [])) → WN p l e 1 21 s m args below meth c E (wX8 E adc c_now c_read c_past c_deeds c_images c_isKept c_text c_letters c_at c_token c_tokenAt c_value c_facts c_seen c_seenAhead c_weakLink c_weakTwos c_which c_views c_whichMany) (some (.int z0)) (wX8 E adc c_now c_read c_past c_deeds c_images c_isKept c_text c_letters c_at c_token c_tokenAt c_value c_facts c_seen c_seenAhead c_weakLink c_weakTwos c_which c_views c_whichMany) H locs (F0 m 4 ls []) := by
    intro fu
    induction fu with
    | zero =>
      intro v2_1 v3_2 z H locs ls hN hl h K
      cases (show (none : Option (Int32 × Int32)) = some z from h)
    | succ fu ih =>
      intro v2_1 v3_2 z H locs ls hN hl h K
      rw [fX8_besides_L1.eq_2] at h
      refine lv_iload_n hx hb dX8_besides_4 rfl (lv_at hl 3 rfl) ?_
      refine lv_aload_n hx hb dX8_besides_5 rfl (lv_at hl 0 rfl) ?_
      refine gt_X8_now hC hN 0 rfl rfl dX8_besides_6 ?_
      refine lv_iconst (v := 0) hx hb dX8_besides_9 rfl ?_
      have g := inB_vp (gd_c h)
      have h := gd_e h
      refine n_iald hC hN 1 rfl g dX8_besides_10 ?_
      refine lv_icmp_ge (tgt := 44) hx hb dX8_besides_11 (by decide) (fun c3 => ?_) (fun c3 => ?_)
      · have h := if_t h c3
        obtain rfl := Option.some.inj h
        exact K _ _ _ hN (lv_sub hl [0, 1, 2, 3] rfl)
      · have h := if_f h c3
        refine lv_iload_n hx hb dX8_besides_14 rfl (lv_at hl 2 rfl) ?_
        refine lv_iload_n hx hb dX8_besides_15 rfl (lv_at hl 1 rfl) ?_
        refine lv_iload_n hx hb dX8_besides_16 rfl (lv_at hl 3 rfl) ?_
        obtain ⟨r_4, hr_4, h⟩ := bi_e h
        refine n_callSi (ws' := wX8 E adc c_now c_read c_past c_deeds c_images c_isKept c_text c_letters c_at c_token c_tokenAt c_value c_facts c_seen c_seenAhead c_weakLink c_weakTwos c_which c_views c_whichMany) hC hN (tX8_has l E p1 v3_2 r_4 hr_4) cy_X8_has mML_X8_102 mST_X8_has (perm_nil _) (perm_nil _) rfl rfl hl.1 rfl (Nat.le_of_ble_eq_true rfl) dX8_besides_17 ⟨Nat.le_of_ble_eq_true rfl, Nat.le_of_ble_eq_true rfl⟩ ⟨Nat.le_refl _, Nat.le_refl _⟩ (fun H locs hN => ?_)
        refine lv_if_eq (tgt := 35) hx hb dX8_besides_20 (by decide) (fun c5 => ?_) (fun c5 => ?_)
        · have h := if_t h c5
          refine lv_iconst (v := 0) hx hb dX8_besides_35 rfl ?_
          refine lv_ior hx hb dX8_besides_36 ?_
          refine lv_topi (fun v2_6 ev2_6 => ?_)
          have h := bd_e h v2_6 ev2_6
          refine lv_istore_n (lv' := [(2, .int v2_6), (0, .ref (adc 0)), (1, .int p1), (3, .int v3_2)]) hx hb dX8_besides_37 rfl hl (by decide) rfl (fun ls hl => ?_)
          obtain ⟨v3_7, ev3_7⟩ : ∃ y : Int32, y = v3_2 + 1 := ⟨_, rfl⟩
          have h := bd_e h v3_7 ev3_7
          refine lv_iinc (v := v3_7) (lv' := [(3, .int v3_7), (2, .int v2_6), (0, .ref (adc 0)), (1, .int p1)]) hx hb dX8_besides_38 hl (k := 3) rfl (by rw [ev3_7]; rfl) (by decide) rfl (fun ls hl => ?_)
          refine lv_goto (tgt := 4) hx hb dX8_besides_41 (by decide) ?_
          exact ih v2_6 v3_7 z _ _ _ hN (lv_sub hl [2, 3, 1, 0] rfl) h K
        · have h := if_f h c5
          refine lv_aload_n hx hb dX8_besides_23 rfl (lv_at hl 0 rfl) ?_
          refine gt_X8_now hC hN 0 rfl rfl dX8_besides_24 ?_
          refine lv_bipush (v := 35) hx hb dX8_besides_27 (by decide) ?_
          refine lv_iload_n hx hb dX8_besides_29 rfl (lv_at hl 3 rfl) ?_
          refine lv_iadd hx hb dX8_besides_30 ?_
          have g := inB_vp (gd_c h)
          have h := gd_e h
          refine n_iald hC hN 1 rfl g dX8_besides_31 ?_
          refine lv_goto (tgt := 36) hx hb dX8_besides_32 (by decide) ?_
          refine lv_ior hx hb dX8_besides_36 ?_
          refine lv_topi (fun v2_8 ev2_8 => ?_)
          have h := bd_e h v2_8 ev2_8
          refine lv_istore_n (lv' := [(2, .int v2_8), (0, .ref (adc 0)), (1, .int p1), (3, .int v3_2)]) hx hb dX8_besides_37 rfl hl (by decide) rfl (fun ls hl => ?_)
          obtain ⟨v3_9, ev3_9⟩ : ∃ y : Int32, y = v3_2 + 1 := ⟨_, rfl⟩
          have h := bd_e h v3_9 ev3_9
          refine lv_iinc (v := v3_9) (lv' := [(3, .int v3_9), (2, .int v2_8), (0, .ref (adc 0)), (1, .int p1)]) hx hb dX8_besides_38 hl (k := 3) rfl (by rw [ev3_9]; rfl) (by decide) rfl (fun ls hl => ?_)
          refine lv_goto (tgt := 4) hx hb dX8_besides_41 (by decide) ?_
          exact ih v2_8 v3_9 z _ _ _ hN (lv_sub hl [2, 3, 1, 0] rfl) h K
  obtain ⟨z_10, hz_10, h⟩ := bi_e h
  refine L1 500 p1 0 z_10 _ _ _ hN (lv_sub hl [2, 3, 1, 0] rfl) hz_10 (fun H locs ls hN hl => ?_)
  refine lv_iload_n hx hb dX8_besides_44 rfl (lv_at hl 2 rfl) ?_
  obtain rfl := Option.some.inj h
  exact n_iret hC hN dX8_besides_45
set_option maxHeartbeats 4000000 in
set_option maxRecDepth 100000 in
theorem tX8_fabricOf (l : Launch) (E : EV) (adc : Nat → Nat) (c_now : Nat → Int32) (c_read : Nat → Int32) (c_past : Nat → Int32) (c_deeds : Int32) (c_images : Nat → Int32) (c_isKept : Nat → Int32) (c_text : Nat → Int32) (c_letters : Int32) (c_at : Int32) (c_token : Int32) (c_tokenAt : Int32) (c_value : Int32) (c_facts : Nat → Int32) (c_seen : Int32) (c_seenAhead : Nat → Int32) (c_weakLink : Int32) (c_weakTwos : Int32) (c_which : Nat → Int32) (c_views : Nat → Int32) (c_whichMany : Int32) (p1 : Int32) (z : Int32) (h : fX8_fabricOf c_now p1 = some z) : Cn l E yX8_fabricOf cX8_fabricOf 4 (some .int) 2 44 [.ref (adc 0), .int p1] (wX8 E adc c_now c_read c_past c_deeds c_images c_isKept c_text c_letters c_at c_token c_tokenAt c_value c_facts c_seen c_seenAhead c_weakLink c_weakTwos c_which c_views c_whichMany) (wX8 E adc c_now c_read c_past c_deeds c_images c_isKept c_text c_letters c_at c_token c_tokenAt c_value c_facts c_seen c_seenAhead c_weakLink c_weakTwos c_which c_views c_whichMany) (some (.int z)) := by
  refine Cn.ofW (by decide +kernel) (Nat.le_of_ble_eq_true rfl) ?_
  intro p e s m args below meth c ls hC hN hl
  obtain ⟨z0, hz0⟩ : ∃ y, y = z := ⟨_, rfl⟩
  rw [← hz0] at h ⊢
  clear hz0
  have hl : lv_has ls 4 [(0, .ref (adc 0)), (1, .int p1)] := hl
  have hx := hC.1
  have hb := hC.2.1
  unfold fX8_fabricOf at h
  refine lv_iconst (v := 1) hx hb dX8_fabricOf_0 rfl ?_
  refine lv_iload_n hx hb dX8_fabricOf_1 rfl (lv_at hl 1 rfl) ?_
  refine lv_ishl hx hb dX8_fabricOf_2 ?_
  refine lv_topi (fun v2_1 ev2_1 => ?_)
  have h := bd_e h v2_1 ev2_1
  refine lv_istore_n (lv' := [(2, .int v2_1), (0, .ref (adc 0)), (1, .int p1)]) hx hb dX8_fabricOf_3 rfl hl (by decide) rfl (fun ls hl => ?_)
  refine lv_iconst (v := 0) hx hb dX8_fabricOf_4 rfl ?_
  refine lv_istore_n (lv' := [(3, .int 0), (2, .int v2_1), (0, .ref (adc 0)), (1, .int p1)]) hx hb dX8_fabricOf_5 rfl hl (by decide) rfl (fun ls hl => ?_)
  have L1 : ∀ (fu : Nat) (v2_2 : Int32) (v3_3 : Int32) (z : Int32 × Int32) (H : Heap) (locs : List Loc) (ls : Array Slot), Nw E s (AD (wX8 E adc c_now c_read c_past c_deeds c_images c_isKept c_text c_letters c_at c_token c_tokenAt c_value c_facts c_seen c_seenAhead c_weakLink c_weakTwos c_which c_views c_whichMany)) (wX8 E adc c_now c_read c_past c_deeds c_images c_isKept c_text c_letters c_at c_token c_tokenAt c_value c_facts c_seen c_seenAhead c_weakLink c_weakTwos c_which c_views c_whichMany) H locs → lv_has ls 4 [(0, .ref (adc 0)), (1, .int p1), (2, .int v2_2), (3, .int v3_3)] → fX8_fabricOf_L1 c_now fu v2_2 v3_3 = some z → (∀ (H : Heap) (locs : List Loc) (ls : Array Slot), Nw E s (AD (wX8 E adc c_now c_read c_past c_deeds c_images c_isKept c_text c_letters c_at c_token c_tokenAt c_value c_facts c_seen c_seenAhead c_weakLink c_weakTwos c_which c_views c_whichMany)) (wX8 E adc c_now c_read c_past c_deeds c_images c_isKept c_text c_letters c_at c_token c_tokenAt c_value c_facts c_seen c_seenAhead c_weakLink c_weakTwos c_which c_views c_whichMany) H locs → lv_has ls 4 [(0, .ref (adc 0)), (1, .int p1), (2, .int z.1), (3, .int z.2)] → WN p l e 2 44 s m args below meth c E (wX8 E adc c_now c_read c_past c_deeds c_images c_isKept c_text c_letters c_at c_token c_tokenAt c_value c_facts c_seen c_seenAhead c_weakLink c_weakTwos c_which c_views c_whichMany) (some (.int z0)) (wX8 E adc c_now c_read c_past c_deeds c_images c_isKept c_text c_letters c_at c_token c_tokenAt c_value c_facts c_seen c_seenAhead c_weakLink c_weakTwos c_which c_views c_whichMany) H locs (F0 m 24 ls [])) → WN p l e 2 44 s m args below meth c E (wX8 E adc c_now c_read c_past c_deeds c_images c_isKept c_text c_letters c_at c_token c_tokenAt c_value c_facts c_seen c_seenAhead c_weakLink c_weakTwos c_which c_views c_whichMany) (some (.int z0)) (wX8 E adc c_now c_read c_past c_deeds c_images c_isKept c_text c_letters c_at c_token c_tokenAt c_value c_facts c_seen c_seenAhead c_weakLink c_weakTwos c_which c_views c_whichMany) H locs (F0 m 6 ls []) := by
    intro fu
    induction fu with
    | zero =>
      intro v2_2 v3_3 z H locs ls hN hl h K
      cases (show (none : Option (Int32 × Int32)) = some z from h)
    | succ fu ih =>
      intro v2_2 v3_3 z H locs ls hN hl h K
      rw [fX8_fabricOf_L1.eq_2] at h
      refine lv_iload_n hx hb dX8_fabricOf_6 rfl (lv_at hl 3 rfl) ?_
      refine lv_bipush (v := 6) hx hb dX8_fabricOf_7 (by decide) ?_
      refine lv_icmp_ge (tgt := 24) hx hb dX8_fabricOf_9 (by decide) (fun c4 => ?_) (fun c4 => ?_)
      · have h := if_t h c4
        obtain rfl := Option.some.inj h
        exact K _ _ _ hN (lv_sub hl [0, 1, 2, 3] rfl)
      · have h := if_f h c4
        refine lv_aload_n hx hb dX8_fabricOf_12 rfl (lv_at hl 0 rfl) ?_
        refine lv_iload_n hx hb dX8_fabricOf_13 rfl (lv_at hl 2 rfl) ?_
        obtain ⟨r_5, hr_5, h⟩ := bi_e h
        refine n_callVi (ws' := wX8 E adc c_now c_read c_past c_deeds c_images c_isKept c_text c_letters c_at c_token c_tokenAt c_value c_facts c_seen c_seenAhead c_weakLink c_weakTwos c_which c_views c_whichMany) hC hN (tX8_besides l E adc c_now c_read c_past c_deeds c_images c_isKept c_text c_letters c_at c_token c_tokenAt c_value c_facts c_seen c_seenAhead c_weakLink c_weakTwos c_which c_views c_whichMany v2_2 r_5 hr_5) cy_X8_besides mML_X8_105 mIM_X8_besides mSE_X8_besides rfl rfl (k := 0) rfl (perm_self _) (perm_self _) rfl rfl hl.1 rfl (Nat.le_of_ble_eq_true rfl) dX8_fabricOf_14 ⟨Nat.le_of_ble_eq_true rfl, Nat.le_of_ble_eq_true rfl⟩ ⟨Nat.le_refl _, Nat.le_refl _⟩ (fun H locs hN => ?_)
        refine lv_istore_n (lv' := [(2, .int r_5), (0, .ref (adc 0)), (1, .int p1), (3, .int v3_3)]) hx hb dX8_fabricOf_17 rfl hl (by decide) rfl (fun ls hl => ?_)
        obtain ⟨v3_6, ev3_6⟩ : ∃ y : Int32, y = v3_3 + 1 := ⟨_, rfl⟩
        have h := bd_e h v3_6 ev3_6
        refine lv_iinc (v := v3_6) (lv' := [(3, .int v3_6), (2, .int r_5), (0, .ref (adc 0)), (1, .int p1)]) hx hb dX8_fabricOf_18 hl (k := 3) rfl (by rw [ev3_6]; rfl) (by decide) rfl (fun ls hl => ?_)
        refine lv_goto (tgt := 6) hx hb dX8_fabricOf_21 (by decide) ?_
        exact ih r_5 v3_6 z _ _ _ hN (lv_sub hl [2, 3, 1, 0] rfl) h K
  obtain ⟨z_7, hz_7, h⟩ := bi_e h
  refine L1 500 v2_1 0 z_7 _ _ _ hN (lv_sub hl [2, 3, 1, 0] rfl) hz_7 (fun H locs ls hN hl => ?_)
  refine lv_iload_n hx hb dX8_fabricOf_24 rfl (lv_at hl 2 rfl) ?_
  obtain rfl := Option.some.inj h
  exact n_iret hC hN dX8_fabricOf_25
set_option maxHeartbeats 4000000 in
set_option maxRecDepth 100000 in
theorem tX8_isLowest (l : Launch) (E : EV) (adc : Nat → Nat) (c_now : Nat → Int32) (c_read : Nat → Int32) (c_past : Nat → Int32) (c_deeds : Int32) (c_images : Nat → Int32) (c_isKept : Nat → Int32) (c_text : Nat → Int32) (c_letters : Int32) (c_at : Int32) (c_token : Int32) (c_tokenAt : Int32) (c_value : Int32) (c_facts : Nat → Int32) (c_seen : Int32) (c_seenAhead : Nat → Int32) (c_weakLink : Int32) (c_weakTwos : Int32) (c_which : Nat → Int32) (c_views : Nat → Int32) (c_whichMany : Int32) (p1 : Int32) (z : Int32) (h : fX8_isLowest c_now p1 = some z) : Cn l E yX8_isLowest cX8_isLowest 2 (some .boolean) 3 67 [.ref (adc 0), .int p1] (wX8 E adc c_now c_read c_past c_deeds c_images c_isKept c_text c_letters c_at c_token c_tokenAt c_value c_facts c_seen c_seenAhead c_weakLink c_weakTwos c_which c_views c_whichMany) (wX8 E adc c_now c_read c_past c_deeds c_images c_isKept c_text c_letters c_at c_token c_tokenAt c_value c_facts c_seen c_seenAhead c_weakLink c_weakTwos c_which c_views c_whichMany) (some (.int z)) := by
  refine Cn.ofW (by decide +kernel) (Nat.le_of_ble_eq_true rfl) ?_
  intro p e s m args below meth c ls hC hN hl
  have hl : lv_has ls 2 [(0, .ref (adc 0)), (1, .int p1)] := hl
  have hx := hC.1
  have hb := hC.2.1
  unfold fX8_isLowest at h
  refine lv_aload_n hx hb dX8_isLowest_0 rfl (lv_at hl 0 rfl) ?_
  refine lv_iload_n hx hb dX8_isLowest_1 rfl (lv_at hl 1 rfl) ?_
  obtain ⟨r_1, hr_1, h⟩ := bi_e h
  refine n_callVi (ws' := wX8 E adc c_now c_read c_past c_deeds c_images c_isKept c_text c_letters c_at c_token c_tokenAt c_value c_facts c_seen c_seenAhead c_weakLink c_weakTwos c_which c_views c_whichMany) hC hN (tX8_fabricOf l E adc c_now c_read c_past c_deeds c_images c_isKept c_text c_letters c_at c_token c_tokenAt c_value c_facts c_seen c_seenAhead c_weakLink c_weakTwos c_which c_views c_whichMany p1 r_1 hr_1) cy_X8_fabricOf mML_X8_109 mIM_X8_fabricOf mSE_X8_fabricOf rfl rfl (k := 0) rfl (perm_self _) (perm_self _) rfl rfl hl.1 rfl (Nat.le_of_ble_eq_true rfl) dX8_isLowest_2 ⟨Nat.le_of_ble_eq_true rfl, Nat.le_of_ble_eq_true rfl⟩ ⟨Nat.le_refl _, Nat.le_refl _⟩ (fun H locs hN => ?_)
  refine lv_iconst (v := 1) hx hb dX8_isLowest_5 rfl ?_
  refine lv_iload_n hx hb dX8_isLowest_6 rfl (lv_at hl 1 rfl) ?_
  refine lv_ishl hx hb dX8_isLowest_7 ?_
  refine lv_iconst (v := 1) hx hb dX8_isLowest_8 rfl ?_
  refine lv_isub hx hb dX8_isLowest_9 ?_
  refine lv_iand hx hb dX8_isLowest_10 ?_
  refine lv_if_ne (tgt := 18) hx hb dX8_isLowest_11 (by decide) (fun c2 => ?_) (fun c2 => ?_)
  · have h := if_f h c2
    refine lv_iconst (v := 0) hx hb dX8_isLowest_18 rfl ?_
    obtain rfl := Option.some.inj h
    exact n_zret hC hN (Or.inl rfl) dX8_isLowest_19
  · have h := if_t h c2
    refine lv_iconst (v := 1) hx hb dX8_isLowest_14 rfl ?_
    refine lv_goto (tgt := 19) hx hb dX8_isLowest_15 (by decide) ?_
    obtain rfl := Option.some.inj h
    exact n_zret hC hN (Or.inr rfl) dX8_isLowest_19
set_option maxHeartbeats 4000000 in
set_option maxRecDepth 100000 in
theorem tX8_fabrics (l : Launch) (E : EV) (adc : Nat → Nat) (c_now : Nat → Int32) (c_read : Nat → Int32) (c_past : Nat → Int32) (c_deeds : Int32) (c_images : Nat → Int32) (c_isKept : Nat → Int32) (c_text : Nat → Int32) (c_letters : Int32) (c_at : Int32) (c_token : Int32) (c_tokenAt : Int32) (c_value : Int32) (c_facts : Nat → Int32) (c_seen : Int32) (c_seenAhead : Nat → Int32) (c_weakLink : Int32) (c_weakTwos : Int32) (c_which : Nat → Int32) (c_views : Nat → Int32) (c_whichMany : Int32) (z : Int32) (h : fX8_fabrics c_now = some z) : Cn l E yX8_fabrics cX8_fabrics 3 (some .int) 4 88 [.ref (adc 0)] (wX8 E adc c_now c_read c_past c_deeds c_images c_isKept c_text c_letters c_at c_token c_tokenAt c_value c_facts c_seen c_seenAhead c_weakLink c_weakTwos c_which c_views c_whichMany) (wX8 E adc c_now c_read c_past c_deeds c_images c_isKept c_text c_letters c_at c_token c_tokenAt c_value c_facts c_seen c_seenAhead c_weakLink c_weakTwos c_which c_views c_whichMany) (some (.int z)) := by
  refine Cn.ofW (by decide +kernel) (Nat.le_of_ble_eq_true rfl) ?_
  intro p e s m args below meth c ls hC hN hl
  obtain ⟨z0, hz0⟩ : ∃ y, y = z := ⟨_, rfl⟩
  rw [← hz0] at h ⊢
  clear hz0
  have hl : lv_has ls 3 [(0, .ref (adc 0))] := hl
  have hx := hC.1
  have hb := hC.2.1
  unfold fX8_fabrics at h
  refine lv_iconst (v := 0) hx hb dX8_fabrics_0 rfl ?_
  refine lv_istore_n (lv' := [(1, .int 0), (0, .ref (adc 0))]) hx hb dX8_fabrics_1 rfl hl (by decide) rfl (fun ls hl => ?_)
  refine lv_iconst (v := 0) hx hb dX8_fabrics_2 rfl ?_
  refine lv_istore_n (lv' := [(2, .int 0), (1, .int 0), (0, .ref (adc 0))]) hx hb dX8_fabrics_3 rfl hl (by decide) rfl (fun ls hl => ?_)
  have L1 : ∀ (fu : Nat) (v1_1 : Int32) (v2_2 : Int32) (z : Int32 × Int32) (H : Heap) (locs : List Loc) (ls : Array Slot), Nw E s (AD (wX8 E adc c_now c_read c_past c_deeds c_images c_isKept c_text c_letters c_at c_token c_tokenAt c_value c_facts c_seen c_seenAhead c_weakLink c_weakTwos c_which c_views c_whichMany)) (wX8 E adc c_now c_read c_past c_deeds c_images c_isKept c_text c_letters c_at c_token c_tokenAt c_value c_facts c_seen c_seenAhead c_weakLink c_weakTwos c_which c_views c_whichMany) H locs → lv_has ls 3 [(0, .ref (adc 0)), (1, .int v1_1), (2, .int v2_2)] → fX8_fabrics_L1 c_now fu v1_1 v2_2 = some z → (∀ (H : Heap) (locs : List Loc) (ls : Array Slot), Nw E s (AD (wX8 E adc c_now c_read c_past c_deeds c_images c_isKept c_text c_letters c_at c_token c_tokenAt c_value c_facts c_seen c_seenAhead c_weakLink c_weakTwos c_which c_views c_whichMany)) (wX8 E adc c_now c_read c_past c_deeds c_images c_isKept c_text c_letters c_at c_token c_tokenAt c_value c_facts c_seen c_seenAhead c_weakLink c_weakTwos c_which c_views c_whichMany) H locs → lv_has ls 3 [(0, .ref (adc 0)), (1, .int z.1), (2, .int z.2)] → WN p l e 4 88 s m args below meth c E (wX8 E adc c_now c_read c_past c_deeds c_images c_isKept c_text c_letters c_at c_token c_tokenAt c_value c_facts c_seen c_seenAhead c_weakLink c_weakTwos c_which c_views c_whichMany) (some (.int z0)) (wX8 E adc c_now c_read c_past c_deeds c_images c_isKept c_text c_letters c_at c_token c_tokenAt c_value c_facts c_seen c_seenAhead c_weakLink c_weakTwos c_which c_views c_whichMany) H locs (F0 m 36 ls [])) → WN p l e 4 88 s m args below meth c E (wX8 E adc c_now c_read c_past c_deeds c_images c_isKept c_text c_letters c_at c_token c_tokenAt c_value c_facts c_seen c_seenAhead c_weakLink c_weakTwos c_which c_views c_whichMany) (some (.int z0)) (wX8 E adc c_now c_read c_past c_deeds c_images c_isKept c_text c_letters c_at c_token c_tokenAt c_value c_facts c_seen c_seenAhead c_weakLink c_weakTwos c_which c_views c_whichMany) H locs (F0 m 4 ls []) := by
    intro fu
    induction fu with
    | zero =>
      intro v1_1 v2_2 z H locs ls hN hl h K
      cases (show (none : Option (Int32 × Int32)) = some z from h)
    | succ fu ih =>
      intro v1_1 v2_2 z H locs ls hN hl h K
      rw [fX8_fabrics_L1.eq_2] at h
      refine lv_iload_n hx hb dX8_fabrics_4 rfl (lv_at hl 2 rfl) ?_
      refine lv_aload_n hx hb dX8_fabrics_5 rfl (lv_at hl 0 rfl) ?_
      refine gt_X8_now hC hN 0 rfl rfl dX8_fabrics_6 ?_
      refine lv_iconst (v := 0) hx hb dX8_fabrics_9 rfl ?_
      have g := inB_vp (gd_c h)
      have h := gd_e h
      refine n_iald hC hN 1 rfl g dX8_fabrics_10 ?_
      refine lv_icmp_ge (tgt := 36) hx hb dX8_fabrics_11 (by decide) (fun c3 => ?_) (fun c3 => ?_)
      · have h := if_t h c3
        obtain rfl := Option.some.inj h
        exact K _ _ _ hN (lv_sub hl [0, 1, 2] rfl)
      · have h := if_f h c3
        refine lv_iload_n hx hb dX8_fabrics_14 rfl (lv_at hl 1 rfl) ?_
        refine lv_aload_n hx hb dX8_fabrics_15 rfl (lv_at hl 0 rfl) ?_
        refine lv_iload_n hx hb dX8_fabrics_16 rfl (lv_at hl 2 rfl) ?_
        obtain ⟨r_4, hr_4, h⟩ := bi_e h
        refine n_callVi (ws' := wX8 E adc c_now c_read c_past c_deeds c_images c_isKept c_text c_letters c_at c_token c_tokenAt c_value c_facts c_seen c_seenAhead c_weakLink c_weakTwos c_which c_views c_whichMany) hC hN (tX8_isLowest l E adc c_now c_read c_past c_deeds c_images c_isKept c_text c_letters c_at c_token c_tokenAt c_value c_facts c_seen c_seenAhead c_weakLink c_weakTwos c_which c_views c_whichMany v2_2 r_4 hr_4) cy_X8_isLowest mML_X8_112 mIM_X8_isLowest mSE_X8_isLowest rfl rfl (k := 0) rfl (perm_self _) (perm_self _) rfl rfl hl.1 rfl (Nat.le_of_ble_eq_true rfl) dX8_fabrics_17 ⟨Nat.le_of_ble_eq_true rfl, Nat.le_of_ble_eq_true rfl⟩ ⟨Nat.le_refl _, Nat.le_refl _⟩ (fun H locs hN => ?_)
        refine lv_if_eq (tgt := 27) hx hb dX8_fabrics_20 (by decide) (fun c5 => ?_) (fun c5 => ?_)
        · have h := if_t h c5
          refine lv_iconst (v := 0) hx hb dX8_fabrics_27 rfl ?_
          refine lv_iadd hx hb dX8_fabrics_28 ?_
          refine lv_topi (fun v1_6 ev1_6 => ?_)
          have h := bd_e h v1_6 ev1_6
          refine lv_istore_n (lv' := [(1, .int v1_6), (0, .ref (adc 0)), (2, .int v2_2)]) hx hb dX8_fabrics_29 rfl hl (by decide) rfl (fun ls hl => ?_)
          obtain ⟨v2_7, ev2_7⟩ : ∃ y : Int32, y = v2_2 + 1 := ⟨_, rfl⟩
          have h := bd_e h v2_7 ev2_7
          refine lv_iinc (v := v2_7) (lv' := [(2, .int v2_7), (1, .int v1_6), (0, .ref (adc 0))]) hx hb dX8_fabrics_30 hl (k := 2) rfl (by rw [ev2_7]; rfl) (by decide) rfl (fun ls hl => ?_)
          refine lv_goto (tgt := 4) hx hb dX8_fabrics_33 (by decide) ?_
          exact ih v1_6 v2_7 z _ _ _ hN (lv_sub hl [2, 1, 0] rfl) h K
        · have h := if_f h c5
          refine lv_iconst (v := 1) hx hb dX8_fabrics_23 rfl ?_
          refine lv_goto (tgt := 28) hx hb dX8_fabrics_24 (by decide) ?_
          refine lv_iadd hx hb dX8_fabrics_28 ?_
          refine lv_topi (fun v1_8 ev1_8 => ?_)
          have h := bd_e h v1_8 ev1_8
          refine lv_istore_n (lv' := [(1, .int v1_8), (0, .ref (adc 0)), (2, .int v2_2)]) hx hb dX8_fabrics_29 rfl hl (by decide) rfl (fun ls hl => ?_)
          obtain ⟨v2_9, ev2_9⟩ : ∃ y : Int32, y = v2_2 + 1 := ⟨_, rfl⟩
          have h := bd_e h v2_9 ev2_9
          refine lv_iinc (v := v2_9) (lv' := [(2, .int v2_9), (1, .int v1_8), (0, .ref (adc 0))]) hx hb dX8_fabrics_30 hl (k := 2) rfl (by rw [ev2_9]; rfl) (by decide) rfl (fun ls hl => ?_)
          refine lv_goto (tgt := 4) hx hb dX8_fabrics_33 (by decide) ?_
          exact ih v1_8 v2_9 z _ _ _ hN (lv_sub hl [2, 1, 0] rfl) h K
  obtain ⟨z_10, hz_10, h⟩ := bi_e h
  refine L1 500 0 0 z_10 _ _ _ hN (lv_sub hl [2, 1, 0] rfl) hz_10 (fun H locs ls hN hl => ?_)
  refine lv_iload_n hx hb dX8_fabrics_36 rfl (lv_at hl 1 rfl) ?_
  obtain rfl := Option.some.inj h
  exact n_iret hC hN dX8_fabrics_37
set_option maxHeartbeats 4000000 in
set_option maxRecDepth 100000 in
theorem tX8_principalOf (l : Launch) (E : EV) (adc : Nat → Nat) (c_now : Nat → Int32) (c_read : Nat → Int32) (c_past : Nat → Int32) (c_deeds : Int32) (c_images : Nat → Int32) (c_isKept : Nat → Int32) (c_text : Nat → Int32) (c_letters : Int32) (c_at : Int32) (c_token : Int32) (c_tokenAt : Int32) (c_value : Int32) (c_facts : Nat → Int32) (c_seen : Int32) (c_seenAhead : Nat → Int32) (c_weakLink : Int32) (c_weakTwos : Int32) (c_which : Nat → Int32) (c_views : Nat → Int32) (c_whichMany : Int32) (p1 : Int32) (z : Int32) (h : fX8_principalOf c_now p1 = some z) : Cn l E yX8_principalOf cX8_principalOf 5 (some .int) 1 22 [.ref (adc 0), .int p1] (wX8 E adc c_now c_read c_past c_deeds c_images c_isKept c_text c_letters c_at c_token c_tokenAt c_value c_facts c_seen c_seenAhead c_weakLink c_weakTwos c_which c_views c_whichMany) (wX8 E adc c_now c_read c_past c_deeds c_images c_isKept c_text c_letters c_at c_token c_tokenAt c_value c_facts c_seen c_seenAhead c_weakLink c_weakTwos c_which c_views c_whichMany) (some (.int z)) := by
  refine Cn.ofW (by decide +kernel) (Nat.le_of_ble_eq_true rfl) ?_
  intro p e s m args below meth c ls hC hN hl
  obtain ⟨z0, hz0⟩ : ∃ y, y = z := ⟨_, rfl⟩
  rw [← hz0] at h ⊢
  clear hz0
  have hl : lv_has ls 5 [(0, .ref (adc 0)), (1, .int p1)] := hl
  have hx := hC.1
  have hb := hC.2.1
  unfold fX8_principalOf at h
  refine lv_bipush (v := -9) hx hb dX8_principalOf_0 (by decide) ?_
  refine lv_istore_n (lv' := [(2, .int (-9)), (0, .ref (adc 0)), (1, .int p1)]) hx hb dX8_principalOf_2 rfl hl (by decide) rfl (fun ls hl => ?_)
  refine lv_iconst (v := 0) hx hb dX8_principalOf_3 rfl ?_
  refine lv_istore_n (lv' := [(3, .int 0), (2, .int (-9)), (0, .ref (adc 0)), (1, .int p1)]) hx hb dX8_principalOf_4 rfl hl (by decide) rfl (fun ls hl => ?_)
  have L1 : ∀ (fu : Nat) (v2_1 : Int32) (v3_2 : Int32) (z : Int32 × Int32) (H : Heap) (locs : List Loc) (ls : Array Slot), Nw E s (AD (wX8 E adc c_now c_read c_past c_deeds c_images c_isKept c_text c_letters c_at c_token c_tokenAt c_value c_facts c_seen c_seenAhead c_weakLink c_weakTwos c_which c_views c_whichMany)) (wX8 E adc c_now c_read c_past c_deeds c_images c_isKept c_text c_letters c_at c_token c_tokenAt c_value c_facts c_seen c_seenAhead c_weakLink c_weakTwos c_which c_views c_whichMany) H locs → lv_has ls 5 [(0, .ref (adc 0)), (1, .int p1), (2, .int v2_1), (3, .int v3_2)] → fX8_principalOf_L1 c_now p1 fu v2_1 v3_2 = some z → (∀ (H : Heap) (locs : List Loc) (ls : Array Slot), Nw E s (AD (wX8 E adc c_now c_read c_past c_deeds c_images c_isKept c_text c_letters c_at c_token c_tokenAt c_value c_facts c_seen c_seenAhead c_weakLink c_weakTwos c_which c_views c_whichMany)) (wX8 E adc c_now c_read c_past c_deeds c_images c_isKept c_text c_letters c_at c_token c_tokenAt c_value c_facts c_seen c_seenAhead c_weakLink c_weakTwos c_which c_views c_whichMany) H locs → lv_has ls 5 [(0, .ref (adc 0)), (1, .int p1), (2, .int z.1), (3, .int z.2)] → WN p l e 1 22 s m args below meth c E (wX8 E adc c_now c_read c_past c_deeds c_images c_isKept c_text c_letters c_at c_token c_tokenAt c_value c_facts c_seen c_seenAhead c_weakLink c_weakTwos c_which c_views c_whichMany) (some (.int z0)) (wX8 E adc c_now c_read c_past c_deeds c_images c_isKept c_text c_letters c_at c_token c_tokenAt c_value c_facts c_seen c_seenAhead c_weakLink c_weakTwos c_which c_views c_whichMany) H locs (F0 m 80 ls [])) → WN p l e 1 22 s m args below meth c E (wX8 E adc c_now c_read c_past c_deeds c_images c_isKept c_text c_letters c_at c_token c_tokenAt c_value c_facts c_seen c_seenAhead c_weakLink c_weakTwos c_which c_views c_whichMany) (some (.int z0)) (wX8 E adc c_now c_read c_past c_deeds c_images c_isKept c_text c_letters c_at c_token c_tokenAt c_value c_facts c_seen c_seenAhead c_weakLink c_weakTwos c_which c_views c_whichMany) H locs (F0 m 5 ls []) := by
    intro fu
    induction fu with
    | zero =>
      intro v2_1 v3_2 z H locs ls hN hl h K
      cases (show (none : Option (Int32 × Int32)) = some z from h)
    | succ fu ih =>
      intro v2_1 v3_2 z H locs ls hN hl h K
      rw [fX8_principalOf_L1.eq_2] at h
      refine lv_iload_n hx hb dX8_principalOf_5 rfl (lv_at hl 3 rfl) ?_
      refine lv_aload_n hx hb dX8_principalOf_6 rfl (lv_at hl 0 rfl) ?_
      refine gt_X8_now hC hN 0 rfl rfl dX8_principalOf_7 ?_
      refine lv_iconst (v := 0) hx hb dX8_principalOf_10 rfl ?_
      have g := inB_vp (gd_c h)
      have h := gd_e h
      refine n_iald hC hN 1 rfl g dX8_principalOf_11 ?_
      refine lv_icmp_ge (tgt := 80) hx hb dX8_principalOf_12 (by decide) (fun c3 => ?_) (fun c3 => ?_)
      · have h := if_t h c3
        obtain rfl := Option.some.inj h
        exact K _ _ _ hN (lv_sub hl [0, 1, 2, 3] rfl)
      · have h := if_f h c3
        refine lv_iload_n hx hb dX8_principalOf_15 rfl (lv_at hl 1 rfl) ?_
        refine lv_iload_n hx hb dX8_principalOf_16 rfl (lv_at hl 3 rfl) ?_
        obtain ⟨r_4, hr_4, h⟩ := bi_e h
        refine n_callSi (ws' := wX8 E adc c_now c_read c_past c_deeds c_images c_isKept c_text c_letters c_at c_token c_tokenAt c_value c_facts c_seen c_seenAhead c_weakLink c_weakTwos c_which c_views c_whichMany) hC hN (tX8_has l E p1 v3_2 r_4 hr_4) cy_X8_has mML_X8_102 mST_X8_has (perm_nil _) (perm_nil _) rfl rfl hl.1 rfl (Nat.le_of_ble_eq_true rfl) dX8_principalOf_17 ⟨Nat.le_of_ble_eq_true rfl, Nat.le_of_ble_eq_true rfl⟩ ⟨Nat.le_refl _, Nat.le_refl _⟩ (fun H locs hN => ?_)
        refine lv_if_eq (tgt := 74) hx hb dX8_principalOf_20 (by decide) (fun c5 => ?_) (fun c5 => ?_)
        · have h := if_t h c5
          obtain ⟨v3_6, ev3_6⟩ : ∃ y : Int32, y = v3_2 + 1 := ⟨_, rfl⟩
          have h := bd_e h v3_6 ev3_6
          refine lv_iinc (v := v3_6) (lv' := [(3, .int v3_6), (0, .ref (adc 0)), (1, .int p1), (2, .int v2_1)]) hx hb dX8_principalOf_74 hl (k := 3) rfl (by rw [ev3_6]; rfl) (by decide) rfl (fun ls hl => ?_)
          refine lv_goto (tgt := 5) hx hb dX8_principalOf_77 (by decide) ?_
          exact ih v2_1 v3_6 z _ _ _ hN (lv_sub hl [1, 2, 3, 0] rfl) h K
        · have h := if_f h c5
          refine lv_bipush (v := 100) hx hb dX8_principalOf_23 (by decide) ?_
          refine lv_aload_n hx hb dX8_principalOf_25 rfl (lv_at hl 0 rfl) ?_
          refine lv_iload_n hx hb dX8_principalOf_26 rfl (lv_at hl 3 rfl) ?_
          refine lv_iconst (v := 0) hx hb dX8_principalOf_27 rfl ?_
          obtain ⟨r_7, hr_7, h⟩ := bi_e h
          refine n_callVi (ws' := wX8 E adc c_now c_read c_past c_deeds c_images c_isKept c_text c_letters c_at c_token c_tokenAt c_value c_facts c_seen c_seenAhead c_weakLink c_weakTwos c_which c_views c_whichMany) hC hN (tX8_of l E adc c_now c_read c_past c_deeds c_images c_isKept c_text c_letters c_at c_token c_tokenAt c_value c_facts c_seen c_seenAhead c_weakLink c_weakTwos c_which c_views c_whichMany v3_2 0 r_7 hr_7) cy_X8_of mML_X8_115 mIM_X8_of mSE_X8_of rfl rfl (k := 0) rfl (perm_self _) (perm_self _) rfl rfl hl.1 rfl (Nat.le_of_ble_eq_true rfl) dX8_principalOf_28 ⟨Nat.le_of_ble_eq_true rfl, Nat.le_of_ble_eq_true rfl⟩ ⟨Nat.le_refl _, Nat.le_refl _⟩ (fun H locs hN => ?_)
          refine lv_imul hx hb dX8_principalOf_31 ?_
          refine lv_aload_n hx hb dX8_principalOf_32 rfl (lv_at hl 0 rfl) ?_
          refine lv_iload_n hx hb dX8_principalOf_33 rfl (lv_at hl 3 rfl) ?_
          refine lv_iconst (v := 1) hx hb dX8_principalOf_34 rfl ?_
          obtain ⟨r_8, hr_8, h⟩ := bi_e h
          refine n_callVi (ws' := wX8 E adc c_now c_read c_past c_deeds c_images c_isKept c_text c_letters c_at c_token c_tokenAt c_value c_facts c_seen c_seenAhead c_weakLink c_weakTwos c_which c_views c_whichMany) hC hN (tX8_of l E adc c_now c_read c_past c_deeds c_images c_isKept c_text c_letters c_at c_token c_tokenAt c_value c_facts c_seen c_seenAhead c_weakLink c_weakTwos c_which c_views c_whichMany v3_2 1 r_8 hr_8) cy_X8_of mML_X8_115 mIM_X8_of mSE_X8_of rfl rfl (k := 0) rfl (perm_self _) (perm_self _) rfl rfl hl.1 rfl (Nat.le_of_ble_eq_true rfl) dX8_principalOf_35 ⟨Nat.le_of_ble_eq_true rfl, Nat.le_of_ble_eq_true rfl⟩ ⟨Nat.le_refl _, Nat.le_refl _⟩ (fun H locs hN => ?_)
          refine lv_iadd hx hb dX8_principalOf_38 ?_
          refine lv_topi (fun v4_9 ev4_9 => ?_)
          have h := bd_e h v4_9 ev4_9
          refine lv_istore (lv' := [(4, .int v4_9), (0, .ref (adc 0)), (1, .int p1), (2, .int v2_1), (3, .int v3_2)]) hx hb dX8_principalOf_39 hl (by decide) rfl (fun ls hl => ?_)
          refine lv_iload_n hx hb dX8_principalOf_41 rfl (lv_at hl 3 rfl) ?_
          refine lv_bipush (v := -9) hx hb dX8_principalOf_42 (by decide) ?_
          refine lv_icmp_eq (tgt := 68) hx hb dX8_principalOf_44 (by decide) (fun c10 => ?_) (fun c10 => ?_)
          · have h := if_t h c10
            refine lv_iload_n hx hb dX8_principalOf_68 rfl (lv_at hl 4 rfl) ?_
            refine lv_goto (tgt := 73) hx hb dX8_principalOf_69 (by decide) ?_
            refine lv_istore_n (lv' := [(2, .int v3_2), (4, .int v4_9), (0, .ref (adc 0)), (1, .int p1), (3, .int v3_2)]) hx hb dX8_principalOf_73 rfl hl (by decide) rfl (fun ls hl => ?_)
            obtain ⟨v3_11, ev3_11⟩ : ∃ y : Int32, y = v3_2 + 1 := ⟨_, rfl⟩
            have h := bd_e h v3_11 ev3_11
            refine lv_iinc (v := v3_11) (lv' := [(3, .int v3_11), (2, .int v3_2), (4, .int v4_9), (0, .ref (adc 0)), (1, .int p1)]) hx hb dX8_principalOf_74 hl (k := 4) rfl (by rw [ev3_11]; rfl) (by decide) rfl (fun ls hl => ?_)
            refine lv_goto (tgt := 5) hx hb dX8_principalOf_77 (by decide) ?_
            exact ih v3_2 v3_11 z _ _ _ hN (lv_sub hl [3, 4, 1, 0] rfl) h K
          · have h := if_f h c10
            refine lv_iload hx hb dX8_principalOf_47 (lv_at hl 0 rfl) ?_
            refine lv_bipush (v := 100) hx hb dX8_principalOf_49 (by decide) ?_
            refine lv_aload_n hx hb dX8_principalOf_51 rfl (lv_at hl 1 rfl) ?_
            refine lv_iload_n hx hb dX8_principalOf_52 rfl (lv_at hl 3 rfl) ?_
            refine lv_iconst (v := 0) hx hb dX8_principalOf_53 rfl ?_
            obtain ⟨r_12, hr_12, h⟩ := bi_e h
            refine n_callVi (ws' := wX8 E adc c_now c_read c_past c_deeds c_images c_isKept c_text c_letters c_at c_token c_tokenAt c_value c_facts c_seen c_seenAhead c_weakLink c_weakTwos c_which c_views c_whichMany) hC hN (tX8_of l E adc c_now c_read c_past c_deeds c_images c_isKept c_text c_letters c_at c_token c_tokenAt c_value c_facts c_seen c_seenAhead c_weakLink c_weakTwos c_which c_views c_whichMany v2_1 0 r_12 hr_12) cy_X8_of mML_X8_115 mIM_X8_of mSE_X8_of rfl rfl (k := 0) rfl (perm_self _) (perm_self _) rfl rfl hl.1 rfl (Nat.le_of_ble_eq_true rfl) dX8_principalOf_54 ⟨Nat.le_of_ble_eq_true rfl, Nat.le_of_ble_eq_true rfl⟩ ⟨Nat.le_refl _, Nat.le_refl _⟩ (fun H locs hN => ?_)
            refine lv_imul hx hb dX8_principalOf_57 ?_
            refine lv_aload_n hx hb dX8_principalOf_58 rfl (lv_at hl 1 rfl) ?_
            refine lv_iload_n hx hb dX8_principalOf_59 rfl (lv_at hl 3 rfl) ?_
            refine lv_iconst (v := 1) hx hb dX8_principalOf_60 rfl ?_
            obtain ⟨r_13, hr_13, h⟩ := bi_e h
            refine n_callVi (ws' := wX8 E adc c_now c_read c_past c_deeds c_images c_isKept c_text c_letters c_at c_token c_tokenAt c_value c_facts c_seen c_seenAhead c_weakLink c_weakTwos c_which c_views c_whichMany) hC hN (tX8_of l E adc c_now c_read c_past c_deeds c_images c_isKept c_text c_letters c_at c_token c_tokenAt c_value c_facts c_seen c_seenAhead c_weakLink c_weakTwos c_which c_views c_whichMany v2_1 1 r_13 hr_13) cy_X8_of mML_X8_115 mIM_X8_of mSE_X8_of rfl rfl (k := 0) rfl (perm_self _) (perm_self _) rfl rfl hl.1 rfl (Nat.le_of_ble_eq_true rfl) dX8_principalOf_61 ⟨Nat.le_of_ble_eq_true rfl, Nat.le_of_ble_eq_true rfl⟩ ⟨Nat.le_refl _, Nat.le_refl _⟩ (fun H locs hN => ?_)
            refine lv_iadd hx hb dX8_principalOf_64 ?_
            refine lv_icmp_ge (tgt := 72) hx hb dX8_principalOf_65 (by decide) (fun c14 => ?_) (fun c14 => ?_)
            · have h := if_t h c14
              refine lv_iload_n hx hb dX8_principalOf_72 rfl (lv_at hl 3 rfl) ?_
              refine lv_istore_n (lv' := [(2, .int v2_1), (4, .int v4_9), (0, .ref (adc 0)), (1, .int p1), (3, .int v3_2)]) hx hb dX8_principalOf_73 rfl hl (by decide) rfl (fun ls hl => ?_)
              obtain ⟨v3_15, ev3_15⟩ : ∃ y : Int32, y = v3_2 + 1 := ⟨_, rfl⟩
              have h := bd_e h v3_15 ev3_15
              refine lv_iinc (v := v3_15) (lv' := [(3, .int v3_15), (2, .int v2_1), (4, .int v4_9), (0, .ref (adc 0)), (1, .int p1)]) hx hb dX8_principalOf_74 hl (k := 4) rfl (by rw [ev3_15]; rfl) (by decide) rfl (fun ls hl => ?_)
              refine lv_goto (tgt := 5) hx hb dX8_principalOf_77 (by decide) ?_
              exact ih v2_1 v3_15 z _ _ _ hN (lv_sub hl [3, 4, 1, 0] rfl) h K
            · have h := if_f h c14
              refine lv_iload_n hx hb dX8_principalOf_68 rfl (lv_at hl 4 rfl) ?_
              refine lv_goto (tgt := 73) hx hb dX8_principalOf_69 (by decide) ?_
              refine lv_istore_n (lv' := [(2, .int v3_2), (4, .int v4_9), (0, .ref (adc 0)), (1, .int p1), (3, .int v3_2)]) hx hb dX8_principalOf_73 rfl hl (by decide) rfl (fun ls hl => ?_)
              obtain ⟨v3_16, ev3_16⟩ : ∃ y : Int32, y = v3_2 + 1 := ⟨_, rfl⟩
              have h := bd_e h v3_16 ev3_16
              refine lv_iinc (v := v3_16) (lv' := [(3, .int v3_16), (2, .int v3_2), (4, .int v4_9), (0, .ref (adc 0)), (1, .int p1)]) hx hb dX8_principalOf_74 hl (k := 4) rfl (by rw [ev3_16]; rfl) (by decide) rfl (fun ls hl => ?_)
              refine lv_goto (tgt := 5) hx hb dX8_principalOf_77 (by decide) ?_
              exact ih v3_2 v3_16 z _ _ _ hN (lv_sub hl [3, 4, 1, 0] rfl) h K
  obtain ⟨z_17, hz_17, h⟩ := bi_e h
  refine L1 500 (-9) 0 z_17 _ _ _ hN (lv_sub hl [2, 3, 1, 0] rfl) hz_17 (fun H locs ls hN hl => ?_)
  refine lv_iload_n hx hb dX8_principalOf_80 rfl (lv_at hl 2 rfl) ?_
  obtain rfl := Option.some.inj h
  exact n_iret hC hN dX8_principalOf_81
set_option maxHeartbeats 4000000 in
set_option maxRecDepth 100000 in
theorem tX8_farOf (l : Launch) (E : EV) (adc : Nat → Nat) (c_now : Nat → Int32) (c_read : Nat → Int32) (c_past : Nat → Int32) (c_deeds : Int32) (c_images : Nat → Int32) (c_isKept : Nat → Int32) (c_text : Nat → Int32) (c_letters : Int32) (c_at : Int32) (c_token : Int32) (c_tokenAt : Int32) (c_value : Int32) (c_facts : Nat → Int32) (c_seen : Int32) (c_seenAhead : Nat → Int32) (c_weakLink : Int32) (c_weakTwos : Int32) (c_which : Nat → Int32) (c_views : Nat → Int32) (c_whichMany : Int32) (p1 : Int32) (z : Int32) (h : fX8_farOf c_now p1 = some z) : Cn l E yX8_farOf cX8_farOf 4 (some .int) 3 67 [.ref (adc 0), .int p1] (wX8 E adc c_now c_read c_past c_deeds c_images c_isKept c_text c_letters c_at c_token c_tokenAt c_value c_facts c_seen c_seenAhead c_weakLink c_weakTwos c_which c_views c_whichMany) (wX8 E adc c_now c_read c_past c_deeds c_images c_isKept c_text c_letters c_at c_token c_tokenAt c_value c_facts c_seen c_seenAhead c_weakLink c_weakTwos c_which c_views c_whichMany) (some (.int z)) := by
  refine Cn.ofW (by decide +kernel) (Nat.le_of_ble_eq_true rfl) ?_
  intro p e s m args below meth c ls hC hN hl
  obtain ⟨z0, hz0⟩ : ∃ y, y = z := ⟨_, rfl⟩
  rw [← hz0] at h ⊢
  clear hz0
  have hl : lv_has ls 4 [(0, .ref (adc 0)), (1, .int p1)] := hl
  have hx := hC.1
  have hb := hC.2.1
  unfold fX8_farOf at h
  refine lv_iconst (v := 1) hx hb dX8_farOf_0 rfl ?_
  refine lv_aload_n hx hb dX8_farOf_1 rfl (lv_at hl 0 rfl) ?_
  refine lv_aload_n hx hb dX8_farOf_2 rfl (lv_at hl 0 rfl) ?_
  refine lv_iload_n hx hb dX8_farOf_3 rfl (lv_at hl 1 rfl) ?_
  obtain ⟨r_1, hr_1, h⟩ := bi_e h
  refine n_callVi (ws' := wX8 E adc c_now c_read c_past c_deeds c_images c_isKept c_text c_letters c_at c_token c_tokenAt c_value c_facts c_seen c_seenAhead c_weakLink c_weakTwos c_which c_views c_whichMany) hC hN (tX8_fabricOf l E adc c_now c_read c_past c_deeds c_images c_isKept c_text c_letters c_at c_token c_tokenAt c_value c_facts c_seen c_seenAhead c_weakLink c_weakTwos c_which c_views c_whichMany p1 r_1 hr_1) cy_X8_fabricOf mML_X8_109 mIM_X8_fabricOf mSE_X8_fabricOf rfl rfl (k := 0) rfl (perm_self _) (perm_self _) rfl rfl hl.1 rfl (Nat.le_of_ble_eq_true rfl) dX8_farOf_4 ⟨Nat.le_of_ble_eq_true rfl, Nat.le_of_ble_eq_true rfl⟩ ⟨Nat.le_refl _, Nat.le_refl _⟩ (fun H locs hN => ?_)
  obtain ⟨r_2, hr_2, h⟩ := bi_e h
  refine n_callVi (ws' := wX8 E adc c_now c_read c_past c_deeds c_images c_isKept c_text c_letters c_at c_token c_tokenAt c_value c_facts c_seen c_seenAhead c_weakLink c_weakTwos c_which c_views c_whichMany) hC hN (tX8_principalOf l E adc c_now c_read c_past c_deeds c_images c_isKept c_text c_letters c_at c_token c_tokenAt c_value c_facts c_seen c_seenAhead c_weakLink c_weakTwos c_which c_views c_whichMany r_1 r_2 hr_2) cy_X8_principalOf mML_X8_119 mIM_X8_principalOf mSE_X8_principalOf rfl rfl (k := 0) rfl (perm_self _) (perm_self _) rfl rfl hl.1 rfl (Nat.le_of_ble_eq_true rfl) dX8_farOf_7 ⟨Nat.le_of_ble_eq_true rfl, Nat.le_of_ble_eq_true rfl⟩ ⟨Nat.le_refl _, Nat.le_refl _⟩ (fun H locs hN => ?_)
  refine lv_ishl hx hb dX8_farOf_10 ?_
  refine lv_topi (fun v2_3 ev2_3 => ?_)
  have h := bd_e h v2_3 ev2_3
  refine lv_istore_n (lv' := [(2, .int v2_3), (0, .ref (adc 0)), (1, .int p1)]) hx hb dX8_farOf_11 rfl hl (by decide) rfl (fun ls hl => ?_)
  refine lv_iconst (v := 0) hx hb dX8_farOf_12 rfl ?_
  refine lv_istore_n (lv' := [(3, .int 0), (2, .int v2_3), (0, .ref (adc 0)), (1, .int p1)]) hx hb dX8_farOf_13 rfl hl (by decide) rfl (fun ls hl => ?_)
  have L1 : ∀ (fu : Nat) (v2_4 : Int32) (v3_5 : Int32) (z : Int32 × Int32) (H : Heap) (locs : List Loc) (ls : Array Slot), Nw E s (AD (wX8 E adc c_now c_read c_past c_deeds c_images c_isKept c_text c_letters c_at c_token c_tokenAt c_value c_facts c_seen c_seenAhead c_weakLink c_weakTwos c_which c_views c_whichMany)) (wX8 E adc c_now c_read c_past c_deeds c_images c_isKept c_text c_letters c_at c_token c_tokenAt c_value c_facts c_seen c_seenAhead c_weakLink c_weakTwos c_which c_views c_whichMany) H locs → lv_has ls 4 [(0, .ref (adc 0)), (1, .int p1), (2, .int v2_4), (3, .int v3_5)] → fX8_farOf_L1 c_now p1 fu v2_4 v3_5 = some z → (∀ (H : Heap) (locs : List Loc) (ls : Array Slot), Nw E s (AD (wX8 E adc c_now c_read c_past c_deeds c_images c_isKept c_text c_letters c_at c_token c_tokenAt c_value c_facts c_seen c_seenAhead c_weakLink c_weakTwos c_which c_views c_whichMany)) (wX8 E adc c_now c_read c_past c_deeds c_images c_isKept c_text c_letters c_at c_token c_tokenAt c_value c_facts c_seen c_seenAhead c_weakLink c_weakTwos c_which c_views c_whichMany) H locs → lv_has ls 4 [(0, .ref (adc 0)), (1, .int p1), (2, .int z.1), (3, .int z.2)] → WN p l e 3 67 s m args below meth c E (wX8 E adc c_now c_read c_past c_deeds c_images c_isKept c_text c_letters c_at c_token c_tokenAt c_value c_facts c_seen c_seenAhead c_weakLink c_weakTwos c_which c_views c_whichMany) (some (.int z0)) (wX8 E adc c_now c_read c_past c_deeds c_images c_isKept c_text c_letters c_at c_token c_tokenAt c_value c_facts c_seen c_seenAhead c_weakLink c_weakTwos c_which c_views c_whichMany) H locs (F0 m 34 ls [])) → WN p l e 3 67 s m args below meth c E (wX8 E adc c_now c_read c_past c_deeds c_images c_isKept c_text c_letters c_at c_token c_tokenAt c_value c_facts c_seen c_seenAhead c_weakLink c_weakTwos c_which c_views c_whichMany) (some (.int z0)) (wX8 E adc c_now c_read c_past c_deeds c_images c_isKept c_text c_letters c_at c_token c_tokenAt c_value c_facts c_seen c_seenAhead c_weakLink c_weakTwos c_which c_views c_whichMany) H locs (F0 m 14 ls []) := by
    intro fu
    induction fu with
    | zero =>
      intro v2_4 v3_5 z H locs ls hN hl h K
      cases (show (none : Option (Int32 × Int32)) = some z from h)
    | succ fu ih =>
      intro v2_4 v3_5 z H locs ls hN hl h K
      rw [fX8_farOf_L1.eq_2] at h
      refine lv_iload_n hx hb dX8_farOf_14 rfl (lv_at hl 2 rfl) ?_
      refine lv_iload_n hx hb dX8_farOf_15 rfl (lv_at hl 1 rfl) ?_
      obtain ⟨r_6, hr_6, h⟩ := bi_e h
      refine n_callSi (ws' := wX8 E adc c_now c_read c_past c_deeds c_images c_isKept c_text c_letters c_at c_token c_tokenAt c_value c_facts c_seen c_seenAhead c_weakLink c_weakTwos c_which c_views c_whichMany) hC hN (tX8_has l E v2_4 p1 r_6 hr_6) cy_X8_has mML_X8_102 mST_X8_has (perm_nil _) (perm_nil _) rfl rfl hl.1 rfl (Nat.le_of_ble_eq_true rfl) dX8_farOf_16 ⟨Nat.le_of_ble_eq_true rfl, Nat.le_of_ble_eq_true rfl⟩ ⟨Nat.le_refl _, Nat.le_refl _⟩ (fun H locs hN => ?_)
      refine lv_if_ne (tgt := 34) hx hb dX8_farOf_19 (by decide) (fun c7 => ?_) (fun c7 => ?_)
      · have h := if_f h c7
        obtain rfl := Option.some.inj h
        exact K _ _ _ hN (lv_sub hl [0, 1, 2, 3] rfl)
      · have h := if_t h c7
        refine lv_aload_n hx hb dX8_farOf_22 rfl (lv_at hl 0 rfl) ?_
        refine lv_iload_n hx hb dX8_farOf_23 rfl (lv_at hl 2 rfl) ?_
        obtain ⟨r_8, hr_8, h⟩ := bi_e h
        refine n_callVi (ws' := wX8 E adc c_now c_read c_past c_deeds c_images c_isKept c_text c_letters c_at c_token c_tokenAt c_value c_facts c_seen c_seenAhead c_weakLink c_weakTwos c_which c_views c_whichMany) hC hN (tX8_besides l E adc c_now c_read c_past c_deeds c_images c_isKept c_text c_letters c_at c_token c_tokenAt c_value c_facts c_seen c_seenAhead c_weakLink c_weakTwos c_which c_views c_whichMany v2_4 r_8 hr_8) cy_X8_besides mML_X8_105 mIM_X8_besides mSE_X8_besides rfl rfl (k := 0) rfl (perm_self _) (perm_self _) rfl rfl hl.1 rfl (Nat.le_of_ble_eq_true rfl) dX8_farOf_24 ⟨Nat.le_of_ble_eq_true rfl, Nat.le_of_ble_eq_true rfl⟩ ⟨Nat.le_refl _, Nat.le_refl _⟩ (fun H locs hN => ?_)
        refine lv_istore_n (lv' := [(2, .int r_8), (0, .ref (adc 0)), (1, .int p1), (3, .int v3_5)]) hx hb dX8_farOf_27 rfl hl (by decide) rfl (fun ls hl => ?_)
        obtain ⟨v3_9, ev3_9⟩ : ∃ y : Int32, y = v3_5 + 1 := ⟨_, rfl⟩
        have h := bd_e h v3_9 ev3_9
        refine lv_iinc (v := v3_9) (lv' := [(3, .int v3_9), (2, .int r_8), (0, .ref (adc 0)), (1, .int p1)]) hx hb dX8_farOf_28 hl (k := 3) rfl (by rw [ev3_9]; rfl) (by decide) rfl (fun ls hl => ?_)
        refine lv_goto (tgt := 14) hx hb dX8_farOf_31 (by decide) ?_
        exact ih r_8 v3_9 z _ _ _ hN (lv_sub hl [2, 3, 1, 0] rfl) h K
  obtain ⟨z_10, hz_10, h⟩ := bi_e h
  refine L1 500 v2_3 0 z_10 _ _ _ hN (lv_sub hl [2, 3, 1, 0] rfl) hz_10 (fun H locs ls hN hl => ?_)
  refine lv_iload_n hx hb dX8_farOf_34 rfl (lv_at hl 3 rfl) ?_
  obtain rfl := Option.some.inj h
  exact n_iret hC hN dX8_farOf_35
set_option maxHeartbeats 4000000 in
set_option maxRecDepth 100000 in
theorem tX8_handOut (l : Launch) (E : EV) (adc : Nat → Nat) (c_now : Nat → Int32) (c_read : Nat → Int32) (c_past : Nat → Int32) (c_deeds : Int32) (c_images : Nat → Int32) (c_isKept : Nat → Int32) (c_text : Nat → Int32) (c_letters : Int32) (c_at : Int32) (c_token : Int32) (c_tokenAt : Int32) (c_value : Int32) (c_facts : Nat → Int32) (c_seen : Int32) (c_seenAhead : Nat → Int32) (c_weakLink : Int32) (c_weakTwos : Int32) (c_which : Nat → Int32) (c_views : Nat → Int32) (c_whichMany : Int32) (p1 : Int32) (z : Int32 × (Nat → Int32)) (h : fX8_handOut c_now p1 = some z) : Cn l E yX8_handOut cX8_handOut 8 (some .int) 4 90 [.ref (adc 0), .int p1] (wX8 E adc c_now c_read c_past c_deeds c_images c_isKept c_text c_letters c_at c_token c_tokenAt c_value c_facts c_seen c_seenAhead c_weakLink c_weakTwos c_which c_views c_whichMany) (wX8 E adc z.2 c_read c_past c_deeds c_images c_isKept c_text c_letters c_at c_token c_tokenAt c_value c_facts c_seen c_seenAhead c_weakLink c_weakTwos c_which c_views c_whichMany) (some (.int z.1)) := by
  refine Cn.ofW (by decide +kernel) (Nat.le_of_ble_eq_true rfl) ?_
  intro p e s m args below meth c ls hC hN hl
  obtain ⟨z0, hz0⟩ : ∃ y, y = z := ⟨_, rfl⟩
  rw [← hz0] at h ⊢
  clear hz0
  have hl : lv_has ls 8 [(0, .ref (adc 0)), (1, .int p1)] := hl
  have hx := hC.1
  have hb := hC.2.1
  unfold fX8_handOut at h
  refine lv_iconst (v := 0) hx hb dX8_handOut_0 rfl ?_
  refine lv_istore_n (lv' := [(2, .int 0), (0, .ref (adc 0)), (1, .int p1)]) hx hb dX8_handOut_1 rfl hl (by decide) rfl (fun ls hl => ?_)
  refine lv_iload_n hx hb dX8_handOut_2 rfl (lv_at hl 2 rfl) ?_
  refine lv_istore_n (lv' := [(3, .int p1), (2, .int 0), (0, .ref (adc 0)), (1, .int p1)]) hx hb dX8_handOut_3 rfl hl (by decide) rfl (fun ls hl => ?_)
  refine lv_iconst (v := 0) hx hb dX8_handOut_4 rfl ?_
  refine lv_istore (lv' := [(4, .int 0), (3, .int p1), (2, .int 0), (0, .ref (adc 0)), (1, .int p1)]) hx hb dX8_handOut_5 hl (by decide) rfl (fun ls hl => ?_)
  have L1 : ∀ (fu : Nat) (v2_1 : Int32) (v3_2 : Int32) (v4_3 : Int32) (c_now_4 : Nat → Int32) (z : Int32 × Int32 × Int32 × (Nat → Int32)) (H : Heap) (locs : List Loc) (ls : Array Slot), Nw E s (AD (wX8 E adc c_now c_read c_past c_deeds c_images c_isKept c_text c_letters c_at c_token c_tokenAt c_value c_facts c_seen c_seenAhead c_weakLink c_weakTwos c_which c_views c_whichMany)) (wX8 E adc c_now_4 c_read c_past c_deeds c_images c_isKept c_text c_letters c_at c_token c_tokenAt c_value c_facts c_seen c_seenAhead c_weakLink c_weakTwos c_which c_views c_whichMany) H locs → lv_has ls 8 [(0, .ref (adc 0)), (1, .int p1), (2, .int v2_1), (3, .int v3_2), (4, .int v4_3)] → fX8_handOut_L1 fu v2_1 v3_2 v4_3 c_now_4 = some z → (∀ (H : Heap) (locs : List Loc) (ls : Array Slot), Nw E s (AD (wX8 E adc c_now c_read c_past c_deeds c_images c_isKept c_text c_letters c_at c_token c_tokenAt c_value c_facts c_seen c_seenAhead c_weakLink c_weakTwos c_which c_views c_whichMany)) (wX8 E adc z.2.2.2 c_read c_past c_deeds c_images c_isKept c_text c_letters c_at c_token c_tokenAt c_value c_facts c_seen c_seenAhead c_weakLink c_weakTwos c_which c_views c_whichMany) H locs → lv_has ls 8 [(0, .ref (adc 0)), (1, .int p1), (2, .int z.1), (3, .int z.2.1), (4, .int z.2.2.1)] → WN p l e 4 90 s m args below meth c E (wX8 E adc c_now c_read c_past c_deeds c_images c_isKept c_text c_letters c_at c_token c_tokenAt c_value c_facts c_seen c_seenAhead c_weakLink c_weakTwos c_which c_views c_whichMany) (some (.int z0.1)) (wX8 E adc z0.2 c_read c_past c_deeds c_images c_isKept c_text c_letters c_at c_token c_tokenAt c_value c_facts c_seen c_seenAhead c_weakLink c_weakTwos c_which c_views c_whichMany) H locs (F0 m 198 ls [])) → WN p l e 4 90 s m args below meth c E (wX8 E adc c_now c_read c_past c_deeds c_images c_isKept c_text c_letters c_at c_token c_tokenAt c_value c_facts c_seen c_seenAhead c_weakLink c_weakTwos c_which c_views c_whichMany) (some (.int z0.1)) (wX8 E adc z0.2 c_read c_past c_deeds c_images c_isKept c_text c_letters c_at c_token c_tokenAt c_value c_facts c_seen c_seenAhead c_weakLink c_weakTwos c_which c_views c_whichMany) H locs (F0 m 7 ls []) := by
    intro fu
    induction fu with
    | zero =>
      intro v2_1 v3_2 v4_3 c_now_4 z H locs ls hN hl h K
      cases (show (none : Option (Int32 × Int32 × Int32 × (Nat → Int32))) = some z from h)
    | succ fu ih =>
      intro v2_1 v3_2 v4_3 c_now_4 z H locs ls hN hl h K
      rw [fX8_handOut_L1.eq_2] at h
      refine lv_iload_n hx hb dX8_handOut_7 rfl (lv_at hl 3 rfl) ?_
      refine lv_if_eq (tgt := 198) hx hb dX8_handOut_8 (by decide) (fun c5 => ?_) (fun c5 => ?_)
      · have h := if_t h c5
        obtain rfl := Option.some.inj h
        exact K _ _ _ hN (lv_sub hl [0, 1, 2, 3, 4] rfl)
      · have h := if_f h c5
        refine lv_bipush (v := -9) hx hb dX8_handOut_11 (by decide) ?_
        refine lv_istore (lv' := [(5, .int (-9)), (0, .ref (adc 0)), (1, .int p1), (2, .int v2_1), (3, .int v3_2), (4, .int v4_3)]) hx hb dX8_handOut_13 hl (by decide) rfl (fun ls hl => ?_)
        refine lv_iconst (v := 0) hx hb dX8_handOut_15 rfl ?_
        refine lv_istore (lv' := [(6, .int 0), (5, .int (-9)), (0, .ref (adc 0)), (1, .int p1), (2, .int v2_1), (3, .int v3_2), (4, .int v4_3)]) hx hb dX8_handOut_16 hl (by decide) rfl (fun ls hl => ?_)
        have L2 : ∀ (fu : Nat) (v5_6 : Int32) (v6_7 : Int32) (z : Int32 × Int32) (H : Heap) (locs : List Loc) (ls : Array Slot), Nw E s (AD (wX8 E adc c_now c_read c_past c_deeds c_images c_isKept c_text c_letters c_at c_token c_tokenAt c_value c_facts c_seen c_seenAhead c_weakLink c_weakTwos c_which c_views c_whichMany)) (wX8 E adc c_now_4 c_read c_past c_deeds c_images c_isKept c_text c_letters c_at c_token c_tokenAt c_value c_facts c_seen c_seenAhead c_weakLink c_weakTwos c_which c_views c_whichMany) H locs → lv_has ls 8 [(0, .ref (adc 0)), (1, .int p1), (2, .int v2_1), (3, .int v3_2), (4, .int v4_3), (5, .int v5_6), (6, .int v6_7)] → fX8_handOut_L2 v3_2 c_now_4 fu v5_6 v6_7 = some z → (∀ (H : Heap) (locs : List Loc) (ls : Array Slot), Nw E s (AD (wX8 E adc c_now c_read c_past c_deeds c_images c_isKept c_text c_letters c_at c_token c_tokenAt c_value c_facts c_seen c_seenAhead c_weakLink c_weakTwos c_which c_views c_whichMany)) (wX8 E adc c_now_4 c_read c_past c_deeds c_images c_isKept c_text c_letters c_at c_token c_tokenAt c_value c_facts c_seen c_seenAhead c_weakLink c_weakTwos c_which c_views c_whichMany) H locs → lv_has ls 8 [(0, .ref (adc 0)), (1, .int p1), (2, .int v2_1), (3, .int v3_2), (4, .int v4_3), (5, .int z.1), (6, .int z.2)] → WN p l e 4 90 s m args below meth c E (wX8 E adc c_now c_read c_past c_deeds c_images c_isKept c_text c_letters c_at c_token c_tokenAt c_value c_facts c_seen c_seenAhead c_weakLink c_weakTwos c_which c_views c_whichMany) (some (.int z0.1)) (wX8 E adc z0.2 c_read c_past c_deeds c_images c_isKept c_text c_letters c_at c_token c_tokenAt c_value c_facts c_seen c_seenAhead c_weakLink c_weakTwos c_which c_views c_whichMany) H locs (F0 m 101 ls [])) → WN p l e 4 90 s m args below meth c E (wX8 E adc c_now c_read c_past c_deeds c_images c_isKept c_text c_letters c_at c_token c_tokenAt c_value c_facts c_seen c_seenAhead c_weakLink c_weakTwos c_which c_views c_whichMany) (some (.int z0.1)) (wX8 E adc z0.2 c_read c_past c_deeds c_images c_isKept c_text c_letters c_at c_token c_tokenAt c_value c_facts c_seen c_seenAhead c_weakLink c_weakTwos c_which c_views c_whichMany) H locs (F0 m 18 ls []) := by
          intro fu
          induction fu with
          | zero =>
            intro v5_6 v6_7 z H locs ls hN hl h K
            cases (show (none : Option (Int32 × Int32)) = some z from h)
          | succ fu ih =>
            intro v5_6 v6_7 z H locs ls hN hl h K
            rw [fX8_handOut_L2.eq_2] at h
            refine lv_iload hx hb dX8_handOut_18 (lv_at hl 6 rfl) ?_
            refine lv_aload_n hx hb dX8_handOut_20 rfl (lv_at hl 0 rfl) ?_
            refine gt_X8_now hC hN 0 rfl rfl dX8_handOut_21 ?_
            refine lv_iconst (v := 0) hx hb dX8_handOut_24 rfl ?_
            have g := inB_vp (gd_c h)
            have h := gd_e h
            refine n_iald hC hN 1 rfl g dX8_handOut_25 ?_
            refine lv_icmp_ge (tgt := 101) hx hb dX8_handOut_26 (by decide) (fun c8 => ?_) (fun c8 => ?_)
            · have h := if_t h c8
              obtain rfl := Option.some.inj h
              exact K _ _ _ hN (lv_sub hl [0, 1, 2, 3, 4, 5, 6] rfl)
            · have h := if_f h c8
              refine lv_iload_n hx hb dX8_handOut_29 rfl (lv_at hl 3 rfl) ?_
              refine lv_iload hx hb dX8_handOut_30 (lv_at hl 6 rfl) ?_
              obtain ⟨r_9, hr_9, h⟩ := bi_e h
              refine n_callSi (ws' := wX8 E adc c_now_4 c_read c_past c_deeds c_images c_isKept c_text c_letters c_at c_token c_tokenAt c_value c_facts c_seen c_seenAhead c_weakLink c_weakTwos c_which c_views c_whichMany) hC hN (tX8_has l E v3_2 v6_7 r_9 hr_9) cy_X8_has mML_X8_102 mST_X8_has (perm_nil _) (perm_nil _) rfl rfl hl.1 rfl (Nat.le_of_ble_eq_true rfl) dX8_handOut_32 ⟨Nat.le_of_ble_eq_true rfl, Nat.le_of_ble_eq_true rfl⟩ ⟨Nat.le_refl _, Nat.le_refl _⟩ (fun H locs hN => ?_)
              refine lv_if_eq (tgt := 95) hx hb dX8_handOut_35 (by decide) (fun c10 => ?_) (fun c10 => ?_)
              · have h := if_t h c10
                obtain ⟨v6_11, ev6_11⟩ : ∃ y : Int32, y = v6_7 + 1 := ⟨_, rfl⟩
                have h := bd_e h v6_11 ev6_11
                refine lv_iinc (v := v6_11) (lv' := [(6, .int v6_11), (0, .ref (adc 0)), (1, .int p1), (2, .int v2_1), (3, .int v3_2), (4, .int v4_3), (5, .int v5_6)]) hx hb dX8_handOut_95 hl (k := 6) rfl (by rw [ev6_11]; rfl) (by decide) rfl (fun ls hl => ?_)
                refine lv_goto (tgt := 18) hx hb dX8_handOut_98 (by decide) ?_
                exact ih v5_6 v6_11 z _ _ _ hN (lv_sub hl [1, 2, 3, 4, 5, 6, 0] rfl) h K
              · have h := if_f h c10
                refine lv_bipush (v := 100) hx hb dX8_handOut_38 (by decide) ?_
                refine lv_aload_n hx hb dX8_handOut_40 rfl (lv_at hl 0 rfl) ?_
                refine lv_iload hx hb dX8_handOut_41 (lv_at hl 6 rfl) ?_
                obtain ⟨r_12, hr_12, h⟩ := bi_e h
                refine n_callVi (ws' := wX8 E adc c_now_4 c_read c_past c_deeds c_images c_isKept c_text c_letters c_at c_token c_tokenAt c_value c_facts c_seen c_seenAhead c_weakLink c_weakTwos c_which c_views c_whichMany) hC hN (tX8_farOf l E adc c_now_4 c_read c_past c_deeds c_images c_isKept c_text c_letters c_at c_token c_tokenAt c_value c_facts c_seen c_seenAhead c_weakLink c_weakTwos c_which c_views c_whichMany v6_7 r_12 hr_12) cy_X8_farOf mML_X8_122 mIM_X8_farOf mSE_X8_farOf rfl rfl (k := 0) rfl (perm_self _) (perm_self _) rfl rfl hl.1 rfl (Nat.le_of_ble_eq_true rfl) dX8_handOut_43 ⟨Nat.le_of_ble_eq_true rfl, Nat.le_of_ble_eq_true rfl⟩ ⟨Nat.le_refl _, Nat.le_refl _⟩ (fun H locs hN => ?_)
                refine lv_imul hx hb dX8_handOut_46 ?_
                refine lv_aload_n hx hb dX8_handOut_47 rfl (lv_at hl 0 rfl) ?_
                refine lv_iload hx hb dX8_handOut_48 (lv_at hl 6 rfl) ?_
                refine lv_iconst (v := 1) hx hb dX8_handOut_50 rfl ?_
                obtain ⟨r_13, hr_13, h⟩ := bi_e h
                refine n_callVi (ws' := wX8 E adc c_now_4 c_read c_past c_deeds c_images c_isKept c_text c_letters c_at c_token c_tokenAt c_value c_facts c_seen c_seenAhead c_weakLink c_weakTwos c_which c_views c_whichMany) hC hN (tX8_of l E adc c_now_4 c_read c_past c_deeds c_images c_isKept c_text c_letters c_at c_token c_tokenAt c_value c_facts c_seen c_seenAhead c_weakLink c_weakTwos c_which c_views c_whichMany v6_7 1 r_13 hr_13) cy_X8_of mML_X8_115 mIM_X8_of mSE_X8_of rfl rfl (k := 0) rfl (perm_self _) (perm_self _) rfl rfl hl.1 rfl (Nat.le_of_ble_eq_true rfl) dX8_handOut_51 ⟨Nat.le_of_ble_eq_true rfl, Nat.le_of_ble_eq_true rfl⟩ ⟨Nat.le_refl _, Nat.le_refl _⟩ (fun H locs hN => ?_)
                refine lv_iadd hx hb dX8_handOut_54 ?_
                refine lv_topi (fun v7_14 ev7_14 => ?_)
                have h := bd_e h v7_14 ev7_14
                refine lv_istore (lv' := [(7, .int v7_14), (0, .ref (adc 0)), (1, .int p1), (2, .int v2_1), (3, .int v3_2), (4, .int v4_3), (5, .int v5_6), (6, .int v6_7)]) hx hb dX8_handOut_55 hl (by decide) rfl (fun ls hl => ?_)
                refine lv_iload hx hb dX8_handOut_57 (lv_at hl 6 rfl) ?_
                refine lv_bipush (v := -9) hx hb dX8_handOut_59 (by decide) ?_
                refine lv_icmp_eq (tgt := 86) hx hb dX8_handOut_61 (by decide) (fun c15 => ?_) (fun c15 => ?_)
                · have h := if_t h c15
                  refine lv_iload hx hb dX8_handOut_86 (lv_at hl 7 rfl) ?_
                  refine lv_goto (tgt := 93) hx hb dX8_handOut_88 (by decide) ?_
                  refine lv_istore (lv' := [(5, .int v6_7), (7, .int v7_14), (0, .ref (adc 0)), (1, .int p1), (2, .int v2_1), (3, .int v3_2), (4, .int v4_3), (6, .int v6_7)]) hx hb dX8_handOut_93 hl (by decide) rfl (fun ls hl => ?_)
                  obtain ⟨v6_16, ev6_16⟩ : ∃ y : Int32, y = v6_7 + 1 := ⟨_, rfl⟩
                  have h := bd_e h v6_16 ev6_16
                  refine lv_iinc (v := v6_16) (lv' := [(6, .int v6_16), (5, .int v6_7), (7, .int v7_14), (0, .ref (adc 0)), (1, .int p1), (2, .int v2_1), (3, .int v3_2), (4, .int v4_3)]) hx hb dX8_handOut_95 hl (k := 7) rfl (by rw [ev6_16]; rfl) (by decide) rfl (fun ls hl => ?_)
                  refine lv_goto (tgt := 18) hx hb dX8_handOut_98 (by decide) ?_
                  exact ih v6_7 v6_16 z _ _ _ hN (lv_sub hl [3, 4, 5, 6, 7, 1, 0] rfl) h K
                · have h := if_f h c15
                  refine lv_iload hx hb dX8_handOut_64 (lv_at hl 0 rfl) ?_
                  refine lv_bipush (v := 100) hx hb dX8_handOut_66 (by decide) ?_
                  refine lv_aload_n hx hb dX8_handOut_68 rfl (lv_at hl 1 rfl) ?_
                  refine lv_iload hx hb dX8_handOut_69 (lv_at hl 6 rfl) ?_
                  obtain ⟨r_17, hr_17, h⟩ := bi_e h
                  refine n_callVi (ws' := wX8 E adc c_now_4 c_read c_past c_deeds c_images c_isKept c_text c_letters c_at c_token c_tokenAt c_value c_facts c_seen c_seenAhead c_weakLink c_weakTwos c_which c_views c_whichMany) hC hN (tX8_farOf l E adc c_now_4 c_read c_past c_deeds c_images c_isKept c_text c_letters c_at c_token c_tokenAt c_value c_facts c_seen c_seenAhead c_weakLink c_weakTwos c_which c_views c_whichMany v5_6 r_17 hr_17) cy_X8_farOf mML_X8_122 mIM_X8_farOf mSE_X8_farOf rfl rfl (k := 0) rfl (perm_self _) (perm_self _) rfl rfl hl.1 rfl (Nat.le_of_ble_eq_true rfl) dX8_handOut_71 ⟨Nat.le_of_ble_eq_true rfl, Nat.le_of_ble_eq_true rfl⟩ ⟨Nat.le_refl _, Nat.le_refl _⟩ (fun H locs hN => ?_)
                  refine lv_imul hx hb dX8_handOut_74 ?_
                  refine lv_aload_n hx hb dX8_handOut_75 rfl (lv_at hl 1 rfl) ?_
                  refine lv_iload hx hb dX8_handOut_76 (lv_at hl 6 rfl) ?_
                  refine lv_iconst (v := 1) hx hb dX8_handOut_78 rfl ?_
                  obtain ⟨r_18, hr_18, h⟩ := bi_e h
                  refine n_callVi (ws' := wX8 E adc c_now_4 c_read c_past c_deeds c_images c_isKept c_text c_letters c_at c_token c_tokenAt c_value c_facts c_seen c_seenAhead c_weakLink c_weakTwos c_which c_views c_whichMany) hC hN (tX8_of l E adc c_now_4 c_read c_past c_deeds c_images c_isKept c_text c_letters c_at c_token c_tokenAt c_value c_facts c_seen c_seenAhead c_weakLink c_weakTwos c_which c_views c_whichMany v5_6 1 r_18 hr_18) cy_X8_of mML_X8_115 mIM_X8_of mSE_X8_of rfl rfl (k := 0) rfl (perm_self _) (perm_self _) rfl rfl hl.1 rfl (Nat.le_of_ble_eq_true rfl) dX8_handOut_79 ⟨Nat.le_of_ble_eq_true rfl, Nat.le_of_ble_eq_true rfl⟩ ⟨Nat.le_refl _, Nat.le_refl _⟩ (fun H locs hN => ?_)
                  refine lv_iadd hx hb dX8_handOut_82 ?_
                  refine lv_icmp_ge (tgt := 91) hx hb dX8_handOut_83 (by decide) (fun c19 => ?_) (fun c19 => ?_)
                  · have h := if_t h c19
                    refine lv_iload hx hb dX8_handOut_91 (lv_at hl 6 rfl) ?_
                    refine lv_istore (lv' := [(5, .int v5_6), (7, .int v7_14), (0, .ref (adc 0)), (1, .int p1), (2, .int v2_1), (3, .int v3_2), (4, .int v4_3), (6, .int v6_7)]) hx hb dX8_handOut_93 hl (by decide) rfl (fun ls hl => ?_)
                    obtain ⟨v6_20, ev6_20⟩ : ∃ y : Int32, y = v6_7 + 1 := ⟨_, rfl⟩
                    have h := bd_e h v6_20 ev6_20
                    refine lv_iinc (v := v6_20) (lv' := [(6, .int v6_20), (5, .int v5_6), (7, .int v7_14), (0, .ref (adc 0)), (1, .int p1), (2, .int v2_1), (3, .int v3_2), (4, .int v4_3)]) hx hb dX8_handOut_95 hl (k := 7) rfl (by rw [ev6_20]; rfl) (by decide) rfl (fun ls hl => ?_)
                    refine lv_goto (tgt := 18) hx hb dX8_handOut_98 (by decide) ?_
                    exact ih v5_6 v6_20 z _ _ _ hN (lv_sub hl [3, 4, 5, 6, 7, 1, 0] rfl) h K
                  · have h := if_f h c19
                    refine lv_iload hx hb dX8_handOut_86 (lv_at hl 7 rfl) ?_
                    refine lv_goto (tgt := 93) hx hb dX8_handOut_88 (by decide) ?_
                    refine lv_istore (lv' := [(5, .int v6_7), (7, .int v7_14), (0, .ref (adc 0)), (1, .int p1), (2, .int v2_1), (3, .int v3_2), (4, .int v4_3), (6, .int v6_7)]) hx hb dX8_handOut_93 hl (by decide) rfl (fun ls hl => ?_)
                    obtain ⟨v6_21, ev6_21⟩ : ∃ y : Int32, y = v6_7 + 1 := ⟨_, rfl⟩
                    have h := bd_e h v6_21 ev6_21
                    refine lv_iinc (v := v6_21) (lv' := [(6, .int v6_21), (5, .int v6_7), (7, .int v7_14), (0, .ref (adc 0)), (1, .int p1), (2, .int v2_1), (3, .int v3_2), (4, .int v4_3)]) hx hb dX8_handOut_95 hl (k := 7) rfl (by rw [ev6_21]; rfl) (by decide) rfl (fun ls hl => ?_)
                    refine lv_goto (tgt := 18) hx hb dX8_handOut_98 (by decide) ?_
                    exact ih v6_7 v6_21 z _ _ _ hN (lv_sub hl [3, 4, 5, 6, 7, 1, 0] rfl) h K
        obtain ⟨z_22, hz_22, h⟩ := bi_e h
        refine L2 500 (-9) 0 z_22 _ _ _ hN (lv_sub hl [2, 3, 4, 5, 6, 1, 0] rfl) hz_22 (fun H locs ls hN hl => ?_)
        refine lv_aload_n hx hb dX8_handOut_101 rfl (lv_at hl 0 rfl) ?_
        refine lv_iload hx hb dX8_handOut_102 (lv_at hl 5 rfl) ?_
        refine lv_iconst (v := 2) hx hb dX8_handOut_104 rfl ?_
        obtain ⟨r_23, hr_23, h⟩ := bi_e h
        refine n_callVi (ws' := wX8 E adc c_now_4 c_read c_past c_deeds c_images c_isKept c_text c_letters c_at c_token c_tokenAt c_value c_facts c_seen c_seenAhead c_weakLink c_weakTwos c_which c_views c_whichMany) hC hN (tX8_of l E adc c_now_4 c_read c_past c_deeds c_images c_isKept c_text c_letters c_at c_token c_tokenAt c_value c_facts c_seen c_seenAhead c_weakLink c_weakTwos c_which c_views c_whichMany z_22.1 2 r_23 hr_23) cy_X8_of mML_X8_115 mIM_X8_of mSE_X8_of rfl rfl (k := 0) rfl (perm_self _) (perm_self _) rfl rfl hl.1 rfl (Nat.le_of_ble_eq_true rfl) dX8_handOut_105 ⟨Nat.le_of_ble_eq_true rfl, Nat.le_of_ble_eq_true rfl⟩ ⟨Nat.le_refl _, Nat.le_refl _⟩ (fun H locs hN => ?_)
        refine lv_istore (lv' := [(6, .int r_23), (0, .ref (adc 0)), (1, .int p1), (2, .int v2_1), (3, .int v3_2), (4, .int v4_3), (5, .int z_22.1)]) hx hb dX8_handOut_108 hl (by decide) rfl (fun ls hl => ?_)
        refine lv_iload hx hb dX8_handOut_110 (lv_at hl 0 rfl) ?_
        refine lv_if_eq (tgt := 124) hx hb dX8_handOut_112 (by decide) (fun c24 => ?_) (fun c24 => ?_)
        · have h := if_t h c24
          refine lv_iconst (v := 1) hx hb dX8_handOut_124 rfl ?_
          refine lv_istore (lv' := [(6, .int 1), (0, .ref (adc 0)), (1, .int p1), (2, .int v2_1), (3, .int v3_2), (4, .int v4_3), (5, .int z_22.1)]) hx hb dX8_handOut_125 hl (by decide) rfl (fun ls hl => ?_)
          have L3 : ∀ (fu : Nat) (v6_25 : Int32) (z : Int32) (H : Heap) (locs : List Loc) (ls : Array Slot), Nw E s (AD (wX8 E adc c_now c_read c_past c_deeds c_images c_isKept c_text c_letters c_at c_token c_tokenAt c_value c_facts c_seen c_seenAhead c_weakLink c_weakTwos c_which c_views c_whichMany)) (wX8 E adc c_now_4 c_read c_past c_deeds c_images c_isKept c_text c_letters c_at c_token c_tokenAt c_value c_facts c_seen c_seenAhead c_weakLink c_weakTwos c_which c_views c_whichMany) H locs → lv_has ls 8 [(0, .ref (adc 0)), (1, .int p1), (2, .int v2_1), (3, .int v3_2), (4, .int v4_3), (5, .int z_22.1), (6, .int v6_25)] → fX8_handOut_L3 v2_1 fu v6_25 = some z → (∀ (H : Heap) (locs : List Loc) (ls : Array Slot), Nw E s (AD (wX8 E adc c_now c_read c_past c_deeds c_images c_isKept c_text c_letters c_at c_token c_tokenAt c_value c_facts c_seen c_seenAhead c_weakLink c_weakTwos c_which c_views c_whichMany)) (wX8 E adc c_now_4 c_read c_past c_deeds c_images c_isKept c_text c_letters c_at c_token c_tokenAt c_value c_facts c_seen c_seenAhead c_weakLink c_weakTwos c_which c_views c_whichMany) H locs → lv_has ls 8 [(0, .ref (adc 0)), (1, .int p1), (2, .int v2_1), (3, .int v3_2), (4, .int v4_3), (5, .int z_22.1), (6, .int z)] → WN p l e 4 90 s m args below meth c E (wX8 E adc c_now c_read c_past c_deeds c_images c_isKept c_text c_letters c_at c_token c_tokenAt c_value c_facts c_seen c_seenAhead c_weakLink c_weakTwos c_which c_views c_whichMany) (some (.int z0.1)) (wX8 E adc z0.2 c_read c_past c_deeds c_images c_isKept c_text c_letters c_at c_token c_tokenAt c_value c_facts c_seen c_seenAhead c_weakLink c_weakTwos c_which c_views c_whichMany) H locs (F0 m 142 ls [])) → WN p l e 4 90 s m args below meth c E (wX8 E adc c_now c_read c_past c_deeds c_images c_isKept c_text c_letters c_at c_token c_tokenAt c_value c_facts c_seen c_seenAhead c_weakLink c_weakTwos c_which c_views c_whichMany) (some (.int z0.1)) (wX8 E adc z0.2 c_read c_past c_deeds c_images c_isKept c_text c_letters c_at c_token c_tokenAt c_value c_facts c_seen c_seenAhead c_weakLink c_weakTwos c_which c_views c_whichMany) H locs (F0 m 127 ls []) := by
            intro fu
            induction fu with
            | zero =>
              intro v6_25 z H locs ls hN hl h K
              cases (show (none : Option (Int32)) = some z from h)
            | succ fu ih =>
              intro v6_25 z H locs ls hN hl h K
              rw [fX8_handOut_L3.eq_2] at h
              refine lv_iload_n hx hb dX8_handOut_127 rfl (lv_at hl 2 rfl) ?_
              refine lv_iload hx hb dX8_handOut_128 (lv_at hl 6 rfl) ?_
              obtain ⟨r_26, hr_26, h⟩ := bi_e h
              refine n_callSi (ws' := wX8 E adc c_now_4 c_read c_past c_deeds c_images c_isKept c_text c_letters c_at c_token c_tokenAt c_value c_facts c_seen c_seenAhead c_weakLink c_weakTwos c_which c_views c_whichMany) hC hN (tX8_has l E v2_1 v6_25 r_26 hr_26) cy_X8_has mML_X8_102 mST_X8_has (perm_nil _) (perm_nil _) rfl rfl hl.1 rfl (Nat.le_of_ble_eq_true rfl) dX8_handOut_130 ⟨Nat.le_of_ble_eq_true rfl, Nat.le_of_ble_eq_true rfl⟩ ⟨Nat.le_refl _, Nat.le_refl _⟩ (fun H locs hN => ?_)
              refine lv_if_eq (tgt := 142) hx hb dX8_handOut_133 (by decide) (fun c27 => ?_) (fun c27 => ?_)
              · have h := if_t h c27
                obtain rfl := Option.some.inj h
                exact K _ _ _ hN (lv_sub hl [0, 1, 2, 3, 4, 5, 6] rfl)
              · have h := if_f h c27
                obtain ⟨v6_28, ev6_28⟩ : ∃ y : Int32, y = v6_25 + 1 := ⟨_, rfl⟩
                have h := bd_e h v6_28 ev6_28
                refine lv_iinc (v := v6_28) (lv' := [(6, .int v6_28), (0, .ref (adc 0)), (1, .int p1), (2, .int v2_1), (3, .int v3_2), (4, .int v4_3), (5, .int z_22.1)]) hx hb dX8_handOut_136 hl (k := 6) rfl (by rw [ev6_28]; rfl) (by decide) rfl (fun ls hl => ?_)
                refine lv_goto (tgt := 127) hx hb dX8_handOut_139 (by decide) ?_
                exact ih v6_28 z _ _ _ hN (lv_sub hl [1, 2, 3, 4, 5, 6, 0] rfl) h K
          obtain ⟨v6_29, hv6_29, h⟩ := bi_e h
          refine L3 500 1 v6_29 _ _ _ hN (lv_sub hl [1, 2, 3, 4, 5, 6, 0] rfl) hv6_29 (fun H locs ls hN hl => ?_)
          refine lv_iload hx hb dX8_handOut_142 (lv_at hl 4 rfl) ?_
          refine lv_iload hx hb dX8_handOut_144 (lv_at hl 6 rfl) ?_
          refine lv_aload_n hx hb dX8_handOut_146 rfl (lv_at hl 0 rfl) ?_
          refine lv_iload hx hb dX8_handOut_147 (lv_at hl 5 rfl) ?_
          refine lv_iconst (v := 3) hx hb dX8_handOut_149 rfl ?_
          obtain ⟨r_30, hr_30, h⟩ := bi_e h
          refine n_callVi (ws' := wX8 E adc c_now_4 c_read c_past c_deeds c_images c_isKept c_text c_letters c_at c_token c_tokenAt c_value c_facts c_seen c_seenAhead c_weakLink c_weakTwos c_which c_views c_whichMany) hC hN (tX8_of l E adc c_now_4 c_read c_past c_deeds c_images c_isKept c_text c_letters c_at c_token c_tokenAt c_value c_facts c_seen c_seenAhead c_weakLink c_weakTwos c_which c_views c_whichMany z_22.1 3 r_30 hr_30) cy_X8_of mML_X8_115 mIM_X8_of mSE_X8_of rfl rfl (k := 0) rfl (perm_self _) (perm_self _) rfl rfl hl.1 rfl (Nat.le_of_ble_eq_true rfl) dX8_handOut_150 ⟨Nat.le_of_ble_eq_true rfl, Nat.le_of_ble_eq_true rfl⟩ ⟨Nat.le_refl _, Nat.le_refl _⟩ (fun H locs hN => ?_)
          refine lv_icmp_ne (tgt := 160) hx hb dX8_handOut_153 (by decide) (fun c31 => ?_) (fun c31 => ?_)
          · have h := if_f h c31
            refine lv_iconst (v := 1) hx hb dX8_handOut_160 rfl ?_
            refine lv_iadd hx hb dX8_handOut_161 ?_
            refine lv_topi (fun v4_32 ev4_32 => ?_)
            have h := bd_e h v4_32 ev4_32
            refine lv_istore (lv' := [(4, .int v4_32), (0, .ref (adc 0)), (1, .int p1), (2, .int v2_1), (3, .int v3_2), (5, .int z_22.1), (6, .int v6_29)]) hx hb dX8_handOut_162 hl (by decide) rfl (fun ls hl => ?_)
            refine lv_aload_n hx hb dX8_handOut_164 rfl (lv_at hl 1 rfl) ?_
            refine gt_X8_now hC hN 0 rfl rfl dX8_handOut_165 ?_
            refine lv_iconst (v := 3) hx hb dX8_handOut_168 rfl ?_
            refine lv_iconst (v := 4) hx hb dX8_handOut_169 rfl ?_
            refine lv_iload hx hb dX8_handOut_170 (lv_at hl 5 rfl) ?_
            refine lv_imul hx hb dX8_handOut_172 ?_
            refine lv_iadd hx hb dX8_handOut_173 ?_
            refine lv_iconst (v := 3) hx hb dX8_handOut_174 rfl ?_
            refine lv_iadd hx hb dX8_handOut_175 ?_
            refine lv_iload hx hb dX8_handOut_176 (lv_at hl 6 rfl) ?_
            have g := inB_vp (gd_c h)
            have h := gd_e h
            obtain ⟨c_now_33, ec_now_33⟩ : ∃ y : Nat → Int32, y = upd c_now_4 ((3 + (4 * z_22.1)) + 3).toNatClampNeg v6_29 := ⟨_, rfl⟩
            have h := bd_e h c_now_33 ec_now_33
            refine n_iast hC hN 1 rfl g ec_now_33 (ws' := wX8 E adc c_now_33 c_read c_past c_deeds c_images c_isKept c_text c_letters c_at c_token c_tokenAt c_value c_facts c_seen c_seenAhead c_weakLink c_weakTwos c_which c_views c_whichMany) rfl dX8_handOut_178 (fun H locs hN => ?_)
            refine lv_iload_n hx hb dX8_handOut_179 rfl (lv_at hl 3 rfl) ?_
            refine lv_iconst (v := 1) hx hb dX8_handOut_180 rfl ?_
            refine lv_iload hx hb dX8_handOut_181 (lv_at hl 6 rfl) ?_
            refine lv_ishl hx hb dX8_handOut_183 ?_
            refine lv_ior hx hb dX8_handOut_184 ?_
            refine lv_topi (fun v2_34 ev2_34 => ?_)
            have h := bd_e h v2_34 ev2_34
            refine lv_istore_n (lv' := [(2, .int v2_34), (4, .int v4_32), (0, .ref (adc 0)), (1, .int p1), (3, .int v3_2), (5, .int z_22.1), (6, .int v6_29)]) hx hb dX8_handOut_185 rfl hl (by decide) rfl (fun ls hl => ?_)
            refine lv_iload_n hx hb dX8_handOut_186 rfl (lv_at hl 4 rfl) ?_
            refine lv_iconst (v := 1) hx hb dX8_handOut_187 rfl ?_
            refine lv_iload hx hb dX8_handOut_188 (lv_at hl 5 rfl) ?_
            refine lv_ishl hx hb dX8_handOut_190 ?_
            refine lv_iconst (v := -1) hx hb dX8_handOut_191 rfl ?_
            refine lv_ixor hx hb dX8_handOut_192 ?_
            refine lv_iand hx hb dX8_handOut_193 ?_
            refine lv_topi (fun v3_35 ev3_35 => ?_)
            have h := bd_e h v3_35 ev3_35
            refine lv_istore_n (lv' := [(3, .int v3_35), (2, .int v2_34), (4, .int v4_32), (0, .ref (adc 0)), (1, .int p1), (5, .int z_22.1), (6, .int v6_29)]) hx hb dX8_handOut_194 rfl hl (by decide) rfl (fun ls hl => ?_)
            refine lv_goto (tgt := 7) hx hb dX8_handOut_195 (by decide) ?_
            exact ih v2_34 v3_35 v4_32 c_now_33 z _ _ _ hN (lv_sub hl [3, 4, 1, 0, 2] rfl) h K
          · have h := if_t h c31
            refine lv_iconst (v := 0) hx hb dX8_handOut_156 rfl ?_
            refine lv_goto (tgt := 161) hx hb dX8_handOut_157 (by decide) ?_
            refine lv_iadd hx hb dX8_handOut_161 ?_
            refine lv_topi (fun v4_36 ev4_36 => ?_)
            have h := bd_e h v4_36 ev4_36
            refine lv_istore (lv' := [(4, .int v4_36), (0, .ref (adc 0)), (1, .int p1), (2, .int v2_1), (3, .int v3_2), (5, .int z_22.1), (6, .int v6_29)]) hx hb dX8_handOut_162 hl (by decide) rfl (fun ls hl => ?_)
            refine lv_aload_n hx hb dX8_handOut_164 rfl (lv_at hl 1 rfl) ?_
            refine gt_X8_now hC hN 0 rfl rfl dX8_handOut_165 ?_
            refine lv_iconst (v := 3) hx hb dX8_handOut_168 rfl ?_
            refine lv_iconst (v := 4) hx hb dX8_handOut_169 rfl ?_
            refine lv_iload hx hb dX8_handOut_170 (lv_at hl 5 rfl) ?_
            refine lv_imul hx hb dX8_handOut_172 ?_
            refine lv_iadd hx hb dX8_handOut_173 ?_
            refine lv_iconst (v := 3) hx hb dX8_handOut_174 rfl ?_
            refine lv_iadd hx hb dX8_handOut_175 ?_
            refine lv_iload hx hb dX8_handOut_176 (lv_at hl 6 rfl) ?_
            have g := inB_vp (gd_c h)
            have h := gd_e h
            obtain ⟨c_now_37, ec_now_37⟩ : ∃ y : Nat → Int32, y = upd c_now_4 ((3 + (4 * z_22.1)) + 3).toNatClampNeg v6_29 := ⟨_, rfl⟩
            have h := bd_e h c_now_37 ec_now_37
            refine n_iast hC hN 1 rfl g ec_now_37 (ws' := wX8 E adc c_now_37 c_read c_past c_deeds c_images c_isKept c_text c_letters c_at c_token c_tokenAt c_value c_facts c_seen c_seenAhead c_weakLink c_weakTwos c_which c_views c_whichMany) rfl dX8_handOut_178 (fun H locs hN => ?_)
            refine lv_iload_n hx hb dX8_handOut_179 rfl (lv_at hl 3 rfl) ?_
            refine lv_iconst (v := 1) hx hb dX8_handOut_180 rfl ?_
            refine lv_iload hx hb dX8_handOut_181 (lv_at hl 6 rfl) ?_
            refine lv_ishl hx hb dX8_handOut_183 ?_
            refine lv_ior hx hb dX8_handOut_184 ?_
            refine lv_topi (fun v2_38 ev2_38 => ?_)
            have h := bd_e h v2_38 ev2_38
            refine lv_istore_n (lv' := [(2, .int v2_38), (4, .int v4_36), (0, .ref (adc 0)), (1, .int p1), (3, .int v3_2), (5, .int z_22.1), (6, .int v6_29)]) hx hb dX8_handOut_185 rfl hl (by decide) rfl (fun ls hl => ?_)
            refine lv_iload_n hx hb dX8_handOut_186 rfl (lv_at hl 4 rfl) ?_
            refine lv_iconst (v := 1) hx hb dX8_handOut_187 rfl ?_
            refine lv_iload hx hb dX8_handOut_188 (lv_at hl 5 rfl) ?_
            refine lv_ishl hx hb dX8_handOut_190 ?_
            refine lv_iconst (v := -1) hx hb dX8_handOut_191 rfl ?_
            refine lv_ixor hx hb dX8_handOut_192 ?_
            refine lv_iand hx hb dX8_handOut_193 ?_
            refine lv_topi (fun v3_39 ev3_39 => ?_)
            have h := bd_e h v3_39 ev3_39
            refine lv_istore_n (lv' := [(3, .int v3_39), (2, .int v2_38), (4, .int v4_36), (0, .ref (adc 0)), (1, .int p1), (5, .int z_22.1), (6, .int v6_29)]) hx hb dX8_handOut_194 rfl hl (by decide) rfl (fun ls hl => ?_)
            refine lv_goto (tgt := 7) hx hb dX8_handOut_195 (by decide) ?_
            exact ih v2_38 v3_39 v4_36 c_now_37 z _ _ _ hN (lv_sub hl [3, 4, 1, 0, 2] rfl) h K
        · have h := if_f h c24
          refine lv_iload_n hx hb dX8_handOut_115 rfl (lv_at hl 3 rfl) ?_
          refine lv_iload hx hb dX8_handOut_116 (lv_at hl 0 rfl) ?_
          obtain ⟨r_40, hr_40, h⟩ := bi_e h
          refine n_callSi (ws' := wX8 E adc c_now_4 c_read c_past c_deeds c_images c_isKept c_text c_letters c_at c_token c_tokenAt c_value c_facts c_seen c_seenAhead c_weakLink c_weakTwos c_which c_views c_whichMany) hC hN (tX8_has l E v2_1 r_23 r_40 hr_40) cy_X8_has mML_X8_102 mST_X8_has (perm_nil _) (perm_nil _) rfl rfl hl.1 rfl (Nat.le_of_ble_eq_true rfl) dX8_handOut_118 ⟨Nat.le_of_ble_eq_true rfl, Nat.le_of_ble_eq_true rfl⟩ ⟨Nat.le_refl _, Nat.le_refl _⟩ (fun H locs hN => ?_)
          refine lv_if_eq (tgt := 142) hx hb dX8_handOut_121 (by decide) (fun c41 => ?_) (fun c41 => ?_)
          · have h := if_t h c41
            refine lv_iload hx hb dX8_handOut_142 (lv_at hl 5 rfl) ?_
            refine lv_iload hx hb dX8_handOut_144 (lv_at hl 0 rfl) ?_
            refine lv_aload_n hx hb dX8_handOut_146 rfl (lv_at hl 1 rfl) ?_
            refine lv_iload hx hb dX8_handOut_147 (lv_at hl 6 rfl) ?_
            refine lv_iconst (v := 3) hx hb dX8_handOut_149 rfl ?_
            obtain ⟨r_42, hr_42, h⟩ := bi_e h
            refine n_callVi (ws' := wX8 E adc c_now_4 c_read c_past c_deeds c_images c_isKept c_text c_letters c_at c_token c_tokenAt c_value c_facts c_seen c_seenAhead c_weakLink c_weakTwos c_which c_views c_whichMany) hC hN (tX8_of l E adc c_now_4 c_read c_past c_deeds c_images c_isKept c_text c_letters c_at c_token c_tokenAt c_value c_facts c_seen c_seenAhead c_weakLink c_weakTwos c_which c_views c_whichMany z_22.1 3 r_42 hr_42) cy_X8_of mML_X8_115 mIM_X8_of mSE_X8_of rfl rfl (k := 0) rfl (perm_self _) (perm_self _) rfl rfl hl.1 rfl (Nat.le_of_ble_eq_true rfl) dX8_handOut_150 ⟨Nat.le_of_ble_eq_true rfl, Nat.le_of_ble_eq_true rfl⟩ ⟨Nat.le_refl _, Nat.le_refl _⟩ (fun H locs hN => ?_)
            refine lv_icmp_ne (tgt := 160) hx hb dX8_handOut_153 (by decide) (fun c43 => ?_) (fun c43 => ?_)
            · have h := if_f h c43
              refine lv_iconst (v := 1) hx hb dX8_handOut_160 rfl ?_
              refine lv_iadd hx hb dX8_handOut_161 ?_
              refine lv_topi (fun v4_44 ev4_44 => ?_)
              have h := bd_e h v4_44 ev4_44
              refine lv_istore (lv' := [(4, .int v4_44), (6, .int r_23), (0, .ref (adc 0)), (1, .int p1), (2, .int v2_1), (3, .int v3_2), (5, .int z_22.1)]) hx hb dX8_handOut_162 hl (by decide) rfl (fun ls hl => ?_)
              refine lv_aload_n hx hb dX8_handOut_164 rfl (lv_at hl 2 rfl) ?_
              refine gt_X8_now hC hN 0 rfl rfl dX8_handOut_165 ?_
              refine lv_iconst (v := 3) hx hb dX8_handOut_168 rfl ?_
              refine lv_iconst (v := 4) hx hb dX8_handOut_169 rfl ?_
              refine lv_iload hx hb dX8_handOut_170 (lv_at hl 6 rfl) ?_
              refine lv_imul hx hb dX8_handOut_172 ?_
              refine lv_iadd hx hb dX8_handOut_173 ?_
              refine lv_iconst (v := 3) hx hb dX8_handOut_174 rfl ?_
              refine lv_iadd hx hb dX8_handOut_175 ?_
              refine lv_iload hx hb dX8_handOut_176 (lv_at hl 1 rfl) ?_
              have g := inB_vp (gd_c h)
              have h := gd_e h
              obtain ⟨c_now_45, ec_now_45⟩ : ∃ y : Nat → Int32, y = upd c_now_4 ((3 + (4 * z_22.1)) + 3).toNatClampNeg r_23 := ⟨_, rfl⟩
              have h := bd_e h c_now_45 ec_now_45
              refine n_iast hC hN 1 rfl g ec_now_45 (ws' := wX8 E adc c_now_45 c_read c_past c_deeds c_images c_isKept c_text c_letters c_at c_token c_tokenAt c_value c_facts c_seen c_seenAhead c_weakLink c_weakTwos c_which c_views c_whichMany) rfl dX8_handOut_178 (fun H locs hN => ?_)
              refine lv_iload_n hx hb dX8_handOut_179 rfl (lv_at hl 4 rfl) ?_
              refine lv_iconst (v := 1) hx hb dX8_handOut_180 rfl ?_
              refine lv_iload hx hb dX8_handOut_181 (lv_at hl 1 rfl) ?_
              refine lv_ishl hx hb dX8_handOut_183 ?_
              refine lv_ior hx hb dX8_handOut_184 ?_
              refine lv_topi (fun v2_46 ev2_46 => ?_)
              have h := bd_e h v2_46 ev2_46
              refine lv_istore_n (lv' := [(2, .int v2_46), (4, .int v4_44), (6, .int r_23), (0, .ref (adc 0)), (1, .int p1), (3, .int v3_2), (5, .int z_22.1)]) hx hb dX8_handOut_185 rfl hl (by decide) rfl (fun ls hl => ?_)
              refine lv_iload_n hx hb dX8_handOut_186 rfl (lv_at hl 5 rfl) ?_
              refine lv_iconst (v := 1) hx hb dX8_handOut_187 rfl ?_
              refine lv_iload hx hb dX8_handOut_188 (lv_at hl 6 rfl) ?_
              refine lv_ishl hx hb dX8_handOut_190 ?_
              refine lv_iconst (v := -1) hx hb dX8_handOut_191 rfl ?_
              refine lv_ixor hx hb dX8_handOut_192 ?_
              refine lv_iand hx hb dX8_handOut_193 ?_
              refine lv_topi (fun v3_47 ev3_47 => ?_)
              have h := bd_e h v3_47 ev3_47
              refine lv_istore_n (lv' := [(3, .int v3_47), (2, .int v2_46), (4, .int v4_44), (6, .int r_23), (0, .ref (adc 0)), (1, .int p1), (5, .int z_22.1)]) hx hb dX8_handOut_194 rfl hl (by decide) rfl (fun ls hl => ?_)
              refine lv_goto (tgt := 7) hx hb dX8_handOut_195 (by decide) ?_
              exact ih v2_46 v3_47 v4_44 c_now_45 z _ _ _ hN (lv_sub hl [4, 5, 1, 0, 2] rfl) h K
            · have h := if_t h c43
              refine lv_iconst (v := 0) hx hb dX8_handOut_156 rfl ?_
              refine lv_goto (tgt := 161) hx hb dX8_handOut_157 (by decide) ?_
              refine lv_iadd hx hb dX8_handOut_161 ?_
              refine lv_topi (fun v4_48 ev4_48 => ?_)
              have h := bd_e h v4_48 ev4_48
              refine lv_istore (lv' := [(4, .int v4_48), (6, .int r_23), (0, .ref (adc 0)), (1, .int p1), (2, .int v2_1), (3, .int v3_2), (5, .int z_22.1)]) hx hb dX8_handOut_162 hl (by decide) rfl (fun ls hl => ?_)
              refine lv_aload_n hx hb dX8_handOut_164 rfl (lv_at hl 2 rfl) ?_
              refine gt_X8_now hC hN 0 rfl rfl dX8_handOut_165 ?_
              refine lv_iconst (v := 3) hx hb dX8_handOut_168 rfl ?_
              refine lv_iconst (v := 4) hx hb dX8_handOut_169 rfl ?_
              refine lv_iload hx hb dX8_handOut_170 (lv_at hl 6 rfl) ?_
              refine lv_imul hx hb dX8_handOut_172 ?_
              refine lv_iadd hx hb dX8_handOut_173 ?_
              refine lv_iconst (v := 3) hx hb dX8_handOut_174 rfl ?_
              refine lv_iadd hx hb dX8_handOut_175 ?_
              refine lv_iload hx hb dX8_handOut_176 (lv_at hl 1 rfl) ?_
              have g := inB_vp (gd_c h)
              have h := gd_e h
              obtain ⟨c_now_49, ec_now_49⟩ : ∃ y : Nat → Int32, y = upd c_now_4 ((3 + (4 * z_22.1)) + 3).toNatClampNeg r_23 := ⟨_, rfl⟩
              have h := bd_e h c_now_49 ec_now_49
              refine n_iast hC hN 1 rfl g ec_now_49 (ws' := wX8 E adc c_now_49 c_read c_past c_deeds c_images c_isKept c_text c_letters c_at c_token c_tokenAt c_value c_facts c_seen c_seenAhead c_weakLink c_weakTwos c_which c_views c_whichMany) rfl dX8_handOut_178 (fun H locs hN => ?_)
              refine lv_iload_n hx hb dX8_handOut_179 rfl (lv_at hl 4 rfl) ?_
              refine lv_iconst (v := 1) hx hb dX8_handOut_180 rfl ?_
              refine lv_iload hx hb dX8_handOut_181 (lv_at hl 1 rfl) ?_
              refine lv_ishl hx hb dX8_handOut_183 ?_
              refine lv_ior hx hb dX8_handOut_184 ?_
              refine lv_topi (fun v2_50 ev2_50 => ?_)
              have h := bd_e h v2_50 ev2_50
              refine lv_istore_n (lv' := [(2, .int v2_50), (4, .int v4_48), (6, .int r_23), (0, .ref (adc 0)), (1, .int p1), (3, .int v3_2), (5, .int z_22.1)]) hx hb dX8_handOut_185 rfl hl (by decide) rfl (fun ls hl => ?_)
              refine lv_iload_n hx hb dX8_handOut_186 rfl (lv_at hl 5 rfl) ?_
              refine lv_iconst (v := 1) hx hb dX8_handOut_187 rfl ?_
              refine lv_iload hx hb dX8_handOut_188 (lv_at hl 6 rfl) ?_
              refine lv_ishl hx hb dX8_handOut_190 ?_
              refine lv_iconst (v := -1) hx hb dX8_handOut_191 rfl ?_
              refine lv_ixor hx hb dX8_handOut_192 ?_
              refine lv_iand hx hb dX8_handOut_193 ?_
              refine lv_topi (fun v3_51 ev3_51 => ?_)
              have h := bd_e h v3_51 ev3_51
              refine lv_istore_n (lv' := [(3, .int v3_51), (2, .int v2_50), (4, .int v4_48), (6, .int r_23), (0, .ref (adc 0)), (1, .int p1), (5, .int z_22.1)]) hx hb dX8_handOut_194 rfl hl (by decide) rfl (fun ls hl => ?_)
              refine lv_goto (tgt := 7) hx hb dX8_handOut_195 (by decide) ?_
              exact ih v2_50 v3_51 v4_48 c_now_49 z _ _ _ hN (lv_sub hl [4, 5, 1, 0, 2] rfl) h K
          · have h := if_f h c41
            refine lv_iconst (v := 1) hx hb dX8_handOut_124 rfl ?_
            refine lv_istore (lv' := [(6, .int 1), (0, .ref (adc 0)), (1, .int p1), (2, .int v2_1), (3, .int v3_2), (4, .int v4_3), (5, .int z_22.1)]) hx hb dX8_handOut_125 hl (by decide) rfl (fun ls hl => ?_)
            have L4 : ∀ (fu : Nat) (v6_52 : Int32) (z : Int32) (H : Heap) (locs : List Loc) (ls : Array Slot), Nw E s (AD (wX8 E adc c_now c_read c_past c_deeds c_images c_isKept c_text c_letters c_at c_token c_tokenAt c_value c_facts c_seen c_seenAhead c_weakLink c_weakTwos c_which c_views c_whichMany)) (wX8 E adc c_now_4 c_read c_past c_deeds c_images c_isKept c_text c_letters c_at c_token c_tokenAt c_value c_facts c_seen c_seenAhead c_weakLink c_weakTwos c_which c_views c_whichMany) H locs → lv_has ls 8 [(0, .ref (adc 0)), (1, .int p1), (2, .int v2_1), (3, .int v3_2), (4, .int v4_3), (5, .int z_22.1), (6, .int v6_52)] → fX8_handOut_L4 v2_1 fu v6_52 = some z → (∀ (H : Heap) (locs : List Loc) (ls : Array Slot), Nw E s (AD (wX8 E adc c_now c_read c_past c_deeds c_images c_isKept c_text c_letters c_at c_token c_tokenAt c_value c_facts c_seen c_seenAhead c_weakLink c_weakTwos c_which c_views c_whichMany)) (wX8 E adc c_now_4 c_read c_past c_deeds c_images c_isKept c_text c_letters c_at c_token c_tokenAt c_value c_facts c_seen c_seenAhead c_weakLink c_weakTwos c_which c_views c_whichMany) H locs → lv_has ls 8 [(0, .ref (adc 0)), (1, .int p1), (2, .int v2_1), (3, .int v3_2), (4, .int v4_3), (5, .int z_22.1), (6, .int z)] → WN p l e 4 90 s m args below meth c E (wX8 E adc c_now c_read c_past c_deeds c_images c_isKept c_text c_letters c_at c_token c_tokenAt c_value c_facts c_seen c_seenAhead c_weakLink c_weakTwos c_which c_views c_whichMany) (some (.int z0.1)) (wX8 E adc z0.2 c_read c_past c_deeds c_images c_isKept c_text c_letters c_at c_token c_tokenAt c_value c_facts c_seen c_seenAhead c_weakLink c_weakTwos c_which c_views c_whichMany) H locs (F0 m 142 ls [])) → WN p l e 4 90 s m args below meth c E (wX8 E adc c_now c_read c_past c_deeds c_images c_isKept c_text c_letters c_at c_token c_tokenAt c_value c_facts c_seen c_seenAhead c_weakLink c_weakTwos c_which c_views c_whichMany) (some (.int z0.1)) (wX8 E adc z0.2 c_read c_past c_deeds c_images c_isKept c_text c_letters c_at c_token c_tokenAt c_value c_facts c_seen c_seenAhead c_weakLink c_weakTwos c_which c_views c_whichMany) H locs (F0 m 127 ls []) := by
              intro fu
              induction fu with
              | zero =>
                intro v6_52 z H locs ls hN hl h K
                cases (show (none : Option (Int32)) = some z from h)
              | succ fu ih =>
                intro v6_52 z H locs ls hN hl h K
                rw [fX8_handOut_L4.eq_2] at h
                refine lv_iload_n hx hb dX8_handOut_127 rfl (lv_at hl 2 rfl) ?_
                refine lv_iload hx hb dX8_handOut_128 (lv_at hl 6 rfl) ?_
                obtain ⟨r_53, hr_53, h⟩ := bi_e h
                refine n_callSi (ws' := wX8 E adc c_now_4 c_read c_past c_deeds c_images c_isKept c_text c_letters c_at c_token c_tokenAt c_value c_facts c_seen c_seenAhead c_weakLink c_weakTwos c_which c_views c_whichMany) hC hN (tX8_has l E v2_1 v6_52 r_53 hr_53) cy_X8_has mML_X8_102 mST_X8_has (perm_nil _) (perm_nil _) rfl rfl hl.1 rfl (Nat.le_of_ble_eq_true rfl) dX8_handOut_130 ⟨Nat.le_of_ble_eq_true rfl, Nat.le_of_ble_eq_true rfl⟩ ⟨Nat.le_refl _, Nat.le_refl _⟩ (fun H locs hN => ?_)
                refine lv_if_eq (tgt := 142) hx hb dX8_handOut_133 (by decide) (fun c54 => ?_) (fun c54 => ?_)
                · have h := if_t h c54
                  obtain rfl := Option.some.inj h
                  exact K _ _ _ hN (lv_sub hl [0, 1, 2, 3, 4, 5, 6] rfl)
                · have h := if_f h c54
                  obtain ⟨v6_55, ev6_55⟩ : ∃ y : Int32, y = v6_52 + 1 := ⟨_, rfl⟩
                  have h := bd_e h v6_55 ev6_55
                  refine lv_iinc (v := v6_55) (lv' := [(6, .int v6_55), (0, .ref (adc 0)), (1, .int p1), (2, .int v2_1), (3, .int v3_2), (4, .int v4_3), (5, .int z_22.1)]) hx hb dX8_handOut_136 hl (k := 6) rfl (by rw [ev6_55]; rfl) (by decide) rfl (fun ls hl => ?_)
                  refine lv_goto (tgt := 127) hx hb dX8_handOut_139 (by decide) ?_
                  exact ih v6_55 z _ _ _ hN (lv_sub hl [1, 2, 3, 4, 5, 6, 0] rfl) h K
            obtain ⟨v6_56, hv6_56, h⟩ := bi_e h
            refine L4 500 1 v6_56 _ _ _ hN (lv_sub hl [1, 2, 3, 4, 5, 6, 0] rfl) hv6_56 (fun H locs ls hN hl => ?_)
            refine lv_iload hx hb dX8_handOut_142 (lv_at hl 4 rfl) ?_
            refine lv_iload hx hb dX8_handOut_144 (lv_at hl 6 rfl) ?_
            refine lv_aload_n hx hb dX8_handOut_146 rfl (lv_at hl 0 rfl) ?_
            refine lv_iload hx hb dX8_handOut_147 (lv_at hl 5 rfl) ?_
            refine lv_iconst (v := 3) hx hb dX8_handOut_149 rfl ?_
            obtain ⟨r_57, hr_57, h⟩ := bi_e h
            refine n_callVi (ws' := wX8 E adc c_now_4 c_read c_past c_deeds c_images c_isKept c_text c_letters c_at c_token c_tokenAt c_value c_facts c_seen c_seenAhead c_weakLink c_weakTwos c_which c_views c_whichMany) hC hN (tX8_of l E adc c_now_4 c_read c_past c_deeds c_images c_isKept c_text c_letters c_at c_token c_tokenAt c_value c_facts c_seen c_seenAhead c_weakLink c_weakTwos c_which c_views c_whichMany z_22.1 3 r_57 hr_57) cy_X8_of mML_X8_115 mIM_X8_of mSE_X8_of rfl rfl (k := 0) rfl (perm_self _) (perm_self _) rfl rfl hl.1 rfl (Nat.le_of_ble_eq_true rfl) dX8_handOut_150 ⟨Nat.le_of_ble_eq_true rfl, Nat.le_of_ble_eq_true rfl⟩ ⟨Nat.le_refl _, Nat.le_refl _⟩ (fun H locs hN => ?_)
            refine lv_icmp_ne (tgt := 160) hx hb dX8_handOut_153 (by decide) (fun c58 => ?_) (fun c58 => ?_)
            · have h := if_f h c58
              refine lv_iconst (v := 1) hx hb dX8_handOut_160 rfl ?_
              refine lv_iadd hx hb dX8_handOut_161 ?_
              refine lv_topi (fun v4_59 ev4_59 => ?_)
              have h := bd_e h v4_59 ev4_59
              refine lv_istore (lv' := [(4, .int v4_59), (0, .ref (adc 0)), (1, .int p1), (2, .int v2_1), (3, .int v3_2), (5, .int z_22.1), (6, .int v6_56)]) hx hb dX8_handOut_162 hl (by decide) rfl (fun ls hl => ?_)
              refine lv_aload_n hx hb dX8_handOut_164 rfl (lv_at hl 1 rfl) ?_
              refine gt_X8_now hC hN 0 rfl rfl dX8_handOut_165 ?_
              refine lv_iconst (v := 3) hx hb dX8_handOut_168 rfl ?_
              refine lv_iconst (v := 4) hx hb dX8_handOut_169 rfl ?_
              refine lv_iload hx hb dX8_handOut_170 (lv_at hl 5 rfl) ?_
              refine lv_imul hx hb dX8_handOut_172 ?_
              refine lv_iadd hx hb dX8_handOut_173 ?_
              refine lv_iconst (v := 3) hx hb dX8_handOut_174 rfl ?_
              refine lv_iadd hx hb dX8_handOut_175 ?_
              refine lv_iload hx hb dX8_handOut_176 (lv_at hl 6 rfl) ?_
              have g := inB_vp (gd_c h)
              have h := gd_e h
              obtain ⟨c_now_60, ec_now_60⟩ : ∃ y : Nat → Int32, y = upd c_now_4 ((3 + (4 * z_22.1)) + 3).toNatClampNeg v6_56 := ⟨_, rfl⟩
              have h := bd_e h c_now_60 ec_now_60
              refine n_iast hC hN 1 rfl g ec_now_60 (ws' := wX8 E adc c_now_60 c_read c_past c_deeds c_images c_isKept c_text c_letters c_at c_token c_tokenAt c_value c_facts c_seen c_seenAhead c_weakLink c_weakTwos c_which c_views c_whichMany) rfl dX8_handOut_178 (fun H locs hN => ?_)
              refine lv_iload_n hx hb dX8_handOut_179 rfl (lv_at hl 3 rfl) ?_
              refine lv_iconst (v := 1) hx hb dX8_handOut_180 rfl ?_
              refine lv_iload hx hb dX8_handOut_181 (lv_at hl 6 rfl) ?_
              refine lv_ishl hx hb dX8_handOut_183 ?_
              refine lv_ior hx hb dX8_handOut_184 ?_
              refine lv_topi (fun v2_61 ev2_61 => ?_)
              have h := bd_e h v2_61 ev2_61
              refine lv_istore_n (lv' := [(2, .int v2_61), (4, .int v4_59), (0, .ref (adc 0)), (1, .int p1), (3, .int v3_2), (5, .int z_22.1), (6, .int v6_56)]) hx hb dX8_handOut_185 rfl hl (by decide) rfl (fun ls hl => ?_)
              refine lv_iload_n hx hb dX8_handOut_186 rfl (lv_at hl 4 rfl) ?_
              refine lv_iconst (v := 1) hx hb dX8_handOut_187 rfl ?_
              refine lv_iload hx hb dX8_handOut_188 (lv_at hl 5 rfl) ?_
              refine lv_ishl hx hb dX8_handOut_190 ?_
              refine lv_iconst (v := -1) hx hb dX8_handOut_191 rfl ?_
              refine lv_ixor hx hb dX8_handOut_192 ?_
              refine lv_iand hx hb dX8_handOut_193 ?_
              refine lv_topi (fun v3_62 ev3_62 => ?_)
              have h := bd_e h v3_62 ev3_62
              refine lv_istore_n (lv' := [(3, .int v3_62), (2, .int v2_61), (4, .int v4_59), (0, .ref (adc 0)), (1, .int p1), (5, .int z_22.1), (6, .int v6_56)]) hx hb dX8_handOut_194 rfl hl (by decide) rfl (fun ls hl => ?_)
              refine lv_goto (tgt := 7) hx hb dX8_handOut_195 (by decide) ?_
              exact ih v2_61 v3_62 v4_59 c_now_60 z _ _ _ hN (lv_sub hl [3, 4, 1, 0, 2] rfl) h K
            · have h := if_t h c58
              refine lv_iconst (v := 0) hx hb dX8_handOut_156 rfl ?_
              refine lv_goto (tgt := 161) hx hb dX8_handOut_157 (by decide) ?_
              refine lv_iadd hx hb dX8_handOut_161 ?_
              refine lv_topi (fun v4_63 ev4_63 => ?_)
              have h := bd_e h v4_63 ev4_63
              refine lv_istore (lv' := [(4, .int v4_63), (0, .ref (adc 0)), (1, .int p1), (2, .int v2_1), (3, .int v3_2), (5, .int z_22.1), (6, .int v6_56)]) hx hb dX8_handOut_162 hl (by decide) rfl (fun ls hl => ?_)
              refine lv_aload_n hx hb dX8_handOut_164 rfl (lv_at hl 1 rfl) ?_
              refine gt_X8_now hC hN 0 rfl rfl dX8_handOut_165 ?_
              refine lv_iconst (v := 3) hx hb dX8_handOut_168 rfl ?_
              refine lv_iconst (v := 4) hx hb dX8_handOut_169 rfl ?_
              refine lv_iload hx hb dX8_handOut_170 (lv_at hl 5 rfl) ?_
              refine lv_imul hx hb dX8_handOut_172 ?_
              refine lv_iadd hx hb dX8_handOut_173 ?_
              refine lv_iconst (v := 3) hx hb dX8_handOut_174 rfl ?_
              refine lv_iadd hx hb dX8_handOut_175 ?_
              refine lv_iload hx hb dX8_handOut_176 (lv_at hl 6 rfl) ?_
              have g := inB_vp (gd_c h)
              have h := gd_e h
              obtain ⟨c_now_64, ec_now_64⟩ : ∃ y : Nat → Int32, y = upd c_now_4 ((3 + (4 * z_22.1)) + 3).toNatClampNeg v6_56 := ⟨_, rfl⟩
              have h := bd_e h c_now_64 ec_now_64
              refine n_iast hC hN 1 rfl g ec_now_64 (ws' := wX8 E adc c_now_64 c_read c_past c_deeds c_images c_isKept c_text c_letters c_at c_token c_tokenAt c_value c_facts c_seen c_seenAhead c_weakLink c_weakTwos c_which c_views c_whichMany) rfl dX8_handOut_178 (fun H locs hN => ?_)
              refine lv_iload_n hx hb dX8_handOut_179 rfl (lv_at hl 3 rfl) ?_
              refine lv_iconst (v := 1) hx hb dX8_handOut_180 rfl ?_
              refine lv_iload hx hb dX8_handOut_181 (lv_at hl 6 rfl) ?_
              refine lv_ishl hx hb dX8_handOut_183 ?_
              refine lv_ior hx hb dX8_handOut_184 ?_
              refine lv_topi (fun v2_65 ev2_65 => ?_)
              have h := bd_e h v2_65 ev2_65
              refine lv_istore_n (lv' := [(2, .int v2_65), (4, .int v4_63), (0, .ref (adc 0)), (1, .int p1), (3, .int v3_2), (5, .int z_22.1), (6, .int v6_56)]) hx hb dX8_handOut_185 rfl hl (by decide) rfl (fun ls hl => ?_)
              refine lv_iload_n hx hb dX8_handOut_186 rfl (lv_at hl 4 rfl) ?_
              refine lv_iconst (v := 1) hx hb dX8_handOut_187 rfl ?_
              refine lv_iload hx hb dX8_handOut_188 (lv_at hl 5 rfl) ?_
              refine lv_ishl hx hb dX8_handOut_190 ?_
              refine lv_iconst (v := -1) hx hb dX8_handOut_191 rfl ?_
              refine lv_ixor hx hb dX8_handOut_192 ?_
              refine lv_iand hx hb dX8_handOut_193 ?_
              refine lv_topi (fun v3_66 ev3_66 => ?_)
              have h := bd_e h v3_66 ev3_66
              refine lv_istore_n (lv' := [(3, .int v3_66), (2, .int v2_65), (4, .int v4_63), (0, .ref (adc 0)), (1, .int p1), (5, .int z_22.1), (6, .int v6_56)]) hx hb dX8_handOut_194 rfl hl (by decide) rfl (fun ls hl => ?_)
              refine lv_goto (tgt := 7) hx hb dX8_handOut_195 (by decide) ?_
              exact ih v2_65 v3_66 v4_63 c_now_64 z _ _ _ hN (lv_sub hl [3, 4, 1, 0, 2] rfl) h K
  obtain ⟨z_67, hz_67, h⟩ := bi_e h
  refine L1 500 0 p1 0 c_now z_67 _ _ _ hN (lv_sub hl [3, 4, 2, 1, 0] rfl) hz_67 (fun H locs ls hN hl => ?_)
  refine lv_iload hx hb dX8_handOut_198 (lv_at hl 4 rfl) ?_
  obtain rfl := Option.some.inj h
  exact n_iret hC hN dX8_handOut_200
set_option maxHeartbeats 4000000 in
set_option maxRecDepth 100000 in
theorem tX8_zoneOf (l : Launch) (E : EV) (adc : Nat → Nat) (c_now : Nat → Int32) (c_read : Nat → Int32) (c_past : Nat → Int32) (c_deeds : Int32) (c_images : Nat → Int32) (c_isKept : Nat → Int32) (c_text : Nat → Int32) (c_letters : Int32) (c_at : Int32) (c_token : Int32) (c_tokenAt : Int32) (c_value : Int32) (c_facts : Nat → Int32) (c_seen : Int32) (c_seenAhead : Nat → Int32) (c_weakLink : Int32) (c_weakTwos : Int32) (c_which : Nat → Int32) (c_views : Nat → Int32) (c_whichMany : Int32) (p1 : Int32) (p2 : Int32) (z : Int32) (h : fX8_zoneOf c_now p1 p2 = some z) : Cn l E yX8_zoneOf cX8_zoneOf 3 (some .int) 0 0 [.ref (adc 0), .int p1, .int p2] (wX8 E adc c_now c_read c_past c_deeds c_images c_isKept c_text c_letters c_at c_token c_tokenAt c_value c_facts c_seen c_seenAhead c_weakLink c_weakTwos c_which c_views c_whichMany) (wX8 E adc c_now c_read c_past c_deeds c_images c_isKept c_text c_letters c_at c_token c_tokenAt c_value c_facts c_seen c_seenAhead c_weakLink c_weakTwos c_which c_views c_whichMany) (some (.int z)) := by
  refine Cn.ofW (by decide +kernel) (Nat.le_of_ble_eq_true rfl) ?_
  intro p e s m args below meth c ls hC hN hl
  have hl : lv_has ls 3 [(0, .ref (adc 0)), (1, .int p1), (2, .int p2)] := hl
  have hx := hC.1
  have hb := hC.2.1
  unfold fX8_zoneOf at h
  refine lv_aload_n hx hb dX8_zoneOf_0 rfl (lv_at hl 0 rfl) ?_
  refine gt_X8_now hC hN 0 rfl rfl dX8_zoneOf_1 ?_
  refine lv_bipush (v := 47) hx hb dX8_zoneOf_4 (by decide) ?_
  refine lv_iconst (v := 4) hx hb dX8_zoneOf_6 rfl ?_
  refine lv_iload_n hx hb dX8_zoneOf_7 rfl (lv_at hl 1 rfl) ?_
  refine lv_imul hx hb dX8_zoneOf_8 ?_
  refine lv_iadd hx hb dX8_zoneOf_9 ?_
  refine lv_iload_n hx hb dX8_zoneOf_10 rfl (lv_at hl 2 rfl) ?_
  refine lv_iadd hx hb dX8_zoneOf_11 ?_
  have g := inB_vp (gd_c h)
  have h := gd_e h
  refine n_iald hC hN 1 rfl g dX8_zoneOf_12 ?_
  obtain rfl := Option.some.inj h
  exact n_iret hC hN dX8_zoneOf_13
set_option maxHeartbeats 4000000 in
set_option maxRecDepth 100000 in
theorem tX8_doZonesClash (l : Launch) (E : EV) (adc : Nat → Nat) (c_now : Nat → Int32) (c_read : Nat → Int32) (c_past : Nat → Int32) (c_deeds : Int32) (c_images : Nat → Int32) (c_isKept : Nat → Int32) (c_text : Nat → Int32) (c_letters : Int32) (c_at : Int32) (c_token : Int32) (c_tokenAt : Int32) (c_value : Int32) (c_facts : Nat → Int32) (c_seen : Int32) (c_seenAhead : Nat → Int32) (c_weakLink : Int32) (c_weakTwos : Int32) (c_which : Nat → Int32) (c_views : Nat → Int32) (c_whichMany : Int32) (p1 : Int32) (p2 : Int32) (z : Int32) (h : fX8_doZonesClash c_now p1 p2 = some z) : Cn l E yX8_doZonesClash cX8_doZonesClash 5 (some .boolean) 1 22 [.ref (adc 0), .int p1, .int p2] (wX8 E adc c_now c_read c_past c_deeds c_images c_isKept c_text c_letters c_at c_token c_tokenAt c_value c_facts c_seen c_seenAhead c_weakLink c_weakTwos c_which c_views c_whichMany) (wX8 E adc c_now c_read c_past c_deeds c_images c_isKept c_text c_letters c_at c_token c_tokenAt c_value c_facts c_seen c_seenAhead c_weakLink c_weakTwos c_which c_views c_whichMany) (some (.int z)) := by
  refine Cn.ofW (by decide +kernel) (Nat.le_of_ble_eq_true rfl) ?_
  intro p e s m args below meth c ls hC hN hl
  obtain ⟨z0, hz0⟩ : ∃ y, y = z := ⟨_, rfl⟩
  rw [← hz0] at h ⊢
  clear hz0
  have hl : lv_has ls 5 [(0, .ref (adc 0)), (1, .int p1), (2, .int p2)] := hl
  have hx := hC.1
  have hb := hC.2.1
  unfold fX8_doZonesClash at h
  refine lv_iconst (v := 0) hx hb dX8_doZonesClash_0 rfl ?_
  refine lv_istore_n (lv' := [(3, .int 0), (0, .ref (adc 0)), (1, .int p1), (2, .int p2)]) hx hb dX8_doZonesClash_1 rfl hl (by decide) rfl (fun ls hl => ?_)
  refine lv_iconst (v := 0) hx hb dX8_doZonesClash_2 rfl ?_
  refine lv_istore (lv' := [(4, .int 0), (3, .int 0), (0, .ref (adc 0)), (1, .int p1), (2, .int p2)]) hx hb dX8_doZonesClash_3 hl (by decide) rfl (fun ls hl => ?_)
  have L1 : ∀ (fu : Nat) (v3_1 : Int32) (v4_2 : Int32) (z : Int32 × Int32) (H : Heap) (locs : List Loc) (ls : Array Slot), Nw E s (AD (wX8 E adc c_now c_read c_past c_deeds c_images c_isKept c_text c_letters c_at c_token c_tokenAt c_value c_facts c_seen c_seenAhead c_weakLink c_weakTwos c_which c_views c_whichMany)) (wX8 E adc c_now c_read c_past c_deeds c_images c_isKept c_text c_letters c_at c_token c_tokenAt c_value c_facts c_seen c_seenAhead c_weakLink c_weakTwos c_which c_views c_whichMany) H locs → lv_has ls 5 [(0, .ref (adc 0)), (1, .int p1), (2, .int p2), (3, .int v3_1), (4, .int v4_2)] → fX8_doZonesClash_L1 c_now p1 p2 fu v3_1 v4_2 = some z → (∀ (H : Heap) (locs : List Loc) (ls : Array Slot), Nw E s (AD (wX8 E adc c_now c_read c_past c_deeds c_images c_isKept c_text c_letters c_at c_token c_tokenAt c_value c_facts c_seen c_seenAhead c_weakLink c_weakTwos c_which c_views c_whichMany)) (wX8 E adc c_now c_read c_past c_deeds c_images c_isKept c_text c_letters c_at c_token c_tokenAt c_value c_facts c_seen c_seenAhead c_weakLink c_weakTwos c_which c_views c_whichMany) H locs → lv_has ls 5 [(0, .ref (adc 0)), (1, .int p1), (2, .int p2), (3, .int z.1), (4, .int z.2)] → WN p l e 1 22 s m args below meth c E (wX8 E adc c_now c_read c_past c_deeds c_images c_isKept c_text c_letters c_at c_token c_tokenAt c_value c_facts c_seen c_seenAhead c_weakLink c_weakTwos c_which c_views c_whichMany) (some (.int z0)) (wX8 E adc c_now c_read c_past c_deeds c_images c_isKept c_text c_letters c_at c_token c_tokenAt c_value c_facts c_seen c_seenAhead c_weakLink c_weakTwos c_which c_views c_whichMany) H locs (F0 m 64 ls [])) → WN p l e 1 22 s m args below meth c E (wX8 E adc c_now c_read c_past c_deeds c_images c_isKept c_text c_letters c_at c_token c_tokenAt c_value c_facts c_seen c_seenAhead c_weakLink c_weakTwos c_which c_views c_whichMany) (some (.int z0)) (wX8 E adc c_now c_read c_past c_deeds c_images c_isKept c_text c_letters c_at c_token c_tokenAt c_value c_facts c_seen c_seenAhead c_weakLink c_weakTwos c_which c_views c_whichMany) H locs (F0 m 5 ls []) := by
    intro fu
    induction fu with
    | zero =>
      intro v3_1 v4_2 z H locs ls hN hl h K
      cases (show (none : Option (Int32 × Int32)) = some z from h)
    | succ fu ih =>
      intro v3_1 v4_2 z H locs ls hN hl h K
      rw [fX8_doZonesClash_L1.eq_2] at h
      refine lv_iload hx hb dX8_doZonesClash_5 (lv_at hl 4 rfl) ?_
      refine lv_iconst (v := 4) hx hb dX8_doZonesClash_7 rfl ?_
      refine lv_icmp_ge (tgt := 64) hx hb dX8_doZonesClash_8 (by decide) (fun c3 => ?_) (fun c3 => ?_)
      · have h := if_t h c3
        obtain rfl := Option.some.inj h
        exact K _ _ _ hN (lv_sub hl [0, 1, 2, 3, 4] rfl)
      · have h := if_f h c3
        refine lv_iload_n hx hb dX8_doZonesClash_11 rfl (lv_at hl 3 rfl) ?_
        refine lv_if_ne (tgt := 52) hx hb dX8_doZonesClash_12 (by decide) (fun c4 => ?_) (fun c4 => ?_)
        · have h := if_f h c4
          refine lv_iconst (v := 1) hx hb dX8_doZonesClash_52 rfl ?_
          refine lv_goto (tgt := 57) hx hb dX8_doZonesClash_53 (by decide) ?_
          refine lv_istore_n (lv' := [(3, .int 1), (0, .ref (adc 0)), (1, .int p1), (2, .int p2), (4, .int v4_2)]) hx hb dX8_doZonesClash_57 rfl hl (by decide) rfl (fun ls hl => ?_)
          obtain ⟨v4_5, ev4_5⟩ : ∃ y : Int32, y = v4_2 + 1 := ⟨_, rfl⟩
          have h := bd_e h v4_5 ev4_5
          refine lv_iinc (v := v4_5) (lv' := [(4, .int v4_5), (3, .int 1), (0, .ref (adc 0)), (1, .int p1), (2, .int p2)]) hx hb dX8_doZonesClash_58 hl (k := 4) rfl (by rw [ev4_5]; rfl) (by decide) rfl (fun ls hl => ?_)
          refine lv_goto (tgt := 5) hx hb dX8_doZonesClash_61 (by decide) ?_
          exact ih 1 v4_5 z _ _ _ hN (lv_sub hl [2, 3, 4, 1, 0] rfl) h K
        · have h := if_t h c4
          refine lv_aload_n hx hb dX8_doZonesClash_15 rfl (lv_at hl 0 rfl) ?_
          refine lv_iload_n hx hb dX8_doZonesClash_16 rfl (lv_at hl 1 rfl) ?_
          refine lv_iload hx hb dX8_doZonesClash_17 (lv_at hl 4 rfl) ?_
          obtain ⟨r_6, hr_6, h⟩ := bi_e h
          refine n_callVi (ws' := wX8 E adc c_now c_read c_past c_deeds c_images c_isKept c_text c_letters c_at c_token c_tokenAt c_value c_facts c_seen c_seenAhead c_weakLink c_weakTwos c_which c_views c_whichMany) hC hN (tX8_zoneOf l E adc c_now c_read c_past c_deeds c_images c_isKept c_text c_letters c_at c_token c_tokenAt c_value c_facts c_seen c_seenAhead c_weakLink c_weakTwos c_which c_views c_whichMany p1 v4_2 r_6 hr_6) cy_X8_zoneOf mML_X8_125 mIM_X8_zoneOf mSE_X8_zoneOf rfl rfl (k := 0) rfl (perm_self _) (perm_self _) rfl rfl hl.1 rfl (Nat.le_of_ble_eq_true rfl) dX8_doZonesClash_19 ⟨Nat.le_of_ble_eq_true rfl, Nat.le_of_ble_eq_true rfl⟩ ⟨Nat.le_refl _, Nat.le_refl _⟩ (fun H locs hN => ?_)
          refine lv_if_eq (tgt := 56) hx hb dX8_doZonesClash_22 (by decide) (fun c7 => ?_) (fun c7 => ?_)
          · have h := if_t h c7
            refine lv_iconst (v := 0) hx hb dX8_doZonesClash_56 rfl ?_
            refine lv_istore_n (lv' := [(3, .int 0), (0, .ref (adc 0)), (1, .int p1), (2, .int p2), (4, .int v4_2)]) hx hb dX8_doZonesClash_57 rfl hl (by decide) rfl (fun ls hl => ?_)
            obtain ⟨v4_8, ev4_8⟩ : ∃ y : Int32, y = v4_2 + 1 := ⟨_, rfl⟩
            have h := bd_e h v4_8 ev4_8
            refine lv_iinc (v := v4_8) (lv' := [(4, .int v4_8), (3, .int 0), (0, .ref (adc 0)), (1, .int p1), (2, .int p2)]) hx hb dX8_doZonesClash_58 hl (k := 4) rfl (by rw [ev4_8]; rfl) (by decide) rfl (fun ls hl => ?_)
            refine lv_goto (tgt := 5) hx hb dX8_doZonesClash_61 (by decide) ?_
            exact ih 0 v4_8 z _ _ _ hN (lv_sub hl [2, 3, 4, 1, 0] rfl) h K
          · have h := if_f h c7
            refine lv_aload_n hx hb dX8_doZonesClash_25 rfl (lv_at hl 0 rfl) ?_
            refine lv_iload_n hx hb dX8_doZonesClash_26 rfl (lv_at hl 2 rfl) ?_
            refine lv_iload hx hb dX8_doZonesClash_27 (lv_at hl 4 rfl) ?_
            obtain ⟨r_9, hr_9, h⟩ := bi_e h
            refine n_callVi (ws' := wX8 E adc c_now c_read c_past c_deeds c_images c_isKept c_text c_letters c_at c_token c_tokenAt c_value c_facts c_seen c_seenAhead c_weakLink c_weakTwos c_which c_views c_whichMany) hC hN (tX8_zoneOf l E adc c_now c_read c_past c_deeds c_images c_isKept c_text c_letters c_at c_token c_tokenAt c_value c_facts c_seen c_seenAhead c_weakLink c_weakTwos c_which c_views c_whichMany p2 v4_2 r_9 hr_9) cy_X8_zoneOf mML_X8_125 mIM_X8_zoneOf mSE_X8_zoneOf rfl rfl (k := 0) rfl (perm_self _) (perm_self _) rfl rfl hl.1 rfl (Nat.le_of_ble_eq_true rfl) dX8_doZonesClash_29 ⟨Nat.le_of_ble_eq_true rfl, Nat.le_of_ble_eq_true rfl⟩ ⟨Nat.le_refl _, Nat.le_refl _⟩ (fun H locs hN => ?_)
            refine lv_if_eq (tgt := 56) hx hb dX8_doZonesClash_32 (by decide) (fun c10 => ?_) (fun c10 => ?_)
            · have h := if_t h c10
              refine lv_iconst (v := 0) hx hb dX8_doZonesClash_56 rfl ?_
              refine lv_istore_n (lv' := [(3, .int 0), (0, .ref (adc 0)), (1, .int p1), (2, .int p2), (4, .int v4_2)]) hx hb dX8_doZonesClash_57 rfl hl (by decide) rfl (fun ls hl => ?_)
              obtain ⟨v4_11, ev4_11⟩ : ∃ y : Int32, y = v4_2 + 1 := ⟨_, rfl⟩
              have h := bd_e h v4_11 ev4_11
              refine lv_iinc (v := v4_11) (lv' := [(4, .int v4_11), (3, .int 0), (0, .ref (adc 0)), (1, .int p1), (2, .int p2)]) hx hb dX8_doZonesClash_58 hl (k := 4) rfl (by rw [ev4_11]; rfl) (by decide) rfl (fun ls hl => ?_)
              refine lv_goto (tgt := 5) hx hb dX8_doZonesClash_61 (by decide) ?_
              exact ih 0 v4_11 z _ _ _ hN (lv_sub hl [2, 3, 4, 1, 0] rfl) h K
            · have h := if_f h c10
              refine lv_aload_n hx hb dX8_doZonesClash_35 rfl (lv_at hl 0 rfl) ?_
              refine lv_iload_n hx hb dX8_doZonesClash_36 rfl (lv_at hl 1 rfl) ?_
              refine lv_iload hx hb dX8_doZonesClash_37 (lv_at hl 4 rfl) ?_
              obtain ⟨r_12, hr_12, h⟩ := bi_e h
              refine n_callVi (ws' := wX8 E adc c_now c_read c_past c_deeds c_images c_isKept c_text c_letters c_at c_token c_tokenAt c_value c_facts c_seen c_seenAhead c_weakLink c_weakTwos c_which c_views c_whichMany) hC hN (tX8_zoneOf l E adc c_now c_read c_past c_deeds c_images c_isKept c_text c_letters c_at c_token c_tokenAt c_value c_facts c_seen c_seenAhead c_weakLink c_weakTwos c_which c_views c_whichMany p1 v4_2 r_12 hr_12) cy_X8_zoneOf mML_X8_125 mIM_X8_zoneOf mSE_X8_zoneOf rfl rfl (k := 0) rfl (perm_self _) (perm_self _) rfl rfl hl.1 rfl (Nat.le_of_ble_eq_true rfl) dX8_doZonesClash_39 ⟨Nat.le_of_ble_eq_true rfl, Nat.le_of_ble_eq_true rfl⟩ ⟨Nat.le_refl _, Nat.le_refl _⟩ (fun H locs hN => ?_)
              refine lv_aload_n hx hb dX8_doZonesClash_42 rfl (lv_at hl 0 rfl) ?_
              refine lv_iload_n hx hb dX8_doZonesClash_43 rfl (lv_at hl 2 rfl) ?_
              refine lv_iload hx hb dX8_doZonesClash_44 (lv_at hl 4 rfl) ?_
              obtain ⟨r_13, hr_13, h⟩ := bi_e h
              refine n_callVi (ws' := wX8 E adc c_now c_read c_past c_deeds c_images c_isKept c_text c_letters c_at c_token c_tokenAt c_value c_facts c_seen c_seenAhead c_weakLink c_weakTwos c_which c_views c_whichMany) hC hN (tX8_zoneOf l E adc c_now c_read c_past c_deeds c_images c_isKept c_text c_letters c_at c_token c_tokenAt c_value c_facts c_seen c_seenAhead c_weakLink c_weakTwos c_which c_views c_whichMany p2 v4_2 r_13 hr_13) cy_X8_zoneOf mML_X8_125 mIM_X8_zoneOf mSE_X8_zoneOf rfl rfl (k := 0) rfl (perm_self _) (perm_self _) rfl rfl hl.1 rfl (Nat.le_of_ble_eq_true rfl) dX8_doZonesClash_46 ⟨Nat.le_of_ble_eq_true rfl, Nat.le_of_ble_eq_true rfl⟩ ⟨Nat.le_refl _, Nat.le_refl _⟩ (fun H locs hN => ?_)
              refine lv_icmp_eq (tgt := 56) hx hb dX8_doZonesClash_49 (by decide) (fun c14 => ?_) (fun c14 => ?_)
              · have h := if_t h c14
                refine lv_iconst (v := 0) hx hb dX8_doZonesClash_56 rfl ?_
                refine lv_istore_n (lv' := [(3, .int 0), (0, .ref (adc 0)), (1, .int p1), (2, .int p2), (4, .int v4_2)]) hx hb dX8_doZonesClash_57 rfl hl (by decide) rfl (fun ls hl => ?_)
                obtain ⟨v4_15, ev4_15⟩ : ∃ y : Int32, y = v4_2 + 1 := ⟨_, rfl⟩
                have h := bd_e h v4_15 ev4_15
                refine lv_iinc (v := v4_15) (lv' := [(4, .int v4_15), (3, .int 0), (0, .ref (adc 0)), (1, .int p1), (2, .int p2)]) hx hb dX8_doZonesClash_58 hl (k := 4) rfl (by rw [ev4_15]; rfl) (by decide) rfl (fun ls hl => ?_)
                refine lv_goto (tgt := 5) hx hb dX8_doZonesClash_61 (by decide) ?_
                exact ih 0 v4_15 z _ _ _ hN (lv_sub hl [2, 3, 4, 1, 0] rfl) h K
              · have h := if_f h c14
                refine lv_iconst (v := 1) hx hb dX8_doZonesClash_52 rfl ?_
                refine lv_goto (tgt := 57) hx hb dX8_doZonesClash_53 (by decide) ?_
                refine lv_istore_n (lv' := [(3, .int 1), (0, .ref (adc 0)), (1, .int p1), (2, .int p2), (4, .int v4_2)]) hx hb dX8_doZonesClash_57 rfl hl (by decide) rfl (fun ls hl => ?_)
                obtain ⟨v4_16, ev4_16⟩ : ∃ y : Int32, y = v4_2 + 1 := ⟨_, rfl⟩
                have h := bd_e h v4_16 ev4_16
                refine lv_iinc (v := v4_16) (lv' := [(4, .int v4_16), (3, .int 1), (0, .ref (adc 0)), (1, .int p1), (2, .int p2)]) hx hb dX8_doZonesClash_58 hl (k := 4) rfl (by rw [ev4_16]; rfl) (by decide) rfl (fun ls hl => ?_)
                refine lv_goto (tgt := 5) hx hb dX8_doZonesClash_61 (by decide) ?_
                exact ih 1 v4_16 z _ _ _ hN (lv_sub hl [2, 3, 4, 1, 0] rfl) h K
  obtain ⟨z_17, hz_17, h⟩ := bi_e h
  refine L1 500 0 0 z_17 _ _ _ hN (lv_sub hl [2, 3, 4, 1, 0] rfl) hz_17 (fun H locs ls hN hl => ?_)
  refine lv_iload_n hx hb dX8_doZonesClash_64 rfl (lv_at hl 3 rfl) ?_
  have gB := gd_c h
  have h := gd_e h
  obtain rfl := Option.some.inj h
  exact n_zret hC hN gB dX8_doZonesClash_65
set_option maxHeartbeats 4000000 in
set_option maxRecDepth 100000 in
theorem tX8_blocksOf (l : Launch) (E : EV) (adc : Nat → Nat) (c_now : Nat → Int32) (c_read : Nat → Int32) (c_past : Nat → Int32) (c_deeds : Int32) (c_images : Nat → Int32) (c_isKept : Nat → Int32) (c_text : Nat → Int32) (c_letters : Int32) (c_at : Int32) (c_token : Int32) (c_tokenAt : Int32) (c_value : Int32) (c_facts : Nat → Int32) (c_seen : Int32) (c_seenAhead : Nat → Int32) (c_weakLink : Int32) (c_weakTwos : Int32) (c_which : Nat → Int32) (c_views : Nat → Int32) (c_whichMany : Int32) (p1 : Int32) (z : Int32) (h : fX8_blocksOf c_now p1 = some z) : Cn l E yX8_blocksOf cX8_blocksOf 4 (some .int) 1 22 [.ref (adc 0), .int p1] (wX8 E adc c_now c_read c_past c_deeds c_images c_isKept c_text c_letters c_at c_token c_tokenAt c_value c_facts c_seen c_seenAhead c_weakLink c_weakTwos c_which c_views c_whichMany) (wX8 E adc c_now c_read c_past c_deeds c_images c_isKept c_text c_letters c_at c_token c_tokenAt c_value c_facts c_seen c_seenAhead c_weakLink c_weakTwos c_which c_views c_whichMany) (some (.int z)) := by
  refine Cn.ofW (by decide +kernel) (Nat.le_of_ble_eq_true rfl) ?_
  intro p e s m args below meth c ls hC hN hl
  obtain ⟨z0, hz0⟩ : ∃ y, y = z := ⟨_, rfl⟩
  rw [← hz0] at h ⊢
  clear hz0
  have hl : lv_has ls 4 [(0, .ref (adc 0)), (1, .int p1)] := hl
  have hx := hC.1
  have hb := hC.2.1
  unfold fX8_blocksOf at h
  refine lv_iconst (v := 0) hx hb dX8_blocksOf_0 rfl ?_
  refine lv_istore_n (lv' := [(2, .int 0), (0, .ref (adc 0)), (1, .int p1)]) hx hb dX8_blocksOf_1 rfl hl (by decide) rfl (fun ls hl => ?_)
  refine lv_iconst (v := 0) hx hb dX8_blocksOf_2 rfl ?_
  refine lv_istore_n (lv' := [(3, .int 0), (2, .int 0), (0, .ref (adc 0)), (1, .int p1)]) hx hb dX8_blocksOf_3 rfl hl (by decide) rfl (fun ls hl => ?_)
  have L1 : ∀ (fu : Nat) (v2_1 : Int32) (v3_2 : Int32) (z : Int32 × Int32) (H : Heap) (locs : List Loc) (ls : Array Slot), Nw E s (AD (wX8 E adc c_now c_read c_past c_deeds c_images c_isKept c_text c_letters c_at c_token c_tokenAt c_value c_facts c_seen c_seenAhead c_weakLink c_weakTwos c_which c_views c_whichMany)) (wX8 E adc c_now c_read c_past c_deeds c_images c_isKept c_text c_letters c_at c_token c_tokenAt c_value c_facts c_seen c_seenAhead c_weakLink c_weakTwos c_which c_views c_whichMany) H locs → lv_has ls 4 [(0, .ref (adc 0)), (1, .int p1), (2, .int v2_1), (3, .int v3_2)] → fX8_blocksOf_L1 c_now p1 fu v2_1 v3_2 = some z → (∀ (H : Heap) (locs : List Loc) (ls : Array Slot), Nw E s (AD (wX8 E adc c_now c_read c_past c_deeds c_images c_isKept c_text c_letters c_at c_token c_tokenAt c_value c_facts c_seen c_seenAhead c_weakLink c_weakTwos c_which c_views c_whichMany)) (wX8 E adc c_now c_read c_past c_deeds c_images c_isKept c_text c_letters c_at c_token c_tokenAt c_value c_facts c_seen c_seenAhead c_weakLink c_weakTwos c_which c_views c_whichMany) H locs → lv_has ls 4 [(0, .ref (adc 0)), (1, .int p1), (2, .int z.1), (3, .int z.2)] → WN p l e 1 22 s m args below meth c E (wX8 E adc c_now c_read c_past c_deeds c_images c_isKept c_text c_letters c_at c_token c_tokenAt c_value c_facts c_seen c_seenAhead c_weakLink c_weakTwos c_which c_views c_whichMany) (some (.int z0)) (wX8 E adc c_now c_read c_past c_deeds c_images c_isKept c_text c_letters c_at c_token c_tokenAt c_value c_facts c_seen c_seenAhead c_weakLink c_weakTwos c_which c_views c_whichMany) H locs (F0 m 43 ls [])) → WN p l e 1 22 s m args below meth c E (wX8 E adc c_now c_read c_past c_deeds c_images c_isKept c_text c_letters c_at c_token c_tokenAt c_value c_facts c_seen c_seenAhead c_weakLink c_weakTwos c_which c_views c_whichMany) (some (.int z0)) (wX8 E adc c_now c_read c_past c_deeds c_images c_isKept c_text c_letters c_at c_token c_tokenAt c_value c_facts c_seen c_seenAhead c_weakLink c_weakTwos c_which c_views c_whichMany) H locs (F0 m 4 ls []) := by
    intro fu
    induction fu with
    | zero =>
      intro v2_1 v3_2 z H locs ls hN hl h K
      cases (show (none : Option (Int32 × Int32)) = some z from h)
    | succ fu ih =>
      intro v2_1 v3_2 z H locs ls hN hl h K
      rw [fX8_blocksOf_L1.eq_2] at h
      refine lv_iload_n hx hb dX8_blocksOf_4 rfl (lv_at hl 3 rfl) ?_
      refine lv_aload_n hx hb dX8_blocksOf_5 rfl (lv_at hl 0 rfl) ?_
      refine gt_X8_now hC hN 0 rfl rfl dX8_blocksOf_6 ?_
      refine lv_iconst (v := 0) hx hb dX8_blocksOf_9 rfl ?_
      have g := inB_vp (gd_c h)
      have h := gd_e h
      refine n_iald hC hN 1 rfl g dX8_blocksOf_10 ?_
      refine lv_icmp_ge (tgt := 43) hx hb dX8_blocksOf_11 (by decide) (fun c3 => ?_) (fun c3 => ?_)
      · have h := if_t h c3
        obtain rfl := Option.some.inj h
        exact K _ _ _ hN (lv_sub hl [0, 1, 2, 3] rfl)
      · have h := if_f h c3
        refine lv_iload_n hx hb dX8_blocksOf_14 rfl (lv_at hl 2 rfl) ?_
        refine lv_iload_n hx hb dX8_blocksOf_15 rfl (lv_at hl 1 rfl) ?_
        refine lv_iload_n hx hb dX8_blocksOf_16 rfl (lv_at hl 3 rfl) ?_
        obtain ⟨r_4, hr_4, h⟩ := bi_e h
        refine n_callSi (ws' := wX8 E adc c_now c_read c_past c_deeds c_images c_isKept c_text c_letters c_at c_token c_tokenAt c_value c_facts c_seen c_seenAhead c_weakLink c_weakTwos c_which c_views c_whichMany) hC hN (tX8_has l E p1 v3_2 r_4 hr_4) cy_X8_has mML_X8_102 mST_X8_has (perm_nil _) (perm_nil _) rfl rfl hl.1 rfl (Nat.le_of_ble_eq_true rfl) dX8_blocksOf_17 ⟨Nat.le_of_ble_eq_true rfl, Nat.le_of_ble_eq_true rfl⟩ ⟨Nat.le_refl _, Nat.le_refl _⟩ (fun H locs hN => ?_)
        refine lv_if_eq (tgt := 34) hx hb dX8_blocksOf_20 (by decide) (fun c5 => ?_) (fun c5 => ?_)
        · have h := if_t h c5
          refine lv_iconst (v := 0) hx hb dX8_blocksOf_34 rfl ?_
          refine lv_ior hx hb dX8_blocksOf_35 ?_
          refine lv_topi (fun v2_6 ev2_6 => ?_)
          have h := bd_e h v2_6 ev2_6
          refine lv_istore_n (lv' := [(2, .int v2_6), (0, .ref (adc 0)), (1, .int p1), (3, .int v3_2)]) hx hb dX8_blocksOf_36 rfl hl (by decide) rfl (fun ls hl => ?_)
          obtain ⟨v3_7, ev3_7⟩ : ∃ y : Int32, y = v3_2 + 1 := ⟨_, rfl⟩
          have h := bd_e h v3_7 ev3_7
          refine lv_iinc (v := v3_7) (lv' := [(3, .int v3_7), (2, .int v2_6), (0, .ref (adc 0)), (1, .int p1)]) hx hb dX8_blocksOf_37 hl (k := 3) rfl (by rw [ev3_7]; rfl) (by decide) rfl (fun ls hl => ?_)
          refine lv_goto (tgt := 4) hx hb dX8_blocksOf_40 (by decide) ?_
          exact ih v2_6 v3_7 z _ _ _ hN (lv_sub hl [2, 3, 1, 0] rfl) h K
        · have h := if_f h c5
          refine lv_iconst (v := 1) hx hb dX8_blocksOf_23 rfl ?_
          refine lv_aload_n hx hb dX8_blocksOf_24 rfl (lv_at hl 0 rfl) ?_
          refine lv_iload_n hx hb dX8_blocksOf_25 rfl (lv_at hl 3 rfl) ?_
          refine lv_iconst (v := 3) hx hb dX8_blocksOf_26 rfl ?_
          obtain ⟨r_8, hr_8, h⟩ := bi_e h
          refine n_callVi (ws' := wX8 E adc c_now c_read c_past c_deeds c_images c_isKept c_text c_letters c_at c_token c_tokenAt c_value c_facts c_seen c_seenAhead c_weakLink c_weakTwos c_which c_views c_whichMany) hC hN (tX8_of l E adc c_now c_read c_past c_deeds c_images c_isKept c_text c_letters c_at c_token c_tokenAt c_value c_facts c_seen c_seenAhead c_weakLink c_weakTwos c_which c_views c_whichMany v3_2 3 r_8 hr_8) cy_X8_of mML_X8_115 mIM_X8_of mSE_X8_of rfl rfl (k := 0) rfl (perm_self _) (perm_self _) rfl rfl hl.1 rfl (Nat.le_of_ble_eq_true rfl) dX8_blocksOf_27 ⟨Nat.le_of_ble_eq_true rfl, Nat.le_of_ble_eq_true rfl⟩ ⟨Nat.le_refl _, Nat.le_refl _⟩ (fun H locs hN => ?_)
          refine lv_ishl hx hb dX8_blocksOf_30 ?_
          refine lv_goto (tgt := 35) hx hb dX8_blocksOf_31 (by decide) ?_
          refine lv_ior hx hb dX8_blocksOf_35 ?_
          refine lv_topi (fun v2_9 ev2_9 => ?_)
          have h := bd_e h v2_9 ev2_9
          refine lv_istore_n (lv' := [(2, .int v2_9), (0, .ref (adc 0)), (1, .int p1), (3, .int v3_2)]) hx hb dX8_blocksOf_36 rfl hl (by decide) rfl (fun ls hl => ?_)
          obtain ⟨v3_10, ev3_10⟩ : ∃ y : Int32, y = v3_2 + 1 := ⟨_, rfl⟩
          have h := bd_e h v3_10 ev3_10
          refine lv_iinc (v := v3_10) (lv' := [(3, .int v3_10), (2, .int v2_9), (0, .ref (adc 0)), (1, .int p1)]) hx hb dX8_blocksOf_37 hl (k := 3) rfl (by rw [ev3_10]; rfl) (by decide) rfl (fun ls hl => ?_)
          refine lv_goto (tgt := 4) hx hb dX8_blocksOf_40 (by decide) ?_
          exact ih v2_9 v3_10 z _ _ _ hN (lv_sub hl [2, 3, 1, 0] rfl) h K
  obtain ⟨z_11, hz_11, h⟩ := bi_e h
  refine L1 500 0 0 z_11 _ _ _ hN (lv_sub hl [2, 3, 1, 0] rfl) hz_11 (fun H locs ls hN hl => ?_)
  refine lv_iload_n hx hb dX8_blocksOf_43 rfl (lv_at hl 2 rfl) ?_
  obtain rfl := Option.some.inj h
  exact n_iret hC hN dX8_blocksOf_44
set_option maxHeartbeats 4000000 in
set_option maxRecDepth 100000 in
theorem tX8_doBlocksClash (l : Launch) (E : EV) (adc : Nat → Nat) (c_now : Nat → Int32) (c_read : Nat → Int32) (c_past : Nat → Int32) (c_deeds : Int32) (c_images : Nat → Int32) (c_isKept : Nat → Int32) (c_text : Nat → Int32) (c_letters : Int32) (c_at : Int32) (c_token : Int32) (c_tokenAt : Int32) (c_value : Int32) (c_facts : Nat → Int32) (c_seen : Int32) (c_seenAhead : Nat → Int32) (c_weakLink : Int32) (c_weakTwos : Int32) (c_which : Nat → Int32) (c_views : Nat → Int32) (c_whichMany : Int32) (p1 : Int32) (p2 : Int32) (z : Int32) (h : fX8_doBlocksClash c_now p1 p2 = some z) : Cn l E yX8_doBlocksClash cX8_doBlocksClash 3 (some .boolean) 3 67 [.ref (adc 0), .int p1, .int p2] (wX8 E adc c_now c_read c_past c_deeds c_images c_isKept c_text c_letters c_at c_token c_tokenAt c_value c_facts c_seen c_seenAhead c_weakLink c_weakTwos c_which c_views c_whichMany) (wX8 E adc c_now c_read c_past c_deeds c_images c_isKept c_text c_letters c_at c_token c_tokenAt c_value c_facts c_seen c_seenAhead c_weakLink c_weakTwos c_which c_views c_whichMany) (some (.int z)) := by
  refine Cn.ofW (by decide +kernel) (Nat.le_of_ble_eq_true rfl) ?_
  intro p e s m args below meth c ls hC hN hl
  have hl : lv_has ls 3 [(0, .ref (adc 0)), (1, .int p1), (2, .int p2)] := hl
  have hx := hC.1
  have hb := hC.2.1
  unfold fX8_doBlocksClash at h
  refine lv_aload_n hx hb dX8_doBlocksClash_0 rfl (lv_at hl 0 rfl) ?_
  refine lv_aload_n hx hb dX8_doBlocksClash_1 rfl (lv_at hl 0 rfl) ?_
  refine lv_iload_n hx hb dX8_doBlocksClash_2 rfl (lv_at hl 1 rfl) ?_
  obtain ⟨r_1, hr_1, h⟩ := bi_e h
  refine n_callVi (ws' := wX8 E adc c_now c_read c_past c_deeds c_images c_isKept c_text c_letters c_at c_token c_tokenAt c_value c_facts c_seen c_seenAhead c_weakLink c_weakTwos c_which c_views c_whichMany) hC hN (tX8_fabricOf l E adc c_now c_read c_past c_deeds c_images c_isKept c_text c_letters c_at c_token c_tokenAt c_value c_facts c_seen c_seenAhead c_weakLink c_weakTwos c_which c_views c_whichMany p1 r_1 hr_1) cy_X8_fabricOf mML_X8_109 mIM_X8_fabricOf mSE_X8_fabricOf rfl rfl (k := 0) rfl (perm_self _) (perm_self _) rfl rfl hl.1 rfl (Nat.le_of_ble_eq_true rfl) dX8_doBlocksClash_3 ⟨Nat.le_of_ble_eq_true rfl, Nat.le_of_ble_eq_true rfl⟩ ⟨Nat.le_refl _, Nat.le_refl _⟩ (fun H locs hN => ?_)
  obtain ⟨r_2, hr_2, h⟩ := bi_e h
  refine n_callVi (ws' := wX8 E adc c_now c_read c_past c_deeds c_images c_isKept c_text c_letters c_at c_token c_tokenAt c_value c_facts c_seen c_seenAhead c_weakLink c_weakTwos c_which c_views c_whichMany) hC hN (tX8_blocksOf l E adc c_now c_read c_past c_deeds c_images c_isKept c_text c_letters c_at c_token c_tokenAt c_value c_facts c_seen c_seenAhead c_weakLink c_weakTwos c_which c_views c_whichMany r_1 r_2 hr_2) cy_X8_blocksOf mML_X8_128 mIM_X8_blocksOf mSE_X8_blocksOf rfl rfl (k := 0) rfl (perm_self _) (perm_self _) rfl rfl hl.1 rfl (Nat.le_of_ble_eq_true rfl) dX8_doBlocksClash_6 ⟨Nat.le_of_ble_eq_true rfl, Nat.le_of_ble_eq_true rfl⟩ ⟨Nat.le_refl _, Nat.le_refl _⟩ (fun H locs hN => ?_)
  refine lv_aload_n hx hb dX8_doBlocksClash_9 rfl (lv_at hl 0 rfl) ?_
  refine lv_aload_n hx hb dX8_doBlocksClash_10 rfl (lv_at hl 0 rfl) ?_
  refine lv_iload_n hx hb dX8_doBlocksClash_11 rfl (lv_at hl 2 rfl) ?_
  obtain ⟨r_3, hr_3, h⟩ := bi_e h
  refine n_callVi (ws' := wX8 E adc c_now c_read c_past c_deeds c_images c_isKept c_text c_letters c_at c_token c_tokenAt c_value c_facts c_seen c_seenAhead c_weakLink c_weakTwos c_which c_views c_whichMany) hC hN (tX8_fabricOf l E adc c_now c_read c_past c_deeds c_images c_isKept c_text c_letters c_at c_token c_tokenAt c_value c_facts c_seen c_seenAhead c_weakLink c_weakTwos c_which c_views c_whichMany p2 r_3 hr_3) cy_X8_fabricOf mML_X8_109 mIM_X8_fabricOf mSE_X8_fabricOf rfl rfl (k := 0) rfl (perm_self _) (perm_self _) rfl rfl hl.1 rfl (Nat.le_of_ble_eq_true rfl) dX8_doBlocksClash_12 ⟨Nat.le_of_ble_eq_true rfl, Nat.le_of_ble_eq_true rfl⟩ ⟨Nat.le_refl _, Nat.le_refl _⟩ (fun H locs hN => ?_)
  obtain ⟨r_4, hr_4, h⟩ := bi_e h
  refine n_callVi (ws' := wX8 E adc c_now c_read c_past c_deeds c_images c_isKept c_text c_letters c_at c_token c_tokenAt c_value c_facts c_seen c_seenAhead c_weakLink c_weakTwos c_which c_views c_whichMany) hC hN (tX8_blocksOf l E adc c_now c_read c_past c_deeds c_images c_isKept c_text c_letters c_at c_token c_tokenAt c_value c_facts c_seen c_seenAhead c_weakLink c_weakTwos c_which c_views c_whichMany r_3 r_4 hr_4) cy_X8_blocksOf mML_X8_128 mIM_X8_blocksOf mSE_X8_blocksOf rfl rfl (k := 0) rfl (perm_self _) (perm_self _) rfl rfl hl.1 rfl (Nat.le_of_ble_eq_true rfl) dX8_doBlocksClash_15 ⟨Nat.le_of_ble_eq_true rfl, Nat.le_of_ble_eq_true rfl⟩ ⟨Nat.le_refl _, Nat.le_refl _⟩ (fun H locs hN => ?_)
  refine lv_iand hx hb dX8_doBlocksClash_18 ?_
  refine lv_if_eq (tgt := 26) hx hb dX8_doBlocksClash_19 (by decide) (fun c5 => ?_) (fun c5 => ?_)
  · have h := if_t h c5
    refine lv_iconst (v := 0) hx hb dX8_doBlocksClash_26 rfl ?_
    obtain rfl := Option.some.inj h
    exact n_zret hC hN (Or.inl rfl) dX8_doBlocksClash_27
  · have h := if_f h c5
    refine lv_iconst (v := 1) hx hb dX8_doBlocksClash_22 rfl ?_
    refine lv_goto (tgt := 27) hx hb dX8_doBlocksClash_23 (by decide) ?_
    obtain rfl := Option.some.inj h
    exact n_zret hC hN (Or.inr rfl) dX8_doBlocksClash_27
set_option maxHeartbeats 4000000 in
set_option maxRecDepth 100000 in
theorem tX8_isUp (l : Launch) (E : EV) (adc : Nat → Nat) (c_now : Nat → Int32) (c_read : Nat → Int32) (c_past : Nat → Int32) (c_deeds : Int32) (c_images : Nat → Int32) (c_isKept : Nat → Int32) (c_text : Nat → Int32) (c_letters : Int32) (c_at : Int32) (c_token : Int32) (c_tokenAt : Int32) (c_value : Int32) (c_facts : Nat → Int32) (c_seen : Int32) (c_seenAhead : Nat → Int32) (c_weakLink : Int32) (c_weakTwos : Int32) (c_which : Nat → Int32) (c_views : Nat → Int32) (c_whichMany : Int32) (p1 : Int32) (p2 : Int32) (z : Int32) (h : fX8_isUp c_now p1 p2 = some z) : Cn l E yX8_isUp cX8_isUp 3 (some .boolean) 1 21 [.ref (adc 0), .int p1, .int p2] (wX8 E adc c_now c_read c_past c_deeds c_images c_isKept c_text c_letters c_at c_token c_tokenAt c_value c_facts c_seen c_seenAhead c_weakLink c_weakTwos c_which c_views c_whichMany) (wX8 E adc c_now c_read c_past c_deeds c_images c_isKept c_text c_letters c_at c_token c_tokenAt c_value c_facts c_seen c_seenAhead c_weakLink c_weakTwos c_which c_views c_whichMany) (some (.int z)) := by
  refine Cn.ofW (by decide +kernel) (Nat.le_of_ble_eq_true rfl) ?_
  intro p e s m args below meth c ls hC hN hl
  have hl : lv_has ls 3 [(0, .ref (adc 0)), (1, .int p1), (2, .int p2)] := hl
  have hx := hC.1
  have hb := hC.2.1
  unfold fX8_isUp at h
  refine lv_aload_n hx hb dX8_isUp_0 rfl (lv_at hl 0 rfl) ?_
  refine gt_X8_now hC hN 0 rfl rfl dX8_isUp_1 ?_
  refine lv_bipush (v := 35) hx hb dX8_isUp_4 (by decide) ?_
  refine lv_iload_n hx hb dX8_isUp_6 rfl (lv_at hl 1 rfl) ?_
  refine lv_iadd hx hb dX8_isUp_7 ?_
  have g := inB_vp (gd_c h)
  have h := gd_e h
  refine n_iald hC hN 1 rfl g dX8_isUp_8 ?_
  refine lv_iload_n hx hb dX8_isUp_9 rfl (lv_at hl 2 rfl) ?_
  obtain ⟨r_1, hr_1, h⟩ := bi_e h
  refine n_callSi (ws' := wX8 E adc c_now c_read c_past c_deeds c_images c_isKept c_text c_letters c_at c_token c_tokenAt c_value c_facts c_seen c_seenAhead c_weakLink c_weakTwos c_which c_views c_whichMany) hC hN (tX8_has l E (c_now (35 + p1).toNatClampNeg) p2 r_1 hr_1) cy_X8_has mML_X8_102 mST_X8_has (perm_nil _) (perm_nil _) rfl rfl hl.1 rfl (Nat.le_of_ble_eq_true rfl) dX8_isUp_10 ⟨Nat.le_of_ble_eq_true rfl, Nat.le_of_ble_eq_true rfl⟩ ⟨Nat.le_refl _, Nat.le_refl _⟩ (fun H locs hN => ?_)
  have gB := gd_c h
  have h := gd_e h
  obtain rfl := Option.some.inj h
  exact n_zret hC hN gB dX8_isUp_13
set_option maxHeartbeats 4000000 in
set_option maxRecDepth 100000 in
theorem tX8_putLink (l : Launch) (E : EV) (adc : Nat → Nat) (c_now : Nat → Int32) (c_read : Nat → Int32) (c_past : Nat → Int32) (c_deeds : Int32) (c_images : Nat → Int32) (c_isKept : Nat → Int32) (c_text : Nat → Int32) (c_letters : Int32) (c_at : Int32) (c_token : Int32) (c_tokenAt : Int32) (c_value : Int32) (c_facts : Nat → Int32) (c_seen : Int32) (c_seenAhead : Nat → Int32) (c_weakLink : Int32) (c_weakTwos : Int32) (c_which : Nat → Int32) (c_views : Nat → Int32) (c_whichMany : Int32) (p1 : Int32) (p2 : Int32) (p3 : Int32) (p4 : Int32) (z : Nat → Int32) (h : fX8_putLink c_now p1 p2 p3 p4 = some z) : Cn l E yX8_putLink cX8_putLink 5 none 0 0 [.ref (adc 0), .int p1, .int p2, .int p3, .int p4] (wX8 E adc c_now c_read c_past c_deeds c_images c_isKept c_text c_letters c_at c_token c_tokenAt c_value c_facts c_seen c_seenAhead c_weakLink c_weakTwos c_which c_views c_whichMany) (wX8 E adc z c_read c_past c_deeds c_images c_isKept c_text c_letters c_at c_token c_tokenAt c_value c_facts c_seen c_seenAhead c_weakLink c_weakTwos c_which c_views c_whichMany) (none) := by
  refine Cn.ofW (by decide +kernel) (Nat.le_of_ble_eq_true rfl) ?_
  intro p e s m args below meth c ls hC hN hl
  have hl : lv_has ls 5 [(0, .ref (adc 0)), (1, .int p1), (2, .int p2), (3, .int p3), (4, .int p4)] := hl
  have hx := hC.1
  have hb := hC.2.1
  unfold fX8_putLink at h
  refine lv_aload_n hx hb dX8_putLink_0 rfl (lv_at hl 0 rfl) ?_
  refine gt_X8_now hC hN 0 rfl rfl dX8_putLink_1 ?_
  refine lv_bipush (v := 35) hx hb dX8_putLink_4 (by decide) ?_
  refine lv_iload_n hx hb dX8_putLink_6 rfl (lv_at hl 1 rfl) ?_
  refine lv_iadd hx hb dX8_putLink_7 ?_
  refine lv_aload_n hx hb dX8_putLink_8 rfl (lv_at hl 0 rfl) ?_
  refine gt_X8_now hC hN 0 rfl rfl dX8_putLink_9 ?_
  refine lv_bipush (v := 35) hx hb dX8_putLink_12 (by decide) ?_
  refine lv_iload_n hx hb dX8_putLink_14 rfl (lv_at hl 1 rfl) ?_
  refine lv_iadd hx hb dX8_putLink_15 ?_
  have g := inB_vp (gd_c h)
  have h := gd_e h
  refine n_iald hC hN 1 rfl g dX8_putLink_16 ?_
  refine lv_iconst (v := 1) hx hb dX8_putLink_17 rfl ?_
  refine lv_iload_n hx hb dX8_putLink_18 rfl (lv_at hl 2 rfl) ?_
  refine lv_ishl hx hb dX8_putLink_19 ?_
  refine lv_iconst (v := -1) hx hb dX8_putLink_20 rfl ?_
  refine lv_ixor hx hb dX8_putLink_21 ?_
  refine lv_iand hx hb dX8_putLink_22 ?_
  refine lv_iload_n hx hb dX8_putLink_23 rfl (lv_at hl 3 rfl) ?_
  refine lv_iload_n hx hb dX8_putLink_24 rfl (lv_at hl 2 rfl) ?_
  refine lv_ishl hx hb dX8_putLink_25 ?_
  refine lv_ior hx hb dX8_putLink_26 ?_
  have g := inB_vp (gd_c h)
  have h := gd_e h
  obtain ⟨c_now_1, ec_now_1⟩ : ∃ y : Nat → Int32, y = upd c_now (35 + p1).toNatClampNeg (((c_now (35 + p1).toNatClampNeg) &&& ((1 <<< (p2 &&& 31)) ^^^ (-1))) ||| (p3 <<< (p2 &&& 31))) := ⟨_, rfl⟩
  have h := bd_e h c_now_1 ec_now_1
  refine n_iast hC hN 1 rfl g ec_now_1 (ws' := wX8 E adc c_now_1 c_read c_past c_deeds c_images c_isKept c_text c_letters c_at c_token c_tokenAt c_value c_facts c_seen c_seenAhead c_weakLink c_weakTwos c_which c_views c_whichMany) rfl dX8_putLink_27 (fun H locs hN => ?_)
  refine lv_aload_n hx hb dX8_putLink_28 rfl (lv_at hl 0 rfl) ?_
  refine gt_X8_now hC hN 0 rfl rfl dX8_putLink_29 ?_
  refine lv_bipush (v := 35) hx hb dX8_putLink_32 (by decide) ?_
  refine lv_iload_n hx hb dX8_putLink_34 rfl (lv_at hl 2 rfl) ?_
  refine lv_iadd hx hb dX8_putLink_35 ?_
  refine lv_aload_n hx hb dX8_putLink_36 rfl (lv_at hl 0 rfl) ?_
  refine gt_X8_now hC hN 0 rfl rfl dX8_putLink_37 ?_
  refine lv_bipush (v := 35) hx hb dX8_putLink_40 (by decide) ?_
  refine lv_iload_n hx hb dX8_putLink_42 rfl (lv_at hl 2 rfl) ?_
  refine lv_iadd hx hb dX8_putLink_43 ?_
  have g := inB_vp (gd_c h)
  have h := gd_e h
  refine n_iald hC hN 1 rfl g dX8_putLink_44 ?_
  refine lv_iconst (v := 1) hx hb dX8_putLink_45 rfl ?_
  refine lv_iload_n hx hb dX8_putLink_46 rfl (lv_at hl 1 rfl) ?_
  refine lv_ishl hx hb dX8_putLink_47 ?_
  refine lv_iconst (v := -1) hx hb dX8_putLink_48 rfl ?_
  refine lv_ixor hx hb dX8_putLink_49 ?_
  refine lv_iand hx hb dX8_putLink_50 ?_
  refine lv_iload_n hx hb dX8_putLink_51 rfl (lv_at hl 3 rfl) ?_
  refine lv_iload_n hx hb dX8_putLink_52 rfl (lv_at hl 1 rfl) ?_
  refine lv_ishl hx hb dX8_putLink_53 ?_
  refine lv_ior hx hb dX8_putLink_54 ?_
  have g := inB_vp (gd_c h)
  have h := gd_e h
  obtain ⟨c_now_2, ec_now_2⟩ : ∃ y : Nat → Int32, y = upd c_now_1 (35 + p2).toNatClampNeg (((c_now_1 (35 + p2).toNatClampNeg) &&& ((1 <<< (p1 &&& 31)) ^^^ (-1))) ||| (p3 <<< (p1 &&& 31))) := ⟨_, rfl⟩
  have h := bd_e h c_now_2 ec_now_2
  refine n_iast hC hN 1 rfl g ec_now_2 (ws' := wX8 E adc c_now_2 c_read c_past c_deeds c_images c_isKept c_text c_letters c_at c_token c_tokenAt c_value c_facts c_seen c_seenAhead c_weakLink c_weakTwos c_which c_views c_whichMany) rfl dX8_putLink_55 (fun H locs hN => ?_)
  refine lv_aload_n hx hb dX8_putLink_56 rfl (lv_at hl 0 rfl) ?_
  refine gt_X8_now hC hN 0 rfl rfl dX8_putLink_57 ?_
  refine lv_bipush (v := 41) hx hb dX8_putLink_60 (by decide) ?_
  refine lv_iload_n hx hb dX8_putLink_62 rfl (lv_at hl 1 rfl) ?_
  refine lv_iadd hx hb dX8_putLink_63 ?_
  refine lv_aload_n hx hb dX8_putLink_64 rfl (lv_at hl 0 rfl) ?_
  refine gt_X8_now hC hN 0 rfl rfl dX8_putLink_65 ?_
  refine lv_bipush (v := 41) hx hb dX8_putLink_68 (by decide) ?_
  refine lv_iload_n hx hb dX8_putLink_70 rfl (lv_at hl 1 rfl) ?_
  refine lv_iadd hx hb dX8_putLink_71 ?_
  have g := inB_vp (gd_c h)
  have h := gd_e h
  refine n_iald hC hN 1 rfl g dX8_putLink_72 ?_
  refine lv_iconst (v := 1) hx hb dX8_putLink_73 rfl ?_
  refine lv_iload_n hx hb dX8_putLink_74 rfl (lv_at hl 2 rfl) ?_
  refine lv_ishl hx hb dX8_putLink_75 ?_
  refine lv_iconst (v := -1) hx hb dX8_putLink_76 rfl ?_
  refine lv_ixor hx hb dX8_putLink_77 ?_
  refine lv_iand hx hb dX8_putLink_78 ?_
  refine lv_iload hx hb dX8_putLink_79 (lv_at hl 4 rfl) ?_
  refine lv_iload_n hx hb dX8_putLink_81 rfl (lv_at hl 2 rfl) ?_
  refine lv_ishl hx hb dX8_putLink_82 ?_
  refine lv_ior hx hb dX8_putLink_83 ?_
  have g := inB_vp (gd_c h)
  have h := gd_e h
  obtain ⟨c_now_3, ec_now_3⟩ : ∃ y : Nat → Int32, y = upd c_now_2 (41 + p1).toNatClampNeg (((c_now_2 (41 + p1).toNatClampNeg) &&& ((1 <<< (p2 &&& 31)) ^^^ (-1))) ||| (p4 <<< (p2 &&& 31))) := ⟨_, rfl⟩
  have h := bd_e h c_now_3 ec_now_3
  refine n_iast hC hN 1 rfl g ec_now_3 (ws' := wX8 E adc c_now_3 c_read c_past c_deeds c_images c_isKept c_text c_letters c_at c_token c_tokenAt c_value c_facts c_seen c_seenAhead c_weakLink c_weakTwos c_which c_views c_whichMany) rfl dX8_putLink_84 (fun H locs hN => ?_)
  refine lv_aload_n hx hb dX8_putLink_85 rfl (lv_at hl 0 rfl) ?_
  refine gt_X8_now hC hN 0 rfl rfl dX8_putLink_86 ?_
  refine lv_bipush (v := 41) hx hb dX8_putLink_89 (by decide) ?_
  refine lv_iload_n hx hb dX8_putLink_91 rfl (lv_at hl 2 rfl) ?_
  refine lv_iadd hx hb dX8_putLink_92 ?_
  refine lv_aload_n hx hb dX8_putLink_93 rfl (lv_at hl 0 rfl) ?_
  refine gt_X8_now hC hN 0 rfl rfl dX8_putLink_94 ?_
  refine lv_bipush (v := 41) hx hb dX8_putLink_97 (by decide) ?_
  refine lv_iload_n hx hb dX8_putLink_99 rfl (lv_at hl 2 rfl) ?_
  refine lv_iadd hx hb dX8_putLink_100 ?_
  have g := inB_vp (gd_c h)
  have h := gd_e h
  refine n_iald hC hN 1 rfl g dX8_putLink_101 ?_
  refine lv_iconst (v := 1) hx hb dX8_putLink_102 rfl ?_
  refine lv_iload_n hx hb dX8_putLink_103 rfl (lv_at hl 1 rfl) ?_
  refine lv_ishl hx hb dX8_putLink_104 ?_
  refine lv_iconst (v := -1) hx hb dX8_putLink_105 rfl ?_
  refine lv_ixor hx hb dX8_putLink_106 ?_
  refine lv_iand hx hb dX8_putLink_107 ?_
  refine lv_iload hx hb dX8_putLink_108 (lv_at hl 4 rfl) ?_
  refine lv_iload_n hx hb dX8_putLink_110 rfl (lv_at hl 1 rfl) ?_
  refine lv_ishl hx hb dX8_putLink_111 ?_
  refine lv_ior hx hb dX8_putLink_112 ?_
  have g := inB_vp (gd_c h)
  have h := gd_e h
  obtain ⟨c_now_4, ec_now_4⟩ : ∃ y : Nat → Int32, y = upd c_now_3 (41 + p2).toNatClampNeg (((c_now_3 (41 + p2).toNatClampNeg) &&& ((1 <<< (p1 &&& 31)) ^^^ (-1))) ||| (p4 <<< (p1 &&& 31))) := ⟨_, rfl⟩
  have h := bd_e h c_now_4 ec_now_4
  refine n_iast hC hN 1 rfl g ec_now_4 (ws' := wX8 E adc c_now_4 c_read c_past c_deeds c_images c_isKept c_text c_letters c_at c_token c_tokenAt c_value c_facts c_seen c_seenAhead c_weakLink c_weakTwos c_which c_views c_whichMany) rfl dX8_putLink_113 (fun H locs hN => ?_)
  obtain rfl := Option.some.inj h
  exact n_vret hC hN dX8_putLink_114
set_option maxHeartbeats 4000000 in
set_option maxRecDepth 100000 in
theorem tX8_zonesOf (l : Launch) (E : EV) (adc : Nat → Nat) (c_now : Nat → Int32) (c_read : Nat → Int32) (c_past : Nat → Int32) (c_deeds : Int32) (c_images : Nat → Int32) (c_isKept : Nat → Int32) (c_text : Nat → Int32) (c_letters : Int32) (c_at : Int32) (c_token : Int32) (c_tokenAt : Int32) (c_value : Int32) (c_facts : Nat → Int32) (c_seen : Int32) (c_seenAhead : Nat → Int32) (c_weakLink : Int32) (c_weakTwos : Int32) (c_which : Nat → Int32) (c_views : Nat → Int32) (c_whichMany : Int32) (p1 : Int32) (z : Int32) (h : fX8_zonesOf c_now p1 = some z) : Cn l E yX8_zonesOf cX8_zonesOf 4 (some .int) 1 22 [.ref (adc 0), .int p1] (wX8 E adc c_now c_read c_past c_deeds c_images c_isKept c_text c_letters c_at c_token c_tokenAt c_value c_facts c_seen c_seenAhead c_weakLink c_weakTwos c_which c_views c_whichMany) (wX8 E adc c_now c_read c_past c_deeds c_images c_isKept c_text c_letters c_at c_token c_tokenAt c_value c_facts c_seen c_seenAhead c_weakLink c_weakTwos c_which c_views c_whichMany) (some (.int z)) := by
  refine Cn.ofW (by decide +kernel) (Nat.le_of_ble_eq_true rfl) ?_
  intro p e s m args below meth c ls hC hN hl
  obtain ⟨z0, hz0⟩ : ∃ y, y = z := ⟨_, rfl⟩
  rw [← hz0] at h ⊢
  clear hz0
  have hl : lv_has ls 4 [(0, .ref (adc 0)), (1, .int p1)] := hl
  have hx := hC.1
  have hb := hC.2.1
  unfold fX8_zonesOf at h
  refine lv_iconst (v := 0) hx hb dX8_zonesOf_0 rfl ?_
  refine lv_istore_n (lv' := [(2, .int 0), (0, .ref (adc 0)), (1, .int p1)]) hx hb dX8_zonesOf_1 rfl hl (by decide) rfl (fun ls hl => ?_)
  refine lv_iconst (v := 0) hx hb dX8_zonesOf_2 rfl ?_
  refine lv_istore_n (lv' := [(3, .int 0), (2, .int 0), (0, .ref (adc 0)), (1, .int p1)]) hx hb dX8_zonesOf_3 rfl hl (by decide) rfl (fun ls hl => ?_)
  have L1 : ∀ (fu : Nat) (v2_1 : Int32) (v3_2 : Int32) (z : Int32 × Int32) (H : Heap) (locs : List Loc) (ls : Array Slot), Nw E s (AD (wX8 E adc c_now c_read c_past c_deeds c_images c_isKept c_text c_letters c_at c_token c_tokenAt c_value c_facts c_seen c_seenAhead c_weakLink c_weakTwos c_which c_views c_whichMany)) (wX8 E adc c_now c_read c_past c_deeds c_images c_isKept c_text c_letters c_at c_token c_tokenAt c_value c_facts c_seen c_seenAhead c_weakLink c_weakTwos c_which c_views c_whichMany) H locs → lv_has ls 4 [(0, .ref (adc 0)), (1, .int p1), (2, .int v2_1), (3, .int v3_2)] → fX8_zonesOf_L1 c_now p1 fu v2_1 v3_2 = some z → (∀ (H : Heap) (locs : List Loc) (ls : Array Slot), Nw E s (AD (wX8 E adc c_now c_read c_past c_deeds c_images c_isKept c_text c_letters c_at c_token c_tokenAt c_value c_facts c_seen c_seenAhead c_weakLink c_weakTwos c_which c_views c_whichMany)) (wX8 E adc c_now c_read c_past c_deeds c_images c_isKept c_text c_letters c_at c_token c_tokenAt c_value c_facts c_seen c_seenAhead c_weakLink c_weakTwos c_which c_views c_whichMany) H locs → lv_has ls 4 [(0, .ref (adc 0)), (1, .int p1), (2, .int z.1), (3, .int z.2)] → WN p l e 1 22 s m args below meth c E (wX8 E adc c_now c_read c_past c_deeds c_images c_isKept c_text c_letters c_at c_token c_tokenAt c_value c_facts c_seen c_seenAhead c_weakLink c_weakTwos c_which c_views c_whichMany) (some (.int z0)) (wX8 E adc c_now c_read c_past c_deeds c_images c_isKept c_text c_letters c_at c_token c_tokenAt c_value c_facts c_seen c_seenAhead c_weakLink c_weakTwos c_which c_views c_whichMany) H locs (F0 m 24 ls [])) → WN p l e 1 22 s m args below meth c E (wX8 E adc c_now c_read c_past c_deeds c_images c_isKept c_text c_letters c_at c_token c_tokenAt c_value c_facts c_seen c_seenAhead c_weakLink c_weakTwos c_which c_views c_whichMany) (some (.int z0)) (wX8 E adc c_now c_read c_past c_deeds c_images c_isKept c_text c_letters c_at c_token c_tokenAt c_value c_facts c_seen c_seenAhead c_weakLink c_weakTwos c_which c_views c_whichMany) H locs (F0 m 4 ls []) := by
    intro fu
    induction fu with
    | zero =>
      intro v2_1 v3_2 z H locs ls hN hl h K
      cases (show (none : Option (Int32 × Int32)) = some z from h)
    | succ fu ih =>
      intro v2_1 v3_2 z H locs ls hN hl h K
      rw [fX8_zonesOf_L1.eq_2] at h
      refine lv_iload_n hx hb dX8_zonesOf_4 rfl (lv_at hl 3 rfl) ?_
      refine lv_iconst (v := 4) hx hb dX8_zonesOf_5 rfl ?_
      refine lv_icmp_ge (tgt := 24) hx hb dX8_zonesOf_6 (by decide) (fun c3 => ?_) (fun c3 => ?_)
      · have h := if_t h c3
        obtain rfl := Option.some.inj h
        exact K _ _ _ hN (lv_sub hl [0, 1, 2, 3] rfl)
      · have h := if_f h c3
        refine lv_iload_n hx hb dX8_zonesOf_9 rfl (lv_at hl 2 rfl) ?_
        refine lv_aload_n hx hb dX8_zonesOf_10 rfl (lv_at hl 0 rfl) ?_
        refine lv_iload_n hx hb dX8_zonesOf_11 rfl (lv_at hl 1 rfl) ?_
        refine lv_iload_n hx hb dX8_zonesOf_12 rfl (lv_at hl 3 rfl) ?_
        obtain ⟨r_4, hr_4, h⟩ := bi_e h
        refine n_callVi (ws' := wX8 E adc c_now c_read c_past c_deeds c_images c_isKept c_text c_letters c_at c_token c_tokenAt c_value c_facts c_seen c_seenAhead c_weakLink c_weakTwos c_which c_views c_whichMany) hC hN (tX8_zoneOf l E adc c_now c_read c_past c_deeds c_images c_isKept c_text c_letters c_at c_token c_tokenAt c_value c_facts c_seen c_seenAhead c_weakLink c_weakTwos c_which c_views c_whichMany p1 v3_2 r_4 hr_4) cy_X8_zoneOf mML_X8_125 mIM_X8_zoneOf mSE_X8_zoneOf rfl rfl (k := 0) rfl (perm_self _) (perm_self _) rfl rfl hl.1 rfl (Nat.le_of_ble_eq_true rfl) dX8_zonesOf_13 ⟨Nat.le_of_ble_eq_true rfl, Nat.le_of_ble_eq_true rfl⟩ ⟨Nat.le_refl _, Nat.le_refl _⟩ (fun H locs hN => ?_)
        refine lv_ior hx hb dX8_zonesOf_16 ?_
        refine lv_topi (fun v2_5 ev2_5 => ?_)
        have h := bd_e h v2_5 ev2_5
        refine lv_istore_n (lv' := [(2, .int v2_5), (0, .ref (adc 0)), (1, .int p1), (3, .int v3_2)]) hx hb dX8_zonesOf_17 rfl hl (by decide) rfl (fun ls hl => ?_)
        obtain ⟨v3_6, ev3_6⟩ : ∃ y : Int32, y = v3_2 + 1 := ⟨_, rfl⟩
        have h := bd_e h v3_6 ev3_6
        refine lv_iinc (v := v3_6) (lv' := [(3, .int v3_6), (2, .int v2_5), (0, .ref (adc 0)), (1, .int p1)]) hx hb dX8_zonesOf_18 hl (k := 3) rfl (by rw [ev3_6]; rfl) (by decide) rfl (fun ls hl => ?_)
        refine lv_goto (tgt := 4) hx hb dX8_zonesOf_21 (by decide) ?_
        exact ih v2_5 v3_6 z _ _ _ hN (lv_sub hl [2, 3, 1, 0] rfl) h K
  obtain ⟨z_7, hz_7, h⟩ := bi_e h
  refine L1 500 0 0 z_7 _ _ _ hN (lv_sub hl [2, 3, 1, 0] rfl) hz_7 (fun H locs ls hN hl => ?_)
  refine lv_iload_n hx hb dX8_zonesOf_24 rfl (lv_at hl 2 rfl) ?_
  obtain rfl := Option.some.inj h
  exact n_iret hC hN dX8_zonesOf_25
set_option maxHeartbeats 4000000 in
set_option maxRecDepth 100000 in
theorem tX8_areInOne (l : Launch) (E : EV) (adc : Nat → Nat) (c_now : Nat → Int32) (c_read : Nat → Int32) (c_past : Nat → Int32) (c_deeds : Int32) (c_images : Nat → Int32) (c_isKept : Nat → Int32) (c_text : Nat → Int32) (c_letters : Int32) (c_at : Int32) (c_token : Int32) (c_tokenAt : Int32) (c_value : Int32) (c_facts : Nat → Int32) (c_seen : Int32) (c_seenAhead : Nat → Int32) (c_weakLink : Int32) (c_weakTwos : Int32) (c_which : Nat → Int32) (c_views : Nat → Int32) (c_whichMany : Int32) (p1 : Int32) (p2 : Int32) (p3 : Int32) (z : Int32) (h : fX8_areInOne c_now p1 p2 p3 = some z) : Cn l E yX8_areInOne cX8_areInOne 6 (some .boolean) 2 45 [.ref (adc 0), .int p1, .int p2, .int p3] (wX8 E adc c_now c_read c_past c_deeds c_images c_isKept c_text c_letters c_at c_token c_tokenAt c_value c_facts c_seen c_seenAhead c_weakLink c_weakTwos c_which c_views c_whichMany) (wX8 E adc c_now c_read c_past c_deeds c_images c_isKept c_text c_letters c_at c_token c_tokenAt c_value c_facts c_seen c_seenAhead c_weakLink c_weakTwos c_which c_views c_whichMany) (some (.int z)) := by
  refine Cn.ofW (by decide +kernel) (Nat.le_of_ble_eq_true rfl) ?_
  intro p e s m args below meth c ls hC hN hl
  obtain ⟨z0, hz0⟩ : ∃ y, y = z := ⟨_, rfl⟩
  rw [← hz0] at h ⊢
  clear hz0
  have hl : lv_has ls 6 [(0, .ref (adc 0)), (1, .int p1), (2, .int p2), (3, .int p3)] := hl
  have hx := hC.1
  have hb := hC.2.1
  unfold fX8_areInOne at h
  refine lv_aload_n hx hb dX8_areInOne_0 rfl (lv_at hl 0 rfl) ?_
  refine lv_iload_n hx hb dX8_areInOne_1 rfl (lv_at hl 1 rfl) ?_
  obtain ⟨r_1, hr_1, h⟩ := bi_e h
  refine n_callVi (ws' := wX8 E adc c_now c_read c_past c_deeds c_images c_isKept c_text c_letters c_at c_token c_tokenAt c_value c_facts c_seen c_seenAhead c_weakLink c_weakTwos c_which c_views c_whichMany) hC hN (tX8_zonesOf l E adc c_now c_read c_past c_deeds c_images c_isKept c_text c_letters c_at c_token c_tokenAt c_value c_facts c_seen c_seenAhead c_weakLink c_weakTwos c_which c_views c_whichMany p1 r_1 hr_1) cy_X8_zonesOf mML_X8_131 mIM_X8_zonesOf mSE_X8_zonesOf rfl rfl (k := 0) rfl (perm_self _) (perm_self _) rfl rfl hl.1 rfl (Nat.le_of_ble_eq_true rfl) dX8_areInOne_2 ⟨Nat.le_of_ble_eq_true rfl, Nat.le_of_ble_eq_true rfl⟩ ⟨Nat.le_refl _, Nat.le_refl _⟩ (fun H locs hN => ?_)
  refine lv_if_ne (tgt := 12) hx hb dX8_areInOne_5 (by decide) (fun c2 => ?_) (fun c2 => ?_)
  · have h := if_f h c2
    refine lv_iconst (v := 0) hx hb dX8_areInOne_12 rfl ?_
    refine lv_istore (lv' := [(4, .int 0), (0, .ref (adc 0)), (1, .int p1), (2, .int p2), (3, .int p3)]) hx hb dX8_areInOne_13 hl (by decide) rfl (fun ls hl => ?_)
    refine lv_iconst (v := 0) hx hb dX8_areInOne_15 rfl ?_
    refine lv_istore (lv' := [(5, .int 0), (4, .int 0), (0, .ref (adc 0)), (1, .int p1), (2, .int p2), (3, .int p3)]) hx hb dX8_areInOne_16 hl (by decide) rfl (fun ls hl => ?_)
    have L1 : ∀ (fu : Nat) (v4_3 : Int32) (v5_4 : Int32) (z : Int32 × Int32) (H : Heap) (locs : List Loc) (ls : Array Slot), Nw E s (AD (wX8 E adc c_now c_read c_past c_deeds c_images c_isKept c_text c_letters c_at c_token c_tokenAt c_value c_facts c_seen c_seenAhead c_weakLink c_weakTwos c_which c_views c_whichMany)) (wX8 E adc c_now c_read c_past c_deeds c_images c_isKept c_text c_letters c_at c_token c_tokenAt c_value c_facts c_seen c_seenAhead c_weakLink c_weakTwos c_which c_views c_whichMany) H locs → lv_has ls 6 [(0, .ref (adc 0)), (1, .int p1), (2, .int p2), (3, .int p3), (4, .int v4_3), (5, .int v5_4)] → fX8_areInOne_L1 c_now p1 p2 p3 fu v4_3 v5_4 = some z → (∀ (H : Heap) (locs : List Loc) (ls : Array Slot), Nw E s (AD (wX8 E adc c_now c_read c_past c_deeds c_images c_isKept c_text c_letters c_at c_token c_tokenAt c_value c_facts c_seen c_seenAhead c_weakLink c_weakTwos c_which c_views c_whichMany)) (wX8 E adc c_now c_read c_past c_deeds c_images c_isKept c_text c_letters c_at c_token c_tokenAt c_value c_facts c_seen c_seenAhead c_weakLink c_weakTwos c_which c_views c_whichMany) H locs → lv_has ls 6 [(0, .ref (adc 0)), (1, .int p1), (2, .int p2), (3, .int p3), (4, .int z.1), (5, .int z.2)] → WN p l e 2 45 s m args below meth c E (wX8 E adc c_now c_read c_past c_deeds c_images c_isKept c_text c_letters c_at c_token c_tokenAt c_value c_facts c_seen c_seenAhead c_weakLink c_weakTwos c_which c_views c_whichMany) (some (.int z0)) (wX8 E adc c_now c_read c_past c_deeds c_images c_isKept c_text c_letters c_at c_token c_tokenAt c_value c_facts c_seen c_seenAhead c_weakLink c_weakTwos c_which c_views c_whichMany) H locs (F0 m 70 ls [])) → WN p l e 2 45 s m args below meth c E (wX8 E adc c_now c_read c_past c_deeds c_images c_isKept c_text c_letters c_at c_token c_tokenAt c_value c_facts c_seen c_seenAhead c_weakLink c_weakTwos c_which c_views c_whichMany) (some (.int z0)) (wX8 E adc c_now c_read c_past c_deeds c_images c_isKept c_text c_letters c_at c_token c_tokenAt c_value c_facts c_seen c_seenAhead c_weakLink c_weakTwos c_which c_views c_whichMany) H locs (F0 m 18 ls []) := by
      intro fu
      induction fu with
      | zero =>
        intro v4_3 v5_4 z H locs ls hN hl h K
        cases (show (none : Option (Int32 × Int32)) = some z from h)
      | succ fu ih =>
        intro v4_3 v5_4 z H locs ls hN hl h K
        rw [fX8_areInOne_L1.eq_2] at h
        refine lv_iload hx hb dX8_areInOne_18 (lv_at hl 5 rfl) ?_
        refine lv_iconst (v := 4) hx hb dX8_areInOne_20 rfl ?_
        refine lv_icmp_ge (tgt := 70) hx hb dX8_areInOne_21 (by decide) (fun c5 => ?_) (fun c5 => ?_)
        · have h := if_t h c5
          obtain rfl := Option.some.inj h
          exact K _ _ _ hN (lv_sub hl [0, 1, 2, 3, 4, 5] rfl)
        · have h := if_f h c5
          refine lv_iload hx hb dX8_areInOne_24 (lv_at hl 4 rfl) ?_
          refine lv_if_ne (tgt := 57) hx hb dX8_areInOne_26 (by decide) (fun c6 => ?_) (fun c6 => ?_)
          · have h := if_f h c6
            refine lv_iconst (v := 1) hx hb dX8_areInOne_57 rfl ?_
            refine lv_goto (tgt := 62) hx hb dX8_areInOne_58 (by decide) ?_
            refine lv_istore (lv' := [(4, .int 1), (0, .ref (adc 0)), (1, .int p1), (2, .int p2), (3, .int p3), (5, .int v5_4)]) hx hb dX8_areInOne_62 hl (by decide) rfl (fun ls hl => ?_)
            obtain ⟨v5_7, ev5_7⟩ : ∃ y : Int32, y = v5_4 + 1 := ⟨_, rfl⟩
            have h := bd_e h v5_7 ev5_7
            refine lv_iinc (v := v5_7) (lv' := [(5, .int v5_7), (4, .int 1), (0, .ref (adc 0)), (1, .int p1), (2, .int p2), (3, .int p3)]) hx hb dX8_areInOne_64 hl (k := 5) rfl (by rw [ev5_7]; rfl) (by decide) rfl (fun ls hl => ?_)
            refine lv_goto (tgt := 18) hx hb dX8_areInOne_67 (by decide) ?_
            exact ih 1 v5_7 z _ _ _ hN (lv_sub hl [2, 3, 4, 5, 1, 0] rfl) h K
          · have h := if_t h c6
            refine lv_aload_n hx hb dX8_areInOne_29 rfl (lv_at hl 0 rfl) ?_
            refine lv_iload_n hx hb dX8_areInOne_30 rfl (lv_at hl 1 rfl) ?_
            refine lv_iload hx hb dX8_areInOne_31 (lv_at hl 5 rfl) ?_
            obtain ⟨r_8, hr_8, h⟩ := bi_e h
            refine n_callVi (ws' := wX8 E adc c_now c_read c_past c_deeds c_images c_isKept c_text c_letters c_at c_token c_tokenAt c_value c_facts c_seen c_seenAhead c_weakLink c_weakTwos c_which c_views c_whichMany) hC hN (tX8_zoneOf l E adc c_now c_read c_past c_deeds c_images c_isKept c_text c_letters c_at c_token c_tokenAt c_value c_facts c_seen c_seenAhead c_weakLink c_weakTwos c_which c_views c_whichMany p1 v5_4 r_8 hr_8) cy_X8_zoneOf mML_X8_125 mIM_X8_zoneOf mSE_X8_zoneOf rfl rfl (k := 0) rfl (perm_self _) (perm_self _) rfl rfl hl.1 rfl (Nat.le_of_ble_eq_true rfl) dX8_areInOne_33 ⟨Nat.le_of_ble_eq_true rfl, Nat.le_of_ble_eq_true rfl⟩ ⟨Nat.le_refl _, Nat.le_refl _⟩ (fun H locs hN => ?_)
            refine lv_iload_n hx hb dX8_areInOne_36 rfl (lv_at hl 2 rfl) ?_
            obtain ⟨r_9, hr_9, h⟩ := bi_e h
            refine n_callSi (ws' := wX8 E adc c_now c_read c_past c_deeds c_images c_isKept c_text c_letters c_at c_token c_tokenAt c_value c_facts c_seen c_seenAhead c_weakLink c_weakTwos c_which c_views c_whichMany) hC hN (tX8_has l E r_8 p2 r_9 hr_9) cy_X8_has mML_X8_102 mST_X8_has (perm_nil _) (perm_nil _) rfl rfl hl.1 rfl (Nat.le_of_ble_eq_true rfl) dX8_areInOne_37 ⟨Nat.le_of_ble_eq_true rfl, Nat.le_of_ble_eq_true rfl⟩ ⟨Nat.le_refl _, Nat.le_refl _⟩ (fun H locs hN => ?_)
            refine lv_if_eq (tgt := 61) hx hb dX8_areInOne_40 (by decide) (fun c10 => ?_) (fun c10 => ?_)
            · have h := if_t h c10
              refine lv_iconst (v := 0) hx hb dX8_areInOne_61 rfl ?_
              refine lv_istore (lv' := [(4, .int 0), (0, .ref (adc 0)), (1, .int p1), (2, .int p2), (3, .int p3), (5, .int v5_4)]) hx hb dX8_areInOne_62 hl (by decide) rfl (fun ls hl => ?_)
              obtain ⟨v5_11, ev5_11⟩ : ∃ y : Int32, y = v5_4 + 1 := ⟨_, rfl⟩
              have h := bd_e h v5_11 ev5_11
              refine lv_iinc (v := v5_11) (lv' := [(5, .int v5_11), (4, .int 0), (0, .ref (adc 0)), (1, .int p1), (2, .int p2), (3, .int p3)]) hx hb dX8_areInOne_64 hl (k := 5) rfl (by rw [ev5_11]; rfl) (by decide) rfl (fun ls hl => ?_)
              refine lv_goto (tgt := 18) hx hb dX8_areInOne_67 (by decide) ?_
              exact ih 0 v5_11 z _ _ _ hN (lv_sub hl [2, 3, 4, 5, 1, 0] rfl) h K
            · have h := if_f h c10
              refine lv_aload_n hx hb dX8_areInOne_43 rfl (lv_at hl 0 rfl) ?_
              refine lv_iload_n hx hb dX8_areInOne_44 rfl (lv_at hl 1 rfl) ?_
              refine lv_iload hx hb dX8_areInOne_45 (lv_at hl 5 rfl) ?_
              obtain ⟨r_12, hr_12, h⟩ := bi_e h
              refine n_callVi (ws' := wX8 E adc c_now c_read c_past c_deeds c_images c_isKept c_text c_letters c_at c_token c_tokenAt c_value c_facts c_seen c_seenAhead c_weakLink c_weakTwos c_which c_views c_whichMany) hC hN (tX8_zoneOf l E adc c_now c_read c_past c_deeds c_images c_isKept c_text c_letters c_at c_token c_tokenAt c_value c_facts c_seen c_seenAhead c_weakLink c_weakTwos c_which c_views c_whichMany p1 v5_4 r_12 hr_12) cy_X8_zoneOf mML_X8_125 mIM_X8_zoneOf mSE_X8_zoneOf rfl rfl (k := 0) rfl (perm_self _) (perm_self _) rfl rfl hl.1 rfl (Nat.le_of_ble_eq_true rfl) dX8_areInOne_47 ⟨Nat.le_of_ble_eq_true rfl, Nat.le_of_ble_eq_true rfl⟩ ⟨Nat.le_refl _, Nat.le_refl _⟩ (fun H locs hN => ?_)
              refine lv_iload_n hx hb dX8_areInOne_50 rfl (lv_at hl 3 rfl) ?_
              obtain ⟨r_13, hr_13, h⟩ := bi_e h
              refine n_callSi (ws' := wX8 E adc c_now c_read c_past c_deeds c_images c_isKept c_text c_letters c_at c_token c_tokenAt c_value c_facts c_seen c_seenAhead c_weakLink c_weakTwos c_which c_views c_whichMany) hC hN (tX8_has l E r_12 p3 r_13 hr_13) cy_X8_has mML_X8_102 mST_X8_has (perm_nil _) (perm_nil _) rfl rfl hl.1 rfl (Nat.le_of_ble_eq_true rfl) dX8_areInOne_51 ⟨Nat.le_of_ble_eq_true rfl, Nat.le_of_ble_eq_true rfl⟩ ⟨Nat.le_refl _, Nat.le_refl _⟩ (fun H locs hN => ?_)
              refine lv_if_eq (tgt := 61) hx hb dX8_areInOne_54 (by decide) (fun c14 => ?_) (fun c14 => ?_)
              · have h := if_t h c14
                refine lv_iconst (v := 0) hx hb dX8_areInOne_61 rfl ?_
                refine lv_istore (lv' := [(4, .int 0), (0, .ref (adc 0)), (1, .int p1), (2, .int p2), (3, .int p3), (5, .int v5_4)]) hx hb dX8_areInOne_62 hl (by decide) rfl (fun ls hl => ?_)
                obtain ⟨v5_15, ev5_15⟩ : ∃ y : Int32, y = v5_4 + 1 := ⟨_, rfl⟩
                have h := bd_e h v5_15 ev5_15
                refine lv_iinc (v := v5_15) (lv' := [(5, .int v5_15), (4, .int 0), (0, .ref (adc 0)), (1, .int p1), (2, .int p2), (3, .int p3)]) hx hb dX8_areInOne_64 hl (k := 5) rfl (by rw [ev5_15]; rfl) (by decide) rfl (fun ls hl => ?_)
                refine lv_goto (tgt := 18) hx hb dX8_areInOne_67 (by decide) ?_
                exact ih 0 v5_15 z _ _ _ hN (lv_sub hl [2, 3, 4, 5, 1, 0] rfl) h K
              · have h := if_f h c14
                refine lv_iconst (v := 1) hx hb dX8_areInOne_57 rfl ?_
                refine lv_goto (tgt := 62) hx hb dX8_areInOne_58 (by decide) ?_
                refine lv_istore (lv' := [(4, .int 1), (0, .ref (adc 0)), (1, .int p1), (2, .int p2), (3, .int p3), (5, .int v5_4)]) hx hb dX8_areInOne_62 hl (by decide) rfl (fun ls hl => ?_)
                obtain ⟨v5_16, ev5_16⟩ : ∃ y : Int32, y = v5_4 + 1 := ⟨_, rfl⟩
                have h := bd_e h v5_16 ev5_16
                refine lv_iinc (v := v5_16) (lv' := [(5, .int v5_16), (4, .int 1), (0, .ref (adc 0)), (1, .int p1), (2, .int p2), (3, .int p3)]) hx hb dX8_areInOne_64 hl (k := 5) rfl (by rw [ev5_16]; rfl) (by decide) rfl (fun ls hl => ?_)
                refine lv_goto (tgt := 18) hx hb dX8_areInOne_67 (by decide) ?_
                exact ih 1 v5_16 z _ _ _ hN (lv_sub hl [2, 3, 4, 5, 1, 0] rfl) h K
    obtain ⟨z_17, hz_17, h⟩ := bi_e h
    refine L1 500 0 0 z_17 _ _ _ hN (lv_sub hl [2, 3, 4, 5, 1, 0] rfl) hz_17 (fun H locs ls hN hl => ?_)
    refine lv_iload hx hb dX8_areInOne_70 (lv_at hl 4 rfl) ?_
    have gB := gd_c h
    have h := gd_e h
    obtain rfl := Option.some.inj h
    exact n_zret hC hN gB dX8_areInOne_72
  · have h := if_t h c2
    refine lv_iconst (v := 1) hx hb dX8_areInOne_8 rfl ?_
    refine lv_goto (tgt := 13) hx hb dX8_areInOne_9 (by decide) ?_
    refine lv_istore (lv' := [(4, .int 1), (0, .ref (adc 0)), (1, .int p1), (2, .int p2), (3, .int p3)]) hx hb dX8_areInOne_13 hl (by decide) rfl (fun ls hl => ?_)
    refine lv_iconst (v := 0) hx hb dX8_areInOne_15 rfl ?_
    refine lv_istore (lv' := [(5, .int 0), (4, .int 1), (0, .ref (adc 0)), (1, .int p1), (2, .int p2), (3, .int p3)]) hx hb dX8_areInOne_16 hl (by decide) rfl (fun ls hl => ?_)
    have L2 : ∀ (fu : Nat) (v4_18 : Int32) (v5_19 : Int32) (z : Int32 × Int32) (H : Heap) (locs : List Loc) (ls : Array Slot), Nw E s (AD (wX8 E adc c_now c_read c_past c_deeds c_images c_isKept c_text c_letters c_at c_token c_tokenAt c_value c_facts c_seen c_seenAhead c_weakLink c_weakTwos c_which c_views c_whichMany)) (wX8 E adc c_now c_read c_past c_deeds c_images c_isKept c_text c_letters c_at c_token c_tokenAt c_value c_facts c_seen c_seenAhead c_weakLink c_weakTwos c_which c_views c_whichMany) H locs → lv_has ls 6 [(0, .ref (adc 0)), (1, .int p1), (2, .int p2), (3, .int p3), (4, .int v4_18), (5, .int v5_19)] → fX8_areInOne_L2 c_now p1 p2 p3 fu v4_18 v5_19 = some z → (∀ (H : Heap) (locs : List Loc) (ls : Array Slot), Nw E s (AD (wX8 E adc c_now c_read c_past c_deeds c_images c_isKept c_text c_letters c_at c_token c_tokenAt c_value c_facts c_seen c_seenAhead c_weakLink c_weakTwos c_which c_views c_whichMany)) (wX8 E adc c_now c_read c_past c_deeds c_images c_isKept c_text c_letters c_at c_token c_tokenAt c_value c_facts c_seen c_seenAhead c_weakLink c_weakTwos c_which c_views c_whichMany) H locs → lv_has ls 6 [(0, .ref (adc 0)), (1, .int p1), (2, .int p2), (3, .int p3), (4, .int z.1), (5, .int z.2)] → WN p l e 2 45 s m args below meth c E (wX8 E adc c_now c_read c_past c_deeds c_images c_isKept c_text c_letters c_at c_token c_tokenAt c_value c_facts c_seen c_seenAhead c_weakLink c_weakTwos c_which c_views c_whichMany) (some (.int z0)) (wX8 E adc c_now c_read c_past c_deeds c_images c_isKept c_text c_letters c_at c_token c_tokenAt c_value c_facts c_seen c_seenAhead c_weakLink c_weakTwos c_which c_views c_whichMany) H locs (F0 m 70 ls [])) → WN p l e 2 45 s m args below meth c E (wX8 E adc c_now c_read c_past c_deeds c_images c_isKept c_text c_letters c_at c_token c_tokenAt c_value c_facts c_seen c_seenAhead c_weakLink c_weakTwos c_which c_views c_whichMany) (some (.int z0)) (wX8 E adc c_now c_read c_past c_deeds c_images c_isKept c_text c_letters c_at c_token c_tokenAt c_value c_facts c_seen c_seenAhead c_weakLink c_weakTwos c_which c_views c_whichMany) H locs (F0 m 18 ls []) := by
      intro fu
      induction fu with
      | zero =>
        intro v4_18 v5_19 z H locs ls hN hl h K
        cases (show (none : Option (Int32 × Int32)) = some z from h)
      | succ fu ih =>
        intro v4_18 v5_19 z H locs ls hN hl h K
        rw [fX8_areInOne_L2.eq_2] at h
        refine lv_iload hx hb dX8_areInOne_18 (lv_at hl 5 rfl) ?_
        refine lv_iconst (v := 4) hx hb dX8_areInOne_20 rfl ?_
        refine lv_icmp_ge (tgt := 70) hx hb dX8_areInOne_21 (by decide) (fun c20 => ?_) (fun c20 => ?_)
        · have h := if_t h c20
          obtain rfl := Option.some.inj h
          exact K _ _ _ hN (lv_sub hl [0, 1, 2, 3, 4, 5] rfl)
        · have h := if_f h c20
          refine lv_iload hx hb dX8_areInOne_24 (lv_at hl 4 rfl) ?_
          refine lv_if_ne (tgt := 57) hx hb dX8_areInOne_26 (by decide) (fun c21 => ?_) (fun c21 => ?_)
          · have h := if_f h c21
            refine lv_iconst (v := 1) hx hb dX8_areInOne_57 rfl ?_
            refine lv_goto (tgt := 62) hx hb dX8_areInOne_58 (by decide) ?_
            refine lv_istore (lv' := [(4, .int 1), (0, .ref (adc 0)), (1, .int p1), (2, .int p2), (3, .int p3), (5, .int v5_19)]) hx hb dX8_areInOne_62 hl (by decide) rfl (fun ls hl => ?_)
            obtain ⟨v5_22, ev5_22⟩ : ∃ y : Int32, y = v5_19 + 1 := ⟨_, rfl⟩
            have h := bd_e h v5_22 ev5_22
            refine lv_iinc (v := v5_22) (lv' := [(5, .int v5_22), (4, .int 1), (0, .ref (adc 0)), (1, .int p1), (2, .int p2), (3, .int p3)]) hx hb dX8_areInOne_64 hl (k := 5) rfl (by rw [ev5_22]; rfl) (by decide) rfl (fun ls hl => ?_)
            refine lv_goto (tgt := 18) hx hb dX8_areInOne_67 (by decide) ?_
            exact ih 1 v5_22 z _ _ _ hN (lv_sub hl [2, 3, 4, 5, 1, 0] rfl) h K
          · have h := if_t h c21
            refine lv_aload_n hx hb dX8_areInOne_29 rfl (lv_at hl 0 rfl) ?_
            refine lv_iload_n hx hb dX8_areInOne_30 rfl (lv_at hl 1 rfl) ?_
            refine lv_iload hx hb dX8_areInOne_31 (lv_at hl 5 rfl) ?_
            obtain ⟨r_23, hr_23, h⟩ := bi_e h
            refine n_callVi (ws' := wX8 E adc c_now c_read c_past c_deeds c_images c_isKept c_text c_letters c_at c_token c_tokenAt c_value c_facts c_seen c_seenAhead c_weakLink c_weakTwos c_which c_views c_whichMany) hC hN (tX8_zoneOf l E adc c_now c_read c_past c_deeds c_images c_isKept c_text c_letters c_at c_token c_tokenAt c_value c_facts c_seen c_seenAhead c_weakLink c_weakTwos c_which c_views c_whichMany p1 v5_19 r_23 hr_23) cy_X8_zoneOf mML_X8_125 mIM_X8_zoneOf mSE_X8_zoneOf rfl rfl (k := 0) rfl (perm_self _) (perm_self _) rfl rfl hl.1 rfl (Nat.le_of_ble_eq_true rfl) dX8_areInOne_33 ⟨Nat.le_of_ble_eq_true rfl, Nat.le_of_ble_eq_true rfl⟩ ⟨Nat.le_refl _, Nat.le_refl _⟩ (fun H locs hN => ?_)
            refine lv_iload_n hx hb dX8_areInOne_36 rfl (lv_at hl 2 rfl) ?_
            obtain ⟨r_24, hr_24, h⟩ := bi_e h
            refine n_callSi (ws' := wX8 E adc c_now c_read c_past c_deeds c_images c_isKept c_text c_letters c_at c_token c_tokenAt c_value c_facts c_seen c_seenAhead c_weakLink c_weakTwos c_which c_views c_whichMany) hC hN (tX8_has l E r_23 p2 r_24 hr_24) cy_X8_has mML_X8_102 mST_X8_has (perm_nil _) (perm_nil _) rfl rfl hl.1 rfl (Nat.le_of_ble_eq_true rfl) dX8_areInOne_37 ⟨Nat.le_of_ble_eq_true rfl, Nat.le_of_ble_eq_true rfl⟩ ⟨Nat.le_refl _, Nat.le_refl _⟩ (fun H locs hN => ?_)
            refine lv_if_eq (tgt := 61) hx hb dX8_areInOne_40 (by decide) (fun c25 => ?_) (fun c25 => ?_)
            · have h := if_t h c25
              refine lv_iconst (v := 0) hx hb dX8_areInOne_61 rfl ?_
              refine lv_istore (lv' := [(4, .int 0), (0, .ref (adc 0)), (1, .int p1), (2, .int p2), (3, .int p3), (5, .int v5_19)]) hx hb dX8_areInOne_62 hl (by decide) rfl (fun ls hl => ?_)
              obtain ⟨v5_26, ev5_26⟩ : ∃ y : Int32, y = v5_19 + 1 := ⟨_, rfl⟩
              have h := bd_e h v5_26 ev5_26
              refine lv_iinc (v := v5_26) (lv' := [(5, .int v5_26), (4, .int 0), (0, .ref (adc 0)), (1, .int p1), (2, .int p2), (3, .int p3)]) hx hb dX8_areInOne_64 hl (k := 5) rfl (by rw [ev5_26]; rfl) (by decide) rfl (fun ls hl => ?_)
              refine lv_goto (tgt := 18) hx hb dX8_areInOne_67 (by decide) ?_
              exact ih 0 v5_26 z _ _ _ hN (lv_sub hl [2, 3, 4, 5, 1, 0] rfl) h K
            · have h := if_f h c25
              refine lv_aload_n hx hb dX8_areInOne_43 rfl (lv_at hl 0 rfl) ?_
              refine lv_iload_n hx hb dX8_areInOne_44 rfl (lv_at hl 1 rfl) ?_
              refine lv_iload hx hb dX8_areInOne_45 (lv_at hl 5 rfl) ?_
              obtain ⟨r_27, hr_27, h⟩ := bi_e h
              refine n_callVi (ws' := wX8 E adc c_now c_read c_past c_deeds c_images c_isKept c_text c_letters c_at c_token c_tokenAt c_value c_facts c_seen c_seenAhead c_weakLink c_weakTwos c_which c_views c_whichMany) hC hN (tX8_zoneOf l E adc c_now c_read c_past c_deeds c_images c_isKept c_text c_letters c_at c_token c_tokenAt c_value c_facts c_seen c_seenAhead c_weakLink c_weakTwos c_which c_views c_whichMany p1 v5_19 r_27 hr_27) cy_X8_zoneOf mML_X8_125 mIM_X8_zoneOf mSE_X8_zoneOf rfl rfl (k := 0) rfl (perm_self _) (perm_self _) rfl rfl hl.1 rfl (Nat.le_of_ble_eq_true rfl) dX8_areInOne_47 ⟨Nat.le_of_ble_eq_true rfl, Nat.le_of_ble_eq_true rfl⟩ ⟨Nat.le_refl _, Nat.le_refl _⟩ (fun H locs hN => ?_)
              refine lv_iload_n hx hb dX8_areInOne_50 rfl (lv_at hl 3 rfl) ?_
              obtain ⟨r_28, hr_28, h⟩ := bi_e h
              refine n_callSi (ws' := wX8 E adc c_now c_read c_past c_deeds c_images c_isKept c_text c_letters c_at c_token c_tokenAt c_value c_facts c_seen c_seenAhead c_weakLink c_weakTwos c_which c_views c_whichMany) hC hN (tX8_has l E r_27 p3 r_28 hr_28) cy_X8_has mML_X8_102 mST_X8_has (perm_nil _) (perm_nil _) rfl rfl hl.1 rfl (Nat.le_of_ble_eq_true rfl) dX8_areInOne_51 ⟨Nat.le_of_ble_eq_true rfl, Nat.le_of_ble_eq_true rfl⟩ ⟨Nat.le_refl _, Nat.le_refl _⟩ (fun H locs hN => ?_)
              refine lv_if_eq (tgt := 61) hx hb dX8_areInOne_54 (by decide) (fun c29 => ?_) (fun c29 => ?_)
              · have h := if_t h c29
                refine lv_iconst (v := 0) hx hb dX8_areInOne_61 rfl ?_
                refine lv_istore (lv' := [(4, .int 0), (0, .ref (adc 0)), (1, .int p1), (2, .int p2), (3, .int p3), (5, .int v5_19)]) hx hb dX8_areInOne_62 hl (by decide) rfl (fun ls hl => ?_)
                obtain ⟨v5_30, ev5_30⟩ : ∃ y : Int32, y = v5_19 + 1 := ⟨_, rfl⟩
                have h := bd_e h v5_30 ev5_30
                refine lv_iinc (v := v5_30) (lv' := [(5, .int v5_30), (4, .int 0), (0, .ref (adc 0)), (1, .int p1), (2, .int p2), (3, .int p3)]) hx hb dX8_areInOne_64 hl (k := 5) rfl (by rw [ev5_30]; rfl) (by decide) rfl (fun ls hl => ?_)
                refine lv_goto (tgt := 18) hx hb dX8_areInOne_67 (by decide) ?_
                exact ih 0 v5_30 z _ _ _ hN (lv_sub hl [2, 3, 4, 5, 1, 0] rfl) h K
              · have h := if_f h c29
                refine lv_iconst (v := 1) hx hb dX8_areInOne_57 rfl ?_
                refine lv_goto (tgt := 62) hx hb dX8_areInOne_58 (by decide) ?_
                refine lv_istore (lv' := [(4, .int 1), (0, .ref (adc 0)), (1, .int p1), (2, .int p2), (3, .int p3), (5, .int v5_19)]) hx hb dX8_areInOne_62 hl (by decide) rfl (fun ls hl => ?_)
                obtain ⟨v5_31, ev5_31⟩ : ∃ y : Int32, y = v5_19 + 1 := ⟨_, rfl⟩
                have h := bd_e h v5_31 ev5_31
                refine lv_iinc (v := v5_31) (lv' := [(5, .int v5_31), (4, .int 1), (0, .ref (adc 0)), (1, .int p1), (2, .int p2), (3, .int p3)]) hx hb dX8_areInOne_64 hl (k := 5) rfl (by rw [ev5_31]; rfl) (by decide) rfl (fun ls hl => ?_)
                refine lv_goto (tgt := 18) hx hb dX8_areInOne_67 (by decide) ?_
                exact ih 1 v5_31 z _ _ _ hN (lv_sub hl [2, 3, 4, 5, 1, 0] rfl) h K
    obtain ⟨z_32, hz_32, h⟩ := bi_e h
    refine L2 500 1 0 z_32 _ _ _ hN (lv_sub hl [2, 3, 4, 5, 1, 0] rfl) hz_32 (fun H locs ls hN hl => ?_)
    refine lv_iload hx hb dX8_areInOne_70 (lv_at hl 4 rfl) ?_
    have gB := gd_c h
    have h := gd_e h
    obtain rfl := Option.some.inj h
    exact n_zret hC hN gB dX8_areInOne_72
set_option maxHeartbeats 4000000 in
set_option maxRecDepth 100000 in
theorem tX8_doesSee (l : Launch) (E : EV) (adc : Nat → Nat) (c_now : Nat → Int32) (c_read : Nat → Int32) (c_past : Nat → Int32) (c_deeds : Int32) (c_images : Nat → Int32) (c_isKept : Nat → Int32) (c_text : Nat → Int32) (c_letters : Int32) (c_at : Int32) (c_token : Int32) (c_tokenAt : Int32) (c_value : Int32) (c_facts : Nat → Int32) (c_seen : Int32) (c_seenAhead : Nat → Int32) (c_weakLink : Int32) (c_weakTwos : Int32) (c_which : Nat → Int32) (c_views : Nat → Int32) (c_whichMany : Int32) (p1 : Int32) (p2 : Int32) (z : Int32) (h : fX8_doesSee c_now p1 p2 = some z) : Cn l E yX8_doesSee cX8_doesSee 5 (some .boolean) 3 70 [.ref (adc 0), .int p1, .int p2] (wX8 E adc c_now c_read c_past c_deeds c_images c_isKept c_text c_letters c_at c_token c_tokenAt c_value c_facts c_seen c_seenAhead c_weakLink c_weakTwos c_which c_views c_whichMany) (wX8 E adc c_now c_read c_past c_deeds c_images c_isKept c_text c_letters c_at c_token c_tokenAt c_value c_facts c_seen c_seenAhead c_weakLink c_weakTwos c_which c_views c_whichMany) (some (.int z)) := by
  refine Cn.ofW (by decide +kernel) (Nat.le_of_ble_eq_true rfl) ?_
  intro p e s m args below meth c ls hC hN hl
  have hl : lv_has ls 5 [(0, .ref (adc 0)), (1, .int p1), (2, .int p2)] := hl
  have hx := hC.1
  have hb := hC.2.1
  unfold fX8_doesSee at h
  refine lv_aload_n hx hb dX8_doesSee_0 rfl (lv_at hl 0 rfl) ?_
  refine gt_X8_now hC hN 0 rfl rfl dX8_doesSee_1 ?_
  refine lv_bipush (v := 27) hx hb dX8_doesSee_4 (by decide) ?_
  refine lv_iload_n hx hb dX8_doesSee_6 rfl (lv_at hl 1 rfl) ?_
  refine lv_iadd hx hb dX8_doesSee_7 ?_
  have g := inB_vp (gd_c h)
  have h := gd_e h
  refine n_iald hC hN 1 rfl g dX8_doesSee_8 ?_
  refine lv_topi (fun v3_1 ev3_1 => ?_)
  have h := bd_e h v3_1 ev3_1
  refine lv_istore_n (lv' := [(3, .int v3_1), (0, .ref (adc 0)), (1, .int p1), (2, .int p2)]) hx hb dX8_doesSee_9 rfl hl (by decide) rfl (fun ls hl => ?_)
  refine lv_aload_n hx hb dX8_doesSee_10 rfl (lv_at hl 1 rfl) ?_
  refine gt_X8_now hC hN 0 rfl rfl dX8_doesSee_11 ?_
  refine lv_bipush (v := 27) hx hb dX8_doesSee_14 (by decide) ?_
  refine lv_iload_n hx hb dX8_doesSee_16 rfl (lv_at hl 3 rfl) ?_
  refine lv_iadd hx hb dX8_doesSee_17 ?_
  have g := inB_vp (gd_c h)
  have h := gd_e h
  refine n_iald hC hN 1 rfl g dX8_doesSee_18 ?_
  refine lv_topi (fun v4_2 ev4_2 => ?_)
  have h := bd_e h v4_2 ev4_2
  refine lv_istore (lv' := [(4, .int v4_2), (3, .int v3_1), (0, .ref (adc 0)), (1, .int p1), (2, .int p2)]) hx hb dX8_doesSee_19 hl (by decide) rfl (fun ls hl => ?_)
  refine lv_iload_n hx hb dX8_doesSee_21 rfl (lv_at hl 3 rfl) ?_
  refine lv_iload_n hx hb dX8_doesSee_22 rfl (lv_at hl 4 rfl) ?_
  refine lv_icmp_eq (tgt := 66) hx hb dX8_doesSee_23 (by decide) (fun c3 => ?_) (fun c3 => ?_)
  · have h := if_t h c3
    refine lv_iconst (v := 0) hx hb dX8_doesSee_66 rfl ?_
    obtain rfl := Option.some.inj h
    exact n_zret hC hN (Or.inl rfl) dX8_doesSee_67
  · have h := if_f h c3
    refine lv_iload_n hx hb dX8_doesSee_26 rfl (lv_at hl 1 rfl) ?_
    refine lv_bipush (v := -9) hx hb dX8_doesSee_27 (by decide) ?_
    refine lv_icmp_eq (tgt := 66) hx hb dX8_doesSee_29 (by decide) (fun c4 => ?_) (fun c4 => ?_)
    · have h := if_t h c4
      refine lv_iconst (v := 0) hx hb dX8_doesSee_66 rfl ?_
      obtain rfl := Option.some.inj h
      exact n_zret hC hN (Or.inl rfl) dX8_doesSee_67
    · have h := if_f h c4
      refine lv_iload hx hb dX8_doesSee_32 (lv_at hl 0 rfl) ?_
      refine lv_bipush (v := -9) hx hb dX8_doesSee_34 (by decide) ?_
      refine lv_icmp_eq (tgt := 66) hx hb dX8_doesSee_36 (by decide) (fun c5 => ?_) (fun c5 => ?_)
      · have h := if_t h c5
        refine lv_iconst (v := 0) hx hb dX8_doesSee_66 rfl ?_
        obtain rfl := Option.some.inj h
        exact n_zret hC hN (Or.inl rfl) dX8_doesSee_67
      · have h := if_f h c5
        refine lv_aload_n hx hb dX8_doesSee_39 rfl (lv_at hl 2 rfl) ?_
        refine lv_iload_n hx hb dX8_doesSee_40 rfl (lv_at hl 1 rfl) ?_
        obtain ⟨r_6, hr_6, h⟩ := bi_e h
        refine n_callVi (ws' := wX8 E adc c_now c_read c_past c_deeds c_images c_isKept c_text c_letters c_at c_token c_tokenAt c_value c_facts c_seen c_seenAhead c_weakLink c_weakTwos c_which c_views c_whichMany) hC hN (tX8_fabricOf l E adc c_now c_read c_past c_deeds c_images c_isKept c_text c_letters c_at c_token c_tokenAt c_value c_facts c_seen c_seenAhead c_weakLink c_weakTwos c_which c_views c_whichMany v3_1 r_6 hr_6) cy_X8_fabricOf mML_X8_109 mIM_X8_fabricOf mSE_X8_fabricOf rfl rfl (k := 0) rfl (perm_self _) (perm_self _) rfl rfl hl.1 rfl (Nat.le_of_ble_eq_true rfl) dX8_doesSee_41 ⟨Nat.le_of_ble_eq_true rfl, Nat.le_of_ble_eq_true rfl⟩ ⟨Nat.le_refl _, Nat.le_refl _⟩ (fun H locs hN => ?_)
        refine lv_iload hx hb dX8_doesSee_44 (lv_at hl 0 rfl) ?_
        obtain ⟨r_7, hr_7, h⟩ := bi_e h
        refine n_callSi (ws' := wX8 E adc c_now c_read c_past c_deeds c_images c_isKept c_text c_letters c_at c_token c_tokenAt c_value c_facts c_seen c_seenAhead c_weakLink c_weakTwos c_which c_views c_whichMany) hC hN (tX8_has l E r_6 v4_2 r_7 hr_7) cy_X8_has mML_X8_102 mST_X8_has (perm_nil _) (perm_nil _) rfl rfl hl.1 rfl (Nat.le_of_ble_eq_true rfl) dX8_doesSee_46 ⟨Nat.le_of_ble_eq_true rfl, Nat.le_of_ble_eq_true rfl⟩ ⟨Nat.le_refl _, Nat.le_refl _⟩ (fun H locs hN => ?_)
        refine lv_if_eq (tgt := 66) hx hb dX8_doesSee_49 (by decide) (fun c8 => ?_) (fun c8 => ?_)
        · have h := if_t h c8
          refine lv_iconst (v := 0) hx hb dX8_doesSee_66 rfl ?_
          obtain rfl := Option.some.inj h
          exact n_zret hC hN (Or.inl rfl) dX8_doesSee_67
        · have h := if_f h c8
          refine lv_aload_n hx hb dX8_doesSee_52 rfl (lv_at hl 2 rfl) ?_
          refine lv_iload_n hx hb dX8_doesSee_53 rfl (lv_at hl 1 rfl) ?_
          refine lv_iload_n hx hb dX8_doesSee_54 rfl (lv_at hl 3 rfl) ?_
          refine lv_iload_n hx hb dX8_doesSee_55 rfl (lv_at hl 4 rfl) ?_
          obtain ⟨r_9, hr_9, h⟩ := bi_e h
          refine n_callVi (ws' := wX8 E adc c_now c_read c_past c_deeds c_images c_isKept c_text c_letters c_at c_token c_tokenAt c_value c_facts c_seen c_seenAhead c_weakLink c_weakTwos c_which c_views c_whichMany) hC hN (tX8_areInOne l E adc c_now c_read c_past c_deeds c_images c_isKept c_text c_letters c_at c_token c_tokenAt c_value c_facts c_seen c_seenAhead c_weakLink c_weakTwos c_which c_views c_whichMany v3_1 p1 p2 r_9 hr_9) cy_X8_areInOne mML_X8_134 mIM_X8_areInOne mSE_X8_areInOne rfl rfl (k := 0) rfl (perm_self _) (perm_self _) rfl rfl hl.1 rfl (Nat.le_of_ble_eq_true rfl) dX8_doesSee_56 ⟨Nat.le_of_ble_eq_true rfl, Nat.le_of_ble_eq_true rfl⟩ ⟨Nat.le_refl _, Nat.le_refl _⟩ (fun H locs hN => ?_)
          refine lv_if_eq (tgt := 66) hx hb dX8_doesSee_59 (by decide) (fun c10 => ?_) (fun c10 => ?_)
          · have h := if_t h c10
            refine lv_iconst (v := 0) hx hb dX8_doesSee_66 rfl ?_
            obtain rfl := Option.some.inj h
            exact n_zret hC hN (Or.inl rfl) dX8_doesSee_67
          · have h := if_f h c10
            refine lv_iconst (v := 1) hx hb dX8_doesSee_62 rfl ?_
            refine lv_goto (tgt := 67) hx hb dX8_doesSee_63 (by decide) ?_
            obtain rfl := Option.some.inj h
            exact n_zret hC hN (Or.inr rfl) dX8_doesSee_67
