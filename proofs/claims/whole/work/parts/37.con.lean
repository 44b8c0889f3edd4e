set_option maxHeartbeats 4000000 in
set_option maxRecDepth 100000 in
theorem tX8_seesOf (l : Launch) (E : EV) (adc : Nat → Nat) (c_now : Nat → Int32) (c_read : Nat → Int32) (c_past : Nat → Int32) (c_deeds : Int32) (c_images : Nat → Int32) (c_isKept : Nat → Int32) (c_text : Nat → Int32) (c_letters : Int32) (c_at : Int32) (c_token : Int32) (c_tokenAt : Int32) (c_value : Int32) (c_facts : Nat → Int32) (c_seen : Int32) (c_seenAhead : Nat → Int32) (c_weakLink : Int32) (c_weakTwos : Int32) (c_which : Nat → Int32) (c_views : Nat → Int32) (c_whichMany : Int32) (p1 : Int32) (z : Int32) (h : fX8_seesOf c_now p1 = some z) : Cn l E yX8_seesOf cX8_seesOf 4 (some .int) 4 94 [.ref (adc 0), .int p1] (wX8 E adc c_now c_read c_past c_deeds c_images c_isKept c_text c_letters c_at c_token c_tokenAt c_value c_facts c_seen c_seenAhead c_weakLink c_weakTwos c_which c_views c_whichMany) (wX8 E adc c_now c_read c_past c_deeds c_images c_isKept c_text c_letters c_at c_token c_tokenAt c_value c_facts c_seen c_seenAhead c_weakLink c_weakTwos c_which c_views c_whichMany) (some (.int z)) := by
  refine Cn.ofW (by decide +kernel) (Nat.le_of_ble_eq_true rfl) ?_
  intro p e s m args below meth c ls hC hN hl
  obtain ⟨z0, hz0⟩ : ∃ y, y = z := ⟨_, rfl⟩
  rw [← hz0] at h ⊢
  clear hz0
  have hl : lv_has ls 4 [(0, .ref (adc 0)), (1, .int p1)] := hl
  have hx := hC.1
  have hb := hC.2.1
  unfold fX8_seesOf at h
  refine lv_iconst (v := 0) hx hb dX8_seesOf_0 rfl ?_
  refine lv_istore_n (lv' := [(2, .int 0), (0, .ref (adc 0)), (1, .int p1)]) hx hb dX8_seesOf_1 rfl hl (by decide) rfl (fun ls hl => ?_)
  refine lv_iconst (v := 0) hx hb dX8_seesOf_2 rfl ?_
  refine lv_istore_n (lv' := [(3, .int 0), (2, .int 0), (0, .ref (adc 0)), (1, .int p1)]) hx hb dX8_seesOf_3 rfl hl (by decide) rfl (fun ls hl => ?_)
  have L1 : ∀ (fu : Nat) (v2_1 : Int32) (v3_2 : Int32) (z : Int32 × Int32) (H : Heap) (locs : List Loc) (ls : Array Slot), Nw E s (AD (wX8 E adc c_now c_read c_past c_deeds c_images c_isKept c_text c_letters c_at c_token c_tokenAt c_value c_facts c_seen c_seenAhead c_weakLink c_weakTwos c_which c_views c_whichMany)) (wX8 E adc c_now c_read c_past c_deeds c_images c_isKept c_text c_letters c_at c_token c_tokenAt c_value c_facts c_seen c_seenAhead c_weakLink c_weakTwos c_which c_views c_whichMany) H locs → lv_has ls 4 [(0, .ref (adc 0)), (1, .int p1), (2, .int v2_1), (3, .int v3_2)] → fX8_seesOf_L1 c_now p1 fu v2_1 v3_2 = some z → (∀ (H : Heap) (locs : List Loc) (ls : Array Slot), Nw E s (AD (wX8 E adc c_now c_read c_past c_deeds c_images c_isKept c_text c_letters c_at c_token c_tokenAt c_value c_facts c_seen c_seenAhead c_weakLink c_weakTwos c_which c_views c_whichMany)) (wX8 E adc c_now c_read c_past c_deeds c_images c_isKept c_text c_letters c_at c_token c_tokenAt c_value c_facts c_seen c_seenAhead c_weakLink c_weakTwos c_which c_views c_whichMany) H locs → lv_has ls 4 [(0, .ref (adc 0)), (1, .int p1), (2, .int z.1), (3, .int z.2)] → WN p l e 4 94 s m args below meth c E (wX8 E adc c_now c_read c_past c_deeds c_images c_isKept c_text c_letters c_at c_token c_tokenAt c_value c_facts c_seen c_seenAhead c_weakLink c_weakTwos c_which c_views c_whichMany) (some (.int z0)) (wX8 E adc c_now c_read c_past c_deeds c_images c_isKept c_text c_letters c_at c_token c_tokenAt c_value c_facts c_seen c_seenAhead c_weakLink c_weakTwos c_which c_views c_whichMany) H locs (F0 m 39 ls [])) → WN p l e 4 94 s m args below meth c E (wX8 E adc c_now c_read c_past c_deeds c_images c_isKept c_text c_letters c_at c_token c_tokenAt c_value c_facts c_seen c_seenAhead c_weakLink c_weakTwos c_which c_views c_whichMany) (some (.int z0)) (wX8 E adc c_now c_read c_past c_deeds c_images c_isKept c_text c_letters c_at c_token c_tokenAt c_value c_facts c_seen c_seenAhead c_weakLink c_weakTwos c_which c_views c_whichMany) H locs (F0 m 4 ls []) := by
    intro fu
    induction fu with
    | zero =>
      intro v2_1 v3_2 z H locs ls hN hl h K
      cases (show (none : Option (Int32 × Int32)) = some z from h)
    | succ fu ih =>
      intro v2_1 v3_2 z H locs ls hN hl h K
      rw [fX8_seesOf_L1.eq_2] at h
      refine lv_iload_n hx hb dX8_seesOf_4 rfl (lv_at hl 3 rfl) ?_
      refine lv_aload_n hx hb dX8_seesOf_5 rfl (lv_at hl 0 rfl) ?_
      refine gt_X8_now hC hN 0 rfl rfl dX8_seesOf_6 ?_
      refine lv_iconst (v := 1) hx hb dX8_seesOf_9 rfl ?_
      have g := inB_vp (gd_c h)
      have h := gd_e h
      refine n_iald hC hN 1 rfl g dX8_seesOf_10 ?_
      refine lv_icmp_ge (tgt := 39) hx hb dX8_seesOf_11 (by decide) (fun c3 => ?_) (fun c3 => ?_)
      · have h := if_t h c3
        obtain rfl := Option.some.inj h
        exact K _ _ _ hN (lv_sub hl [0, 1, 2, 3] rfl)
      · have h := if_f h c3
        refine lv_iload_n hx hb dX8_seesOf_14 rfl (lv_at hl 2 rfl) ?_
        refine lv_aload_n hx hb dX8_seesOf_15 rfl (lv_at hl 0 rfl) ?_
        refine lv_iload_n hx hb dX8_seesOf_16 rfl (lv_at hl 1 rfl) ?_
        refine lv_iload_n hx hb dX8_seesOf_17 rfl (lv_at hl 3 rfl) ?_
        obtain ⟨r_4, hr_4, h⟩ := bi_e h
        refine n_callVi (ws' := wX8 E adc c_now c_read c_past c_deeds c_images c_isKept c_text c_letters c_at c_token c_tokenAt c_value c_facts c_seen c_seenAhead c_weakLink c_weakTwos c_which c_views c_whichMany) hC hN (tX8_doesSee l E adc c_now c_read c_past c_deeds c_images c_isKept c_text c_letters c_at c_token c_tokenAt c_value c_facts c_seen c_seenAhead c_weakLink c_weakTwos c_which c_views c_whichMany p1 v3_2 r_4 hr_4) cy_X8_doesSee mML_X8_137 mIM_X8_doesSee mSE_X8_doesSee rfl rfl (k := 0) rfl (perm_self _) (perm_self _) rfl rfl hl.1 rfl (Nat.le_of_ble_eq_true rfl) dX8_seesOf_18 ⟨Nat.le_of_ble_eq_true rfl, Nat.le_of_ble_eq_true rfl⟩ ⟨Nat.le_refl _, Nat.le_refl _⟩ (fun H locs hN => ?_)
        refine lv_if_eq (tgt := 30) hx hb dX8_seesOf_21 (by decide) (fun c5 => ?_) (fun c5 => ?_)
        · have h := if_t h c5
          refine lv_iconst (v := 0) hx hb dX8_seesOf_30 rfl ?_
          refine lv_ior hx hb dX8_seesOf_31 ?_
          refine lv_topi (fun v2_6 ev2_6 => ?_)
          have h := bd_e h v2_6 ev2_6
          refine lv_istore_n (lv' := [(2, .int v2_6), (0, .ref (adc 0)), (1, .int p1), (3, .int v3_2)]) hx hb dX8_seesOf_32 rfl hl (by decide) rfl (fun ls hl => ?_)
          obtain ⟨v3_7, ev3_7⟩ : ∃ y : Int32, y = v3_2 + 1 := ⟨_, rfl⟩
          have h := bd_e h v3_7 ev3_7
          refine lv_iinc (v := v3_7) (lv' := [(3, .int v3_7), (2, .int v2_6), (0, .ref (adc 0)), (1, .int p1)]) hx hb dX8_seesOf_33 hl (k := 3) rfl (by rw [ev3_7]; rfl) (by decide) rfl (fun ls hl => ?_)
          refine lv_goto (tgt := 4) hx hb dX8_seesOf_36 (by decide) ?_
          exact ih v2_6 v3_7 z _ _ _ hN (lv_sub hl [2, 3, 1, 0] rfl) h K
        · have h := if_f h c5
          refine lv_iconst (v := 1) hx hb dX8_seesOf_24 rfl ?_
          refine lv_iload_n hx hb dX8_seesOf_25 rfl (lv_at hl 3 rfl) ?_
          refine lv_ishl hx hb dX8_seesOf_26 ?_
          refine lv_goto (tgt := 31) hx hb dX8_seesOf_27 (by decide) ?_
          refine lv_ior hx hb dX8_seesOf_31 ?_
          refine lv_topi (fun v2_8 ev2_8 => ?_)
          have h := bd_e h v2_8 ev2_8
          refine lv_istore_n (lv' := [(2, .int v2_8), (0, .ref (adc 0)), (1, .int p1), (3, .int v3_2)]) hx hb dX8_seesOf_32 rfl hl (by decide) rfl (fun ls hl => ?_)
          obtain ⟨v3_9, ev3_9⟩ : ∃ y : Int32, y = v3_2 + 1 := ⟨_, rfl⟩
          have h := bd_e h v3_9 ev3_9
          refine lv_iinc (v := v3_9) (lv' := [(3, .int v3_9), (2, .int v2_8), (0, .ref (adc 0)), (1, .int p1)]) hx hb dX8_seesOf_33 hl (k := 3) rfl (by rw [ev3_9]; rfl) (by decide) rfl (fun ls hl => ?_)
          refine lv_goto (tgt := 4) hx hb dX8_seesOf_36 (by decide) ?_
          exact ih v2_8 v3_9 z _ _ _ hN (lv_sub hl [2, 3, 1, 0] rfl) h K
  obtain ⟨z_10, hz_10, h⟩ := bi_e h
  refine L1 500 0 0 z_10 _ _ _ hN (lv_sub hl [2, 3, 1, 0] rfl) hz_10 (fun H locs ls hN hl => ?_)
  refine lv_iload_n hx hb dX8_seesOf_39 rfl (lv_at hl 2 rfl) ?_
  obtain rfl := Option.some.inj h
  exact n_iret hC hN dX8_seesOf_40
set_option maxHeartbeats 4000000 in
set_option maxRecDepth 100000 in
theorem tX8_twos (l : Launch) (E : EV) (adc : Nat → Nat) (c_now : Nat → Int32) (c_read : Nat → Int32) (c_past : Nat → Int32) (c_deeds : Int32) (c_images : Nat → Int32) (c_isKept : Nat → Int32) (c_text : Nat → Int32) (c_letters : Int32) (c_at : Int32) (c_token : Int32) (c_tokenAt : Int32) (c_value : Int32) (c_facts : Nat → Int32) (c_seen : Int32) (c_seenAhead : Nat → Int32) (c_weakLink : Int32) (c_weakTwos : Int32) (c_which : Nat → Int32) (c_views : Nat → Int32) (c_whichMany : Int32) (z : Int32) (h : fX8_twos c_now = some z) : Cn l E yX8_twos cX8_twos 3 (some .int) 5 117 [.ref (adc 0)] (wX8 E adc c_now c_read c_past c_deeds c_images c_isKept c_text c_letters c_at c_token c_tokenAt c_value c_facts c_seen c_seenAhead c_weakLink c_weakTwos c_which c_views c_whichMany) (wX8 E adc c_now c_read c_past c_deeds c_images c_isKept c_text c_letters c_at c_token c_tokenAt c_value c_facts c_seen c_seenAhead c_weakLink c_weakTwos c_which c_views c_whichMany) (some (.int z)) := by
  refine Cn.ofW (by decide +kernel) (Nat.le_of_ble_eq_true rfl) ?_
  intro p e s m args below meth c ls hC hN hl
  obtain ⟨z0, hz0⟩ : ∃ y, y = z := ⟨_, rfl⟩
  rw [← hz0] at h ⊢
  clear hz0
  have hl : lv_has ls 3 [(0, .ref (adc 0))] := hl
  have hx := hC.1
  have hb := hC.2.1
  unfold fX8_twos at h
  refine lv_iconst (v := 0) hx hb dX8_twos_0 rfl ?_
  refine lv_istore_n (lv' := [(1, .int 0), (0, .ref (adc 0))]) hx hb dX8_twos_1 rfl hl (by decide) rfl (fun ls hl => ?_)
  refine lv_iconst (v := 0) hx hb dX8_twos_2 rfl ?_
  refine lv_istore_n (lv' := [(2, .int 0), (1, .int 0), (0, .ref (adc 0))]) hx hb dX8_twos_3 rfl hl (by decide) rfl (fun ls hl => ?_)
  have L1 : ∀ (fu : Nat) (v1_1 : Int32) (v2_2 : Int32) (z : Int32 × Int32) (H : Heap) (locs : List Loc) (ls : Array Slot), Nw E s (AD (wX8 E adc c_now c_read c_past c_deeds c_images c_isKept c_text c_letters c_at c_token c_tokenAt c_value c_facts c_seen c_seenAhead c_weakLink c_weakTwos c_which c_views c_whichMany)) (wX8 E adc c_now c_read c_past c_deeds c_images c_isKept c_text c_letters c_at c_token c_tokenAt c_value c_facts c_seen c_seenAhead c_weakLink c_weakTwos c_which c_views c_whichMany) H locs → lv_has ls 3 [(0, .ref (adc 0)), (1, .int v1_1), (2, .int v2_2)] → fX8_twos_L1 c_now fu v1_1 v2_2 = some z → (∀ (H : Heap) (locs : List Loc) (ls : Array Slot), Nw E s (AD (wX8 E adc c_now c_read c_past c_deeds c_images c_isKept c_text c_letters c_at c_token c_tokenAt c_value c_facts c_seen c_seenAhead c_weakLink c_weakTwos c_which c_views c_whichMany)) (wX8 E adc c_now c_read c_past c_deeds c_images c_isKept c_text c_letters c_at c_token c_tokenAt c_value c_facts c_seen c_seenAhead c_weakLink c_weakTwos c_which c_views c_whichMany) H locs → lv_has ls 3 [(0, .ref (adc 0)), (1, .int z.1), (2, .int z.2)] → WN p l e 5 117 s m args below meth c E (wX8 E adc c_now c_read c_past c_deeds c_images c_isKept c_text c_letters c_at c_token c_tokenAt c_value c_facts c_seen c_seenAhead c_weakLink c_weakTwos c_which c_views c_whichMany) (some (.int z0)) (wX8 E adc c_now c_read c_past c_deeds c_images c_isKept c_text c_letters c_at c_token c_tokenAt c_value c_facts c_seen c_seenAhead c_weakLink c_weakTwos c_which c_views c_whichMany) H locs (F0 m 31 ls [])) → WN p l e 5 117 s m args below meth c E (wX8 E adc c_now c_read c_past c_deeds c_images c_isKept c_text c_letters c_at c_token c_tokenAt c_value c_facts c_seen c_seenAhead c_weakLink c_weakTwos c_which c_views c_whichMany) (some (.int z0)) (wX8 E adc c_now c_read c_past c_deeds c_images c_isKept c_text c_letters c_at c_token c_tokenAt c_value c_facts c_seen c_seenAhead c_weakLink c_weakTwos c_which c_views c_whichMany) H locs (F0 m 4 ls []) := by
    intro fu
    induction fu with
    | zero =>
      intro v1_1 v2_2 z H locs ls hN hl h K
      cases (show (none : Option (Int32 × Int32)) = some z from h)
    | succ fu ih =>
      intro v1_1 v2_2 z H locs ls hN hl h K
      rw [fX8_twos_L1.eq_2] at h
      refine lv_iload_n hx hb dX8_twos_4 rfl (lv_at hl 2 rfl) ?_
      refine lv_aload_n hx hb dX8_twos_5 rfl (lv_at hl 0 rfl) ?_
      refine gt_X8_now hC hN 0 rfl rfl dX8_twos_6 ?_
      refine lv_iconst (v := 1) hx hb dX8_twos_9 rfl ?_
      have g := inB_vp (gd_c h)
      have h := gd_e h
      refine n_iald hC hN 1 rfl g dX8_twos_10 ?_
      refine lv_icmp_ge (tgt := 31) hx hb dX8_twos_11 (by decide) (fun c3 => ?_) (fun c3 => ?_)
      · have h := if_t h c3
        obtain rfl := Option.some.inj h
        exact K _ _ _ hN (lv_sub hl [0, 1, 2] rfl)
      · have h := if_f h c3
        refine lv_iload_n hx hb dX8_twos_14 rfl (lv_at hl 1 rfl) ?_
        refine lv_aload_n hx hb dX8_twos_15 rfl (lv_at hl 0 rfl) ?_
        refine lv_iload_n hx hb dX8_twos_16 rfl (lv_at hl 2 rfl) ?_
        obtain ⟨r_4, hr_4, h⟩ := bi_e h
        refine n_callVi (ws' := wX8 E adc c_now c_read c_past c_deeds c_images c_isKept c_text c_letters c_at c_token c_tokenAt c_value c_facts c_seen c_seenAhead c_weakLink c_weakTwos c_which c_views c_whichMany) hC hN (tX8_seesOf l E adc c_now c_read c_past c_deeds c_images c_isKept c_text c_letters c_at c_token c_tokenAt c_value c_facts c_seen c_seenAhead c_weakLink c_weakTwos c_which c_views c_whichMany v2_2 r_4 hr_4) cy_X8_seesOf mML_X8_140 mIM_X8_seesOf mSE_X8_seesOf rfl rfl (k := 0) rfl (perm_self _) (perm_self _) rfl rfl hl.1 rfl (Nat.le_of_ble_eq_true rfl) dX8_twos_17 ⟨Nat.le_of_ble_eq_true rfl, Nat.le_of_ble_eq_true rfl⟩ ⟨Nat.le_refl _, Nat.le_refl _⟩ (fun H locs hN => ?_)
        obtain ⟨r_5, hr_5, h⟩ := bi_e h
        refine n_callSi (ws' := wX8 E adc c_now c_read c_past c_deeds c_images c_isKept c_text c_letters c_at c_token c_tokenAt c_value c_facts c_seen c_seenAhead c_weakLink c_weakTwos c_which c_views c_whichMany) hC hN (tX8_ones l E r_4 r_5 hr_5) cy_X8_ones mML_X8_143 mST_X8_ones (perm_nil _) (perm_nil _) rfl rfl hl.1 rfl (Nat.le_of_ble_eq_true rfl) dX8_twos_20 ⟨Nat.le_of_ble_eq_true rfl, Nat.le_of_ble_eq_true rfl⟩ ⟨Nat.le_refl _, Nat.le_refl _⟩ (fun H locs hN => ?_)
        refine lv_iadd hx hb dX8_twos_23 ?_
        refine lv_topi (fun v1_6 ev1_6 => ?_)
        have h := bd_e h v1_6 ev1_6
        refine lv_istore_n (lv' := [(1, .int v1_6), (0, .ref (adc 0)), (2, .int v2_2)]) hx hb dX8_twos_24 rfl hl (by decide) rfl (fun ls hl => ?_)
        obtain ⟨v2_7, ev2_7⟩ : ∃ y : Int32, y = v2_2 + 1 := ⟨_, rfl⟩
        have h := bd_e h v2_7 ev2_7
        refine lv_iinc (v := v2_7) (lv' := [(2, .int v2_7), (1, .int v1_6), (0, .ref (adc 0))]) hx hb dX8_twos_25 hl (k := 2) rfl (by rw [ev2_7]; rfl) (by decide) rfl (fun ls hl => ?_)
        refine lv_goto (tgt := 4) hx hb dX8_twos_28 (by decide) ?_
        exact ih v1_6 v2_7 z _ _ _ hN (lv_sub hl [2, 1, 0] rfl) h K
  obtain ⟨z_8, hz_8, h⟩ := bi_e h
  refine L1 500 0 0 z_8 _ _ _ hN (lv_sub hl [2, 1, 0] rfl) hz_8 (fun H locs ls hN hl => ?_)
  refine lv_iload_n hx hb dX8_twos_31 rfl (lv_at hl 1 rfl) ?_
  refine lv_iconst (v := 2) hx hb dX8_twos_32 rfl ?_
  refine lv_idiv hx hb dX8_twos_33 (by decide) ?_
  obtain rfl := Option.some.inj h
  exact n_iret hC hN dX8_twos_34
set_option maxHeartbeats 4000000 in
set_option maxRecDepth 100000 in
theorem tX8_looks (l : Launch) (E : EV) (adc : Nat → Nat) (c_now : Nat → Int32) (c_read : Nat → Int32) (c_past : Nat → Int32) (c_deeds : Int32) (c_images : Nat → Int32) (c_isKept : Nat → Int32) (c_text : Nat → Int32) (c_letters : Int32) (c_at : Int32) (c_token : Int32) (c_tokenAt : Int32) (c_value : Int32) (c_facts : Nat → Int32) (c_seen : Int32) (c_seenAhead : Nat → Int32) (c_weakLink : Int32) (c_weakTwos : Int32) (c_which : Nat → Int32) (c_views : Nat → Int32) (c_whichMany : Int32) (z : Nat → Int32) (h : fX8_looks c_now c_seenAhead = some z) : Cn l E yX8_looks cX8_looks 2 none 5 117 [.ref (adc 0)] (wX8 E adc c_now c_read c_past c_deeds c_images c_isKept c_text c_letters c_at c_token c_tokenAt c_value c_facts c_seen c_seenAhead c_weakLink c_weakTwos c_which c_views c_whichMany) (wX8 E adc c_now c_read c_past c_deeds c_images c_isKept c_text c_letters c_at c_token c_tokenAt c_value c_facts c_seen z c_weakLink c_weakTwos c_which c_views c_whichMany) (none) := by
  refine Cn.ofW (by decide +kernel) (Nat.le_of_ble_eq_true rfl) ?_
  intro p e s m args below meth c ls hC hN hl
  obtain ⟨z0, hz0⟩ : ∃ y, y = z := ⟨_, rfl⟩
  rw [← hz0] at h ⊢
  clear hz0
  have hl : lv_has ls 2 [(0, .ref (adc 0))] := hl
  have hx := hC.1
  have hb := hC.2.1
  unfold fX8_looks at h
  refine lv_iconst (v := 0) hx hb dX8_looks_0 rfl ?_
  refine lv_istore_n (lv' := [(1, .int 0), (0, .ref (adc 0))]) hx hb dX8_looks_1 rfl hl (by decide) rfl (fun ls hl => ?_)
  have L1 : ∀ (fu : Nat) (v1_1 : Int32) (c_seenAhead_2 : Nat → Int32) (z : Int32 × (Nat → Int32)) (H : Heap) (locs : List Loc) (ls : Array Slot), Nw E s (AD (wX8 E adc c_now c_read c_past c_deeds c_images c_isKept c_text c_letters c_at c_token c_tokenAt c_value c_facts c_seen c_seenAhead c_weakLink c_weakTwos c_which c_views c_whichMany)) (wX8 E adc c_now c_read c_past c_deeds c_images c_isKept c_text c_letters c_at c_token c_tokenAt c_value c_facts c_seen c_seenAhead_2 c_weakLink c_weakTwos c_which c_views c_whichMany) H locs → lv_has ls 2 [(0, .ref (adc 0)), (1, .int v1_1)] → fX8_looks_L1 c_now fu v1_1 c_seenAhead_2 = some z → (∀ (H : Heap) (locs : List Loc) (ls : Array Slot), Nw E s (AD (wX8 E adc c_now c_read c_past c_deeds c_images c_isKept c_text c_letters c_at c_token c_tokenAt c_value c_facts c_seen c_seenAhead c_weakLink c_weakTwos c_which c_views c_whichMany)) (wX8 E adc c_now c_read c_past c_deeds c_images c_isKept c_text c_letters c_at c_token c_tokenAt c_value c_facts c_seen z.2 c_weakLink c_weakTwos c_which c_views c_whichMany) H locs → lv_has ls 2 [(0, .ref (adc 0)), (1, .int z.1)] → WN p l e 5 117 s m args below meth c E (wX8 E adc c_now c_read c_past c_deeds c_images c_isKept c_text c_letters c_at c_token c_tokenAt c_value c_facts c_seen c_seenAhead c_weakLink c_weakTwos c_which c_views c_whichMany) (none) (wX8 E adc c_now c_read c_past c_deeds c_images c_isKept c_text c_letters c_at c_token c_tokenAt c_value c_facts c_seen z0 c_weakLink c_weakTwos c_which c_views c_whichMany) H locs (F0 m 29 ls [])) → WN p l e 5 117 s m args below meth c E (wX8 E adc c_now c_read c_past c_deeds c_images c_isKept c_text c_letters c_at c_token c_tokenAt c_value c_facts c_seen c_seenAhead c_weakLink c_weakTwos c_which c_views c_whichMany) (none) (wX8 E adc c_now c_read c_past c_deeds c_images c_isKept c_text c_letters c_at c_token c_tokenAt c_value c_facts c_seen z0 c_weakLink c_weakTwos c_which c_views c_whichMany) H locs (F0 m 2 ls []) := by
    intro fu
    induction fu with
    | zero =>
      intro v1_1 c_seenAhead_2 z H locs ls hN hl h K
      cases (show (none : Option (Int32 × (Nat → Int32))) = some z from h)
    | succ fu ih =>
      intro v1_1 c_seenAhead_2 z H locs ls hN hl h K
      rw [fX8_looks_L1.eq_2] at h
      refine lv_iload_n hx hb dX8_looks_2 rfl (lv_at hl 1 rfl) ?_
      refine lv_aload_n hx hb dX8_looks_3 rfl (lv_at hl 0 rfl) ?_
      refine gt_X8_now hC hN 0 rfl rfl dX8_looks_4 ?_
      refine lv_iconst (v := 1) hx hb dX8_looks_7 rfl ?_
      have g := inB_vp (gd_c h)
      have h := gd_e h
      refine n_iald hC hN 1 rfl g dX8_looks_8 ?_
      refine lv_icmp_ge (tgt := 29) hx hb dX8_looks_9 (by decide) (fun c3 => ?_) (fun c3 => ?_)
      · have h := if_t h c3
        obtain rfl := Option.some.inj h
        exact K _ _ _ hN (lv_sub hl [0, 1] rfl)
      · have h := if_f h c3
        refine lv_aload_n hx hb dX8_looks_12 rfl (lv_at hl 0 rfl) ?_
        refine gt_X8_seenAhead hC hN 0 rfl rfl dX8_looks_13 ?_
        refine lv_iload_n hx hb dX8_looks_16 rfl (lv_at hl 1 rfl) ?_
        refine lv_aload_n hx hb dX8_looks_17 rfl (lv_at hl 0 rfl) ?_
        refine lv_iload_n hx hb dX8_looks_18 rfl (lv_at hl 1 rfl) ?_
        obtain ⟨r_4, hr_4, h⟩ := bi_e h
        refine n_callVi (ws' := wX8 E adc c_now c_read c_past c_deeds c_images c_isKept c_text c_letters c_at c_token c_tokenAt c_value c_facts c_seen c_seenAhead_2 c_weakLink c_weakTwos c_which c_views c_whichMany) hC hN (tX8_seesOf l E adc c_now c_read c_past c_deeds c_images c_isKept c_text c_letters c_at c_token c_tokenAt c_value c_facts c_seen c_seenAhead_2 c_weakLink c_weakTwos c_which c_views c_whichMany v1_1 r_4 hr_4) cy_X8_seesOf mML_X8_140 mIM_X8_seesOf mSE_X8_seesOf rfl rfl (k := 0) rfl (perm_self _) (perm_self _) rfl rfl hl.1 rfl (Nat.le_of_ble_eq_true rfl) dX8_looks_19 ⟨Nat.le_of_ble_eq_true rfl, Nat.le_of_ble_eq_true rfl⟩ ⟨Nat.le_refl _, Nat.le_refl _⟩ (fun H locs hN => ?_)
        have g := inB_vp (gd_c h)
        have h := gd_e h
        obtain ⟨c_seenAhead_5, ec_seenAhead_5⟩ : ∃ y : Nat → Int32, y = upd c_seenAhead_2 v1_1.toNatClampNeg r_4 := ⟨_, rfl⟩
        have h := bd_e h c_seenAhead_5 ec_seenAhead_5
        refine n_iast hC hN 8 rfl g ec_seenAhead_5 (ws' := wX8 E adc c_now c_read c_past c_deeds c_images c_isKept c_text c_letters c_at c_token c_tokenAt c_value c_facts c_seen c_seenAhead_5 c_weakLink c_weakTwos c_which c_views c_whichMany) rfl dX8_looks_22 (fun H locs hN => ?_)
        obtain ⟨v1_6, ev1_6⟩ : ∃ y : Int32, y = v1_1 + 1 := ⟨_, rfl⟩
        have h := bd_e h v1_6 ev1_6
        refine lv_iinc (v := v1_6) (lv' := [(1, .int v1_6), (0, .ref (adc 0))]) hx hb dX8_looks_23 hl (k := 1) rfl (by rw [ev1_6]; rfl) (by decide) rfl (fun ls hl => ?_)
        refine lv_goto (tgt := 2) hx hb dX8_looks_26 (by decide) ?_
        exact ih v1_6 c_seenAhead_5 z _ _ _ hN (lv_sub hl [1, 0] rfl) h K
  obtain ⟨z_7, hz_7, h⟩ := bi_e h
  refine L1 500 0 c_seenAhead z_7 _ _ _ hN (lv_sub hl [1, 0] rfl) hz_7 (fun H locs ls hN hl => ?_)
  obtain rfl := Option.some.inj h
  exact n_vret hC hN dX8_looks_29
set_option maxHeartbeats 4000000 in
set_option maxRecDepth 100000 in
theorem tX8_tellNews (l : Launch) (E : EV) (adc : Nat → Nat) (c_now : Nat → Int32) (c_read : Nat → Int32) (c_past : Nat → Int32) (c_deeds : Int32) (c_images : Nat → Int32) (c_isKept : Nat → Int32) (c_text : Nat → Int32) (c_letters : Int32) (c_at : Int32) (c_token : Int32) (c_tokenAt : Int32) (c_value : Int32) (c_facts : Nat → Int32) (c_seen : Int32) (c_seenAhead : Nat → Int32) (c_weakLink : Int32) (c_weakTwos : Int32) (c_which : Nat → Int32) (c_views : Nat → Int32) (c_whichMany : Int32) (z : Nat → Int32) (h : fX8_tellNews c_now c_seenAhead = some z) : Cn l E yX8_tellNews cX8_tellNews 3 none 5 117 [.ref (adc 0)] (wX8 E adc c_now c_read c_past c_deeds c_images c_isKept c_text c_letters c_at c_token c_tokenAt c_value c_facts c_seen c_seenAhead c_weakLink c_weakTwos c_which c_views c_whichMany) (wX8 E adc z c_read c_past c_deeds c_images c_isKept c_text c_letters c_at c_token c_tokenAt c_value c_facts c_seen c_seenAhead c_weakLink c_weakTwos c_which c_views c_whichMany) (none) := by
  refine Cn.ofW (by decide +kernel) (Nat.le_of_ble_eq_true rfl) ?_
  intro p e s m args below meth c ls hC hN hl
  obtain ⟨z0, hz0⟩ : ∃ y, y = z := ⟨_, rfl⟩
  rw [← hz0] at h ⊢
  clear hz0
  have hl : lv_has ls 3 [(0, .ref (adc 0))] := hl
  have hx := hC.1
  have hb := hC.2.1
  unfold fX8_tellNews at h
  refine lv_iconst (v := 0) hx hb dX8_tellNews_0 rfl ?_
  refine lv_istore_n (lv' := [(1, .int 0), (0, .ref (adc 0))]) hx hb dX8_tellNews_1 rfl hl (by decide) rfl (fun ls hl => ?_)
  have L1 : ∀ (fu : Nat) (v1_1 : Int32) (c_now_2 : Nat → Int32) (z : Int32 × (Nat → Int32)) (H : Heap) (locs : List Loc) (ls : Array Slot), Nw E s (AD (wX8 E adc c_now c_read c_past c_deeds c_images c_isKept c_text c_letters c_at c_token c_tokenAt c_value c_facts c_seen c_seenAhead c_weakLink c_weakTwos c_which c_views c_whichMany)) (wX8 E adc c_now_2 c_read c_past c_deeds c_images c_isKept c_text c_letters c_at c_token c_tokenAt c_value c_facts c_seen c_seenAhead c_weakLink c_weakTwos c_which c_views c_whichMany) H locs → lv_has ls 3 [(0, .ref (adc 0)), (1, .int v1_1)] → fX8_tellNews_L1 c_seenAhead fu v1_1 c_now_2 = some z → (∀ (H : Heap) (locs : List Loc) (ls : Array Slot), Nw E s (AD (wX8 E adc c_now c_read c_past c_deeds c_images c_isKept c_text c_letters c_at c_token c_tokenAt c_value c_facts c_seen c_seenAhead c_weakLink c_weakTwos c_which c_views c_whichMany)) (wX8 E adc z.2 c_read c_past c_deeds c_images c_isKept c_text c_letters c_at c_token c_tokenAt c_value c_facts c_seen c_seenAhead c_weakLink c_weakTwos c_which c_views c_whichMany) H locs → lv_has ls 3 [(0, .ref (adc 0)), (1, .int z.1)] → WN p l e 5 117 s m args below meth c E (wX8 E adc c_now c_read c_past c_deeds c_images c_isKept c_text c_letters c_at c_token c_tokenAt c_value c_facts c_seen c_seenAhead c_weakLink c_weakTwos c_which c_views c_whichMany) (none) (wX8 E adc z0 c_read c_past c_deeds c_images c_isKept c_text c_letters c_at c_token c_tokenAt c_value c_facts c_seen c_seenAhead c_weakLink c_weakTwos c_which c_views c_whichMany) H locs (F0 m 78 ls [])) → WN p l e 5 117 s m args below meth c E (wX8 E adc c_now c_read c_past c_deeds c_images c_isKept c_text c_letters c_at c_token c_tokenAt c_value c_facts c_seen c_seenAhead c_weakLink c_weakTwos c_which c_views c_whichMany) (none) (wX8 E adc z0 c_read c_past c_deeds c_images c_isKept c_text c_letters c_at c_token c_tokenAt c_value c_facts c_seen c_seenAhead c_weakLink c_weakTwos c_which c_views c_whichMany) H locs (F0 m 2 ls []) := by
    intro fu
    induction fu with
    | zero =>
      intro v1_1 c_now_2 z H locs ls hN hl h K
      cases (show (none : Option (Int32 × (Nat → Int32))) = some z from h)
    | succ fu ih =>
      intro v1_1 c_now_2 z H locs ls hN hl h K
      rw [fX8_tellNews_L1.eq_2] at h
      refine lv_iload_n hx hb dX8_tellNews_2 rfl (lv_at hl 1 rfl) ?_
      refine lv_aload_n hx hb dX8_tellNews_3 rfl (lv_at hl 0 rfl) ?_
      refine gt_X8_now hC hN 0 rfl rfl dX8_tellNews_4 ?_
      refine lv_iconst (v := 1) hx hb dX8_tellNews_7 rfl ?_
      have g := inB_vp (gd_c h)
      have h := gd_e h
      refine n_iald hC hN 1 rfl g dX8_tellNews_8 ?_
      refine lv_icmp_ge (tgt := 78) hx hb dX8_tellNews_9 (by decide) (fun c3 => ?_) (fun c3 => ?_)
      · have h := if_t h c3
        obtain rfl := Option.some.inj h
        exact K _ _ _ hN (lv_sub hl [0, 1] rfl)
      · have h := if_f h c3
        refine lv_aload_n hx hb dX8_tellNews_12 rfl (lv_at hl 0 rfl) ?_
        refine gt_X8_seenAhead hC hN 0 rfl rfl dX8_tellNews_13 ?_
        refine lv_iload_n hx hb dX8_tellNews_16 rfl (lv_at hl 1 rfl) ?_
        have g := inB_vp (gd_c h)
        have h := gd_e h
        refine n_iald hC hN 8 rfl g dX8_tellNews_17 ?_
        refine lv_aload_n hx hb dX8_tellNews_18 rfl (lv_at hl 0 rfl) ?_
        refine lv_iload_n hx hb dX8_tellNews_19 rfl (lv_at hl 1 rfl) ?_
        obtain ⟨r_4, hr_4, h⟩ := bi_e h
        refine n_callVi (ws' := wX8 E adc c_now_2 c_read c_past c_deeds c_images c_isKept c_text c_letters c_at c_token c_tokenAt c_value c_facts c_seen c_seenAhead c_weakLink c_weakTwos c_which c_views c_whichMany) hC hN (tX8_seesOf l E adc c_now_2 c_read c_past c_deeds c_images c_isKept c_text c_letters c_at c_token c_tokenAt c_value c_facts c_seen c_seenAhead c_weakLink c_weakTwos c_which c_views c_whichMany v1_1 r_4 hr_4) cy_X8_seesOf mML_X8_140 mIM_X8_seesOf mSE_X8_seesOf rfl rfl (k := 0) rfl (perm_self _) (perm_self _) rfl rfl hl.1 rfl (Nat.le_of_ble_eq_true rfl) dX8_tellNews_20 ⟨Nat.le_of_ble_eq_true rfl, Nat.le_of_ble_eq_true rfl⟩ ⟨Nat.le_refl _, Nat.le_refl _⟩ (fun H locs hN => ?_)
        refine lv_ixor hx hb dX8_tellNews_23 ?_
        refine lv_topi (fun v2_5 ev2_5 => ?_)
        have h := bd_e h v2_5 ev2_5
        refine lv_istore_n (lv' := [(2, .int v2_5), (0, .ref (adc 0)), (1, .int v1_1)]) hx hb dX8_tellNews_24 rfl hl (by decide) rfl (fun ls hl => ?_)
        refine lv_aload_n hx hb dX8_tellNews_25 rfl (lv_at hl 1 rfl) ?_
        refine gt_X8_now hC hN 0 rfl rfl dX8_tellNews_26 ?_
        refine lv_bipush (v := 71) hx hb dX8_tellNews_29 (by decide) ?_
        refine lv_iload_n hx hb dX8_tellNews_31 rfl (lv_at hl 2 rfl) ?_
        refine lv_iadd hx hb dX8_tellNews_32 ?_
        refine lv_dup2_11 hx hb dX8_tellNews_33 rfl rfl ?_
        have g := inB_vp (gd_c h)
        have h := gd_e h
        refine n_iald hC hN 1 rfl g dX8_tellNews_34 ?_
        refine lv_iload_n hx hb dX8_tellNews_35 rfl (lv_at hl 0 rfl) ?_
        refine lv_if_ne (tgt := 43) hx hb dX8_tellNews_36 (by decide) (fun c6 => ?_) (fun c6 => ?_)
        · have h := if_f h c6
          refine lv_iconst (v := 1) hx hb dX8_tellNews_43 rfl ?_
          refine lv_iadd hx hb dX8_tellNews_44 ?_
          have g := inB_vp (gd_c h)
          have h := gd_e h
          obtain ⟨c_now_7, ec_now_7⟩ : ∃ y : Nat → Int32, y = upd c_now_2 (71 + v1_1).toNatClampNeg ((c_now_2 (71 + v1_1).toNatClampNeg) + 1) := ⟨_, rfl⟩
          have h := bd_e h c_now_7 ec_now_7
          refine n_iast hC hN 1 rfl g ec_now_7 (ws' := wX8 E adc c_now_7 c_read c_past c_deeds c_images c_isKept c_text c_letters c_at c_token c_tokenAt c_value c_facts c_seen c_seenAhead c_weakLink c_weakTwos c_which c_views c_whichMany) rfl dX8_tellNews_45 (fun H locs hN => ?_)
          refine lv_aload_n hx hb dX8_tellNews_46 rfl (lv_at hl 1 rfl) ?_
          refine gt_X8_now hC hN 0 rfl rfl dX8_tellNews_47 ?_
          refine lv_bipush (v := 79) hx hb dX8_tellNews_50 (by decide) ?_
          refine lv_iload_n hx hb dX8_tellNews_52 rfl (lv_at hl 2 rfl) ?_
          refine lv_iadd hx hb dX8_tellNews_53 ?_
          refine lv_iload_n hx hb dX8_tellNews_54 rfl (lv_at hl 0 rfl) ?_
          refine lv_if_ne (tgt := 70) hx hb dX8_tellNews_55 (by decide) (fun c8 => ?_) (fun c8 => ?_)
          · have h := if_f h c8
            refine lv_iload_n hx hb dX8_tellNews_70 rfl (lv_at hl 0 rfl) ?_
            have g := inB_vp (gd_c h)
            have h := gd_e h
            obtain ⟨c_now_9, ec_now_9⟩ : ∃ y : Nat → Int32, y = upd c_now_7 (79 + v1_1).toNatClampNeg v2_5 := ⟨_, rfl⟩
            have h := bd_e h c_now_9 ec_now_9
            refine n_iast hC hN 1 rfl g ec_now_9 (ws' := wX8 E adc c_now_9 c_read c_past c_deeds c_images c_isKept c_text c_letters c_at c_token c_tokenAt c_value c_facts c_seen c_seenAhead c_weakLink c_weakTwos c_which c_views c_whichMany) rfl dX8_tellNews_71 (fun H locs hN => ?_)
            obtain ⟨v1_10, ev1_10⟩ : ∃ y : Int32, y = v1_1 + 1 := ⟨_, rfl⟩
            have h := bd_e h v1_10 ev1_10
            refine lv_iinc (v := v1_10) (lv' := [(1, .int v1_10), (2, .int v2_5), (0, .ref (adc 0))]) hx hb dX8_tellNews_72 hl (k := 2) rfl (by rw [ev1_10]; rfl) (by decide) rfl (fun ls hl => ?_)
            refine lv_goto (tgt := 2) hx hb dX8_tellNews_75 (by decide) ?_
            exact ih v1_10 c_now_9 z _ _ _ hN (lv_sub hl [2, 0] rfl) h K
          · have h := if_t h c8
            refine lv_aload_n hx hb dX8_tellNews_58 rfl (lv_at hl 1 rfl) ?_
            refine gt_X8_now hC hN 0 rfl rfl dX8_tellNews_59 ?_
            refine lv_bipush (v := 79) hx hb dX8_tellNews_62 (by decide) ?_
            refine lv_iload_n hx hb dX8_tellNews_64 rfl (lv_at hl 2 rfl) ?_
            refine lv_iadd hx hb dX8_tellNews_65 ?_
            have g := inB_vp (gd_c h)
            have h := gd_e h
            refine n_iald hC hN 1 rfl g dX8_tellNews_66 ?_
            refine lv_goto (tgt := 71) hx hb dX8_tellNews_67 (by decide) ?_
            have g := inB_vp (gd_c h)
            have h := gd_e h
            obtain ⟨c_now_11, ec_now_11⟩ : ∃ y : Nat → Int32, y = upd c_now_7 (79 + v1_1).toNatClampNeg (c_now_7 (79 + v1_1).toNatClampNeg) := ⟨_, rfl⟩
            have h := bd_e h c_now_11 ec_now_11
            refine n_iast hC hN 1 rfl g ec_now_11 (ws' := wX8 E adc c_now_11 c_read c_past c_deeds c_images c_isKept c_text c_letters c_at c_token c_tokenAt c_value c_facts c_seen c_seenAhead c_weakLink c_weakTwos c_which c_views c_whichMany) rfl dX8_tellNews_71 (fun H locs hN => ?_)
            obtain ⟨v1_12, ev1_12⟩ : ∃ y : Int32, y = v1_1 + 1 := ⟨_, rfl⟩
            have h := bd_e h v1_12 ev1_12
            refine lv_iinc (v := v1_12) (lv' := [(1, .int v1_12), (2, .int v2_5), (0, .ref (adc 0))]) hx hb dX8_tellNews_72 hl (k := 2) rfl (by rw [ev1_12]; rfl) (by decide) rfl (fun ls hl => ?_)
            refine lv_goto (tgt := 2) hx hb dX8_tellNews_75 (by decide) ?_
            exact ih v1_12 c_now_11 z _ _ _ hN (lv_sub hl [2, 0] rfl) h K
        · have h := if_t h c6
          refine lv_iconst (v := 0) hx hb dX8_tellNews_39 rfl ?_
          refine lv_goto (tgt := 44) hx hb dX8_tellNews_40 (by decide) ?_
          refine lv_iadd hx hb dX8_tellNews_44 ?_
          have g := inB_vp (gd_c h)
          have h := gd_e h
          obtain ⟨c_now_13, ec_now_13⟩ : ∃ y : Nat → Int32, y = upd c_now_2 (71 + v1_1).toNatClampNeg ((c_now_2 (71 + v1_1).toNatClampNeg) + 0) := ⟨_, rfl⟩
          have h := bd_e h c_now_13 ec_now_13
          refine n_iast hC hN 1 rfl g ec_now_13 (ws' := wX8 E adc c_now_13 c_read c_past c_deeds c_images c_isKept c_text c_letters c_at c_token c_tokenAt c_value c_facts c_seen c_seenAhead c_weakLink c_weakTwos c_which c_views c_whichMany) rfl dX8_tellNews_45 (fun H locs hN => ?_)
          refine lv_aload_n hx hb dX8_tellNews_46 rfl (lv_at hl 1 rfl) ?_
          refine gt_X8_now hC hN 0 rfl rfl dX8_tellNews_47 ?_
          refine lv_bipush (v := 79) hx hb dX8_tellNews_50 (by decide) ?_
          refine lv_iload_n hx hb dX8_tellNews_52 rfl (lv_at hl 2 rfl) ?_
          refine lv_iadd hx hb dX8_tellNews_53 ?_
          refine lv_iload_n hx hb dX8_tellNews_54 rfl (lv_at hl 0 rfl) ?_
          refine lv_if_ne (tgt := 70) hx hb dX8_tellNews_55 (by decide) (fun c14 => ?_) (fun c14 => ?_)
          · have h := if_f h c14
            refine lv_iload_n hx hb dX8_tellNews_70 rfl (lv_at hl 0 rfl) ?_
            have g := inB_vp (gd_c h)
            have h := gd_e h
            obtain ⟨c_now_15, ec_now_15⟩ : ∃ y : Nat → Int32, y = upd c_now_13 (79 + v1_1).toNatClampNeg v2_5 := ⟨_, rfl⟩
            have h := bd_e h c_now_15 ec_now_15
            refine n_iast hC hN 1 rfl g ec_now_15 (ws' := wX8 E adc c_now_15 c_read c_past c_deeds c_images c_isKept c_text c_letters c_at c_token c_tokenAt c_value c_facts c_seen c_seenAhead c_weakLink c_weakTwos c_which c_views c_whichMany) rfl dX8_tellNews_71 (fun H locs hN => ?_)
            obtain ⟨v1_16, ev1_16⟩ : ∃ y : Int32, y = v1_1 + 1 := ⟨_, rfl⟩
            have h := bd_e h v1_16 ev1_16
            refine lv_iinc (v := v1_16) (lv' := [(1, .int v1_16), (2, .int v2_5), (0, .ref (adc 0))]) hx hb dX8_tellNews_72 hl (k := 2) rfl (by rw [ev1_16]; rfl) (by decide) rfl (fun ls hl => ?_)
            refine lv_goto (tgt := 2) hx hb dX8_tellNews_75 (by decide) ?_
            exact ih v1_16 c_now_15 z _ _ _ hN (lv_sub hl [2, 0] rfl) h K
          · have h := if_t h c14
            refine lv_aload_n hx hb dX8_tellNews_58 rfl (lv_at hl 1 rfl) ?_
            refine gt_X8_now hC hN 0 rfl rfl dX8_tellNews_59 ?_
            refine lv_bipush (v := 79) hx hb dX8_tellNews_62 (by decide) ?_
            refine lv_iload_n hx hb dX8_tellNews_64 rfl (lv_at hl 2 rfl) ?_
            refine lv_iadd hx hb dX8_tellNews_65 ?_
            have g := inB_vp (gd_c h)
            have h := gd_e h
            refine n_iald hC hN 1 rfl g dX8_tellNews_66 ?_
            refine lv_goto (tgt := 71) hx hb dX8_tellNews_67 (by decide) ?_
            have g := inB_vp (gd_c h)
            have h := gd_e h
            obtain ⟨c_now_17, ec_now_17⟩ : ∃ y : Nat → Int32, y = upd c_now_13 (79 + v1_1).toNatClampNeg (c_now_13 (79 + v1_1).toNatClampNeg) := ⟨_, rfl⟩
            have h := bd_e h c_now_17 ec_now_17
            refine n_iast hC hN 1 rfl g ec_now_17 (ws' := wX8 E adc c_now_17 c_read c_past c_deeds c_images c_isKept c_text c_letters c_at c_token c_tokenAt c_value c_facts c_seen c_seenAhead c_weakLink c_weakTwos c_which c_views c_whichMany) rfl dX8_tellNews_71 (fun H locs hN => ?_)
            obtain ⟨v1_18, ev1_18⟩ : ∃ y : Int32, y = v1_1 + 1 := ⟨_, rfl⟩
            have h := bd_e h v1_18 ev1_18
            refine lv_iinc (v := v1_18) (lv' := [(1, .int v1_18), (2, .int v2_5), (0, .ref (adc 0))]) hx hb dX8_tellNews_72 hl (k := 2) rfl (by rw [ev1_18]; rfl) (by decide) rfl (fun ls hl => ?_)
            refine lv_goto (tgt := 2) hx hb dX8_tellNews_75 (by decide) ?_
            exact ih v1_18 c_now_17 z _ _ _ hN (lv_sub hl [2, 0] rfl) h K
  obtain ⟨z_19, hz_19, h⟩ := bi_e h
  refine L1 500 0 c_now z_19 _ _ _ hN (lv_sub hl [1, 0] rfl) hz_19 (fun H locs ls hN hl => ?_)
  obtain rfl := Option.some.inj h
  exact n_vret hC hN dX8_tellNews_78
set_option maxHeartbeats 4000000 in
set_option maxRecDepth 100000 in
theorem tX8_wouldBe (l : Launch) (E : EV) (adc : Nat → Nat) (c_now : Nat → Int32) (c_read : Nat → Int32) (c_past : Nat → Int32) (c_deeds : Int32) (c_images : Nat → Int32) (c_isKept : Nat → Int32) (c_text : Nat → Int32) (c_letters : Int32) (c_at : Int32) (c_token : Int32) (c_tokenAt : Int32) (c_value : Int32) (c_facts : Nat → Int32) (c_seen : Int32) (c_seenAhead : Nat → Int32) (c_weakLink : Int32) (c_weakTwos : Int32) (c_which : Nat → Int32) (c_views : Nat → Int32) (c_whichMany : Int32) (p1 : Int32) (p2 : Int32) (z : Int32) (h : fX8_wouldBe c_now p1 p2 = some z) : Cn l E yX8_wouldBe cX8_wouldBe 5 (some .int) 4 89 [.ref (adc 0), .int p1, .int p2] (wX8 E adc c_now c_read c_past c_deeds c_images c_isKept c_text c_letters c_at c_token c_tokenAt c_value c_facts c_seen c_seenAhead c_weakLink c_weakTwos c_which c_views c_whichMany) (wX8 E adc c_now c_read c_past c_deeds c_images c_isKept c_text c_letters c_at c_token c_tokenAt c_value c_facts c_seen c_seenAhead c_weakLink c_weakTwos c_which c_views c_whichMany) (some (.int z)) := by
  refine Cn.ofW (by decide +kernel) (Nat.le_of_ble_eq_true rfl) ?_
  intro p e s m args below meth c ls hC hN hl
  have hl : lv_has ls 5 [(0, .ref (adc 0)), (1, .int p1), (2, .int p2)] := hl
  have hx := hC.1
  have hb := hC.2.1
  unfold fX8_wouldBe at h
  refine lv_aload_n hx hb dX8_wouldBe_0 rfl (lv_at hl 0 rfl) ?_
  refine lv_iload_n hx hb dX8_wouldBe_1 rfl (lv_at hl 1 rfl) ?_
  obtain ⟨r_1, hr_1, h⟩ := bi_e h
  refine n_callVi (ws' := wX8 E adc c_now c_read c_past c_deeds c_images c_isKept c_text c_letters c_at c_token c_tokenAt c_value c_facts c_seen c_seenAhead c_weakLink c_weakTwos c_which c_views c_whichMany) hC hN (tX8_fabricOf l E adc c_now c_read c_past c_deeds c_images c_isKept c_text c_letters c_at c_token c_tokenAt c_value c_facts c_seen c_seenAhead c_weakLink c_weakTwos c_which c_views c_whichMany p1 r_1 hr_1) cy_X8_fabricOf mML_X8_109 mIM_X8_fabricOf mSE_X8_fabricOf rfl rfl (k := 0) rfl (perm_self _) (perm_self _) rfl rfl hl.1 rfl (Nat.le_of_ble_eq_true rfl) dX8_wouldBe_2 ⟨Nat.le_of_ble_eq_true rfl, Nat.le_of_ble_eq_true rfl⟩ ⟨Nat.le_refl _, Nat.le_refl _⟩ (fun H locs hN => ?_)
  refine lv_iload_n hx hb dX8_wouldBe_5 rfl (lv_at hl 2 rfl) ?_
  obtain ⟨r_2, hr_2, h⟩ := bi_e h
  refine n_callSi (ws' := wX8 E adc c_now c_read c_past c_deeds c_images c_isKept c_text c_letters c_at c_token c_tokenAt c_value c_facts c_seen c_seenAhead c_weakLink c_weakTwos c_which c_views c_whichMany) hC hN (tX8_has l E r_1 p2 r_2 hr_2) cy_X8_has mML_X8_102 mST_X8_has (perm_nil _) (perm_nil _) rfl rfl hl.1 rfl (Nat.le_of_ble_eq_true rfl) dX8_wouldBe_6 ⟨Nat.le_of_ble_eq_true rfl, Nat.le_of_ble_eq_true rfl⟩ ⟨Nat.le_refl _, Nat.le_refl _⟩ (fun H locs hN => ?_)
  refine lv_if_eq (tgt := 14) hx hb dX8_wouldBe_9 (by decide) (fun c3 => ?_) (fun c3 => ?_)
  · have h := if_t h c3
    refine lv_aload_n hx hb dX8_wouldBe_14 rfl (lv_at hl 0 rfl) ?_
    refine lv_iload_n hx hb dX8_wouldBe_15 rfl (lv_at hl 1 rfl) ?_
    refine lv_iload_n hx hb dX8_wouldBe_16 rfl (lv_at hl 2 rfl) ?_
    obtain ⟨r_4, hr_4, h⟩ := bi_e h
    refine n_callVi (ws' := wX8 E adc c_now c_read c_past c_deeds c_images c_isKept c_text c_letters c_at c_token c_tokenAt c_value c_facts c_seen c_seenAhead c_weakLink c_weakTwos c_which c_views c_whichMany) hC hN (tX8_doZonesClash l E adc c_now c_read c_past c_deeds c_images c_isKept c_text c_letters c_at c_token c_tokenAt c_value c_facts c_seen c_seenAhead c_weakLink c_weakTwos c_which c_views c_whichMany p1 p2 r_4 hr_4) cy_X8_doZonesClash mML_X8_146 mIM_X8_doZonesClash mSE_X8_doZonesClash rfl rfl (k := 0) rfl (perm_self _) (perm_self _) rfl rfl hl.1 rfl (Nat.le_of_ble_eq_true rfl) dX8_wouldBe_17 ⟨Nat.le_of_ble_eq_true rfl, Nat.le_of_ble_eq_true rfl⟩ ⟨Nat.le_refl _, Nat.le_refl _⟩ (fun H locs hN => ?_)
    refine lv_istore_n (lv' := [(3, .int r_4), (0, .ref (adc 0)), (1, .int p1), (2, .int p2)]) hx hb dX8_wouldBe_20 rfl hl (by decide) rfl (fun ls hl => ?_)
    refine lv_aload_n hx hb dX8_wouldBe_21 rfl (lv_at hl 1 rfl) ?_
    refine lv_iload_n hx hb dX8_wouldBe_22 rfl (lv_at hl 2 rfl) ?_
    refine lv_iload_n hx hb dX8_wouldBe_23 rfl (lv_at hl 3 rfl) ?_
    obtain ⟨r_5, hr_5, h⟩ := bi_e h
    refine n_callVi (ws' := wX8 E adc c_now c_read c_past c_deeds c_images c_isKept c_text c_letters c_at c_token c_tokenAt c_value c_facts c_seen c_seenAhead c_weakLink c_weakTwos c_which c_views c_whichMany) hC hN (tX8_doBlocksClash l E adc c_now c_read c_past c_deeds c_images c_isKept c_text c_letters c_at c_token c_tokenAt c_value c_facts c_seen c_seenAhead c_weakLink c_weakTwos c_which c_views c_whichMany p1 p2 r_5 hr_5) cy_X8_doBlocksClash mML_X8_149 mIM_X8_doBlocksClash mSE_X8_doBlocksClash rfl rfl (k := 0) rfl (perm_self _) (perm_self _) rfl rfl hl.1 rfl (Nat.le_of_ble_eq_true rfl) dX8_wouldBe_24 ⟨Nat.le_of_ble_eq_true rfl, Nat.le_of_ble_eq_true rfl⟩ ⟨Nat.le_refl _, Nat.le_refl _⟩ (fun H locs hN => ?_)
    refine lv_istore (lv' := [(4, .int r_5), (3, .int r_4), (0, .ref (adc 0)), (1, .int p1), (2, .int p2)]) hx hb dX8_wouldBe_27 hl (by decide) rfl (fun ls hl => ?_)
    refine lv_iload_n hx hb dX8_wouldBe_29 rfl (lv_at hl 1 rfl) ?_
    refine lv_if_eq (tgt := 46) hx hb dX8_wouldBe_30 (by decide) (fun c6 => ?_) (fun c6 => ?_)
    · have h := if_t h c6
      refine lv_iload hx hb dX8_wouldBe_46 (lv_at hl 0 rfl) ?_
      refine lv_if_ne (tgt := 55) hx hb dX8_wouldBe_48 (by decide) (fun c7 => ?_) (fun c7 => ?_)
      · have h := if_f h c7
        refine lv_aload_n hx hb dX8_wouldBe_55 rfl (lv_at hl 2 rfl) ?_
        refine gt_X8_now hC hN 0 rfl rfl dX8_wouldBe_56 ?_
        refine lv_iconst (v := 2) hx hb dX8_wouldBe_59 rfl ?_
        have g := inB_vp (gd_c h)
        have h := gd_e h
        refine n_iald hC hN 1 rfl g dX8_wouldBe_60 ?_
        refine lv_iconst (v := 1) hx hb dX8_wouldBe_61 rfl ?_
        refine lv_icmp_ne (tgt := 69) hx hb dX8_wouldBe_62 (by decide) (fun c8 => ?_) (fun c8 => ?_)
        · have h := if_f h c8
          refine lv_iconst (v := 3) hx hb dX8_wouldBe_69 rfl ?_
          obtain rfl := Option.some.inj h
          exact n_iret hC hN dX8_wouldBe_70
        · have h := if_t h c8
          refine lv_iconst (v := 2) hx hb dX8_wouldBe_65 rfl ?_
          refine lv_goto (tgt := 70) hx hb dX8_wouldBe_66 (by decide) ?_
          obtain rfl := Option.some.inj h
          exact n_iret hC hN dX8_wouldBe_70
      · have h := if_t h c7
        refine lv_iconst (v := 1) hx hb dX8_wouldBe_51 rfl ?_
        refine lv_goto (tgt := 70) hx hb dX8_wouldBe_52 (by decide) ?_
        obtain rfl := Option.some.inj h
        exact n_iret hC hN dX8_wouldBe_70
    · have h := if_f h c6
      refine lv_iload hx hb dX8_wouldBe_33 (lv_at hl 0 rfl) ?_
      refine lv_if_eq (tgt := 42) hx hb dX8_wouldBe_35 (by decide) (fun c9 => ?_) (fun c9 => ?_)
      · have h := if_t h c9
        refine lv_iconst (v := 4) hx hb dX8_wouldBe_42 rfl ?_
        refine lv_goto (tgt := 70) hx hb dX8_wouldBe_43 (by decide) ?_
        obtain rfl := Option.some.inj h
        exact n_iret hC hN dX8_wouldBe_70
      · have h := if_f h c9
        refine lv_iconst (v := 5) hx hb dX8_wouldBe_38 rfl ?_
        refine lv_goto (tgt := 70) hx hb dX8_wouldBe_39 (by decide) ?_
        obtain rfl := Option.some.inj h
        exact n_iret hC hN dX8_wouldBe_70
  · have h := if_f h c3
    refine lv_iconst (v := 0) hx hb dX8_wouldBe_12 rfl ?_
    obtain rfl := Option.some.inj h
    exact n_iret hC hN dX8_wouldBe_13
set_option maxHeartbeats 4000000 in
set_option maxRecDepth 100000 in
theorem tX8_zoned (l : Launch) (E : EV) (adc : Nat → Nat) (c_now : Nat → Int32) (c_read : Nat → Int32) (c_past : Nat → Int32) (c_deeds : Int32) (c_images : Nat → Int32) (c_isKept : Nat → Int32) (c_text : Nat → Int32) (c_letters : Int32) (c_at : Int32) (c_token : Int32) (c_tokenAt : Int32) (c_value : Int32) (c_facts : Nat → Int32) (c_seen : Int32) (c_seenAhead : Nat → Int32) (c_weakLink : Int32) (c_weakTwos : Int32) (c_which : Nat → Int32) (c_views : Nat → Int32) (c_whichMany : Int32) (p1 : Int32) (p2 : Int32) (p3 : Int32) (z : Nat → Int32) (h : fX8_zoned c_now p1 p2 p3 = some z) : Cn l E yX8_zoned cX8_zoned 5 none 1 21 [.ref (adc 0), .int p1, .int p2, .int p3] (wX8 E adc c_now c_read c_past c_deeds c_images c_isKept c_text c_letters c_at c_token c_tokenAt c_value c_facts c_seen c_seenAhead c_weakLink c_weakTwos c_which c_views c_whichMany) (wX8 E adc z c_read c_past c_deeds c_images c_isKept c_text c_letters c_at c_token c_tokenAt c_value c_facts c_seen c_seenAhead c_weakLink c_weakTwos c_which c_views c_whichMany) (none) := by
  refine Cn.ofW (by decide +kernel) (Nat.le_of_ble_eq_true rfl) ?_
  intro p e s m args below meth c ls hC hN hl
  obtain ⟨z0, hz0⟩ : ∃ y, y = z := ⟨_, rfl⟩
  rw [← hz0] at h ⊢
  clear hz0
  have hl : lv_has ls 5 [(0, .ref (adc 0)), (1, .int p1), (2, .int p2), (3, .int p3)] := hl
  have hx := hC.1
  have hb := hC.2.1
  unfold fX8_zoned at h
  refine lv_iconst (v := 0) hx hb dX8_zoned_0 rfl ?_
  refine lv_istore (lv' := [(4, .int 0), (0, .ref (adc 0)), (1, .int p1), (2, .int p2), (3, .int p3)]) hx hb dX8_zoned_1 hl (by decide) rfl (fun ls hl => ?_)
  have L1 : ∀ (fu : Nat) (v4_1 : Int32) (c_now_2 : Nat → Int32) (z : Int32 × (Nat → Int32)) (H : Heap) (locs : List Loc) (ls : Array Slot), Nw E s (AD (wX8 E adc c_now c_read c_past c_deeds c_images c_isKept c_text c_letters c_at c_token c_tokenAt c_value c_facts c_seen c_seenAhead c_weakLink c_weakTwos c_which c_views c_whichMany)) (wX8 E adc c_now_2 c_read c_past c_deeds c_images c_isKept c_text c_letters c_at c_token c_tokenAt c_value c_facts c_seen c_seenAhead c_weakLink c_weakTwos c_which c_views c_whichMany) H locs → lv_has ls 5 [(0, .ref (adc 0)), (1, .int p1), (2, .int p2), (3, .int p3), (4, .int v4_1)] → fX8_zoned_L1 p1 p2 p3 fu v4_1 c_now_2 = some z → (∀ (H : Heap) (locs : List Loc) (ls : Array Slot), Nw E s (AD (wX8 E adc c_now c_read c_past c_deeds c_images c_isKept c_text c_letters c_at c_token c_tokenAt c_value c_facts c_seen c_seenAhead c_weakLink c_weakTwos c_which c_views c_whichMany)) (wX8 E adc z.2 c_read c_past c_deeds c_images c_isKept c_text c_letters c_at c_token c_tokenAt c_value c_facts c_seen c_seenAhead c_weakLink c_weakTwos c_which c_views c_whichMany) H locs → lv_has ls 5 [(0, .ref (adc 0)), (1, .int p1), (2, .int p2), (3, .int p3), (4, .int z.1)] → WN p l e 1 21 s m args below meth c E (wX8 E adc c_now c_read c_past c_deeds c_images c_isKept c_text c_letters c_at c_token c_tokenAt c_value c_facts c_seen c_seenAhead c_weakLink c_weakTwos c_which c_views c_whichMany) (none) (wX8 E adc z0 c_read c_past c_deeds c_images c_isKept c_text c_letters c_at c_token c_tokenAt c_value c_facts c_seen c_seenAhead c_weakLink c_weakTwos c_which c_views c_whichMany) H locs (F0 m 61 ls [])) → WN p l e 1 21 s m args below meth c E (wX8 E adc c_now c_read c_past c_deeds c_images c_isKept c_text c_letters c_at c_token c_tokenAt c_value c_facts c_seen c_seenAhead c_weakLink c_weakTwos c_which c_views c_whichMany) (none) (wX8 E adc z0 c_read c_past c_deeds c_images c_isKept c_text c_letters c_at c_token c_tokenAt c_value c_facts c_seen c_seenAhead c_weakLink c_weakTwos c_which c_views c_whichMany) H locs (F0 m 3 ls []) := by
    intro fu
    induction fu with
    | zero =>
      intro v4_1 c_now_2 z H locs ls hN hl h K
      cases (show (none : Option (Int32 × (Nat → Int32))) = some z from h)
    | succ fu ih =>
      intro v4_1 c_now_2 z H locs ls hN hl h K
      rw [fX8_zoned_L1.eq_2] at h
      refine lv_iload hx hb dX8_zoned_3 (lv_at hl 4 rfl) ?_
      refine lv_aload_n hx hb dX8_zoned_5 rfl (lv_at hl 0 rfl) ?_
      refine gt_X8_now hC hN 0 rfl rfl dX8_zoned_6 ?_
      refine lv_iconst (v := 0) hx hb dX8_zoned_9 rfl ?_
      have g := inB_vp (gd_c h)
      have h := gd_e h
      refine n_iald hC hN 1 rfl g dX8_zoned_10 ?_
      refine lv_icmp_ge (tgt := 61) hx hb dX8_zoned_11 (by decide) (fun c3 => ?_) (fun c3 => ?_)
      · have h := if_t h c3
        obtain rfl := Option.some.inj h
        exact K _ _ _ hN (lv_sub hl [0, 1, 2, 3, 4] rfl)
      · have h := if_f h c3
        refine lv_aload_n hx hb dX8_zoned_14 rfl (lv_at hl 0 rfl) ?_
        refine gt_X8_now hC hN 0 rfl rfl dX8_zoned_15 ?_
        refine lv_bipush (v := 47) hx hb dX8_zoned_18 (by decide) ?_
        refine lv_iconst (v := 4) hx hb dX8_zoned_20 rfl ?_
        refine lv_iload hx hb dX8_zoned_21 (lv_at hl 4 rfl) ?_
        refine lv_imul hx hb dX8_zoned_23 ?_
        refine lv_iadd hx hb dX8_zoned_24 ?_
        refine lv_iload_n hx hb dX8_zoned_25 rfl (lv_at hl 2 rfl) ?_
        refine lv_iadd hx hb dX8_zoned_26 ?_
        refine lv_iload_n hx hb dX8_zoned_27 rfl (lv_at hl 1 rfl) ?_
        refine lv_iload hx hb dX8_zoned_28 (lv_at hl 4 rfl) ?_
        obtain ⟨r_4, hr_4, h⟩ := bi_e h
        refine n_callSi (ws' := wX8 E adc c_now_2 c_read c_past c_deeds c_images c_isKept c_text c_letters c_at c_token c_tokenAt c_value c_facts c_seen c_seenAhead c_weakLink c_weakTwos c_which c_views c_whichMany) hC hN (tX8_has l E p1 v4_1 r_4 hr_4) cy_X8_has mML_X8_102 mST_X8_has (perm_nil _) (perm_nil _) rfl rfl hl.1 rfl (Nat.le_of_ble_eq_true rfl) dX8_zoned_30 ⟨Nat.le_of_ble_eq_true rfl, Nat.le_of_ble_eq_true rfl⟩ ⟨Nat.le_refl _, Nat.le_refl _⟩ (fun H locs hN => ?_)
        refine lv_if_eq (tgt := 40) hx hb dX8_zoned_33 (by decide) (fun c5 => ?_) (fun c5 => ?_)
        · have h := if_t h c5
          refine lv_aload_n hx hb dX8_zoned_40 rfl (lv_at hl 0 rfl) ?_
          refine gt_X8_now hC hN 0 rfl rfl dX8_zoned_41 ?_
          refine lv_bipush (v := 47) hx hb dX8_zoned_44 (by decide) ?_
          refine lv_iconst (v := 4) hx hb dX8_zoned_46 rfl ?_
          refine lv_iload hx hb dX8_zoned_47 (lv_at hl 4 rfl) ?_
          refine lv_imul hx hb dX8_zoned_49 ?_
          refine lv_iadd hx hb dX8_zoned_50 ?_
          refine lv_iload_n hx hb dX8_zoned_51 rfl (lv_at hl 2 rfl) ?_
          refine lv_iadd hx hb dX8_zoned_52 ?_
          have g := inB_vp (gd_c h)
          have h := gd_e h
          refine n_iald hC hN 1 rfl g dX8_zoned_53 ?_
          have g := inB_vp (gd_c h)
          have h := gd_e h
          obtain ⟨c_now_6, ec_now_6⟩ : ∃ y : Nat → Int32, y = upd c_now_2 ((47 + (4 * v4_1)) + p2).toNatClampNeg (c_now_2 ((47 + (4 * v4_1)) + p2).toNatClampNeg) := ⟨_, rfl⟩
          have h := bd_e h c_now_6 ec_now_6
          refine n_iast hC hN 1 rfl g ec_now_6 (ws' := wX8 E adc c_now_6 c_read c_past c_deeds c_images c_isKept c_text c_letters c_at c_token c_tokenAt c_value c_facts c_seen c_seenAhead c_weakLink c_weakTwos c_which c_views c_whichMany) rfl dX8_zoned_54 (fun H locs hN => ?_)
          obtain ⟨v4_7, ev4_7⟩ : ∃ y : Int32, y = v4_1 + 1 := ⟨_, rfl⟩
          have h := bd_e h v4_7 ev4_7
          refine lv_iinc (v := v4_7) (lv' := [(4, .int v4_7), (0, .ref (adc 0)), (1, .int p1), (2, .int p2), (3, .int p3)]) hx hb dX8_zoned_55 hl (k := 4) rfl (by rw [ev4_7]; rfl) (by decide) rfl (fun ls hl => ?_)
          refine lv_goto (tgt := 3) hx hb dX8_zoned_58 (by decide) ?_
          exact ih v4_7 c_now_6 z _ _ _ hN (lv_sub hl [1, 2, 3, 4, 0] rfl) h K
        · have h := if_f h c5
          refine lv_iload_n hx hb dX8_zoned_36 rfl (lv_at hl 3 rfl) ?_
          refine lv_goto (tgt := 54) hx hb dX8_zoned_37 (by decide) ?_
          have g := inB_vp (gd_c h)
          have h := gd_e h
          obtain ⟨c_now_8, ec_now_8⟩ : ∃ y : Nat → Int32, y = upd c_now_2 ((47 + (4 * v4_1)) + p2).toNatClampNeg p3 := ⟨_, rfl⟩
          have h := bd_e h c_now_8 ec_now_8
          refine n_iast hC hN 1 rfl g ec_now_8 (ws' := wX8 E adc c_now_8 c_read c_past c_deeds c_images c_isKept c_text c_letters c_at c_token c_tokenAt c_value c_facts c_seen c_seenAhead c_weakLink c_weakTwos c_which c_views c_whichMany) rfl dX8_zoned_54 (fun H locs hN => ?_)
          obtain ⟨v4_9, ev4_9⟩ : ∃ y : Int32, y = v4_1 + 1 := ⟨_, rfl⟩
          have h := bd_e h v4_9 ev4_9
          refine lv_iinc (v := v4_9) (lv' := [(4, .int v4_9), (0, .ref (adc 0)), (1, .int p1), (2, .int p2), (3, .int p3)]) hx hb dX8_zoned_55 hl (k := 4) rfl (by rw [ev4_9]; rfl) (by decide) rfl (fun ls hl => ?_)
          refine lv_goto (tgt := 3) hx hb dX8_zoned_58 (by decide) ?_
          exact ih v4_9 c_now_8 z _ _ _ hN (lv_sub hl [1, 2, 3, 4, 0] rfl) h K
  obtain ⟨z_10, hz_10, h⟩ := bi_e h
  refine L1 500 0 c_now z_10 _ _ _ hN (lv_sub hl [1, 2, 3, 4, 0] rfl) hz_10 (fun H locs ls hN hl => ?_)
  obtain rfl := Option.some.inj h
  exact n_vret hC hN dX8_zoned_61
set_option maxHeartbeats 4000000 in
set_option maxRecDepth 100000 in
theorem tX8_joins (l : Launch) (E : EV) (adc : Nat → Nat) (c_now : Nat → Int32) (c_read : Nat → Int32) (c_past : Nat → Int32) (c_deeds : Int32) (c_images : Nat → Int32) (c_isKept : Nat → Int32) (c_text : Nat → Int32) (c_letters : Int32) (c_at : Int32) (c_token : Int32) (c_tokenAt : Int32) (c_value : Int32) (c_facts : Nat → Int32) (c_seen : Int32) (c_seenAhead : Nat → Int32) (c_weakLink : Int32) (c_weakTwos : Int32) (c_which : Nat → Int32) (c_views : Nat → Int32) (c_whichMany : Int32) (p1 : Int32) (p2 : Int32) (z : Int32 × (Nat → Int32) × (Nat → Int32) × Int32 × (Nat → Int32)) (h : fX8_joins c_now c_past c_deeds c_seenAhead p1 p2 = some z) : Cn l E yX8_joins cX8_joins 6 (some .int) 6 139 [.ref (adc 0), .int p1, .int p2] (wX8 E adc c_now c_read c_past c_deeds c_images c_isKept c_text c_letters c_at c_token c_tokenAt c_value c_facts c_seen c_seenAhead c_weakLink c_weakTwos c_which c_views c_whichMany) (wX8 E adc z.2.1 c_read z.2.2.1 z.2.2.2.1 c_images c_isKept c_text c_letters c_at c_token c_tokenAt c_value c_facts c_seen z.2.2.2.2 c_weakLink c_weakTwos c_which c_views c_whichMany) (some (.int z.1)) := by
  refine Cn.ofW (by decide +kernel) (Nat.le_of_ble_eq_true rfl) ?_
  intro p e s m args below meth c ls hC hN hl
  obtain ⟨z0, hz0⟩ : ∃ y, y = z := ⟨_, rfl⟩
  rw [← hz0] at h ⊢
  clear hz0
  have hl : lv_has ls 6 [(0, .ref (adc 0)), (1, .int p1), (2, .int p2)] := hl
  have hx := hC.1
  have hb := hC.2.1
  unfold fX8_joins at h
  refine lv_aload_n hx hb dX8_joins_0 rfl (lv_at hl 0 rfl) ?_
  refine lv_iload_n hx hb dX8_joins_1 rfl (lv_at hl 1 rfl) ?_
  refine lv_iload_n hx hb dX8_joins_2 rfl (lv_at hl 2 rfl) ?_
  obtain ⟨r_1, hr_1, h⟩ := bi_e h
  refine n_callVi (ws' := wX8 E adc c_now c_read c_past c_deeds c_images c_isKept c_text c_letters c_at c_token c_tokenAt c_value c_facts c_seen c_seenAhead c_weakLink c_weakTwos c_which c_views c_whichMany) hC hN (tX8_areTwo l E adc c_now c_read c_past c_deeds c_images c_isKept c_text c_letters c_at c_token c_tokenAt c_value c_facts c_seen c_seenAhead c_weakLink c_weakTwos c_which c_views c_whichMany p1 p2 r_1 hr_1) cy_X8_areTwo mML_X8_152 mIM_X8_areTwo mSE_X8_areTwo rfl rfl (k := 0) rfl (perm_self _) (perm_self _) rfl rfl hl.1 rfl (Nat.le_of_ble_eq_true rfl) dX8_joins_3 ⟨Nat.le_of_ble_eq_true rfl, Nat.le_of_ble_eq_true rfl⟩ ⟨Nat.le_refl _, Nat.le_refl _⟩ (fun H locs hN => ?_)
  refine lv_if_ne (tgt := 11) hx hb dX8_joins_6 (by decide) (fun c2 => ?_) (fun c2 => ?_)
  · have h := if_f h c2
    refine lv_aload_n hx hb dX8_joins_11 rfl (lv_at hl 0 rfl) ?_
    refine lv_iload_n hx hb dX8_joins_12 rfl (lv_at hl 1 rfl) ?_
    refine lv_iload_n hx hb dX8_joins_13 rfl (lv_at hl 2 rfl) ?_
    obtain ⟨r_3, hr_3, h⟩ := bi_e h
    refine n_callVi (ws' := wX8 E adc c_now c_read c_past c_deeds c_images c_isKept c_text c_letters c_at c_token c_tokenAt c_value c_facts c_seen c_seenAhead c_weakLink c_weakTwos c_which c_views c_whichMany) hC hN (tX8_isUp l E adc c_now c_read c_past c_deeds c_images c_isKept c_text c_letters c_at c_token c_tokenAt c_value c_facts c_seen c_seenAhead c_weakLink c_weakTwos c_which c_views c_whichMany p1 p2 r_3 hr_3) cy_X8_isUp mML_X8_155 mIM_X8_isUp mSE_X8_isUp rfl rfl (k := 0) rfl (perm_self _) (perm_self _) rfl rfl hl.1 rfl (Nat.le_of_ble_eq_true rfl) dX8_joins_14 ⟨Nat.le_of_ble_eq_true rfl, Nat.le_of_ble_eq_true rfl⟩ ⟨Nat.le_refl _, Nat.le_refl _⟩ (fun H locs hN => ?_)
    refine lv_if_eq (tgt := 23) hx hb dX8_joins_17 (by decide) (fun c4 => ?_) (fun c4 => ?_)
    · have h := if_t h c4
      refine lv_aload_n hx hb dX8_joins_23 rfl (lv_at hl 0 rfl) ?_
      obtain ⟨z_5, hz_5, h⟩ := bi_e h
      refine n_callVv (ws' := wX8 E adc c_now c_read z_5.1 z_5.2 c_images c_isKept c_text c_letters c_at c_token c_tokenAt c_value c_facts c_seen c_seenAhead c_weakLink c_weakTwos c_which c_views c_whichMany) hC hN (tX8_note l E adc c_now c_read c_past c_deeds c_images c_isKept c_text c_letters c_at c_token c_tokenAt c_value c_facts c_seen c_seenAhead c_weakLink c_weakTwos c_which c_views c_whichMany z_5 hz_5) cy_X8_note mML_X8_93 mIM_X8_note mSE_X8_note rfl rfl (k := 0) rfl (perm_self _) (perm_self _) rfl rfl hl.1 rfl (Nat.le_of_ble_eq_true rfl) dX8_joins_24 ⟨Nat.le_of_ble_eq_true rfl, Nat.le_of_ble_eq_true rfl⟩ ⟨Nat.le_refl _, Nat.le_refl _⟩ (fun H locs hN => ?_)
      refine lv_aload_n hx hb dX8_joins_27 rfl (lv_at hl 0 rfl) ?_
      refine lv_iload_n hx hb dX8_joins_28 rfl (lv_at hl 1 rfl) ?_
      refine lv_iload_n hx hb dX8_joins_29 rfl (lv_at hl 2 rfl) ?_
      obtain ⟨r_6, hr_6, h⟩ := bi_e h
      refine n_callVi (ws' := wX8 E adc c_now c_read z_5.1 z_5.2 c_images c_isKept c_text c_letters c_at c_token c_tokenAt c_value c_facts c_seen c_seenAhead c_weakLink c_weakTwos c_which c_views c_whichMany) hC hN (tX8_wouldBe l E adc c_now c_read z_5.1 z_5.2 c_images c_isKept c_text c_letters c_at c_token c_tokenAt c_value c_facts c_seen c_seenAhead c_weakLink c_weakTwos c_which c_views c_whichMany p1 p2 r_6 hr_6) cy_X8_wouldBe mML_X8_158 mIM_X8_wouldBe mSE_X8_wouldBe rfl rfl (k := 0) rfl (perm_self _) (perm_self _) rfl rfl hl.1 rfl (Nat.le_of_ble_eq_true rfl) dX8_joins_30 ⟨Nat.le_of_ble_eq_true rfl, Nat.le_of_ble_eq_true rfl⟩ ⟨Nat.le_refl _, Nat.le_refl _⟩ (fun H locs hN => ?_)
      refine lv_istore_n (lv' := [(3, .int r_6), (0, .ref (adc 0)), (1, .int p1), (2, .int p2)]) hx hb dX8_joins_33 rfl hl (by decide) rfl (fun ls hl => ?_)
      refine lv_iload_n hx hb dX8_joins_34 rfl (lv_at hl 0 rfl) ?_
      refine lv_iconst (v := 2) hx hb dX8_joins_35 rfl ?_
      refine lv_icmp_le (tgt := 49) hx hb dX8_joins_36 (by decide) (fun c7 => ?_) (fun c7 => ?_)
      · have h := if_t h c7
        refine lv_aload_n hx hb dX8_joins_49 rfl (lv_at hl 1 rfl) ?_
        obtain ⟨z_8, hz_8, h⟩ := bi_e h
        refine n_callVv (ws' := wX8 E adc c_now c_read z_5.1 z_5.2 c_images c_isKept c_text c_letters c_at c_token c_tokenAt c_value c_facts c_seen z_8 c_weakLink c_weakTwos c_which c_views c_whichMany) hC hN (tX8_looks l E adc c_now c_read z_5.1 z_5.2 c_images c_isKept c_text c_letters c_at c_token c_tokenAt c_value c_facts c_seen c_seenAhead c_weakLink c_weakTwos c_which c_views c_whichMany z_8 hz_8) cy_X8_looks mML_X8_165 mIM_X8_looks mSE_X8_looks rfl rfl (k := 0) rfl (perm_self _) (perm_self _) rfl rfl hl.1 rfl (Nat.le_of_ble_eq_true rfl) dX8_joins_50 ⟨Nat.le_of_ble_eq_true rfl, Nat.le_of_ble_eq_true rfl⟩ ⟨Nat.le_refl _, Nat.le_refl _⟩ (fun H locs hN => ?_)
        refine lv_aload_n hx hb dX8_joins_53 rfl (lv_at hl 1 rfl) ?_
        refine lv_iload_n hx hb dX8_joins_54 rfl (lv_at hl 2 rfl) ?_
        refine lv_iload_n hx hb dX8_joins_55 rfl (lv_at hl 3 rfl) ?_
        refine lv_iconst (v := 1) hx hb dX8_joins_56 rfl ?_
        refine lv_iconst (v := 0) hx hb dX8_joins_57 rfl ?_
        obtain ⟨z_9, hz_9, h⟩ := bi_e h
        refine n_callVv (ws' := wX8 E adc z_9 c_read z_5.1 z_5.2 c_images c_isKept c_text c_letters c_at c_token c_tokenAt c_value c_facts c_seen z_8 c_weakLink c_weakTwos c_which c_views c_whichMany) hC hN (tX8_putLink l E adc c_now c_read z_5.1 z_5.2 c_images c_isKept c_text c_letters c_at c_token c_tokenAt c_value c_facts c_seen z_8 c_weakLink c_weakTwos c_which c_views c_whichMany p1 p2 1 0 z_9 hz_9) cy_X8_putLink mML_X8_161 mIM_X8_putLink mSE_X8_putLink rfl rfl (k := 0) rfl (perm_self _) (perm_self _) rfl rfl hl.1 rfl (Nat.le_of_ble_eq_true rfl) dX8_joins_58 ⟨Nat.le_of_ble_eq_true rfl, Nat.le_of_ble_eq_true rfl⟩ ⟨Nat.le_refl _, Nat.le_refl _⟩ (fun H locs hN => ?_)
        refine lv_iload_n hx hb dX8_joins_61 rfl (lv_at hl 0 rfl) ?_
        refine lv_if_le (tgt := 123) hx hb dX8_joins_62 (by decide) (fun c10 => ?_) (fun c10 => ?_)
        · have h := if_t h c10
          refine lv_aload_n hx hb dX8_joins_123 rfl (lv_at hl 1 rfl) ?_
          obtain ⟨z_11, hz_11, h⟩ := bi_e h
          refine n_callVv (ws' := wX8 E adc z_11 c_read z_5.1 z_5.2 c_images c_isKept c_text c_letters c_at c_token c_tokenAt c_value c_facts c_seen z_8 c_weakLink c_weakTwos c_which c_views c_whichMany) hC hN (tX8_tellNews l E adc z_9 c_read z_5.1 z_5.2 c_images c_isKept c_text c_letters c_at c_token c_tokenAt c_value c_facts c_seen z_8 c_weakLink c_weakTwos c_which c_views c_whichMany z_11 hz_11) cy_X8_tellNews mML_X8_175 mIM_X8_tellNews mSE_X8_tellNews rfl rfl (k := 0) rfl (perm_self _) (perm_self _) rfl rfl hl.1 rfl (Nat.le_of_ble_eq_true rfl) dX8_joins_124 ⟨Nat.le_of_ble_eq_true rfl, Nat.le_of_ble_eq_true rfl⟩ ⟨Nat.le_refl _, Nat.le_refl _⟩ (fun H locs hN => ?_)
          refine lv_iconst (v := 1) hx hb dX8_joins_127 rfl ?_
          obtain rfl := Option.some.inj h
          exact n_iret hC hN dX8_joins_128
        · have h := if_f h c10
          refine lv_aload_n hx hb dX8_joins_65 rfl (lv_at hl 1 rfl) ?_
          refine lv_iload_n hx hb dX8_joins_66 rfl (lv_at hl 2 rfl) ?_
          obtain ⟨r_12, hr_12, h⟩ := bi_e h
          refine n_callVi (ws' := wX8 E adc z_9 c_read z_5.1 z_5.2 c_images c_isKept c_text c_letters c_at c_token c_tokenAt c_value c_facts c_seen z_8 c_weakLink c_weakTwos c_which c_views c_whichMany) hC hN (tX8_fabricOf l E adc z_9 c_read z_5.1 z_5.2 c_images c_isKept c_text c_letters c_at c_token c_tokenAt c_value c_facts c_seen z_8 c_weakLink c_weakTwos c_which c_views c_whichMany p1 r_12 hr_12) cy_X8_fabricOf mML_X8_109 mIM_X8_fabricOf mSE_X8_fabricOf rfl rfl (k := 0) rfl (perm_self _) (perm_self _) rfl rfl hl.1 rfl (Nat.le_of_ble_eq_true rfl) dX8_joins_67 ⟨Nat.le_of_ble_eq_true rfl, Nat.le_of_ble_eq_true rfl⟩ ⟨Nat.le_refl _, Nat.le_refl _⟩ (fun H locs hN => ?_)
          refine lv_istore (lv' := [(4, .int r_12), (3, .int r_6), (0, .ref (adc 0)), (1, .int p1), (2, .int p2)]) hx hb dX8_joins_70 hl (by decide) rfl (fun ls hl => ?_)
          refine lv_iconst (v := 0) hx hb dX8_joins_72 rfl ?_
          refine lv_istore (lv' := [(5, .int 0), (4, .int r_12), (3, .int r_6), (0, .ref (adc 0)), (1, .int p1), (2, .int p2)]) hx hb dX8_joins_73 hl (by decide) rfl (fun ls hl => ?_)
          have L1 : ∀ (fu : Nat) (v5_13 : Int32) (c_now_14 : Nat → Int32) (z : Int32 × (Nat → Int32)) (H : Heap) (locs : List Loc) (ls : Array Slot), Nw E s (AD (wX8 E adc c_now c_read c_past c_deeds c_images c_isKept c_text c_letters c_at c_token c_tokenAt c_value c_facts c_seen c_seenAhead c_weakLink c_weakTwos c_which c_views c_whichMany)) (wX8 E adc c_now_14 c_read z_5.1 z_5.2 c_images c_isKept c_text c_letters c_at c_token c_tokenAt c_value c_facts c_seen z_8 c_weakLink c_weakTwos c_which c_views c_whichMany) H locs → lv_has ls 6 [(0, .ref (adc 0)), (1, .int p1), (2, .int p2), (3, .int r_6), (4, .int r_12), (5, .int v5_13)] → fX8_joins_L1 p1 p2 r_12 fu v5_13 c_now_14 = some z → (∀ (H : Heap) (locs : List Loc) (ls : Array Slot), Nw E s (AD (wX8 E adc c_now c_read c_past c_deeds c_images c_isKept c_text c_letters c_at c_token c_tokenAt c_value c_facts c_seen c_seenAhead c_weakLink c_weakTwos c_which c_views c_whichMany)) (wX8 E adc z.2 c_read z_5.1 z_5.2 c_images c_isKept c_text c_letters c_at c_token c_tokenAt c_value c_facts c_seen z_8 c_weakLink c_weakTwos c_which c_views c_whichMany) H locs → lv_has ls 6 [(0, .ref (adc 0)), (1, .int p1), (2, .int p2), (3, .int r_6), (4, .int r_12), (5, .int z.1)] → WN p l e 6 139 s m args below meth c E (wX8 E adc c_now c_read c_past c_deeds c_images c_isKept c_text c_letters c_at c_token c_tokenAt c_value c_facts c_seen c_seenAhead c_weakLink c_weakTwos c_which c_views c_whichMany) (some (.int z0.1)) (wX8 E adc z0.2.1 c_read z0.2.2.1 z0.2.2.2.1 c_images c_isKept c_text c_letters c_at c_token c_tokenAt c_value c_facts c_seen z0.2.2.2.2 c_weakLink c_weakTwos c_which c_views c_whichMany) H locs (F0 m 110 ls [])) → WN p l e 6 139 s m args below meth c E (wX8 E adc c_now c_read c_past c_deeds c_images c_isKept c_text c_letters c_at c_token c_tokenAt c_value c_facts c_seen c_seenAhead c_weakLink c_weakTwos c_which c_views c_whichMany) (some (.int z0.1)) (wX8 E adc z0.2.1 c_read z0.2.2.1 z0.2.2.2.1 c_images c_isKept c_text c_letters c_at c_token c_tokenAt c_value c_facts c_seen z0.2.2.2.2 c_weakLink c_weakTwos c_which c_views c_whichMany) H locs (F0 m 75 ls []) := by
            intro fu
            induction fu with
            | zero =>
              intro v5_13 c_now_14 z H locs ls hN hl h K
              cases (show (none : Option (Int32 × (Nat → Int32))) = some z from h)
            | succ fu ih =>
              intro v5_13 c_now_14 z H locs ls hN hl h K
              rw [fX8_joins_L1.eq_2] at h
              refine lv_iload hx hb dX8_joins_75 (lv_at hl 5 rfl) ?_
              refine lv_iconst (v := 4) hx hb dX8_joins_77 rfl ?_
              refine lv_icmp_ge (tgt := 110) hx hb dX8_joins_78 (by decide) (fun c15 => ?_) (fun c15 => ?_)
              · have h := if_t h c15
                obtain rfl := Option.some.inj h
                exact K _ _ _ hN (lv_sub hl [0, 1, 2, 3, 4, 5] rfl)
              · have h := if_f h c15
                refine lv_aload_n hx hb dX8_joins_81 rfl (lv_at hl 0 rfl) ?_
                refine lv_iload hx hb dX8_joins_82 (lv_at hl 4 rfl) ?_
                refine lv_iload hx hb dX8_joins_84 (lv_at hl 5 rfl) ?_
                refine lv_aload_n hx hb dX8_joins_86 rfl (lv_at hl 0 rfl) ?_
                refine lv_iload_n hx hb dX8_joins_87 rfl (lv_at hl 1 rfl) ?_
                refine lv_iload hx hb dX8_joins_88 (lv_at hl 5 rfl) ?_
                obtain ⟨r_16, hr_16, h⟩ := bi_e h
                refine n_callVi (ws' := wX8 E adc c_now_14 c_read z_5.1 z_5.2 c_images c_isKept c_text c_letters c_at c_token c_tokenAt c_value c_facts c_seen z_8 c_weakLink c_weakTwos c_which c_views c_whichMany) hC hN (tX8_zoneOf l E adc c_now_14 c_read z_5.1 z_5.2 c_images c_isKept c_text c_letters c_at c_token c_tokenAt c_value c_facts c_seen z_8 c_weakLink c_weakTwos c_which c_views c_whichMany p1 v5_13 r_16 hr_16) cy_X8_zoneOf mML_X8_125 mIM_X8_zoneOf mSE_X8_zoneOf rfl rfl (k := 0) rfl (perm_self _) (perm_self _) rfl rfl hl.1 rfl (Nat.le_of_ble_eq_true rfl) dX8_joins_90 ⟨Nat.le_of_ble_eq_true rfl, Nat.le_of_ble_eq_true rfl⟩ ⟨Nat.le_refl _, Nat.le_refl _⟩ (fun H locs hN => ?_)
                refine lv_aload_n hx hb dX8_joins_93 rfl (lv_at hl 0 rfl) ?_
                refine lv_iload_n hx hb dX8_joins_94 rfl (lv_at hl 2 rfl) ?_
                refine lv_iload hx hb dX8_joins_95 (lv_at hl 5 rfl) ?_
                obtain ⟨r_17, hr_17, h⟩ := bi_e h
                refine n_callVi (ws' := wX8 E adc c_now_14 c_read z_5.1 z_5.2 c_images c_isKept c_text c_letters c_at c_token c_tokenAt c_value c_facts c_seen z_8 c_weakLink c_weakTwos c_which c_views c_whichMany) hC hN (tX8_zoneOf l E adc c_now_14 c_read z_5.1 z_5.2 c_images c_isKept c_text c_letters c_at c_token c_tokenAt c_value c_facts c_seen z_8 c_weakLink c_weakTwos c_which c_views c_whichMany p2 v5_13 r_17 hr_17) cy_X8_zoneOf mML_X8_125 mIM_X8_zoneOf mSE_X8_zoneOf rfl rfl (k := 0) rfl (perm_self _) (perm_self _) rfl rfl hl.1 rfl (Nat.le_of_ble_eq_true rfl) dX8_joins_97 ⟨Nat.le_of_ble_eq_true rfl, Nat.le_of_ble_eq_true rfl⟩ ⟨Nat.le_refl _, Nat.le_refl _⟩ (fun H locs hN => ?_)
                refine lv_ior hx hb dX8_joins_100 ?_
                obtain ⟨z_18, hz_18, h⟩ := bi_e h
                refine n_callVv (ws' := wX8 E adc z_18 c_read z_5.1 z_5.2 c_images c_isKept c_text c_letters c_at c_token c_tokenAt c_value c_facts c_seen z_8 c_weakLink c_weakTwos c_which c_views c_whichMany) hC hN (tX8_zoned l E adc c_now_14 c_read z_5.1 z_5.2 c_images c_isKept c_text c_letters c_at c_token c_tokenAt c_value c_facts c_seen z_8 c_weakLink c_weakTwos c_which c_views c_whichMany r_12 v5_13 (r_16 ||| r_17) z_18 hz_18) cy_X8_zoned mML_X8_168 mIM_X8_zoned mSE_X8_zoned rfl rfl (k := 0) rfl (perm_self _) (perm_self _) rfl rfl hl.1 rfl (Nat.le_of_ble_eq_true rfl) dX8_joins_101 ⟨Nat.le_of_ble_eq_true rfl, Nat.le_of_ble_eq_true rfl⟩ ⟨Nat.le_refl _, Nat.le_refl _⟩ (fun H locs hN => ?_)
                obtain ⟨v5_19, ev5_19⟩ : ∃ y : Int32, y = v5_13 + 1 := ⟨_, rfl⟩
                have h := bd_e h v5_19 ev5_19
                refine lv_iinc (v := v5_19) (lv' := [(5, .int v5_19), (0, .ref (adc 0)), (1, .int p1), (2, .int p2), (3, .int r_6), (4, .int r_12)]) hx hb dX8_joins_104 hl (k := 5) rfl (by rw [ev5_19]; rfl) (by decide) rfl (fun ls hl => ?_)
                refine lv_goto (tgt := 75) hx hb dX8_joins_107 (by decide) ?_
                exact ih v5_19 z_18 z _ _ _ hN (lv_sub hl [1, 2, 3, 4, 5, 0] rfl) h K
          obtain ⟨z_20, hz_20, h⟩ := bi_e h
          refine L1 500 0 z_9 z_20 _ _ _ hN (lv_sub hl [3, 4, 5, 2, 1, 0] rfl) hz_20 (fun H locs ls hN hl => ?_)
          refine lv_iload_n hx hb dX8_joins_110 rfl (lv_at hl 3 rfl) ?_
          refine lv_iconst (v := 2) hx hb dX8_joins_111 rfl ?_
          refine lv_icmp_ne (tgt := 123) hx hb dX8_joins_112 (by decide) (fun c21 => ?_) (fun c21 => ?_)
          · have h := if_f h c21
            refine lv_aload_n hx hb dX8_joins_123 rfl (lv_at hl 0 rfl) ?_
            obtain ⟨z_22, hz_22, h⟩ := bi_e h
            refine n_callVv (ws' := wX8 E adc z_22 c_read z_5.1 z_5.2 c_images c_isKept c_text c_letters c_at c_token c_tokenAt c_value c_facts c_seen z_8 c_weakLink c_weakTwos c_which c_views c_whichMany) hC hN (tX8_tellNews l E adc z_20.2 c_read z_5.1 z_5.2 c_images c_isKept c_text c_letters c_at c_token c_tokenAt c_value c_facts c_seen z_8 c_weakLink c_weakTwos c_which c_views c_whichMany z_22 hz_22) cy_X8_tellNews mML_X8_175 mIM_X8_tellNews mSE_X8_tellNews rfl rfl (k := 0) rfl (perm_self _) (perm_self _) rfl rfl hl.1 rfl (Nat.le_of_ble_eq_true rfl) dX8_joins_124 ⟨Nat.le_of_ble_eq_true rfl, Nat.le_of_ble_eq_true rfl⟩ ⟨Nat.le_refl _, Nat.le_refl _⟩ (fun H locs hN => ?_)
            refine lv_iconst (v := 1) hx hb dX8_joins_127 rfl ?_
            obtain rfl := Option.some.inj h
            exact n_iret hC hN dX8_joins_128
          · have h := if_t h c21
            refine lv_aload_n hx hb dX8_joins_115 rfl (lv_at hl 0 rfl) ?_
            refine lv_iload hx hb dX8_joins_116 (lv_at hl 4 rfl) ?_
            obtain ⟨z_23, hz_23, h⟩ := bi_e h
            refine n_callVi (ws' := wX8 E adc z_23.2 c_read z_5.1 z_5.2 c_images c_isKept c_text c_letters c_at c_token c_tokenAt c_value c_facts c_seen z_8 c_weakLink c_weakTwos c_which c_views c_whichMany) hC hN (tX8_handOut l E adc z_20.2 c_read z_5.1 z_5.2 c_images c_isKept c_text c_letters c_at c_token c_tokenAt c_value c_facts c_seen z_8 c_weakLink c_weakTwos c_which c_views c_whichMany r_12 z_23 hz_23) cy_X8_handOut mML_X8_172 mIM_X8_handOut mSE_X8_handOut rfl rfl (k := 0) rfl (perm_self _) (perm_self _) rfl rfl hl.1 rfl (Nat.le_of_ble_eq_true rfl) dX8_joins_118 ⟨Nat.le_of_ble_eq_true rfl, Nat.le_of_ble_eq_true rfl⟩ ⟨Nat.le_refl _, Nat.le_refl _⟩ (fun H locs hN => ?_)
            refine lv_istore (lv' := [(5, .int z_23.1), (0, .ref (adc 0)), (1, .int p1), (2, .int p2), (3, .int r_6), (4, .int r_12)]) hx hb dX8_joins_121 hl (by decide) rfl (fun ls hl => ?_)
            refine lv_aload_n hx hb dX8_joins_123 rfl (lv_at hl 1 rfl) ?_
            obtain ⟨z_24, hz_24, h⟩ := bi_e h
            refine n_callVv (ws' := wX8 E adc z_24 c_read z_5.1 z_5.2 c_images c_isKept c_text c_letters c_at c_token c_tokenAt c_value c_facts c_seen z_8 c_weakLink c_weakTwos c_which c_views c_whichMany) hC hN (tX8_tellNews l E adc z_23.2 c_read z_5.1 z_5.2 c_images c_isKept c_text c_letters c_at c_token c_tokenAt c_value c_facts c_seen z_8 c_weakLink c_weakTwos c_which c_views c_whichMany z_24 hz_24) cy_X8_tellNews mML_X8_175 mIM_X8_tellNews mSE_X8_tellNews rfl rfl (k := 0) rfl (perm_self _) (perm_self _) rfl rfl hl.1 rfl (Nat.le_of_ble_eq_true rfl) dX8_joins_124 ⟨Nat.le_of_ble_eq_true rfl, Nat.le_of_ble_eq_true rfl⟩ ⟨Nat.le_refl _, Nat.le_refl _⟩ (fun H locs hN => ?_)
            refine lv_iconst (v := 1) hx hb dX8_joins_127 rfl ?_
            obtain rfl := Option.some.inj h
            exact n_iret hC hN dX8_joins_128
      · have h := if_f h c7
        refine lv_aload_n hx hb dX8_joins_39 rfl (lv_at hl 1 rfl) ?_
        refine lv_iload_n hx hb dX8_joins_40 rfl (lv_at hl 2 rfl) ?_
        refine lv_iload_n hx hb dX8_joins_41 rfl (lv_at hl 3 rfl) ?_
        refine lv_iconst (v := 0) hx hb dX8_joins_42 rfl ?_
        refine lv_iconst (v := 1) hx hb dX8_joins_43 rfl ?_
        obtain ⟨z_25, hz_25, h⟩ := bi_e h
        refine n_callVv (ws' := wX8 E adc z_25 c_read z_5.1 z_5.2 c_images c_isKept c_text c_letters c_at c_token c_tokenAt c_value c_facts c_seen c_seenAhead c_weakLink c_weakTwos c_which c_views c_whichMany) hC hN (tX8_putLink l E adc c_now c_read z_5.1 z_5.2 c_images c_isKept c_text c_letters c_at c_token c_tokenAt c_value c_facts c_seen c_seenAhead c_weakLink c_weakTwos c_which c_views c_whichMany p1 p2 0 1 z_25 hz_25) cy_X8_putLink mML_X8_161 mIM_X8_putLink mSE_X8_putLink rfl rfl (k := 0) rfl (perm_self _) (perm_self _) rfl rfl hl.1 rfl (Nat.le_of_ble_eq_true rfl) dX8_joins_44 ⟨Nat.le_of_ble_eq_true rfl, Nat.le_of_ble_eq_true rfl⟩ ⟨Nat.le_refl _, Nat.le_refl _⟩ (fun H locs hN => ?_)
        refine lv_iconst (v := 0) hx hb dX8_joins_47 rfl ?_
        obtain rfl := Option.some.inj h
        exact n_iret hC hN dX8_joins_48
    · have h := if_f h c4
      refine lv_bipush (v := -2) hx hb dX8_joins_20 (by decide) ?_
      obtain rfl := Option.some.inj h
      exact n_iret hC hN dX8_joins_22
  · have h := if_t h c2
    refine lv_iconst (v := -1) hx hb dX8_joins_9 rfl ?_
    obtain rfl := Option.some.inj h
    exact n_iret hC hN dX8_joins_10
set_option maxHeartbeats 4000000 in
set_option maxRecDepth 100000 in
theorem tX8_cuts (l : Launch) (E : EV) (adc : Nat → Nat) (c_now : Nat → Int32) (c_read : Nat → Int32) (c_past : Nat → Int32) (c_deeds : Int32) (c_images : Nat → Int32) (c_isKept : Nat → Int32) (c_text : Nat → Int32) (c_letters : Int32) (c_at : Int32) (c_token : Int32) (c_tokenAt : Int32) (c_value : Int32) (c_facts : Nat → Int32) (c_seen : Int32) (c_seenAhead : Nat → Int32) (c_weakLink : Int32) (c_weakTwos : Int32) (c_which : Nat → Int32) (c_views : Nat → Int32) (c_whichMany : Int32) (p1 : Int32) (p2 : Int32) (z : Int32 × (Nat → Int32) × (Nat → Int32) × Int32 × (Nat → Int32)) (h : fX8_cuts c_now c_past c_deeds c_seenAhead p1 p2 = some z) : Cn l E yX8_cuts cX8_cuts 3 (some .int) 6 139 [.ref (adc 0), .int p1, .int p2] (wX8 E adc c_now c_read c_past c_deeds c_images c_isKept c_text c_letters c_at c_token c_tokenAt c_value c_facts c_seen c_seenAhead c_weakLink c_weakTwos c_which c_views c_whichMany) (wX8 E adc z.2.1 c_read z.2.2.1 z.2.2.2.1 c_images c_isKept c_text c_letters c_at c_token c_tokenAt c_value c_facts c_seen z.2.2.2.2 c_weakLink c_weakTwos c_which c_views c_whichMany) (some (.int z.1)) := by
  refine Cn.ofW (by decide +kernel) (Nat.le_of_ble_eq_true rfl) ?_
  intro p e s m args below meth c ls hC hN hl
  have hl : lv_has ls 3 [(0, .ref (adc 0)), (1, .int p1), (2, .int p2)] := hl
  have hx := hC.1
  have hb := hC.2.1
  unfold fX8_cuts at h
  refine lv_aload_n hx hb dX8_cuts_0 rfl (lv_at hl 0 rfl) ?_
  refine lv_iload_n hx hb dX8_cuts_1 rfl (lv_at hl 1 rfl) ?_
  refine lv_iload_n hx hb dX8_cuts_2 rfl (lv_at hl 2 rfl) ?_
  obtain ⟨r_1, hr_1, h⟩ := bi_e h
  refine n_callVi (ws' := wX8 E adc c_now c_read c_past c_deeds c_images c_isKept c_text c_letters c_at c_token c_tokenAt c_value c_facts c_seen c_seenAhead c_weakLink c_weakTwos c_which c_views c_whichMany) hC hN (tX8_areTwo l E adc c_now c_read c_past c_deeds c_images c_isKept c_text c_letters c_at c_token c_tokenAt c_value c_facts c_seen c_seenAhead c_weakLink c_weakTwos c_which c_views c_whichMany p1 p2 r_1 hr_1) cy_X8_areTwo mML_X8_152 mIM_X8_areTwo mSE_X8_areTwo rfl rfl (k := 0) rfl (perm_self _) (perm_self _) rfl rfl hl.1 rfl (Nat.le_of_ble_eq_true rfl) dX8_cuts_3 ⟨Nat.le_of_ble_eq_true rfl, Nat.le_of_ble_eq_true rfl⟩ ⟨Nat.le_refl _, Nat.le_refl _⟩ (fun H locs hN => ?_)
  refine lv_if_ne (tgt := 11) hx hb dX8_cuts_6 (by decide) (fun c2 => ?_) (fun c2 => ?_)
  · have h := if_f h c2
    refine lv_aload_n hx hb dX8_cuts_11 rfl (lv_at hl 0 rfl) ?_
    refine lv_iload_n hx hb dX8_cuts_12 rfl (lv_at hl 1 rfl) ?_
    refine lv_iload_n hx hb dX8_cuts_13 rfl (lv_at hl 2 rfl) ?_
    obtain ⟨r_3, hr_3, h⟩ := bi_e h
    refine n_callVi (ws' := wX8 E adc c_now c_read c_past c_deeds c_images c_isKept c_text c_letters c_at c_token c_tokenAt c_value c_facts c_seen c_seenAhead c_weakLink c_weakTwos c_which c_views c_whichMany) hC hN (tX8_isUp l E adc c_now c_read c_past c_deeds c_images c_isKept c_text c_letters c_at c_token c_tokenAt c_value c_facts c_seen c_seenAhead c_weakLink c_weakTwos c_which c_views c_whichMany p1 p2 r_3 hr_3) cy_X8_isUp mML_X8_155 mIM_X8_isUp mSE_X8_isUp rfl rfl (k := 0) rfl (perm_self _) (perm_self _) rfl rfl hl.1 rfl (Nat.le_of_ble_eq_true rfl) dX8_cuts_14 ⟨Nat.le_of_ble_eq_true rfl, Nat.le_of_ble_eq_true rfl⟩ ⟨Nat.le_refl _, Nat.le_refl _⟩ (fun H locs hN => ?_)
    refine lv_if_ne (tgt := 39) hx hb dX8_cuts_17 (by decide) (fun c4 => ?_) (fun c4 => ?_)
    · have h := if_f h c4
      refine lv_aload_n hx hb dX8_cuts_39 rfl (lv_at hl 0 rfl) ?_
      obtain ⟨z_5, hz_5, h⟩ := bi_e h
      refine n_callVv (ws' := wX8 E adc c_now c_read z_5.1 z_5.2 c_images c_isKept c_text c_letters c_at c_token c_tokenAt c_value c_facts c_seen c_seenAhead c_weakLink c_weakTwos c_which c_views c_whichMany) hC hN (tX8_note l E adc c_now c_read c_past c_deeds c_images c_isKept c_text c_letters c_at c_token c_tokenAt c_value c_facts c_seen c_seenAhead c_weakLink c_weakTwos c_which c_views c_whichMany z_5 hz_5) cy_X8_note mML_X8_93 mIM_X8_note mSE_X8_note rfl rfl (k := 0) rfl (perm_self _) (perm_self _) rfl rfl hl.1 rfl (Nat.le_of_ble_eq_true rfl) dX8_cuts_40 ⟨Nat.le_of_ble_eq_true rfl, Nat.le_of_ble_eq_true rfl⟩ ⟨Nat.le_refl _, Nat.le_refl _⟩ (fun H locs hN => ?_)
      refine lv_aload_n hx hb dX8_cuts_43 rfl (lv_at hl 0 rfl) ?_
      obtain ⟨z_6, hz_6, h⟩ := bi_e h
      refine n_callVv (ws' := wX8 E adc c_now c_read z_5.1 z_5.2 c_images c_isKept c_text c_letters c_at c_token c_tokenAt c_value c_facts c_seen z_6 c_weakLink c_weakTwos c_which c_views c_whichMany) hC hN (tX8_looks l E adc c_now c_read z_5.1 z_5.2 c_images c_isKept c_text c_letters c_at c_token c_tokenAt c_value c_facts c_seen c_seenAhead c_weakLink c_weakTwos c_which c_views c_whichMany z_6 hz_6) cy_X8_looks mML_X8_165 mIM_X8_looks mSE_X8_looks rfl rfl (k := 0) rfl (perm_self _) (perm_self _) rfl rfl hl.1 rfl (Nat.le_of_ble_eq_true rfl) dX8_cuts_44 ⟨Nat.le_of_ble_eq_true rfl, Nat.le_of_ble_eq_true rfl⟩ ⟨Nat.le_refl _, Nat.le_refl _⟩ (fun H locs hN => ?_)
      refine lv_aload_n hx hb dX8_cuts_47 rfl (lv_at hl 0 rfl) ?_
      refine lv_iload_n hx hb dX8_cuts_48 rfl (lv_at hl 1 rfl) ?_
      refine lv_iload_n hx hb dX8_cuts_49 rfl (lv_at hl 2 rfl) ?_
      refine lv_iconst (v := 0) hx hb dX8_cuts_50 rfl ?_
      refine lv_iconst (v := 0) hx hb dX8_cuts_51 rfl ?_
      obtain ⟨z_7, hz_7, h⟩ := bi_e h
      refine n_callVv (ws' := wX8 E adc z_7 c_read z_5.1 z_5.2 c_images c_isKept c_text c_letters c_at c_token c_tokenAt c_value c_facts c_seen z_6 c_weakLink c_weakTwos c_which c_views c_whichMany) hC hN (tX8_putLink l E adc c_now c_read z_5.1 z_5.2 c_images c_isKept c_text c_letters c_at c_token c_tokenAt c_value c_facts c_seen z_6 c_weakLink c_weakTwos c_which c_views c_whichMany p1 p2 0 0 z_7 hz_7) cy_X8_putLink mML_X8_161 mIM_X8_putLink mSE_X8_putLink rfl rfl (k := 0) rfl (perm_self _) (perm_self _) rfl rfl hl.1 rfl (Nat.le_of_ble_eq_true rfl) dX8_cuts_52 ⟨Nat.le_of_ble_eq_true rfl, Nat.le_of_ble_eq_true rfl⟩ ⟨Nat.le_refl _, Nat.le_refl _⟩ (fun H locs hN => ?_)
      refine lv_aload_n hx hb dX8_cuts_55 rfl (lv_at hl 0 rfl) ?_
      obtain ⟨z_8, hz_8, h⟩ := bi_e h
      refine n_callVv (ws' := wX8 E adc z_8 c_read z_5.1 z_5.2 c_images c_isKept c_text c_letters c_at c_token c_tokenAt c_value c_facts c_seen z_6 c_weakLink c_weakTwos c_which c_views c_whichMany) hC hN (tX8_tellNews l E adc z_7 c_read z_5.1 z_5.2 c_images c_isKept c_text c_letters c_at c_token c_tokenAt c_value c_facts c_seen z_6 c_weakLink c_weakTwos c_which c_views c_whichMany z_8 hz_8) cy_X8_tellNews mML_X8_175 mIM_X8_tellNews mSE_X8_tellNews rfl rfl (k := 0) rfl (perm_self _) (perm_self _) rfl rfl hl.1 rfl (Nat.le_of_ble_eq_true rfl) dX8_cuts_56 ⟨Nat.le_of_ble_eq_true rfl, Nat.le_of_ble_eq_true rfl⟩ ⟨Nat.le_refl _, Nat.le_refl _⟩ (fun H locs hN => ?_)
      refine lv_aload_n hx hb dX8_cuts_59 rfl (lv_at hl 0 rfl) ?_
      obtain ⟨r_9, hr_9, h⟩ := bi_e h
      refine n_callVi (ws' := wX8 E adc z_8 c_read z_5.1 z_5.2 c_images c_isKept c_text c_letters c_at c_token c_tokenAt c_value c_facts c_seen z_6 c_weakLink c_weakTwos c_which c_views c_whichMany) hC hN (tX8_fabrics l E adc z_8 c_read z_5.1 z_5.2 c_images c_isKept c_text c_letters c_at c_token c_tokenAt c_value c_facts c_seen z_6 c_weakLink c_weakTwos c_which c_views c_whichMany r_9 hr_9) cy_X8_fabrics mML_X8_178 mIM_X8_fabrics mSE_X8_fabrics rfl rfl (k := 0) rfl (perm_self _) (perm_self _) rfl rfl hl.1 rfl (Nat.le_of_ble_eq_true rfl) dX8_cuts_60 ⟨Nat.le_of_ble_eq_true rfl, Nat.le_of_ble_eq_true rfl⟩ ⟨Nat.le_refl _, Nat.le_refl _⟩ (fun H locs hN => ?_)
      obtain rfl := Option.some.inj h
      exact n_iret hC hN dX8_cuts_63
    · have h := if_t h c4
      refine lv_aload_n hx hb dX8_cuts_20 rfl (lv_at hl 0 rfl) ?_
      refine gt_X8_now hC hN 0 rfl rfl dX8_cuts_21 ?_
      refine lv_bipush (v := 41) hx hb dX8_cuts_24 (by decide) ?_
      refine lv_iload_n hx hb dX8_cuts_26 rfl (lv_at hl 1 rfl) ?_
      refine lv_iadd hx hb dX8_cuts_27 ?_
      have g := inB_vp (gd_c h)
      have h := gd_e h
      refine n_iald hC hN 1 rfl g dX8_cuts_28 ?_
      refine lv_iload_n hx hb dX8_cuts_29 rfl (lv_at hl 2 rfl) ?_
      obtain ⟨r_10, hr_10, h⟩ := bi_e h
      refine n_callSi (ws' := wX8 E adc c_now c_read c_past c_deeds c_images c_isKept c_text c_letters c_at c_token c_tokenAt c_value c_facts c_seen c_seenAhead c_weakLink c_weakTwos c_which c_views c_whichMany) hC hN (tX8_has l E (c_now (41 + p1).toNatClampNeg) p2 r_10 hr_10) cy_X8_has mML_X8_102 mST_X8_has (perm_nil _) (perm_nil _) rfl rfl hl.1 rfl (Nat.le_of_ble_eq_true rfl) dX8_cuts_30 ⟨Nat.le_of_ble_eq_true rfl, Nat.le_of_ble_eq_true rfl⟩ ⟨Nat.le_refl _, Nat.le_refl _⟩ (fun H locs hN => ?_)
      refine lv_if_ne (tgt := 39) hx hb dX8_cuts_33 (by decide) (fun c11 => ?_) (fun c11 => ?_)
      · have h := if_f h c11
        refine lv_aload_n hx hb dX8_cuts_39 rfl (lv_at hl 0 rfl) ?_
        obtain ⟨z_12, hz_12, h⟩ := bi_e h
        refine n_callVv (ws' := wX8 E adc c_now c_read z_12.1 z_12.2 c_images c_isKept c_text c_letters c_at c_token c_tokenAt c_value c_facts c_seen c_seenAhead c_weakLink c_weakTwos c_which c_views c_whichMany) hC hN (tX8_note l E adc c_now c_read c_past c_deeds c_images c_isKept c_text c_letters c_at c_token c_tokenAt c_value c_facts c_seen c_seenAhead c_weakLink c_weakTwos c_which c_views c_whichMany z_12 hz_12) cy_X8_note mML_X8_93 mIM_X8_note mSE_X8_note rfl rfl (k := 0) rfl (perm_self _) (perm_self _) rfl rfl hl.1 rfl (Nat.le_of_ble_eq_true rfl) dX8_cuts_40 ⟨Nat.le_of_ble_eq_true rfl, Nat.le_of_ble_eq_true rfl⟩ ⟨Nat.le_refl _, Nat.le_refl _⟩ (fun H locs hN => ?_)
        refine lv_aload_n hx hb dX8_cuts_43 rfl (lv_at hl 0 rfl) ?_
        obtain ⟨z_13, hz_13, h⟩ := bi_e h
        refine n_callVv (ws' := wX8 E adc c_now c_read z_12.1 z_12.2 c_images c_isKept c_text c_letters c_at c_token c_tokenAt c_value c_facts c_seen z_13 c_weakLink c_weakTwos c_which c_views c_whichMany) hC hN (tX8_looks l E adc c_now c_read z_12.1 z_12.2 c_images c_isKept c_text c_letters c_at c_token c_tokenAt c_value c_facts c_seen c_seenAhead c_weakLink c_weakTwos c_which c_views c_whichMany z_13 hz_13) cy_X8_looks mML_X8_165 mIM_X8_looks mSE_X8_looks rfl rfl (k := 0) rfl (perm_self _) (perm_self _) rfl rfl hl.1 rfl (Nat.le_of_ble_eq_true rfl) dX8_cuts_44 ⟨Nat.le_of_ble_eq_true rfl, Nat.le_of_ble_eq_true rfl⟩ ⟨Nat.le_refl _, Nat.le_refl _⟩ (fun H locs hN => ?_)
        refine lv_aload_n hx hb dX8_cuts_47 rfl (lv_at hl 0 rfl) ?_
        refine lv_iload_n hx hb dX8_cuts_48 rfl (lv_at hl 1 rfl) ?_
        refine lv_iload_n hx hb dX8_cuts_49 rfl (lv_at hl 2 rfl) ?_
        refine lv_iconst (v := 0) hx hb dX8_cuts_50 rfl ?_
        refine lv_iconst (v := 0) hx hb dX8_cuts_51 rfl ?_
        obtain ⟨z_14, hz_14, h⟩ := bi_e h
        refine n_callVv (ws' := wX8 E adc z_14 c_read z_12.1 z_12.2 c_images c_isKept c_text c_letters c_at c_token c_tokenAt c_value c_facts c_seen z_13 c_weakLink c_weakTwos c_which c_views c_whichMany) hC hN (tX8_putLink l E adc c_now c_read z_12.1 z_12.2 c_images c_isKept c_text c_letters c_at c_token c_tokenAt c_value c_facts c_seen z_13 c_weakLink c_weakTwos c_which c_views c_whichMany p1 p2 0 0 z_14 hz_14) cy_X8_putLink mML_X8_161 mIM_X8_putLink mSE_X8_putLink rfl rfl (k := 0) rfl (perm_self _) (perm_self _) rfl rfl hl.1 rfl (Nat.le_of_ble_eq_true rfl) dX8_cuts_52 ⟨Nat.le_of_ble_eq_true rfl, Nat.le_of_ble_eq_true rfl⟩ ⟨Nat.le_refl _, Nat.le_refl _⟩ (fun H locs hN => ?_)
        refine lv_aload_n hx hb dX8_cuts_55 rfl (lv_at hl 0 rfl) ?_
        obtain ⟨z_15, hz_15, h⟩ := bi_e h
        refine n_callVv (ws' := wX8 E adc z_15 c_read z_12.1 z_12.2 c_images c_isKept c_text c_letters c_at c_token c_tokenAt c_value c_facts c_seen z_13 c_weakLink c_weakTwos c_which c_views c_whichMany) hC hN (tX8_tellNews l E adc z_14 c_read z_12.1 z_12.2 c_images c_isKept c_text c_letters c_at c_token c_tokenAt c_value c_facts c_seen z_13 c_weakLink c_weakTwos c_which c_views c_whichMany z_15 hz_15) cy_X8_tellNews mML_X8_175 mIM_X8_tellNews mSE_X8_tellNews rfl rfl (k := 0) rfl (perm_self _) (perm_self _) rfl rfl hl.1 rfl (Nat.le_of_ble_eq_true rfl) dX8_cuts_56 ⟨Nat.le_of_ble_eq_true rfl, Nat.le_of_ble_eq_true rfl⟩ ⟨Nat.le_refl _, Nat.le_refl _⟩ (fun H locs hN => ?_)
        refine lv_aload_n hx hb dX8_cuts_59 rfl (lv_at hl 0 rfl) ?_
        obtain ⟨r_16, hr_16, h⟩ := bi_e h
        refine n_callVi (ws' := wX8 E adc z_15 c_read z_12.1 z_12.2 c_images c_isKept c_text c_letters c_at c_token c_tokenAt c_value c_facts c_seen z_13 c_weakLink c_weakTwos c_which c_views c_whichMany) hC hN (tX8_fabrics l E adc z_15 c_read z_12.1 z_12.2 c_images c_isKept c_text c_letters c_at c_token c_tokenAt c_value c_facts c_seen z_13 c_weakLink c_weakTwos c_which c_views c_whichMany r_16 hr_16) cy_X8_fabrics mML_X8_178 mIM_X8_fabrics mSE_X8_fabrics rfl rfl (k := 0) rfl (perm_self _) (perm_self _) rfl rfl hl.1 rfl (Nat.le_of_ble_eq_true rfl) dX8_cuts_60 ⟨Nat.le_of_ble_eq_true rfl, Nat.le_of_ble_eq_true rfl⟩ ⟨Nat.le_refl _, Nat.le_refl _⟩ (fun H locs hN => ?_)
        obtain rfl := Option.some.inj h
        exact n_iret hC hN dX8_cuts_63
      · have h := if_t h c11
        refine lv_bipush (v := -2) hx hb dX8_cuts_36 (by decide) ?_
        obtain rfl := Option.some.inj h
        exact n_iret hC hN dX8_cuts_38
  · have h := if_t h c2
    refine lv_iconst (v := -1) hx hb dX8_cuts_9 rfl ?_
    obtain rfl := Option.some.inj h
    exact n_iret hC hN dX8_cuts_10
set_option maxHeartbeats 4000000 in
set_option maxRecDepth 100000 in
theorem tX8_zones (l : Launch) (E : EV) (adc : Nat → Nat) (c_now : Nat → Int32) (c_read : Nat → Int32) (c_past : Nat → Int32) (c_deeds : Int32) (c_images : Nat → Int32) (c_isKept : Nat → Int32) (c_text : Nat → Int32) (c_letters : Int32) (c_at : Int32) (c_token : Int32) (c_tokenAt : Int32) (c_value : Int32) (c_facts : Nat → Int32) (c_seen : Int32) (c_seenAhead : Nat → Int32) (c_weakLink : Int32) (c_weakTwos : Int32) (c_which : Nat → Int32) (c_views : Nat → Int32) (c_whichMany : Int32) (p1 : Int32) (p2 : Int32) (p3 : Int32) (z : Int32 × (Nat → Int32) × (Nat → Int32) × Int32 × (Nat → Int32)) (h : fX8_zones c_now c_past c_deeds c_seenAhead p1 p2 p3 = some z) : Cn l E yX8_zones cX8_zones 5 (some .int) 6 139 [.ref (adc 0), .int p1, .int p2, .int p3] (wX8 E adc c_now c_read c_past c_deeds c_images c_isKept c_text c_letters c_at c_token c_tokenAt c_value c_facts c_seen c_seenAhead c_weakLink c_weakTwos c_which c_views c_whichMany) (wX8 E adc z.2.1 c_read z.2.2.1 z.2.2.2.1 c_images c_isKept c_text c_letters c_at c_token c_tokenAt c_value c_facts c_seen z.2.2.2.2 c_weakLink c_weakTwos c_which c_views c_whichMany) (some (.int z.1)) := by
  refine Cn.ofW (by decide +kernel) (Nat.le_of_ble_eq_true rfl) ?_
  intro p e s m args below meth c ls hC hN hl
  have hl : lv_has ls 5 [(0, .ref (adc 0)), (1, .int p1), (2, .int p2), (3, .int p3)] := hl
  have hx := hC.1
  have hb := hC.2.1
  unfold fX8_zones at h
  refine lv_aload_n hx hb dX8_zones_0 rfl (lv_at hl 0 rfl) ?_
  refine lv_iload_n hx hb dX8_zones_1 rfl (lv_at hl 1 rfl) ?_
  obtain ⟨r_1, hr_1, h⟩ := bi_e h
  refine n_callVi (ws' := wX8 E adc c_now c_read c_past c_deeds c_images c_isKept c_text c_letters c_at c_token c_tokenAt c_value c_facts c_seen c_seenAhead c_weakLink c_weakTwos c_which c_views c_whichMany) hC hN (tX8_isSwitch l E adc c_now c_read c_past c_deeds c_images c_isKept c_text c_letters c_at c_token c_tokenAt c_value c_facts c_seen c_seenAhead c_weakLink c_weakTwos c_which c_views c_whichMany p1 r_1 hr_1) cy_X8_isSwitch mML_X8_99 mIM_X8_isSwitch mSE_X8_isSwitch rfl rfl (k := 0) rfl (perm_self _) (perm_self _) rfl rfl hl.1 rfl (Nat.le_of_ble_eq_true rfl) dX8_zones_2 ⟨Nat.le_of_ble_eq_true rfl, Nat.le_of_ble_eq_true rfl⟩ ⟨Nat.le_refl _, Nat.le_refl _⟩ (fun H locs hN => ?_)
  refine lv_if_eq (tgt := 35) hx hb dX8_zones_5 (by decide) (fun c2 => ?_) (fun c2 => ?_)
  · have h := if_t h c2
    refine lv_iconst (v := -1) hx hb dX8_zones_35 rfl ?_
    obtain rfl := Option.some.inj h
    exact n_iret hC hN dX8_zones_36
  · have h := if_f h c2
    refine lv_iload_n hx hb dX8_zones_8 rfl (lv_at hl 2 rfl) ?_
    refine lv_iconst (v := 0) hx hb dX8_zones_9 rfl ?_
    refine lv_iconst (v := 3) hx hb dX8_zones_10 rfl ?_
    obtain ⟨r_3, hr_3, h⟩ := bi_e h
    refine n_callSi (ws' := wX8 E adc c_now c_read c_past c_deeds c_images c_isKept c_text c_letters c_at c_token c_tokenAt c_value c_facts c_seen c_seenAhead c_weakLink c_weakTwos c_which c_views c_whichMany) hC hN (tX8_in l E p2 0 3 r_3 hr_3) cy_X8_in mML_X8_55 mST_X8_in (perm_nil _) (perm_nil _) rfl rfl hl.1 rfl (Nat.le_of_ble_eq_true rfl) dX8_zones_11 ⟨Nat.le_of_ble_eq_true rfl, Nat.le_of_ble_eq_true rfl⟩ ⟨Nat.le_refl _, Nat.le_refl _⟩ (fun H locs hN => ?_)
    refine lv_if_eq (tgt := 35) hx hb dX8_zones_14 (by decide) (fun c4 => ?_) (fun c4 => ?_)
    · have h := if_t h c4
      refine lv_iconst (v := -1) hx hb dX8_zones_35 rfl ?_
      obtain rfl := Option.some.inj h
      exact n_iret hC hN dX8_zones_36
    · have h := if_f h c4
      refine lv_iload_n hx hb dX8_zones_17 rfl (lv_at hl 3 rfl) ?_
      refine lv_iconst (v := 0) hx hb dX8_zones_18 rfl ?_
      refine lv_iconst (v := 1) hx hb dX8_zones_19 rfl ?_
      refine lv_aload_n hx hb dX8_zones_20 rfl (lv_at hl 0 rfl) ?_
      refine gt_X8_now hC hN 0 rfl rfl dX8_zones_21 ?_
      refine lv_iconst (v := 1) hx hb dX8_zones_24 rfl ?_
      have g := inB_vp (gd_c h)
      have h := gd_e h
      refine n_iald hC hN 1 rfl g dX8_zones_25 ?_
      refine lv_ishl hx hb dX8_zones_26 ?_
      refine lv_iconst (v := 1) hx hb dX8_zones_27 rfl ?_
      refine lv_isub hx hb dX8_zones_28 ?_
      obtain ⟨r_5, hr_5, h⟩ := bi_e h
      refine n_callSi (ws' := wX8 E adc c_now c_read c_past c_deeds c_images c_isKept c_text c_letters c_at c_token c_tokenAt c_value c_facts c_seen c_seenAhead c_weakLink c_weakTwos c_which c_views c_whichMany) hC hN (tX8_in l E p3 0 ((1 <<< ((c_now (1 : Int32).toNatClampNeg) &&& 31)) - 1) r_5 hr_5) cy_X8_in mML_X8_55 mST_X8_in (perm_nil _) (perm_nil _) rfl rfl hl.1 rfl (Nat.le_of_ble_eq_true rfl) dX8_zones_29 ⟨Nat.le_of_ble_eq_true rfl, Nat.le_of_ble_eq_true rfl⟩ ⟨Nat.le_refl _, Nat.le_refl _⟩ (fun H locs hN => ?_)
      refine lv_if_ne (tgt := 37) hx hb dX8_zones_32 (by decide) (fun c6 => ?_) (fun c6 => ?_)
      · have h := if_f h c6
        refine lv_aload_n hx hb dX8_zones_37 rfl (lv_at hl 0 rfl) ?_
        refine lv_iload_n hx hb dX8_zones_38 rfl (lv_at hl 1 rfl) ?_
        refine lv_iload_n hx hb dX8_zones_39 rfl (lv_at hl 2 rfl) ?_
        obtain ⟨r_7, hr_7, h⟩ := bi_e h
        refine n_callVi (ws' := wX8 E adc c_now c_read c_past c_deeds c_images c_isKept c_text c_letters c_at c_token c_tokenAt c_value c_facts c_seen c_seenAhead c_weakLink c_weakTwos c_which c_views c_whichMany) hC hN (tX8_zoneOf l E adc c_now c_read c_past c_deeds c_images c_isKept c_text c_letters c_at c_token c_tokenAt c_value c_facts c_seen c_seenAhead c_weakLink c_weakTwos c_which c_views c_whichMany p1 p2 r_7 hr_7) cy_X8_zoneOf mML_X8_125 mIM_X8_zoneOf mSE_X8_zoneOf rfl rfl (k := 0) rfl (perm_self _) (perm_self _) rfl rfl hl.1 rfl (Nat.le_of_ble_eq_true rfl) dX8_zones_40 ⟨Nat.le_of_ble_eq_true rfl, Nat.le_of_ble_eq_true rfl⟩ ⟨Nat.le_refl _, Nat.le_refl _⟩ (fun H locs hN => ?_)
        refine lv_istore (lv' := [(4, .int r_7), (0, .ref (adc 0)), (1, .int p1), (2, .int p2), (3, .int p3)]) hx hb dX8_zones_43 hl (by decide) rfl (fun ls hl => ?_)
        refine lv_iload hx hb dX8_zones_45 (lv_at hl 0 rfl) ?_
        refine lv_iload_n hx hb dX8_zones_47 rfl (lv_at hl 4 rfl) ?_
        refine lv_icmp_ne (tgt := 54) hx hb dX8_zones_48 (by decide) (fun c8 => ?_) (fun c8 => ?_)
        · have h := if_f h c8
          refine lv_aload_n hx hb dX8_zones_54 rfl (lv_at hl 1 rfl) ?_
          obtain ⟨z_9, hz_9, h⟩ := bi_e h
          refine n_callVv (ws' := wX8 E adc c_now c_read z_9.1 z_9.2 c_images c_isKept c_text c_letters c_at c_token c_tokenAt c_value c_facts c_seen c_seenAhead c_weakLink c_weakTwos c_which c_views c_whichMany) hC hN (tX8_note l E adc c_now c_read c_past c_deeds c_images c_isKept c_text c_letters c_at c_token c_tokenAt c_value c_facts c_seen c_seenAhead c_weakLink c_weakTwos c_which c_views c_whichMany z_9 hz_9) cy_X8_note mML_X8_93 mIM_X8_note mSE_X8_note rfl rfl (k := 0) rfl (perm_self _) (perm_self _) rfl rfl hl.1 rfl (Nat.le_of_ble_eq_true rfl) dX8_zones_55 ⟨Nat.le_of_ble_eq_true rfl, Nat.le_of_ble_eq_true rfl⟩ ⟨Nat.le_refl _, Nat.le_refl _⟩ (fun H locs hN => ?_)
          refine lv_aload_n hx hb dX8_zones_58 rfl (lv_at hl 1 rfl) ?_
          obtain ⟨z_10, hz_10, h⟩ := bi_e h
          refine n_callVv (ws' := wX8 E adc c_now c_read z_9.1 z_9.2 c_images c_isKept c_text c_letters c_at c_token c_tokenAt c_value c_facts c_seen z_10 c_weakLink c_weakTwos c_which c_views c_whichMany) hC hN (tX8_looks l E adc c_now c_read z_9.1 z_9.2 c_images c_isKept c_text c_letters c_at c_token c_tokenAt c_value c_facts c_seen c_seenAhead c_weakLink c_weakTwos c_which c_views c_whichMany z_10 hz_10) cy_X8_looks mML_X8_165 mIM_X8_looks mSE_X8_looks rfl rfl (k := 0) rfl (perm_self _) (perm_self _) rfl rfl hl.1 rfl (Nat.le_of_ble_eq_true rfl) dX8_zones_59 ⟨Nat.le_of_ble_eq_true rfl, Nat.le_of_ble_eq_true rfl⟩ ⟨Nat.le_refl _, Nat.le_refl _⟩ (fun H locs hN => ?_)
          refine lv_aload_n hx hb dX8_zones_62 rfl (lv_at hl 1 rfl) ?_
          refine lv_aload_n hx hb dX8_zones_63 rfl (lv_at hl 1 rfl) ?_
          refine lv_iload_n hx hb dX8_zones_64 rfl (lv_at hl 2 rfl) ?_
          obtain ⟨r_11, hr_11, h⟩ := bi_e h
          refine n_callVi (ws' := wX8 E adc c_now c_read z_9.1 z_9.2 c_images c_isKept c_text c_letters c_at c_token c_tokenAt c_value c_facts c_seen z_10 c_weakLink c_weakTwos c_which c_views c_whichMany) hC hN (tX8_fabricOf l E adc c_now c_read z_9.1 z_9.2 c_images c_isKept c_text c_letters c_at c_token c_tokenAt c_value c_facts c_seen z_10 c_weakLink c_weakTwos c_which c_views c_whichMany p1 r_11 hr_11) cy_X8_fabricOf mML_X8_109 mIM_X8_fabricOf mSE_X8_fabricOf rfl rfl (k := 0) rfl (perm_self _) (perm_self _) rfl rfl hl.1 rfl (Nat.le_of_ble_eq_true rfl) dX8_zones_65 ⟨Nat.le_of_ble_eq_true rfl, Nat.le_of_ble_eq_true rfl⟩ ⟨Nat.le_refl _, Nat.le_refl _⟩ (fun H locs hN => ?_)
          refine lv_iload_n hx hb dX8_zones_68 rfl (lv_at hl 3 rfl) ?_
          refine lv_iload_n hx hb dX8_zones_69 rfl (lv_at hl 4 rfl) ?_
          obtain ⟨z_12, hz_12, h⟩ := bi_e h
          refine n_callVv (ws' := wX8 E adc z_12 c_read z_9.1 z_9.2 c_images c_isKept c_text c_letters c_at c_token c_tokenAt c_value c_facts c_seen z_10 c_weakLink c_weakTwos c_which c_views c_whichMany) hC hN (tX8_zoned l E adc c_now c_read z_9.1 z_9.2 c_images c_isKept c_text c_letters c_at c_token c_tokenAt c_value c_facts c_seen z_10 c_weakLink c_weakTwos c_which c_views c_whichMany r_11 p2 p3 z_12 hz_12) cy_X8_zoned mML_X8_168 mIM_X8_zoned mSE_X8_zoned rfl rfl (k := 0) rfl (perm_self _) (perm_self _) rfl rfl hl.1 rfl (Nat.le_of_ble_eq_true rfl) dX8_zones_70 ⟨Nat.le_of_ble_eq_true rfl, Nat.le_of_ble_eq_true rfl⟩ ⟨Nat.le_refl _, Nat.le_refl _⟩ (fun H locs hN => ?_)
          refine lv_aload_n hx hb dX8_zones_73 rfl (lv_at hl 1 rfl) ?_
          obtain ⟨z_13, hz_13, h⟩ := bi_e h
          refine n_callVv (ws' := wX8 E adc z_13 c_read z_9.1 z_9.2 c_images c_isKept c_text c_letters c_at c_token c_tokenAt c_value c_facts c_seen z_10 c_weakLink c_weakTwos c_which c_views c_whichMany) hC hN (tX8_tellNews l E adc z_12 c_read z_9.1 z_9.2 c_images c_isKept c_text c_letters c_at c_token c_tokenAt c_value c_facts c_seen z_10 c_weakLink c_weakTwos c_which c_views c_whichMany z_13 hz_13) cy_X8_tellNews mML_X8_175 mIM_X8_tellNews mSE_X8_tellNews rfl rfl (k := 0) rfl (perm_self _) (perm_self _) rfl rfl hl.1 rfl (Nat.le_of_ble_eq_true rfl) dX8_zones_74 ⟨Nat.le_of_ble_eq_true rfl, Nat.le_of_ble_eq_true rfl⟩ ⟨Nat.le_refl _, Nat.le_refl _⟩ (fun H locs hN => ?_)
          refine lv_iload hx hb dX8_zones_77 (lv_at hl 0 rfl) ?_
          obtain rfl := Option.some.inj h
          exact n_iret hC hN dX8_zones_79
        · have h := if_t h c8
          refine lv_bipush (v := -2) hx hb dX8_zones_51 (by decide) ?_
          obtain rfl := Option.some.inj h
          exact n_iret hC hN dX8_zones_53
      · have h := if_t h c6
        refine lv_iconst (v := -1) hx hb dX8_zones_35 rfl ?_
        obtain rfl := Option.some.inj h
        exact n_iret hC hN dX8_zones_36
set_option maxHeartbeats 4000000 in
set_option maxRecDepth 100000 in
theorem tX8_moves (l : Launch) (E : EV) (adc : Nat → Nat) (c_now : Nat → Int32) (c_read : Nat → Int32) (c_past : Nat → Int32) (c_deeds : Int32) (c_images : Nat → Int32) (c_isKept : Nat → Int32) (c_text : Nat → Int32) (c_letters : Int32) (c_at : Int32) (c_token : Int32) (c_tokenAt : Int32) (c_value : Int32) (c_facts : Nat → Int32) (c_seen : Int32) (c_seenAhead : Nat → Int32) (c_weakLink : Int32) (c_weakTwos : Int32) (c_which : Nat → Int32) (c_views : Nat → Int32) (c_whichMany : Int32) (p1 : Int32) (p2 : Int32) (z : Int32 × (Nat → Int32) × (Nat → Int32) × Int32 × (Nat → Int32)) (h : fX8_moves c_now c_past c_deeds c_seenAhead p1 p2 = some z) : Cn l E yX8_moves cX8_moves 4 (some .int) 6 139 [.ref (adc 0), .int p1, .int p2] (wX8 E adc c_now c_read c_past c_deeds c_images c_isKept c_text c_letters c_at c_token c_tokenAt c_value c_facts c_seen c_seenAhead c_weakLink c_weakTwos c_which c_views c_whichMany) (wX8 E adc z.2.1 c_read z.2.2.1 z.2.2.2.1 c_images c_isKept c_text c_letters c_at c_token c_tokenAt c_value c_facts c_seen z.2.2.2.2 c_weakLink c_weakTwos c_which c_views c_whichMany) (some (.int z.1)) := by
  refine Cn.ofW (by decide +kernel) (Nat.le_of_ble_eq_true rfl) ?_
  intro p e s m args below meth c ls hC hN hl
  have hl : lv_has ls 4 [(0, .ref (adc 0)), (1, .int p1), (2, .int p2)] := hl
  have hx := hC.1
  have hb := hC.2.1
  unfold fX8_moves at h
  refine lv_aload_n hx hb dX8_moves_0 rfl (lv_at hl 0 rfl) ?_
  refine lv_iload_n hx hb dX8_moves_1 rfl (lv_at hl 1 rfl) ?_
  obtain ⟨r_1, hr_1, h⟩ := bi_e h
  refine n_callVi (ws' := wX8 E adc c_now c_read c_past c_deeds c_images c_isKept c_text c_letters c_at c_token c_tokenAt c_value c_facts c_seen c_seenAhead c_weakLink c_weakTwos c_which c_views c_whichMany) hC hN (tX8_isHost l E adc c_now c_read c_past c_deeds c_images c_isKept c_text c_letters c_at c_token c_tokenAt c_value c_facts c_seen c_seenAhead c_weakLink c_weakTwos c_which c_views c_whichMany p1 r_1 hr_1) cy_X8_isHost mML_X8_181 mIM_X8_isHost mSE_X8_isHost rfl rfl (k := 0) rfl (perm_self _) (perm_self _) rfl rfl hl.1 rfl (Nat.le_of_ble_eq_true rfl) dX8_moves_2 ⟨Nat.le_of_ble_eq_true rfl, Nat.le_of_ble_eq_true rfl⟩ ⟨Nat.le_refl _, Nat.le_refl _⟩ (fun H locs hN => ?_)
  refine lv_if_eq (tgt := 22) hx hb dX8_moves_5 (by decide) (fun c2 => ?_) (fun c2 => ?_)
  · have h := if_t h c2
    refine lv_iconst (v := -1) hx hb dX8_moves_22 rfl ?_
    obtain rfl := Option.some.inj h
    exact n_iret hC hN dX8_moves_23
  · have h := if_f h c2
    refine lv_iload_n hx hb dX8_moves_8 rfl (lv_at hl 2 rfl) ?_
    refine lv_bipush (v := -9) hx hb dX8_moves_9 (by decide) ?_
    refine lv_icmp_eq (tgt := 24) hx hb dX8_moves_11 (by decide) (fun c3 => ?_) (fun c3 => ?_)
    · have h := if_t h c3
      refine lv_aload_n hx hb dX8_moves_24 rfl (lv_at hl 0 rfl) ?_
      refine gt_X8_now hC hN 0 rfl rfl dX8_moves_25 ?_
      refine lv_bipush (v := 27) hx hb dX8_moves_28 (by decide) ?_
      refine lv_iload_n hx hb dX8_moves_30 rfl (lv_at hl 1 rfl) ?_
      refine lv_iadd hx hb dX8_moves_31 ?_
      have g := inB_vp (gd_c h)
      have h := gd_e h
      refine n_iald hC hN 1 rfl g dX8_moves_32 ?_
      refine lv_topi (fun v3_4 ev3_4 => ?_)
      have h := bd_e h v3_4 ev3_4
      refine lv_istore_n (lv' := [(3, .int v3_4), (0, .ref (adc 0)), (1, .int p1), (2, .int p2)]) hx hb dX8_moves_33 rfl hl (by decide) rfl (fun ls hl => ?_)
      refine lv_iload_n hx hb dX8_moves_34 rfl (lv_at hl 0 rfl) ?_
      refine lv_iload_n hx hb dX8_moves_35 rfl (lv_at hl 3 rfl) ?_
      refine lv_icmp_ne (tgt := 42) hx hb dX8_moves_36 (by decide) (fun c5 => ?_) (fun c5 => ?_)
      · have h := if_f h c5
        refine lv_aload_n hx hb dX8_moves_42 rfl (lv_at hl 1 rfl) ?_
        obtain ⟨z_6, hz_6, h⟩ := bi_e h
        refine n_callVv (ws' := wX8 E adc c_now c_read z_6.1 z_6.2 c_images c_isKept c_text c_letters c_at c_token c_tokenAt c_value c_facts c_seen c_seenAhead c_weakLink c_weakTwos c_which c_views c_whichMany) hC hN (tX8_note l E adc c_now c_read c_past c_deeds c_images c_isKept c_text c_letters c_at c_token c_tokenAt c_value c_facts c_seen c_seenAhead c_weakLink c_weakTwos c_which c_views c_whichMany z_6 hz_6) cy_X8_note mML_X8_93 mIM_X8_note mSE_X8_note rfl rfl (k := 0) rfl (perm_self _) (perm_self _) rfl rfl hl.1 rfl (Nat.le_of_ble_eq_true rfl) dX8_moves_43 ⟨Nat.le_of_ble_eq_true rfl, Nat.le_of_ble_eq_true rfl⟩ ⟨Nat.le_refl _, Nat.le_refl _⟩ (fun H locs hN => ?_)
        refine lv_aload_n hx hb dX8_moves_46 rfl (lv_at hl 1 rfl) ?_
        obtain ⟨z_7, hz_7, h⟩ := bi_e h
        refine n_callVv (ws' := wX8 E adc c_now c_read z_6.1 z_6.2 c_images c_isKept c_text c_letters c_at c_token c_tokenAt c_value c_facts c_seen z_7 c_weakLink c_weakTwos c_which c_views c_whichMany) hC hN (tX8_looks l E adc c_now c_read z_6.1 z_6.2 c_images c_isKept c_text c_letters c_at c_token c_tokenAt c_value c_facts c_seen c_seenAhead c_weakLink c_weakTwos c_which c_views c_whichMany z_7 hz_7) cy_X8_looks mML_X8_165 mIM_X8_looks mSE_X8_looks rfl rfl (k := 0) rfl (perm_self _) (perm_self _) rfl rfl hl.1 rfl (Nat.le_of_ble_eq_true rfl) dX8_moves_47 ⟨Nat.le_of_ble_eq_true rfl, Nat.le_of_ble_eq_true rfl⟩ ⟨Nat.le_refl _, Nat.le_refl _⟩ (fun H locs hN => ?_)
        refine lv_aload_n hx hb dX8_moves_50 rfl (lv_at hl 1 rfl) ?_
        refine gt_X8_now hC hN 0 rfl rfl dX8_moves_51 ?_
        refine lv_bipush (v := 27) hx hb dX8_moves_54 (by decide) ?_
        refine lv_iload_n hx hb dX8_moves_56 rfl (lv_at hl 2 rfl) ?_
        refine lv_iadd hx hb dX8_moves_57 ?_
        refine lv_iload_n hx hb dX8_moves_58 rfl (lv_at hl 3 rfl) ?_
        have g := inB_vp (gd_c h)
        have h := gd_e h
        obtain ⟨c_now_8, ec_now_8⟩ : ∃ y : Nat → Int32, y = upd c_now (27 + p1).toNatClampNeg p2 := ⟨_, rfl⟩
        have h := bd_e h c_now_8 ec_now_8
        refine n_iast hC hN 1 rfl g ec_now_8 (ws' := wX8 E adc c_now_8 c_read z_6.1 z_6.2 c_images c_isKept c_text c_letters c_at c_token c_tokenAt c_value c_facts c_seen z_7 c_weakLink c_weakTwos c_which c_views c_whichMany) rfl dX8_moves_59 (fun H locs hN => ?_)
        refine lv_aload_n hx hb dX8_moves_60 rfl (lv_at hl 1 rfl) ?_
        obtain ⟨z_9, hz_9, h⟩ := bi_e h
        refine n_callVv (ws' := wX8 E adc z_9 c_read z_6.1 z_6.2 c_images c_isKept c_text c_letters c_at c_token c_tokenAt c_value c_facts c_seen z_7 c_weakLink c_weakTwos c_which c_views c_whichMany) hC hN (tX8_tellNews l E adc c_now_8 c_read z_6.1 z_6.2 c_images c_isKept c_text c_letters c_at c_token c_tokenAt c_value c_facts c_seen z_7 c_weakLink c_weakTwos c_which c_views c_whichMany z_9 hz_9) cy_X8_tellNews mML_X8_175 mIM_X8_tellNews mSE_X8_tellNews rfl rfl (k := 0) rfl (perm_self _) (perm_self _) rfl rfl hl.1 rfl (Nat.le_of_ble_eq_true rfl) dX8_moves_61 ⟨Nat.le_of_ble_eq_true rfl, Nat.le_of_ble_eq_true rfl⟩ ⟨Nat.le_refl _, Nat.le_refl _⟩ (fun H locs hN => ?_)
        refine lv_iload_n hx hb dX8_moves_64 rfl (lv_at hl 0 rfl) ?_
        obtain rfl := Option.some.inj h
        exact n_iret hC hN dX8_moves_65
      · have h := if_t h c5
        refine lv_bipush (v := -2) hx hb dX8_moves_39 (by decide) ?_
        obtain rfl := Option.some.inj h
        exact n_iret hC hN dX8_moves_41
    · have h := if_f h c3
      refine lv_aload_n hx hb dX8_moves_14 rfl (lv_at hl 0 rfl) ?_
      refine lv_iload_n hx hb dX8_moves_15 rfl (lv_at hl 2 rfl) ?_
      obtain ⟨r_10, hr_10, h⟩ := bi_e h
      refine n_callVi (ws' := wX8 E adc c_now c_read c_past c_deeds c_images c_isKept c_text c_letters c_at c_token c_tokenAt c_value c_facts c_seen c_seenAhead c_weakLink c_weakTwos c_which c_views c_whichMany) hC hN (tX8_isSwitch l E adc c_now c_read c_past c_deeds c_images c_isKept c_text c_letters c_at c_token c_tokenAt c_value c_facts c_seen c_seenAhead c_weakLink c_weakTwos c_which c_views c_whichMany p2 r_10 hr_10) cy_X8_isSwitch mML_X8_99 mIM_X8_isSwitch mSE_X8_isSwitch rfl rfl (k := 0) rfl (perm_self _) (perm_self _) rfl rfl hl.1 rfl (Nat.le_of_ble_eq_true rfl) dX8_moves_16 ⟨Nat.le_of_ble_eq_true rfl, Nat.le_of_ble_eq_true rfl⟩ ⟨Nat.le_refl _, Nat.le_refl _⟩ (fun H locs hN => ?_)
      refine lv_if_ne (tgt := 24) hx hb dX8_moves_19 (by decide) (fun c11 => ?_) (fun c11 => ?_)
      · have h := if_f h c11
        refine lv_aload_n hx hb dX8_moves_24 rfl (lv_at hl 0 rfl) ?_
        refine gt_X8_now hC hN 0 rfl rfl dX8_moves_25 ?_
        refine lv_bipush (v := 27) hx hb dX8_moves_28 (by decide) ?_
        refine lv_iload_n hx hb dX8_moves_30 rfl (lv_at hl 1 rfl) ?_
        refine lv_iadd hx hb dX8_moves_31 ?_
        have g := inB_vp (gd_c h)
        have h := gd_e h
        refine n_iald hC hN 1 rfl g dX8_moves_32 ?_
        refine lv_topi (fun v3_12 ev3_12 => ?_)
        have h := bd_e h v3_12 ev3_12
        refine lv_istore_n (lv' := [(3, .int v3_12), (0, .ref (adc 0)), (1, .int p1), (2, .int p2)]) hx hb dX8_moves_33 rfl hl (by decide) rfl (fun ls hl => ?_)
        refine lv_iload_n hx hb dX8_moves_34 rfl (lv_at hl 0 rfl) ?_
        refine lv_iload_n hx hb dX8_moves_35 rfl (lv_at hl 3 rfl) ?_
        refine lv_icmp_ne (tgt := 42) hx hb dX8_moves_36 (by decide) (fun c13 => ?_) (fun c13 => ?_)
        · have h := if_f h c13
          refine lv_aload_n hx hb dX8_moves_42 rfl (lv_at hl 1 rfl) ?_
          obtain ⟨z_14, hz_14, h⟩ := bi_e h
          refine n_callVv (ws' := wX8 E adc c_now c_read z_14.1 z_14.2 c_images c_isKept c_text c_letters c_at c_token c_tokenAt c_value c_facts c_seen c_seenAhead c_weakLink c_weakTwos c_which c_views c_whichMany) hC hN (tX8_note l E adc c_now c_read c_past c_deeds c_images c_isKept c_text c_letters c_at c_token c_tokenAt c_value c_facts c_seen c_seenAhead c_weakLink c_weakTwos c_which c_views c_whichMany z_14 hz_14) cy_X8_note mML_X8_93 mIM_X8_note mSE_X8_note rfl rfl (k := 0) rfl (perm_self _) (perm_self _) rfl rfl hl.1 rfl (Nat.le_of_ble_eq_true rfl) dX8_moves_43 ⟨Nat.le_of_ble_eq_true rfl, Nat.le_of_ble_eq_true rfl⟩ ⟨Nat.le_refl _, Nat.le_refl _⟩ (fun H locs hN => ?_)
          refine lv_aload_n hx hb dX8_moves_46 rfl (lv_at hl 1 rfl) ?_
          obtain ⟨z_15, hz_15, h⟩ := bi_e h
          refine n_callVv (ws' := wX8 E adc c_now c_read z_14.1 z_14.2 c_images c_isKept c_text c_letters c_at c_token c_tokenAt c_value c_facts c_seen z_15 c_weakLink c_weakTwos c_which c_views c_whichMany) hC hN (tX8_looks l E adc c_now c_read z_14.1 z_14.2 c_images c_isKept c_text c_letters c_at c_token c_tokenAt c_value c_facts c_seen c_seenAhead c_weakLink c_weakTwos c_which c_views c_whichMany z_15 hz_15) cy_X8_looks mML_X8_165 mIM_X8_looks mSE_X8_looks rfl rfl (k := 0) rfl (perm_self _) (perm_self _) rfl rfl hl.1 rfl (Nat.le_of_ble_eq_true rfl) dX8_moves_47 ⟨Nat.le_of_ble_eq_true rfl, Nat.le_of_ble_eq_true rfl⟩ ⟨Nat.le_refl _, Nat.le_refl _⟩ (fun H locs hN => ?_)
          refine lv_aload_n hx hb dX8_moves_50 rfl (lv_at hl 1 rfl) ?_
          refine gt_X8_now hC hN 0 rfl rfl dX8_moves_51 ?_
          refine lv_bipush (v := 27) hx hb dX8_moves_54 (by decide) ?_
          refine lv_iload_n hx hb dX8_moves_56 rfl (lv_at hl 2 rfl) ?_
          refine lv_iadd hx hb dX8_moves_57 ?_
          refine lv_iload_n hx hb dX8_moves_58 rfl (lv_at hl 3 rfl) ?_
          have g := inB_vp (gd_c h)
          have h := gd_e h
          obtain ⟨c_now_16, ec_now_16⟩ : ∃ y : Nat → Int32, y = upd c_now (27 + p1).toNatClampNeg p2 := ⟨_, rfl⟩
          have h := bd_e h c_now_16 ec_now_16
          refine n_iast hC hN 1 rfl g ec_now_16 (ws' := wX8 E adc c_now_16 c_read z_14.1 z_14.2 c_images c_isKept c_text c_letters c_at c_token c_tokenAt c_value c_facts c_seen z_15 c_weakLink c_weakTwos c_which c_views c_whichMany) rfl dX8_moves_59 (fun H locs hN => ?_)
          refine lv_aload_n hx hb dX8_moves_60 rfl (lv_at hl 1 rfl) ?_
          obtain ⟨z_17, hz_17, h⟩ := bi_e h
          refine n_callVv (ws' := wX8 E adc z_17 c_read z_14.1 z_14.2 c_images c_isKept c_text c_letters c_at c_token c_tokenAt c_value c_facts c_seen z_15 c_weakLink c_weakTwos c_which c_views c_whichMany) hC hN (tX8_tellNews l E adc c_now_16 c_read z_14.1 z_14.2 c_images c_isKept c_text c_letters c_at c_token c_tokenAt c_value c_facts c_seen z_15 c_weakLink c_weakTwos c_which c_views c_whichMany z_17 hz_17) cy_X8_tellNews mML_X8_175 mIM_X8_tellNews mSE_X8_tellNews rfl rfl (k := 0) rfl (perm_self _) (perm_self _) rfl rfl hl.1 rfl (Nat.le_of_ble_eq_true rfl) dX8_moves_61 ⟨Nat.le_of_ble_eq_true rfl, Nat.le_of_ble_eq_true rfl⟩ ⟨Nat.le_refl _, Nat.le_refl _⟩ (fun H locs hN => ?_)
          refine lv_iload_n hx hb dX8_moves_64 rfl (lv_at hl 0 rfl) ?_
          obtain rfl := Option.some.inj h
          exact n_iret hC hN dX8_moves_65
        · have h := if_t h c13
          refine lv_bipush (v := -2) hx hb dX8_moves_39 (by decide) ?_
          obtain rfl := Option.some.inj h
          exact n_iret hC hN dX8_moves_41
      · have h := if_t h c11
        refine lv_iconst (v := -1) hx hb dX8_moves_22 rfl ?_
        obtain rfl := Option.some.inj h
        exact n_iret hC hN dX8_moves_23
set_option maxHeartbeats 4000000 in
set_option maxRecDepth 100000 in
theorem tX8_ranks (l : Launch) (E : EV) (adc : Nat → Nat) (c_now : Nat → Int32) (c_read : Nat → Int32) (c_past : Nat → Int32) (c_deeds : Int32) (c_images : Nat → Int32) (c_isKept : Nat → Int32) (c_text : Nat → Int32) (c_letters : Int32) (c_at : Int32) (c_token : Int32) (c_tokenAt : Int32) (c_value : Int32) (c_facts : Nat → Int32) (c_seen : Int32) (c_seenAhead : Nat → Int32) (c_weakLink : Int32) (c_weakTwos : Int32) (c_which : Nat → Int32) (c_views : Nat → Int32) (c_whichMany : Int32) (p1 : Int32) (p2 : Int32) (z : Int32 × (Nat → Int32) × (Nat → Int32) × Int32) (h : fX8_ranks c_now c_past c_deeds p1 p2 = some z) : Cn l E yX8_ranks cX8_ranks 4 (some .int) 2 45 [.ref (adc 0), .int p1, .int p2] (wX8 E adc c_now c_read c_past c_deeds c_images c_isKept c_text c_letters c_at c_token c_tokenAt c_value c_facts c_seen c_seenAhead c_weakLink c_weakTwos c_which c_views c_whichMany) (wX8 E adc z.2.1 c_read z.2.2.1 z.2.2.2 c_images c_isKept c_text c_letters c_at c_token c_tokenAt c_value c_facts c_seen c_seenAhead c_weakLink c_weakTwos c_which c_views c_whichMany) (some (.int z.1)) := by
  refine Cn.ofW (by decide +kernel) (Nat.le_of_ble_eq_true rfl) ?_
  intro p e s m args below meth c ls hC hN hl
  have hl : lv_has ls 4 [(0, .ref (adc 0)), (1, .int p1), (2, .int p2)] := hl
  have hx := hC.1
  have hb := hC.2.1
  unfold fX8_ranks at h
  refine lv_aload_n hx hb dX8_ranks_0 rfl (lv_at hl 0 rfl) ?_
  refine lv_iload_n hx hb dX8_ranks_1 rfl (lv_at hl 1 rfl) ?_
  obtain ⟨r_1, hr_1, h⟩ := bi_e h
  refine n_callVi (ws' := wX8 E adc c_now c_read c_past c_deeds c_images c_isKept c_text c_letters c_at c_token c_tokenAt c_value c_facts c_seen c_seenAhead c_weakLink c_weakTwos c_which c_views c_whichMany) hC hN (tX8_isSwitch l E adc c_now c_read c_past c_deeds c_images c_isKept c_text c_letters c_at c_token c_tokenAt c_value c_facts c_seen c_seenAhead c_weakLink c_weakTwos c_which c_views c_whichMany p1 r_1 hr_1) cy_X8_isSwitch mML_X8_99 mIM_X8_isSwitch mSE_X8_isSwitch rfl rfl (k := 0) rfl (perm_self _) (perm_self _) rfl rfl hl.1 rfl (Nat.le_of_ble_eq_true rfl) dX8_ranks_2 ⟨Nat.le_of_ble_eq_true rfl, Nat.le_of_ble_eq_true rfl⟩ ⟨Nat.le_refl _, Nat.le_refl _⟩ (fun H locs hN => ?_)
  refine lv_if_eq (tgt := 18) hx hb dX8_ranks_5 (by decide) (fun c2 => ?_) (fun c2 => ?_)
  · have h := if_t h c2
    refine lv_iconst (v := -1) hx hb dX8_ranks_18 rfl ?_
    obtain rfl := Option.some.inj h
    exact n_iret hC hN dX8_ranks_19
  · have h := if_f h c2
    refine lv_iload_n hx hb dX8_ranks_8 rfl (lv_at hl 2 rfl) ?_
    refine lv_iconst (v := 1) hx hb dX8_ranks_9 rfl ?_
    refine lv_bipush (v := 9) hx hb dX8_ranks_10 (by decide) ?_
    obtain ⟨r_3, hr_3, h⟩ := bi_e h
    refine n_callSi (ws' := wX8 E adc c_now c_read c_past c_deeds c_images c_isKept c_text c_letters c_at c_token c_tokenAt c_value c_facts c_seen c_seenAhead c_weakLink c_weakTwos c_which c_views c_whichMany) hC hN (tX8_in l E p2 1 9 r_3 hr_3) cy_X8_in mML_X8_55 mST_X8_in (perm_nil _) (perm_nil _) rfl rfl hl.1 rfl (Nat.le_of_ble_eq_true rfl) dX8_ranks_12 ⟨Nat.le_of_ble_eq_true rfl, Nat.le_of_ble_eq_true rfl⟩ ⟨Nat.le_refl _, Nat.le_refl _⟩ (fun H locs hN => ?_)
    refine lv_if_ne (tgt := 20) hx hb dX8_ranks_15 (by decide) (fun c4 => ?_) (fun c4 => ?_)
    · have h := if_f h c4
      refine lv_aload_n hx hb dX8_ranks_20 rfl (lv_at hl 0 rfl) ?_
      refine lv_iload_n hx hb dX8_ranks_21 rfl (lv_at hl 1 rfl) ?_
      refine lv_iconst (v := 0) hx hb dX8_ranks_22 rfl ?_
      obtain ⟨r_5, hr_5, h⟩ := bi_e h
      refine n_callVi (ws' := wX8 E adc c_now c_read c_past c_deeds c_images c_isKept c_text c_letters c_at c_token c_tokenAt c_value c_facts c_seen c_seenAhead c_weakLink c_weakTwos c_which c_views c_whichMany) hC hN (tX8_of l E adc c_now c_read c_past c_deeds c_images c_isKept c_text c_letters c_at c_token c_tokenAt c_value c_facts c_seen c_seenAhead c_weakLink c_weakTwos c_which c_views c_whichMany p1 0 r_5 hr_5) cy_X8_of mML_X8_115 mIM_X8_of mSE_X8_of rfl rfl (k := 0) rfl (perm_self _) (perm_self _) rfl rfl hl.1 rfl (Nat.le_of_ble_eq_true rfl) dX8_ranks_23 ⟨Nat.le_of_ble_eq_true rfl, Nat.le_of_ble_eq_true rfl⟩ ⟨Nat.le_refl _, Nat.le_refl _⟩ (fun H locs hN => ?_)
      refine lv_istore_n (lv' := [(3, .int r_5), (0, .ref (adc 0)), (1, .int p1), (2, .int p2)]) hx hb dX8_ranks_26 rfl hl (by decide) rfl (fun ls hl => ?_)
      refine lv_iload_n hx hb dX8_ranks_27 rfl (lv_at hl 0 rfl) ?_
      refine lv_iload_n hx hb dX8_ranks_28 rfl (lv_at hl 3 rfl) ?_
      refine lv_icmp_ne (tgt := 35) hx hb dX8_ranks_29 (by decide) (fun c6 => ?_) (fun c6 => ?_)
      · have h := if_f h c6
        refine lv_aload_n hx hb dX8_ranks_35 rfl (lv_at hl 1 rfl) ?_
        obtain ⟨z_7, hz_7, h⟩ := bi_e h
        refine n_callVv (ws' := wX8 E adc c_now c_read z_7.1 z_7.2 c_images c_isKept c_text c_letters c_at c_token c_tokenAt c_value c_facts c_seen c_seenAhead c_weakLink c_weakTwos c_which c_views c_whichMany) hC hN (tX8_note l E adc c_now c_read c_past c_deeds c_images c_isKept c_text c_letters c_at c_token c_tokenAt c_value c_facts c_seen c_seenAhead c_weakLink c_weakTwos c_which c_views c_whichMany z_7 hz_7) cy_X8_note mML_X8_93 mIM_X8_note mSE_X8_note rfl rfl (k := 0) rfl (perm_self _) (perm_self _) rfl rfl hl.1 rfl (Nat.le_of_ble_eq_true rfl) dX8_ranks_36 ⟨Nat.le_of_ble_eq_true rfl, Nat.le_of_ble_eq_true rfl⟩ ⟨Nat.le_refl _, Nat.le_refl _⟩ (fun H locs hN => ?_)
        refine lv_aload_n hx hb dX8_ranks_39 rfl (lv_at hl 1 rfl) ?_
        refine gt_X8_now hC hN 0 rfl rfl dX8_ranks_40 ?_
        refine lv_iconst (v := 3) hx hb dX8_ranks_43 rfl ?_
        refine lv_iconst (v := 4) hx hb dX8_ranks_44 rfl ?_
        refine lv_iload_n hx hb dX8_ranks_45 rfl (lv_at hl 2 rfl) ?_
        refine lv_imul hx hb dX8_ranks_46 ?_
        refine lv_iadd hx hb dX8_ranks_47 ?_
        refine lv_iconst (v := 0) hx hb dX8_ranks_48 rfl ?_
        refine lv_iadd hx hb dX8_ranks_49 ?_
        refine lv_iload_n hx hb dX8_ranks_50 rfl (lv_at hl 3 rfl) ?_
        have g := inB_vp (gd_c h)
        have h := gd_e h
        obtain ⟨c_now_8, ec_now_8⟩ : ∃ y : Nat → Int32, y = upd c_now ((3 + (4 * p1)) + 0).toNatClampNeg p2 := ⟨_, rfl⟩
        have h := bd_e h c_now_8 ec_now_8
        refine n_iast hC hN 1 rfl g ec_now_8 (ws' := wX8 E adc c_now_8 c_read z_7.1 z_7.2 c_images c_isKept c_text c_letters c_at c_token c_tokenAt c_value c_facts c_seen c_seenAhead c_weakLink c_weakTwos c_which c_views c_whichMany) rfl dX8_ranks_51 (fun H locs hN => ?_)
        refine lv_iload_n hx hb dX8_ranks_52 rfl (lv_at hl 0 rfl) ?_
        obtain rfl := Option.some.inj h
        exact n_iret hC hN dX8_ranks_53
      · have h := if_t h c6
        refine lv_bipush (v := -2) hx hb dX8_ranks_32 (by decide) ?_
        obtain rfl := Option.some.inj h
        exact n_iret hC hN dX8_ranks_34
    · have h := if_t h c4
      refine lv_iconst (v := -1) hx hb dX8_ranks_18 rfl ?_
      obtain rfl := Option.some.inj h
      exact n_iret hC hN dX8_ranks_19
set_option maxHeartbeats 4000000 in
set_option maxRecDepth 100000 in
theorem tX8_renews (l : Launch) (E : EV) (adc : Nat → Nat) (c_now : Nat → Int32) (c_read : Nat → Int32) (c_past : Nat → Int32) (c_deeds : Int32) (c_images : Nat → Int32) (c_isKept : Nat → Int32) (c_text : Nat → Int32) (c_letters : Int32) (c_at : Int32) (c_token : Int32) (c_tokenAt : Int32) (c_value : Int32) (c_facts : Nat → Int32) (c_seen : Int32) (c_seenAhead : Nat → Int32) (c_weakLink : Int32) (c_weakTwos : Int32) (c_which : Nat → Int32) (c_views : Nat → Int32) (c_whichMany : Int32) (p1 : Int32) (z : Int32 × (Nat → Int32) × (Nat → Int32) × Int32) (h : fX8_renews c_now c_past c_deeds p1 = some z) : Cn l E yX8_renews cX8_renews 2 (some .int) 5 117 [.ref (adc 0), .int p1] (wX8 E adc c_now c_read c_past c_deeds c_images c_isKept c_text c_letters c_at c_token c_tokenAt c_value c_facts c_seen c_seenAhead c_weakLink c_weakTwos c_which c_views c_whichMany) (wX8 E adc z.2.1 c_read z.2.2.1 z.2.2.2 c_images c_isKept c_text c_letters c_at c_token c_tokenAt c_value c_facts c_seen c_seenAhead c_weakLink c_weakTwos c_which c_views c_whichMany) (some (.int z.1)) := by
  refine Cn.ofW (by decide +kernel) (Nat.le_of_ble_eq_true rfl) ?_
  intro p e s m args below meth c ls hC hN hl
  have hl : lv_has ls 2 [(0, .ref (adc 0)), (1, .int p1)] := hl
  have hx := hC.1
  have hb := hC.2.1
  unfold fX8_renews at h
  refine lv_aload_n hx hb dX8_renews_0 rfl (lv_at hl 0 rfl) ?_
  refine lv_iload_n hx hb dX8_renews_1 rfl (lv_at hl 1 rfl) ?_
  obtain ⟨r_1, hr_1, h⟩ := bi_e h
  refine n_callVi (ws' := wX8 E adc c_now c_read c_past c_deeds c_images c_isKept c_text c_letters c_at c_token c_tokenAt c_value c_facts c_seen c_seenAhead c_weakLink c_weakTwos c_which c_views c_whichMany) hC hN (tX8_isSwitch l E adc c_now c_read c_past c_deeds c_images c_isKept c_text c_letters c_at c_token c_tokenAt c_value c_facts c_seen c_seenAhead c_weakLink c_weakTwos c_which c_views c_whichMany p1 r_1 hr_1) cy_X8_isSwitch mML_X8_99 mIM_X8_isSwitch mSE_X8_isSwitch rfl rfl (k := 0) rfl (perm_self _) (perm_self _) rfl rfl hl.1 rfl (Nat.le_of_ble_eq_true rfl) dX8_renews_2 ⟨Nat.le_of_ble_eq_true rfl, Nat.le_of_ble_eq_true rfl⟩ ⟨Nat.le_refl _, Nat.le_refl _⟩ (fun H locs hN => ?_)
  refine lv_if_ne (tgt := 10) hx hb dX8_renews_5 (by decide) (fun c2 => ?_) (fun c2 => ?_)
  · have h := if_f h c2
    refine lv_aload_n hx hb dX8_renews_10 rfl (lv_at hl 0 rfl) ?_
    obtain ⟨z_3, hz_3, h⟩ := bi_e h
    refine n_callVv (ws' := wX8 E adc c_now c_read z_3.1 z_3.2 c_images c_isKept c_text c_letters c_at c_token c_tokenAt c_value c_facts c_seen c_seenAhead c_weakLink c_weakTwos c_which c_views c_whichMany) hC hN (tX8_note l E adc c_now c_read c_past c_deeds c_images c_isKept c_text c_letters c_at c_token c_tokenAt c_value c_facts c_seen c_seenAhead c_weakLink c_weakTwos c_which c_views c_whichMany z_3 hz_3) cy_X8_note mML_X8_93 mIM_X8_note mSE_X8_note rfl rfl (k := 0) rfl (perm_self _) (perm_self _) rfl rfl hl.1 rfl (Nat.le_of_ble_eq_true rfl) dX8_renews_11 ⟨Nat.le_of_ble_eq_true rfl, Nat.le_of_ble_eq_true rfl⟩ ⟨Nat.le_refl _, Nat.le_refl _⟩ (fun H locs hN => ?_)
    refine lv_aload_n hx hb dX8_renews_14 rfl (lv_at hl 0 rfl) ?_
    refine lv_aload_n hx hb dX8_renews_15 rfl (lv_at hl 0 rfl) ?_
    refine lv_iload_n hx hb dX8_renews_16 rfl (lv_at hl 1 rfl) ?_
    obtain ⟨r_4, hr_4, h⟩ := bi_e h
    refine n_callVi (ws' := wX8 E adc c_now c_read z_3.1 z_3.2 c_images c_isKept c_text c_letters c_at c_token c_tokenAt c_value c_facts c_seen c_seenAhead c_weakLink c_weakTwos c_which c_views c_whichMany) hC hN (tX8_fabricOf l E adc c_now c_read z_3.1 z_3.2 c_images c_isKept c_text c_letters c_at c_token c_tokenAt c_value c_facts c_seen c_seenAhead c_weakLink c_weakTwos c_which c_views c_whichMany p1 r_4 hr_4) cy_X8_fabricOf mML_X8_109 mIM_X8_fabricOf mSE_X8_fabricOf rfl rfl (k := 0) rfl (perm_self _) (perm_self _) rfl rfl hl.1 rfl (Nat.le_of_ble_eq_true rfl) dX8_renews_17 ⟨Nat.le_of_ble_eq_true rfl, Nat.le_of_ble_eq_true rfl⟩ ⟨Nat.le_refl _, Nat.le_refl _⟩ (fun H locs hN => ?_)
    obtain ⟨z_5, hz_5, h⟩ := bi_e h
    refine n_callVi (ws' := wX8 E adc z_5.2 c_read z_3.1 z_3.2 c_images c_isKept c_text c_letters c_at c_token c_tokenAt c_value c_facts c_seen c_seenAhead c_weakLink c_weakTwos c_which c_views c_whichMany) hC hN (tX8_handOut l E adc c_now c_read z_3.1 z_3.2 c_images c_isKept c_text c_letters c_at c_token c_tokenAt c_value c_facts c_seen c_seenAhead c_weakLink c_weakTwos c_which c_views c_whichMany r_4 z_5 hz_5) cy_X8_handOut mML_X8_172 mIM_X8_handOut mSE_X8_handOut rfl rfl (k := 0) rfl (perm_self _) (perm_self _) rfl rfl hl.1 rfl (Nat.le_of_ble_eq_true rfl) dX8_renews_20 ⟨Nat.le_of_ble_eq_true rfl, Nat.le_of_ble_eq_true rfl⟩ ⟨Nat.le_refl _, Nat.le_refl _⟩ (fun H locs hN => ?_)
    obtain rfl := Option.some.inj h
    exact n_iret hC hN dX8_renews_23
  · have h := if_t h c2
    refine lv_iconst (v := -1) hx hb dX8_renews_8 rfl ?_
    obtain rfl := Option.some.inj h
    exact n_iret hC hN dX8_renews_9
set_option maxHeartbeats 4000000 in
set_option maxRecDepth 100000 in
theorem tX8_allows (l : Launch) (E : EV) (adc : Nat → Nat) (c_now : Nat → Int32) (c_read : Nat → Int32) (c_past : Nat → Int32) (c_deeds : Int32) (c_images : Nat → Int32) (c_isKept : Nat → Int32) (c_text : Nat → Int32) (c_letters : Int32) (c_at : Int32) (c_token : Int32) (c_tokenAt : Int32) (c_value : Int32) (c_facts : Nat → Int32) (c_seen : Int32) (c_seenAhead : Nat → Int32) (c_weakLink : Int32) (c_weakTwos : Int32) (c_which : Nat → Int32) (c_views : Nat → Int32) (c_whichMany : Int32) (p1 : Int32) (z : Int32 × (Nat → Int32) × (Nat → Int32) × Int32) (h : fX8_allows c_now c_past c_deeds p1 = some z) : Cn l E yX8_allows cX8_allows 2 (some .int) 2 45 [.ref (adc 0), .int p1] (wX8 E adc c_now c_read c_past c_deeds c_images c_isKept c_text c_letters c_at c_token c_tokenAt c_value c_facts c_seen c_seenAhead c_weakLink c_weakTwos c_which c_views c_whichMany) (wX8 E adc z.2.1 c_read z.2.2.1 z.2.2.2 c_images c_isKept c_text c_letters c_at c_token c_tokenAt c_value c_facts c_seen c_seenAhead c_weakLink c_weakTwos c_which c_views c_whichMany) (some (.int z.1)) := by
  refine Cn.ofW (by decide +kernel) (Nat.le_of_ble_eq_true rfl) ?_
  intro p e s m args below meth c ls hC hN hl
  have hl : lv_has ls 2 [(0, .ref (adc 0)), (1, .int p1)] := hl
  have hx := hC.1
  have hb := hC.2.1
  unfold fX8_allows at h
  refine lv_iload_n hx hb dX8_allows_0 rfl (lv_at hl 1 rfl) ?_
  refine lv_iconst (v := 0) hx hb dX8_allows_1 rfl ?_
  refine lv_iconst (v := 1) hx hb dX8_allows_2 rfl ?_
  obtain ⟨r_1, hr_1, h⟩ := bi_e h
  refine n_callSi (ws' := wX8 E adc c_now c_read c_past c_deeds c_images c_isKept c_text c_letters c_at c_token c_tokenAt c_value c_facts c_seen c_seenAhead c_weakLink c_weakTwos c_which c_views c_whichMany) hC hN (tX8_in l E p1 0 1 r_1 hr_1) cy_X8_in mML_X8_55 mST_X8_in (perm_nil _) (perm_nil _) rfl rfl hl.1 rfl (Nat.le_of_ble_eq_true rfl) dX8_allows_3 ⟨Nat.le_of_ble_eq_true rfl, Nat.le_of_ble_eq_true rfl⟩ ⟨Nat.le_refl _, Nat.le_refl _⟩ (fun H locs hN => ?_)
  refine lv_if_ne (tgt := 11) hx hb dX8_allows_6 (by decide) (fun c2 => ?_) (fun c2 => ?_)
  · have h := if_f h c2
    refine lv_aload_n hx hb dX8_allows_11 rfl (lv_at hl 0 rfl) ?_
    refine gt_X8_now hC hN 0 rfl rfl dX8_allows_12 ?_
    refine lv_iconst (v := 2) hx hb dX8_allows_15 rfl ?_
    have g := inB_vp (gd_c h)
    have h := gd_e h
    refine n_iald hC hN 1 rfl g dX8_allows_16 ?_
    refine lv_iload_n hx hb dX8_allows_17 rfl (lv_at hl 1 rfl) ?_
    refine lv_icmp_ne (tgt := 24) hx hb dX8_allows_18 (by decide) (fun c3 => ?_) (fun c3 => ?_)
    · have h := if_f h c3
      refine lv_aload_n hx hb dX8_allows_24 rfl (lv_at hl 0 rfl) ?_
      obtain ⟨z_4, hz_4, h⟩ := bi_e h
      refine n_callVv (ws' := wX8 E adc c_now c_read z_4.1 z_4.2 c_images c_isKept c_text c_letters c_at c_token c_tokenAt c_value c_facts c_seen c_seenAhead c_weakLink c_weakTwos c_which c_views c_whichMany) hC hN (tX8_note l E adc c_now c_read c_past c_deeds c_images c_isKept c_text c_letters c_at c_token c_tokenAt c_value c_facts c_seen c_seenAhead c_weakLink c_weakTwos c_which c_views c_whichMany z_4 hz_4) cy_X8_note mML_X8_93 mIM_X8_note mSE_X8_note rfl rfl (k := 0) rfl (perm_self _) (perm_self _) rfl rfl hl.1 rfl (Nat.le_of_ble_eq_true rfl) dX8_allows_25 ⟨Nat.le_of_ble_eq_true rfl, Nat.le_of_ble_eq_true rfl⟩ ⟨Nat.le_refl _, Nat.le_refl _⟩ (fun H locs hN => ?_)
      refine lv_aload_n hx hb dX8_allows_28 rfl (lv_at hl 0 rfl) ?_
      refine gt_X8_now hC hN 0 rfl rfl dX8_allows_29 ?_
      refine lv_iconst (v := 2) hx hb dX8_allows_32 rfl ?_
      refine lv_iload_n hx hb dX8_allows_33 rfl (lv_at hl 1 rfl) ?_
      have g := inB_vp (gd_c h)
      have h := gd_e h
      obtain ⟨c_now_5, ec_now_5⟩ : ∃ y : Nat → Int32, y = upd c_now (2 : Int32).toNatClampNeg p1 := ⟨_, rfl⟩
      have h := bd_e h c_now_5 ec_now_5
      refine n_iast hC hN 1 rfl g ec_now_5 (ws' := wX8 E adc c_now_5 c_read z_4.1 z_4.2 c_images c_isKept c_text c_letters c_at c_token c_tokenAt c_value c_facts c_seen c_seenAhead c_weakLink c_weakTwos c_which c_views c_whichMany) rfl dX8_allows_34 (fun H locs hN => ?_)
      refine lv_iconst (v := 1) hx hb dX8_allows_35 rfl ?_
      obtain rfl := Option.some.inj h
      exact n_iret hC hN dX8_allows_36
    · have h := if_t h c3
      refine lv_bipush (v := -2) hx hb dX8_allows_21 (by decide) ?_
      obtain rfl := Option.some.inj h
      exact n_iret hC hN dX8_allows_23
  · have h := if_t h c2
    refine lv_iconst (v := -1) hx hb dX8_allows_9 rfl ?_
    obtain rfl := Option.some.inj h
    exact n_iret hC hN dX8_allows_10
set_option maxHeartbeats 4000000 in
set_option maxRecDepth 100000 in
theorem tX8_undo (l : Launch) (E : EV) (adc : Nat → Nat) (c_now : Nat → Int32) (c_read : Nat → Int32) (c_past : Nat → Int32) (c_deeds : Int32) (c_images : Nat → Int32) (c_isKept : Nat → Int32) (c_text : Nat → Int32) (c_letters : Int32) (c_at : Int32) (c_token : Int32) (c_tokenAt : Int32) (c_value : Int32) (c_facts : Nat → Int32) (c_seen : Int32) (c_seenAhead : Nat → Int32) (c_weakLink : Int32) (c_weakTwos : Int32) (c_which : Nat → Int32) (c_views : Nat → Int32) (c_whichMany : Int32) (z : Int32 × (Nat → Int32) × Int32) (h : fX8_undo c_now c_past c_deeds = some z) : Cn l E yX8_undo cX8_undo 1 (some .int) 1 24 [.ref (adc 0)] (wX8 E adc c_now c_read c_past c_deeds c_images c_isKept c_text c_letters c_at c_token c_tokenAt c_value c_facts c_seen c_seenAhead c_weakLink c_weakTwos c_which c_views c_whichMany) (wX8 E adc z.2.1 c_read c_past z.2.2 c_images c_isKept c_text c_letters c_at c_token c_tokenAt c_value c_facts c_seen c_seenAhead c_weakLink c_weakTwos c_which c_views c_whichMany) (some (.int z.1)) := by
  refine Cn.ofW (by decide +kernel) (Nat.le_of_ble_eq_true rfl) ?_
  intro p e s m args below meth c ls hC hN hl
  have hl : lv_has ls 1 [(0, .ref (adc 0))] := hl
  have hx := hC.1
  have hb := hC.2.1
  unfold fX8_undo at h
  refine lv_aload_n hx hb dX8_undo_0 rfl (lv_at hl 0 rfl) ?_
  refine gt_X8_deeds hC hN 0 rfl rfl dX8_undo_1 ?_
  refine lv_if_ne (tgt := 10) hx hb dX8_undo_4 (by decide) (fun c1 => ?_) (fun c1 => ?_)
  · have h := if_f h c1
    refine lv_aload_n hx hb dX8_undo_10 rfl (lv_at hl 0 rfl) ?_
    refine lv_dup hx hb dX8_undo_11 rfl ?_
    refine gt_X8_deeds hC hN 0 rfl rfl dX8_undo_12 ?_
    refine lv_iconst (v := 1) hx hb dX8_undo_15 rfl ?_
    refine lv_isub hx hb dX8_undo_16 ?_
    refine lv_topi (fun c_deeds_2 ec_deeds_2 => ?_)
    have h := bd_e h c_deeds_2 ec_deeds_2
    refine pt_X8_deeds hC hN 0 rfl (Nat.le_of_ble_eq_true rfl) (ws' := wX8 E adc c_now c_read c_past c_deeds_2 c_images c_isKept c_text c_letters c_at c_token c_tokenAt c_value c_facts c_seen c_seenAhead c_weakLink c_weakTwos c_which c_views c_whichMany) rfl dX8_undo_17 (fun H locs hN => ?_)
    refine lv_aload_n hx hb dX8_undo_20 rfl (lv_at hl 0 rfl) ?_
    refine gt_X8_past hC hN 0 rfl rfl dX8_undo_21 ?_
    refine lv_bipush (v := 87) hx hb dX8_undo_24 (by decide) ?_
    refine lv_aload_n hx hb dX8_undo_26 rfl (lv_at hl 0 rfl) ?_
    refine gt_X8_deeds hC hN 0 rfl rfl dX8_undo_27 ?_
    refine lv_imul hx hb dX8_undo_30 ?_
    refine lv_aload_n hx hb dX8_undo_31 rfl (lv_at hl 0 rfl) ?_
    refine gt_X8_now hC hN 0 rfl rfl dX8_undo_32 ?_
    refine lv_iconst (v := 0) hx hb dX8_undo_35 rfl ?_
    obtain ⟨z_3, hz_3, h⟩ := bi_e h
    refine n_callSv (ws' := wX8 E adc z_3 c_read c_past c_deeds_2 c_images c_isKept c_text c_letters c_at c_token c_tokenAt c_value c_facts c_seen c_seenAhead c_weakLink c_weakTwos c_which c_views c_whichMany) hC hN (tX8_bring l E (adc 3) 435 (adc 1) 87 c_past c_now (87 * c_deeds_2) 0 z_3 hz_3) cy_X8_bring mML_X8_45 mST_X8_bring (pl_perm (wX8 E adc c_now c_read c_past c_deeds_2 c_images c_isKept c_text c_letters c_at c_token c_tokenAt c_value c_facts c_seen c_seenAhead c_weakLink c_weakTwos c_which c_views c_whichMany) 11 rfl [3, 1] [0, 2, 4, 5, 6, 7, 8, 9, 10] (by decide)) (pl_perm (wX8 E adc z_3 c_read c_past c_deeds_2 c_images c_isKept c_text c_letters c_at c_token c_tokenAt c_value c_facts c_seen c_seenAhead c_weakLink c_weakTwos c_which c_views c_whichMany) 11 rfl [3, 1] [0, 2, 4, 5, 6, 7, 8, 9, 10] (by decide)) rfl rfl hl.1 rfl (Nat.le_of_ble_eq_true rfl) dX8_undo_36 ⟨Nat.le_of_ble_eq_true rfl, Nat.le_of_ble_eq_true rfl⟩ ⟨Nat.le_refl _, Nat.le_refl _⟩ (fun H locs hN => ?_)
    refine lv_aload_n hx hb dX8_undo_39 rfl (lv_at hl 0 rfl) ?_
    refine gt_X8_deeds hC hN 0 rfl rfl dX8_undo_40 ?_
    obtain rfl := Option.some.inj h
    exact n_iret hC hN dX8_undo_43
  · have h := if_t h c1
    refine lv_bipush (v := -2) hx hb dX8_undo_7 (by decide) ?_
    obtain rfl := Option.some.inj h
    exact n_iret hC hN dX8_undo_9
set_option maxHeartbeats 4000000 in
set_option maxRecDepth 100000 in
theorem tX8_hostsAt (l : Launch) (E : EV) (adc : Nat → Nat) (c_now : Nat → Int32) (c_read : Nat → Int32) (c_past : Nat → Int32) (c_deeds : Int32) (c_images : Nat → Int32) (c_isKept : Nat → Int32) (c_text : Nat → Int32) (c_letters : Int32) (c_at : Int32) (c_token : Int32) (c_tokenAt : Int32) (c_value : Int32) (c_facts : Nat → Int32) (c_seen : Int32) (c_seenAhead : Nat → Int32) (c_weakLink : Int32) (c_weakTwos : Int32) (c_which : Nat → Int32) (c_views : Nat → Int32) (c_whichMany : Int32) (p1 : Int32) (z : Int32) (h : fX8_hostsAt c_now p1 = some z) : Cn l E yX8_hostsAt cX8_hostsAt 4 (some .int) 0 0 [.ref (adc 0), .int p1] (wX8 E adc c_now c_read c_past c_deeds c_images c_isKept c_text c_letters c_at c_token c_tokenAt c_value c_facts c_seen c_seenAhead c_weakLink c_weakTwos c_which c_views c_whichMany) (wX8 E adc c_now c_read c_past c_deeds c_images c_isKept c_text c_letters c_at c_token c_tokenAt c_value c_facts c_seen c_seenAhead c_weakLink c_weakTwos c_which c_views c_whichMany) (some (.int z)) := by
  refine Cn.ofW (by decide +kernel) (Nat.le_of_ble_eq_true rfl) ?_
  intro p e s m args below meth c ls hC hN hl
  obtain ⟨z0, hz0⟩ : ∃ y, y = z := ⟨_, rfl⟩
  rw [← hz0] at h ⊢
  clear hz0
  have hl : lv_has ls 4 [(0, .ref (adc 0)), (1, .int p1)] := hl
  have hx := hC.1
  have hb := hC.2.1
  unfold fX8_hostsAt at h
  refine lv_iconst (v := 0) hx hb dX8_hostsAt_0 rfl ?_
  refine lv_istore_n (lv' := [(2, .int 0), (0, .ref (adc 0)), (1, .int p1)]) hx hb dX8_hostsAt_1 rfl hl (by decide) rfl (fun ls hl => ?_)
  refine lv_iconst (v := 0) hx hb dX8_hostsAt_2 rfl ?_
  refine lv_istore_n (lv' := [(3, .int 0), (2, .int 0), (0, .ref (adc 0)), (1, .int p1)]) hx hb dX8_hostsAt_3 rfl hl (by decide) rfl (fun ls hl => ?_)
  have L1 : ∀ (fu : Nat) (v2_1 : Int32) (v3_2 : Int32) (z : Int32 × Int32) (H : Heap) (locs : List Loc) (ls : Array Slot), Nw E s (AD (wX8 E adc c_now c_read c_past c_deeds c_images c_isKept c_text c_letters c_at c_token c_tokenAt c_value c_facts c_seen c_seenAhead c_weakLink c_weakTwos c_which c_views c_whichMany)) (wX8 E adc c_now c_read c_past c_deeds c_images c_isKept c_text c_letters c_at c_token c_tokenAt c_value c_facts c_seen c_seenAhead c_weakLink c_weakTwos c_which c_views c_whichMany) H locs → lv_has ls 4 [(0, .ref (adc 0)), (1, .int p1), (2, .int v2_1), (3, .int v3_2)] → fX8_hostsAt_L1 c_now p1 fu v2_1 v3_2 = some z → (∀ (H : Heap) (locs : List Loc) (ls : Array Slot), Nw E s (AD (wX8 E adc c_now c_read c_past c_deeds c_images c_isKept c_text c_letters c_at c_token c_tokenAt c_value c_facts c_seen c_seenAhead c_weakLink c_weakTwos c_which c_views c_whichMany)) (wX8 E adc c_now c_read c_past c_deeds c_images c_isKept c_text c_letters c_at c_token c_tokenAt c_value c_facts c_seen c_seenAhead c_weakLink c_weakTwos c_which c_views c_whichMany) H locs → lv_has ls 4 [(0, .ref (adc 0)), (1, .int p1), (2, .int z.1), (3, .int z.2)] → WN p l e 0 0 s m args below meth c E (wX8 E adc c_now c_read c_past c_deeds c_images c_isKept c_text c_letters c_at c_token c_tokenAt c_value c_facts c_seen c_seenAhead c_weakLink c_weakTwos c_which c_views c_whichMany) (some (.int z0)) (wX8 E adc c_now c_read c_past c_deeds c_images c_isKept c_text c_letters c_at c_token c_tokenAt c_value c_facts c_seen c_seenAhead c_weakLink c_weakTwos c_which c_views c_whichMany) H locs (F0 m 43 ls [])) → WN p l e 0 0 s m args below meth c E (wX8 E adc c_now c_read c_past c_deeds c_images c_isKept c_text c_letters c_at c_token c_tokenAt c_value c_facts c_seen c_seenAhead c_weakLink c_weakTwos c_which c_views c_whichMany) (some (.int z0)) (wX8 E adc c_now c_read c_past c_deeds c_images c_isKept c_text c_letters c_at c_token c_tokenAt c_value c_facts c_seen c_seenAhead c_weakLink c_weakTwos c_which c_views c_whichMany) H locs (F0 m 4 ls []) := by
    intro fu
    induction fu with
    | zero =>
      intro v2_1 v3_2 z H locs ls hN hl h K
      cases (show (none : Option (Int32 × Int32)) = some z from h)
    | succ fu ih =>
      intro v2_1 v3_2 z H locs ls hN hl h K
      rw [fX8_hostsAt_L1.eq_2] at h
      refine lv_iload_n hx hb dX8_hostsAt_4 rfl (lv_at hl 3 rfl) ?_
      refine lv_aload_n hx hb dX8_hostsAt_5 rfl (lv_at hl 0 rfl) ?_
      refine gt_X8_now hC hN 0 rfl rfl dX8_hostsAt_6 ?_
      refine lv_iconst (v := 1) hx hb dX8_hostsAt_9 rfl ?_
      have g := inB_vp (gd_c h)
      have h := gd_e h
      refine n_iald hC hN 1 rfl g dX8_hostsAt_10 ?_
      refine lv_icmp_ge (tgt := 43) hx hb dX8_hostsAt_11 (by decide) (fun c3 => ?_) (fun c3 => ?_)
      · have h := if_t h c3
        obtain rfl := Option.some.inj h
        exact K _ _ _ hN (lv_sub hl [0, 1, 2, 3] rfl)
      · have h := if_f h c3
        refine lv_iload_n hx hb dX8_hostsAt_14 rfl (lv_at hl 2 rfl) ?_
        refine lv_aload_n hx hb dX8_hostsAt_15 rfl (lv_at hl 0 rfl) ?_
        refine gt_X8_now hC hN 0 rfl rfl dX8_hostsAt_16 ?_
        refine lv_bipush (v := 27) hx hb dX8_hostsAt_19 (by decide) ?_
        refine lv_iload_n hx hb dX8_hostsAt_21 rfl (lv_at hl 3 rfl) ?_
        refine lv_iadd hx hb dX8_hostsAt_22 ?_
        have g := inB_vp (gd_c h)
        have h := gd_e h
        refine n_iald hC hN 1 rfl g dX8_hostsAt_23 ?_
        refine lv_iload_n hx hb dX8_hostsAt_24 rfl (lv_at hl 1 rfl) ?_
        refine lv_icmp_ne (tgt := 34) hx hb dX8_hostsAt_25 (by decide) (fun c4 => ?_) (fun c4 => ?_)
        · have h := if_f h c4
          refine lv_iconst (v := 0) hx hb dX8_hostsAt_34 rfl ?_
          refine lv_ior hx hb dX8_hostsAt_35 ?_
          refine lv_topi (fun v2_5 ev2_5 => ?_)
          have h := bd_e h v2_5 ev2_5
          refine lv_istore_n (lv' := [(2, .int v2_5), (0, .ref (adc 0)), (1, .int p1), (3, .int v3_2)]) hx hb dX8_hostsAt_36 rfl hl (by decide) rfl (fun ls hl => ?_)
          obtain ⟨v3_6, ev3_6⟩ : ∃ y : Int32, y = v3_2 + 1 := ⟨_, rfl⟩
          have h := bd_e h v3_6 ev3_6
          refine lv_iinc (v := v3_6) (lv' := [(3, .int v3_6), (2, .int v2_5), (0, .ref (adc 0)), (1, .int p1)]) hx hb dX8_hostsAt_37 hl (k := 3) rfl (by rw [ev3_6]; rfl) (by decide) rfl (fun ls hl => ?_)
          refine lv_goto (tgt := 4) hx hb dX8_hostsAt_40 (by decide) ?_
          exact ih v2_5 v3_6 z _ _ _ hN (lv_sub hl [2, 3, 1, 0] rfl) h K
        · have h := if_t h c4
          refine lv_iconst (v := 1) hx hb dX8_hostsAt_28 rfl ?_
          refine lv_iload_n hx hb dX8_hostsAt_29 rfl (lv_at hl 3 rfl) ?_
          refine lv_ishl hx hb dX8_hostsAt_30 ?_
          refine lv_goto (tgt := 35) hx hb dX8_hostsAt_31 (by decide) ?_
          refine lv_ior hx hb dX8_hostsAt_35 ?_
          refine lv_topi (fun v2_7 ev2_7 => ?_)
          have h := bd_e h v2_7 ev2_7
          refine lv_istore_n (lv' := [(2, .int v2_7), (0, .ref (adc 0)), (1, .int p1), (3, .int v3_2)]) hx hb dX8_hostsAt_36 rfl hl (by decide) rfl (fun ls hl => ?_)
          obtain ⟨v3_8, ev3_8⟩ : ∃ y : Int32, y = v3_2 + 1 := ⟨_, rfl⟩
          have h := bd_e h v3_8 ev3_8
          refine lv_iinc (v := v3_8) (lv' := [(3, .int v3_8), (2, .int v2_7), (0, .ref (adc 0)), (1, .int p1)]) hx hb dX8_hostsAt_37 hl (k := 3) rfl (by rw [ev3_8]; rfl) (by decide) rfl (fun ls hl => ?_)
          refine lv_goto (tgt := 4) hx hb dX8_hostsAt_40 (by decide) ?_
          exact ih v2_7 v3_8 z _ _ _ hN (lv_sub hl [2, 3, 1, 0] rfl) h K
  obtain ⟨z_9, hz_9, h⟩ := bi_e h
  refine L1 500 0 0 z_9 _ _ _ hN (lv_sub hl [2, 3, 1, 0] rfl) hz_9 (fun H locs ls hN hl => ?_)
  refine lv_iload_n hx hb dX8_hostsAt_43 rfl (lv_at hl 2 rfl) ?_
  obtain rfl := Option.some.inj h
  exact n_iret hC hN dX8_hostsAt_44
set_option maxHeartbeats 4000000 in
set_option maxRecDepth 100000 in
theorem tX8_device (l : Launch) (E : EV) (adc : Nat → Nat) (c_now : Nat → Int32) (c_read : Nat → Int32) (c_past : Nat → Int32) (c_deeds : Int32) (c_images : Nat → Int32) (c_isKept : Nat → Int32) (c_text : Nat → Int32) (c_letters : Int32) (c_at : Int32) (c_token : Int32) (c_tokenAt : Int32) (c_value : Int32) (c_facts : Nat → Int32) (c_seen : Int32) (c_seenAhead : Nat → Int32) (c_weakLink : Int32) (c_weakTwos : Int32) (c_which : Nat → Int32) (c_views : Nat → Int32) (c_whichMany : Int32) (p1 : Int32) (p2 : Int32) (z : Int32) (h : fX8_device c_now p1 p2 = some z) : Cn l E yX8_device cX8_device 3 (some .int) 4 90 [.ref (adc 0), .int p1, .int p2] (wX8 E adc c_now c_read c_past c_deeds c_images c_isKept c_text c_letters c_at c_token c_tokenAt c_value c_facts c_seen c_seenAhead c_weakLink c_weakTwos c_which c_views c_whichMany) (wX8 E adc c_now c_read c_past c_deeds c_images c_isKept c_text c_letters c_at c_token c_tokenAt c_value c_facts c_seen c_seenAhead c_weakLink c_weakTwos c_which c_views c_whichMany) (some (.int z)) := by
  refine Cn.ofW (by decide +kernel) (Nat.le_of_ble_eq_true rfl) ?_
  intro p e s m args below meth c ls hC hN hl
  have hl : lv_has ls 3 [(0, .ref (adc 0)), (1, .int p1), (2, .int p2)] := hl
  have hx := hC.1
  have hb := hC.2.1
  unfold fX8_device at h
  refine lv_aload_n hx hb dX8_device_0 rfl (lv_at hl 0 rfl) ?_
  refine lv_iload_n hx hb dX8_device_1 rfl (lv_at hl 1 rfl) ?_
  obtain ⟨r_1, hr_1, h⟩ := bi_e h
  refine n_callVi (ws' := wX8 E adc c_now c_read c_past c_deeds c_images c_isKept c_text c_letters c_at c_token c_tokenAt c_value c_facts c_seen c_seenAhead c_weakLink c_weakTwos c_which c_views c_whichMany) hC hN (tX8_isSwitch l E adc c_now c_read c_past c_deeds c_images c_isKept c_text c_letters c_at c_token c_tokenAt c_value c_facts c_seen c_seenAhead c_weakLink c_weakTwos c_which c_views c_whichMany p1 r_1 hr_1) cy_X8_isSwitch mML_X8_99 mIM_X8_isSwitch mSE_X8_isSwitch rfl rfl (k := 0) rfl (perm_self _) (perm_self _) rfl rfl hl.1 rfl (Nat.le_of_ble_eq_true rfl) dX8_device_2 ⟨Nat.le_of_ble_eq_true rfl, Nat.le_of_ble_eq_true rfl⟩ ⟨Nat.le_refl _, Nat.le_refl _⟩ (fun H locs hN => ?_)
  refine lv_if_eq (tgt := 18) hx hb dX8_device_5 (by decide) (fun c2 => ?_) (fun c2 => ?_)
  · have h := if_t h c2
    refine lv_iconst (v := -1) hx hb dX8_device_18 rfl ?_
    obtain rfl := Option.some.inj h
    exact n_iret hC hN dX8_device_19
  · have h := if_f h c2
    refine lv_iload_n hx hb dX8_device_8 rfl (lv_at hl 2 rfl) ?_
    refine lv_iconst (v := 0) hx hb dX8_device_9 rfl ?_
    refine lv_bipush (v := 7) hx hb dX8_device_10 (by decide) ?_
    obtain ⟨r_3, hr_3, h⟩ := bi_e h
    refine n_callSi (ws' := wX8 E adc c_now c_read c_past c_deeds c_images c_isKept c_text c_letters c_at c_token c_tokenAt c_value c_facts c_seen c_seenAhead c_weakLink c_weakTwos c_which c_views c_whichMany) hC hN (tX8_in l E p2 0 7 r_3 hr_3) cy_X8_in mML_X8_55 mST_X8_in (perm_nil _) (perm_nil _) rfl rfl hl.1 rfl (Nat.le_of_ble_eq_true rfl) dX8_device_12 ⟨Nat.le_of_ble_eq_true rfl, Nat.le_of_ble_eq_true rfl⟩ ⟨Nat.le_refl _, Nat.le_refl _⟩ (fun H locs hN => ?_)
    refine lv_if_ne (tgt := 20) hx hb dX8_device_15 (by decide) (fun c4 => ?_) (fun c4 => ?_)
    · have h := if_f h c4
      refine lv_iload_n hx hb dX8_device_20 rfl (lv_at hl 2 rfl) ?_
      by_cases s4 : p2 = 4
      · have h := if_t h s4
        refine lv_tableIn (off := 31) (tgt := 52) hx hb dX8_device_21 (by rw [s4]; decide) (by rw [s4]; decide) (by rw [s4]; rfl) (by decide) ?_
        refine lv_aload_n hx hb dX8_device_52 rfl (lv_at hl 0 rfl) ?_
        refine lv_aload_n hx hb dX8_device_53 rfl (lv_at hl 0 rfl) ?_
        refine lv_iload_n hx hb dX8_device_54 rfl (lv_at hl 1 rfl) ?_
        obtain ⟨r_5, hr_5, h⟩ := bi_e h
        refine n_callVi (ws' := wX8 E adc c_now c_read c_past c_deeds c_images c_isKept c_text c_letters c_at c_token c_tokenAt c_value c_facts c_seen c_seenAhead c_weakLink c_weakTwos c_which c_views c_whichMany) hC hN (tX8_fabricOf l E adc c_now c_read c_past c_deeds c_images c_isKept c_text c_letters c_at c_token c_tokenAt c_value c_facts c_seen c_seenAhead c_weakLink c_weakTwos c_which c_views c_whichMany p1 r_5 hr_5) cy_X8_fabricOf mML_X8_109 mIM_X8_fabricOf mSE_X8_fabricOf rfl rfl (k := 0) rfl (perm_self _) (perm_self _) rfl rfl hl.1 rfl (Nat.le_of_ble_eq_true rfl) dX8_device_55 ⟨Nat.le_of_ble_eq_true rfl, Nat.le_of_ble_eq_true rfl⟩ ⟨Nat.le_refl _, Nat.le_refl _⟩ (fun H locs hN => ?_)
        obtain ⟨r_6, hr_6, h⟩ := bi_e h
        refine n_callVi (ws' := wX8 E adc c_now c_read c_past c_deeds c_images c_isKept c_text c_letters c_at c_token c_tokenAt c_value c_facts c_seen c_seenAhead c_weakLink c_weakTwos c_which c_views c_whichMany) hC hN (tX8_principalOf l E adc c_now c_read c_past c_deeds c_images c_isKept c_text c_letters c_at c_token c_tokenAt c_value c_facts c_seen c_seenAhead c_weakLink c_weakTwos c_which c_views c_whichMany r_5 r_6 hr_6) cy_X8_principalOf mML_X8_119 mIM_X8_principalOf mSE_X8_principalOf rfl rfl (k := 0) rfl (perm_self _) (perm_self _) rfl rfl hl.1 rfl (Nat.le_of_ble_eq_true rfl) dX8_device_58 ⟨Nat.le_of_ble_eq_true rfl, Nat.le_of_ble_eq_true rfl⟩ ⟨Nat.le_refl _, Nat.le_refl _⟩ (fun H locs hN => ?_)
        obtain rfl := Option.some.inj h
        exact n_iret hC hN dX8_device_61
      · have h := if_f h s4
        by_cases s5 : p2 = 5
        · have h := if_t h s5
          refine lv_tableIn (off := 41) (tgt := 62) hx hb dX8_device_21 (by rw [s5]; decide) (by rw [s5]; decide) (by rw [s5]; rfl) (by decide) ?_
          refine lv_aload_n hx hb dX8_device_62 rfl (lv_at hl 0 rfl) ?_
          refine lv_iload_n hx hb dX8_device_63 rfl (lv_at hl 1 rfl) ?_
          obtain ⟨r_7, hr_7, h⟩ := bi_e h
          refine n_callVi (ws' := wX8 E adc c_now c_read c_past c_deeds c_images c_isKept c_text c_letters c_at c_token c_tokenAt c_value c_facts c_seen c_seenAhead c_weakLink c_weakTwos c_which c_views c_whichMany) hC hN (tX8_farOf l E adc c_now c_read c_past c_deeds c_images c_isKept c_text c_letters c_at c_token c_tokenAt c_value c_facts c_seen c_seenAhead c_weakLink c_weakTwos c_which c_views c_whichMany p1 r_7 hr_7) cy_X8_farOf mML_X8_122 mIM_X8_farOf mSE_X8_farOf rfl rfl (k := 0) rfl (perm_self _) (perm_self _) rfl rfl hl.1 rfl (Nat.le_of_ble_eq_true rfl) dX8_device_64 ⟨Nat.le_of_ble_eq_true rfl, Nat.le_of_ble_eq_true rfl⟩ ⟨Nat.le_refl _, Nat.le_refl _⟩ (fun H locs hN => ?_)
          obtain rfl := Option.some.inj h
          exact n_iret hC hN dX8_device_67
        · have h := if_f h s5
          by_cases s6 : p2 = 6
          · have h := if_t h s6
            refine lv_tableIn (off := 47) (tgt := 68) hx hb dX8_device_21 (by rw [s6]; decide) (by rw [s6]; decide) (by rw [s6]; rfl) (by decide) ?_
            refine lv_aload_n hx hb dX8_device_68 rfl (lv_at hl 0 rfl) ?_
            refine lv_iload_n hx hb dX8_device_69 rfl (lv_at hl 1 rfl) ?_
            obtain ⟨r_8, hr_8, h⟩ := bi_e h
            refine n_callVi (ws' := wX8 E adc c_now c_read c_past c_deeds c_images c_isKept c_text c_letters c_at c_token c_tokenAt c_value c_facts c_seen c_seenAhead c_weakLink c_weakTwos c_which c_views c_whichMany) hC hN (tX8_fabricOf l E adc c_now c_read c_past c_deeds c_images c_isKept c_text c_letters c_at c_token c_tokenAt c_value c_facts c_seen c_seenAhead c_weakLink c_weakTwos c_which c_views c_whichMany p1 r_8 hr_8) cy_X8_fabricOf mML_X8_109 mIM_X8_fabricOf mSE_X8_fabricOf rfl rfl (k := 0) rfl (perm_self _) (perm_self _) rfl rfl hl.1 rfl (Nat.le_of_ble_eq_true rfl) dX8_device_70 ⟨Nat.le_of_ble_eq_true rfl, Nat.le_of_ble_eq_true rfl⟩ ⟨Nat.le_refl _, Nat.le_refl _⟩ (fun H locs hN => ?_)
            obtain rfl := Option.some.inj h
            exact n_iret hC hN dX8_device_73
          · have h := if_f h s6
            by_cases s7 : p2 = 7
            · have h := if_t h s7
              refine lv_tableIn (off := 53) (tgt := 74) hx hb dX8_device_21 (by rw [s7]; decide) (by rw [s7]; decide) (by rw [s7]; rfl) (by decide) ?_
              refine lv_aload_n hx hb dX8_device_74 rfl (lv_at hl 0 rfl) ?_
              refine lv_iload_n hx hb dX8_device_75 rfl (lv_at hl 1 rfl) ?_
              obtain ⟨r_9, hr_9, h⟩ := bi_e h
              refine n_callVi (ws' := wX8 E adc c_now c_read c_past c_deeds c_images c_isKept c_text c_letters c_at c_token c_tokenAt c_value c_facts c_seen c_seenAhead c_weakLink c_weakTwos c_which c_views c_whichMany) hC hN (tX8_hostsAt l E adc c_now c_read c_past c_deeds c_images c_isKept c_text c_letters c_at c_token c_tokenAt c_value c_facts c_seen c_seenAhead c_weakLink c_weakTwos c_which c_views c_whichMany p1 r_9 hr_9) cy_X8_hostsAt mML_X8_184 mIM_X8_hostsAt mSE_X8_hostsAt rfl rfl (k := 0) rfl (perm_self _) (perm_self _) rfl rfl hl.1 rfl (Nat.le_of_ble_eq_true rfl) dX8_device_76 ⟨Nat.le_of_ble_eq_true rfl, Nat.le_of_ble_eq_true rfl⟩ ⟨Nat.le_refl _, Nat.le_refl _⟩ (fun H locs hN => ?_)
              obtain rfl := Option.some.inj h
              exact n_iret hC hN dX8_device_79
            · have h := if_f h s7
              have u4 : p2.toInt ≠ 4 := i_ne s4
              have u5 : p2.toInt ≠ 5 := i_ne s5
              have u6 : p2.toInt ≠ 6 := i_ne s6
              have u7 : p2.toInt ≠ 7 := i_ne s7
              refine lv_tableOut (tgt := 80) hx hb dX8_device_21 (by omega) (by decide) ?_
              refine lv_aload_n hx hb dX8_device_80 rfl (lv_at hl 0 rfl) ?_
              refine lv_iload_n hx hb dX8_device_81 rfl (lv_at hl 1 rfl) ?_
              refine lv_iload_n hx hb dX8_device_82 rfl (lv_at hl 2 rfl) ?_
              obtain ⟨r_10, hr_10, h⟩ := bi_e h
              refine n_callVi (ws' := wX8 E adc c_now c_read c_past c_deeds c_images c_isKept c_text c_letters c_at c_token c_tokenAt c_value c_facts c_seen c_seenAhead c_weakLink c_weakTwos c_which c_views c_whichMany) hC hN (tX8_of l E adc c_now c_read c_past c_deeds c_images c_isKept c_text c_letters c_at c_token c_tokenAt c_value c_facts c_seen c_seenAhead c_weakLink c_weakTwos c_which c_views c_whichMany p1 p2 r_10 hr_10) cy_X8_of mML_X8_115 mIM_X8_of mSE_X8_of rfl rfl (k := 0) rfl (perm_self _) (perm_self _) rfl rfl hl.1 rfl (Nat.le_of_ble_eq_true rfl) dX8_device_83 ⟨Nat.le_of_ble_eq_true rfl, Nat.le_of_ble_eq_true rfl⟩ ⟨Nat.le_refl _, Nat.le_refl _⟩ (fun H locs hN => ?_)
              obtain rfl := Option.some.inj h
              exact n_iret hC hN dX8_device_86
    · have h := if_t h c4
      refine lv_iconst (v := -1) hx hb dX8_device_18 rfl ?_
      obtain rfl := Option.some.inj h
      exact n_iret hC hN dX8_device_19
set_option maxHeartbeats 4000000 in
set_option maxRecDepth 100000 in
theorem tX8_link (l : Launch) (E : EV) (adc : Nat → Nat) (c_now : Nat → Int32) (c_read : Nat → Int32) (c_past : Nat → Int32) (c_deeds : Int32) (c_images : Nat → Int32) (c_isKept : Nat → Int32) (c_text : Nat → Int32) (c_letters : Int32) (c_at : Int32) (c_token : Int32) (c_tokenAt : Int32) (c_value : Int32) (c_facts : Nat → Int32) (c_seen : Int32) (c_seenAhead : Nat → Int32) (c_weakLink : Int32) (c_weakTwos : Int32) (c_which : Nat → Int32) (c_views : Nat → Int32) (c_whichMany : Int32) (p1 : Int32) (p2 : Int32) (z : Int32) (h : fX8_link c_now p1 p2 = some z) : Cn l E yX8_link cX8_link 3 (some .int) 3 65 [.ref (adc 0), .int p1, .int p2] (wX8 E adc c_now c_read c_past c_deeds c_images c_isKept c_text c_letters c_at c_token c_tokenAt c_value c_facts c_seen c_seenAhead c_weakLink c_weakTwos c_which c_views c_whichMany) (wX8 E adc c_now c_read c_past c_deeds c_images c_isKept c_text c_letters c_at c_token c_tokenAt c_value c_facts c_seen c_seenAhead c_weakLink c_weakTwos c_which c_views c_whichMany) (some (.int z)) := by
  refine Cn.ofW (by decide +kernel) (Nat.le_of_ble_eq_true rfl) ?_
  intro p e s m args below meth c ls hC hN hl
  have hl : lv_has ls 3 [(0, .ref (adc 0)), (1, .int p1), (2, .int p2)] := hl
  have hx := hC.1
  have hb := hC.2.1
  unfold fX8_link at h
  refine lv_aload_n hx hb dX8_link_0 rfl (lv_at hl 0 rfl) ?_
  refine lv_iload_n hx hb dX8_link_1 rfl (lv_at hl 1 rfl) ?_
  refine lv_iload_n hx hb dX8_link_2 rfl (lv_at hl 2 rfl) ?_
  obtain ⟨r_1, hr_1, h⟩ := bi_e h
  refine n_callVi (ws' := wX8 E adc c_now c_read c_past c_deeds c_images c_isKept c_text c_letters c_at c_token c_tokenAt c_value c_facts c_seen c_seenAhead c_weakLink c_weakTwos c_which c_views c_whichMany) hC hN (tX8_areTwo l E adc c_now c_read c_past c_deeds c_images c_isKept c_text c_letters c_at c_token c_tokenAt c_value c_facts c_seen c_seenAhead c_weakLink c_weakTwos c_which c_views c_whichMany p1 p2 r_1 hr_1) cy_X8_areTwo mML_X8_152 mIM_X8_areTwo mSE_X8_areTwo rfl rfl (k := 0) rfl (perm_self _) (perm_self _) rfl rfl hl.1 rfl (Nat.le_of_ble_eq_true rfl) dX8_link_3 ⟨Nat.le_of_ble_eq_true rfl, Nat.le_of_ble_eq_true rfl⟩ ⟨Nat.le_refl _, Nat.le_refl _⟩ (fun H locs hN => ?_)
  refine lv_if_ne (tgt := 13) hx hb dX8_link_6 (by decide) (fun c2 => ?_) (fun c2 => ?_)
  · have h := if_f h c2
    refine lv_aload_n hx hb dX8_link_13 rfl (lv_at hl 0 rfl) ?_
    refine lv_iload_n hx hb dX8_link_14 rfl (lv_at hl 1 rfl) ?_
    refine lv_iload_n hx hb dX8_link_15 rfl (lv_at hl 2 rfl) ?_
    obtain ⟨r_3, hr_3, h⟩ := bi_e h
    refine n_callVi (ws' := wX8 E adc c_now c_read c_past c_deeds c_images c_isKept c_text c_letters c_at c_token c_tokenAt c_value c_facts c_seen c_seenAhead c_weakLink c_weakTwos c_which c_views c_whichMany) hC hN (tX8_isUp l E adc c_now c_read c_past c_deeds c_images c_isKept c_text c_letters c_at c_token c_tokenAt c_value c_facts c_seen c_seenAhead c_weakLink c_weakTwos c_which c_views c_whichMany p1 p2 r_3 hr_3) cy_X8_isUp mML_X8_155 mIM_X8_isUp mSE_X8_isUp rfl rfl (k := 0) rfl (perm_self _) (perm_self _) rfl rfl hl.1 rfl (Nat.le_of_ble_eq_true rfl) dX8_link_16 ⟨Nat.le_of_ble_eq_true rfl, Nat.le_of_ble_eq_true rfl⟩ ⟨Nat.le_refl _, Nat.le_refl _⟩ (fun H locs hN => ?_)
    refine lv_if_eq (tgt := 26) hx hb dX8_link_19 (by decide) (fun c4 => ?_) (fun c4 => ?_)
    · have h := if_t h c4
      refine lv_aload_n hx hb dX8_link_26 rfl (lv_at hl 0 rfl) ?_
      refine gt_X8_now hC hN 0 rfl rfl dX8_link_27 ?_
      refine lv_bipush (v := 41) hx hb dX8_link_30 (by decide) ?_
      refine lv_iload_n hx hb dX8_link_32 rfl (lv_at hl 1 rfl) ?_
      refine lv_iadd hx hb dX8_link_33 ?_
      have g := inB_vp (gd_c h)
      have h := gd_e h
      refine n_iald hC hN 1 rfl g dX8_link_34 ?_
      refine lv_iload_n hx hb dX8_link_35 rfl (lv_at hl 2 rfl) ?_
      obtain ⟨r_5, hr_5, h⟩ := bi_e h
      refine n_callSi (ws' := wX8 E adc c_now c_read c_past c_deeds c_images c_isKept c_text c_letters c_at c_token c_tokenAt c_value c_facts c_seen c_seenAhead c_weakLink c_weakTwos c_which c_views c_whichMany) hC hN (tX8_has l E (c_now (41 + p1).toNatClampNeg) p2 r_5 hr_5) cy_X8_has mML_X8_102 mST_X8_has (perm_nil _) (perm_nil _) rfl rfl hl.1 rfl (Nat.le_of_ble_eq_true rfl) dX8_link_36 ⟨Nat.le_of_ble_eq_true rfl, Nat.le_of_ble_eq_true rfl⟩ ⟨Nat.le_refl _, Nat.le_refl _⟩ (fun H locs hN => ?_)
      refine lv_if_eq (tgt := 46) hx hb dX8_link_39 (by decide) (fun c6 => ?_) (fun c6 => ?_)
      · have h := if_t h c6
        refine lv_iconst (v := 0) hx hb dX8_link_46 rfl ?_
        obtain rfl := Option.some.inj h
        exact n_iret hC hN dX8_link_47
      · have h := if_f h c6
        refine lv_iconst (v := 2) hx hb dX8_link_42 rfl ?_
        refine lv_goto (tgt := 47) hx hb dX8_link_43 (by decide) ?_
        obtain rfl := Option.some.inj h
        exact n_iret hC hN dX8_link_47
    · have h := if_f h c4
      refine lv_iconst (v := 1) hx hb dX8_link_22 rfl ?_
      refine lv_goto (tgt := 47) hx hb dX8_link_23 (by decide) ?_
      obtain rfl := Option.some.inj h
      exact n_iret hC hN dX8_link_47
  · have h := if_t h c2
    refine lv_iconst (v := -1) hx hb dX8_link_9 rfl ?_
    refine lv_goto (tgt := 47) hx hb dX8_link_10 (by decide) ?_
    obtain rfl := Option.some.inj h
    exact n_iret hC hN dX8_link_47
set_option maxHeartbeats 4000000 in
set_option maxRecDepth 100000 in
theorem tX8_zone (l : Launch) (E : EV) (adc : Nat → Nat) (c_now : Nat → Int32) (c_read : Nat → Int32) (c_past : Nat → Int32) (c_deeds : Int32) (c_images : Nat → Int32) (c_isKept : Nat → Int32) (c_text : Nat → Int32) (c_letters : Int32) (c_at : Int32) (c_token : Int32) (c_tokenAt : Int32) (c_value : Int32) (c_facts : Nat → Int32) (c_seen : Int32) (c_seenAhead : Nat → Int32) (c_weakLink : Int32) (c_weakTwos : Int32) (c_which : Nat → Int32) (c_views : Nat → Int32) (c_whichMany : Int32) (p1 : Int32) (p2 : Int32) (z : Int32) (h : fX8_zone c_now p1 p2 = some z) : Cn l E yX8_zone cX8_zone 3 (some .int) 2 43 [.ref (adc 0), .int p1, .int p2] (wX8 E adc c_now c_read c_past c_deeds c_images c_isKept c_text c_letters c_at c_token c_tokenAt c_value c_facts c_seen c_seenAhead c_weakLink c_weakTwos c_which c_views c_whichMany) (wX8 E adc c_now c_read c_past c_deeds c_images c_isKept c_text c_letters c_at c_token c_tokenAt c_value c_facts c_seen c_seenAhead c_weakLink c_weakTwos c_which c_views c_whichMany) (some (.int z)) := by
  refine Cn.ofW (by decide +kernel) (Nat.le_of_ble_eq_true rfl) ?_
  intro p e s m args below meth c ls hC hN hl
  have hl : lv_has ls 3 [(0, .ref (adc 0)), (1, .int p1), (2, .int p2)] := hl
  have hx := hC.1
  have hb := hC.2.1
  unfold fX8_zone at h
  refine lv_aload_n hx hb dX8_zone_0 rfl (lv_at hl 0 rfl) ?_
  refine lv_iload_n hx hb dX8_zone_1 rfl (lv_at hl 1 rfl) ?_
  obtain ⟨r_1, hr_1, h⟩ := bi_e h
  refine n_callVi (ws' := wX8 E adc c_now c_read c_past c_deeds c_images c_isKept c_text c_letters c_at c_token c_tokenAt c_value c_facts c_seen c_seenAhead c_weakLink c_weakTwos c_which c_views c_whichMany) hC hN (tX8_isSwitch l E adc c_now c_read c_past c_deeds c_images c_isKept c_text c_letters c_at c_token c_tokenAt c_value c_facts c_seen c_seenAhead c_weakLink c_weakTwos c_which c_views c_whichMany p1 r_1 hr_1) cy_X8_isSwitch mML_X8_99 mIM_X8_isSwitch mSE_X8_isSwitch rfl rfl (k := 0) rfl (perm_self _) (perm_self _) rfl rfl hl.1 rfl (Nat.le_of_ble_eq_true rfl) dX8_zone_2 ⟨Nat.le_of_ble_eq_true rfl, Nat.le_of_ble_eq_true rfl⟩ ⟨Nat.le_refl _, Nat.le_refl _⟩ (fun H locs hN => ?_)
  refine lv_if_eq (tgt := 26) hx hb dX8_zone_5 (by decide) (fun c2 => ?_) (fun c2 => ?_)
  · have h := if_t h c2
    refine lv_iconst (v := -1) hx hb dX8_zone_26 rfl ?_
    obtain rfl := Option.some.inj h
    exact n_iret hC hN dX8_zone_27
  · have h := if_f h c2
    refine lv_iload_n hx hb dX8_zone_8 rfl (lv_at hl 2 rfl) ?_
    refine lv_iconst (v := 0) hx hb dX8_zone_9 rfl ?_
    refine lv_iconst (v := 3) hx hb dX8_zone_10 rfl ?_
    obtain ⟨r_3, hr_3, h⟩ := bi_e h
    refine n_callSi (ws' := wX8 E adc c_now c_read c_past c_deeds c_images c_isKept c_text c_letters c_at c_token c_tokenAt c_value c_facts c_seen c_seenAhead c_weakLink c_weakTwos c_which c_views c_whichMany) hC hN (tX8_in l E p2 0 3 r_3 hr_3) cy_X8_in mML_X8_55 mST_X8_in (perm_nil _) (perm_nil _) rfl rfl hl.1 rfl (Nat.le_of_ble_eq_true rfl) dX8_zone_11 ⟨Nat.le_of_ble_eq_true rfl, Nat.le_of_ble_eq_true rfl⟩ ⟨Nat.le_refl _, Nat.le_refl _⟩ (fun H locs hN => ?_)
    refine lv_if_eq (tgt := 26) hx hb dX8_zone_14 (by decide) (fun c4 => ?_) (fun c4 => ?_)
    · have h := if_t h c4
      refine lv_iconst (v := -1) hx hb dX8_zone_26 rfl ?_
      obtain rfl := Option.some.inj h
      exact n_iret hC hN dX8_zone_27
    · have h := if_f h c4
      refine lv_aload_n hx hb dX8_zone_17 rfl (lv_at hl 0 rfl) ?_
      refine lv_iload_n hx hb dX8_zone_18 rfl (lv_at hl 1 rfl) ?_
      refine lv_iload_n hx hb dX8_zone_19 rfl (lv_at hl 2 rfl) ?_
      obtain ⟨r_5, hr_5, h⟩ := bi_e h
      refine n_callVi (ws' := wX8 E adc c_now c_read c_past c_deeds c_images c_isKept c_text c_letters c_at c_token c_tokenAt c_value c_facts c_seen c_seenAhead c_weakLink c_weakTwos c_which c_views c_whichMany) hC hN (tX8_zoneOf l E adc c_now c_read c_past c_deeds c_images c_isKept c_text c_letters c_at c_token c_tokenAt c_value c_facts c_seen c_seenAhead c_weakLink c_weakTwos c_which c_views c_whichMany p1 p2 r_5 hr_5) cy_X8_zoneOf mML_X8_125 mIM_X8_zoneOf mSE_X8_zoneOf rfl rfl (k := 0) rfl (perm_self _) (perm_self _) rfl rfl hl.1 rfl (Nat.le_of_ble_eq_true rfl) dX8_zone_20 ⟨Nat.le_of_ble_eq_true rfl, Nat.le_of_ble_eq_true rfl⟩ ⟨Nat.le_refl _, Nat.le_refl _⟩ (fun H locs hN => ?_)
      refine lv_goto (tgt := 27) hx hb dX8_zone_23 (by decide) ?_
      obtain rfl := Option.some.inj h
      exact n_iret hC hN dX8_zone_27
set_option maxHeartbeats 4000000 in
set_option maxRecDepth 100000 in
theorem tX8_host (l : Launch) (E : EV) (adc : Nat → Nat) (c_now : Nat → Int32) (c_read : Nat → Int32) (c_past : Nat → Int32) (c_deeds : Int32) (c_images : Nat → Int32) (c_isKept : Nat → Int32) (c_text : Nat → Int32) (c_letters : Int32) (c_at : Int32) (c_token : Int32) (c_tokenAt : Int32) (c_value : Int32) (c_facts : Nat → Int32) (c_seen : Int32) (c_seenAhead : Nat → Int32) (c_weakLink : Int32) (c_weakTwos : Int32) (c_which : Nat → Int32) (c_views : Nat → Int32) (c_whichMany : Int32) (p1 : Int32) (p2 : Int32) (z : Int32) (h : fX8_host c_now p1 p2 = some z) : Cn l E yX8_host cX8_host 3 (some .int) 5 117 [.ref (adc 0), .int p1, .int p2] (wX8 E adc c_now c_read c_past c_deeds c_images c_isKept c_text c_letters c_at c_token c_tokenAt c_value c_facts c_seen c_seenAhead c_weakLink c_weakTwos c_which c_views c_whichMany) (wX8 E adc c_now c_read c_past c_deeds c_images c_isKept c_text c_letters c_at c_token c_tokenAt c_value c_facts c_seen c_seenAhead c_weakLink c_weakTwos c_which c_views c_whichMany) (some (.int z)) := by
  refine Cn.ofW (by decide +kernel) (Nat.le_of_ble_eq_true rfl) ?_
  intro p e s m args below meth c ls hC hN hl
  have hl : lv_has ls 3 [(0, .ref (adc 0)), (1, .int p1), (2, .int p2)] := hl
  have hx := hC.1
  have hb := hC.2.1
  unfold fX8_host at h
  refine lv_aload_n hx hb dX8_host_0 rfl (lv_at hl 0 rfl) ?_
  refine lv_iload_n hx hb dX8_host_1 rfl (lv_at hl 1 rfl) ?_
  obtain ⟨r_1, hr_1, h⟩ := bi_e h
  refine n_callVi (ws' := wX8 E adc c_now c_read c_past c_deeds c_images c_isKept c_text c_letters c_at c_token c_tokenAt c_value c_facts c_seen c_seenAhead c_weakLink c_weakTwos c_which c_views c_whichMany) hC hN (tX8_isHost l E adc c_now c_read c_past c_deeds c_images c_isKept c_text c_letters c_at c_token c_tokenAt c_value c_facts c_seen c_seenAhead c_weakLink c_weakTwos c_which c_views c_whichMany p1 r_1 hr_1) cy_X8_isHost mML_X8_181 mIM_X8_isHost mSE_X8_isHost rfl rfl (k := 0) rfl (perm_self _) (perm_self _) rfl rfl hl.1 rfl (Nat.le_of_ble_eq_true rfl) dX8_host_2 ⟨Nat.le_of_ble_eq_true rfl, Nat.le_of_ble_eq_true rfl⟩ ⟨Nat.le_refl _, Nat.le_refl _⟩ (fun H locs hN => ?_)
  refine lv_if_eq (tgt := 17) hx hb dX8_host_5 (by decide) (fun c2 => ?_) (fun c2 => ?_)
  · have h := if_t h c2
    refine lv_iconst (v := -1) hx hb dX8_host_17 rfl ?_
    obtain rfl := Option.some.inj h
    exact n_iret hC hN dX8_host_18
  · have h := if_f h c2
    refine lv_iload_n hx hb dX8_host_8 rfl (lv_at hl 2 rfl) ?_
    refine lv_iconst (v := 0) hx hb dX8_host_9 rfl ?_
    refine lv_iconst (v := 3) hx hb dX8_host_10 rfl ?_
    obtain ⟨r_3, hr_3, h⟩ := bi_e h
    refine n_callSi (ws' := wX8 E adc c_now c_read c_past c_deeds c_images c_isKept c_text c_letters c_at c_token c_tokenAt c_value c_facts c_seen c_seenAhead c_weakLink c_weakTwos c_which c_views c_whichMany) hC hN (tX8_in l E p2 0 3 r_3 hr_3) cy_X8_in mML_X8_55 mST_X8_in (perm_nil _) (perm_nil _) rfl rfl hl.1 rfl (Nat.le_of_ble_eq_true rfl) dX8_host_11 ⟨Nat.le_of_ble_eq_true rfl, Nat.le_of_ble_eq_true rfl⟩ ⟨Nat.le_refl _, Nat.le_refl _⟩ (fun H locs hN => ?_)
    refine lv_if_ne (tgt := 19) hx hb dX8_host_14 (by decide) (fun c4 => ?_) (fun c4 => ?_)
    · have h := if_f h c4
      refine lv_iload_n hx hb dX8_host_19 rfl (lv_at hl 2 rfl) ?_
      refine lv_if_ne (tgt := 35) hx hb dX8_host_20 (by decide) (fun c5 => ?_) (fun c5 => ?_)
      · have h := if_f h c5
        refine lv_iload_n hx hb dX8_host_35 rfl (lv_at hl 2 rfl) ?_
        refine lv_iconst (v := 1) hx hb dX8_host_36 rfl ?_
        refine lv_icmp_ne (tgt := 48) hx hb dX8_host_37 (by decide) (fun c6 => ?_) (fun c6 => ?_)
        · have h := if_f h c6
          refine lv_aload_n hx hb dX8_host_48 rfl (lv_at hl 0 rfl) ?_
          refine gt_X8_now hC hN 0 rfl rfl dX8_host_49 ?_
          refine lv_iload_n hx hb dX8_host_52 rfl (lv_at hl 2 rfl) ?_
          refine lv_iconst (v := 2) hx hb dX8_host_53 rfl ?_
          refine lv_icmp_ne (tgt := 62) hx hb dX8_host_54 (by decide) (fun c7 => ?_) (fun c7 => ?_)
          · have h := if_f h c7
            refine lv_bipush (v := 79) hx hb dX8_host_62 (by decide) ?_
            refine lv_iload_n hx hb dX8_host_64 rfl (lv_at hl 1 rfl) ?_
            refine lv_iadd hx hb dX8_host_65 ?_
            have g := inB_vp (gd_c h)
            have h := gd_e h
            refine n_iald hC hN 1 rfl g dX8_host_66 ?_
            obtain rfl := Option.some.inj h
            exact n_iret hC hN dX8_host_67
          · have h := if_t h c7
            refine lv_bipush (v := 71) hx hb dX8_host_57 (by decide) ?_
            refine lv_goto (tgt := 64) hx hb dX8_host_59 (by decide) ?_
            refine lv_iload_n hx hb dX8_host_64 rfl (lv_at hl 1 rfl) ?_
            refine lv_iadd hx hb dX8_host_65 ?_
            have g := inB_vp (gd_c h)
            have h := gd_e h
            refine n_iald hC hN 1 rfl g dX8_host_66 ?_
            obtain rfl := Option.some.inj h
            exact n_iret hC hN dX8_host_67
        · have h := if_t h c6
          refine lv_aload_n hx hb dX8_host_40 rfl (lv_at hl 0 rfl) ?_
          refine lv_iload_n hx hb dX8_host_41 rfl (lv_at hl 1 rfl) ?_
          obtain ⟨r_8, hr_8, h⟩ := bi_e h
          refine n_callVi (ws' := wX8 E adc c_now c_read c_past c_deeds c_images c_isKept c_text c_letters c_at c_token c_tokenAt c_value c_facts c_seen c_seenAhead c_weakLink c_weakTwos c_which c_views c_whichMany) hC hN (tX8_seesOf l E adc c_now c_read c_past c_deeds c_images c_isKept c_text c_letters c_at c_token c_tokenAt c_value c_facts c_seen c_seenAhead c_weakLink c_weakTwos c_which c_views c_whichMany p1 r_8 hr_8) cy_X8_seesOf mML_X8_140 mIM_X8_seesOf mSE_X8_seesOf rfl rfl (k := 0) rfl (perm_self _) (perm_self _) rfl rfl hl.1 rfl (Nat.le_of_ble_eq_true rfl) dX8_host_42 ⟨Nat.le_of_ble_eq_true rfl, Nat.le_of_ble_eq_true rfl⟩ ⟨Nat.le_refl _, Nat.le_refl _⟩ (fun H locs hN => ?_)
          refine lv_goto (tgt := 67) hx hb dX8_host_45 (by decide) ?_
          obtain rfl := Option.some.inj h
          exact n_iret hC hN dX8_host_67
      · have h := if_t h c5
        refine lv_aload_n hx hb dX8_host_23 rfl (lv_at hl 0 rfl) ?_
        refine gt_X8_now hC hN 0 rfl rfl dX8_host_24 ?_
        refine lv_bipush (v := 27) hx hb dX8_host_27 (by decide) ?_
        refine lv_iload_n hx hb dX8_host_29 rfl (lv_at hl 1 rfl) ?_
        refine lv_iadd hx hb dX8_host_30 ?_
        have g := inB_vp (gd_c h)
        have h := gd_e h
        refine n_iald hC hN 1 rfl g dX8_host_31 ?_
        refine lv_goto (tgt := 67) hx hb dX8_host_32 (by decide) ?_
        obtain rfl := Option.some.inj h
        exact n_iret hC hN dX8_host_67
    · have h := if_t h c4
      refine lv_iconst (v := -1) hx hb dX8_host_17 rfl ?_
      obtain rfl := Option.some.inj h
      exact n_iret hC hN dX8_host_18
set_option maxHeartbeats 4000000 in
set_option maxRecDepth 100000 in
theorem tX8_would (l : Launch) (E : EV) (adc : Nat → Nat) (c_now : Nat → Int32) (c_read : Nat → Int32) (c_past : Nat → Int32) (c_deeds : Int32) (c_images : Nat → Int32) (c_isKept : Nat → Int32) (c_text : Nat → Int32) (c_letters : Int32) (c_at : Int32) (c_token : Int32) (c_tokenAt : Int32) (c_value : Int32) (c_facts : Nat → Int32) (c_seen : Int32) (c_seenAhead : Nat → Int32) (c_weakLink : Int32) (c_weakTwos : Int32) (c_which : Nat → Int32) (c_views : Nat → Int32) (c_whichMany : Int32) (p1 : Int32) (p2 : Int32) (z : Int32) (h : fX8_would c_now p1 p2 = some z) : Cn l E yX8_would cX8_would 3 (some .int) 5 113 [.ref (adc 0), .int p1, .int p2] (wX8 E adc c_now c_read c_past c_deeds c_images c_isKept c_text c_letters c_at c_token c_tokenAt c_value c_facts c_seen c_seenAhead c_weakLink c_weakTwos c_which c_views c_whichMany) (wX8 E adc c_now c_read c_past c_deeds c_images c_isKept c_text c_letters c_at c_token c_tokenAt c_value c_facts c_seen c_seenAhead c_weakLink c_weakTwos c_which c_views c_whichMany) (some (.int z)) := by
  refine Cn.ofW (by decide +kernel) (Nat.le_of_ble_eq_true rfl) ?_
  intro p e s m args below meth c ls hC hN hl
  have hl : lv_has ls 3 [(0, .ref (adc 0)), (1, .int p1), (2, .int p2)] := hl
  have hx := hC.1
  have hb := hC.2.1
  unfold fX8_would at h
  refine lv_aload_n hx hb dX8_would_0 rfl (lv_at hl 0 rfl) ?_
  refine lv_iload_n hx hb dX8_would_1 rfl (lv_at hl 1 rfl) ?_
  refine lv_iload_n hx hb dX8_would_2 rfl (lv_at hl 2 rfl) ?_
  obtain ⟨r_1, hr_1, h⟩ := bi_e h
  refine n_callVi (ws' := wX8 E adc c_now c_read c_past c_deeds c_images c_isKept c_text c_letters c_at c_token c_tokenAt c_value c_facts c_seen c_seenAhead c_weakLink c_weakTwos c_which c_views c_whichMany) hC hN (tX8_areTwo l E adc c_now c_read c_past c_deeds c_images c_isKept c_text c_letters c_at c_token c_tokenAt c_value c_facts c_seen c_seenAhead c_weakLink c_weakTwos c_which c_views c_whichMany p1 p2 r_1 hr_1) cy_X8_areTwo mML_X8_152 mIM_X8_areTwo mSE_X8_areTwo rfl rfl (k := 0) rfl (perm_self _) (perm_self _) rfl rfl hl.1 rfl (Nat.le_of_ble_eq_true rfl) dX8_would_3 ⟨Nat.le_of_ble_eq_true rfl, Nat.le_of_ble_eq_true rfl⟩ ⟨Nat.le_refl _, Nat.le_refl _⟩ (fun H locs hN => ?_)
  refine lv_if_ne (tgt := 13) hx hb dX8_would_6 (by decide) (fun c2 => ?_) (fun c2 => ?_)
  · have h := if_f h c2
    refine lv_aload_n hx hb dX8_would_13 rfl (lv_at hl 0 rfl) ?_
    refine lv_iload_n hx hb dX8_would_14 rfl (lv_at hl 1 rfl) ?_
    refine lv_iload_n hx hb dX8_would_15 rfl (lv_at hl 2 rfl) ?_
    obtain ⟨r_3, hr_3, h⟩ := bi_e h
    refine n_callVi (ws' := wX8 E adc c_now c_read c_past c_deeds c_images c_isKept c_text c_letters c_at c_token c_tokenAt c_value c_facts c_seen c_seenAhead c_weakLink c_weakTwos c_which c_views c_whichMany) hC hN (tX8_isUp l E adc c_now c_read c_past c_deeds c_images c_isKept c_text c_letters c_at c_token c_tokenAt c_value c_facts c_seen c_seenAhead c_weakLink c_weakTwos c_which c_views c_whichMany p1 p2 r_3 hr_3) cy_X8_isUp mML_X8_155 mIM_X8_isUp mSE_X8_isUp rfl rfl (k := 0) rfl (perm_self _) (perm_self _) rfl rfl hl.1 rfl (Nat.le_of_ble_eq_true rfl) dX8_would_16 ⟨Nat.le_of_ble_eq_true rfl, Nat.le_of_ble_eq_true rfl⟩ ⟨Nat.le_refl _, Nat.le_refl _⟩ (fun H locs hN => ?_)
    refine lv_if_eq (tgt := 27) hx hb dX8_would_19 (by decide) (fun c4 => ?_) (fun c4 => ?_)
    · have h := if_t h c4
      refine lv_aload_n hx hb dX8_would_27 rfl (lv_at hl 0 rfl) ?_
      refine lv_iload_n hx hb dX8_would_28 rfl (lv_at hl 1 rfl) ?_
      refine lv_iload_n hx hb dX8_would_29 rfl (lv_at hl 2 rfl) ?_
      obtain ⟨r_5, hr_5, h⟩ := bi_e h
      refine n_callVi (ws' := wX8 E adc c_now c_read c_past c_deeds c_images c_isKept c_text c_letters c_at c_token c_tokenAt c_value c_facts c_seen c_seenAhead c_weakLink c_weakTwos c_which c_views c_whichMany) hC hN (tX8_wouldBe l E adc c_now c_read c_past c_deeds c_images c_isKept c_text c_letters c_at c_token c_tokenAt c_value c_facts c_seen c_seenAhead c_weakLink c_weakTwos c_which c_views c_whichMany p1 p2 r_5 hr_5) cy_X8_wouldBe mML_X8_158 mIM_X8_wouldBe mSE_X8_wouldBe rfl rfl (k := 0) rfl (perm_self _) (perm_self _) rfl rfl hl.1 rfl (Nat.le_of_ble_eq_true rfl) dX8_would_30 ⟨Nat.le_of_ble_eq_true rfl, Nat.le_of_ble_eq_true rfl⟩ ⟨Nat.le_refl _, Nat.le_refl _⟩ (fun H locs hN => ?_)
      obtain rfl := Option.some.inj h
      exact n_iret hC hN dX8_would_33
    · have h := if_f h c4
      refine lv_bipush (v := -2) hx hb dX8_would_22 (by decide) ?_
      refine lv_goto (tgt := 33) hx hb dX8_would_24 (by decide) ?_
      obtain rfl := Option.some.inj h
      exact n_iret hC hN dX8_would_33
  · have h := if_t h c2
    refine lv_iconst (v := -1) hx hb dX8_would_9 rfl ?_
    refine lv_goto (tgt := 33) hx hb dX8_would_10 (by decide) ?_
    obtain rfl := Option.some.inj h
    exact n_iret hC hN dX8_would_33
set_option maxHeartbeats 4000000 in
set_option maxRecDepth 100000 in
theorem tX8_findWeakest (l : Launch) (E : EV) (adc : Nat → Nat) (c_now : Nat → Int32) (c_read : Nat → Int32) (c_past : Nat → Int32) (c_deeds : Int32) (c_images : Nat → Int32) (c_isKept : Nat → Int32) (c_text : Nat → Int32) (c_letters : Int32) (c_at : Int32) (c_token : Int32) (c_tokenAt : Int32) (c_value : Int32) (c_facts : Nat → Int32) (c_seen : Int32) (c_seenAhead : Nat → Int32) (c_weakLink : Int32) (c_weakTwos : Int32) (c_which : Nat → Int32) (c_views : Nat → Int32) (c_whichMany : Int32) (z : (Nat → Int32) × Int32 × Int32) (h : fX8_findWeakest c_now = some z) : Cn l E yX8_findWeakest cX8_findWeakest 5 none 6 139 [.ref (adc 0)] (wX8 E adc c_now c_read c_past c_deeds c_images c_isKept c_text c_letters c_at c_token c_tokenAt c_value c_facts c_seen c_seenAhead c_weakLink c_weakTwos c_which c_views c_whichMany) (wX8 E adc z.1 c_read c_past c_deeds c_images c_isKept c_text c_letters c_at c_token c_tokenAt c_value c_facts c_seen c_seenAhead z.2.1 z.2.2 c_which c_views c_whichMany) (none) := by
  refine Cn.ofW (by decide +kernel) (Nat.le_of_ble_eq_true rfl) ?_
  intro p e s m args below meth c ls hC hN hl
  obtain ⟨z0, hz0⟩ : ∃ y, y = z := ⟨_, rfl⟩
  rw [← hz0] at h ⊢
  clear hz0
  have hl : lv_has ls 5 [(0, .ref (adc 0))] := hl
  have hx := hC.1
  have hb := hC.2.1
  unfold fX8_findWeakest at h
  refine lv_aload_n hx hb dX8_findWeakest_0 rfl (lv_at hl 0 rfl) ?_
  refine lv_bipush (v := -9) hx hb dX8_findWeakest_1 (by decide) ?_
  refine pt_X8_weakLink hC hN 0 rfl (Nat.le_of_ble_eq_true rfl) (ws' := wX8 E adc c_now c_read c_past c_deeds c_images c_isKept c_text c_letters c_at c_token c_tokenAt c_value c_facts c_seen c_seenAhead (-9) c_weakTwos c_which c_views c_whichMany) rfl dX8_findWeakest_3 (fun H locs hN => ?_)
  refine lv_aload_n hx hb dX8_findWeakest_6 rfl (lv_at hl 0 rfl) ?_
  refine lv_bipush (v := -9) hx hb dX8_findWeakest_7 (by decide) ?_
  refine pt_X8_weakTwos hC hN 0 rfl (Nat.le_of_ble_eq_true rfl) (ws' := wX8 E adc c_now c_read c_past c_deeds c_images c_isKept c_text c_letters c_at c_token c_tokenAt c_value c_facts c_seen c_seenAhead (-9) (-9) c_which c_views c_whichMany) rfl dX8_findWeakest_9 (fun H locs hN => ?_)
  refine lv_aload_n hx hb dX8_findWeakest_12 rfl (lv_at hl 0 rfl) ?_
  obtain ⟨r_1, hr_1, h⟩ := bi_e h
  refine n_callVi (ws' := wX8 E adc c_now c_read c_past c_deeds c_images c_isKept c_text c_letters c_at c_token c_tokenAt c_value c_facts c_seen c_seenAhead (-9) (-9) c_which c_views c_whichMany) hC hN (tX8_twos l E adc c_now c_read c_past c_deeds c_images c_isKept c_text c_letters c_at c_token c_tokenAt c_value c_facts c_seen c_seenAhead (-9) (-9) c_which c_views c_whichMany r_1 hr_1) cy_X8_twos mML_X8_193 mIM_X8_twos mSE_X8_twos rfl rfl (k := 0) rfl (perm_self _) (perm_self _) rfl rfl hl.1 rfl (Nat.le_of_ble_eq_true rfl) dX8_findWeakest_13 ⟨Nat.le_of_ble_eq_true rfl, Nat.le_of_ble_eq_true rfl⟩ ⟨Nat.le_refl _, Nat.le_refl _⟩ (fun H locs hN => ?_)
  refine lv_istore_n (lv' := [(1, .int r_1), (0, .ref (adc 0))]) hx hb dX8_findWeakest_16 rfl hl (by decide) rfl (fun ls hl => ?_)
  refine lv_iconst (v := 0) hx hb dX8_findWeakest_17 rfl ?_
  refine lv_istore_n (lv' := [(2, .int 0), (1, .int r_1), (0, .ref (adc 0))]) hx hb dX8_findWeakest_18 rfl hl (by decide) rfl (fun ls hl => ?_)
  have L1 : ∀ (fu : Nat) (v2_2 : Int32) (c_now_3 : Nat → Int32) (c_weakLink_4 : Int32) (c_weakTwos_5 : Int32) (z : Int32 × (Nat → Int32) × Int32 × Int32) (H : Heap) (locs : List Loc) (ls : Array Slot), Nw E s (AD (wX8 E adc c_now c_read c_past c_deeds c_images c_isKept c_text c_letters c_at c_token c_tokenAt c_value c_facts c_seen c_seenAhead c_weakLink c_weakTwos c_which c_views c_whichMany)) (wX8 E adc c_now_3 c_read c_past c_deeds c_images c_isKept c_text c_letters c_at c_token c_tokenAt c_value c_facts c_seen c_seenAhead c_weakLink_4 c_weakTwos_5 c_which c_views c_whichMany) H locs → lv_has ls 5 [(0, .ref (adc 0)), (1, .int r_1), (2, .int v2_2)] → fX8_findWeakest_L1 r_1 fu v2_2 c_now_3 c_weakLink_4 c_weakTwos_5 = some z → (∀ (H : Heap) (locs : List Loc) (ls : Array Slot), Nw E s (AD (wX8 E adc c_now c_read c_past c_deeds c_images c_isKept c_text c_letters c_at c_token c_tokenAt c_value c_facts c_seen c_seenAhead c_weakLink c_weakTwos c_which c_views c_whichMany)) (wX8 E adc z.2.1 c_read c_past c_deeds c_images c_isKept c_text c_letters c_at c_token c_tokenAt c_value c_facts c_seen c_seenAhead z.2.2.1 z.2.2.2 c_which c_views c_whichMany) H locs → lv_has ls 5 [(0, .ref (adc 0)), (1, .int r_1), (2, .int z.1)] → WN p l e 6 139 s m args below meth c E (wX8 E adc c_now c_read c_past c_deeds c_images c_isKept c_text c_letters c_at c_token c_tokenAt c_value c_facts c_seen c_seenAhead c_weakLink c_weakTwos c_which c_views c_whichMany) (none) (wX8 E adc z0.1 c_read c_past c_deeds c_images c_isKept c_text c_letters c_at c_token c_tokenAt c_value c_facts c_seen c_seenAhead z0.2.1 z0.2.2 c_which c_views c_whichMany) H locs (F0 m 136 ls [])) → WN p l e 6 139 s m args below meth c E (wX8 E adc c_now c_read c_past c_deeds c_images c_isKept c_text c_letters c_at c_token c_tokenAt c_value c_facts c_seen c_seenAhead c_weakLink c_weakTwos c_which c_views c_whichMany) (none) (wX8 E adc z0.1 c_read c_past c_deeds c_images c_isKept c_text c_letters c_at c_token c_tokenAt c_value c_facts c_seen c_seenAhead z0.2.1 z0.2.2 c_which c_views c_whichMany) H locs (F0 m 19 ls []) := by
    intro fu
    induction fu with
    | zero =>
      intro v2_2 c_now_3 c_weakLink_4 c_weakTwos_5 z H locs ls hN hl h K
      cases (show (none : Option (Int32 × (Nat → Int32) × Int32 × Int32)) = some z from h)
    | succ fu ih =>
      intro v2_2 c_now_3 c_weakLink_4 c_weakTwos_5 z H locs ls hN hl h K
      rw [fX8_findWeakest_L1.eq_2] at h
      refine lv_iload_n hx hb dX8_findWeakest_19 rfl (lv_at hl 2 rfl) ?_
      refine lv_aload_n hx hb dX8_findWeakest_20 rfl (lv_at hl 0 rfl) ?_
      refine gt_X8_now hC hN 0 rfl rfl dX8_findWeakest_21 ?_
      refine lv_iconst (v := 0) hx hb dX8_findWeakest_24 rfl ?_
      have g := inB_vp (gd_c h)
      have h := gd_e h
      refine n_iald hC hN 1 rfl g dX8_findWeakest_25 ?_
      refine lv_icmp_ge (tgt := 136) hx hb dX8_findWeakest_26 (by decide) (fun c6 => ?_) (fun c6 => ?_)
      · have h := if_t h c6
        obtain rfl := Option.some.inj h
        exact K _ _ _ hN (lv_sub hl [0, 1, 2] rfl)
      · have h := if_f h c6
        refine lv_iload_n hx hb dX8_findWeakest_29 rfl (lv_at hl 2 rfl) ?_
        refine lv_iconst (v := 1) hx hb dX8_findWeakest_30 rfl ?_
        refine lv_iadd hx hb dX8_findWeakest_31 ?_
        refine lv_topi (fun v3_7 ev3_7 => ?_)
        have h := bd_e h v3_7 ev3_7
        refine lv_istore_n (lv' := [(3, .int v3_7), (0, .ref (adc 0)), (1, .int r_1), (2, .int v2_2)]) hx hb dX8_findWeakest_32 rfl hl (by decide) rfl (fun ls hl => ?_)
        have L2 : ∀ (fu : Nat) (v3_8 : Int32) (c_now_9 : Nat → Int32) (c_weakLink_10 : Int32) (c_weakTwos_11 : Int32) (z : Int32 × (Nat → Int32) × Int32 × Int32) (H : Heap) (locs : List Loc) (ls : Array Slot), Nw E s (AD (wX8 E adc c_now c_read c_past c_deeds c_images c_isKept c_text c_letters c_at c_token c_tokenAt c_value c_facts c_seen c_seenAhead c_weakLink c_weakTwos c_which c_views c_whichMany)) (wX8 E adc c_now_9 c_read c_past c_deeds c_images c_isKept c_text c_letters c_at c_token c_tokenAt c_value c_facts c_seen c_seenAhead c_weakLink_10 c_weakTwos_11 c_which c_views c_whichMany) H locs → lv_has ls 5 [(0, .ref (adc 0)), (1, .int r_1), (2, .int v2_2), (3, .int v3_8)] → fX8_findWeakest_L2 r_1 v2_2 fu v3_8 c_now_9 c_weakLink_10 c_weakTwos_11 = some z → (∀ (H : Heap) (locs : List Loc) (ls : Array Slot), Nw E s (AD (wX8 E adc c_now c_read c_past c_deeds c_images c_isKept c_text c_letters c_at c_token c_tokenAt c_value c_facts c_seen c_seenAhead c_weakLink c_weakTwos c_which c_views c_whichMany)) (wX8 E adc z.2.1 c_read c_past c_deeds c_images c_isKept c_text c_letters c_at c_token c_tokenAt c_value c_facts c_seen c_seenAhead z.2.2.1 z.2.2.2 c_which c_views c_whichMany) H locs → lv_has ls 5 [(0, .ref (adc 0)), (1, .int r_1), (2, .int v2_2), (3, .int z.1)] → WN p l e 6 139 s m args below meth c E (wX8 E adc c_now c_read c_past c_deeds c_images c_isKept c_text c_letters c_at c_token c_tokenAt c_value c_facts c_seen c_seenAhead c_weakLink c_weakTwos c_which c_views c_whichMany) (none) (wX8 E adc z0.1 c_read c_past c_deeds c_images c_isKept c_text c_letters c_at c_token c_tokenAt c_value c_facts c_seen c_seenAhead z0.2.1 z0.2.2 c_which c_views c_whichMany) H locs (F0 m 130 ls [])) → WN p l e 6 139 s m args below meth c E (wX8 E adc c_now c_read c_past c_deeds c_images c_isKept c_text c_letters c_at c_token c_tokenAt c_value c_facts c_seen c_seenAhead c_weakLink c_weakTwos c_which c_views c_whichMany) (none) (wX8 E adc z0.1 c_read c_past c_deeds c_images c_isKept c_text c_letters c_at c_token c_tokenAt c_value c_facts c_seen c_seenAhead z0.2.1 z0.2.2 c_which c_views c_whichMany) H locs (F0 m 33 ls []) := by
          intro fu
          induction fu with
          | zero =>
            intro v3_8 c_now_9 c_weakLink_10 c_weakTwos_11 z H locs ls hN hl h K
            cases (show (none : Option (Int32 × (Nat → Int32) × Int32 × Int32)) = some z from h)
          | succ fu ih =>
            intro v3_8 c_now_9 c_weakLink_10 c_weakTwos_11 z H locs ls hN hl h K
            rw [fX8_findWeakest_L2.eq_2] at h
            refine lv_iload_n hx hb dX8_findWeakest_33 rfl (lv_at hl 3 rfl) ?_
            refine lv_aload_n hx hb dX8_findWeakest_34 rfl (lv_at hl 0 rfl) ?_
            refine gt_X8_now hC hN 0 rfl rfl dX8_findWeakest_35 ?_
            refine lv_iconst (v := 0) hx hb dX8_findWeakest_38 rfl ?_
            have g := inB_vp (gd_c h)
            have h := gd_e h
            refine n_iald hC hN 1 rfl g dX8_findWeakest_39 ?_
            refine lv_icmp_ge (tgt := 130) hx hb dX8_findWeakest_40 (by decide) (fun c12 => ?_) (fun c12 => ?_)
            · have h := if_t h c12
              obtain rfl := Option.some.inj h
              exact K _ _ _ hN (lv_sub hl [0, 1, 2, 3] rfl)
            · have h := if_f h c12
              refine lv_aload_n hx hb dX8_findWeakest_43 rfl (lv_at hl 0 rfl) ?_
              refine lv_iload_n hx hb dX8_findWeakest_44 rfl (lv_at hl 2 rfl) ?_
              refine lv_iload_n hx hb dX8_findWeakest_45 rfl (lv_at hl 3 rfl) ?_
              obtain ⟨r_13, hr_13, h⟩ := bi_e h
              refine n_callVi (ws' := wX8 E adc c_now_9 c_read c_past c_deeds c_images c_isKept c_text c_letters c_at c_token c_tokenAt c_value c_facts c_seen c_seenAhead c_weakLink_10 c_weakTwos_11 c_which c_views c_whichMany) hC hN (tX8_isUp l E adc c_now_9 c_read c_past c_deeds c_images c_isKept c_text c_letters c_at c_token c_tokenAt c_value c_facts c_seen c_seenAhead c_weakLink_10 c_weakTwos_11 c_which c_views c_whichMany v2_2 v3_8 r_13 hr_13) cy_X8_isUp mML_X8_155 mIM_X8_isUp mSE_X8_isUp rfl rfl (k := 0) rfl (perm_self _) (perm_self _) rfl rfl hl.1 rfl (Nat.le_of_ble_eq_true rfl) dX8_findWeakest_46 ⟨Nat.le_of_ble_eq_true rfl, Nat.le_of_ble_eq_true rfl⟩ ⟨Nat.le_refl _, Nat.le_refl _⟩ (fun H locs hN => ?_)
              refine lv_if_eq (tgt := 124) hx hb dX8_findWeakest_49 (by decide) (fun c14 => ?_) (fun c14 => ?_)
              · have h := if_t h c14
                obtain ⟨v3_15, ev3_15⟩ : ∃ y : Int32, y = v3_8 + 1 := ⟨_, rfl⟩
                have h := bd_e h v3_15 ev3_15
                refine lv_iinc (v := v3_15) (lv' := [(3, .int v3_15), (0, .ref (adc 0)), (1, .int r_1), (2, .int v2_2)]) hx hb dX8_findWeakest_124 hl (k := 3) rfl (by rw [ev3_15]; rfl) (by decide) rfl (fun ls hl => ?_)
                refine lv_goto (tgt := 33) hx hb dX8_findWeakest_127 (by decide) ?_
                exact ih v3_15 c_now_9 c_weakLink_10 c_weakTwos_11 z _ _ _ hN (lv_sub hl [1, 2, 3, 0] rfl) h K
              · have h := if_f h c14
                refine lv_aload_n hx hb dX8_findWeakest_52 rfl (lv_at hl 0 rfl) ?_
                refine lv_iload_n hx hb dX8_findWeakest_53 rfl (lv_at hl 2 rfl) ?_
                refine lv_iload_n hx hb dX8_findWeakest_54 rfl (lv_at hl 3 rfl) ?_
                refine lv_iconst (v := 0) hx hb dX8_findWeakest_55 rfl ?_
                refine lv_iconst (v := 0) hx hb dX8_findWeakest_56 rfl ?_
                obtain ⟨z_16, hz_16, h⟩ := bi_e h
                refine n_callVv (ws' := wX8 E adc z_16 c_read c_past c_deeds c_images c_isKept c_text c_letters c_at c_token c_tokenAt c_value c_facts c_seen c_seenAhead c_weakLink_10 c_weakTwos_11 c_which c_views c_whichMany) hC hN (tX8_putLink l E adc c_now_9 c_read c_past c_deeds c_images c_isKept c_text c_letters c_at c_token c_tokenAt c_value c_facts c_seen c_seenAhead c_weakLink_10 c_weakTwos_11 c_which c_views c_whichMany v2_2 v3_8 0 0 z_16 hz_16) cy_X8_putLink mML_X8_161 mIM_X8_putLink mSE_X8_putLink rfl rfl (k := 0) rfl (perm_self _) (perm_self _) rfl rfl hl.1 rfl (Nat.le_of_ble_eq_true rfl) dX8_findWeakest_57 ⟨Nat.le_of_ble_eq_true rfl, Nat.le_of_ble_eq_true rfl⟩ ⟨Nat.le_refl _, Nat.le_refl _⟩ (fun H locs hN => ?_)
                refine lv_iload_n hx hb dX8_findWeakest_60 rfl (lv_at hl 1 rfl) ?_
                refine lv_aload_n hx hb dX8_findWeakest_61 rfl (lv_at hl 0 rfl) ?_
                obtain ⟨r_17, hr_17, h⟩ := bi_e h
                refine n_callVi (ws' := wX8 E adc z_16 c_read c_past c_deeds c_images c_isKept c_text c_letters c_at c_token c_tokenAt c_value c_facts c_seen c_seenAhead c_weakLink_10 c_weakTwos_11 c_which c_views c_whichMany) hC hN (tX8_twos l E adc z_16 c_read c_past c_deeds c_images c_isKept c_text c_letters c_at c_token c_tokenAt c_value c_facts c_seen c_seenAhead c_weakLink_10 c_weakTwos_11 c_which c_views c_whichMany r_17 hr_17) cy_X8_twos mML_X8_193 mIM_X8_twos mSE_X8_twos rfl rfl (k := 0) rfl (perm_self _) (perm_self _) rfl rfl hl.1 rfl (Nat.le_of_ble_eq_true rfl) dX8_findWeakest_62 ⟨Nat.le_of_ble_eq_true rfl, Nat.le_of_ble_eq_true rfl⟩ ⟨Nat.le_refl _, Nat.le_refl _⟩ (fun H locs hN => ?_)
                refine lv_isub hx hb dX8_findWeakest_65 ?_
                refine lv_topi (fun v4_18 ev4_18 => ?_)
                have h := bd_e h v4_18 ev4_18
                refine lv_istore (lv' := [(4, .int v4_18), (0, .ref (adc 0)), (1, .int r_1), (2, .int v2_2), (3, .int v3_8)]) hx hb dX8_findWeakest_66 hl (by decide) rfl (fun ls hl => ?_)
                refine lv_aload_n hx hb dX8_findWeakest_68 rfl (lv_at hl 1 rfl) ?_
                refine lv_iload_n hx hb dX8_findWeakest_69 rfl (lv_at hl 3 rfl) ?_
                refine lv_iload_n hx hb dX8_findWeakest_70 rfl (lv_at hl 4 rfl) ?_
                refine lv_iconst (v := 1) hx hb dX8_findWeakest_71 rfl ?_
                refine lv_iconst (v := 0) hx hb dX8_findWeakest_72 rfl ?_
                obtain ⟨z_19, hz_19, h⟩ := bi_e h
                refine n_callVv (ws' := wX8 E adc z_19 c_read c_past c_deeds c_images c_isKept c_text c_letters c_at c_token c_tokenAt c_value c_facts c_seen c_seenAhead c_weakLink_10 c_weakTwos_11 c_which c_views c_whichMany) hC hN (tX8_putLink l E adc z_16 c_read c_past c_deeds c_images c_isKept c_text c_letters c_at c_token c_tokenAt c_value c_facts c_seen c_seenAhead c_weakLink_10 c_weakTwos_11 c_which c_views c_whichMany v2_2 v3_8 1 0 z_19 hz_19) cy_X8_putLink mML_X8_161 mIM_X8_putLink mSE_X8_putLink rfl rfl (k := 0) rfl (perm_self _) (perm_self _) rfl rfl hl.1 rfl (Nat.le_of_ble_eq_true rfl) dX8_findWeakest_73 ⟨Nat.le_of_ble_eq_true rfl, Nat.le_of_ble_eq_true rfl⟩ ⟨Nat.le_refl _, Nat.le_refl _⟩ (fun H locs hN => ?_)
                refine lv_aload_n hx hb dX8_findWeakest_76 rfl (lv_at hl 1 rfl) ?_
                refine lv_iload hx hb dX8_findWeakest_77 (lv_at hl 0 rfl) ?_
                refine lv_aload_n hx hb dX8_findWeakest_79 rfl (lv_at hl 1 rfl) ?_
                refine gt_X8_weakTwos hC hN 0 rfl rfl dX8_findWeakest_80 ?_
                refine lv_icmp_le (tgt := 95) hx hb dX8_findWeakest_83 (by decide) (fun c20 => ?_) (fun c20 => ?_)
                · have h := if_t h c20
                  refine lv_aload_n hx hb dX8_findWeakest_95 rfl (lv_at hl 1 rfl) ?_
                  refine gt_X8_weakLink hC hN 0 rfl rfl dX8_findWeakest_96 ?_
                  refine pt_X8_weakLink hC hN 0 rfl (Nat.le_of_ble_eq_true rfl) (ws' := wX8 E adc z_19 c_read c_past c_deeds c_images c_isKept c_text c_letters c_at c_token c_tokenAt c_value c_facts c_seen c_seenAhead c_weakLink_10 c_weakTwos_11 c_which c_views c_whichMany) rfl dX8_findWeakest_99 (fun H locs hN => ?_)
                  refine lv_aload_n hx hb dX8_findWeakest_102 rfl (lv_at hl 1 rfl) ?_
                  refine lv_iload hx hb dX8_findWeakest_103 (lv_at hl 0 rfl) ?_
                  refine lv_aload_n hx hb dX8_findWeakest_105 rfl (lv_at hl 1 rfl) ?_
                  refine gt_X8_weakTwos hC hN 0 rfl rfl dX8_findWeakest_106 ?_
                  refine lv_icmp_le (tgt := 117) hx hb dX8_findWeakest_109 (by decide) (fun c21 => ?_) (fun c21 => ?_)
                  · have h := if_t h c21
                    refine lv_aload_n hx hb dX8_findWeakest_117 rfl (lv_at hl 1 rfl) ?_
                    refine gt_X8_weakTwos hC hN 0 rfl rfl dX8_findWeakest_118 ?_
                    refine pt_X8_weakTwos hC hN 0 rfl (Nat.le_of_ble_eq_true rfl) (ws' := wX8 E adc z_19 c_read c_past c_deeds c_images c_isKept c_text c_letters c_at c_token c_tokenAt c_value c_facts c_seen c_seenAhead c_weakLink_10 c_weakTwos_11 c_which c_views c_whichMany) rfl dX8_findWeakest_121 (fun H locs hN => ?_)
                    obtain ⟨v3_22, ev3_22⟩ : ∃ y : Int32, y = v3_8 + 1 := ⟨_, rfl⟩
                    have h := bd_e h v3_22 ev3_22
                    refine lv_iinc (v := v3_22) (lv' := [(3, .int v3_22), (4, .int v4_18), (0, .ref (adc 0)), (1, .int r_1), (2, .int v2_2)]) hx hb dX8_findWeakest_124 hl (k := 4) rfl (by rw [ev3_22]; rfl) (by decide) rfl (fun ls hl => ?_)
                    refine lv_goto (tgt := 33) hx hb dX8_findWeakest_127 (by decide) ?_
                    exact ih v3_22 z_19 c_weakLink_10 c_weakTwos_11 z _ _ _ hN (lv_sub hl [2, 3, 4, 0] rfl) h K
                  · have h := if_f h c21
                    refine lv_iload hx hb dX8_findWeakest_112 (lv_at hl 0 rfl) ?_
                    refine lv_goto (tgt := 121) hx hb dX8_findWeakest_114 (by decide) ?_
                    refine pt_X8_weakTwos hC hN 0 rfl (Nat.le_of_ble_eq_true rfl) (ws' := wX8 E adc z_19 c_read c_past c_deeds c_images c_isKept c_text c_letters c_at c_token c_tokenAt c_value c_facts c_seen c_seenAhead c_weakLink_10 v4_18 c_which c_views c_whichMany) rfl dX8_findWeakest_121 (fun H locs hN => ?_)
                    obtain ⟨v3_23, ev3_23⟩ : ∃ y : Int32, y = v3_8 + 1 := ⟨_, rfl⟩
                    have h := bd_e h v3_23 ev3_23
                    refine lv_iinc (v := v3_23) (lv' := [(3, .int v3_23), (4, .int v4_18), (0, .ref (adc 0)), (1, .int r_1), (2, .int v2_2)]) hx hb dX8_findWeakest_124 hl (k := 4) rfl (by rw [ev3_23]; rfl) (by decide) rfl (fun ls hl => ?_)
                    refine lv_goto (tgt := 33) hx hb dX8_findWeakest_127 (by decide) ?_
                    exact ih v3_23 z_19 c_weakLink_10 v4_18 z _ _ _ hN (lv_sub hl [2, 3, 4, 0] rfl) h K
                · have h := if_f h c20
                  refine lv_bipush (v := 10) hx hb dX8_findWeakest_86 (by decide) ?_
                  refine lv_iload_n hx hb dX8_findWeakest_88 rfl (lv_at hl 3 rfl) ?_
                  refine lv_imul hx hb dX8_findWeakest_89 ?_
                  refine lv_iload_n hx hb dX8_findWeakest_90 rfl (lv_at hl 4 rfl) ?_
                  refine lv_iadd hx hb dX8_findWeakest_91 ?_
                  refine lv_goto (tgt := 99) hx hb dX8_findWeakest_92 (by decide) ?_
                  refine lv_topi (fun c_weakLink_24 ec_weakLink_24 => ?_)
                  have h := bd_e h c_weakLink_24 ec_weakLink_24
                  refine pt_X8_weakLink hC hN 0 rfl (Nat.le_of_ble_eq_true rfl) (ws' := wX8 E adc z_19 c_read c_past c_deeds c_images c_isKept c_text c_letters c_at c_token c_tokenAt c_value c_facts c_seen c_seenAhead c_weakLink_24 c_weakTwos_11 c_which c_views c_whichMany) rfl dX8_findWeakest_99 (fun H locs hN => ?_)
                  refine lv_aload_n hx hb dX8_findWeakest_102 rfl (lv_at hl 1 rfl) ?_
                  refine lv_iload hx hb dX8_findWeakest_103 (lv_at hl 0 rfl) ?_
                  refine lv_aload_n hx hb dX8_findWeakest_105 rfl (lv_at hl 1 rfl) ?_
                  refine gt_X8_weakTwos hC hN 0 rfl rfl dX8_findWeakest_106 ?_
                  refine lv_icmp_le (tgt := 117) hx hb dX8_findWeakest_109 (by decide) (fun c25 => ?_) (fun c25 => ?_)
                  · have h := if_t h c25
                    refine lv_aload_n hx hb dX8_findWeakest_117 rfl (lv_at hl 1 rfl) ?_
                    refine gt_X8_weakTwos hC hN 0 rfl rfl dX8_findWeakest_118 ?_
                    refine pt_X8_weakTwos hC hN 0 rfl (Nat.le_of_ble_eq_true rfl) (ws' := wX8 E adc z_19 c_read c_past c_deeds c_images c_isKept c_text c_letters c_at c_token c_tokenAt c_value c_facts c_seen c_seenAhead c_weakLink_24 c_weakTwos_11 c_which c_views c_whichMany) rfl dX8_findWeakest_121 (fun H locs hN => ?_)
                    obtain ⟨v3_26, ev3_26⟩ : ∃ y : Int32, y = v3_8 + 1 := ⟨_, rfl⟩
                    have h := bd_e h v3_26 ev3_26
                    refine lv_iinc (v := v3_26) (lv' := [(3, .int v3_26), (4, .int v4_18), (0, .ref (adc 0)), (1, .int r_1), (2, .int v2_2)]) hx hb dX8_findWeakest_124 hl (k := 4) rfl (by rw [ev3_26]; rfl) (by decide) rfl (fun ls hl => ?_)
                    refine lv_goto (tgt := 33) hx hb dX8_findWeakest_127 (by decide) ?_
                    exact ih v3_26 z_19 c_weakLink_24 c_weakTwos_11 z _ _ _ hN (lv_sub hl [2, 3, 4, 0] rfl) h K
                  · have h := if_f h c25
                    refine lv_iload hx hb dX8_findWeakest_112 (lv_at hl 0 rfl) ?_
                    refine lv_goto (tgt := 121) hx hb dX8_findWeakest_114 (by decide) ?_
                    refine pt_X8_weakTwos hC hN 0 rfl (Nat.le_of_ble_eq_true rfl) (ws' := wX8 E adc z_19 c_read c_past c_deeds c_images c_isKept c_text c_letters c_at c_token c_tokenAt c_value c_facts c_seen c_seenAhead c_weakLink_24 v4_18 c_which c_views c_whichMany) rfl dX8_findWeakest_121 (fun H locs hN => ?_)
                    obtain ⟨v3_27, ev3_27⟩ : ∃ y : Int32, y = v3_8 + 1 := ⟨_, rfl⟩
                    have h := bd_e h v3_27 ev3_27
                    refine lv_iinc (v := v3_27) (lv' := [(3, .int v3_27), (4, .int v4_18), (0, .ref (adc 0)), (1, .int r_1), (2, .int v2_2)]) hx hb dX8_findWeakest_124 hl (k := 4) rfl (by rw [ev3_27]; rfl) (by decide) rfl (fun ls hl => ?_)
                    refine lv_goto (tgt := 33) hx hb dX8_findWeakest_127 (by decide) ?_
                    exact ih v3_27 z_19 c_weakLink_24 v4_18 z _ _ _ hN (lv_sub hl [2, 3, 4, 0] rfl) h K
        obtain ⟨z_28, hz_28, h⟩ := bi_e h
        refine L2 500 v3_7 c_now_3 c_weakLink_4 c_weakTwos_5 z_28 _ _ _ hN (lv_sub hl [1, 2, 3, 0] rfl) hz_28 (fun H locs ls hN hl => ?_)
        obtain ⟨v2_29, ev2_29⟩ : ∃ y : Int32, y = v2_2 + 1 := ⟨_, rfl⟩
        have h := bd_e h v2_29 ev2_29
        refine lv_iinc (v := v2_29) (lv' := [(2, .int v2_29), (0, .ref (adc 0)), (1, .int r_1), (3, .int z_28.1)]) hx hb dX8_findWeakest_130 hl (k := 2) rfl (by rw [ev2_29]; rfl) (by decide) rfl (fun ls hl => ?_)
        refine lv_goto (tgt := 19) hx hb dX8_findWeakest_133 (by decide) ?_
        exact ih v2_29 z_28.2.1 z_28.2.2.1 z_28.2.2.2 z _ _ _ hN (lv_sub hl [1, 2, 0] rfl) h K
  obtain ⟨z_30, hz_30, h⟩ := bi_e h
  refine L1 500 0 c_now (-9) (-9) z_30 _ _ _ hN (lv_sub hl [2, 1, 0] rfl) hz_30 (fun H locs ls hN hl => ?_)
  obtain rfl := Option.some.inj h
  exact n_vret hC hN dX8_findWeakest_136
