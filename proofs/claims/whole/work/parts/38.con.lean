set_option maxHeartbeats 4000000 in
set_option maxRecDepth 100000 in
theorem tX8_weakest (l : Launch) (E : EV) (adc : Nat → Nat) (c_now : Nat → Int32) (c_read : Nat → Int32) (c_past : Nat → Int32) (c_deeds : Int32) (c_images : Nat → Int32) (c_isKept : Nat → Int32) (c_text : Nat → Int32) (c_letters : Int32) (c_at : Int32) (c_token : Int32) (c_tokenAt : Int32) (c_value : Int32) (c_facts : Nat → Int32) (c_seen : Int32) (c_seenAhead : Nat → Int32) (c_weakLink : Int32) (c_weakTwos : Int32) (c_which : Nat → Int32) (c_views : Nat → Int32) (c_whichMany : Int32) (p1 : Int32) (z : Int32 × (Nat → Int32) × Int32 × Int32) (h : fX8_weakest c_now c_weakLink c_weakTwos p1 = some z) : Cn l E yX8_weakest cX8_weakest 2 (some .int) 7 163 [.ref (adc 0), .int p1] (wX8 E adc c_now c_read c_past c_deeds c_images c_isKept c_text c_letters c_at c_token c_tokenAt c_value c_facts c_seen c_seenAhead c_weakLink c_weakTwos c_which c_views c_whichMany) (wX8 E adc z.2.1 c_read c_past c_deeds c_images c_isKept c_text c_letters c_at c_token c_tokenAt c_value c_facts c_seen c_seenAhead z.2.2.1 z.2.2.2 c_which c_views c_whichMany) (some (.int z.1)) := by
  refine Cn.ofW (by decide +kernel) (Nat.le_of_ble_eq_true rfl) ?_
  intro p e s m args below meth c ls hC hN hl
  have hl : lv_has ls 2 [(0, .ref (adc 0)), (1, .int p1)] := hl
  have hx := hC.1
  have hb := hC.2.1
  unfold fX8_weakest at h
  refine lv_iload_n hx hb dX8_weakest_0 rfl (lv_at hl 1 rfl) ?_
  refine lv_iconst (v := 0) hx hb dX8_weakest_1 rfl ?_
  refine lv_iconst (v := 1) hx hb dX8_weakest_2 rfl ?_
  obtain ⟨r_1, hr_1, h⟩ := bi_e h
  refine n_callSi (ws' := wX8 E adc c_now c_read c_past c_deeds c_images c_isKept c_text c_letters c_at c_token c_tokenAt c_value c_facts c_seen c_seenAhead c_weakLink c_weakTwos c_which c_views c_whichMany) hC hN (tX8_in l E p1 0 1 r_1 hr_1) cy_X8_in mML_X8_55 mST_X8_in (perm_nil _) (perm_nil _) rfl rfl hl.1 rfl (Nat.le_of_ble_eq_true rfl) dX8_weakest_3 ⟨Nat.le_of_ble_eq_true rfl, Nat.le_of_ble_eq_true rfl⟩ ⟨Nat.le_refl _, Nat.le_refl _⟩ (fun H locs hN => ?_)
  refine lv_if_ne (tgt := 11) hx hb dX8_weakest_6 (by decide) (fun c2 => ?_) (fun c2 => ?_)
  · have h := if_f h c2
    refine lv_aload_n hx hb dX8_weakest_11 rfl (lv_at hl 0 rfl) ?_
    obtain ⟨z_3, hz_3, h⟩ := bi_e h
    refine n_callVv (ws' := wX8 E adc z_3.1 c_read c_past c_deeds c_images c_isKept c_text c_letters c_at c_token c_tokenAt c_value c_facts c_seen c_seenAhead z_3.2.1 z_3.2.2 c_which c_views c_whichMany) hC hN (tX8_findWeakest l E adc c_now c_read c_past c_deeds c_images c_isKept c_text c_letters c_at c_token c_tokenAt c_value c_facts c_seen c_seenAhead c_weakLink c_weakTwos c_which c_views c_whichMany z_3 hz_3) cy_X8_findWeakest mML_X8_196 mIM_X8_findWeakest mSE_X8_findWeakest rfl rfl (k := 0) rfl (perm_self _) (perm_self _) rfl rfl hl.1 rfl (Nat.le_of_ble_eq_true rfl) dX8_weakest_12 ⟨Nat.le_of_ble_eq_true rfl, Nat.le_of_ble_eq_true rfl⟩ ⟨Nat.le_refl _, Nat.le_refl _⟩ (fun H locs hN => ?_)
    refine lv_iload_n hx hb dX8_weakest_15 rfl (lv_at hl 1 rfl) ?_
    refine lv_if_ne (tgt := 26) hx hb dX8_weakest_16 (by decide) (fun c4 => ?_) (fun c4 => ?_)
    · have h := if_f h c4
      refine lv_aload_n hx hb dX8_weakest_26 rfl (lv_at hl 0 rfl) ?_
      refine gt_X8_weakTwos hC hN 0 rfl rfl dX8_weakest_27 ?_
      obtain rfl := Option.some.inj h
      exact n_iret hC hN dX8_weakest_30
    · have h := if_t h c4
      refine lv_aload_n hx hb dX8_weakest_19 rfl (lv_at hl 0 rfl) ?_
      refine gt_X8_weakLink hC hN 0 rfl rfl dX8_weakest_20 ?_
      refine lv_goto (tgt := 30) hx hb dX8_weakest_23 (by decide) ?_
      obtain rfl := Option.some.inj h
      exact n_iret hC hN dX8_weakest_30
  · have h := if_t h c2
    refine lv_iconst (v := -1) hx hb dX8_weakest_9 rfl ?_
    obtain rfl := Option.some.inj h
    exact n_iret hC hN dX8_weakest_10
set_option maxHeartbeats 4000000 in
set_option maxRecDepth 100000 in
theorem tX8_sees (l : Launch) (E : EV) (adc : Nat → Nat) (c_now : Nat → Int32) (c_read : Nat → Int32) (c_past : Nat → Int32) (c_deeds : Int32) (c_images : Nat → Int32) (c_isKept : Nat → Int32) (c_text : Nat → Int32) (c_letters : Int32) (c_at : Int32) (c_token : Int32) (c_tokenAt : Int32) (c_value : Int32) (c_facts : Nat → Int32) (c_seen : Int32) (c_seenAhead : Nat → Int32) (c_weakLink : Int32) (c_weakTwos : Int32) (c_which : Nat → Int32) (c_views : Nat → Int32) (c_whichMany : Int32) (p1 : Int32) (p2 : Int32) (p3 : Int32) (z : Int32 × (Nat → Int32) × Int32) (h : fX8_sees c_facts c_seen p1 p2 p3 = some z) : Cn l E yX8_sees cX8_sees 4 (some .int) 1 22 [.ref (adc 0), .int p1, .int p2, .int p3] (wX8 E adc c_now c_read c_past c_deeds c_images c_isKept c_text c_letters c_at c_token c_tokenAt c_value c_facts c_seen c_seenAhead c_weakLink c_weakTwos c_which c_views c_whichMany) (wX8 E adc c_now c_read c_past c_deeds c_images c_isKept c_text c_letters c_at c_token c_tokenAt c_value z.2.1 z.2.2 c_seenAhead c_weakLink c_weakTwos c_which c_views c_whichMany) (some (.int z.1)) := by
  refine Cn.ofW (by decide +kernel) (Nat.le_of_ble_eq_true rfl) ?_
  intro p e s m args below meth c ls hC hN hl
  have hl : lv_has ls 4 [(0, .ref (adc 0)), (1, .int p1), (2, .int p2), (3, .int p3)] := hl
  have hx := hC.1
  have hb := hC.2.1
  unfold fX8_sees at h
  refine lv_iload_n hx hb dX8_sees_0 rfl (lv_at hl 1 rfl) ?_
  refine lv_iconst (v := 0) hx hb dX8_sees_1 rfl ?_
  refine lv_bipush (v := 7) hx hb dX8_sees_2 (by decide) ?_
  obtain ⟨r_1, hr_1, h⟩ := bi_e h
  refine n_callSi (ws' := wX8 E adc c_now c_read c_past c_deeds c_images c_isKept c_text c_letters c_at c_token c_tokenAt c_value c_facts c_seen c_seenAhead c_weakLink c_weakTwos c_which c_views c_whichMany) hC hN (tX8_in l E p1 0 7 r_1 hr_1) cy_X8_in mML_X8_55 mST_X8_in (perm_nil _) (perm_nil _) rfl rfl hl.1 rfl (Nat.le_of_ble_eq_true rfl) dX8_sees_4 ⟨Nat.le_of_ble_eq_true rfl, Nat.le_of_ble_eq_true rfl⟩ ⟨Nat.le_refl _, Nat.le_refl _⟩ (fun H locs hN => ?_)
  refine lv_if_eq (tgt := 34) hx hb dX8_sees_7 (by decide) (fun c2 => ?_) (fun c2 => ?_)
  · have h := if_t h c2
    refine lv_iconst (v := -1) hx hb dX8_sees_34 rfl ?_
    obtain rfl := Option.some.inj h
    exact n_iret hC hN dX8_sees_35
  · have h := if_f h c2
    refine lv_iload_n hx hb dX8_sees_10 rfl (lv_at hl 2 rfl) ?_
    refine lv_iconst (v := 0) hx hb dX8_sees_11 rfl ?_
    refine lv_bipush (v := 7) hx hb dX8_sees_12 (by decide) ?_
    obtain ⟨r_3, hr_3, h⟩ := bi_e h
    refine n_callSi (ws' := wX8 E adc c_now c_read c_past c_deeds c_images c_isKept c_text c_letters c_at c_token c_tokenAt c_value c_facts c_seen c_seenAhead c_weakLink c_weakTwos c_which c_views c_whichMany) hC hN (tX8_in l E p2 0 7 r_3 hr_3) cy_X8_in mML_X8_55 mST_X8_in (perm_nil _) (perm_nil _) rfl rfl hl.1 rfl (Nat.le_of_ble_eq_true rfl) dX8_sees_14 ⟨Nat.le_of_ble_eq_true rfl, Nat.le_of_ble_eq_true rfl⟩ ⟨Nat.le_refl _, Nat.le_refl _⟩ (fun H locs hN => ?_)
    refine lv_if_eq (tgt := 34) hx hb dX8_sees_17 (by decide) (fun c4 => ?_) (fun c4 => ?_)
    · have h := if_t h c4
      refine lv_iconst (v := -1) hx hb dX8_sees_34 rfl ?_
      obtain rfl := Option.some.inj h
      exact n_iret hC hN dX8_sees_35
    · have h := if_f h c4
      refine lv_iload_n hx hb dX8_sees_20 rfl (lv_at hl 1 rfl) ?_
      refine lv_iload_n hx hb dX8_sees_21 rfl (lv_at hl 2 rfl) ?_
      refine lv_icmp_eq (tgt := 34) hx hb dX8_sees_22 (by decide) (fun c5 => ?_) (fun c5 => ?_)
      · have h := if_t h c5
        refine lv_iconst (v := -1) hx hb dX8_sees_34 rfl ?_
        obtain rfl := Option.some.inj h
        exact n_iret hC hN dX8_sees_35
      · have h := if_f h c5
        refine lv_iload_n hx hb dX8_sees_25 rfl (lv_at hl 3 rfl) ?_
        refine lv_iconst (v := 0) hx hb dX8_sees_26 rfl ?_
        refine lv_iconst (v := 1) hx hb dX8_sees_27 rfl ?_
        obtain ⟨r_6, hr_6, h⟩ := bi_e h
        refine n_callSi (ws' := wX8 E adc c_now c_read c_past c_deeds c_images c_isKept c_text c_letters c_at c_token c_tokenAt c_value c_facts c_seen c_seenAhead c_weakLink c_weakTwos c_which c_views c_whichMany) hC hN (tX8_in l E p3 0 1 r_6 hr_6) cy_X8_in mML_X8_55 mST_X8_in (perm_nil _) (perm_nil _) rfl rfl hl.1 rfl (Nat.le_of_ble_eq_true rfl) dX8_sees_28 ⟨Nat.le_of_ble_eq_true rfl, Nat.le_of_ble_eq_true rfl⟩ ⟨Nat.le_refl _, Nat.le_refl _⟩ (fun H locs hN => ?_)
        refine lv_if_ne (tgt := 36) hx hb dX8_sees_31 (by decide) (fun c7 => ?_) (fun c7 => ?_)
        · have h := if_f h c7
          refine lv_aload_n hx hb dX8_sees_36 rfl (lv_at hl 0 rfl) ?_
          refine gt_X8_seen hC hN 0 rfl rfl dX8_sees_37 ?_
          refine lv_bipush (v := 6) hx hb dX8_sees_40 (by decide) ?_
          refine lv_icmp_ne (tgt := 48) hx hb dX8_sees_42 (by decide) (fun c8 => ?_) (fun c8 => ?_)
          · have h := if_f h c8
            refine lv_aload_n hx hb dX8_sees_48 rfl (lv_at hl 0 rfl) ?_
            refine gt_X8_facts hC hN 0 rfl rfl dX8_sees_49 ?_
            refine lv_iconst (v := 3) hx hb dX8_sees_52 rfl ?_
            refine lv_aload_n hx hb dX8_sees_53 rfl (lv_at hl 0 rfl) ?_
            refine gt_X8_seen hC hN 0 rfl rfl dX8_sees_54 ?_
            refine lv_imul hx hb dX8_sees_57 ?_
            refine lv_iload_n hx hb dX8_sees_58 rfl (lv_at hl 1 rfl) ?_
            have g := inB_vp (gd_c h)
            have h := gd_e h
            obtain ⟨c_facts_9, ec_facts_9⟩ : ∃ y : Nat → Int32, y = upd c_facts (3 * c_seen).toNatClampNeg p1 := ⟨_, rfl⟩
            have h := bd_e h c_facts_9 ec_facts_9
            refine n_iast hC hN 7 rfl g ec_facts_9 (ws' := wX8 E adc c_now c_read c_past c_deeds c_images c_isKept c_text c_letters c_at c_token c_tokenAt c_value c_facts_9 c_seen c_seenAhead c_weakLink c_weakTwos c_which c_views c_whichMany) rfl dX8_sees_59 (fun H locs hN => ?_)
            refine lv_aload_n hx hb dX8_sees_60 rfl (lv_at hl 0 rfl) ?_
            refine gt_X8_facts hC hN 0 rfl rfl dX8_sees_61 ?_
            refine lv_iconst (v := 3) hx hb dX8_sees_64 rfl ?_
            refine lv_aload_n hx hb dX8_sees_65 rfl (lv_at hl 0 rfl) ?_
            refine gt_X8_seen hC hN 0 rfl rfl dX8_sees_66 ?_
            refine lv_imul hx hb dX8_sees_69 ?_
            refine lv_iconst (v := 1) hx hb dX8_sees_70 rfl ?_
            refine lv_iadd hx hb dX8_sees_71 ?_
            refine lv_iload_n hx hb dX8_sees_72 rfl (lv_at hl 2 rfl) ?_
            have g := inB_vp (gd_c h)
            have h := gd_e h
            obtain ⟨c_facts_10, ec_facts_10⟩ : ∃ y : Nat → Int32, y = upd c_facts_9 ((3 * c_seen) + 1).toNatClampNeg p2 := ⟨_, rfl⟩
            have h := bd_e h c_facts_10 ec_facts_10
            refine n_iast hC hN 7 rfl g ec_facts_10 (ws' := wX8 E adc c_now c_read c_past c_deeds c_images c_isKept c_text c_letters c_at c_token c_tokenAt c_value c_facts_10 c_seen c_seenAhead c_weakLink c_weakTwos c_which c_views c_whichMany) rfl dX8_sees_73 (fun H locs hN => ?_)
            refine lv_aload_n hx hb dX8_sees_74 rfl (lv_at hl 0 rfl) ?_
            refine gt_X8_facts hC hN 0 rfl rfl dX8_sees_75 ?_
            refine lv_iconst (v := 3) hx hb dX8_sees_78 rfl ?_
            refine lv_aload_n hx hb dX8_sees_79 rfl (lv_at hl 0 rfl) ?_
            refine gt_X8_seen hC hN 0 rfl rfl dX8_sees_80 ?_
            refine lv_imul hx hb dX8_sees_83 ?_
            refine lv_iconst (v := 2) hx hb dX8_sees_84 rfl ?_
            refine lv_iadd hx hb dX8_sees_85 ?_
            refine lv_iload_n hx hb dX8_sees_86 rfl (lv_at hl 3 rfl) ?_
            have g := inB_vp (gd_c h)
            have h := gd_e h
            obtain ⟨c_facts_11, ec_facts_11⟩ : ∃ y : Nat → Int32, y = upd c_facts_10 ((3 * c_seen) + 2).toNatClampNeg p3 := ⟨_, rfl⟩
            have h := bd_e h c_facts_11 ec_facts_11
            refine n_iast hC hN 7 rfl g ec_facts_11 (ws' := wX8 E adc c_now c_read c_past c_deeds c_images c_isKept c_text c_letters c_at c_token c_tokenAt c_value c_facts_11 c_seen c_seenAhead c_weakLink c_weakTwos c_which c_views c_whichMany) rfl dX8_sees_87 (fun H locs hN => ?_)
            refine lv_aload_n hx hb dX8_sees_88 rfl (lv_at hl 0 rfl) ?_
            refine lv_dup hx hb dX8_sees_89 rfl ?_
            refine gt_X8_seen hC hN 0 rfl rfl dX8_sees_90 ?_
            refine lv_iconst (v := 1) hx hb dX8_sees_93 rfl ?_
            refine lv_iadd hx hb dX8_sees_94 ?_
            refine lv_topi (fun c_seen_12 ec_seen_12 => ?_)
            have h := bd_e h c_seen_12 ec_seen_12
            refine pt_X8_seen hC hN 0 rfl (Nat.le_of_ble_eq_true rfl) (ws' := wX8 E adc c_now c_read c_past c_deeds c_images c_isKept c_text c_letters c_at c_token c_tokenAt c_value c_facts_11 c_seen_12 c_seenAhead c_weakLink c_weakTwos c_which c_views c_whichMany) rfl dX8_sees_95 (fun H locs hN => ?_)
            refine lv_aload_n hx hb dX8_sees_98 rfl (lv_at hl 0 rfl) ?_
            refine gt_X8_seen hC hN 0 rfl rfl dX8_sees_99 ?_
            obtain rfl := Option.some.inj h
            exact n_iret hC hN dX8_sees_102
          · have h := if_t h c8
            refine lv_bipush (v := -3) hx hb dX8_sees_45 (by decide) ?_
            obtain rfl := Option.some.inj h
            exact n_iret hC hN dX8_sees_47
        · have h := if_t h c7
          refine lv_iconst (v := -1) hx hb dX8_sees_34 rfl ?_
          obtain rfl := Option.some.inj h
          exact n_iret hC hN dX8_sees_35
set_option maxHeartbeats 4000000 in
set_option maxRecDepth 100000 in
theorem tX8_forget (l : Launch) (E : EV) (adc : Nat → Nat) (c_now : Nat → Int32) (c_read : Nat → Int32) (c_past : Nat → Int32) (c_deeds : Int32) (c_images : Nat → Int32) (c_isKept : Nat → Int32) (c_text : Nat → Int32) (c_letters : Int32) (c_at : Int32) (c_token : Int32) (c_tokenAt : Int32) (c_value : Int32) (c_facts : Nat → Int32) (c_seen : Int32) (c_seenAhead : Nat → Int32) (c_weakLink : Int32) (c_weakTwos : Int32) (c_which : Nat → Int32) (c_views : Nat → Int32) (c_whichMany : Int32) (z : Int32 × Int32) (h : fX8_forget c_seen = some z) : Cn l E yX8_forget cX8_forget 2 (some .int) 0 0 [.ref (adc 0)] (wX8 E adc c_now c_read c_past c_deeds c_images c_isKept c_text c_letters c_at c_token c_tokenAt c_value c_facts c_seen c_seenAhead c_weakLink c_weakTwos c_which c_views c_whichMany) (wX8 E adc c_now c_read c_past c_deeds c_images c_isKept c_text c_letters c_at c_token c_tokenAt c_value c_facts z.2 c_seenAhead c_weakLink c_weakTwos c_which c_views c_whichMany) (some (.int z.1)) := by
  refine Cn.ofW (by decide +kernel) (Nat.le_of_ble_eq_true rfl) ?_
  intro p e s m args below meth c ls hC hN hl
  have hl : lv_has ls 2 [(0, .ref (adc 0))] := hl
  have hx := hC.1
  have hb := hC.2.1
  unfold fX8_forget at h
  refine lv_aload_n hx hb dX8_forget_0 rfl (lv_at hl 0 rfl) ?_
  refine gt_X8_seen hC hN 0 rfl rfl dX8_forget_1 ?_
  refine lv_istore_n (lv' := [(1, .int c_seen), (0, .ref (adc 0))]) hx hb dX8_forget_4 rfl hl (by decide) rfl (fun ls hl => ?_)
  refine lv_aload_n hx hb dX8_forget_5 rfl (lv_at hl 1 rfl) ?_
  refine lv_iconst (v := 0) hx hb dX8_forget_6 rfl ?_
  refine pt_X8_seen hC hN 0 rfl (Nat.le_of_ble_eq_true rfl) (ws' := wX8 E adc c_now c_read c_past c_deeds c_images c_isKept c_text c_letters c_at c_token c_tokenAt c_value c_facts 0 c_seenAhead c_weakLink c_weakTwos c_which c_views c_whichMany) rfl dX8_forget_7 (fun H locs hN => ?_)
  refine lv_iload_n hx hb dX8_forget_10 rfl (lv_at hl 0 rfl) ?_
  obtain rfl := Option.some.inj h
  exact n_iret hC hN dX8_forget_11
set_option maxHeartbeats 4000000 in
set_option maxRecDepth 100000 in
theorem tX8_isSo (l : Launch) (E : EV) (adc : Nat → Nat) (c_now : Nat → Int32) (c_read : Nat → Int32) (c_past : Nat → Int32) (c_deeds : Int32) (c_images : Nat → Int32) (c_isKept : Nat → Int32) (c_text : Nat → Int32) (c_letters : Int32) (c_at : Int32) (c_token : Int32) (c_tokenAt : Int32) (c_value : Int32) (c_facts : Nat → Int32) (c_seen : Int32) (c_seenAhead : Nat → Int32) (c_weakLink : Int32) (c_weakTwos : Int32) (c_which : Nat → Int32) (c_views : Nat → Int32) (c_whichMany : Int32) (z : Int32) (h : fX8_isSo c_now c_facts c_seen = some z) : Cn l E yX8_isSo cX8_isSo 5 (some .boolean) 4 94 [.ref (adc 0)] (wX8 E adc c_now c_read c_past c_deeds c_images c_isKept c_text c_letters c_at c_token c_tokenAt c_value c_facts c_seen c_seenAhead c_weakLink c_weakTwos c_which c_views c_whichMany) (wX8 E adc c_now c_read c_past c_deeds c_images c_isKept c_text c_letters c_at c_token c_tokenAt c_value c_facts c_seen c_seenAhead c_weakLink c_weakTwos c_which c_views c_whichMany) (some (.int z)) := by
  refine Cn.ofW (by decide +kernel) (Nat.le_of_ble_eq_true rfl) ?_
  intro p e s m args below meth c ls hC hN hl
  obtain ⟨z0, hz0⟩ : ∃ y, y = z := ⟨_, rfl⟩
  rw [← hz0] at h ⊢
  clear hz0
  have hl : lv_has ls 5 [(0, .ref (adc 0))] := hl
  have hx := hC.1
  have hb := hC.2.1
  unfold fX8_isSo at h
  refine lv_iconst (v := 1) hx hb dX8_isSo_0 rfl ?_
  refine lv_istore_n (lv' := [(1, .int 1), (0, .ref (adc 0))]) hx hb dX8_isSo_1 rfl hl (by decide) rfl (fun ls hl => ?_)
  refine lv_iconst (v := 0) hx hb dX8_isSo_2 rfl ?_
  refine lv_istore_n (lv' := [(2, .int 0), (1, .int 1), (0, .ref (adc 0))]) hx hb dX8_isSo_3 rfl hl (by decide) rfl (fun ls hl => ?_)
  have L1 : ∀ (fu : Nat) (v1_1 : Int32) (v2_2 : Int32) (z : Int32 × Int32) (H : Heap) (locs : List Loc) (ls : Array Slot), Nw E s (AD (wX8 E adc c_now c_read c_past c_deeds c_images c_isKept c_text c_letters c_at c_token c_tokenAt c_value c_facts c_seen c_seenAhead c_weakLink c_weakTwos c_which c_views c_whichMany)) (wX8 E adc c_now c_read c_past c_deeds c_images c_isKept c_text c_letters c_at c_token c_tokenAt c_value c_facts c_seen c_seenAhead c_weakLink c_weakTwos c_which c_views c_whichMany) H locs → lv_has ls 5 [(0, .ref (adc 0)), (1, .int v1_1), (2, .int v2_2)] → fX8_isSo_L1 c_now c_facts c_seen fu v1_1 v2_2 = some z → (∀ (H : Heap) (locs : List Loc) (ls : Array Slot), Nw E s (AD (wX8 E adc c_now c_read c_past c_deeds c_images c_isKept c_text c_letters c_at c_token c_tokenAt c_value c_facts c_seen c_seenAhead c_weakLink c_weakTwos c_which c_views c_whichMany)) (wX8 E adc c_now c_read c_past c_deeds c_images c_isKept c_text c_letters c_at c_token c_tokenAt c_value c_facts c_seen c_seenAhead c_weakLink c_weakTwos c_which c_views c_whichMany) H locs → lv_has ls 5 [(0, .ref (adc 0)), (1, .int z.1), (2, .int z.2)] → WN p l e 4 94 s m args below meth c E (wX8 E adc c_now c_read c_past c_deeds c_images c_isKept c_text c_letters c_at c_token c_tokenAt c_value c_facts c_seen c_seenAhead c_weakLink c_weakTwos c_which c_views c_whichMany) (some (.int z0)) (wX8 E adc c_now c_read c_past c_deeds c_images c_isKept c_text c_letters c_at c_token c_tokenAt c_value c_facts c_seen c_seenAhead c_weakLink c_weakTwos c_which c_views c_whichMany) H locs (F0 m 95 ls [])) → WN p l e 4 94 s m args below meth c E (wX8 E adc c_now c_read c_past c_deeds c_images c_isKept c_text c_letters c_at c_token c_tokenAt c_value c_facts c_seen c_seenAhead c_weakLink c_weakTwos c_which c_views c_whichMany) (some (.int z0)) (wX8 E adc c_now c_read c_past c_deeds c_images c_isKept c_text c_letters c_at c_token c_tokenAt c_value c_facts c_seen c_seenAhead c_weakLink c_weakTwos c_which c_views c_whichMany) H locs (F0 m 4 ls []) := by
    intro fu
    induction fu with
    | zero =>
      intro v1_1 v2_2 z H locs ls hN hl h K
      cases (show (none : Option (Int32 × Int32)) = some z from h)
    | succ fu ih =>
      intro v1_1 v2_2 z H locs ls hN hl h K
      rw [fX8_isSo_L1.eq_2] at h
      refine lv_iload_n hx hb dX8_isSo_4 rfl (lv_at hl 2 rfl) ?_
      refine lv_aload_n hx hb dX8_isSo_5 rfl (lv_at hl 0 rfl) ?_
      refine gt_X8_seen hC hN 0 rfl rfl dX8_isSo_6 ?_
      refine lv_icmp_ge (tgt := 95) hx hb dX8_isSo_9 (by decide) (fun c3 => ?_) (fun c3 => ?_)
      · have h := if_t h c3
        obtain rfl := Option.some.inj h
        exact K _ _ _ hN (lv_sub hl [0, 1, 2] rfl)
      · have h := if_f h c3
        refine lv_aload_n hx hb dX8_isSo_12 rfl (lv_at hl 0 rfl) ?_
        refine gt_X8_facts hC hN 0 rfl rfl dX8_isSo_13 ?_
        refine lv_iconst (v := 3) hx hb dX8_isSo_16 rfl ?_
        refine lv_iload_n hx hb dX8_isSo_17 rfl (lv_at hl 2 rfl) ?_
        refine lv_imul hx hb dX8_isSo_18 ?_
        have g := inB_vp (gd_c h)
        have h := gd_e h
        refine n_iald hC hN 7 rfl g dX8_isSo_19 ?_
        refine lv_topi (fun v3_4 ev3_4 => ?_)
        have h := bd_e h v3_4 ev3_4
        refine lv_istore_n (lv' := [(3, .int v3_4), (0, .ref (adc 0)), (1, .int v1_1), (2, .int v2_2)]) hx hb dX8_isSo_20 rfl hl (by decide) rfl (fun ls hl => ?_)
        refine lv_aload_n hx hb dX8_isSo_21 rfl (lv_at hl 1 rfl) ?_
        refine gt_X8_facts hC hN 0 rfl rfl dX8_isSo_22 ?_
        refine lv_iconst (v := 3) hx hb dX8_isSo_25 rfl ?_
        refine lv_iload_n hx hb dX8_isSo_26 rfl (lv_at hl 3 rfl) ?_
        refine lv_imul hx hb dX8_isSo_27 ?_
        refine lv_iconst (v := 1) hx hb dX8_isSo_28 rfl ?_
        refine lv_iadd hx hb dX8_isSo_29 ?_
        have g := inB_vp (gd_c h)
        have h := gd_e h
        refine n_iald hC hN 7 rfl g dX8_isSo_30 ?_
        refine lv_topi (fun v4_5 ev4_5 => ?_)
        have h := bd_e h v4_5 ev4_5
        refine lv_istore (lv' := [(4, .int v4_5), (3, .int v3_4), (0, .ref (adc 0)), (1, .int v1_1), (2, .int v2_2)]) hx hb dX8_isSo_31 hl (by decide) rfl (fun ls hl => ?_)
        refine lv_iload_n hx hb dX8_isSo_33 rfl (lv_at hl 3 rfl) ?_
        refine lv_if_eq (tgt := 87) hx hb dX8_isSo_34 (by decide) (fun c6 => ?_) (fun c6 => ?_)
        · have h := if_t h c6
          refine lv_iconst (v := 0) hx hb dX8_isSo_87 rfl ?_
          refine lv_istore_n (lv' := [(1, .int 0), (4, .int v4_5), (3, .int v3_4), (0, .ref (adc 0)), (2, .int v2_2)]) hx hb dX8_isSo_88 rfl hl (by decide) rfl (fun ls hl => ?_)
          obtain ⟨v2_7, ev2_7⟩ : ∃ y : Int32, y = v2_2 + 1 := ⟨_, rfl⟩
          have h := bd_e h v2_7 ev2_7
          refine lv_iinc (v := v2_7) (lv' := [(2, .int v2_7), (1, .int 0), (4, .int v4_5), (3, .int v3_4), (0, .ref (adc 0))]) hx hb dX8_isSo_89 hl (k := 4) rfl (by rw [ev2_7]; rfl) (by decide) rfl (fun ls hl => ?_)
          refine lv_goto (tgt := 4) hx hb dX8_isSo_92 (by decide) ?_
          exact ih 0 v2_7 z _ _ _ hN (lv_sub hl [4, 1, 0] rfl) h K
        · have h := if_f h c6
          refine lv_aload_n hx hb dX8_isSo_37 rfl (lv_at hl 2 rfl) ?_
          refine lv_iload_n hx hb dX8_isSo_38 rfl (lv_at hl 1 rfl) ?_
          obtain ⟨r_8, hr_8, h⟩ := bi_e h
          refine n_callVi (ws' := wX8 E adc c_now c_read c_past c_deeds c_images c_isKept c_text c_letters c_at c_token c_tokenAt c_value c_facts c_seen c_seenAhead c_weakLink c_weakTwos c_which c_views c_whichMany) hC hN (tX8_isHost l E adc c_now c_read c_past c_deeds c_images c_isKept c_text c_letters c_at c_token c_tokenAt c_value c_facts c_seen c_seenAhead c_weakLink c_weakTwos c_which c_views c_whichMany v3_4 r_8 hr_8) cy_X8_isHost mML_X8_181 mIM_X8_isHost mSE_X8_isHost rfl rfl (k := 0) rfl (perm_self _) (perm_self _) rfl rfl hl.1 rfl (Nat.le_of_ble_eq_true rfl) dX8_isSo_39 ⟨Nat.le_of_ble_eq_true rfl, Nat.le_of_ble_eq_true rfl⟩ ⟨Nat.le_refl _, Nat.le_refl _⟩ (fun H locs hN => ?_)
          refine lv_if_eq (tgt := 87) hx hb dX8_isSo_42 (by decide) (fun c9 => ?_) (fun c9 => ?_)
          · have h := if_t h c9
            refine lv_iconst (v := 0) hx hb dX8_isSo_87 rfl ?_
            refine lv_istore_n (lv' := [(1, .int 0), (4, .int v4_5), (3, .int v3_4), (0, .ref (adc 0)), (2, .int v2_2)]) hx hb dX8_isSo_88 rfl hl (by decide) rfl (fun ls hl => ?_)
            obtain ⟨v2_10, ev2_10⟩ : ∃ y : Int32, y = v2_2 + 1 := ⟨_, rfl⟩
            have h := bd_e h v2_10 ev2_10
            refine lv_iinc (v := v2_10) (lv' := [(2, .int v2_10), (1, .int 0), (4, .int v4_5), (3, .int v3_4), (0, .ref (adc 0))]) hx hb dX8_isSo_89 hl (k := 4) rfl (by rw [ev2_10]; rfl) (by decide) rfl (fun ls hl => ?_)
            refine lv_goto (tgt := 4) hx hb dX8_isSo_92 (by decide) ?_
            exact ih 0 v2_10 z _ _ _ hN (lv_sub hl [4, 1, 0] rfl) h K
          · have h := if_f h c9
            refine lv_aload_n hx hb dX8_isSo_45 rfl (lv_at hl 2 rfl) ?_
            refine lv_iload hx hb dX8_isSo_46 (lv_at hl 0 rfl) ?_
            obtain ⟨r_11, hr_11, h⟩ := bi_e h
            refine n_callVi (ws' := wX8 E adc c_now c_read c_past c_deeds c_images c_isKept c_text c_letters c_at c_token c_tokenAt c_value c_facts c_seen c_seenAhead c_weakLink c_weakTwos c_which c_views c_whichMany) hC hN (tX8_isHost l E adc c_now c_read c_past c_deeds c_images c_isKept c_text c_letters c_at c_token c_tokenAt c_value c_facts c_seen c_seenAhead c_weakLink c_weakTwos c_which c_views c_whichMany v4_5 r_11 hr_11) cy_X8_isHost mML_X8_181 mIM_X8_isHost mSE_X8_isHost rfl rfl (k := 0) rfl (perm_self _) (perm_self _) rfl rfl hl.1 rfl (Nat.le_of_ble_eq_true rfl) dX8_isSo_48 ⟨Nat.le_of_ble_eq_true rfl, Nat.le_of_ble_eq_true rfl⟩ ⟨Nat.le_refl _, Nat.le_refl _⟩ (fun H locs hN => ?_)
            refine lv_if_eq (tgt := 87) hx hb dX8_isSo_51 (by decide) (fun c12 => ?_) (fun c12 => ?_)
            · have h := if_t h c12
              refine lv_iconst (v := 0) hx hb dX8_isSo_87 rfl ?_
              refine lv_istore_n (lv' := [(1, .int 0), (4, .int v4_5), (3, .int v3_4), (0, .ref (adc 0)), (2, .int v2_2)]) hx hb dX8_isSo_88 rfl hl (by decide) rfl (fun ls hl => ?_)
              obtain ⟨v2_13, ev2_13⟩ : ∃ y : Int32, y = v2_2 + 1 := ⟨_, rfl⟩
              have h := bd_e h v2_13 ev2_13
              refine lv_iinc (v := v2_13) (lv' := [(2, .int v2_13), (1, .int 0), (4, .int v4_5), (3, .int v3_4), (0, .ref (adc 0))]) hx hb dX8_isSo_89 hl (k := 4) rfl (by rw [ev2_13]; rfl) (by decide) rfl (fun ls hl => ?_)
              refine lv_goto (tgt := 4) hx hb dX8_isSo_92 (by decide) ?_
              exact ih 0 v2_13 z _ _ _ hN (lv_sub hl [4, 1, 0] rfl) h K
            · have h := if_f h c12
              refine lv_aload_n hx hb dX8_isSo_54 rfl (lv_at hl 2 rfl) ?_
              refine lv_iload_n hx hb dX8_isSo_55 rfl (lv_at hl 1 rfl) ?_
              refine lv_iload hx hb dX8_isSo_56 (lv_at hl 0 rfl) ?_
              obtain ⟨r_14, hr_14, h⟩ := bi_e h
              refine n_callVi (ws' := wX8 E adc c_now c_read c_past c_deeds c_images c_isKept c_text c_letters c_at c_token c_tokenAt c_value c_facts c_seen c_seenAhead c_weakLink c_weakTwos c_which c_views c_whichMany) hC hN (tX8_doesSee l E adc c_now c_read c_past c_deeds c_images c_isKept c_text c_letters c_at c_token c_tokenAt c_value c_facts c_seen c_seenAhead c_weakLink c_weakTwos c_which c_views c_whichMany v3_4 v4_5 r_14 hr_14) cy_X8_doesSee mML_X8_137 mIM_X8_doesSee mSE_X8_doesSee rfl rfl (k := 0) rfl (perm_self _) (perm_self _) rfl rfl hl.1 rfl (Nat.le_of_ble_eq_true rfl) dX8_isSo_58 ⟨Nat.le_of_ble_eq_true rfl, Nat.le_of_ble_eq_true rfl⟩ ⟨Nat.le_refl _, Nat.le_refl _⟩ (fun H locs hN => ?_)
              refine lv_aload_n hx hb dX8_isSo_61 rfl (lv_at hl 2 rfl) ?_
              refine gt_X8_facts hC hN 0 rfl rfl dX8_isSo_62 ?_
              refine lv_iconst (v := 3) hx hb dX8_isSo_65 rfl ?_
              refine lv_iload_n hx hb dX8_isSo_66 rfl (lv_at hl 4 rfl) ?_
              refine lv_imul hx hb dX8_isSo_67 ?_
              refine lv_iconst (v := 2) hx hb dX8_isSo_68 rfl ?_
              refine lv_iadd hx hb dX8_isSo_69 ?_
              have g := inB_vp (gd_c h)
              have h := gd_e h
              refine n_iald hC hN 7 rfl g dX8_isSo_70 ?_
              refine lv_iconst (v := 1) hx hb dX8_isSo_71 rfl ?_
              refine lv_icmp_ne (tgt := 79) hx hb dX8_isSo_72 (by decide) (fun c15 => ?_) (fun c15 => ?_)
              · have h := if_f h c15
                refine lv_iconst (v := 0) hx hb dX8_isSo_79 rfl ?_
                refine lv_icmp_ne (tgt := 87) hx hb dX8_isSo_80 (by decide) (fun c16 => ?_) (fun c16 => ?_)
                · have h := if_f h c16
                  refine lv_iconst (v := 0) hx hb dX8_isSo_87 rfl ?_
                  refine lv_istore_n (lv' := [(1, .int 0), (4, .int v4_5), (3, .int v3_4), (0, .ref (adc 0)), (2, .int v2_2)]) hx hb dX8_isSo_88 rfl hl (by decide) rfl (fun ls hl => ?_)
                  obtain ⟨v2_17, ev2_17⟩ : ∃ y : Int32, y = v2_2 + 1 := ⟨_, rfl⟩
                  have h := bd_e h v2_17 ev2_17
                  refine lv_iinc (v := v2_17) (lv' := [(2, .int v2_17), (1, .int 0), (4, .int v4_5), (3, .int v3_4), (0, .ref (adc 0))]) hx hb dX8_isSo_89 hl (k := 4) rfl (by rw [ev2_17]; rfl) (by decide) rfl (fun ls hl => ?_)
                  refine lv_goto (tgt := 4) hx hb dX8_isSo_92 (by decide) ?_
                  exact ih 0 v2_17 z _ _ _ hN (lv_sub hl [4, 1, 0] rfl) h K
                · have h := if_t h c16
                  refine lv_iconst (v := 1) hx hb dX8_isSo_83 rfl ?_
                  refine lv_goto (tgt := 88) hx hb dX8_isSo_84 (by decide) ?_
                  refine lv_istore_n (lv' := [(1, .int 1), (4, .int v4_5), (3, .int v3_4), (0, .ref (adc 0)), (2, .int v2_2)]) hx hb dX8_isSo_88 rfl hl (by decide) rfl (fun ls hl => ?_)
                  obtain ⟨v2_18, ev2_18⟩ : ∃ y : Int32, y = v2_2 + 1 := ⟨_, rfl⟩
                  have h := bd_e h v2_18 ev2_18
                  refine lv_iinc (v := v2_18) (lv' := [(2, .int v2_18), (1, .int 1), (4, .int v4_5), (3, .int v3_4), (0, .ref (adc 0))]) hx hb dX8_isSo_89 hl (k := 4) rfl (by rw [ev2_18]; rfl) (by decide) rfl (fun ls hl => ?_)
                  refine lv_goto (tgt := 4) hx hb dX8_isSo_92 (by decide) ?_
                  exact ih 1 v2_18 z _ _ _ hN (lv_sub hl [4, 1, 0] rfl) h K
              · have h := if_t h c15
                refine lv_iconst (v := 1) hx hb dX8_isSo_75 rfl ?_
                refine lv_goto (tgt := 80) hx hb dX8_isSo_76 (by decide) ?_
                refine lv_icmp_ne (tgt := 87) hx hb dX8_isSo_80 (by decide) (fun c19 => ?_) (fun c19 => ?_)
                · have h := if_f h c19
                  refine lv_iconst (v := 0) hx hb dX8_isSo_87 rfl ?_
                  refine lv_istore_n (lv' := [(1, .int 0), (4, .int v4_5), (3, .int v3_4), (0, .ref (adc 0)), (2, .int v2_2)]) hx hb dX8_isSo_88 rfl hl (by decide) rfl (fun ls hl => ?_)
                  obtain ⟨v2_20, ev2_20⟩ : ∃ y : Int32, y = v2_2 + 1 := ⟨_, rfl⟩
                  have h := bd_e h v2_20 ev2_20
                  refine lv_iinc (v := v2_20) (lv' := [(2, .int v2_20), (1, .int 0), (4, .int v4_5), (3, .int v3_4), (0, .ref (adc 0))]) hx hb dX8_isSo_89 hl (k := 4) rfl (by rw [ev2_20]; rfl) (by decide) rfl (fun ls hl => ?_)
                  refine lv_goto (tgt := 4) hx hb dX8_isSo_92 (by decide) ?_
                  exact ih 0 v2_20 z _ _ _ hN (lv_sub hl [4, 1, 0] rfl) h K
                · have h := if_t h c19
                  refine lv_iconst (v := 1) hx hb dX8_isSo_83 rfl ?_
                  refine lv_goto (tgt := 88) hx hb dX8_isSo_84 (by decide) ?_
                  refine lv_istore_n (lv' := [(1, .int 1), (4, .int v4_5), (3, .int v3_4), (0, .ref (adc 0)), (2, .int v2_2)]) hx hb dX8_isSo_88 rfl hl (by decide) rfl (fun ls hl => ?_)
                  obtain ⟨v2_21, ev2_21⟩ : ∃ y : Int32, y = v2_2 + 1 := ⟨_, rfl⟩
                  have h := bd_e h v2_21 ev2_21
                  refine lv_iinc (v := v2_21) (lv' := [(2, .int v2_21), (1, .int 1), (4, .int v4_5), (3, .int v3_4), (0, .ref (adc 0))]) hx hb dX8_isSo_89 hl (k := 4) rfl (by rw [ev2_21]; rfl) (by decide) rfl (fun ls hl => ?_)
                  refine lv_goto (tgt := 4) hx hb dX8_isSo_92 (by decide) ?_
                  exact ih 1 v2_21 z _ _ _ hN (lv_sub hl [4, 1, 0] rfl) h K
  obtain ⟨z_22, hz_22, h⟩ := bi_e h
  refine L1 500 1 0 z_22 _ _ _ hN (lv_sub hl [2, 1, 0] rfl) hz_22 (fun H locs ls hN hl => ?_)
  refine lv_iload_n hx hb dX8_isSo_95 rfl (lv_at hl 1 rfl) ?_
  have gB := gd_c h
  have h := gd_e h
  obtain rfl := Option.some.inj h
  exact n_zret hC hN gB dX8_isSo_96
set_option maxHeartbeats 4000000 in
set_option maxRecDepth 100000 in
theorem tX8_findWhich (l : Launch) (E : EV) (adc : Nat → Nat) (c_now : Nat → Int32) (c_read : Nat → Int32) (c_past : Nat → Int32) (c_deeds : Int32) (c_images : Nat → Int32) (c_isKept : Nat → Int32) (c_text : Nat → Int32) (c_letters : Int32) (c_at : Int32) (c_token : Int32) (c_tokenAt : Int32) (c_value : Int32) (c_facts : Nat → Int32) (c_seen : Int32) (c_seenAhead : Nat → Int32) (c_weakLink : Int32) (c_weakTwos : Int32) (c_which : Nat → Int32) (c_views : Nat → Int32) (c_whichMany : Int32) (z : (Nat → Int32) × (Nat → Int32) × (Nat → Int32) × Int32) (h : fX8_findWhich c_now c_facts c_seen c_which c_views = some z) : Cn l E yX8_findWhich cX8_findWhich 4 none 5 118 [.ref (adc 0)] (wX8 E adc c_now c_read c_past c_deeds c_images c_isKept c_text c_letters c_at c_token c_tokenAt c_value c_facts c_seen c_seenAhead c_weakLink c_weakTwos c_which c_views c_whichMany) (wX8 E adc z.1 c_read c_past c_deeds c_images c_isKept c_text c_letters c_at c_token c_tokenAt c_value c_facts c_seen c_seenAhead c_weakLink c_weakTwos z.2.1 z.2.2.1 z.2.2.2) (none) := by
  refine Cn.ofW (by decide +kernel) (Nat.le_of_ble_eq_true rfl) ?_
  intro p e s m args below meth c ls hC hN hl
  obtain ⟨z0, hz0⟩ : ∃ y, y = z := ⟨_, rfl⟩
  rw [← hz0] at h ⊢
  clear hz0
  have hl : lv_has ls 4 [(0, .ref (adc 0))] := hl
  have hx := hC.1
  have hb := hC.2.1
  unfold fX8_findWhich at h
  refine lv_aload_n hx hb dX8_findWhich_0 rfl (lv_at hl 0 rfl) ?_
  refine lv_iconst (v := 0) hx hb dX8_findWhich_1 rfl ?_
  refine pt_X8_whichMany hC hN 0 rfl (Nat.le_of_ble_eq_true rfl) (ws' := wX8 E adc c_now c_read c_past c_deeds c_images c_isKept c_text c_letters c_at c_token c_tokenAt c_value c_facts c_seen c_seenAhead c_weakLink c_weakTwos c_which c_views 0) rfl dX8_findWhich_2 (fun H locs hN => ?_)
  refine lv_iconst (v := 0) hx hb dX8_findWhich_5 rfl ?_
  refine lv_istore_n (lv' := [(1, .int 0), (0, .ref (adc 0))]) hx hb dX8_findWhich_6 rfl hl (by decide) rfl (fun ls hl => ?_)
  have L1 : ∀ (fu : Nat) (v1_1 : Int32) (c_now_2 : Nat → Int32) (c_which_3 : Nat → Int32) (c_views_4 : Nat → Int32) (c_whichMany_5 : Int32) (z : Int32 × (Nat → Int32) × (Nat → Int32) × (Nat → Int32) × Int32) (H : Heap) (locs : List Loc) (ls : Array Slot), Nw E s (AD (wX8 E adc c_now c_read c_past c_deeds c_images c_isKept c_text c_letters c_at c_token c_tokenAt c_value c_facts c_seen c_seenAhead c_weakLink c_weakTwos c_which c_views c_whichMany)) (wX8 E adc c_now_2 c_read c_past c_deeds c_images c_isKept c_text c_letters c_at c_token c_tokenAt c_value c_facts c_seen c_seenAhead c_weakLink c_weakTwos c_which_3 c_views_4 c_whichMany_5) H locs → lv_has ls 4 [(0, .ref (adc 0)), (1, .int v1_1)] → fX8_findWhich_L1 c_facts c_seen fu v1_1 c_now_2 c_which_3 c_views_4 c_whichMany_5 = some z → (∀ (H : Heap) (locs : List Loc) (ls : Array Slot), Nw E s (AD (wX8 E adc c_now c_read c_past c_deeds c_images c_isKept c_text c_letters c_at c_token c_tokenAt c_value c_facts c_seen c_seenAhead c_weakLink c_weakTwos c_which c_views c_whichMany)) (wX8 E adc z.2.1 c_read c_past c_deeds c_images c_isKept c_text c_letters c_at c_token c_tokenAt c_value c_facts c_seen c_seenAhead c_weakLink c_weakTwos z.2.2.1 z.2.2.2.1 z.2.2.2.2) H locs → lv_has ls 4 [(0, .ref (adc 0)), (1, .int z.1)] → WN p l e 5 118 s m args below meth c E (wX8 E adc c_now c_read c_past c_deeds c_images c_isKept c_text c_letters c_at c_token c_tokenAt c_value c_facts c_seen c_seenAhead c_weakLink c_weakTwos c_which c_views c_whichMany) (none) (wX8 E adc z0.1 c_read c_past c_deeds c_images c_isKept c_text c_letters c_at c_token c_tokenAt c_value c_facts c_seen c_seenAhead c_weakLink c_weakTwos z0.2.1 z0.2.2.1 z0.2.2.2) H locs (F0 m 147 ls [])) → WN p l e 5 118 s m args below meth c E (wX8 E adc c_now c_read c_past c_deeds c_images c_isKept c_text c_letters c_at c_token c_tokenAt c_value c_facts c_seen c_seenAhead c_weakLink c_weakTwos c_which c_views c_whichMany) (none) (wX8 E adc z0.1 c_read c_past c_deeds c_images c_isKept c_text c_letters c_at c_token c_tokenAt c_value c_facts c_seen c_seenAhead c_weakLink c_weakTwos z0.2.1 z0.2.2.1 z0.2.2.2) H locs (F0 m 7 ls []) := by
    intro fu
    induction fu with
    | zero =>
      intro v1_1 c_now_2 c_which_3 c_views_4 c_whichMany_5 z H locs ls hN hl h K
      cases (show (none : Option (Int32 × (Nat → Int32) × (Nat → Int32) × (Nat → Int32) × Int32)) = some z from h)
    | succ fu ih =>
      intro v1_1 c_now_2 c_which_3 c_views_4 c_whichMany_5 z H locs ls hN hl h K
      rw [fX8_findWhich_L1.eq_2] at h
      refine lv_iload_n hx hb dX8_findWhich_7 rfl (lv_at hl 1 rfl) ?_
      refine lv_aload_n hx hb dX8_findWhich_8 rfl (lv_at hl 0 rfl) ?_
      refine gt_X8_now hC hN 0 rfl rfl dX8_findWhich_9 ?_
      refine lv_iconst (v := 0) hx hb dX8_findWhich_12 rfl ?_
      have g := inB_vp (gd_c h)
      have h := gd_e h
      refine n_iald hC hN 1 rfl g dX8_findWhich_13 ?_
      refine lv_icmp_ge (tgt := 147) hx hb dX8_findWhich_14 (by decide) (fun c6 => ?_) (fun c6 => ?_)
      · have h := if_t h c6
        obtain rfl := Option.some.inj h
        exact K _ _ _ hN (lv_sub hl [0, 1] rfl)
      · have h := if_f h c6
        refine lv_iload_n hx hb dX8_findWhich_17 rfl (lv_at hl 1 rfl) ?_
        refine lv_iconst (v := 1) hx hb dX8_findWhich_18 rfl ?_
        refine lv_iadd hx hb dX8_findWhich_19 ?_
        refine lv_topi (fun v2_7 ev2_7 => ?_)
        have h := bd_e h v2_7 ev2_7
        refine lv_istore_n (lv' := [(2, .int v2_7), (0, .ref (adc 0)), (1, .int v1_1)]) hx hb dX8_findWhich_20 rfl hl (by decide) rfl (fun ls hl => ?_)
        have L2 : ∀ (fu : Nat) (v2_8 : Int32) (c_now_9 : Nat → Int32) (c_which_10 : Nat → Int32) (c_views_11 : Nat → Int32) (c_whichMany_12 : Int32) (z : Int32 × (Nat → Int32) × (Nat → Int32) × (Nat → Int32) × Int32) (H : Heap) (locs : List Loc) (ls : Array Slot), Nw E s (AD (wX8 E adc c_now c_read c_past c_deeds c_images c_isKept c_text c_letters c_at c_token c_tokenAt c_value c_facts c_seen c_seenAhead c_weakLink c_weakTwos c_which c_views c_whichMany)) (wX8 E adc c_now_9 c_read c_past c_deeds c_images c_isKept c_text c_letters c_at c_token c_tokenAt c_value c_facts c_seen c_seenAhead c_weakLink c_weakTwos c_which_10 c_views_11 c_whichMany_12) H locs → lv_has ls 4 [(0, .ref (adc 0)), (1, .int v1_1), (2, .int v2_8)] → fX8_findWhich_L2 c_facts c_seen v1_1 fu v2_8 c_now_9 c_which_10 c_views_11 c_whichMany_12 = some z → (∀ (H : Heap) (locs : List Loc) (ls : Array Slot), Nw E s (AD (wX8 E adc c_now c_read c_past c_deeds c_images c_isKept c_text c_letters c_at c_token c_tokenAt c_value c_facts c_seen c_seenAhead c_weakLink c_weakTwos c_which c_views c_whichMany)) (wX8 E adc z.2.1 c_read c_past c_deeds c_images c_isKept c_text c_letters c_at c_token c_tokenAt c_value c_facts c_seen c_seenAhead c_weakLink c_weakTwos z.2.2.1 z.2.2.2.1 z.2.2.2.2) H locs → lv_has ls 4 [(0, .ref (adc 0)), (1, .int v1_1), (2, .int z.1)] → WN p l e 5 118 s m args below meth c E (wX8 E adc c_now c_read c_past c_deeds c_images c_isKept c_text c_letters c_at c_token c_tokenAt c_value c_facts c_seen c_seenAhead c_weakLink c_weakTwos c_which c_views c_whichMany) (none) (wX8 E adc z0.1 c_read c_past c_deeds c_images c_isKept c_text c_letters c_at c_token c_tokenAt c_value c_facts c_seen c_seenAhead c_weakLink c_weakTwos z0.2.1 z0.2.2.1 z0.2.2.2) H locs (F0 m 141 ls [])) → WN p l e 5 118 s m args below meth c E (wX8 E adc c_now c_read c_past c_deeds c_images c_isKept c_text c_letters c_at c_token c_tokenAt c_value c_facts c_seen c_seenAhead c_weakLink c_weakTwos c_which c_views c_whichMany) (none) (wX8 E adc z0.1 c_read c_past c_deeds c_images c_isKept c_text c_letters c_at c_token c_tokenAt c_value c_facts c_seen c_seenAhead c_weakLink c_weakTwos z0.2.1 z0.2.2.1 z0.2.2.2) H locs (F0 m 21 ls []) := by
          intro fu
          induction fu with
          | zero =>
            intro v2_8 c_now_9 c_which_10 c_views_11 c_whichMany_12 z H locs ls hN hl h K
            cases (show (none : Option (Int32 × (Nat → Int32) × (Nat → Int32) × (Nat → Int32) × Int32)) = some z from h)
          | succ fu ih =>
            intro v2_8 c_now_9 c_which_10 c_views_11 c_whichMany_12 z H locs ls hN hl h K
            rw [fX8_findWhich_L2.eq_2] at h
            refine lv_iload_n hx hb dX8_findWhich_21 rfl (lv_at hl 2 rfl) ?_
            refine lv_aload_n hx hb dX8_findWhich_22 rfl (lv_at hl 0 rfl) ?_
            refine gt_X8_now hC hN 0 rfl rfl dX8_findWhich_23 ?_
            refine lv_iconst (v := 0) hx hb dX8_findWhich_26 rfl ?_
            have g := inB_vp (gd_c h)
            have h := gd_e h
            refine n_iald hC hN 1 rfl g dX8_findWhich_27 ?_
            refine lv_icmp_ge (tgt := 141) hx hb dX8_findWhich_28 (by decide) (fun c13 => ?_) (fun c13 => ?_)
            · have h := if_t h c13
              obtain rfl := Option.some.inj h
              exact K _ _ _ hN (lv_sub hl [0, 1, 2] rfl)
            · have h := if_f h c13
              refine lv_aload_n hx hb dX8_findWhich_31 rfl (lv_at hl 0 rfl) ?_
              refine lv_iload_n hx hb dX8_findWhich_32 rfl (lv_at hl 1 rfl) ?_
              refine lv_iload_n hx hb dX8_findWhich_33 rfl (lv_at hl 2 rfl) ?_
              obtain ⟨r_14, hr_14, h⟩ := bi_e h
              refine n_callVi (ws' := wX8 E adc c_now_9 c_read c_past c_deeds c_images c_isKept c_text c_letters c_at c_token c_tokenAt c_value c_facts c_seen c_seenAhead c_weakLink c_weakTwos c_which_10 c_views_11 c_whichMany_12) hC hN (tX8_isUp l E adc c_now_9 c_read c_past c_deeds c_images c_isKept c_text c_letters c_at c_token c_tokenAt c_value c_facts c_seen c_seenAhead c_weakLink c_weakTwos c_which_10 c_views_11 c_whichMany_12 v1_1 v2_8 r_14 hr_14) cy_X8_isUp mML_X8_155 mIM_X8_isUp mSE_X8_isUp rfl rfl (k := 0) rfl (perm_self _) (perm_self _) rfl rfl hl.1 rfl (Nat.le_of_ble_eq_true rfl) dX8_findWhich_34 ⟨Nat.le_of_ble_eq_true rfl, Nat.le_of_ble_eq_true rfl⟩ ⟨Nat.le_refl _, Nat.le_refl _⟩ (fun H locs hN => ?_)
              refine lv_if_eq (tgt := 135) hx hb dX8_findWhich_37 (by decide) (fun c15 => ?_) (fun c15 => ?_)
              · have h := if_t h c15
                obtain ⟨v2_16, ev2_16⟩ : ∃ y : Int32, y = v2_8 + 1 := ⟨_, rfl⟩
                have h := bd_e h v2_16 ev2_16
                refine lv_iinc (v := v2_16) (lv' := [(2, .int v2_16), (0, .ref (adc 0)), (1, .int v1_1)]) hx hb dX8_findWhich_135 hl (k := 2) rfl (by rw [ev2_16]; rfl) (by decide) rfl (fun ls hl => ?_)
                refine lv_goto (tgt := 21) hx hb dX8_findWhich_138 (by decide) ?_
                exact ih v2_16 c_now_9 c_which_10 c_views_11 c_whichMany_12 z _ _ _ hN (lv_sub hl [1, 2, 0] rfl) h K
              · have h := if_f h c15
                refine lv_aload_n hx hb dX8_findWhich_40 rfl (lv_at hl 0 rfl) ?_
                refine lv_iload_n hx hb dX8_findWhich_41 rfl (lv_at hl 1 rfl) ?_
                refine lv_iload_n hx hb dX8_findWhich_42 rfl (lv_at hl 2 rfl) ?_
                refine lv_iconst (v := 0) hx hb dX8_findWhich_43 rfl ?_
                refine lv_iconst (v := 0) hx hb dX8_findWhich_44 rfl ?_
                obtain ⟨z_17, hz_17, h⟩ := bi_e h
                refine n_callVv (ws' := wX8 E adc z_17 c_read c_past c_deeds c_images c_isKept c_text c_letters c_at c_token c_tokenAt c_value c_facts c_seen c_seenAhead c_weakLink c_weakTwos c_which_10 c_views_11 c_whichMany_12) hC hN (tX8_putLink l E adc c_now_9 c_read c_past c_deeds c_images c_isKept c_text c_letters c_at c_token c_tokenAt c_value c_facts c_seen c_seenAhead c_weakLink c_weakTwos c_which_10 c_views_11 c_whichMany_12 v1_1 v2_8 0 0 z_17 hz_17) cy_X8_putLink mML_X8_161 mIM_X8_putLink mSE_X8_putLink rfl rfl (k := 0) rfl (perm_self _) (perm_self _) rfl rfl hl.1 rfl (Nat.le_of_ble_eq_true rfl) dX8_findWhich_45 ⟨Nat.le_of_ble_eq_true rfl, Nat.le_of_ble_eq_true rfl⟩ ⟨Nat.le_refl _, Nat.le_refl _⟩ (fun H locs hN => ?_)
                refine lv_aload_n hx hb dX8_findWhich_48 rfl (lv_at hl 0 rfl) ?_
                obtain ⟨r_18, hr_18, h⟩ := bi_e h
                refine n_callVi (ws' := wX8 E adc z_17 c_read c_past c_deeds c_images c_isKept c_text c_letters c_at c_token c_tokenAt c_value c_facts c_seen c_seenAhead c_weakLink c_weakTwos c_which_10 c_views_11 c_whichMany_12) hC hN (tX8_isSo l E adc z_17 c_read c_past c_deeds c_images c_isKept c_text c_letters c_at c_token c_tokenAt c_value c_facts c_seen c_seenAhead c_weakLink c_weakTwos c_which_10 c_views_11 c_whichMany_12 r_18 hr_18) cy_X8_isSo mML_X8_202 mIM_X8_isSo mSE_X8_isSo rfl rfl (k := 0) rfl (perm_self _) (perm_self _) rfl rfl hl.1 rfl (Nat.le_of_ble_eq_true rfl) dX8_findWhich_49 ⟨Nat.le_of_ble_eq_true rfl, Nat.le_of_ble_eq_true rfl⟩ ⟨Nat.le_refl _, Nat.le_refl _⟩ (fun H locs hN => ?_)
                refine lv_if_eq (tgt := 127) hx hb dX8_findWhich_52 (by decide) (fun c19 => ?_) (fun c19 => ?_)
                · have h := if_t h c19
                  refine lv_aload_n hx hb dX8_findWhich_127 rfl (lv_at hl 0 rfl) ?_
                  refine lv_iload_n hx hb dX8_findWhich_128 rfl (lv_at hl 1 rfl) ?_
                  refine lv_iload_n hx hb dX8_findWhich_129 rfl (lv_at hl 2 rfl) ?_
                  refine lv_iconst (v := 1) hx hb dX8_findWhich_130 rfl ?_
                  refine lv_iconst (v := 0) hx hb dX8_findWhich_131 rfl ?_
                  obtain ⟨z_20, hz_20, h⟩ := bi_e h
                  refine n_callVv (ws' := wX8 E adc z_20 c_read c_past c_deeds c_images c_isKept c_text c_letters c_at c_token c_tokenAt c_value c_facts c_seen c_seenAhead c_weakLink c_weakTwos c_which_10 c_views_11 c_whichMany_12) hC hN (tX8_putLink l E adc z_17 c_read c_past c_deeds c_images c_isKept c_text c_letters c_at c_token c_tokenAt c_value c_facts c_seen c_seenAhead c_weakLink c_weakTwos c_which_10 c_views_11 c_whichMany_12 v1_1 v2_8 1 0 z_20 hz_20) cy_X8_putLink mML_X8_161 mIM_X8_putLink mSE_X8_putLink rfl rfl (k := 0) rfl (perm_self _) (perm_self _) rfl rfl hl.1 rfl (Nat.le_of_ble_eq_true rfl) dX8_findWhich_132 ⟨Nat.le_of_ble_eq_true rfl, Nat.le_of_ble_eq_true rfl⟩ ⟨Nat.le_refl _, Nat.le_refl _⟩ (fun H locs hN => ?_)
                  obtain ⟨v2_21, ev2_21⟩ : ∃ y : Int32, y = v2_8 + 1 := ⟨_, rfl⟩
                  have h := bd_e h v2_21 ev2_21
                  refine lv_iinc (v := v2_21) (lv' := [(2, .int v2_21), (0, .ref (adc 0)), (1, .int v1_1)]) hx hb dX8_findWhich_135 hl (k := 2) rfl (by rw [ev2_21]; rfl) (by decide) rfl (fun ls hl => ?_)
                  refine lv_goto (tgt := 21) hx hb dX8_findWhich_138 (by decide) ?_
                  exact ih v2_21 z_20 c_which_10 c_views_11 c_whichMany_12 z _ _ _ hN (lv_sub hl [1, 2, 0] rfl) h K
                · have h := if_f h c19
                  refine lv_aload_n hx hb dX8_findWhich_55 rfl (lv_at hl 0 rfl) ?_
                  refine gt_X8_which hC hN 0 rfl rfl dX8_findWhich_56 ?_
                  refine lv_aload_n hx hb dX8_findWhich_59 rfl (lv_at hl 0 rfl) ?_
                  refine gt_X8_whichMany hC hN 0 rfl rfl dX8_findWhich_60 ?_
                  refine lv_bipush (v := 10) hx hb dX8_findWhich_63 (by decide) ?_
                  refine lv_iload_n hx hb dX8_findWhich_65 rfl (lv_at hl 1 rfl) ?_
                  refine lv_imul hx hb dX8_findWhich_66 ?_
                  refine lv_iload_n hx hb dX8_findWhich_67 rfl (lv_at hl 2 rfl) ?_
                  refine lv_iadd hx hb dX8_findWhich_68 ?_
                  have g := inB_vp (gd_c h)
                  have h := gd_e h
                  obtain ⟨c_which_22, ec_which_22⟩ : ∃ y : Nat → Int32, y = upd c_which_10 c_whichMany_12.toNatClampNeg ((10 * v1_1) + v2_8) := ⟨_, rfl⟩
                  have h := bd_e h c_which_22 ec_which_22
                  refine n_iast hC hN 9 rfl g ec_which_22 (ws' := wX8 E adc z_17 c_read c_past c_deeds c_images c_isKept c_text c_letters c_at c_token c_tokenAt c_value c_facts c_seen c_seenAhead c_weakLink c_weakTwos c_which_22 c_views_11 c_whichMany_12) rfl dX8_findWhich_69 (fun H locs hN => ?_)
                  refine lv_iconst (v := 0) hx hb dX8_findWhich_70 rfl ?_
                  refine lv_istore_n (lv' := [(3, .int 0), (0, .ref (adc 0)), (1, .int v1_1), (2, .int v2_8)]) hx hb dX8_findWhich_71 rfl hl (by decide) rfl (fun ls hl => ?_)
                  have L3 : ∀ (fu : Nat) (v3_23 : Int32) (c_views_24 : Nat → Int32) (z : Int32 × (Nat → Int32)) (H : Heap) (locs : List Loc) (ls : Array Slot), Nw E s (AD (wX8 E adc c_now c_read c_past c_deeds c_images c_isKept c_text c_letters c_at c_token c_tokenAt c_value c_facts c_seen c_seenAhead c_weakLink c_weakTwos c_which c_views c_whichMany)) (wX8 E adc z_17 c_read c_past c_deeds c_images c_isKept c_text c_letters c_at c_token c_tokenAt c_value c_facts c_seen c_seenAhead c_weakLink c_weakTwos c_which_22 c_views_24 c_whichMany_12) H locs → lv_has ls 4 [(0, .ref (adc 0)), (1, .int v1_1), (2, .int v2_8), (3, .int v3_23)] → fX8_findWhich_L3 c_whichMany_12 z_17 fu v3_23 c_views_24 = some z → (∀ (H : Heap) (locs : List Loc) (ls : Array Slot), Nw E s (AD (wX8 E adc c_now c_read c_past c_deeds c_images c_isKept c_text c_letters c_at c_token c_tokenAt c_value c_facts c_seen c_seenAhead c_weakLink c_weakTwos c_which c_views c_whichMany)) (wX8 E adc z_17 c_read c_past c_deeds c_images c_isKept c_text c_letters c_at c_token c_tokenAt c_value c_facts c_seen c_seenAhead c_weakLink c_weakTwos c_which_22 z.2 c_whichMany_12) H locs → lv_has ls 4 [(0, .ref (adc 0)), (1, .int v1_1), (2, .int v2_8), (3, .int z.1)] → WN p l e 5 118 s m args below meth c E (wX8 E adc c_now c_read c_past c_deeds c_images c_isKept c_text c_letters c_at c_token c_tokenAt c_value c_facts c_seen c_seenAhead c_weakLink c_weakTwos c_which c_views c_whichMany) (none) (wX8 E adc z0.1 c_read c_past c_deeds c_images c_isKept c_text c_letters c_at c_token c_tokenAt c_value c_facts c_seen c_seenAhead c_weakLink c_weakTwos z0.2.1 z0.2.2.1 z0.2.2.2) H locs (F0 m 117 ls [])) → WN p l e 5 118 s m args below meth c E (wX8 E adc c_now c_read c_past c_deeds c_images c_isKept c_text c_letters c_at c_token c_tokenAt c_value c_facts c_seen c_seenAhead c_weakLink c_weakTwos c_which c_views c_whichMany) (none) (wX8 E adc z0.1 c_read c_past c_deeds c_images c_isKept c_text c_letters c_at c_token c_tokenAt c_value c_facts c_seen c_seenAhead c_weakLink c_weakTwos z0.2.1 z0.2.2.1 z0.2.2.2) H locs (F0 m 72 ls []) := by
                    intro fu
                    induction fu with
                    | zero =>
                      intro v3_23 c_views_24 z H locs ls hN hl h K
                      cases (show (none : Option (Int32 × (Nat → Int32))) = some z from h)
                    | succ fu ih =>
                      intro v3_23 c_views_24 z H locs ls hN hl h K
                      rw [fX8_findWhich_L3.eq_2] at h
                      refine lv_iload_n hx hb dX8_findWhich_72 rfl (lv_at hl 3 rfl) ?_
                      refine lv_bipush (v := 8) hx hb dX8_findWhich_73 (by decide) ?_
                      refine lv_icmp_ge (tgt := 117) hx hb dX8_findWhich_75 (by decide) (fun c25 => ?_) (fun c25 => ?_)
                      · have h := if_t h c25
                        obtain rfl := Option.some.inj h
                        exact K _ _ _ hN (lv_sub hl [0, 1, 2, 3] rfl)
                      · have h := if_f h c25
                        refine lv_aload_n hx hb dX8_findWhich_78 rfl (lv_at hl 0 rfl) ?_
                        refine gt_X8_views hC hN 0 rfl rfl dX8_findWhich_79 ?_
                        refine lv_bipush (v := 8) hx hb dX8_findWhich_82 (by decide) ?_
                        refine lv_aload_n hx hb dX8_findWhich_84 rfl (lv_at hl 0 rfl) ?_
                        refine gt_X8_whichMany hC hN 0 rfl rfl dX8_findWhich_85 ?_
                        refine lv_imul hx hb dX8_findWhich_88 ?_
                        refine lv_iload_n hx hb dX8_findWhich_89 rfl (lv_at hl 3 rfl) ?_
                        refine lv_iadd hx hb dX8_findWhich_90 ?_
                        refine lv_iload_n hx hb dX8_findWhich_91 rfl (lv_at hl 3 rfl) ?_
                        refine lv_aload_n hx hb dX8_findWhich_92 rfl (lv_at hl 0 rfl) ?_
                        refine gt_X8_now hC hN 0 rfl rfl dX8_findWhich_93 ?_
                        refine lv_iconst (v := 1) hx hb dX8_findWhich_96 rfl ?_
                        have g := inB_vp (gd_c h)
                        have h := gd_e h
                        refine n_iald hC hN 1 rfl g dX8_findWhich_97 ?_
                        refine lv_icmp_ge (tgt := 109) hx hb dX8_findWhich_98 (by decide) (fun c26 => ?_) (fun c26 => ?_)
                        · have h := if_t h c26
                          refine lv_iconst (v := 0) hx hb dX8_findWhich_109 rfl ?_
                          have g := inB_vp (gd_c h)
                          have h := gd_e h
                          obtain ⟨c_views_27, ec_views_27⟩ : ∃ y : Nat → Int32, y = upd c_views_24 ((8 * c_whichMany_12) + v3_23).toNatClampNeg 0 := ⟨_, rfl⟩
                          have h := bd_e h c_views_27 ec_views_27
                          refine n_iast hC hN 10 rfl g ec_views_27 (ws' := wX8 E adc z_17 c_read c_past c_deeds c_images c_isKept c_text c_letters c_at c_token c_tokenAt c_value c_facts c_seen c_seenAhead c_weakLink c_weakTwos c_which_22 c_views_27 c_whichMany_12) rfl dX8_findWhich_110 (fun H locs hN => ?_)
                          obtain ⟨v3_28, ev3_28⟩ : ∃ y : Int32, y = v3_23 + 1 := ⟨_, rfl⟩
                          have h := bd_e h v3_28 ev3_28
                          refine lv_iinc (v := v3_28) (lv' := [(3, .int v3_28), (0, .ref (adc 0)), (1, .int v1_1), (2, .int v2_8)]) hx hb dX8_findWhich_111 hl (k := 3) rfl (by rw [ev3_28]; rfl) (by decide) rfl (fun ls hl => ?_)
                          refine lv_goto (tgt := 72) hx hb dX8_findWhich_114 (by decide) ?_
                          exact ih v3_28 c_views_27 z _ _ _ hN (lv_sub hl [1, 2, 3, 0] rfl) h K
                        · have h := if_f h c26
                          refine lv_aload_n hx hb dX8_findWhich_101 rfl (lv_at hl 0 rfl) ?_
                          refine lv_iload_n hx hb dX8_findWhich_102 rfl (lv_at hl 3 rfl) ?_
                          obtain ⟨r_29, hr_29, h⟩ := bi_e h
                          refine n_callVi (ws' := wX8 E adc z_17 c_read c_past c_deeds c_images c_isKept c_text c_letters c_at c_token c_tokenAt c_value c_facts c_seen c_seenAhead c_weakLink c_weakTwos c_which_22 c_views_24 c_whichMany_12) hC hN (tX8_seesOf l E adc z_17 c_read c_past c_deeds c_images c_isKept c_text c_letters c_at c_token c_tokenAt c_value c_facts c_seen c_seenAhead c_weakLink c_weakTwos c_which_22 c_views_24 c_whichMany_12 v3_23 r_29 hr_29) cy_X8_seesOf mML_X8_140 mIM_X8_seesOf mSE_X8_seesOf rfl rfl (k := 0) rfl (perm_self _) (perm_self _) rfl rfl hl.1 rfl (Nat.le_of_ble_eq_true rfl) dX8_findWhich_103 ⟨Nat.le_of_ble_eq_true rfl, Nat.le_of_ble_eq_true rfl⟩ ⟨Nat.le_refl _, Nat.le_refl _⟩ (fun H locs hN => ?_)
                          refine lv_goto (tgt := 110) hx hb dX8_findWhich_106 (by decide) ?_
                          have g := inB_vp (gd_c h)
                          have h := gd_e h
                          obtain ⟨c_views_30, ec_views_30⟩ : ∃ y : Nat → Int32, y = upd c_views_24 ((8 * c_whichMany_12) + v3_23).toNatClampNeg r_29 := ⟨_, rfl⟩
                          have h := bd_e h c_views_30 ec_views_30
                          refine n_iast hC hN 10 rfl g ec_views_30 (ws' := wX8 E adc z_17 c_read c_past c_deeds c_images c_isKept c_text c_letters c_at c_token c_tokenAt c_value c_facts c_seen c_seenAhead c_weakLink c_weakTwos c_which_22 c_views_30 c_whichMany_12) rfl dX8_findWhich_110 (fun H locs hN => ?_)
                          obtain ⟨v3_31, ev3_31⟩ : ∃ y : Int32, y = v3_23 + 1 := ⟨_, rfl⟩
                          have h := bd_e h v3_31 ev3_31
                          refine lv_iinc (v := v3_31) (lv' := [(3, .int v3_31), (0, .ref (adc 0)), (1, .int v1_1), (2, .int v2_8)]) hx hb dX8_findWhich_111 hl (k := 3) rfl (by rw [ev3_31]; rfl) (by decide) rfl (fun ls hl => ?_)
                          refine lv_goto (tgt := 72) hx hb dX8_findWhich_114 (by decide) ?_
                          exact ih v3_31 c_views_30 z _ _ _ hN (lv_sub hl [1, 2, 3, 0] rfl) h K
                  obtain ⟨z_32, hz_32, h⟩ := bi_e h
                  refine L3 500 0 c_views_11 z_32 _ _ _ hN (lv_sub hl [1, 2, 3, 0] rfl) hz_32 (fun H locs ls hN hl => ?_)
                  refine lv_aload_n hx hb dX8_findWhich_117 rfl (lv_at hl 0 rfl) ?_
                  refine lv_dup hx hb dX8_findWhich_118 rfl ?_
                  refine gt_X8_whichMany hC hN 0 rfl rfl dX8_findWhich_119 ?_
                  refine lv_iconst (v := 1) hx hb dX8_findWhich_122 rfl ?_
                  refine lv_iadd hx hb dX8_findWhich_123 ?_
                  refine lv_topi (fun c_whichMany_33 ec_whichMany_33 => ?_)
                  have h := bd_e h c_whichMany_33 ec_whichMany_33
                  refine pt_X8_whichMany hC hN 0 rfl (Nat.le_of_ble_eq_true rfl) (ws' := wX8 E adc z_17 c_read c_past c_deeds c_images c_isKept c_text c_letters c_at c_token c_tokenAt c_value c_facts c_seen c_seenAhead c_weakLink c_weakTwos c_which_22 z_32.2 c_whichMany_33) rfl dX8_findWhich_124 (fun H locs hN => ?_)
                  refine lv_aload_n hx hb dX8_findWhich_127 rfl (lv_at hl 0 rfl) ?_
                  refine lv_iload_n hx hb dX8_findWhich_128 rfl (lv_at hl 1 rfl) ?_
                  refine lv_iload_n hx hb dX8_findWhich_129 rfl (lv_at hl 2 rfl) ?_
                  refine lv_iconst (v := 1) hx hb dX8_findWhich_130 rfl ?_
                  refine lv_iconst (v := 0) hx hb dX8_findWhich_131 rfl ?_
                  obtain ⟨z_34, hz_34, h⟩ := bi_e h
                  refine n_callVv (ws' := wX8 E adc z_34 c_read c_past c_deeds c_images c_isKept c_text c_letters c_at c_token c_tokenAt c_value c_facts c_seen c_seenAhead c_weakLink c_weakTwos c_which_22 z_32.2 c_whichMany_33) hC hN (tX8_putLink l E adc z_17 c_read c_past c_deeds c_images c_isKept c_text c_letters c_at c_token c_tokenAt c_value c_facts c_seen c_seenAhead c_weakLink c_weakTwos c_which_22 z_32.2 c_whichMany_33 v1_1 v2_8 1 0 z_34 hz_34) cy_X8_putLink mML_X8_161 mIM_X8_putLink mSE_X8_putLink rfl rfl (k := 0) rfl (perm_self _) (perm_self _) rfl rfl hl.1 rfl (Nat.le_of_ble_eq_true rfl) dX8_findWhich_132 ⟨Nat.le_of_ble_eq_true rfl, Nat.le_of_ble_eq_true rfl⟩ ⟨Nat.le_refl _, Nat.le_refl _⟩ (fun H locs hN => ?_)
                  obtain ⟨v2_35, ev2_35⟩ : ∃ y : Int32, y = v2_8 + 1 := ⟨_, rfl⟩
                  have h := bd_e h v2_35 ev2_35
                  refine lv_iinc (v := v2_35) (lv' := [(2, .int v2_35), (0, .ref (adc 0)), (1, .int v1_1), (3, .int z_32.1)]) hx hb dX8_findWhich_135 hl (k := 2) rfl (by rw [ev2_35]; rfl) (by decide) rfl (fun ls hl => ?_)
                  refine lv_goto (tgt := 21) hx hb dX8_findWhich_138 (by decide) ?_
                  exact ih v2_35 z_34 c_which_22 z_32.2 c_whichMany_33 z _ _ _ hN (lv_sub hl [1, 2, 0] rfl) h K
        obtain ⟨z_36, hz_36, h⟩ := bi_e h
        refine L2 500 v2_7 c_now_2 c_which_3 c_views_4 c_whichMany_5 z_36 _ _ _ hN (lv_sub hl [1, 2, 0] rfl) hz_36 (fun H locs ls hN hl => ?_)
        obtain ⟨v1_37, ev1_37⟩ : ∃ y : Int32, y = v1_1 + 1 := ⟨_, rfl⟩
        have h := bd_e h v1_37 ev1_37
        refine lv_iinc (v := v1_37) (lv' := [(1, .int v1_37), (0, .ref (adc 0)), (2, .int z_36.1)]) hx hb dX8_findWhich_141 hl (k := 1) rfl (by rw [ev1_37]; rfl) (by decide) rfl (fun ls hl => ?_)
        refine lv_goto (tgt := 7) hx hb dX8_findWhich_144 (by decide) ?_
        exact ih v1_37 z_36.2.1 z_36.2.2.1 z_36.2.2.2.1 z_36.2.2.2.2 z _ _ _ hN (lv_sub hl [1, 0] rfl) h K
  obtain ⟨z_38, hz_38, h⟩ := bi_e h
  refine L1 500 0 c_now c_which c_views 0 z_38 _ _ _ hN (lv_sub hl [1, 0] rfl) hz_38 (fun H locs ls hN hl => ?_)
  obtain rfl := Option.some.inj h
  exact n_vret hC hN dX8_findWhich_147
set_option maxHeartbeats 4000000 in
set_option maxRecDepth 100000 in
theorem tX8_which (l : Launch) (E : EV) (adc : Nat → Nat) (c_now : Nat → Int32) (c_read : Nat → Int32) (c_past : Nat → Int32) (c_deeds : Int32) (c_images : Nat → Int32) (c_isKept : Nat → Int32) (c_text : Nat → Int32) (c_letters : Int32) (c_at : Int32) (c_token : Int32) (c_tokenAt : Int32) (c_value : Int32) (c_facts : Nat → Int32) (c_seen : Int32) (c_seenAhead : Nat → Int32) (c_weakLink : Int32) (c_weakTwos : Int32) (c_which : Nat → Int32) (c_views : Nat → Int32) (c_whichMany : Int32) (p1 : Int32) (z : Int32 × (Nat → Int32) × (Nat → Int32) × (Nat → Int32) × Int32) (h : fX8_which c_now c_facts c_seen c_which c_views c_whichMany p1 = some z) : Cn l E yX8_which cX8_which 2 (some .int) 6 141 [.ref (adc 0), .int p1] (wX8 E adc c_now c_read c_past c_deeds c_images c_isKept c_text c_letters c_at c_token c_tokenAt c_value c_facts c_seen c_seenAhead c_weakLink c_weakTwos c_which c_views c_whichMany) (wX8 E adc z.2.1 c_read c_past c_deeds c_images c_isKept c_text c_letters c_at c_token c_tokenAt c_value c_facts c_seen c_seenAhead c_weakLink c_weakTwos z.2.2.1 z.2.2.2.1 z.2.2.2.2) (some (.int z.1)) := by
  refine Cn.ofW (by decide +kernel) (Nat.le_of_ble_eq_true rfl) ?_
  intro p e s m args below meth c ls hC hN hl
  have hl : lv_has ls 2 [(0, .ref (adc 0)), (1, .int p1)] := hl
  have hx := hC.1
  have hb := hC.2.1
  unfold fX8_which at h
  refine lv_iload_n hx hb dX8_which_0 rfl (lv_at hl 1 rfl) ?_
  refine lv_iconst (v := 0) hx hb dX8_which_1 rfl ?_
  refine lv_iconst (v := 1) hx hb dX8_which_2 rfl ?_
  obtain ⟨r_1, hr_1, h⟩ := bi_e h
  refine n_callSi (ws' := wX8 E adc c_now c_read c_past c_deeds c_images c_isKept c_text c_letters c_at c_token c_tokenAt c_value c_facts c_seen c_seenAhead c_weakLink c_weakTwos c_which c_views c_whichMany) hC hN (tX8_in l E p1 0 1 r_1 hr_1) cy_X8_in mML_X8_55 mST_X8_in (perm_nil _) (perm_nil _) rfl rfl hl.1 rfl (Nat.le_of_ble_eq_true rfl) dX8_which_3 ⟨Nat.le_of_ble_eq_true rfl, Nat.le_of_ble_eq_true rfl⟩ ⟨Nat.le_refl _, Nat.le_refl _⟩ (fun H locs hN => ?_)
  refine lv_if_ne (tgt := 11) hx hb dX8_which_6 (by decide) (fun c2 => ?_) (fun c2 => ?_)
  · have h := if_f h c2
    refine lv_aload_n hx hb dX8_which_11 rfl (lv_at hl 0 rfl) ?_
    obtain ⟨z_3, hz_3, h⟩ := bi_e h
    refine n_callVv (ws' := wX8 E adc z_3.1 c_read c_past c_deeds c_images c_isKept c_text c_letters c_at c_token c_tokenAt c_value c_facts c_seen c_seenAhead c_weakLink c_weakTwos z_3.2.1 z_3.2.2.1 z_3.2.2.2) hC hN (tX8_findWhich l E adc c_now c_read c_past c_deeds c_images c_isKept c_text c_letters c_at c_token c_tokenAt c_value c_facts c_seen c_seenAhead c_weakLink c_weakTwos c_which c_views c_whichMany z_3 hz_3) cy_X8_findWhich mML_X8_205 mIM_X8_findWhich mSE_X8_findWhich rfl rfl (k := 0) rfl (perm_self _) (perm_self _) rfl rfl hl.1 rfl (Nat.le_of_ble_eq_true rfl) dX8_which_12 ⟨Nat.le_of_ble_eq_true rfl, Nat.le_of_ble_eq_true rfl⟩ ⟨Nat.le_refl _, Nat.le_refl _⟩ (fun H locs hN => ?_)
    refine lv_iload_n hx hb dX8_which_15 rfl (lv_at hl 1 rfl) ?_
    refine lv_if_ne (tgt := 26) hx hb dX8_which_16 (by decide) (fun c4 => ?_) (fun c4 => ?_)
    · have h := if_f h c4
      refine lv_aload_n hx hb dX8_which_26 rfl (lv_at hl 0 rfl) ?_
      refine gt_X8_whichMany hC hN 0 rfl rfl dX8_which_27 ?_
      refine lv_if_ne (tgt := 38) hx hb dX8_which_30 (by decide) (fun c5 => ?_) (fun c5 => ?_)
      · have h := if_f h c5
        refine lv_aload_n hx hb dX8_which_38 rfl (lv_at hl 0 rfl) ?_
        refine gt_X8_which hC hN 0 rfl rfl dX8_which_39 ?_
        refine lv_iconst (v := 0) hx hb dX8_which_42 rfl ?_
        have g := inB_vp (gd_c h)
        have h := gd_e h
        refine n_iald hC hN 9 rfl g dX8_which_43 ?_
        obtain rfl := Option.some.inj h
        exact n_iret hC hN dX8_which_44
      · have h := if_t h c5
        refine lv_bipush (v := -9) hx hb dX8_which_33 (by decide) ?_
        refine lv_goto (tgt := 44) hx hb dX8_which_35 (by decide) ?_
        obtain rfl := Option.some.inj h
        exact n_iret hC hN dX8_which_44
    · have h := if_t h c4
      refine lv_aload_n hx hb dX8_which_19 rfl (lv_at hl 0 rfl) ?_
      refine gt_X8_whichMany hC hN 0 rfl rfl dX8_which_20 ?_
      refine lv_goto (tgt := 44) hx hb dX8_which_23 (by decide) ?_
      obtain rfl := Option.some.inj h
      exact n_iret hC hN dX8_which_44
  · have h := if_t h c2
    refine lv_iconst (v := -1) hx hb dX8_which_9 rfl ?_
    obtain rfl := Option.some.inj h
    exact n_iret hC hN dX8_which_10
set_option maxHeartbeats 4000000 in
set_option maxRecDepth 100000 in
theorem tX8_ask (l : Launch) (E : EV) (adc : Nat → Nat) (c_now : Nat → Int32) (c_read : Nat → Int32) (c_past : Nat → Int32) (c_deeds : Int32) (c_images : Nat → Int32) (c_isKept : Nat → Int32) (c_text : Nat → Int32) (c_letters : Int32) (c_at : Int32) (c_token : Int32) (c_tokenAt : Int32) (c_value : Int32) (c_facts : Nat → Int32) (c_seen : Int32) (c_seenAhead : Nat → Int32) (c_weakLink : Int32) (c_weakTwos : Int32) (c_which : Nat → Int32) (c_views : Nat → Int32) (c_whichMany : Int32) (z : Int32 × (Nat → Int32) × (Nat → Int32) × (Nat → Int32) × Int32) (h : fX8_ask c_now c_facts c_seen c_which c_views = some z) : Cn l E yX8_ask cX8_ask 7 (some .int) 6 141 [.ref (adc 0)] (wX8 E adc c_now c_read c_past c_deeds c_images c_isKept c_text c_letters c_at c_token c_tokenAt c_value c_facts c_seen c_seenAhead c_weakLink c_weakTwos c_which c_views c_whichMany) (wX8 E adc z.2.1 c_read c_past c_deeds c_images c_isKept c_text c_letters c_at c_token c_tokenAt c_value c_facts c_seen c_seenAhead c_weakLink c_weakTwos z.2.2.1 z.2.2.2.1 z.2.2.2.2) (some (.int z.1)) := by
  refine Cn.ofW (by decide +kernel) (Nat.le_of_ble_eq_true rfl) ?_
  intro p e s m args below meth c ls hC hN hl
  obtain ⟨z0, hz0⟩ : ∃ y, y = z := ⟨_, rfl⟩
  rw [← hz0] at h ⊢
  clear hz0
  have hl : lv_has ls 7 [(0, .ref (adc 0))] := hl
  have hx := hC.1
  have hb := hC.2.1
  unfold fX8_ask at h
  refine lv_aload_n hx hb dX8_ask_0 rfl (lv_at hl 0 rfl) ?_
  obtain ⟨z_1, hz_1, h⟩ := bi_e h
  refine n_callVv (ws' := wX8 E adc z_1.1 c_read c_past c_deeds c_images c_isKept c_text c_letters c_at c_token c_tokenAt c_value c_facts c_seen c_seenAhead c_weakLink c_weakTwos z_1.2.1 z_1.2.2.1 z_1.2.2.2) hC hN (tX8_findWhich l E adc c_now c_read c_past c_deeds c_images c_isKept c_text c_letters c_at c_token c_tokenAt c_value c_facts c_seen c_seenAhead c_weakLink c_weakTwos c_which c_views c_whichMany z_1 hz_1) cy_X8_findWhich mML_X8_205 mIM_X8_findWhich mSE_X8_findWhich rfl rfl (k := 0) rfl (perm_self _) (perm_self _) rfl rfl hl.1 rfl (Nat.le_of_ble_eq_true rfl) dX8_ask_1 ⟨Nat.le_of_ble_eq_true rfl, Nat.le_of_ble_eq_true rfl⟩ ⟨Nat.le_refl _, Nat.le_refl _⟩ (fun H locs hN => ?_)
  refine lv_bipush (v := -9) hx hb dX8_ask_4 (by decide) ?_
  refine lv_istore_n (lv' := [(1, .int (-9)), (0, .ref (adc 0))]) hx hb dX8_ask_6 rfl hl (by decide) rfl (fun ls hl => ?_)
  refine lv_aload_n hx hb dX8_ask_7 rfl (lv_at hl 1 rfl) ?_
  refine gt_X8_whichMany hC hN 0 rfl rfl dX8_ask_8 ?_
  refine lv_iconst (v := 1) hx hb dX8_ask_11 rfl ?_
  refine lv_iadd hx hb dX8_ask_12 ?_
  refine lv_topi (fun v2_2 ev2_2 => ?_)
  have h := bd_e h v2_2 ev2_2
  refine lv_istore_n (lv' := [(2, .int v2_2), (1, .int (-9)), (0, .ref (adc 0))]) hx hb dX8_ask_13 rfl hl (by decide) rfl (fun ls hl => ?_)
  refine lv_iconst (v := 0) hx hb dX8_ask_14 rfl ?_
  refine lv_istore_n (lv' := [(3, .int 0), (2, .int v2_2), (1, .int (-9)), (0, .ref (adc 0))]) hx hb dX8_ask_15 rfl hl (by decide) rfl (fun ls hl => ?_)
  have L1 : ∀ (fu : Nat) (v1_3 : Int32) (v2_4 : Int32) (v3_5 : Int32) (z : Int32 × Int32 × Int32) (H : Heap) (locs : List Loc) (ls : Array Slot), Nw E s (AD (wX8 E adc c_now c_read c_past c_deeds c_images c_isKept c_text c_letters c_at c_token c_tokenAt c_value c_facts c_seen c_seenAhead c_weakLink c_weakTwos c_which c_views c_whichMany)) (wX8 E adc z_1.1 c_read c_past c_deeds c_images c_isKept c_text c_letters c_at c_token c_tokenAt c_value c_facts c_seen c_seenAhead c_weakLink c_weakTwos z_1.2.1 z_1.2.2.1 z_1.2.2.2) H locs → lv_has ls 7 [(0, .ref (adc 0)), (1, .int v1_3), (2, .int v2_4), (3, .int v3_5)] → fX8_ask_L1 z_1 fu v1_3 v2_4 v3_5 = some z → (∀ (H : Heap) (locs : List Loc) (ls : Array Slot), Nw E s (AD (wX8 E adc c_now c_read c_past c_deeds c_images c_isKept c_text c_letters c_at c_token c_tokenAt c_value c_facts c_seen c_seenAhead c_weakLink c_weakTwos c_which c_views c_whichMany)) (wX8 E adc z_1.1 c_read c_past c_deeds c_images c_isKept c_text c_letters c_at c_token c_tokenAt c_value c_facts c_seen c_seenAhead c_weakLink c_weakTwos z_1.2.1 z_1.2.2.1 z_1.2.2.2) H locs → lv_has ls 7 [(0, .ref (adc 0)), (1, .int z.1), (2, .int z.2.1), (3, .int z.2.2)] → WN p l e 6 141 s m args below meth c E (wX8 E adc c_now c_read c_past c_deeds c_images c_isKept c_text c_letters c_at c_token c_tokenAt c_value c_facts c_seen c_seenAhead c_weakLink c_weakTwos c_which c_views c_whichMany) (some (.int z0.1)) (wX8 E adc z0.2.1 c_read c_past c_deeds c_images c_isKept c_text c_letters c_at c_token c_tokenAt c_value c_facts c_seen c_seenAhead c_weakLink c_weakTwos z0.2.2.1 z0.2.2.2.1 z0.2.2.2.2) H locs (F0 m 170 ls [])) → WN p l e 6 141 s m args below meth c E (wX8 E adc c_now c_read c_past c_deeds c_images c_isKept c_text c_letters c_at c_token c_tokenAt c_value c_facts c_seen c_seenAhead c_weakLink c_weakTwos c_which c_views c_whichMany) (some (.int z0.1)) (wX8 E adc z0.2.1 c_read c_past c_deeds c_images c_isKept c_text c_letters c_at c_token c_tokenAt c_value c_facts c_seen c_seenAhead c_weakLink c_weakTwos z0.2.2.1 z0.2.2.2.1 z0.2.2.2.2) H locs (F0 m 16 ls []) := by
    intro fu
    induction fu with
    | zero =>
      intro v1_3 v2_4 v3_5 z H locs ls hN hl h K
      cases (show (none : Option (Int32 × Int32 × Int32)) = some z from h)
    | succ fu ih =>
      intro v1_3 v2_4 v3_5 z H locs ls hN hl h K
      rw [fX8_ask_L1.eq_2] at h
      refine lv_iload_n hx hb dX8_ask_16 rfl (lv_at hl 3 rfl) ?_
      refine lv_aload_n hx hb dX8_ask_17 rfl (lv_at hl 0 rfl) ?_
      refine gt_X8_now hC hN 0 rfl rfl dX8_ask_18 ?_
      refine lv_iconst (v := 1) hx hb dX8_ask_21 rfl ?_
      have g := inB_vp (gd_c h)
      have h := gd_e h
      refine n_iald hC hN 1 rfl g dX8_ask_22 ?_
      refine lv_icmp_ge (tgt := 170) hx hb dX8_ask_23 (by decide) (fun c6 => ?_) (fun c6 => ?_)
      · have h := if_t h c6
        obtain rfl := Option.some.inj h
        exact K _ _ _ hN (lv_sub hl [0, 1, 2, 3] rfl)
      · have h := if_f h c6
        refine lv_aload_n hx hb dX8_ask_26 rfl (lv_at hl 0 rfl) ?_
        refine gt_X8_whichMany hC hN 0 rfl rfl dX8_ask_27 ?_
        refine lv_iconst (v := 1) hx hb dX8_ask_30 rfl ?_
        refine lv_icmp_le (tgt := 170) hx hb dX8_ask_31 (by decide) (fun c7 => ?_) (fun c7 => ?_)
        · have h := if_t h c7
          obtain rfl := Option.some.inj h
          exact K _ _ _ hN (lv_sub hl [0, 1, 2, 3] rfl)
        · have h := if_f h c7
          refine lv_iload_n hx hb dX8_ask_34 rfl (lv_at hl 3 rfl) ?_
          refine lv_iconst (v := 1) hx hb dX8_ask_35 rfl ?_
          refine lv_iadd hx hb dX8_ask_36 ?_
          refine lv_topi (fun v4_8 ev4_8 => ?_)
          have h := bd_e h v4_8 ev4_8
          refine lv_istore (lv' := [(4, .int v4_8), (0, .ref (adc 0)), (1, .int v1_3), (2, .int v2_4), (3, .int v3_5)]) hx hb dX8_ask_37 hl (by decide) rfl (fun ls hl => ?_)
          have L2 : ∀ (fu : Nat) (v1_9 : Int32) (v2_10 : Int32) (v4_11 : Int32) (z : Int32 × Int32 × Int32) (H : Heap) (locs : List Loc) (ls : Array Slot), Nw E s (AD (wX8 E adc c_now c_read c_past c_deeds c_images c_isKept c_text c_letters c_at c_token c_tokenAt c_value c_facts c_seen c_seenAhead c_weakLink c_weakTwos c_which c_views c_whichMany)) (wX8 E adc z_1.1 c_read c_past c_deeds c_images c_isKept c_text c_letters c_at c_token c_tokenAt c_value c_facts c_seen c_seenAhead c_weakLink c_weakTwos z_1.2.1 z_1.2.2.1 z_1.2.2.2) H locs → lv_has ls 7 [(0, .ref (adc 0)), (1, .int v1_9), (2, .int v2_10), (3, .int v3_5), (4, .int v4_11)] → fX8_ask_L2 z_1 v3_5 fu v1_9 v2_10 v4_11 = some z → (∀ (H : Heap) (locs : List Loc) (ls : Array Slot), Nw E s (AD (wX8 E adc c_now c_read c_past c_deeds c_images c_isKept c_text c_letters c_at c_token c_tokenAt c_value c_facts c_seen c_seenAhead c_weakLink c_weakTwos c_which c_views c_whichMany)) (wX8 E adc z_1.1 c_read c_past c_deeds c_images c_isKept c_text c_letters c_at c_token c_tokenAt c_value c_facts c_seen c_seenAhead c_weakLink c_weakTwos z_1.2.1 z_1.2.2.1 z_1.2.2.2) H locs → lv_has ls 7 [(0, .ref (adc 0)), (1, .int z.1), (2, .int z.2.1), (3, .int v3_5), (4, .int z.2.2)] → WN p l e 6 141 s m args below meth c E (wX8 E adc c_now c_read c_past c_deeds c_images c_isKept c_text c_letters c_at c_token c_tokenAt c_value c_facts c_seen c_seenAhead c_weakLink c_weakTwos c_which c_views c_whichMany) (some (.int z0.1)) (wX8 E adc z0.2.1 c_read c_past c_deeds c_images c_isKept c_text c_letters c_at c_token c_tokenAt c_value c_facts c_seen c_seenAhead c_weakLink c_weakTwos z0.2.2.1 z0.2.2.2.1 z0.2.2.2.2) H locs (F0 m 164 ls [])) → WN p l e 6 141 s m args below meth c E (wX8 E adc c_now c_read c_past c_deeds c_images c_isKept c_text c_letters c_at c_token c_tokenAt c_value c_facts c_seen c_seenAhead c_weakLink c_weakTwos c_which c_views c_whichMany) (some (.int z0.1)) (wX8 E adc z0.2.1 c_read c_past c_deeds c_images c_isKept c_text c_letters c_at c_token c_tokenAt c_value c_facts c_seen c_seenAhead c_weakLink c_weakTwos z0.2.2.1 z0.2.2.2.1 z0.2.2.2.2) H locs (F0 m 39 ls []) := by
            intro fu
            induction fu with
            | zero =>
              intro v1_9 v2_10 v4_11 z H locs ls hN hl h K
              cases (show (none : Option (Int32 × Int32 × Int32)) = some z from h)
            | succ fu ih =>
              intro v1_9 v2_10 v4_11 z H locs ls hN hl h K
              rw [fX8_ask_L2.eq_2] at h
              refine lv_iload hx hb dX8_ask_39 (lv_at hl 4 rfl) ?_
              refine lv_aload_n hx hb dX8_ask_41 rfl (lv_at hl 0 rfl) ?_
              refine gt_X8_now hC hN 0 rfl rfl dX8_ask_42 ?_
              refine lv_iconst (v := 1) hx hb dX8_ask_45 rfl ?_
              have g := inB_vp (gd_c h)
              have h := gd_e h
              refine n_iald hC hN 1 rfl g dX8_ask_46 ?_
              refine lv_icmp_ge (tgt := 164) hx hb dX8_ask_47 (by decide) (fun c12 => ?_) (fun c12 => ?_)
              · have h := if_t h c12
                obtain rfl := Option.some.inj h
                exact K _ _ _ hN (lv_sub hl [0, 1, 2, 3, 4] rfl)
              · have h := if_f h c12
                refine lv_iconst (v := 0) hx hb dX8_ask_50 rfl ?_
                refine lv_istore (lv' := [(5, .int 0), (0, .ref (adc 0)), (1, .int v1_9), (2, .int v2_10), (3, .int v3_5), (4, .int v4_11)]) hx hb dX8_ask_51 hl (by decide) rfl (fun ls hl => ?_)
                refine lv_iconst (v := 0) hx hb dX8_ask_53 rfl ?_
                refine lv_istore (lv' := [(6, .int 0), (5, .int 0), (0, .ref (adc 0)), (1, .int v1_9), (2, .int v2_10), (3, .int v3_5), (4, .int v4_11)]) hx hb dX8_ask_54 hl (by decide) rfl (fun ls hl => ?_)
                have L3 : ∀ (fu : Nat) (v5_13 : Int32) (v6_14 : Int32) (z : Int32 × Int32) (H : Heap) (locs : List Loc) (ls : Array Slot), Nw E s (AD (wX8 E adc c_now c_read c_past c_deeds c_images c_isKept c_text c_letters c_at c_token c_tokenAt c_value c_facts c_seen c_seenAhead c_weakLink c_weakTwos c_which c_views c_whichMany)) (wX8 E adc z_1.1 c_read c_past c_deeds c_images c_isKept c_text c_letters c_at c_token c_tokenAt c_value c_facts c_seen c_seenAhead c_weakLink c_weakTwos z_1.2.1 z_1.2.2.1 z_1.2.2.2) H locs → lv_has ls 7 [(0, .ref (adc 0)), (1, .int v1_9), (2, .int v2_10), (3, .int v3_5), (4, .int v4_11), (5, .int v5_13), (6, .int v6_14)] → fX8_ask_L3 z_1 v3_5 v4_11 fu v5_13 v6_14 = some z → (∀ (H : Heap) (locs : List Loc) (ls : Array Slot), Nw E s (AD (wX8 E adc c_now c_read c_past c_deeds c_images c_isKept c_text c_letters c_at c_token c_tokenAt c_value c_facts c_seen c_seenAhead c_weakLink c_weakTwos c_which c_views c_whichMany)) (wX8 E adc z_1.1 c_read c_past c_deeds c_images c_isKept c_text c_letters c_at c_token c_tokenAt c_value c_facts c_seen c_seenAhead c_weakLink c_weakTwos z_1.2.1 z_1.2.2.1 z_1.2.2.2) H locs → lv_has ls 7 [(0, .ref (adc 0)), (1, .int v1_9), (2, .int v2_10), (3, .int v3_5), (4, .int v4_11), (5, .int z.1), (6, .int z.2)] → WN p l e 6 141 s m args below meth c E (wX8 E adc c_now c_read c_past c_deeds c_images c_isKept c_text c_letters c_at c_token c_tokenAt c_value c_facts c_seen c_seenAhead c_weakLink c_weakTwos c_which c_views c_whichMany) (some (.int z0.1)) (wX8 E adc z0.2.1 c_read c_past c_deeds c_images c_isKept c_text c_letters c_at c_token c_tokenAt c_value c_facts c_seen c_seenAhead c_weakLink c_weakTwos z0.2.2.1 z0.2.2.2.1 z0.2.2.2.2) H locs (F0 m 101 ls [])) → WN p l e 6 141 s m args below meth c E (wX8 E adc c_now c_read c_past c_deeds c_images c_isKept c_text c_letters c_at c_token c_tokenAt c_value c_facts c_seen c_seenAhead c_weakLink c_weakTwos c_which c_views c_whichMany) (some (.int z0.1)) (wX8 E adc z0.2.1 c_read c_past c_deeds c_images c_isKept c_text c_letters c_at c_token c_tokenAt c_value c_facts c_seen c_seenAhead c_weakLink c_weakTwos z0.2.2.1 z0.2.2.2.1 z0.2.2.2.2) H locs (F0 m 56 ls []) := by
                  intro fu
                  induction fu with
                  | zero =>
                    intro v5_13 v6_14 z H locs ls hN hl h K
                    cases (show (none : Option (Int32 × Int32)) = some z from h)
                  | succ fu ih =>
                    intro v5_13 v6_14 z H locs ls hN hl h K
                    rw [fX8_ask_L3.eq_2] at h
                    refine lv_iload hx hb dX8_ask_56 (lv_at hl 6 rfl) ?_
                    refine lv_aload_n hx hb dX8_ask_58 rfl (lv_at hl 0 rfl) ?_
                    refine gt_X8_whichMany hC hN 0 rfl rfl dX8_ask_59 ?_
                    refine lv_icmp_ge (tgt := 101) hx hb dX8_ask_62 (by decide) (fun c15 => ?_) (fun c15 => ?_)
                    · have h := if_t h c15
                      obtain rfl := Option.some.inj h
                      exact K _ _ _ hN (lv_sub hl [0, 1, 2, 3, 4, 5, 6] rfl)
                    · have h := if_f h c15
                      refine lv_iload hx hb dX8_ask_65 (lv_at hl 5 rfl) ?_
                      refine lv_aload_n hx hb dX8_ask_67 rfl (lv_at hl 0 rfl) ?_
                      refine gt_X8_views hC hN 0 rfl rfl dX8_ask_68 ?_
                      refine lv_bipush (v := 8) hx hb dX8_ask_71 (by decide) ?_
                      refine lv_iload hx hb dX8_ask_73 (lv_at hl 6 rfl) ?_
                      refine lv_imul hx hb dX8_ask_75 ?_
                      refine lv_iload_n hx hb dX8_ask_76 rfl (lv_at hl 3 rfl) ?_
                      refine lv_iadd hx hb dX8_ask_77 ?_
                      have g := inB_vp (gd_c h)
                      have h := gd_e h
                      refine n_iald hC hN 10 rfl g dX8_ask_78 ?_
                      refine lv_iload hx hb dX8_ask_79 (lv_at hl 4 rfl) ?_
                      obtain ⟨r_16, hr_16, h⟩ := bi_e h
                      refine n_callSi (ws' := wX8 E adc z_1.1 c_read c_past c_deeds c_images c_isKept c_text c_letters c_at c_token c_tokenAt c_value c_facts c_seen c_seenAhead c_weakLink c_weakTwos z_1.2.1 z_1.2.2.1 z_1.2.2.2) hC hN (tX8_has l E (z_1.2.2.1 ((8 * v6_14) + v3_5).toNatClampNeg) v4_11 r_16 hr_16) cy_X8_has mML_X8_102 mST_X8_has (perm_nil _) (perm_nil _) rfl rfl hl.1 rfl (Nat.le_of_ble_eq_true rfl) dX8_ask_81 ⟨Nat.le_of_ble_eq_true rfl, Nat.le_of_ble_eq_true rfl⟩ ⟨Nat.le_refl _, Nat.le_refl _⟩ (fun H locs hN => ?_)
                      refine lv_if_eq (tgt := 91) hx hb dX8_ask_84 (by decide) (fun c17 => ?_) (fun c17 => ?_)
                      · have h := if_t h c17
                        refine lv_iconst (v := 0) hx hb dX8_ask_91 rfl ?_
                        refine lv_iadd hx hb dX8_ask_92 ?_
                        refine lv_topi (fun v5_18 ev5_18 => ?_)
                        have h := bd_e h v5_18 ev5_18
                        refine lv_istore (lv' := [(5, .int v5_18), (0, .ref (adc 0)), (1, .int v1_9), (2, .int v2_10), (3, .int v3_5), (4, .int v4_11), (6, .int v6_14)]) hx hb dX8_ask_93 hl (by decide) rfl (fun ls hl => ?_)
                        obtain ⟨v6_19, ev6_19⟩ : ∃ y : Int32, y = v6_14 + 1 := ⟨_, rfl⟩
                        have h := bd_e h v6_19 ev6_19
                        refine lv_iinc (v := v6_19) (lv' := [(6, .int v6_19), (5, .int v5_18), (0, .ref (adc 0)), (1, .int v1_9), (2, .int v2_10), (3, .int v3_5), (4, .int v4_11)]) hx hb dX8_ask_95 hl (k := 6) rfl (by rw [ev6_19]; rfl) (by decide) rfl (fun ls hl => ?_)
                        refine lv_goto (tgt := 56) hx hb dX8_ask_98 (by decide) ?_
                        exact ih v5_18 v6_19 z _ _ _ hN (lv_sub hl [2, 3, 4, 5, 6, 1, 0] rfl) h K
                      · have h := if_f h c17
                        refine lv_iconst (v := 1) hx hb dX8_ask_87 rfl ?_
                        refine lv_goto (tgt := 92) hx hb dX8_ask_88 (by decide) ?_
                        refine lv_iadd hx hb dX8_ask_92 ?_
                        refine lv_topi (fun v5_20 ev5_20 => ?_)
                        have h := bd_e h v5_20 ev5_20
                        refine lv_istore (lv' := [(5, .int v5_20), (0, .ref (adc 0)), (1, .int v1_9), (2, .int v2_10), (3, .int v3_5), (4, .int v4_11), (6, .int v6_14)]) hx hb dX8_ask_93 hl (by decide) rfl (fun ls hl => ?_)
                        obtain ⟨v6_21, ev6_21⟩ : ∃ y : Int32, y = v6_14 + 1 := ⟨_, rfl⟩
                        have h := bd_e h v6_21 ev6_21
                        refine lv_iinc (v := v6_21) (lv' := [(6, .int v6_21), (5, .int v5_20), (0, .ref (adc 0)), (1, .int v1_9), (2, .int v2_10), (3, .int v3_5), (4, .int v4_11)]) hx hb dX8_ask_95 hl (k := 6) rfl (by rw [ev6_21]; rfl) (by decide) rfl (fun ls hl => ?_)
                        refine lv_goto (tgt := 56) hx hb dX8_ask_98 (by decide) ?_
                        exact ih v5_20 v6_21 z _ _ _ hN (lv_sub hl [2, 3, 4, 5, 6, 1, 0] rfl) h K
                obtain ⟨z_22, hz_22, h⟩ := bi_e h
                refine L3 500 0 0 z_22 _ _ _ hN (lv_sub hl [2, 3, 4, 5, 6, 1, 0] rfl) hz_22 (fun H locs ls hN hl => ?_)
                refine lv_iload hx hb dX8_ask_101 (lv_at hl 5 rfl) ?_
                refine lv_aload_n hx hb dX8_ask_103 rfl (lv_at hl 0 rfl) ?_
                refine gt_X8_whichMany hC hN 0 rfl rfl dX8_ask_104 ?_
                refine lv_iload hx hb dX8_ask_107 (lv_at hl 5 rfl) ?_
                refine lv_isub hx hb dX8_ask_109 ?_
                refine lv_icmp_le (tgt := 118) hx hb dX8_ask_110 (by decide) (fun c23 => ?_) (fun c23 => ?_)
                · have h := if_t h c23
                  refine lv_aload_n hx hb dX8_ask_118 rfl (lv_at hl 0 rfl) ?_
                  refine gt_X8_whichMany hC hN 0 rfl rfl dX8_ask_119 ?_
                  refine lv_iload hx hb dX8_ask_122 (lv_at hl 5 rfl) ?_
                  refine lv_isub hx hb dX8_ask_124 ?_
                  refine lv_topi (fun v6_24 ev6_24 => ?_)
                  have h := bd_e h v6_24 ev6_24
                  refine lv_istore (lv' := [(6, .int v6_24), (0, .ref (adc 0)), (1, .int v1_9), (2, .int v2_10), (3, .int v3_5), (4, .int v4_11), (5, .int z_22.1)]) hx hb dX8_ask_125 hl (by decide) rfl (fun ls hl => ?_)
                  refine lv_iload hx hb dX8_ask_127 (lv_at hl 0 rfl) ?_
                  refine lv_iload_n hx hb dX8_ask_129 rfl (lv_at hl 3 rfl) ?_
                  refine lv_icmp_ge (tgt := 143) hx hb dX8_ask_130 (by decide) (fun c25 => ?_) (fun c25 => ?_)
                  · have h := if_t h c25
                    refine lv_iload_n hx hb dX8_ask_143 rfl (lv_at hl 2 rfl) ?_
                    refine lv_istore_n (lv' := [(1, .int v1_9), (6, .int v6_24), (0, .ref (adc 0)), (2, .int v2_10), (3, .int v3_5), (4, .int v4_11), (5, .int z_22.1)]) hx hb dX8_ask_144 rfl hl (by decide) rfl (fun ls hl => ?_)
                    refine lv_iload hx hb dX8_ask_145 (lv_at hl 1 rfl) ?_
                    refine lv_iload_n hx hb dX8_ask_147 rfl (lv_at hl 3 rfl) ?_
                    refine lv_icmp_ge (tgt := 156) hx hb dX8_ask_148 (by decide) (fun c26 => ?_) (fun c26 => ?_)
                    · have h := if_t h c26
                      refine lv_iload_n hx hb dX8_ask_156 rfl (lv_at hl 3 rfl) ?_
                      refine lv_istore_n (lv' := [(2, .int v2_10), (1, .int v1_9), (6, .int v6_24), (0, .ref (adc 0)), (3, .int v3_5), (4, .int v4_11), (5, .int z_22.1)]) hx hb dX8_ask_157 rfl hl (by decide) rfl (fun ls hl => ?_)
                      obtain ⟨v4_27, ev4_27⟩ : ∃ y : Int32, y = v4_11 + 1 := ⟨_, rfl⟩
                      have h := bd_e h v4_27 ev4_27
                      refine lv_iinc (v := v4_27) (lv' := [(4, .int v4_27), (2, .int v2_10), (1, .int v1_9), (6, .int v6_24), (0, .ref (adc 0)), (3, .int v3_5), (5, .int z_22.1)]) hx hb dX8_ask_158 hl (k := 5) rfl (by rw [ev4_27]; rfl) (by decide) rfl (fun ls hl => ?_)
                      refine lv_goto (tgt := 39) hx hb dX8_ask_161 (by decide) ?_
                      exact ih v1_9 v2_10 v4_27 z _ _ _ hN (lv_sub hl [4, 2, 1, 5, 0] rfl) h K
                    · have h := if_f h c26
                      refine lv_iload hx hb dX8_ask_151 (lv_at hl 1 rfl) ?_
                      refine lv_goto (tgt := 157) hx hb dX8_ask_153 (by decide) ?_
                      refine lv_istore_n (lv' := [(2, .int v6_24), (1, .int v1_9), (6, .int v6_24), (0, .ref (adc 0)), (3, .int v3_5), (4, .int v4_11), (5, .int z_22.1)]) hx hb dX8_ask_157 rfl hl (by decide) rfl (fun ls hl => ?_)
                      obtain ⟨v4_28, ev4_28⟩ : ∃ y : Int32, y = v4_11 + 1 := ⟨_, rfl⟩
                      have h := bd_e h v4_28 ev4_28
                      refine lv_iinc (v := v4_28) (lv' := [(4, .int v4_28), (2, .int v6_24), (1, .int v1_9), (6, .int v6_24), (0, .ref (adc 0)), (3, .int v3_5), (5, .int z_22.1)]) hx hb dX8_ask_158 hl (k := 5) rfl (by rw [ev4_28]; rfl) (by decide) rfl (fun ls hl => ?_)
                      refine lv_goto (tgt := 39) hx hb dX8_ask_161 (by decide) ?_
                      exact ih v1_9 v6_24 v4_28 z _ _ _ hN (lv_sub hl [4, 2, 1, 5, 0] rfl) h K
                  · have h := if_f h c25
                    refine lv_bipush (v := 10) hx hb dX8_ask_133 (by decide) ?_
                    refine lv_iload_n hx hb dX8_ask_135 rfl (lv_at hl 4 rfl) ?_
                    refine lv_imul hx hb dX8_ask_136 ?_
                    refine lv_iload hx hb dX8_ask_137 (lv_at hl 5 rfl) ?_
                    refine lv_iadd hx hb dX8_ask_139 ?_
                    refine lv_goto (tgt := 144) hx hb dX8_ask_140 (by decide) ?_
                    refine lv_topi (fun v1_29 ev1_29 => ?_)
                    have h := bd_e h v1_29 ev1_29
                    refine lv_istore_n (lv' := [(1, .int v1_29), (6, .int v6_24), (0, .ref (adc 0)), (2, .int v2_10), (3, .int v3_5), (4, .int v4_11), (5, .int z_22.1)]) hx hb dX8_ask_144 rfl hl (by decide) rfl (fun ls hl => ?_)
                    refine lv_iload hx hb dX8_ask_145 (lv_at hl 1 rfl) ?_
                    refine lv_iload_n hx hb dX8_ask_147 rfl (lv_at hl 3 rfl) ?_
                    refine lv_icmp_ge (tgt := 156) hx hb dX8_ask_148 (by decide) (fun c30 => ?_) (fun c30 => ?_)
                    · have h := if_t h c30
                      refine lv_iload_n hx hb dX8_ask_156 rfl (lv_at hl 3 rfl) ?_
                      refine lv_istore_n (lv' := [(2, .int v2_10), (1, .int v1_29), (6, .int v6_24), (0, .ref (adc 0)), (3, .int v3_5), (4, .int v4_11), (5, .int z_22.1)]) hx hb dX8_ask_157 rfl hl (by decide) rfl (fun ls hl => ?_)
                      obtain ⟨v4_31, ev4_31⟩ : ∃ y : Int32, y = v4_11 + 1 := ⟨_, rfl⟩
                      have h := bd_e h v4_31 ev4_31
                      refine lv_iinc (v := v4_31) (lv' := [(4, .int v4_31), (2, .int v2_10), (1, .int v1_29), (6, .int v6_24), (0, .ref (adc 0)), (3, .int v3_5), (5, .int z_22.1)]) hx hb dX8_ask_158 hl (k := 5) rfl (by rw [ev4_31]; rfl) (by decide) rfl (fun ls hl => ?_)
                      refine lv_goto (tgt := 39) hx hb dX8_ask_161 (by decide) ?_
                      exact ih v1_29 v2_10 v4_31 z _ _ _ hN (lv_sub hl [4, 2, 1, 5, 0] rfl) h K
                    · have h := if_f h c30
                      refine lv_iload hx hb dX8_ask_151 (lv_at hl 1 rfl) ?_
                      refine lv_goto (tgt := 157) hx hb dX8_ask_153 (by decide) ?_
                      refine lv_istore_n (lv' := [(2, .int v6_24), (1, .int v1_29), (6, .int v6_24), (0, .ref (adc 0)), (3, .int v3_5), (4, .int v4_11), (5, .int z_22.1)]) hx hb dX8_ask_157 rfl hl (by decide) rfl (fun ls hl => ?_)
                      obtain ⟨v4_32, ev4_32⟩ : ∃ y : Int32, y = v4_11 + 1 := ⟨_, rfl⟩
                      have h := bd_e h v4_32 ev4_32
                      refine lv_iinc (v := v4_32) (lv' := [(4, .int v4_32), (2, .int v6_24), (1, .int v1_29), (6, .int v6_24), (0, .ref (adc 0)), (3, .int v3_5), (5, .int z_22.1)]) hx hb dX8_ask_158 hl (k := 5) rfl (by rw [ev4_32]; rfl) (by decide) rfl (fun ls hl => ?_)
                      refine lv_goto (tgt := 39) hx hb dX8_ask_161 (by decide) ?_
                      exact ih v1_29 v6_24 v4_32 z _ _ _ hN (lv_sub hl [4, 2, 1, 5, 0] rfl) h K
                · have h := if_f h c23
                  refine lv_iload hx hb dX8_ask_113 (lv_at hl 5 rfl) ?_
                  refine lv_goto (tgt := 125) hx hb dX8_ask_115 (by decide) ?_
                  refine lv_istore (lv' := [(6, .int z_22.1), (0, .ref (adc 0)), (1, .int v1_9), (2, .int v2_10), (3, .int v3_5), (4, .int v4_11), (5, .int z_22.1)]) hx hb dX8_ask_125 hl (by decide) rfl (fun ls hl => ?_)
                  refine lv_iload hx hb dX8_ask_127 (lv_at hl 0 rfl) ?_
                  refine lv_iload_n hx hb dX8_ask_129 rfl (lv_at hl 3 rfl) ?_
                  refine lv_icmp_ge (tgt := 143) hx hb dX8_ask_130 (by decide) (fun c33 => ?_) (fun c33 => ?_)
                  · have h := if_t h c33
                    refine lv_iload_n hx hb dX8_ask_143 rfl (lv_at hl 2 rfl) ?_
                    refine lv_istore_n (lv' := [(1, .int v1_9), (6, .int z_22.1), (0, .ref (adc 0)), (2, .int v2_10), (3, .int v3_5), (4, .int v4_11), (5, .int z_22.1)]) hx hb dX8_ask_144 rfl hl (by decide) rfl (fun ls hl => ?_)
                    refine lv_iload hx hb dX8_ask_145 (lv_at hl 1 rfl) ?_
                    refine lv_iload_n hx hb dX8_ask_147 rfl (lv_at hl 3 rfl) ?_
                    refine lv_icmp_ge (tgt := 156) hx hb dX8_ask_148 (by decide) (fun c34 => ?_) (fun c34 => ?_)
                    · have h := if_t h c34
                      refine lv_iload_n hx hb dX8_ask_156 rfl (lv_at hl 3 rfl) ?_
                      refine lv_istore_n (lv' := [(2, .int v2_10), (1, .int v1_9), (6, .int z_22.1), (0, .ref (adc 0)), (3, .int v3_5), (4, .int v4_11), (5, .int z_22.1)]) hx hb dX8_ask_157 rfl hl (by decide) rfl (fun ls hl => ?_)
                      obtain ⟨v4_35, ev4_35⟩ : ∃ y : Int32, y = v4_11 + 1 := ⟨_, rfl⟩
                      have h := bd_e h v4_35 ev4_35
                      refine lv_iinc (v := v4_35) (lv' := [(4, .int v4_35), (2, .int v2_10), (1, .int v1_9), (6, .int z_22.1), (0, .ref (adc 0)), (3, .int v3_5), (5, .int z_22.1)]) hx hb dX8_ask_158 hl (k := 5) rfl (by rw [ev4_35]; rfl) (by decide) rfl (fun ls hl => ?_)
                      refine lv_goto (tgt := 39) hx hb dX8_ask_161 (by decide) ?_
                      exact ih v1_9 v2_10 v4_35 z _ _ _ hN (lv_sub hl [4, 2, 1, 5, 0] rfl) h K
                    · have h := if_f h c34
                      refine lv_iload hx hb dX8_ask_151 (lv_at hl 1 rfl) ?_
                      refine lv_goto (tgt := 157) hx hb dX8_ask_153 (by decide) ?_
                      refine lv_istore_n (lv' := [(2, .int z_22.1), (1, .int v1_9), (6, .int z_22.1), (0, .ref (adc 0)), (3, .int v3_5), (4, .int v4_11), (5, .int z_22.1)]) hx hb dX8_ask_157 rfl hl (by decide) rfl (fun ls hl => ?_)
                      obtain ⟨v4_36, ev4_36⟩ : ∃ y : Int32, y = v4_11 + 1 := ⟨_, rfl⟩
                      have h := bd_e h v4_36 ev4_36
                      refine lv_iinc (v := v4_36) (lv' := [(4, .int v4_36), (2, .int z_22.1), (1, .int v1_9), (6, .int z_22.1), (0, .ref (adc 0)), (3, .int v3_5), (5, .int z_22.1)]) hx hb dX8_ask_158 hl (k := 5) rfl (by rw [ev4_36]; rfl) (by decide) rfl (fun ls hl => ?_)
                      refine lv_goto (tgt := 39) hx hb dX8_ask_161 (by decide) ?_
                      exact ih v1_9 z_22.1 v4_36 z _ _ _ hN (lv_sub hl [4, 2, 1, 5, 0] rfl) h K
                  · have h := if_f h c33
                    refine lv_bipush (v := 10) hx hb dX8_ask_133 (by decide) ?_
                    refine lv_iload_n hx hb dX8_ask_135 rfl (lv_at hl 4 rfl) ?_
                    refine lv_imul hx hb dX8_ask_136 ?_
                    refine lv_iload hx hb dX8_ask_137 (lv_at hl 5 rfl) ?_
                    refine lv_iadd hx hb dX8_ask_139 ?_
                    refine lv_goto (tgt := 144) hx hb dX8_ask_140 (by decide) ?_
                    refine lv_topi (fun v1_37 ev1_37 => ?_)
                    have h := bd_e h v1_37 ev1_37
                    refine lv_istore_n (lv' := [(1, .int v1_37), (6, .int z_22.1), (0, .ref (adc 0)), (2, .int v2_10), (3, .int v3_5), (4, .int v4_11), (5, .int z_22.1)]) hx hb dX8_ask_144 rfl hl (by decide) rfl (fun ls hl => ?_)
                    refine lv_iload hx hb dX8_ask_145 (lv_at hl 1 rfl) ?_
                    refine lv_iload_n hx hb dX8_ask_147 rfl (lv_at hl 3 rfl) ?_
                    refine lv_icmp_ge (tgt := 156) hx hb dX8_ask_148 (by decide) (fun c38 => ?_) (fun c38 => ?_)
                    · have h := if_t h c38
                      refine lv_iload_n hx hb dX8_ask_156 rfl (lv_at hl 3 rfl) ?_
                      refine lv_istore_n (lv' := [(2, .int v2_10), (1, .int v1_37), (6, .int z_22.1), (0, .ref (adc 0)), (3, .int v3_5), (4, .int v4_11), (5, .int z_22.1)]) hx hb dX8_ask_157 rfl hl (by decide) rfl (fun ls hl => ?_)
                      obtain ⟨v4_39, ev4_39⟩ : ∃ y : Int32, y = v4_11 + 1 := ⟨_, rfl⟩
                      have h := bd_e h v4_39 ev4_39
                      refine lv_iinc (v := v4_39) (lv' := [(4, .int v4_39), (2, .int v2_10), (1, .int v1_37), (6, .int z_22.1), (0, .ref (adc 0)), (3, .int v3_5), (5, .int z_22.1)]) hx hb dX8_ask_158 hl (k := 5) rfl (by rw [ev4_39]; rfl) (by decide) rfl (fun ls hl => ?_)
                      refine lv_goto (tgt := 39) hx hb dX8_ask_161 (by decide) ?_
                      exact ih v1_37 v2_10 v4_39 z _ _ _ hN (lv_sub hl [4, 2, 1, 5, 0] rfl) h K
                    · have h := if_f h c38
                      refine lv_iload hx hb dX8_ask_151 (lv_at hl 1 rfl) ?_
                      refine lv_goto (tgt := 157) hx hb dX8_ask_153 (by decide) ?_
                      refine lv_istore_n (lv' := [(2, .int z_22.1), (1, .int v1_37), (6, .int z_22.1), (0, .ref (adc 0)), (3, .int v3_5), (4, .int v4_11), (5, .int z_22.1)]) hx hb dX8_ask_157 rfl hl (by decide) rfl (fun ls hl => ?_)
                      obtain ⟨v4_40, ev4_40⟩ : ∃ y : Int32, y = v4_11 + 1 := ⟨_, rfl⟩
                      have h := bd_e h v4_40 ev4_40
                      refine lv_iinc (v := v4_40) (lv' := [(4, .int v4_40), (2, .int z_22.1), (1, .int v1_37), (6, .int z_22.1), (0, .ref (adc 0)), (3, .int v3_5), (5, .int z_22.1)]) hx hb dX8_ask_158 hl (k := 5) rfl (by rw [ev4_40]; rfl) (by decide) rfl (fun ls hl => ?_)
                      refine lv_goto (tgt := 39) hx hb dX8_ask_161 (by decide) ?_
                      exact ih v1_37 z_22.1 v4_40 z _ _ _ hN (lv_sub hl [4, 2, 1, 5, 0] rfl) h K
          obtain ⟨z_41, hz_41, h⟩ := bi_e h
          refine L2 500 v1_3 v2_4 v4_8 z_41 _ _ _ hN (lv_sub hl [1, 2, 3, 4, 0] rfl) hz_41 (fun H locs ls hN hl => ?_)
          obtain ⟨v3_42, ev3_42⟩ : ∃ y : Int32, y = v3_5 + 1 := ⟨_, rfl⟩
          have h := bd_e h v3_42 ev3_42
          refine lv_iinc (v := v3_42) (lv' := [(3, .int v3_42), (0, .ref (adc 0)), (1, .int z_41.1), (2, .int z_41.2.1), (4, .int z_41.2.2)]) hx hb dX8_ask_164 hl (k := 3) rfl (by rw [ev3_42]; rfl) (by decide) rfl (fun ls hl => ?_)
          refine lv_goto (tgt := 16) hx hb dX8_ask_167 (by decide) ?_
          exact ih z_41.1 z_41.2.1 v3_42 z _ _ _ hN (lv_sub hl [1, 2, 3, 0] rfl) h K
  obtain ⟨z_43, hz_43, h⟩ := bi_e h
  refine L1 500 (-9) v2_2 0 z_43 _ _ _ hN (lv_sub hl [3, 2, 1, 0] rfl) hz_43 (fun H locs ls hN hl => ?_)
  refine lv_iload_n hx hb dX8_ask_170 rfl (lv_at hl 1 rfl) ?_
  obtain rfl := Option.some.inj h
  exact n_iret hC hN dX8_ask_171
set_option maxHeartbeats 4000000 in
set_option maxRecDepth 100000 in
theorem tX8_keep (l : Launch) (E : EV) (adc : Nat → Nat) (c_now : Nat → Int32) (c_read : Nat → Int32) (c_past : Nat → Int32) (c_deeds : Int32) (c_images : Nat → Int32) (c_isKept : Nat → Int32) (c_text : Nat → Int32) (c_letters : Int32) (c_at : Int32) (c_token : Int32) (c_tokenAt : Int32) (c_value : Int32) (c_facts : Nat → Int32) (c_seen : Int32) (c_seenAhead : Nat → Int32) (c_weakLink : Int32) (c_weakTwos : Int32) (c_which : Nat → Int32) (c_views : Nat → Int32) (c_whichMany : Int32) (p1 : Int32) (z : Int32 × (Nat → Int32) × (Nat → Int32)) (h : fX8_keep c_now c_images c_isKept p1 = some z) : Cn l E yX8_keep cX8_keep 2 (some .int) 5 110 [.ref (adc 0), .int p1] (wX8 E adc c_now c_read c_past c_deeds c_images c_isKept c_text c_letters c_at c_token c_tokenAt c_value c_facts c_seen c_seenAhead c_weakLink c_weakTwos c_which c_views c_whichMany) (wX8 E adc c_now c_read c_past c_deeds z.2.1 z.2.2 c_text c_letters c_at c_token c_tokenAt c_value c_facts c_seen c_seenAhead c_weakLink c_weakTwos c_which c_views c_whichMany) (some (.int z.1)) := by
  refine Cn.ofW (by decide +kernel) (Nat.le_of_ble_eq_true rfl) ?_
  intro p e s m args below meth c ls hC hN hl
  have hl : lv_has ls 2 [(0, .ref (adc 0)), (1, .int p1)] := hl
  have hx := hC.1
  have hb := hC.2.1
  unfold fX8_keep at h
  refine lv_iload_n hx hb dX8_keep_0 rfl (lv_at hl 1 rfl) ?_
  refine lv_iconst (v := 0) hx hb dX8_keep_1 rfl ?_
  refine lv_iconst (v := 1) hx hb dX8_keep_2 rfl ?_
  obtain ⟨r_1, hr_1, h⟩ := bi_e h
  refine n_callSi (ws' := wX8 E adc c_now c_read c_past c_deeds c_images c_isKept c_text c_letters c_at c_token c_tokenAt c_value c_facts c_seen c_seenAhead c_weakLink c_weakTwos c_which c_views c_whichMany) hC hN (tX8_in l E p1 0 1 r_1 hr_1) cy_X8_in mML_X8_55 mST_X8_in (perm_nil _) (perm_nil _) rfl rfl hl.1 rfl (Nat.le_of_ble_eq_true rfl) dX8_keep_3 ⟨Nat.le_of_ble_eq_true rfl, Nat.le_of_ble_eq_true rfl⟩ ⟨Nat.le_refl _, Nat.le_refl _⟩ (fun H locs hN => ?_)
  refine lv_if_ne (tgt := 11) hx hb dX8_keep_6 (by decide) (fun c2 => ?_) (fun c2 => ?_)
  · have h := if_f h c2
    refine lv_aload_n hx hb dX8_keep_11 rfl (lv_at hl 0 rfl) ?_
    refine gt_X8_now hC hN 0 rfl rfl dX8_keep_12 ?_
    refine lv_iconst (v := 0) hx hb dX8_keep_15 rfl ?_
    refine lv_aload_n hx hb dX8_keep_16 rfl (lv_at hl 0 rfl) ?_
    refine gt_X8_images hC hN 0 rfl rfl dX8_keep_17 ?_
    refine lv_bipush (v := 87) hx hb dX8_keep_20 (by decide) ?_
    refine lv_iload_n hx hb dX8_keep_22 rfl (lv_at hl 1 rfl) ?_
    refine lv_imul hx hb dX8_keep_23 ?_
    obtain ⟨z_3, hz_3, h⟩ := bi_e h
    refine n_callSv (ws' := wX8 E adc c_now c_read c_past c_deeds z_3 c_isKept c_text c_letters c_at c_token c_tokenAt c_value c_facts c_seen c_seenAhead c_weakLink c_weakTwos c_which c_views c_whichMany) hC hN (tX8_bring l E (adc 1) 87 (adc 4) 174 c_now c_images 0 (87 * p1) z_3 hz_3) cy_X8_bring mML_X8_45 mST_X8_bring (pl_perm (wX8 E adc c_now c_read c_past c_deeds c_images c_isKept c_text c_letters c_at c_token c_tokenAt c_value c_facts c_seen c_seenAhead c_weakLink c_weakTwos c_which c_views c_whichMany) 11 rfl [1, 4] [0, 2, 3, 5, 6, 7, 8, 9, 10] (by decide)) (pl_perm (wX8 E adc c_now c_read c_past c_deeds z_3 c_isKept c_text c_letters c_at c_token c_tokenAt c_value c_facts c_seen c_seenAhead c_weakLink c_weakTwos c_which c_views c_whichMany) 11 rfl [1, 4] [0, 2, 3, 5, 6, 7, 8, 9, 10] (by decide)) rfl rfl hl.1 rfl (Nat.le_of_ble_eq_true rfl) dX8_keep_24 ⟨Nat.le_of_ble_eq_true rfl, Nat.le_of_ble_eq_true rfl⟩ ⟨Nat.le_refl _, Nat.le_refl _⟩ (fun H locs hN => ?_)
    refine lv_aload_n hx hb dX8_keep_27 rfl (lv_at hl 0 rfl) ?_
    refine gt_X8_isKept hC hN 0 rfl rfl dX8_keep_28 ?_
    refine lv_iload_n hx hb dX8_keep_31 rfl (lv_at hl 1 rfl) ?_
    refine lv_iconst (v := 1) hx hb dX8_keep_32 rfl ?_
    have g := inB_vp (gd_c h)
    have h := gd_e h
    obtain ⟨c_isKept_4, ec_isKept_4⟩ : ∃ y : Nat → Int32, y = upd c_isKept p1.toNatClampNeg 1 := ⟨_, rfl⟩
    have h := bd_e h c_isKept_4 ec_isKept_4
    refine n_zast hC hN 5 rfl g ec_isKept_4 (ws' := wX8 E adc c_now c_read c_past c_deeds z_3 c_isKept_4 c_text c_letters c_at c_token c_tokenAt c_value c_facts c_seen c_seenAhead c_weakLink c_weakTwos c_which c_views c_whichMany) rfl dX8_keep_33 (fun H locs hN => ?_)
    refine lv_aload_n hx hb dX8_keep_34 rfl (lv_at hl 0 rfl) ?_
    obtain ⟨r_5, hr_5, h⟩ := bi_e h
    refine n_callVi (ws' := wX8 E adc c_now c_read c_past c_deeds z_3 c_isKept_4 c_text c_letters c_at c_token c_tokenAt c_value c_facts c_seen c_seenAhead c_weakLink c_weakTwos c_which c_views c_whichMany) hC hN (tX8_fabrics l E adc c_now c_read c_past c_deeds z_3 c_isKept_4 c_text c_letters c_at c_token c_tokenAt c_value c_facts c_seen c_seenAhead c_weakLink c_weakTwos c_which c_views c_whichMany r_5 hr_5) cy_X8_fabrics mML_X8_178 mIM_X8_fabrics mSE_X8_fabrics rfl rfl (k := 0) rfl (perm_self _) (perm_self _) rfl rfl hl.1 rfl (Nat.le_of_ble_eq_true rfl) dX8_keep_35 ⟨Nat.le_of_ble_eq_true rfl, Nat.le_of_ble_eq_true rfl⟩ ⟨Nat.le_refl _, Nat.le_refl _⟩ (fun H locs hN => ?_)
    obtain rfl := Option.some.inj h
    exact n_iret hC hN dX8_keep_38
  · have h := if_t h c2
    refine lv_iconst (v := -1) hx hb dX8_keep_9 rfl ?_
    obtain rfl := Option.some.inj h
    exact n_iret hC hN dX8_keep_10
set_option maxHeartbeats 4000000 in
set_option maxRecDepth 100000 in
theorem tX8_back (l : Launch) (E : EV) (adc : Nat → Nat) (c_now : Nat → Int32) (c_read : Nat → Int32) (c_past : Nat → Int32) (c_deeds : Int32) (c_images : Nat → Int32) (c_isKept : Nat → Int32) (c_text : Nat → Int32) (c_letters : Int32) (c_at : Int32) (c_token : Int32) (c_tokenAt : Int32) (c_value : Int32) (c_facts : Nat → Int32) (c_seen : Int32) (c_seenAhead : Nat → Int32) (c_weakLink : Int32) (c_weakTwos : Int32) (c_which : Nat → Int32) (c_views : Nat → Int32) (c_whichMany : Int32) (p1 : Int32) (z : Int32 × (Nat → Int32) × Int32) (h : fX8_back c_now c_deeds c_images c_isKept p1 = some z) : Cn l E yX8_back cX8_back 2 (some .int) 5 110 [.ref (adc 0), .int p1] (wX8 E adc c_now c_read c_past c_deeds c_images c_isKept c_text c_letters c_at c_token c_tokenAt c_value c_facts c_seen c_seenAhead c_weakLink c_weakTwos c_which c_views c_whichMany) (wX8 E adc z.2.1 c_read c_past z.2.2 c_images c_isKept c_text c_letters c_at c_token c_tokenAt c_value c_facts c_seen c_seenAhead c_weakLink c_weakTwos c_which c_views c_whichMany) (some (.int z.1)) := by
  refine Cn.ofW (by decide +kernel) (Nat.le_of_ble_eq_true rfl) ?_
  intro p e s m args below meth c ls hC hN hl
  have hl : lv_has ls 2 [(0, .ref (adc 0)), (1, .int p1)] := hl
  have hx := hC.1
  have hb := hC.2.1
  unfold fX8_back at h
  refine lv_iload_n hx hb dX8_back_0 rfl (lv_at hl 1 rfl) ?_
  refine lv_iconst (v := 0) hx hb dX8_back_1 rfl ?_
  refine lv_iconst (v := 1) hx hb dX8_back_2 rfl ?_
  obtain ⟨r_1, hr_1, h⟩ := bi_e h
  refine n_callSi (ws' := wX8 E adc c_now c_read c_past c_deeds c_images c_isKept c_text c_letters c_at c_token c_tokenAt c_value c_facts c_seen c_seenAhead c_weakLink c_weakTwos c_which c_views c_whichMany) hC hN (tX8_in l E p1 0 1 r_1 hr_1) cy_X8_in mML_X8_55 mST_X8_in (perm_nil _) (perm_nil _) rfl rfl hl.1 rfl (Nat.le_of_ble_eq_true rfl) dX8_back_3 ⟨Nat.le_of_ble_eq_true rfl, Nat.le_of_ble_eq_true rfl⟩ ⟨Nat.le_refl _, Nat.le_refl _⟩ (fun H locs hN => ?_)
  refine lv_if_ne (tgt := 11) hx hb dX8_back_6 (by decide) (fun c2 => ?_) (fun c2 => ?_)
  · have h := if_f h c2
    refine lv_aload_n hx hb dX8_back_11 rfl (lv_at hl 0 rfl) ?_
    refine gt_X8_isKept hC hN 0 rfl rfl dX8_back_12 ?_
    refine lv_iload_n hx hb dX8_back_15 rfl (lv_at hl 1 rfl) ?_
    have g := inB_vp (gd_c h)
    have h := gd_e h
    refine n_zald hC hN 5 rfl g dX8_back_16 ?_
    refine lv_if_ne (tgt := 23) hx hb dX8_back_17 (by decide) (fun c3 => ?_) (fun c3 => ?_)
    · have h := if_f h c3
      refine lv_aload_n hx hb dX8_back_23 rfl (lv_at hl 0 rfl) ?_
      refine gt_X8_images hC hN 0 rfl rfl dX8_back_24 ?_
      refine lv_bipush (v := 87) hx hb dX8_back_27 (by decide) ?_
      refine lv_iload_n hx hb dX8_back_29 rfl (lv_at hl 1 rfl) ?_
      refine lv_imul hx hb dX8_back_30 ?_
      refine lv_aload_n hx hb dX8_back_31 rfl (lv_at hl 0 rfl) ?_
      refine gt_X8_now hC hN 0 rfl rfl dX8_back_32 ?_
      refine lv_iconst (v := 0) hx hb dX8_back_35 rfl ?_
      obtain ⟨z_4, hz_4, h⟩ := bi_e h
      refine n_callSv (ws' := wX8 E adc z_4 c_read c_past c_deeds c_images c_isKept c_text c_letters c_at c_token c_tokenAt c_value c_facts c_seen c_seenAhead c_weakLink c_weakTwos c_which c_views c_whichMany) hC hN (tX8_bring l E (adc 4) 174 (adc 1) 87 c_images c_now (87 * p1) 0 z_4 hz_4) cy_X8_bring mML_X8_45 mST_X8_bring (pl_perm (wX8 E adc c_now c_read c_past c_deeds c_images c_isKept c_text c_letters c_at c_token c_tokenAt c_value c_facts c_seen c_seenAhead c_weakLink c_weakTwos c_which c_views c_whichMany) 11 rfl [4, 1] [0, 2, 3, 5, 6, 7, 8, 9, 10] (by decide)) (pl_perm (wX8 E adc z_4 c_read c_past c_deeds c_images c_isKept c_text c_letters c_at c_token c_tokenAt c_value c_facts c_seen c_seenAhead c_weakLink c_weakTwos c_which c_views c_whichMany) 11 rfl [4, 1] [0, 2, 3, 5, 6, 7, 8, 9, 10] (by decide)) rfl rfl hl.1 rfl (Nat.le_of_ble_eq_true rfl) dX8_back_36 ⟨Nat.le_of_ble_eq_true rfl, Nat.le_of_ble_eq_true rfl⟩ ⟨Nat.le_refl _, Nat.le_refl _⟩ (fun H locs hN => ?_)
      refine lv_aload_n hx hb dX8_back_39 rfl (lv_at hl 0 rfl) ?_
      refine lv_iconst (v := 0) hx hb dX8_back_40 rfl ?_
      refine pt_X8_deeds hC hN 0 rfl (Nat.le_of_ble_eq_true rfl) (ws' := wX8 E adc z_4 c_read c_past 0 c_images c_isKept c_text c_letters c_at c_token c_tokenAt c_value c_facts c_seen c_seenAhead c_weakLink c_weakTwos c_which c_views c_whichMany) rfl dX8_back_41 (fun H locs hN => ?_)
      refine lv_aload_n hx hb dX8_back_44 rfl (lv_at hl 0 rfl) ?_
      obtain ⟨r_5, hr_5, h⟩ := bi_e h
      refine n_callVi (ws' := wX8 E adc z_4 c_read c_past 0 c_images c_isKept c_text c_letters c_at c_token c_tokenAt c_value c_facts c_seen c_seenAhead c_weakLink c_weakTwos c_which c_views c_whichMany) hC hN (tX8_fabrics l E adc z_4 c_read c_past 0 c_images c_isKept c_text c_letters c_at c_token c_tokenAt c_value c_facts c_seen c_seenAhead c_weakLink c_weakTwos c_which c_views c_whichMany r_5 hr_5) cy_X8_fabrics mML_X8_178 mIM_X8_fabrics mSE_X8_fabrics rfl rfl (k := 0) rfl (perm_self _) (perm_self _) rfl rfl hl.1 rfl (Nat.le_of_ble_eq_true rfl) dX8_back_45 ⟨Nat.le_of_ble_eq_true rfl, Nat.le_of_ble_eq_true rfl⟩ ⟨Nat.le_refl _, Nat.le_refl _⟩ (fun H locs hN => ?_)
      obtain rfl := Option.some.inj h
      exact n_iret hC hN dX8_back_48
    · have h := if_t h c3
      refine lv_bipush (v := -2) hx hb dX8_back_20 (by decide) ?_
      obtain rfl := Option.some.inj h
      exact n_iret hC hN dX8_back_22
  · have h := if_t h c2
    refine lv_iconst (v := -1) hx hb dX8_back_9 rfl ?_
    obtain rfl := Option.some.inj h
    exact n_iret hC hN dX8_back_10
set_option maxHeartbeats 4000000 in
set_option maxRecDepth 100000 in
theorem tX8_sumOf (l : Launch) (E : EV) (adc : Nat → Nat) (c_now : Nat → Int32) (c_read : Nat → Int32) (c_past : Nat → Int32) (c_deeds : Int32) (c_images : Nat → Int32) (c_isKept : Nat → Int32) (c_text : Nat → Int32) (c_letters : Int32) (c_at : Int32) (c_token : Int32) (c_tokenAt : Int32) (c_value : Int32) (c_facts : Nat → Int32) (c_seen : Int32) (c_seenAhead : Nat → Int32) (c_weakLink : Int32) (c_weakTwos : Int32) (c_which : Nat → Int32) (c_views : Nat → Int32) (c_whichMany : Int32) (p1 : Int32) (p2 : Int32) (p3 : Int32) (z : Int32) (h : fX8_sumOf c_now p1 p2 p3 = some z) : Cn l E yX8_sumOf cX8_sumOf 6 (some .int) 1 22 [.ref (adc 0), .int p1, .int p2, .int p3] (wX8 E adc c_now c_read c_past c_deeds c_images c_isKept c_text c_letters c_at c_token c_tokenAt c_value c_facts c_seen c_seenAhead c_weakLink c_weakTwos c_which c_views c_whichMany) (wX8 E adc c_now c_read c_past c_deeds c_images c_isKept c_text c_letters c_at c_token c_tokenAt c_value c_facts c_seen c_seenAhead c_weakLink c_weakTwos c_which c_views c_whichMany) (some (.int z)) := by
  refine Cn.ofW (by decide +kernel) (Nat.le_of_ble_eq_true rfl) ?_
  intro p e s m args below meth c ls hC hN hl
  obtain ⟨z0, hz0⟩ : ∃ y, y = z := ⟨_, rfl⟩
  rw [← hz0] at h ⊢
  clear hz0
  have hl : lv_has ls 6 [(0, .ref (adc 0)), (1, .int p1), (2, .int p2), (3, .int p3)] := hl
  have hx := hC.1
  have hb := hC.2.1
  unfold fX8_sumOf at h
  refine lv_iconst (v := 0) hx hb dX8_sumOf_0 rfl ?_
  refine lv_istore (lv' := [(4, .int 0), (0, .ref (adc 0)), (1, .int p1), (2, .int p2), (3, .int p3)]) hx hb dX8_sumOf_1 hl (by decide) rfl (fun ls hl => ?_)
  refine lv_iconst (v := 0) hx hb dX8_sumOf_3 rfl ?_
  refine lv_istore (lv' := [(5, .int 0), (4, .int 0), (0, .ref (adc 0)), (1, .int p1), (2, .int p2), (3, .int p3)]) hx hb dX8_sumOf_4 hl (by decide) rfl (fun ls hl => ?_)
  have L1 : ∀ (fu : Nat) (v4_1 : Int32) (v5_2 : Int32) (z : Int32 × Int32) (H : Heap) (locs : List Loc) (ls : Array Slot), Nw E s (AD (wX8 E adc c_now c_read c_past c_deeds c_images c_isKept c_text c_letters c_at c_token c_tokenAt c_value c_facts c_seen c_seenAhead c_weakLink c_weakTwos c_which c_views c_whichMany)) (wX8 E adc c_now c_read c_past c_deeds c_images c_isKept c_text c_letters c_at c_token c_tokenAt c_value c_facts c_seen c_seenAhead c_weakLink c_weakTwos c_which c_views c_whichMany) H locs → lv_has ls 6 [(0, .ref (adc 0)), (1, .int p1), (2, .int p2), (3, .int p3), (4, .int v4_1), (5, .int v5_2)] → fX8_sumOf_L1 c_now p1 p2 p3 fu v4_1 v5_2 = some z → (∀ (H : Heap) (locs : List Loc) (ls : Array Slot), Nw E s (AD (wX8 E adc c_now c_read c_past c_deeds c_images c_isKept c_text c_letters c_at c_token c_tokenAt c_value c_facts c_seen c_seenAhead c_weakLink c_weakTwos c_which c_views c_whichMany)) (wX8 E adc c_now c_read c_past c_deeds c_images c_isKept c_text c_letters c_at c_token c_tokenAt c_value c_facts c_seen c_seenAhead c_weakLink c_weakTwos c_which c_views c_whichMany) H locs → lv_has ls 6 [(0, .ref (adc 0)), (1, .int p1), (2, .int p2), (3, .int p3), (4, .int z.1), (5, .int z.2)] → WN p l e 1 22 s m args below meth c E (wX8 E adc c_now c_read c_past c_deeds c_images c_isKept c_text c_letters c_at c_token c_tokenAt c_value c_facts c_seen c_seenAhead c_weakLink c_weakTwos c_which c_views c_whichMany) (some (.int z0)) (wX8 E adc c_now c_read c_past c_deeds c_images c_isKept c_text c_letters c_at c_token c_tokenAt c_value c_facts c_seen c_seenAhead c_weakLink c_weakTwos c_which c_views c_whichMany) H locs (F0 m 51 ls [])) → WN p l e 1 22 s m args below meth c E (wX8 E adc c_now c_read c_past c_deeds c_images c_isKept c_text c_letters c_at c_token c_tokenAt c_value c_facts c_seen c_seenAhead c_weakLink c_weakTwos c_which c_views c_whichMany) (some (.int z0)) (wX8 E adc c_now c_read c_past c_deeds c_images c_isKept c_text c_letters c_at c_token c_tokenAt c_value c_facts c_seen c_seenAhead c_weakLink c_weakTwos c_which c_views c_whichMany) H locs (F0 m 6 ls []) := by
    intro fu
    induction fu with
    | zero =>
      intro v4_1 v5_2 z H locs ls hN hl h K
      cases (show (none : Option (Int32 × Int32)) = some z from h)
    | succ fu ih =>
      intro v4_1 v5_2 z H locs ls hN hl h K
      rw [fX8_sumOf_L1.eq_2] at h
      refine lv_iload hx hb dX8_sumOf_6 (lv_at hl 5 rfl) ?_
      refine lv_iload_n hx hb dX8_sumOf_8 rfl (lv_at hl 2 rfl) ?_
      refine lv_icmp_ge (tgt := 51) hx hb dX8_sumOf_9 (by decide) (fun c3 => ?_) (fun c3 => ?_)
      · have h := if_t h c3
        obtain rfl := Option.some.inj h
        exact K _ _ _ hN (lv_sub hl [0, 1, 2, 3, 4, 5] rfl)
      · have h := if_f h c3
        refine lv_iload hx hb dX8_sumOf_12 (lv_at hl 4 rfl) ?_
        refine lv_iload_n hx hb dX8_sumOf_14 rfl (lv_at hl 3 rfl) ?_
        refine lv_if_eq (tgt := 33) hx hb dX8_sumOf_15 (by decide) (fun c4 => ?_) (fun c4 => ?_)
        · have h := if_t h c4
          refine lv_aload_n hx hb dX8_sumOf_33 rfl (lv_at hl 0 rfl) ?_
          refine gt_X8_now hC hN 0 rfl rfl dX8_sumOf_34 ?_
          refine lv_iload_n hx hb dX8_sumOf_37 rfl (lv_at hl 1 rfl) ?_
          refine lv_iload hx hb dX8_sumOf_38 (lv_at hl 5 rfl) ?_
          refine lv_iadd hx hb dX8_sumOf_40 ?_
          have g := inB_vp (gd_c h)
          have h := gd_e h
          refine n_iald hC hN 1 rfl g dX8_sumOf_41 ?_
          refine lv_iadd hx hb dX8_sumOf_42 ?_
          refine lv_topi (fun v4_5 ev4_5 => ?_)
          have h := bd_e h v4_5 ev4_5
          refine lv_istore (lv' := [(4, .int v4_5), (0, .ref (adc 0)), (1, .int p1), (2, .int p2), (3, .int p3), (5, .int v5_2)]) hx hb dX8_sumOf_43 hl (by decide) rfl (fun ls hl => ?_)
          obtain ⟨v5_6, ev5_6⟩ : ∃ y : Int32, y = v5_2 + 1 := ⟨_, rfl⟩
          have h := bd_e h v5_6 ev5_6
          refine lv_iinc (v := v5_6) (lv' := [(5, .int v5_6), (4, .int v4_5), (0, .ref (adc 0)), (1, .int p1), (2, .int p2), (3, .int p3)]) hx hb dX8_sumOf_45 hl (k := 5) rfl (by rw [ev5_6]; rfl) (by decide) rfl (fun ls hl => ?_)
          refine lv_goto (tgt := 6) hx hb dX8_sumOf_48 (by decide) ?_
          exact ih v4_5 v5_6 z _ _ _ hN (lv_sub hl [2, 3, 4, 5, 1, 0] rfl) h K
        · have h := if_f h c4
          refine lv_aload_n hx hb dX8_sumOf_18 rfl (lv_at hl 0 rfl) ?_
          refine gt_X8_now hC hN 0 rfl rfl dX8_sumOf_19 ?_
          refine lv_iload_n hx hb dX8_sumOf_22 rfl (lv_at hl 1 rfl) ?_
          refine lv_iload hx hb dX8_sumOf_23 (lv_at hl 5 rfl) ?_
          refine lv_iadd hx hb dX8_sumOf_25 ?_
          have g := inB_vp (gd_c h)
          have h := gd_e h
          refine n_iald hC hN 1 rfl g dX8_sumOf_26 ?_
          obtain ⟨r_7, hr_7, h⟩ := bi_e h
          refine n_callSi (ws' := wX8 E adc c_now c_read c_past c_deeds c_images c_isKept c_text c_letters c_at c_token c_tokenAt c_value c_facts c_seen c_seenAhead c_weakLink c_weakTwos c_which c_views c_whichMany) hC hN (tX8_ones l E (c_now (p1 + v5_2).toNatClampNeg) r_7 hr_7) cy_X8_ones mML_X8_143 mST_X8_ones (perm_nil _) (perm_nil _) rfl rfl hl.1 rfl (Nat.le_of_ble_eq_true rfl) dX8_sumOf_27 ⟨Nat.le_of_ble_eq_true rfl, Nat.le_of_ble_eq_true rfl⟩ ⟨Nat.le_refl _, Nat.le_refl _⟩ (fun H locs hN => ?_)
          refine lv_goto (tgt := 42) hx hb dX8_sumOf_30 (by decide) ?_
          refine lv_iadd hx hb dX8_sumOf_42 ?_
          refine lv_topi (fun v4_8 ev4_8 => ?_)
          have h := bd_e h v4_8 ev4_8
          refine lv_istore (lv' := [(4, .int v4_8), (0, .ref (adc 0)), (1, .int p1), (2, .int p2), (3, .int p3), (5, .int v5_2)]) hx hb dX8_sumOf_43 hl (by decide) rfl (fun ls hl => ?_)
          obtain ⟨v5_9, ev5_9⟩ : ∃ y : Int32, y = v5_2 + 1 := ⟨_, rfl⟩
          have h := bd_e h v5_9 ev5_9
          refine lv_iinc (v := v5_9) (lv' := [(5, .int v5_9), (4, .int v4_8), (0, .ref (adc 0)), (1, .int p1), (2, .int p2), (3, .int p3)]) hx hb dX8_sumOf_45 hl (k := 5) rfl (by rw [ev5_9]; rfl) (by decide) rfl (fun ls hl => ?_)
          refine lv_goto (tgt := 6) hx hb dX8_sumOf_48 (by decide) ?_
          exact ih v4_8 v5_9 z _ _ _ hN (lv_sub hl [2, 3, 4, 5, 1, 0] rfl) h K
  obtain ⟨z_10, hz_10, h⟩ := bi_e h
  refine L1 500 0 0 z_10 _ _ _ hN (lv_sub hl [2, 3, 4, 5, 1, 0] rfl) hz_10 (fun H locs ls hN hl => ?_)
  refine lv_iload hx hb dX8_sumOf_51 (lv_at hl 4 rfl) ?_
  obtain rfl := Option.some.inj h
  exact n_iret hC hN dX8_sumOf_53
set_option maxHeartbeats 4000000 in
set_option maxRecDepth 100000 in
theorem tX8_count (l : Launch) (E : EV) (adc : Nat → Nat) (c_now : Nat → Int32) (c_read : Nat → Int32) (c_past : Nat → Int32) (c_deeds : Int32) (c_images : Nat → Int32) (c_isKept : Nat → Int32) (c_text : Nat → Int32) (c_letters : Int32) (c_at : Int32) (c_token : Int32) (c_tokenAt : Int32) (c_value : Int32) (c_facts : Nat → Int32) (c_seen : Int32) (c_seenAhead : Nat → Int32) (c_weakLink : Int32) (c_weakTwos : Int32) (c_which : Nat → Int32) (c_views : Nat → Int32) (c_whichMany : Int32) (p1 : Int32) (z : Int32) (h : fX8_count c_now c_deeds c_letters c_seen p1 = some z) : Cn l E yX8_count cX8_count 2 (some .int) 6 139 [.ref (adc 0), .int p1] (wX8 E adc c_now c_read c_past c_deeds c_images c_isKept c_text c_letters c_at c_token c_tokenAt c_value c_facts c_seen c_seenAhead c_weakLink c_weakTwos c_which c_views c_whichMany) (wX8 E adc c_now c_read c_past c_deeds c_images c_isKept c_text c_letters c_at c_token c_tokenAt c_value c_facts c_seen c_seenAhead c_weakLink c_weakTwos c_which c_views c_whichMany) (some (.int z)) := by
  refine Cn.ofW (by decide +kernel) (Nat.le_of_ble_eq_true rfl) ?_
  intro p e s m args below meth c ls hC hN hl
  have hl : lv_has ls 2 [(0, .ref (adc 0)), (1, .int p1)] := hl
  have hx := hC.1
  have hb := hC.2.1
  unfold fX8_count at h
  refine lv_iload_n hx hb dX8_count_0 rfl (lv_at hl 1 rfl) ?_
  by_cases s0 : p1 = 0
  · have h := if_t h s0
    refine lv_tableIn (off := 59) (tgt := 60) hx hb dX8_count_1 (by rw [s0]; decide) (by rw [s0]; decide) (by rw [s0]; rfl) (by decide) ?_
    refine lv_aload_n hx hb dX8_count_60 rfl (lv_at hl 0 rfl) ?_
    refine gt_X8_now hC hN 0 rfl rfl dX8_count_61 ?_
    refine lv_iconst (v := 0) hx hb dX8_count_64 rfl ?_
    have g := inB_vp (gd_c h)
    have h := gd_e h
    refine n_iald hC hN 1 rfl g dX8_count_65 ?_
    obtain rfl := Option.some.inj h
    exact n_iret hC hN dX8_count_66
  · have h := if_f h s0
    by_cases s1 : p1 = 1
    · have h := if_t h s1
      refine lv_tableIn (off := 66) (tgt := 67) hx hb dX8_count_1 (by rw [s1]; decide) (by rw [s1]; decide) (by rw [s1]; rfl) (by decide) ?_
      refine lv_aload_n hx hb dX8_count_67 rfl (lv_at hl 0 rfl) ?_
      refine gt_X8_now hC hN 0 rfl rfl dX8_count_68 ?_
      refine lv_iconst (v := 1) hx hb dX8_count_71 rfl ?_
      have g := inB_vp (gd_c h)
      have h := gd_e h
      refine n_iald hC hN 1 rfl g dX8_count_72 ?_
      obtain rfl := Option.some.inj h
      exact n_iret hC hN dX8_count_73
    · have h := if_f h s1
      by_cases s2 : p1 = 2
      · have h := if_t h s2
        refine lv_tableIn (off := 73) (tgt := 74) hx hb dX8_count_1 (by rw [s2]; decide) (by rw [s2]; decide) (by rw [s2]; rfl) (by decide) ?_
        refine lv_aload_n hx hb dX8_count_74 rfl (lv_at hl 0 rfl) ?_
        obtain ⟨r_1, hr_1, h⟩ := bi_e h
        refine n_callVi (ws' := wX8 E adc c_now c_read c_past c_deeds c_images c_isKept c_text c_letters c_at c_token c_tokenAt c_value c_facts c_seen c_seenAhead c_weakLink c_weakTwos c_which c_views c_whichMany) hC hN (tX8_fabrics l E adc c_now c_read c_past c_deeds c_images c_isKept c_text c_letters c_at c_token c_tokenAt c_value c_facts c_seen c_seenAhead c_weakLink c_weakTwos c_which c_views c_whichMany r_1 hr_1) cy_X8_fabrics mML_X8_178 mIM_X8_fabrics mSE_X8_fabrics rfl rfl (k := 0) rfl (perm_self _) (perm_self _) rfl rfl hl.1 rfl (Nat.le_of_ble_eq_true rfl) dX8_count_75 ⟨Nat.le_of_ble_eq_true rfl, Nat.le_of_ble_eq_true rfl⟩ ⟨Nat.le_refl _, Nat.le_refl _⟩ (fun H locs hN => ?_)
        obtain rfl := Option.some.inj h
        exact n_iret hC hN dX8_count_78
      · have h := if_f h s2
        by_cases s3 : p1 = 3
        · have h := if_t h s3
          refine lv_tableIn (off := 78) (tgt := 79) hx hb dX8_count_1 (by rw [s3]; decide) (by rw [s3]; decide) (by rw [s3]; rfl) (by decide) ?_
          refine lv_aload_n hx hb dX8_count_79 rfl (lv_at hl 0 rfl) ?_
          refine lv_bipush (v := 35) hx hb dX8_count_80 (by decide) ?_
          refine lv_bipush (v := 6) hx hb dX8_count_82 (by decide) ?_
          refine lv_iconst (v := 1) hx hb dX8_count_84 rfl ?_
          obtain ⟨r_2, hr_2, h⟩ := bi_e h
          refine n_callVi (ws' := wX8 E adc c_now c_read c_past c_deeds c_images c_isKept c_text c_letters c_at c_token c_tokenAt c_value c_facts c_seen c_seenAhead c_weakLink c_weakTwos c_which c_views c_whichMany) hC hN (tX8_sumOf l E adc c_now c_read c_past c_deeds c_images c_isKept c_text c_letters c_at c_token c_tokenAt c_value c_facts c_seen c_seenAhead c_weakLink c_weakTwos c_which c_views c_whichMany 35 6 1 r_2 hr_2) cy_X8_sumOf mML_X8_208 mIM_X8_sumOf mSE_X8_sumOf rfl rfl (k := 0) rfl (perm_self _) (perm_self _) rfl rfl hl.1 rfl (Nat.le_of_ble_eq_true rfl) dX8_count_85 ⟨Nat.le_of_ble_eq_true rfl, Nat.le_of_ble_eq_true rfl⟩ ⟨Nat.le_refl _, Nat.le_refl _⟩ (fun H locs hN => ?_)
          refine lv_iconst (v := 2) hx hb dX8_count_88 rfl ?_
          refine lv_idiv hx hb dX8_count_89 (by decide) ?_
          obtain rfl := Option.some.inj h
          exact n_iret hC hN dX8_count_90
        · have h := if_f h s3
          by_cases s4 : p1 = 4
          · have h := if_t h s4
            refine lv_tableIn (off := 90) (tgt := 91) hx hb dX8_count_1 (by rw [s4]; decide) (by rw [s4]; decide) (by rw [s4]; rfl) (by decide) ?_
            refine lv_aload_n hx hb dX8_count_91 rfl (lv_at hl 0 rfl) ?_
            refine lv_bipush (v := 41) hx hb dX8_count_92 (by decide) ?_
            refine lv_bipush (v := 6) hx hb dX8_count_94 (by decide) ?_
            refine lv_iconst (v := 1) hx hb dX8_count_96 rfl ?_
            obtain ⟨r_3, hr_3, h⟩ := bi_e h
            refine n_callVi (ws' := wX8 E adc c_now c_read c_past c_deeds c_images c_isKept c_text c_letters c_at c_token c_tokenAt c_value c_facts c_seen c_seenAhead c_weakLink c_weakTwos c_which c_views c_whichMany) hC hN (tX8_sumOf l E adc c_now c_read c_past c_deeds c_images c_isKept c_text c_letters c_at c_token c_tokenAt c_value c_facts c_seen c_seenAhead c_weakLink c_weakTwos c_which c_views c_whichMany 41 6 1 r_3 hr_3) cy_X8_sumOf mML_X8_208 mIM_X8_sumOf mSE_X8_sumOf rfl rfl (k := 0) rfl (perm_self _) (perm_self _) rfl rfl hl.1 rfl (Nat.le_of_ble_eq_true rfl) dX8_count_97 ⟨Nat.le_of_ble_eq_true rfl, Nat.le_of_ble_eq_true rfl⟩ ⟨Nat.le_refl _, Nat.le_refl _⟩ (fun H locs hN => ?_)
            refine lv_iconst (v := 2) hx hb dX8_count_100 rfl ?_
            refine lv_idiv hx hb dX8_count_101 (by decide) ?_
            obtain rfl := Option.some.inj h
            exact n_iret hC hN dX8_count_102
          · have h := if_f h s4
            by_cases s5 : p1 = 5
            · have h := if_t h s5
              refine lv_tableIn (off := 102) (tgt := 103) hx hb dX8_count_1 (by rw [s5]; decide) (by rw [s5]; decide) (by rw [s5]; rfl) (by decide) ?_
              refine lv_aload_n hx hb dX8_count_103 rfl (lv_at hl 0 rfl) ?_
              refine gt_X8_now hC hN 0 rfl rfl dX8_count_104 ?_
              refine lv_iconst (v := 2) hx hb dX8_count_107 rfl ?_
              have g := inB_vp (gd_c h)
              have h := gd_e h
              refine n_iald hC hN 1 rfl g dX8_count_108 ?_
              obtain rfl := Option.some.inj h
              exact n_iret hC hN dX8_count_109
            · have h := if_f h s5
              by_cases s6 : p1 = 6
              · have h := if_t h s6
                refine lv_tableIn (off := 109) (tgt := 110) hx hb dX8_count_1 (by rw [s6]; decide) (by rw [s6]; decide) (by rw [s6]; rfl) (by decide) ?_
                refine lv_aload_n hx hb dX8_count_110 rfl (lv_at hl 0 rfl) ?_
                refine lv_bipush (v := 71) hx hb dX8_count_111 (by decide) ?_
                refine lv_aload_n hx hb dX8_count_113 rfl (lv_at hl 0 rfl) ?_
                refine gt_X8_now hC hN 0 rfl rfl dX8_count_114 ?_
                refine lv_iconst (v := 1) hx hb dX8_count_117 rfl ?_
                have g := inB_vp (gd_c h)
                have h := gd_e h
                refine n_iald hC hN 1 rfl g dX8_count_118 ?_
                refine lv_iconst (v := 0) hx hb dX8_count_119 rfl ?_
                obtain ⟨r_4, hr_4, h⟩ := bi_e h
                refine n_callVi (ws' := wX8 E adc c_now c_read c_past c_deeds c_images c_isKept c_text c_letters c_at c_token c_tokenAt c_value c_facts c_seen c_seenAhead c_weakLink c_weakTwos c_which c_views c_whichMany) hC hN (tX8_sumOf l E adc c_now c_read c_past c_deeds c_images c_isKept c_text c_letters c_at c_token c_tokenAt c_value c_facts c_seen c_seenAhead c_weakLink c_weakTwos c_which c_views c_whichMany 71 (c_now (1 : Int32).toNatClampNeg) 0 r_4 hr_4) cy_X8_sumOf mML_X8_208 mIM_X8_sumOf mSE_X8_sumOf rfl rfl (k := 0) rfl (perm_self _) (perm_self _) rfl rfl hl.1 rfl (Nat.le_of_ble_eq_true rfl) dX8_count_120 ⟨Nat.le_of_ble_eq_true rfl, Nat.le_of_ble_eq_true rfl⟩ ⟨Nat.le_refl _, Nat.le_refl _⟩ (fun H locs hN => ?_)
                obtain rfl := Option.some.inj h
                exact n_iret hC hN dX8_count_123
              · have h := if_f h s6
                by_cases s7 : p1 = 7
                · have h := if_t h s7
                  refine lv_tableIn (off := 123) (tgt := 124) hx hb dX8_count_1 (by rw [s7]; decide) (by rw [s7]; decide) (by rw [s7]; rfl) (by decide) ?_
                  refine lv_aload_n hx hb dX8_count_124 rfl (lv_at hl 0 rfl) ?_
                  obtain ⟨r_5, hr_5, h⟩ := bi_e h
                  refine n_callVi (ws' := wX8 E adc c_now c_read c_past c_deeds c_images c_isKept c_text c_letters c_at c_token c_tokenAt c_value c_facts c_seen c_seenAhead c_weakLink c_weakTwos c_which c_views c_whichMany) hC hN (tX8_twos l E adc c_now c_read c_past c_deeds c_images c_isKept c_text c_letters c_at c_token c_tokenAt c_value c_facts c_seen c_seenAhead c_weakLink c_weakTwos c_which c_views c_whichMany r_5 hr_5) cy_X8_twos mML_X8_193 mIM_X8_twos mSE_X8_twos rfl rfl (k := 0) rfl (perm_self _) (perm_self _) rfl rfl hl.1 rfl (Nat.le_of_ble_eq_true rfl) dX8_count_125 ⟨Nat.le_of_ble_eq_true rfl, Nat.le_of_ble_eq_true rfl⟩ ⟨Nat.le_refl _, Nat.le_refl _⟩ (fun H locs hN => ?_)
                  obtain rfl := Option.some.inj h
                  exact n_iret hC hN dX8_count_128
                · have h := if_f h s7
                  by_cases s8 : p1 = 8
                  · have h := if_t h s8
                    refine lv_tableIn (off := 128) (tgt := 129) hx hb dX8_count_1 (by rw [s8]; decide) (by rw [s8]; decide) (by rw [s8]; rfl) (by decide) ?_
                    refine lv_aload_n hx hb dX8_count_129 rfl (lv_at hl 0 rfl) ?_
                    refine gt_X8_seen hC hN 0 rfl rfl dX8_count_130 ?_
                    obtain rfl := Option.some.inj h
                    exact n_iret hC hN dX8_count_133
                  · have h := if_f h s8
                    by_cases s9 : p1 = 9
                    · have h := if_t h s9
                      refine lv_tableIn (off := 133) (tgt := 134) hx hb dX8_count_1 (by rw [s9]; decide) (by rw [s9]; decide) (by rw [s9]; rfl) (by decide) ?_
                      refine lv_aload_n hx hb dX8_count_134 rfl (lv_at hl 0 rfl) ?_
                      refine gt_X8_letters hC hN 0 rfl rfl dX8_count_135 ?_
                      obtain rfl := Option.some.inj h
                      exact n_iret hC hN dX8_count_138
                    · have h := if_f h s9
                      by_cases s10 : p1 = 10
                      · have h := if_t h s10
                        refine lv_tableIn (off := 138) (tgt := 139) hx hb dX8_count_1 (by rw [s10]; decide) (by rw [s10]; decide) (by rw [s10]; rfl) (by decide) ?_
                        refine lv_aload_n hx hb dX8_count_139 rfl (lv_at hl 0 rfl) ?_
                        refine gt_X8_deeds hC hN 0 rfl rfl dX8_count_140 ?_
                        obtain rfl := Option.some.inj h
                        exact n_iret hC hN dX8_count_143
                      · have h := if_f h s10
                        have u0 : p1.toInt ≠ 0 := i_ne s0
                        have u1 : p1.toInt ≠ 1 := i_ne s1
                        have u2 : p1.toInt ≠ 2 := i_ne s2
                        have u3 : p1.toInt ≠ 3 := i_ne s3
                        have u4 : p1.toInt ≠ 4 := i_ne s4
                        have u5 : p1.toInt ≠ 5 := i_ne s5
                        have u6 : p1.toInt ≠ 6 := i_ne s6
                        have u7 : p1.toInt ≠ 7 := i_ne s7
                        have u8 : p1.toInt ≠ 8 := i_ne s8
                        have u9 : p1.toInt ≠ 9 := i_ne s9
                        have u10 : p1.toInt ≠ 10 := i_ne s10
                        refine lv_tableOut (tgt := 144) hx hb dX8_count_1 (by omega) (by decide) ?_
                        refine lv_iconst (v := -1) hx hb dX8_count_144 rfl ?_
                        obtain rfl := Option.some.inj h
                        exact n_iret hC hN dX8_count_145
