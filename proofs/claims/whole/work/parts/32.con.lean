set_option maxHeartbeats 4000000 in
set_option maxRecDepth 100000 in
theorem tX3_view (l : Launch) (E : EV) (adc : Nat → Nat) (c_switches : Int32) (c_hosts : Int32) (c_renewing : Int32) (c_priorities : Nat → Int32) (c_names : Nat → Int32) (c_wants : Nat → Int32) (c_blocks : Nat → Int32) (c_upTo : Nat → Int32) (c_clashedTo : Nat → Int32) (c_zoneSets : Nat → Int32) (c_places : Nat → Int32) (c_notices : Nat → Int32) (c_news : Nat → Int32) (z : Int64) (h : fX3_view c_switches c_hosts c_upTo c_zoneSets c_places = some z) : Cn l E yX3_view cX3_view 6 (some .long) 3 74 [.ref (adc 0)] (wX3 E adc c_switches c_hosts c_renewing c_priorities c_names c_wants c_blocks c_upTo c_clashedTo c_zoneSets c_places c_notices c_news) (wX3 E adc c_switches c_hosts c_renewing c_priorities c_names c_wants c_blocks c_upTo c_clashedTo c_zoneSets c_places c_notices c_news) (some (.long z)) := by
  refine Cn.ofW (by decide +kernel) (Nat.le_of_ble_eq_true rfl) ?_
  intro p e s m args below meth c ls hC hN hl
  obtain ⟨z0, hz0⟩ : ∃ y, y = z := ⟨_, rfl⟩
  rw [← hz0] at h ⊢
  clear hz0
  have hl : lv_has ls 6 [(0, .ref (adc 0))] := hl
  have hx := hC.1
  have hb := hC.2.1
  unfold fX3_view at h
  refine lv_lconst (v := 0) hx hb dX3_view_0 rfl ?_
  refine lv_lstore_n (lv' := [(1, .long 0), (0, .ref (adc 0))]) hx hb dX3_view_1 rfl hl (by decide) rfl (fun ls hl => ?_)
  refine lv_iconst (v := 0) hx hb dX3_view_2 rfl ?_
  refine lv_istore_n (lv' := [(3, .int 0), (1, .long 0), (0, .ref (adc 0))]) hx hb dX3_view_3 rfl hl (by decide) rfl (fun ls hl => ?_)
  refine lv_iconst (v := 0) hx hb dX3_view_4 rfl ?_
  refine lv_istore (lv' := [(4, .int 0), (3, .int 0), (1, .long 0), (0, .ref (adc 0))]) hx hb dX3_view_5 hl (by decide) rfl (fun ls hl => ?_)
  have L1 : ∀ (fu : Nat) (v1_1 : Int64) (v3_2 : Int32) (v4_3 : Int32) (z : Int64 × Int32 × Int32) (H : Heap) (locs : List Loc) (ls : Array Slot), Nw E s (AD (wX3 E adc c_switches c_hosts c_renewing c_priorities c_names c_wants c_blocks c_upTo c_clashedTo c_zoneSets c_places c_notices c_news)) (wX3 E adc c_switches c_hosts c_renewing c_priorities c_names c_wants c_blocks c_upTo c_clashedTo c_zoneSets c_places c_notices c_news) H locs → lv_has ls 6 [(0, .ref (adc 0)), (1, .long v1_1), (3, .int v3_2), (4, .int v4_3)] → fX3_view_L1 c_switches c_hosts c_upTo c_zoneSets c_places fu v1_1 v3_2 v4_3 = some z → (∀ (H : Heap) (locs : List Loc) (ls : Array Slot), Nw E s (AD (wX3 E adc c_switches c_hosts c_renewing c_priorities c_names c_wants c_blocks c_upTo c_clashedTo c_zoneSets c_places c_notices c_news)) (wX3 E adc c_switches c_hosts c_renewing c_priorities c_names c_wants c_blocks c_upTo c_clashedTo c_zoneSets c_places c_notices c_news) H locs → lv_has ls 6 [(0, .ref (adc 0)), (1, .long z.1), (3, .int z.2.1), (4, .int z.2.2)] → WN p l e 3 74 s m args below meth c E (wX3 E adc c_switches c_hosts c_renewing c_priorities c_names c_wants c_blocks c_upTo c_clashedTo c_zoneSets c_places c_notices c_news) (some (.long z0)) (wX3 E adc c_switches c_hosts c_renewing c_priorities c_names c_wants c_blocks c_upTo c_clashedTo c_zoneSets c_places c_notices c_news) H locs (F0 m 59 ls [])) → WN p l e 3 74 s m args below meth c E (wX3 E adc c_switches c_hosts c_renewing c_priorities c_names c_wants c_blocks c_upTo c_clashedTo c_zoneSets c_places c_notices c_news) (some (.long z0)) (wX3 E adc c_switches c_hosts c_renewing c_priorities c_names c_wants c_blocks c_upTo c_clashedTo c_zoneSets c_places c_notices c_news) H locs (F0 m 7 ls []) := by
    intro fu
    induction fu with
    | zero =>
      intro v1_1 v3_2 v4_3 z H locs ls hN hl h K
      cases (show (none : Option (Int64 × Int32 × Int32)) = some z from h)
    | succ fu ih =>
      intro v1_1 v3_2 v4_3 z H locs ls hN hl h K
      rw [fX3_view_L1.eq_2] at h
      refine lv_iload hx hb dX3_view_7 (lv_at hl 3 rfl) ?_
      refine lv_aload_n hx hb dX3_view_9 rfl (lv_at hl 0 rfl) ?_
      refine gt_X3_switches hC hN 0 rfl rfl dX3_view_10 ?_
      refine lv_icmp_ge (tgt := 59) hx hb dX3_view_13 (by decide) (fun c4 => ?_) (fun c4 => ?_)
      · have h := if_t h c4
        obtain rfl := Option.some.inj h
        exact K _ _ _ hN (lv_sub hl [0, 1, 2, 3] rfl)
      · have h := if_f h c4
        refine lv_iload_n hx hb dX3_view_16 rfl (lv_at hl 2 rfl) ?_
        refine lv_iload hx hb dX3_view_17 (lv_at hl 3 rfl) ?_
        obtain ⟨r_5, hr_5, h⟩ := bi_e h
        refine n_callSNi (ws' := wX3 E adc c_switches c_hosts c_renewing c_priorities c_names c_wants c_blocks c_upTo c_clashedTo c_zoneSets c_places c_notices c_news) hC hN (tX7_has l E v3_2 v4_3 r_5 hr_5) cy_X7_has (List.mem_of_getElem? (i := 8) rfl) mST_X7_has (perm_nil _) (perm_nil _) rfl rfl hl.1 rfl (Nat.le_of_ble_eq_true rfl) dX3_view_19 ⟨Nat.le_of_ble_eq_true rfl, Nat.le_of_ble_eq_true rfl⟩ ⟨Nat.le_refl _, Nat.le_refl _⟩ (fun H locs hN => ?_)
        refine lv_if_ne (tgt := 53) hx hb dX3_view_22 (by decide) (fun c6 => ?_) (fun c6 => ?_)
        · have h := if_f h c6
          obtain ⟨v4_7, ev4_7⟩ : ∃ y : Int32, y = v4_3 + 1 := ⟨_, rfl⟩
          have h := bd_e h v4_7 ev4_7
          refine lv_iinc (v := v4_7) (lv' := [(4, .int v4_7), (0, .ref (adc 0)), (1, .long v1_1), (3, .int v3_2)]) hx hb dX3_view_53 hl (k := 3) rfl (by rw [ev4_7]; rfl) (by decide) rfl (fun ls hl => ?_)
          refine lv_goto (tgt := 7) hx hb dX3_view_56 (by decide) ?_
          exact ih v1_1 v3_2 v4_7 z _ _ _ hN (lv_sub hl [1, 2, 3, 0] rfl) h K
        · have h := if_t h c6
          refine lv_aload_n hx hb dX3_view_25 rfl (lv_at hl 0 rfl) ?_
          refine lv_iload hx hb dX3_view_26 (lv_at hl 3 rfl) ?_
          obtain ⟨r_8, hr_8, h⟩ := bi_e h
          refine n_callVi (ws' := wX3 E adc c_switches c_hosts c_renewing c_priorities c_names c_wants c_blocks c_upTo c_clashedTo c_zoneSets c_places c_notices c_news) hC hN (tX3_fabricOf l E adc c_switches c_hosts c_renewing c_priorities c_names c_wants c_blocks c_upTo c_clashedTo c_zoneSets c_places c_notices c_news v4_3 r_8 hr_8) cy_X3_fabricOf mML_X3_88 mIM_X3_fabricOf mSE_X3_fabricOf rfl rfl (k := 0) rfl (perm_self _) (perm_self _) rfl rfl hl.1 rfl (Nat.le_of_ble_eq_true rfl) dX3_view_28 ⟨Nat.le_of_ble_eq_true rfl, Nat.le_of_ble_eq_true rfl⟩ ⟨Nat.le_refl _, Nat.le_refl _⟩ (fun H locs hN => ?_)
          refine lv_istore (lv' := [(5, .int r_8), (0, .ref (adc 0)), (1, .long v1_1), (3, .int v3_2), (4, .int v4_3)]) hx hb dX3_view_31 hl (by decide) rfl (fun ls hl => ?_)
          refine lv_iload_n hx hb dX3_view_33 rfl (lv_at hl 3 rfl) ?_
          refine lv_iload hx hb dX3_view_34 (lv_at hl 0 rfl) ?_
          refine lv_ior hx hb dX3_view_36 ?_
          refine lv_topi (fun v3_9 ev3_9 => ?_)
          have h := bd_e h v3_9 ev3_9
          refine lv_istore_n (lv' := [(3, .int v3_9), (5, .int r_8), (0, .ref (adc 0)), (1, .long v1_1), (4, .int v4_3)]) hx hb dX3_view_37 rfl hl (by decide) rfl (fun ls hl => ?_)
          refine lv_lload_n hx hb dX3_view_38 rfl (lv_at hl 3 rfl) ?_
          refine lv_aload_n hx hb dX3_view_39 rfl (lv_at hl 2 rfl) ?_
          refine lv_iload hx hb dX3_view_40 (lv_at hl 4 rfl) ?_
          refine lv_aload_n hx hb dX3_view_42 rfl (lv_at hl 2 rfl) ?_
          refine lv_iload hx hb dX3_view_43 (lv_at hl 1 rfl) ?_
          obtain ⟨r_10, hr_10, h⟩ := bi_e h
          refine n_callVi (ws' := wX3 E adc c_switches c_hosts c_renewing c_priorities c_names c_wants c_blocks c_upTo c_clashedTo c_zoneSets c_places c_notices c_news) hC hN (tX3_hostsAt l E adc c_switches c_hosts c_renewing c_priorities c_names c_wants c_blocks c_upTo c_clashedTo c_zoneSets c_places c_notices c_news r_8 r_10 hr_10) cy_X3_hostsAt mML_X3_143 mIM_X3_hostsAt mSE_X3_hostsAt rfl rfl (k := 0) rfl (perm_self _) (perm_self _) rfl rfl hl.1 rfl (Nat.le_of_ble_eq_true rfl) dX3_view_45 ⟨Nat.le_of_ble_eq_true rfl, Nat.le_of_ble_eq_true rfl⟩ ⟨Nat.le_refl _, Nat.le_refl _⟩ (fun H locs hN => ?_)
          obtain ⟨r_11, hr_11, h⟩ := bi_e h
          refine n_callVl (ws' := wX3 E adc c_switches c_hosts c_renewing c_priorities c_names c_wants c_blocks c_upTo c_clashedTo c_zoneSets c_places c_notices c_news) hC hN (tX3_viewWithin l E adc c_switches c_hosts c_renewing c_priorities c_names c_wants c_blocks c_upTo c_clashedTo c_zoneSets c_places c_notices c_news v4_3 r_10 r_11 hr_11) cy_X3_viewWithin mML_X3_146 mIM_X3_viewWithin mSE_X3_viewWithin rfl rfl (k := 0) rfl (perm_self _) (perm_self _) rfl rfl hl.1 rfl (Nat.le_of_ble_eq_true rfl) dX3_view_48 ⟨Nat.le_of_ble_eq_true rfl, Nat.le_of_ble_eq_true rfl⟩ ⟨Nat.le_refl _, Nat.le_refl _⟩ (fun H locs hN => ?_)
          refine lv_lor hx hb dX3_view_51 ?_
          refine lv_topl (fun v1_12 ev1_12 => ?_)
          have h := bd_e h v1_12 ev1_12
          refine lv_lstore_n (lv' := [(1, .long v1_12), (3, .int v3_9), (5, .int r_8), (0, .ref (adc 0)), (4, .int v4_3)]) hx hb dX3_view_52 rfl hl (by decide) rfl (fun ls hl => ?_)
          obtain ⟨v4_13, ev4_13⟩ : ∃ y : Int32, y = v4_3 + 1 := ⟨_, rfl⟩
          have h := bd_e h v4_13 ev4_13
          refine lv_iinc (v := v4_13) (lv' := [(4, .int v4_13), (1, .long v1_12), (3, .int v3_9), (5, .int r_8), (0, .ref (adc 0))]) hx hb dX3_view_53 hl (k := 4) rfl (by rw [ev4_13]; rfl) (by decide) rfl (fun ls hl => ?_)
          refine lv_goto (tgt := 7) hx hb dX3_view_56 (by decide) ?_
          exact ih v1_12 v3_9 v4_13 z _ _ _ hN (lv_sub hl [4, 1, 2, 0] rfl) h K
  obtain ⟨z_14, hz_14, h⟩ := bi_e h
  refine L1 500 0 0 0 z_14 _ _ _ hN (lv_sub hl [3, 2, 1, 0] rfl) hz_14 (fun H locs ls hN hl => ?_)
  refine lv_lload_n hx hb dX3_view_59 rfl (lv_at hl 1 rfl) ?_
  obtain rfl := Option.some.inj h
  exact n_lret hC hN dX3_view_60
set_option maxHeartbeats 4000000 in
set_option maxRecDepth 100000 in
theorem tX3_viewWithout (l : Launch) (E : EV) (adc : Nat → Nat) (c_switches : Int32) (c_hosts : Int32) (c_renewing : Int32) (c_priorities : Nat → Int32) (c_names : Nat → Int32) (c_wants : Nat → Int32) (c_blocks : Nat → Int32) (c_upTo : Nat → Int32) (c_clashedTo : Nat → Int32) (c_zoneSets : Nat → Int32) (c_places : Nat → Int32) (c_notices : Nat → Int32) (c_news : Nat → Int32) (p1 : Int32) (p2 : Int32) (z : Int64 × (Nat → Int32) × (Nat → Int32)) (h : fX3_viewWithout c_switches c_hosts c_upTo c_clashedTo c_zoneSets c_places p1 p2 = some z) : Cn l E yX3_viewWithout cX3_viewWithout 5 (some .long) 4 99 [.ref (adc 0), .int p1, .int p2] (wX3 E adc c_switches c_hosts c_renewing c_priorities c_names c_wants c_blocks c_upTo c_clashedTo c_zoneSets c_places c_notices c_news) (wX3 E adc c_switches c_hosts c_renewing c_priorities c_names c_wants c_blocks z.2.1 z.2.2 c_zoneSets c_places c_notices c_news) (some (.long z.1)) := by
  refine Cn.ofW (by decide +kernel) (Nat.le_of_ble_eq_true rfl) ?_
  intro p e s m args below meth c ls hC hN hl
  have hl : lv_has ls 5 [(0, .ref (adc 0)), (1, .int p1), (2, .int p2)] := hl
  have hx := hC.1
  have hb := hC.2.1
  unfold fX3_viewWithout at h
  refine lv_aload_n hx hb dX3_viewWithout_0 rfl (lv_at hl 0 rfl) ?_
  refine lv_iload_n hx hb dX3_viewWithout_1 rfl (lv_at hl 1 rfl) ?_
  refine lv_iload_n hx hb dX3_viewWithout_2 rfl (lv_at hl 2 rfl) ?_
  refine lv_iconst (v := 0) hx hb dX3_viewWithout_3 rfl ?_
  obtain ⟨z_1, hz_1, h⟩ := bi_e h
  refine n_callVv (ws' := wX3 E adc c_switches c_hosts c_renewing c_priorities c_names c_wants c_blocks z_1.1 z_1.2 c_zoneSets c_places c_notices c_news) hC hN (tX3_setLink l E adc c_switches c_hosts c_renewing c_priorities c_names c_wants c_blocks c_upTo c_clashedTo c_zoneSets c_places c_notices c_news p1 p2 0 z_1 hz_1) cy_X3_setLink mML_X3_131 mIM_X3_setLink mSE_X3_setLink rfl rfl (k := 0) rfl (perm_self _) (perm_self _) rfl rfl hl.1 rfl (Nat.le_of_ble_eq_true rfl) dX3_viewWithout_4 ⟨Nat.le_of_ble_eq_true rfl, Nat.le_of_ble_eq_true rfl⟩ ⟨Nat.le_refl _, Nat.le_refl _⟩ (fun H locs hN => ?_)
  refine lv_aload_n hx hb dX3_viewWithout_7 rfl (lv_at hl 0 rfl) ?_
  obtain ⟨r_2, hr_2, h⟩ := bi_e h
  refine n_callVl (ws' := wX3 E adc c_switches c_hosts c_renewing c_priorities c_names c_wants c_blocks z_1.1 z_1.2 c_zoneSets c_places c_notices c_news) hC hN (tX3_view l E adc c_switches c_hosts c_renewing c_priorities c_names c_wants c_blocks z_1.1 z_1.2 c_zoneSets c_places c_notices c_news r_2 hr_2) cy_X3_view mML_X3_156 mIM_X3_view mSE_X3_view rfl rfl (k := 0) rfl (perm_self _) (perm_self _) rfl rfl hl.1 rfl (Nat.le_of_ble_eq_true rfl) dX3_viewWithout_8 ⟨Nat.le_of_ble_eq_true rfl, Nat.le_of_ble_eq_true rfl⟩ ⟨Nat.le_refl _, Nat.le_refl _⟩ (fun H locs hN => ?_)
  refine lv_lstore_n (lv' := [(3, .long r_2), (0, .ref (adc 0)), (1, .int p1), (2, .int p2)]) hx hb dX3_viewWithout_11 rfl hl (by decide) rfl (fun ls hl => ?_)
  refine lv_aload_n hx hb dX3_viewWithout_12 rfl (lv_at hl 1 rfl) ?_
  refine lv_iload_n hx hb dX3_viewWithout_13 rfl (lv_at hl 2 rfl) ?_
  refine lv_iload_n hx hb dX3_viewWithout_14 rfl (lv_at hl 3 rfl) ?_
  refine lv_iconst (v := 1) hx hb dX3_viewWithout_15 rfl ?_
  obtain ⟨z_3, hz_3, h⟩ := bi_e h
  refine n_callVv (ws' := wX3 E adc c_switches c_hosts c_renewing c_priorities c_names c_wants c_blocks z_3.1 z_3.2 c_zoneSets c_places c_notices c_news) hC hN (tX3_setLink l E adc c_switches c_hosts c_renewing c_priorities c_names c_wants c_blocks z_1.1 z_1.2 c_zoneSets c_places c_notices c_news p1 p2 1 z_3 hz_3) cy_X3_setLink mML_X3_131 mIM_X3_setLink mSE_X3_setLink rfl rfl (k := 0) rfl (perm_self _) (perm_self _) rfl rfl hl.1 rfl (Nat.le_of_ble_eq_true rfl) dX3_viewWithout_16 ⟨Nat.le_of_ble_eq_true rfl, Nat.le_of_ble_eq_true rfl⟩ ⟨Nat.le_refl _, Nat.le_refl _⟩ (fun H locs hN => ?_)
  refine lv_lload_n hx hb dX3_viewWithout_19 rfl (lv_at hl 0 rfl) ?_
  obtain rfl := Option.some.inj h
  exact n_lret hC hN dX3_viewWithout_20
set_option maxHeartbeats 4000000 in
set_option maxRecDepth 100000 in
theorem tX7_rowOf (l : Launch) (E : EV) (p1 : Int64) (p2 : Int32) (z : Int32) (h : fX7_rowOf p1 p2 = some z) : Cn l E yX7_rowOf cX7_rowOf 3 (some .int) 0 0 [.long p1, .int p2] ([]) ([]) (some (.int z)) := by
  refine Cn.ofW (by decide +kernel) (Nat.le_of_ble_eq_true rfl) ?_
  intro p e s m args below meth c ls hC hN hl
  have hl : lv_has ls 3 [(0, .long p1), (2, .int p2)] := hl
  have hx := hC.1
  have hb := hC.2.1
  unfold fX7_rowOf at h
  refine lv_lload_n hx hb dX7_rowOf_0 rfl (lv_at hl 0 rfl) ?_
  refine lv_bipush (v := 8) hx hb dX7_rowOf_1 (by decide) ?_
  refine lv_iload_n hx hb dX7_rowOf_3 rfl (lv_at hl 1 rfl) ?_
  refine lv_imul hx hb dX7_rowOf_4 ?_
  refine lv_lushr (v := (lushr p1 (8 * p2))) hx hb dX7_rowOf_5 rfl ?_
  refine lv_l2i hx hb dX7_rowOf_6 rfl ?_
  refine lv_sipush (v := 255) hx hb dX7_rowOf_7 (by decide) ?_
  refine lv_iand hx hb dX7_rowOf_10 ?_
  obtain rfl := Option.some.inj h
  exact n_iret hC hN dX7_rowOf_11
set_option maxHeartbeats 4000000 in
set_option maxRecDepth 100000 in
theorem tX3_noticeSince (l : Launch) (E : EV) (adc : Nat → Nat) (c_switches : Int32) (c_hosts : Int32) (c_renewing : Int32) (c_priorities : Nat → Int32) (c_names : Nat → Int32) (c_wants : Nat → Int32) (c_blocks : Nat → Int32) (c_upTo : Nat → Int32) (c_clashedTo : Nat → Int32) (c_zoneSets : Nat → Int32) (c_places : Nat → Int32) (c_notices : Nat → Int32) (c_news : Nat → Int32) (p1 : Int64) (z : (Nat → Int32) × (Nat → Int32)) (h : fX3_noticeSince c_switches c_hosts c_upTo c_zoneSets c_places c_notices c_news p1 = some z) : Cn l E yX3_noticeSince cX3_noticeSince 7 none 4 99 [.ref (adc 0), .long p1] (wX3 E adc c_switches c_hosts c_renewing c_priorities c_names c_wants c_blocks c_upTo c_clashedTo c_zoneSets c_places c_notices c_news) (wX3 E adc c_switches c_hosts c_renewing c_priorities c_names c_wants c_blocks c_upTo c_clashedTo c_zoneSets c_places z.1 z.2) (none) := by
  refine Cn.ofW (by decide +kernel) (Nat.le_of_ble_eq_true rfl) ?_
  intro p e s m args below meth c ls hC hN hl
  obtain ⟨z0, hz0⟩ : ∃ y, y = z := ⟨_, rfl⟩
  rw [← hz0] at h ⊢
  clear hz0
  have hl : lv_has ls 7 [(0, .ref (adc 0)), (1, .long p1)] := hl
  have hx := hC.1
  have hb := hC.2.1
  unfold fX3_noticeSince at h
  refine lv_lload_n hx hb dX3_noticeSince_0 rfl (lv_at hl 1 rfl) ?_
  refine lv_aload_n hx hb dX3_noticeSince_1 rfl (lv_at hl 0 rfl) ?_
  obtain ⟨r_1, hr_1, h⟩ := bi_e h
  refine n_callVl (ws' := wX3 E adc c_switches c_hosts c_renewing c_priorities c_names c_wants c_blocks c_upTo c_clashedTo c_zoneSets c_places c_notices c_news) hC hN (tX3_view l E adc c_switches c_hosts c_renewing c_priorities c_names c_wants c_blocks c_upTo c_clashedTo c_zoneSets c_places c_notices c_news r_1 hr_1) cy_X3_view mML_X3_156 mIM_X3_view mSE_X3_view rfl rfl (k := 0) rfl (perm_self _) (perm_self _) rfl rfl hl.1 rfl (Nat.le_of_ble_eq_true rfl) dX3_noticeSince_2 ⟨Nat.le_of_ble_eq_true rfl, Nat.le_of_ble_eq_true rfl⟩ ⟨Nat.le_refl _, Nat.le_refl _⟩ (fun H locs hN => ?_)
  refine lv_lxor hx hb dX3_noticeSince_5 ?_
  refine lv_topl (fun v3_2 ev3_2 => ?_)
  have h := bd_e h v3_2 ev3_2
  refine lv_lstore_n (lv' := [(3, .long v3_2), (0, .ref (adc 0)), (1, .long p1)]) hx hb dX3_noticeSince_6 rfl hl (by decide) rfl (fun ls hl => ?_)
  refine lv_iconst (v := 0) hx hb dX3_noticeSince_7 rfl ?_
  refine lv_istore (lv' := [(5, .int 0), (3, .long v3_2), (0, .ref (adc 0)), (1, .long p1)]) hx hb dX3_noticeSince_8 hl (by decide) rfl (fun ls hl => ?_)
  have L1 : ∀ (fu : Nat) (v5_3 : Int32) (c_notices_4 : Nat → Int32) (c_news_5 : Nat → Int32) (z : Int32 × (Nat → Int32) × (Nat → Int32)) (H : Heap) (locs : List Loc) (ls : Array Slot), Nw E s (AD (wX3 E adc c_switches c_hosts c_renewing c_priorities c_names c_wants c_blocks c_upTo c_clashedTo c_zoneSets c_places c_notices c_news)) (wX3 E adc c_switches c_hosts c_renewing c_priorities c_names c_wants c_blocks c_upTo c_clashedTo c_zoneSets c_places c_notices_4 c_news_5) H locs → lv_has ls 7 [(0, .ref (adc 0)), (1, .long p1), (3, .long v3_2), (5, .int v5_3)] → fX3_noticeSince_L1 c_hosts v3_2 fu v5_3 c_notices_4 c_news_5 = some z → (∀ (H : Heap) (locs : List Loc) (ls : Array Slot), Nw E s (AD (wX3 E adc c_switches c_hosts c_renewing c_priorities c_names c_wants c_blocks c_upTo c_clashedTo c_zoneSets c_places c_notices c_news)) (wX3 E adc c_switches c_hosts c_renewing c_priorities c_names c_wants c_blocks c_upTo c_clashedTo c_zoneSets c_places z.2.1 z.2.2) H locs → lv_has ls 7 [(0, .ref (adc 0)), (1, .long p1), (3, .long v3_2), (5, .int z.1)] → WN p l e 4 99 s m args below meth c E (wX3 E adc c_switches c_hosts c_renewing c_priorities c_names c_wants c_blocks c_upTo c_clashedTo c_zoneSets c_places c_notices c_news) (none) (wX3 E adc c_switches c_hosts c_renewing c_priorities c_names c_wants c_blocks c_upTo c_clashedTo c_zoneSets c_places z0.1 z0.2) H locs (F0 m 58 ls [])) → WN p l e 4 99 s m args below meth c E (wX3 E adc c_switches c_hosts c_renewing c_priorities c_names c_wants c_blocks c_upTo c_clashedTo c_zoneSets c_places c_notices c_news) (none) (wX3 E adc c_switches c_hosts c_renewing c_priorities c_names c_wants c_blocks c_upTo c_clashedTo c_zoneSets c_places z0.1 z0.2) H locs (F0 m 10 ls []) := by
    intro fu
    induction fu with
    | zero =>
      intro v5_3 c_notices_4 c_news_5 z H locs ls hN hl h K
      cases (show (none : Option (Int32 × (Nat → Int32) × (Nat → Int32))) = some z from h)
    | succ fu ih =>
      intro v5_3 c_notices_4 c_news_5 z H locs ls hN hl h K
      rw [fX3_noticeSince_L1.eq_2] at h
      refine lv_iload hx hb dX3_noticeSince_10 (lv_at hl 3 rfl) ?_
      refine lv_aload_n hx hb dX3_noticeSince_12 rfl (lv_at hl 0 rfl) ?_
      refine gt_X3_hosts hC hN 0 rfl rfl dX3_noticeSince_13 ?_
      refine lv_icmp_ge (tgt := 58) hx hb dX3_noticeSince_16 (by decide) (fun c6 => ?_) (fun c6 => ?_)
      · have h := if_t h c6
        obtain rfl := Option.some.inj h
        exact K _ _ _ hN (lv_sub hl [0, 1, 2, 3] rfl)
      · have h := if_f h c6
        refine lv_lload_n hx hb dX3_noticeSince_19 rfl (lv_at hl 2 rfl) ?_
        refine lv_iload hx hb dX3_noticeSince_20 (lv_at hl 3 rfl) ?_
        obtain ⟨r_7, hr_7, h⟩ := bi_e h
        refine n_callSNi (ws' := wX3 E adc c_switches c_hosts c_renewing c_priorities c_names c_wants c_blocks c_upTo c_clashedTo c_zoneSets c_places c_notices_4 c_news_5) hC hN (tX7_rowOf l E v3_2 v5_3 r_7 hr_7) cy_X7_rowOf (List.mem_of_getElem? (i := 9) rfl) mST_X7_rowOf (perm_nil _) (perm_nil _) rfl rfl hl.1 rfl (Nat.le_of_ble_eq_true rfl) dX3_noticeSince_22 ⟨Nat.le_of_ble_eq_true rfl, Nat.le_of_ble_eq_true rfl⟩ ⟨Nat.le_refl _, Nat.le_refl _⟩ (fun H locs hN => ?_)
        refine lv_istore (lv' := [(6, .int r_7), (0, .ref (adc 0)), (1, .long p1), (3, .long v3_2), (5, .int v5_3)]) hx hb dX3_noticeSince_25 hl (by decide) rfl (fun ls hl => ?_)
        refine lv_iload hx hb dX3_noticeSince_27 (lv_at hl 0 rfl) ?_
        refine lv_if_eq (tgt := 52) hx hb dX3_noticeSince_29 (by decide) (fun c8 => ?_) (fun c8 => ?_)
        · have h := if_t h c8
          obtain ⟨v5_9, ev5_9⟩ : ∃ y : Int32, y = v5_3 + 1 := ⟨_, rfl⟩
          have h := bd_e h v5_9 ev5_9
          refine lv_iinc (v := v5_9) (lv' := [(5, .int v5_9), (6, .int r_7), (0, .ref (adc 0)), (1, .long p1), (3, .long v3_2)]) hx hb dX3_noticeSince_52 hl (k := 4) rfl (by rw [ev5_9]; rfl) (by decide) rfl (fun ls hl => ?_)
          refine lv_goto (tgt := 10) hx hb dX3_noticeSince_55 (by decide) ?_
          exact ih v5_9 c_notices_4 c_news_5 z _ _ _ hN (lv_sub hl [2, 3, 4, 0] rfl) h K
        · have h := if_f h c8
          refine lv_aload_n hx hb dX3_noticeSince_32 rfl (lv_at hl 1 rfl) ?_
          refine gt_X3_notices hC hN 0 rfl rfl dX3_noticeSince_33 ?_
          refine lv_iload hx hb dX3_noticeSince_36 (lv_at hl 4 rfl) ?_
          refine lv_dup2_11 hx hb dX3_noticeSince_38 rfl rfl ?_
          have g := inB_vp (gd_c h)
          have h := gd_e h
          refine n_iald hC hN 9 rfl g dX3_noticeSince_39 ?_
          refine lv_iconst (v := 1) hx hb dX3_noticeSince_40 rfl ?_
          refine lv_iadd hx hb dX3_noticeSince_41 ?_
          have g := inB_vp (gd_c h)
          have h := gd_e h
          obtain ⟨c_notices_10, ec_notices_10⟩ : ∃ y : Nat → Int32, y = upd c_notices_4 v5_3.toNatClampNeg ((c_notices_4 v5_3.toNatClampNeg) + 1) := ⟨_, rfl⟩
          have h := bd_e h c_notices_10 ec_notices_10
          refine n_iast hC hN 9 rfl g ec_notices_10 (ws' := wX3 E adc c_switches c_hosts c_renewing c_priorities c_names c_wants c_blocks c_upTo c_clashedTo c_zoneSets c_places c_notices_10 c_news_5) rfl dX3_noticeSince_42 (fun H locs hN => ?_)
          refine lv_aload_n hx hb dX3_noticeSince_43 rfl (lv_at hl 1 rfl) ?_
          refine gt_X3_news hC hN 0 rfl rfl dX3_noticeSince_44 ?_
          refine lv_iload hx hb dX3_noticeSince_47 (lv_at hl 4 rfl) ?_
          refine lv_iload hx hb dX3_noticeSince_49 (lv_at hl 0 rfl) ?_
          have g := inB_vp (gd_c h)
          have h := gd_e h
          obtain ⟨c_news_11, ec_news_11⟩ : ∃ y : Nat → Int32, y = upd c_news_5 v5_3.toNatClampNeg r_7 := ⟨_, rfl⟩
          have h := bd_e h c_news_11 ec_news_11
          refine n_iast hC hN 10 rfl g ec_news_11 (ws' := wX3 E adc c_switches c_hosts c_renewing c_priorities c_names c_wants c_blocks c_upTo c_clashedTo c_zoneSets c_places c_notices_10 c_news_11) rfl dX3_noticeSince_51 (fun H locs hN => ?_)
          obtain ⟨v5_12, ev5_12⟩ : ∃ y : Int32, y = v5_3 + 1 := ⟨_, rfl⟩
          have h := bd_e h v5_12 ev5_12
          refine lv_iinc (v := v5_12) (lv' := [(5, .int v5_12), (6, .int r_7), (0, .ref (adc 0)), (1, .long p1), (3, .long v3_2)]) hx hb dX3_noticeSince_52 hl (k := 4) rfl (by rw [ev5_12]; rfl) (by decide) rfl (fun ls hl => ?_)
          refine lv_goto (tgt := 10) hx hb dX3_noticeSince_55 (by decide) ?_
          exact ih v5_12 c_notices_10 c_news_11 z _ _ _ hN (lv_sub hl [2, 3, 4, 0] rfl) h K
  obtain ⟨z_13, hz_13, h⟩ := bi_e h
  refine L1 500 0 c_notices c_news z_13 _ _ _ hN (lv_sub hl [2, 3, 1, 0] rfl) hz_13 (fun H locs ls hN hl => ?_)
  obtain rfl := Option.some.inj h
  exact n_vret hC hN dX3_noticeSince_58
set_option maxHeartbeats 4000000 in
set_option maxRecDepth 100000 in
theorem tX4_told (l : Launch) (E : EV) (adc : Nat → Nat) (adt : Nat → Nat) (c_awaited : Int32) (c_priority : Int32) (c_name : Int32) (t_switches : Int32) (t_hosts : Int32) (t_renewing : Int32) (t_priorities : Nat → Int32) (t_names : Nat → Int32) (t_wants : Nat → Int32) (t_blocks : Nat → Int32) (t_upTo : Nat → Int32) (t_clashedTo : Nat → Int32) (t_zoneSets : Nat → Int32) (t_places : Nat → Int32) (t_notices : Nat → Int32) (t_news : Nat → Int32) (z : Unit) (h : fX4_told = some z) : Cn l E yX4_told cX4_told 1 (some (.object "NamedFabric$Net")) 0 0 [.ref (adc 0)] (cat [wX4 E adc adt c_awaited c_priority c_name, wX3 E adt t_switches t_hosts t_renewing t_priorities t_names t_wants t_blocks t_upTo t_clashedTo t_zoneSets t_places t_notices t_news]) (cat [wX4 E adc adt c_awaited c_priority c_name, wX3 E adt t_switches t_hosts t_renewing t_priorities t_names t_wants t_blocks t_upTo t_clashedTo t_zoneSets t_places t_notices t_news]) (some (.ref (adt 0))) := by
  refine Cn.ofW (by decide +kernel) (Nat.le_of_ble_eq_true rfl) ?_
  intro p e s m args below meth c ls hC hN hl
  have hl : lv_has ls 1 [(0, .ref (adc 0))] := hl
  have hx := hC.1
  have hb := hC.2.1
  unfold fX4_told at h
  refine lv_aload_n hx hb dX4_told_0 rfl (lv_at hl 0 rfl) ?_
  refine gt_X4_told hC hN 0 rfl rfl dX4_told_1 ?_
  obtain rfl := Option.some.inj h
  exact n_aret hC hN dX4_told_4
set_option maxHeartbeats 4000000 in
set_option maxRecDepth 100000 in
theorem tX5_letterAt (l : Launch) (E : EV) (adc : Nat → Nat) (c_letters : Nat → Int32) (c_size : Int32) (p1 : Int32) (z : Int32) (h : fX5_letterAt c_letters c_size p1 = some z) : Cn l E yX5_letterAt cX5_letterAt 2 (some .int) 0 0 [.ref (adc 0), .int p1] (wX5 E adc c_letters c_size) (wX5 E adc c_letters c_size) (some (.int z)) := by
  refine Cn.ofW (by decide +kernel) (Nat.le_of_ble_eq_true rfl) ?_
  intro p e s m args below meth c ls hC hN hl
  have hl : lv_has ls 2 [(0, .ref (adc 0)), (1, .int p1)] := hl
  have hx := hC.1
  have hb := hC.2.1
  unfold fX5_letterAt at h
  refine lv_iload_n hx hb dX5_letterAt_0 rfl (lv_at hl 1 rfl) ?_
  refine lv_if_lt (tgt := 21) hx hb dX5_letterAt_1 (by decide) (fun c1 => ?_) (fun c1 => ?_)
  · have h := if_t h c1
    refine lv_iconst (v := -1) hx hb dX5_letterAt_21 rfl ?_
    obtain rfl := Option.some.inj h
    exact n_iret hC hN dX5_letterAt_22
  · have h := if_f h c1
    refine lv_iload_n hx hb dX5_letterAt_4 rfl (lv_at hl 1 rfl) ?_
    refine lv_aload_n hx hb dX5_letterAt_5 rfl (lv_at hl 0 rfl) ?_
    refine gt_X5_size hC hN 0 rfl rfl dX5_letterAt_6 ?_
    refine lv_icmp_ge (tgt := 21) hx hb dX5_letterAt_9 (by decide) (fun c2 => ?_) (fun c2 => ?_)
    · have h := if_t h c2
      refine lv_iconst (v := -1) hx hb dX5_letterAt_21 rfl ?_
      obtain rfl := Option.some.inj h
      exact n_iret hC hN dX5_letterAt_22
    · have h := if_f h c2
      refine lv_aload_n hx hb dX5_letterAt_12 rfl (lv_at hl 0 rfl) ?_
      refine gt_X5_letters hC hN 0 rfl rfl dX5_letterAt_13 ?_
      refine lv_iload_n hx hb dX5_letterAt_16 rfl (lv_at hl 1 rfl) ?_
      have g := inB_vp (gd_c h)
      have h := gd_e h
      refine n_iald hC hN 1 rfl g dX5_letterAt_17 ?_
      refine lv_goto (tgt := 22) hx hb dX5_letterAt_18 (by decide) ?_
      obtain rfl := Option.some.inj h
      exact n_iret hC hN dX5_letterAt_22
set_option maxHeartbeats 4000000 in
set_option maxRecDepth 100000 in
theorem tX5_skipBlanks (l : Launch) (E : EV) (adc : Nat → Nat) (c_letters : Nat → Int32) (c_size : Int32) (p1 : Int32) (z : Int32) (h : fX5_skipBlanks c_letters c_size p1 = some z) : Cn l E yX5_skipBlanks cX5_skipBlanks 3 (some .int) 1 21 [.ref (adc 0), .int p1] (wX5 E adc c_letters c_size) (wX5 E adc c_letters c_size) (some (.int z)) := by
  refine Cn.ofW (by decide +kernel) (Nat.le_of_ble_eq_true rfl) ?_
  intro p e s m args below meth c ls hC hN hl
  obtain ⟨z0, hz0⟩ : ∃ y, y = z := ⟨_, rfl⟩
  rw [← hz0] at h ⊢
  clear hz0
  have hl : lv_has ls 3 [(0, .ref (adc 0)), (1, .int p1)] := hl
  have hx := hC.1
  have hb := hC.2.1
  unfold fX5_skipBlanks at h
  refine lv_iload_n hx hb dX5_skipBlanks_0 rfl (lv_at hl 1 rfl) ?_
  refine lv_istore_n (lv' := [(2, .int p1), (0, .ref (adc 0)), (1, .int p1)]) hx hb dX5_skipBlanks_1 rfl hl (by decide) rfl (fun ls hl => ?_)
  have L1 : ∀ (fu : Nat) (v2_1 : Int32) (z : Int32) (H : Heap) (locs : List Loc) (ls : Array Slot), Nw E s (AD (wX5 E adc c_letters c_size)) (wX5 E adc c_letters c_size) H locs → lv_has ls 3 [(0, .ref (adc 0)), (1, .int p1), (2, .int v2_1)] → fX5_skipBlanks_L1 c_letters c_size fu v2_1 = some z → (∀ (H : Heap) (locs : List Loc) (ls : Array Slot), Nw E s (AD (wX5 E adc c_letters c_size)) (wX5 E adc c_letters c_size) H locs → lv_has ls 3 [(0, .ref (adc 0)), (1, .int p1), (2, .int z)] → WN p l e 1 21 s m args below meth c E (wX5 E adc c_letters c_size) (some (.int z0)) (wX5 E adc c_letters c_size) H locs (F0 m 26 ls [])) → WN p l e 1 21 s m args below meth c E (wX5 E adc c_letters c_size) (some (.int z0)) (wX5 E adc c_letters c_size) H locs (F0 m 2 ls []) := by
    intro fu
    induction fu with
    | zero =>
      intro v2_1 z H locs ls hN hl h K
      cases (show (none : Option (Int32)) = some z from h)
    | succ fu ih =>
      intro v2_1 z H locs ls hN hl h K
      rw [fX5_skipBlanks_L1.eq_2] at h
      refine lv_iload_n hx hb dX5_skipBlanks_2 rfl (lv_at hl 2 rfl) ?_
      refine lv_aload_n hx hb dX5_skipBlanks_3 rfl (lv_at hl 0 rfl) ?_
      refine gt_X5_size hC hN 0 rfl rfl dX5_skipBlanks_4 ?_
      refine lv_icmp_ge (tgt := 26) hx hb dX5_skipBlanks_7 (by decide) (fun c2 => ?_) (fun c2 => ?_)
      · have h := if_t h c2
        obtain rfl := Option.some.inj h
        exact K _ _ _ hN (lv_sub hl [0, 1, 2] rfl)
      · have h := if_f h c2
        refine lv_aload_n hx hb dX5_skipBlanks_10 rfl (lv_at hl 0 rfl) ?_
        refine lv_iload_n hx hb dX5_skipBlanks_11 rfl (lv_at hl 2 rfl) ?_
        obtain ⟨r_3, hr_3, h⟩ := bi_e h
        refine n_callVi (ws' := wX5 E adc c_letters c_size) hC hN (tX5_letterAt l E adc c_letters c_size v2_1 r_3 hr_3) cy_X5_letterAt mML_X5_19 mIM_X5_letterAt mSE_X5_letterAt rfl rfl (k := 0) rfl (perm_self _) (perm_self _) rfl rfl hl.1 rfl (Nat.le_of_ble_eq_true rfl) dX5_skipBlanks_12 ⟨Nat.le_of_ble_eq_true rfl, Nat.le_of_ble_eq_true rfl⟩ ⟨Nat.le_refl _, Nat.le_refl _⟩ (fun H locs hN => ?_)
        refine lv_bipush (v := 32) hx hb dX5_skipBlanks_15 (by decide) ?_
        refine lv_icmp_ne (tgt := 26) hx hb dX5_skipBlanks_17 (by decide) (fun c4 => ?_) (fun c4 => ?_)
        · have h := if_f h c4
          obtain rfl := Option.some.inj h
          exact K _ _ _ hN (lv_sub hl [0, 1, 2] rfl)
        · have h := if_t h c4
          obtain ⟨v2_5, ev2_5⟩ : ∃ y : Int32, y = v2_1 + 1 := ⟨_, rfl⟩
          have h := bd_e h v2_5 ev2_5
          refine lv_iinc (v := v2_5) (lv' := [(2, .int v2_5), (0, .ref (adc 0)), (1, .int p1)]) hx hb dX5_skipBlanks_20 hl (k := 2) rfl (by rw [ev2_5]; rfl) (by decide) rfl (fun ls hl => ?_)
          refine lv_goto (tgt := 2) hx hb dX5_skipBlanks_23 (by decide) ?_
          exact ih v2_5 z _ _ _ hN (lv_sub hl [1, 2, 0] rfl) h K
  obtain ⟨v2_6, hv2_6, h⟩ := bi_e h
  refine L1 500 p1 v2_6 _ _ _ hN (lv_sub hl [1, 2, 0] rfl) hv2_6 (fun H locs ls hN hl => ?_)
  refine lv_iload_n hx hb dX5_skipBlanks_26 rfl (lv_at hl 2 rfl) ?_
  obtain rfl := Option.some.inj h
  exact n_iret hC hN dX5_skipBlanks_27
set_option maxHeartbeats 4000000 in
set_option maxRecDepth 100000 in
theorem tX5_size (l : Launch) (E : EV) (adc : Nat → Nat) (c_letters : Nat → Int32) (c_size : Int32) (z : Int32) (h : fX5_size c_size = some z) : Cn l E yX5_size cX5_size 1 (some .int) 0 0 [.ref (adc 0)] (wX5 E adc c_letters c_size) (wX5 E adc c_letters c_size) (some (.int z)) := by
  refine Cn.ofW (by decide +kernel) (Nat.le_of_ble_eq_true rfl) ?_
  intro p e s m args below meth c ls hC hN hl
  have hl : lv_has ls 1 [(0, .ref (adc 0))] := hl
  have hx := hC.1
  have hb := hC.2.1
  unfold fX5_size at h
  refine lv_aload_n hx hb dX5_size_0 rfl (lv_at hl 0 rfl) ?_
  refine gt_X5_size hC hN 0 rfl rfl dX5_size_1 ?_
  obtain rfl := Option.some.inj h
  exact n_iret hC hN dX5_size_4
set_option maxHeartbeats 4000000 in
set_option maxRecDepth 100000 in
theorem tX5_isFigure (l : Launch) (E : EV) (adc : Nat → Nat) (c_letters : Nat → Int32) (c_size : Int32) (p1 : Int32) (z : Int32) (h : fX5_isFigure c_letters c_size p1 = some z) : Cn l E yX5_isFigure cX5_isFigure 2 (some .boolean) 1 21 [.ref (adc 0), .int p1] (wX5 E adc c_letters c_size) (wX5 E adc c_letters c_size) (some (.int z)) := by
  refine Cn.ofW (by decide +kernel) (Nat.le_of_ble_eq_true rfl) ?_
  intro p e s m args below meth c ls hC hN hl
  have hl : lv_has ls 2 [(0, .ref (adc 0)), (1, .int p1)] := hl
  have hx := hC.1
  have hb := hC.2.1
  unfold fX5_isFigure at h
  refine lv_aload_n hx hb dX5_isFigure_0 rfl (lv_at hl 0 rfl) ?_
  refine lv_iload_n hx hb dX5_isFigure_1 rfl (lv_at hl 1 rfl) ?_
  obtain ⟨r_1, hr_1, h⟩ := bi_e h
  refine n_callVi (ws' := wX5 E adc c_letters c_size) hC hN (tX5_letterAt l E adc c_letters c_size p1 r_1 hr_1) cy_X5_letterAt mML_X5_19 mIM_X5_letterAt mSE_X5_letterAt rfl rfl (k := 0) rfl (perm_self _) (perm_self _) rfl rfl hl.1 rfl (Nat.le_of_ble_eq_true rfl) dX5_isFigure_2 ⟨Nat.le_of_ble_eq_true rfl, Nat.le_of_ble_eq_true rfl⟩ ⟨Nat.le_refl _, Nat.le_refl _⟩ (fun H locs hN => ?_)
  refine lv_bipush (v := 48) hx hb dX5_isFigure_5 (by decide) ?_
  refine lv_icmp_lt (tgt := 24) hx hb dX5_isFigure_7 (by decide) (fun c2 => ?_) (fun c2 => ?_)
  · have h := if_t h c2
    refine lv_iconst (v := 0) hx hb dX5_isFigure_24 rfl ?_
    obtain rfl := Option.some.inj h
    exact n_zret hC hN (Or.inl rfl) dX5_isFigure_25
  · have h := if_f h c2
    refine lv_aload_n hx hb dX5_isFigure_10 rfl (lv_at hl 0 rfl) ?_
    refine lv_iload_n hx hb dX5_isFigure_11 rfl (lv_at hl 1 rfl) ?_
    obtain ⟨r_3, hr_3, h⟩ := bi_e h
    refine n_callVi (ws' := wX5 E adc c_letters c_size) hC hN (tX5_letterAt l E adc c_letters c_size p1 r_3 hr_3) cy_X5_letterAt mML_X5_19 mIM_X5_letterAt mSE_X5_letterAt rfl rfl (k := 0) rfl (perm_self _) (perm_self _) rfl rfl hl.1 rfl (Nat.le_of_ble_eq_true rfl) dX5_isFigure_12 ⟨Nat.le_of_ble_eq_true rfl, Nat.le_of_ble_eq_true rfl⟩ ⟨Nat.le_refl _, Nat.le_refl _⟩ (fun H locs hN => ?_)
    refine lv_bipush (v := 57) hx hb dX5_isFigure_15 (by decide) ?_
    refine lv_icmp_gt (tgt := 24) hx hb dX5_isFigure_17 (by decide) (fun c4 => ?_) (fun c4 => ?_)
    · have h := if_t h c4
      refine lv_iconst (v := 0) hx hb dX5_isFigure_24 rfl ?_
      obtain rfl := Option.some.inj h
      exact n_zret hC hN (Or.inl rfl) dX5_isFigure_25
    · have h := if_f h c4
      refine lv_iconst (v := 1) hx hb dX5_isFigure_20 rfl ?_
      refine lv_goto (tgt := 25) hx hb dX5_isFigure_21 (by decide) ?_
      obtain rfl := Option.some.inj h
      exact n_zret hC hN (Or.inr rfl) dX5_isFigure_25
set_option maxHeartbeats 4000000 in
set_option maxRecDepth 100000 in
theorem tX5_tokenEnd (l : Launch) (E : EV) (adc : Nat → Nat) (c_letters : Nat → Int32) (c_size : Int32) (p1 : Int32) (z : Int32) (h : fX5_tokenEnd c_letters c_size p1 = some z) : Cn l E yX5_tokenEnd cX5_tokenEnd 3 (some .int) 2 42 [.ref (adc 0), .int p1] (wX5 E adc c_letters c_size) (wX5 E adc c_letters c_size) (some (.int z)) := by
  refine Cn.ofW (by decide +kernel) (Nat.le_of_ble_eq_true rfl) ?_
  intro p e s m args below meth c ls hC hN hl
  obtain ⟨z0, hz0⟩ : ∃ y, y = z := ⟨_, rfl⟩
  rw [← hz0] at h ⊢
  clear hz0
  have hl : lv_has ls 3 [(0, .ref (adc 0)), (1, .int p1)] := hl
  have hx := hC.1
  have hb := hC.2.1
  unfold fX5_tokenEnd at h
  refine lv_iload_n hx hb dX5_tokenEnd_0 rfl (lv_at hl 1 rfl) ?_
  refine lv_iconst (v := 1) hx hb dX5_tokenEnd_1 rfl ?_
  refine lv_iadd hx hb dX5_tokenEnd_2 ?_
  refine lv_topi (fun v2_1 ev2_1 => ?_)
  have h := bd_e h v2_1 ev2_1
  refine lv_istore_n (lv' := [(2, .int v2_1), (0, .ref (adc 0)), (1, .int p1)]) hx hb dX5_tokenEnd_3 rfl hl (by decide) rfl (fun ls hl => ?_)
  refine lv_aload_n hx hb dX5_tokenEnd_4 rfl (lv_at hl 1 rfl) ?_
  refine lv_iload_n hx hb dX5_tokenEnd_5 rfl (lv_at hl 2 rfl) ?_
  obtain ⟨r_2, hr_2, h⟩ := bi_e h
  refine n_callVi (ws' := wX5 E adc c_letters c_size) hC hN (tX5_isFigure l E adc c_letters c_size p1 r_2 hr_2) cy_X5_isFigure mML_X5_23 mIM_X5_isFigure mSE_X5_isFigure rfl rfl (k := 0) rfl (perm_self _) (perm_self _) rfl rfl hl.1 rfl (Nat.le_of_ble_eq_true rfl) dX5_tokenEnd_6 ⟨Nat.le_of_ble_eq_true rfl, Nat.le_of_ble_eq_true rfl⟩ ⟨Nat.le_refl _, Nat.le_refl _⟩ (fun H locs hN => ?_)
  refine lv_if_eq (tgt := 34) hx hb dX5_tokenEnd_9 (by decide) (fun c3 => ?_) (fun c3 => ?_)
  · have h := if_t h c3
    refine lv_iload_n hx hb dX5_tokenEnd_34 rfl (lv_at hl 0 rfl) ?_
    obtain rfl := Option.some.inj h
    exact n_iret hC hN dX5_tokenEnd_35
  · have h := if_f h c3
    have L1 : ∀ (fu : Nat) (v2_4 : Int32) (z : Int32) (H : Heap) (locs : List Loc) (ls : Array Slot), Nw E s (AD (wX5 E adc c_letters c_size)) (wX5 E adc c_letters c_size) H locs → lv_has ls 3 [(0, .ref (adc 0)), (1, .int p1), (2, .int v2_4)] → fX5_tokenEnd_L1 c_letters c_size fu v2_4 = some z → (∀ (H : Heap) (locs : List Loc) (ls : Array Slot), Nw E s (AD (wX5 E adc c_letters c_size)) (wX5 E adc c_letters c_size) H locs → lv_has ls 3 [(0, .ref (adc 0)), (1, .int p1), (2, .int z)] → WN p l e 2 42 s m args below meth c E (wX5 E adc c_letters c_size) (some (.int z0)) (wX5 E adc c_letters c_size) H locs (F0 m 34 ls [])) → WN p l e 2 42 s m args below meth c E (wX5 E adc c_letters c_size) (some (.int z0)) (wX5 E adc c_letters c_size) H locs (F0 m 12 ls []) := by
      intro fu
      induction fu with
      | zero =>
        intro v2_4 z H locs ls hN hl h K
        cases (show (none : Option (Int32)) = some z from h)
      | succ fu ih =>
        intro v2_4 z H locs ls hN hl h K
        rw [fX5_tokenEnd_L1.eq_2] at h
        refine lv_iload_n hx hb dX5_tokenEnd_12 rfl (lv_at hl 2 rfl) ?_
        refine lv_aload_n hx hb dX5_tokenEnd_13 rfl (lv_at hl 0 rfl) ?_
        refine gt_X5_size hC hN 0 rfl rfl dX5_tokenEnd_14 ?_
        refine lv_icmp_ge (tgt := 34) hx hb dX5_tokenEnd_17 (by decide) (fun c5 => ?_) (fun c5 => ?_)
        · have h := if_t h c5
          obtain rfl := Option.some.inj h
          exact K _ _ _ hN (lv_sub hl [0, 1, 2] rfl)
        · have h := if_f h c5
          refine lv_aload_n hx hb dX5_tokenEnd_20 rfl (lv_at hl 0 rfl) ?_
          refine lv_iload_n hx hb dX5_tokenEnd_21 rfl (lv_at hl 2 rfl) ?_
          obtain ⟨r_6, hr_6, h⟩ := bi_e h
          refine n_callVi (ws' := wX5 E adc c_letters c_size) hC hN (tX5_isFigure l E adc c_letters c_size v2_4 r_6 hr_6) cy_X5_isFigure mML_X5_23 mIM_X5_isFigure mSE_X5_isFigure rfl rfl (k := 0) rfl (perm_self _) (perm_self _) rfl rfl hl.1 rfl (Nat.le_of_ble_eq_true rfl) dX5_tokenEnd_22 ⟨Nat.le_of_ble_eq_true rfl, Nat.le_of_ble_eq_true rfl⟩ ⟨Nat.le_refl _, Nat.le_refl _⟩ (fun H locs hN => ?_)
          refine lv_if_eq (tgt := 34) hx hb dX5_tokenEnd_25 (by decide) (fun c7 => ?_) (fun c7 => ?_)
          · have h := if_t h c7
            obtain rfl := Option.some.inj h
            exact K _ _ _ hN (lv_sub hl [0, 1, 2] rfl)
          · have h := if_f h c7
            obtain ⟨v2_8, ev2_8⟩ : ∃ y : Int32, y = v2_4 + 1 := ⟨_, rfl⟩
            have h := bd_e h v2_8 ev2_8
            refine lv_iinc (v := v2_8) (lv' := [(2, .int v2_8), (0, .ref (adc 0)), (1, .int p1)]) hx hb dX5_tokenEnd_28 hl (k := 2) rfl (by rw [ev2_8]; rfl) (by decide) rfl (fun ls hl => ?_)
            refine lv_goto (tgt := 12) hx hb dX5_tokenEnd_31 (by decide) ?_
            exact ih v2_8 z _ _ _ hN (lv_sub hl [1, 2, 0] rfl) h K
    obtain ⟨v2_9, hv2_9, h⟩ := bi_e h
    refine L1 500 v2_1 v2_9 _ _ _ hN (lv_sub hl [1, 2, 0] rfl) hv2_9 (fun H locs ls hN hl => ?_)
    refine lv_iload_n hx hb dX5_tokenEnd_34 rfl (lv_at hl 2 rfl) ?_
    obtain rfl := Option.some.inj h
    exact n_iret hC hN dX5_tokenEnd_35
set_option maxHeartbeats 4000000 in
set_option maxRecDepth 100000 in
theorem tX5_numberAt (l : Launch) (E : EV) (adc : Nat → Nat) (c_letters : Nat → Int32) (c_size : Int32) (p1 : Int32) (p2 : Int32) (z : Int32) (h : fX5_numberAt c_letters c_size p1 p2 = some z) : Cn l E yX5_numberAt cX5_numberAt 4 (some .int) 2 42 [.ref (adc 0), .int p1, .int p2] (wX5 E adc c_letters c_size) (wX5 E adc c_letters c_size) (some (.int z)) := by
  refine Cn.ofW (by decide +kernel) (Nat.le_of_ble_eq_true rfl) ?_
  intro p e s m args below meth c ls hC hN hl
  have hl : lv_has ls 4 [(0, .ref (adc 0)), (1, .int p1), (2, .int p2)] := hl
  have hx := hC.1
  have hb := hC.2.1
  unfold fX5_numberAt at h
  refine lv_aload_n hx hb dX5_numberAt_0 rfl (lv_at hl 0 rfl) ?_
  refine lv_iload_n hx hb dX5_numberAt_1 rfl (lv_at hl 1 rfl) ?_
  obtain ⟨r_1, hr_1, h⟩ := bi_e h
  refine n_callVi (ws' := wX5 E adc c_letters c_size) hC hN (tX5_isFigure l E adc c_letters c_size p1 r_1 hr_1) cy_X5_isFigure mML_X5_23 mIM_X5_isFigure mSE_X5_isFigure rfl rfl (k := 0) rfl (perm_self _) (perm_self _) rfl rfl hl.1 rfl (Nat.le_of_ble_eq_true rfl) dX5_numberAt_2 ⟨Nat.le_of_ble_eq_true rfl, Nat.le_of_ble_eq_true rfl⟩ ⟨Nat.le_refl _, Nat.le_refl _⟩ (fun H locs hN => ?_)
  refine lv_if_eq (tgt := 15) hx hb dX5_numberAt_5 (by decide) (fun c2 => ?_) (fun c2 => ?_)
  · have h := if_t h c2
    refine lv_iconst (v := -1) hx hb dX5_numberAt_15 rfl ?_
    obtain rfl := Option.some.inj h
    exact n_iret hC hN dX5_numberAt_16
  · have h := if_f h c2
    refine lv_iload_n hx hb dX5_numberAt_8 rfl (lv_at hl 2 rfl) ?_
    refine lv_iload_n hx hb dX5_numberAt_9 rfl (lv_at hl 1 rfl) ?_
    refine lv_isub hx hb dX5_numberAt_10 ?_
    refine lv_iconst (v := 2) hx hb dX5_numberAt_11 rfl ?_
    refine lv_icmp_le (tgt := 17) hx hb dX5_numberAt_12 (by decide) (fun c3 => ?_) (fun c3 => ?_)
    · have h := if_t h c3
      refine lv_aload_n hx hb dX5_numberAt_17 rfl (lv_at hl 0 rfl) ?_
      refine lv_iload_n hx hb dX5_numberAt_18 rfl (lv_at hl 1 rfl) ?_
      obtain ⟨r_4, hr_4, h⟩ := bi_e h
      refine n_callVi (ws' := wX5 E adc c_letters c_size) hC hN (tX5_letterAt l E adc c_letters c_size p1 r_4 hr_4) cy_X5_letterAt mML_X5_19 mIM_X5_letterAt mSE_X5_letterAt rfl rfl (k := 0) rfl (perm_self _) (perm_self _) rfl rfl hl.1 rfl (Nat.le_of_ble_eq_true rfl) dX5_numberAt_19 ⟨Nat.le_of_ble_eq_true rfl, Nat.le_of_ble_eq_true rfl⟩ ⟨Nat.le_refl _, Nat.le_refl _⟩ (fun H locs hN => ?_)
      refine lv_bipush (v := 48) hx hb dX5_numberAt_22 (by decide) ?_
      refine lv_isub hx hb dX5_numberAt_24 ?_
      refine lv_topi (fun v3_5 ev3_5 => ?_)
      have h := bd_e h v3_5 ev3_5
      refine lv_istore_n (lv' := [(3, .int v3_5), (0, .ref (adc 0)), (1, .int p1), (2, .int p2)]) hx hb dX5_numberAt_25 rfl hl (by decide) rfl (fun ls hl => ?_)
      refine lv_iload_n hx hb dX5_numberAt_26 rfl (lv_at hl 3 rfl) ?_
      refine lv_iload_n hx hb dX5_numberAt_27 rfl (lv_at hl 2 rfl) ?_
      refine lv_isub hx hb dX5_numberAt_28 ?_
      refine lv_iconst (v := 1) hx hb dX5_numberAt_29 rfl ?_
      refine lv_icmp_ne (tgt := 35) hx hb dX5_numberAt_30 (by decide) (fun c6 => ?_) (fun c6 => ?_)
      · have h := if_f h c6
        refine lv_iload_n hx hb dX5_numberAt_35 rfl (lv_at hl 0 rfl) ?_
        refine lv_if_ne (tgt := 43) hx hb dX5_numberAt_36 (by decide) (fun c7 => ?_) (fun c7 => ?_)
        · have h := if_f h c7
          refine lv_bipush (v := 10) hx hb dX5_numberAt_43 (by decide) ?_
          refine lv_iload_n hx hb dX5_numberAt_45 rfl (lv_at hl 0 rfl) ?_
          refine lv_imul hx hb dX5_numberAt_46 ?_
          refine lv_aload_n hx hb dX5_numberAt_47 rfl (lv_at hl 1 rfl) ?_
          refine lv_iload_n hx hb dX5_numberAt_48 rfl (lv_at hl 2 rfl) ?_
          refine lv_iconst (v := 1) hx hb dX5_numberAt_49 rfl ?_
          refine lv_iadd hx hb dX5_numberAt_50 ?_
          obtain ⟨r_8, hr_8, h⟩ := bi_e h
          refine n_callVi (ws' := wX5 E adc c_letters c_size) hC hN (tX5_letterAt l E adc c_letters c_size (p1 + 1) r_8 hr_8) cy_X5_letterAt mML_X5_19 mIM_X5_letterAt mSE_X5_letterAt rfl rfl (k := 0) rfl (perm_self _) (perm_self _) rfl rfl hl.1 rfl (Nat.le_of_ble_eq_true rfl) dX5_numberAt_51 ⟨Nat.le_of_ble_eq_true rfl, Nat.le_of_ble_eq_true rfl⟩ ⟨Nat.le_refl _, Nat.le_refl _⟩ (fun H locs hN => ?_)
          refine lv_iadd hx hb dX5_numberAt_54 ?_
          refine lv_bipush (v := 48) hx hb dX5_numberAt_55 (by decide) ?_
          refine lv_isub hx hb dX5_numberAt_57 ?_
          obtain rfl := Option.some.inj h
          exact n_iret hC hN dX5_numberAt_58
        · have h := if_t h c7
          refine lv_iconst (v := -1) hx hb dX5_numberAt_39 rfl ?_
          refine lv_goto (tgt := 58) hx hb dX5_numberAt_40 (by decide) ?_
          obtain rfl := Option.some.inj h
          exact n_iret hC hN dX5_numberAt_58
      · have h := if_t h c6
        refine lv_iload_n hx hb dX5_numberAt_33 rfl (lv_at hl 0 rfl) ?_
        obtain rfl := Option.some.inj h
        exact n_iret hC hN dX5_numberAt_34
    · have h := if_f h c3
      refine lv_iconst (v := -1) hx hb dX5_numberAt_15 rfl ?_
      obtain rfl := Option.some.inj h
      exact n_iret hC hN dX5_numberAt_16
set_option maxHeartbeats 4000000 in
set_option maxRecDepth 100000 in
theorem tX4_takesItem (l : Launch) (E : EV) (adc : Nat → Nat) (adt : Nat → Nat) (c_awaited : Int32) (c_priority : Int32) (c_name : Int32) (t_switches : Int32) (t_hosts : Int32) (t_renewing : Int32) (t_priorities : Nat → Int32) (t_names : Nat → Int32) (t_wants : Nat → Int32) (t_blocks : Nat → Int32) (t_upTo : Nat → Int32) (t_clashedTo : Nat → Int32) (t_zoneSets : Nat → Int32) (t_places : Nat → Int32) (t_notices : Nat → Int32) (t_news : Nat → Int32) (p1 : Int32) (z : Int32 × Int32) (h : fX4_takesItem t_switches t_hosts p1 = some z) : Cn l E yX4_takesItem cX4_takesItem 2 (some .boolean) 1 20 [.ref (adc 0), .int p1] (cat [wX4 E adc adt c_awaited c_priority c_name, wX3 E adt t_switches t_hosts t_renewing t_priorities t_names t_wants t_blocks t_upTo t_clashedTo t_zoneSets t_places t_notices t_news]) (cat [wX4 E adc adt z.2 c_priority c_name, wX3 E adt t_switches t_hosts t_renewing t_priorities t_names t_wants t_blocks t_upTo t_clashedTo t_zoneSets t_places t_notices t_news]) (some (.int z.1)) := by
  refine Cn.ofW (by decide +kernel) (Nat.le_of_ble_eq_true rfl) ?_
  intro p e s m args below meth c ls hC hN hl
  have hl : lv_has ls 2 [(0, .ref (adc 0)), (1, .int p1)] := hl
  have hx := hC.1
  have hb := hC.2.1
  unfold fX4_takesItem at h
  refine lv_iload_n hx hb dX4_takesItem_0 rfl (lv_at hl 1 rfl) ?_
  refine lv_bipush (v := 115) hx hb dX4_takesItem_1 (by decide) ?_
  refine lv_icmp_ne (tgt := 39) hx hb dX4_takesItem_3 (by decide) (fun c1 => ?_) (fun c1 => ?_)
  · have h := if_f h c1
    refine lv_aload_n hx hb dX4_takesItem_39 rfl (lv_at hl 0 rfl) ?_
    refine lv_iconst (v := 4) hx hb dX4_takesItem_40 rfl ?_
    refine pt_X4_awaited hC hN 0 rfl (Nat.le_of_ble_eq_true rfl) (ws' := cat [wX4 E adc adt 4 c_priority c_name, wX3 E adt t_switches t_hosts t_renewing t_priorities t_names t_wants t_blocks t_upTo t_clashedTo t_zoneSets t_places t_notices t_news]) rfl dX4_takesItem_41 (fun H locs hN => ?_)
    refine lv_iload_n hx hb dX4_takesItem_44 rfl (lv_at hl 1 rfl) ?_
    refine lv_bipush (v := 104) hx hb dX4_takesItem_45 (by decide) ?_
    refine lv_icmp_ne (tgt := 76) hx hb dX4_takesItem_47 (by decide) (fun c2 => ?_) (fun c2 => ?_)
    · have h := if_f h c2
      refine lv_iconst (v := 0) hx hb dX4_takesItem_76 rfl ?_
      obtain rfl := Option.some.inj h
      exact n_zret hC hN (Or.inl rfl) dX4_takesItem_77
    · have h := if_t h c2
      refine lv_aload_n hx hb dX4_takesItem_50 rfl (lv_at hl 0 rfl) ?_
      refine gt_X4_told hC hN 0 rfl rfl dX4_takesItem_51 ?_
      obtain ⟨r_3, hr_3, h⟩ := bi_e h
      refine n_callVi (ws' := cat [wX4 E adc adt 4 c_priority c_name, wX3 E adt t_switches t_hosts t_renewing t_priorities t_names t_wants t_blocks t_upTo t_clashedTo t_zoneSets t_places t_notices t_news]) hC hN (tX3_switchTotal l E adt t_switches t_hosts t_renewing t_priorities t_names t_wants t_blocks t_upTo t_clashedTo t_zoneSets t_places t_notices t_news r_3 hr_3) cy_X3_switchTotal mML_X4_49 mIM_X3_switchTotal mSE_X3_switchTotal rfl rfl (k := 0) rfl (cat_perm [wX4 E adc adt 4 c_priority c_name, wX3 E adt t_switches t_hosts t_renewing t_priorities t_names t_wants t_blocks t_upTo t_clashedTo t_zoneSets t_places t_notices t_news] 2 rfl [1] [0] (by decide)) (cat_perm [wX4 E adc adt 4 c_priority c_name, wX3 E adt t_switches t_hosts t_renewing t_priorities t_names t_wants t_blocks t_upTo t_clashedTo t_zoneSets t_places t_notices t_news] 2 rfl [1] [0] (by decide)) rfl rfl hl.1 rfl (Nat.le_of_ble_eq_true rfl) dX4_takesItem_54 ⟨Nat.le_of_ble_eq_true rfl, Nat.le_of_ble_eq_true rfl⟩ ⟨Nat.le_refl _, Nat.le_refl _⟩ (fun H locs hN => ?_)
      refine lv_if_le (tgt := 76) hx hb dX4_takesItem_57 (by decide) (fun c4 => ?_) (fun c4 => ?_)
      · have h := if_t h c4
        refine lv_iconst (v := 0) hx hb dX4_takesItem_76 rfl ?_
        obtain rfl := Option.some.inj h
        exact n_zret hC hN (Or.inl rfl) dX4_takesItem_77
      · have h := if_f h c4
        refine lv_aload_n hx hb dX4_takesItem_60 rfl (lv_at hl 0 rfl) ?_
        refine gt_X4_told hC hN 0 rfl rfl dX4_takesItem_61 ?_
        obtain ⟨r_5, hr_5, h⟩ := bi_e h
        refine n_callVi (ws' := cat [wX4 E adc adt 4 c_priority c_name, wX3 E adt t_switches t_hosts t_renewing t_priorities t_names t_wants t_blocks t_upTo t_clashedTo t_zoneSets t_places t_notices t_news]) hC hN (tX3_hostTotal l E adt t_switches t_hosts t_renewing t_priorities t_names t_wants t_blocks t_upTo t_clashedTo t_zoneSets t_places t_notices t_news r_5 hr_5) cy_X3_hostTotal mML_X4_68 mIM_X3_hostTotal mSE_X3_hostTotal rfl rfl (k := 0) rfl (cat_perm [wX4 E adc adt 4 c_priority c_name, wX3 E adt t_switches t_hosts t_renewing t_priorities t_names t_wants t_blocks t_upTo t_clashedTo t_zoneSets t_places t_notices t_news] 2 rfl [1] [0] (by decide)) (cat_perm [wX4 E adc adt 4 c_priority c_name, wX3 E adt t_switches t_hosts t_renewing t_priorities t_names t_wants t_blocks t_upTo t_clashedTo t_zoneSets t_places t_notices t_news] 2 rfl [1] [0] (by decide)) rfl rfl hl.1 rfl (Nat.le_of_ble_eq_true rfl) dX4_takesItem_64 ⟨Nat.le_of_ble_eq_true rfl, Nat.le_of_ble_eq_true rfl⟩ ⟨Nat.le_refl _, Nat.le_refl _⟩ (fun H locs hN => ?_)
        refine lv_bipush (v := 8) hx hb dX4_takesItem_67 (by decide) ?_
        refine lv_icmp_ge (tgt := 76) hx hb dX4_takesItem_69 (by decide) (fun c6 => ?_) (fun c6 => ?_)
        · have h := if_t h c6
          refine lv_iconst (v := 0) hx hb dX4_takesItem_76 rfl ?_
          obtain rfl := Option.some.inj h
          exact n_zret hC hN (Or.inl rfl) dX4_takesItem_77
        · have h := if_f h c6
          refine lv_iconst (v := 1) hx hb dX4_takesItem_72 rfl ?_
          refine lv_goto (tgt := 77) hx hb dX4_takesItem_73 (by decide) ?_
          obtain rfl := Option.some.inj h
          exact n_zret hC hN (Or.inr rfl) dX4_takesItem_77
  · have h := if_t h c1
    refine lv_aload_n hx hb dX4_takesItem_6 rfl (lv_at hl 0 rfl) ?_
    refine lv_iconst (v := 1) hx hb dX4_takesItem_7 rfl ?_
    refine pt_X4_awaited hC hN 0 rfl (Nat.le_of_ble_eq_true rfl) (ws' := cat [wX4 E adc adt 1 c_priority c_name, wX3 E adt t_switches t_hosts t_renewing t_priorities t_names t_wants t_blocks t_upTo t_clashedTo t_zoneSets t_places t_notices t_news]) rfl dX4_takesItem_8 (fun H locs hN => ?_)
    refine lv_aload_n hx hb dX4_takesItem_11 rfl (lv_at hl 0 rfl) ?_
    refine gt_X4_told hC hN 0 rfl rfl dX4_takesItem_12 ?_
    obtain ⟨r_7, hr_7, h⟩ := bi_e h
    refine n_callVi (ws' := cat [wX4 E adc adt 1 c_priority c_name, wX3 E adt t_switches t_hosts t_renewing t_priorities t_names t_wants t_blocks t_upTo t_clashedTo t_zoneSets t_places t_notices t_news]) hC hN (tX3_hostTotal l E adt t_switches t_hosts t_renewing t_priorities t_names t_wants t_blocks t_upTo t_clashedTo t_zoneSets t_places t_notices t_news r_7 hr_7) cy_X3_hostTotal mML_X4_68 mIM_X3_hostTotal mSE_X3_hostTotal rfl rfl (k := 0) rfl (cat_perm [wX4 E adc adt 1 c_priority c_name, wX3 E adt t_switches t_hosts t_renewing t_priorities t_names t_wants t_blocks t_upTo t_clashedTo t_zoneSets t_places t_notices t_news] 2 rfl [1] [0] (by decide)) (cat_perm [wX4 E adc adt 1 c_priority c_name, wX3 E adt t_switches t_hosts t_renewing t_priorities t_names t_wants t_blocks t_upTo t_clashedTo t_zoneSets t_places t_notices t_news] 2 rfl [1] [0] (by decide)) rfl rfl hl.1 rfl (Nat.le_of_ble_eq_true rfl) dX4_takesItem_15 ⟨Nat.le_of_ble_eq_true rfl, Nat.le_of_ble_eq_true rfl⟩ ⟨Nat.le_refl _, Nat.le_refl _⟩ (fun H locs hN => ?_)
    refine lv_if_ne (tgt := 37) hx hb dX4_takesItem_18 (by decide) (fun c8 => ?_) (fun c8 => ?_)
    · have h := if_f h c8
      refine lv_iconst (v := 0) hx hb dX4_takesItem_37 rfl ?_
      obtain rfl := Option.some.inj h
      exact n_zret hC hN (Or.inl rfl) dX4_takesItem_38
    · have h := if_t h c8
      refine lv_aload_n hx hb dX4_takesItem_21 rfl (lv_at hl 0 rfl) ?_
      refine gt_X4_told hC hN 0 rfl rfl dX4_takesItem_22 ?_
      obtain ⟨r_9, hr_9, h⟩ := bi_e h
      refine n_callVi (ws' := cat [wX4 E adc adt 1 c_priority c_name, wX3 E adt t_switches t_hosts t_renewing t_priorities t_names t_wants t_blocks t_upTo t_clashedTo t_zoneSets t_places t_notices t_news]) hC hN (tX3_switchTotal l E adt t_switches t_hosts t_renewing t_priorities t_names t_wants t_blocks t_upTo t_clashedTo t_zoneSets t_places t_notices t_news r_9 hr_9) cy_X3_switchTotal mML_X4_49 mIM_X3_switchTotal mSE_X3_switchTotal rfl rfl (k := 0) rfl (cat_perm [wX4 E adc adt 1 c_priority c_name, wX3 E adt t_switches t_hosts t_renewing t_priorities t_names t_wants t_blocks t_upTo t_clashedTo t_zoneSets t_places t_notices t_news] 2 rfl [1] [0] (by decide)) (cat_perm [wX4 E adc adt 1 c_priority c_name, wX3 E adt t_switches t_hosts t_renewing t_priorities t_names t_wants t_blocks t_upTo t_clashedTo t_zoneSets t_places t_notices t_news] 2 rfl [1] [0] (by decide)) rfl rfl hl.1 rfl (Nat.le_of_ble_eq_true rfl) dX4_takesItem_25 ⟨Nat.le_of_ble_eq_true rfl, Nat.le_of_ble_eq_true rfl⟩ ⟨Nat.le_refl _, Nat.le_refl _⟩ (fun H locs hN => ?_)
      refine lv_bipush (v := 6) hx hb dX4_takesItem_28 (by decide) ?_
      refine lv_icmp_ge (tgt := 37) hx hb dX4_takesItem_30 (by decide) (fun c10 => ?_) (fun c10 => ?_)
      · have h := if_t h c10
        refine lv_iconst (v := 0) hx hb dX4_takesItem_37 rfl ?_
        obtain rfl := Option.some.inj h
        exact n_zret hC hN (Or.inl rfl) dX4_takesItem_38
      · have h := if_f h c10
        refine lv_iconst (v := 1) hx hb dX4_takesItem_33 rfl ?_
        refine lv_goto (tgt := 38) hx hb dX4_takesItem_34 (by decide) ?_
        obtain rfl := Option.some.inj h
        exact n_zret hC hN (Or.inr rfl) dX4_takesItem_38
set_option maxHeartbeats 4000000 in
set_option maxRecDepth 100000 in
theorem tX4_takesPriority (l : Launch) (E : EV) (adc : Nat → Nat) (adt : Nat → Nat) (c_awaited : Int32) (c_priority : Int32) (c_name : Int32) (t_switches : Int32) (t_hosts : Int32) (t_renewing : Int32) (t_priorities : Nat → Int32) (t_names : Nat → Int32) (t_wants : Nat → Int32) (t_blocks : Nat → Int32) (t_upTo : Nat → Int32) (t_clashedTo : Nat → Int32) (t_zoneSets : Nat → Int32) (t_places : Nat → Int32) (t_notices : Nat → Int32) (t_news : Nat → Int32) (p1 : Int32) (z : Int32 × Int32 × Int32) (h : fX4_takesPriority p1 = some z) : Cn l E yX4_takesPriority cX4_takesPriority 2 (some .boolean) 0 0 [.ref (adc 0), .int p1] (cat [wX4 E adc adt c_awaited c_priority c_name, wX3 E adt t_switches t_hosts t_renewing t_priorities t_names t_wants t_blocks t_upTo t_clashedTo t_zoneSets t_places t_notices t_news]) (cat [wX4 E adc adt z.2.1 z.2.2 c_name, wX3 E adt t_switches t_hosts t_renewing t_priorities t_names t_wants t_blocks t_upTo t_clashedTo t_zoneSets t_places t_notices t_news]) (some (.int z.1)) := by
  refine Cn.ofW (by decide +kernel) (Nat.le_of_ble_eq_true rfl) ?_
  intro p e s m args below meth c ls hC hN hl
  have hl : lv_has ls 2 [(0, .ref (adc 0)), (1, .int p1)] := hl
  have hx := hC.1
  have hb := hC.2.1
  unfold fX4_takesPriority at h
  refine lv_aload_n hx hb dX4_takesPriority_0 rfl (lv_at hl 0 rfl) ?_
  refine lv_iload_n hx hb dX4_takesPriority_1 rfl (lv_at hl 1 rfl) ?_
  refine pt_X4_priority hC hN 0 rfl (Nat.le_of_ble_eq_true rfl) (ws' := cat [wX4 E adc adt c_awaited p1 c_name, wX3 E adt t_switches t_hosts t_renewing t_priorities t_names t_wants t_blocks t_upTo t_clashedTo t_zoneSets t_places t_notices t_news]) rfl dX4_takesPriority_2 (fun H locs hN => ?_)
  refine lv_aload_n hx hb dX4_takesPriority_5 rfl (lv_at hl 0 rfl) ?_
  refine lv_iconst (v := 2) hx hb dX4_takesPriority_6 rfl ?_
  refine pt_X4_awaited hC hN 0 rfl (Nat.le_of_ble_eq_true rfl) (ws' := cat [wX4 E adc adt 2 p1 c_name, wX3 E adt t_switches t_hosts t_renewing t_priorities t_names t_wants t_blocks t_upTo t_clashedTo t_zoneSets t_places t_notices t_news]) rfl dX4_takesPriority_7 (fun H locs hN => ?_)
  refine lv_iload_n hx hb dX4_takesPriority_10 rfl (lv_at hl 1 rfl) ?_
  refine lv_iconst (v := 1) hx hb dX4_takesPriority_11 rfl ?_
  refine lv_icmp_lt (tgt := 25) hx hb dX4_takesPriority_12 (by decide) (fun c1 => ?_) (fun c1 => ?_)
  · have h := if_t h c1
    refine lv_iconst (v := 0) hx hb dX4_takesPriority_25 rfl ?_
    obtain rfl := Option.some.inj h
    exact n_zret hC hN (Or.inl rfl) dX4_takesPriority_26
  · have h := if_f h c1
    refine lv_iload_n hx hb dX4_takesPriority_15 rfl (lv_at hl 1 rfl) ?_
    refine lv_bipush (v := 9) hx hb dX4_takesPriority_16 (by decide) ?_
    refine lv_icmp_gt (tgt := 25) hx hb dX4_takesPriority_18 (by decide) (fun c2 => ?_) (fun c2 => ?_)
    · have h := if_t h c2
      refine lv_iconst (v := 0) hx hb dX4_takesPriority_25 rfl ?_
      obtain rfl := Option.some.inj h
      exact n_zret hC hN (Or.inl rfl) dX4_takesPriority_26
    · have h := if_f h c2
      refine lv_iconst (v := 1) hx hb dX4_takesPriority_21 rfl ?_
      refine lv_goto (tgt := 26) hx hb dX4_takesPriority_22 (by decide) ?_
      obtain rfl := Option.some.inj h
      exact n_zret hC hN (Or.inr rfl) dX4_takesPriority_26
set_option maxHeartbeats 4000000 in
set_option maxRecDepth 100000 in
theorem tX4_takesName (l : Launch) (E : EV) (adc : Nat → Nat) (adt : Nat → Nat) (c_awaited : Int32) (c_priority : Int32) (c_name : Int32) (t_switches : Int32) (t_hosts : Int32) (t_renewing : Int32) (t_priorities : Nat → Int32) (t_names : Nat → Int32) (t_wants : Nat → Int32) (t_blocks : Nat → Int32) (t_upTo : Nat → Int32) (t_clashedTo : Nat → Int32) (t_zoneSets : Nat → Int32) (t_places : Nat → Int32) (t_notices : Nat → Int32) (t_news : Nat → Int32) (p1 : Int32) (z : Int32 × Int32 × Int32) (h : fX4_takesName t_switches t_names p1 = some z) : Cn l E yX4_takesName cX4_takesName 2 (some .boolean) 1 22 [.ref (adc 0), .int p1] (cat [wX4 E adc adt c_awaited c_priority c_name, wX3 E adt t_switches t_hosts t_renewing t_priorities t_names t_wants t_blocks t_upTo t_clashedTo t_zoneSets t_places t_notices t_news]) (cat [wX4 E adc adt z.2.1 c_priority z.2.2, wX3 E adt t_switches t_hosts t_renewing t_priorities t_names t_wants t_blocks t_upTo t_clashedTo t_zoneSets t_places t_notices t_news]) (some (.int z.1)) := by
  refine Cn.ofW (by decide +kernel) (Nat.le_of_ble_eq_true rfl) ?_
  intro p e s m args below meth c ls hC hN hl
  have hl : lv_has ls 2 [(0, .ref (adc 0)), (1, .int p1)] := hl
  have hx := hC.1
  have hb := hC.2.1
  unfold fX4_takesName at h
  refine lv_aload_n hx hb dX4_takesName_0 rfl (lv_at hl 0 rfl) ?_
  refine lv_iload_n hx hb dX4_takesName_1 rfl (lv_at hl 1 rfl) ?_
  refine pt_X4_name hC hN 0 rfl (Nat.le_of_ble_eq_true rfl) (ws' := cat [wX4 E adc adt c_awaited c_priority p1, wX3 E adt t_switches t_hosts t_renewing t_priorities t_names t_wants t_blocks t_upTo t_clashedTo t_zoneSets t_places t_notices t_news]) rfl dX4_takesName_2 (fun H locs hN => ?_)
  refine lv_aload_n hx hb dX4_takesName_5 rfl (lv_at hl 0 rfl) ?_
  refine lv_iconst (v := 3) hx hb dX4_takesName_6 rfl ?_
  refine pt_X4_awaited hC hN 0 rfl (Nat.le_of_ble_eq_true rfl) (ws' := cat [wX4 E adc adt 3 c_priority p1, wX3 E adt t_switches t_hosts t_renewing t_priorities t_names t_wants t_blocks t_upTo t_clashedTo t_zoneSets t_places t_notices t_news]) rfl dX4_takesName_7 (fun H locs hN => ?_)
  refine lv_iload_n hx hb dX4_takesName_10 rfl (lv_at hl 1 rfl) ?_
  refine lv_if_lt (tgt := 29) hx hb dX4_takesName_11 (by decide) (fun c1 => ?_) (fun c1 => ?_)
  · have h := if_t h c1
    refine lv_iconst (v := 0) hx hb dX4_takesName_29 rfl ?_
    obtain rfl := Option.some.inj h
    exact n_zret hC hN (Or.inl rfl) dX4_takesName_30
  · have h := if_f h c1
    refine lv_aload_n hx hb dX4_takesName_14 rfl (lv_at hl 0 rfl) ?_
    refine gt_X4_told hC hN 0 rfl rfl dX4_takesName_15 ?_
    refine lv_iload_n hx hb dX4_takesName_18 rfl (lv_at hl 1 rfl) ?_
    obtain ⟨r_2, hr_2, h⟩ := bi_e h
    refine n_callVi (ws' := cat [wX4 E adc adt 3 c_priority p1, wX3 E adt t_switches t_hosts t_renewing t_priorities t_names t_wants t_blocks t_upTo t_clashedTo t_zoneSets t_places t_notices t_news]) hC hN (tX3_hasName l E adt t_switches t_hosts t_renewing t_priorities t_names t_wants t_blocks t_upTo t_clashedTo t_zoneSets t_places t_notices t_news p1 r_2 hr_2) cy_X3_hasName mML_X4_77 mIM_X3_hasName mSE_X3_hasName rfl rfl (k := 0) rfl (cat_perm [wX4 E adc adt 3 c_priority p1, wX3 E adt t_switches t_hosts t_renewing t_priorities t_names t_wants t_blocks t_upTo t_clashedTo t_zoneSets t_places t_notices t_news] 2 rfl [1] [0] (by decide)) (cat_perm [wX4 E adc adt 3 c_priority p1, wX3 E adt t_switches t_hosts t_renewing t_priorities t_names t_wants t_blocks t_upTo t_clashedTo t_zoneSets t_places t_notices t_news] 2 rfl [1] [0] (by decide)) rfl rfl hl.1 rfl (Nat.le_of_ble_eq_true rfl) dX4_takesName_19 ⟨Nat.le_of_ble_eq_true rfl, Nat.le_of_ble_eq_true rfl⟩ ⟨Nat.le_refl _, Nat.le_refl _⟩ (fun H locs hN => ?_)
    refine lv_if_ne (tgt := 29) hx hb dX4_takesName_22 (by decide) (fun c3 => ?_) (fun c3 => ?_)
    · have h := if_f h c3
      refine lv_iconst (v := 0) hx hb dX4_takesName_29 rfl ?_
      obtain rfl := Option.some.inj h
      exact n_zret hC hN (Or.inl rfl) dX4_takesName_30
    · have h := if_t h c3
      refine lv_iconst (v := 1) hx hb dX4_takesName_25 rfl ?_
      refine lv_goto (tgt := 30) hx hb dX4_takesName_26 (by decide) ?_
      obtain rfl := Option.some.inj h
      exact n_zret hC hN (Or.inr rfl) dX4_takesName_30
set_option maxHeartbeats 4000000 in
set_option maxRecDepth 100000 in
theorem tX4_takesWant (l : Launch) (E : EV) (adc : Nat → Nat) (adt : Nat → Nat) (c_awaited : Int32) (c_priority : Int32) (c_name : Int32) (t_switches : Int32) (t_hosts : Int32) (t_renewing : Int32) (t_priorities : Nat → Int32) (t_names : Nat → Int32) (t_wants : Nat → Int32) (t_blocks : Nat → Int32) (t_upTo : Nat → Int32) (t_clashedTo : Nat → Int32) (t_zoneSets : Nat → Int32) (t_places : Nat → Int32) (t_notices : Nat → Int32) (t_news : Nat → Int32) (p1 : Int32) (z : Int32 × Int32 × Int32 × (Nat → Int32) × (Nat → Int32) × (Nat → Int32) × (Nat → Int32) × (Nat → Int32) × (Nat → Int32) × (Nat → Int32)) (h : fX4_takesWant c_awaited c_priority c_name t_switches t_priorities t_names t_wants t_blocks t_upTo t_clashedTo t_zoneSets p1 = some z) : Cn l E yX4_takesWant cX4_takesWant 2 (some .boolean) 1 24 [.ref (adc 0), .int p1] (cat [wX4 E adc adt c_awaited c_priority c_name, wX3 E adt t_switches t_hosts t_renewing t_priorities t_names t_wants t_blocks t_upTo t_clashedTo t_zoneSets t_places t_notices t_news]) (cat [wX4 E adc adt z.2.1 c_priority c_name, wX3 E adt z.2.2.1 t_hosts t_renewing z.2.2.2.1 z.2.2.2.2.1 z.2.2.2.2.2.1 z.2.2.2.2.2.2.1 z.2.2.2.2.2.2.2.1 z.2.2.2.2.2.2.2.2.1 z.2.2.2.2.2.2.2.2.2 t_places t_notices t_news]) (some (.int z.1)) := by
  refine Cn.ofW (by decide +kernel) (Nat.le_of_ble_eq_true rfl) ?_
  intro p e s m args below meth c ls hC hN hl
  have hl : lv_has ls 2 [(0, .ref (adc 0)), (1, .int p1)] := hl
  have hx := hC.1
  have hb := hC.2.1
  unfold fX4_takesWant at h
  refine lv_iload_n hx hb dX4_takesWant_0 rfl (lv_at hl 1 rfl) ?_
  refine lv_if_lt (tgt := 10) hx hb dX4_takesWant_1 (by decide) (fun c1 => ?_) (fun c1 => ?_)
  · have h := if_t h c1
    refine lv_iconst (v := 0) hx hb dX4_takesWant_10 rfl ?_
    obtain rfl := Option.some.inj h
    exact n_zret hC hN (Or.inl rfl) dX4_takesWant_11
  · have h := if_f h c1
    refine lv_iload_n hx hb dX4_takesWant_4 rfl (lv_at hl 1 rfl) ?_
    refine lv_bipush (v := 8) hx hb dX4_takesWant_5 (by decide) ?_
    refine lv_icmp_le (tgt := 12) hx hb dX4_takesWant_7 (by decide) (fun c2 => ?_) (fun c2 => ?_)
    · have h := if_t h c2
      refine lv_aload_n hx hb dX4_takesWant_12 rfl (lv_at hl 0 rfl) ?_
      refine gt_X4_told hC hN 0 rfl rfl dX4_takesWant_13 ?_
      refine lv_aload_n hx hb dX4_takesWant_16 rfl (lv_at hl 0 rfl) ?_
      refine gt_X4_priority hC hN 0 rfl rfl dX4_takesWant_17 ?_
      refine lv_aload_n hx hb dX4_takesWant_20 rfl (lv_at hl 0 rfl) ?_
      refine gt_X4_name hC hN 0 rfl rfl dX4_takesWant_21 ?_
      refine lv_iload_n hx hb dX4_takesWant_24 rfl (lv_at hl 1 rfl) ?_
      obtain ⟨z_3, hz_3, h⟩ := bi_e h
      refine n_callVv (ws' := cat [wX4 E adc adt c_awaited c_priority c_name, wX3 E adt z_3.1 t_hosts t_renewing z_3.2.1 z_3.2.2.1 z_3.2.2.2.1 z_3.2.2.2.2.1 z_3.2.2.2.2.2.1 z_3.2.2.2.2.2.2.1 z_3.2.2.2.2.2.2.2 t_places t_notices t_news]) hC hN (tX3_addSwitch l E adt t_switches t_hosts t_renewing t_priorities t_names t_wants t_blocks t_upTo t_clashedTo t_zoneSets t_places t_notices t_news c_priority c_name p1 z_3 hz_3) cy_X3_addSwitch mML_X4_80 mIM_X3_addSwitch mSE_X3_addSwitch rfl rfl (k := 0) rfl (cat_perm [wX4 E adc adt c_awaited c_priority c_name, wX3 E adt t_switches t_hosts t_renewing t_priorities t_names t_wants t_blocks t_upTo t_clashedTo t_zoneSets t_places t_notices t_news] 2 rfl [1] [0] (by decide)) (cat_perm [wX4 E adc adt c_awaited c_priority c_name, wX3 E adt z_3.1 t_hosts t_renewing z_3.2.1 z_3.2.2.1 z_3.2.2.2.1 z_3.2.2.2.2.1 z_3.2.2.2.2.2.1 z_3.2.2.2.2.2.2.1 z_3.2.2.2.2.2.2.2 t_places t_notices t_news] 2 rfl [1] [0] (by decide)) rfl rfl hl.1 rfl (Nat.le_of_ble_eq_true rfl) dX4_takesWant_25 ⟨Nat.le_of_ble_eq_true rfl, Nat.le_of_ble_eq_true rfl⟩ ⟨Nat.le_refl _, Nat.le_refl _⟩ (fun H locs hN => ?_)
      refine lv_aload_n hx hb dX4_takesWant_28 rfl (lv_at hl 0 rfl) ?_
      refine lv_iconst (v := 5) hx hb dX4_takesWant_29 rfl ?_
      refine pt_X4_awaited hC hN 0 rfl (Nat.le_of_ble_eq_true rfl) (ws' := cat [wX4 E adc adt 5 c_priority c_name, wX3 E adt z_3.1 t_hosts t_renewing z_3.2.1 z_3.2.2.1 z_3.2.2.2.1 z_3.2.2.2.2.1 z_3.2.2.2.2.2.1 z_3.2.2.2.2.2.2.1 z_3.2.2.2.2.2.2.2 t_places t_notices t_news]) rfl dX4_takesWant_30 (fun H locs hN => ?_)
      refine lv_iconst (v := 1) hx hb dX4_takesWant_33 rfl ?_
      obtain rfl := Option.some.inj h
      exact n_zret hC hN (Or.inr rfl) dX4_takesWant_34
    · have h := if_f h c2
      refine lv_iconst (v := 0) hx hb dX4_takesWant_10 rfl ?_
      obtain rfl := Option.some.inj h
      exact n_zret hC hN (Or.inl rfl) dX4_takesWant_11
set_option maxHeartbeats 4000000 in
set_option maxRecDepth 100000 in
theorem tX4_takesPlace (l : Launch) (E : EV) (adc : Nat → Nat) (adt : Nat → Nat) (c_awaited : Int32) (c_priority : Int32) (c_name : Int32) (t_switches : Int32) (t_hosts : Int32) (t_renewing : Int32) (t_priorities : Nat → Int32) (t_names : Nat → Int32) (t_wants : Nat → Int32) (t_blocks : Nat → Int32) (t_upTo : Nat → Int32) (t_clashedTo : Nat → Int32) (t_zoneSets : Nat → Int32) (t_places : Nat → Int32) (t_notices : Nat → Int32) (t_news : Nat → Int32) (p1 : Int32) (p2 : Int32) (z : Int32 × Int32 × Int32 × (Nat → Int32) × (Nat → Int32) × (Nat → Int32)) (h : fX4_takesPlace c_awaited t_switches t_hosts t_places t_notices t_news p1 p2 = some z) : Cn l E yX4_takesPlace cX4_takesPlace 3 (some .boolean) 1 21 [.ref (adc 0), .int p1, .int p2] (cat [wX4 E adc adt c_awaited c_priority c_name, wX3 E adt t_switches t_hosts t_renewing t_priorities t_names t_wants t_blocks t_upTo t_clashedTo t_zoneSets t_places t_notices t_news]) (cat [wX4 E adc adt z.2.1 c_priority c_name, wX3 E adt t_switches z.2.2.1 t_renewing t_priorities t_names t_wants t_blocks t_upTo t_clashedTo t_zoneSets z.2.2.2.1 z.2.2.2.2.1 z.2.2.2.2.2]) (some (.int z.1)) := by
  refine Cn.ofW (by decide +kernel) (Nat.le_of_ble_eq_true rfl) ?_
  intro p e s m args below meth c ls hC hN hl
  have hl : lv_has ls 3 [(0, .ref (adc 0)), (1, .int p1), (2, .int p2)] := hl
  have hx := hC.1
  have hb := hC.2.1
  unfold fX4_takesPlace at h
  refine lv_iload_n hx hb dX4_takesPlace_0 rfl (lv_at hl 1 rfl) ?_
  refine lv_bipush (v := 45) hx hb dX4_takesPlace_1 (by decide) ?_
  refine lv_icmp_eq (tgt := 19) hx hb dX4_takesPlace_3 (by decide) (fun c1 => ?_) (fun c1 => ?_)
  · have h := if_t h c1
    refine lv_aload_n hx hb dX4_takesPlace_19 rfl (lv_at hl 0 rfl) ?_
    refine gt_X4_told hC hN 0 rfl rfl dX4_takesPlace_20 ?_
    refine lv_iload_n hx hb dX4_takesPlace_23 rfl (lv_at hl 1 rfl) ?_
    refine lv_bipush (v := 45) hx hb dX4_takesPlace_24 (by decide) ?_
    refine lv_icmp_ne (tgt := 34) hx hb dX4_takesPlace_26 (by decide) (fun c2 => ?_) (fun c2 => ?_)
    · have h := if_f h c2
      refine lv_iload_n hx hb dX4_takesPlace_34 rfl (lv_at hl 2 rfl) ?_
      obtain ⟨z_3, hz_3, h⟩ := bi_e h
      refine n_callVv (ws' := cat [wX4 E adc adt c_awaited c_priority c_name, wX3 E adt t_switches z_3.1 t_renewing t_priorities t_names t_wants t_blocks t_upTo t_clashedTo t_zoneSets z_3.2.1 z_3.2.2.1 z_3.2.2.2]) hC hN (tX3_addHost l E adt t_switches t_hosts t_renewing t_priorities t_names t_wants t_blocks t_upTo t_clashedTo t_zoneSets t_places t_notices t_news p2 z_3 hz_3) cy_X3_addHost mML_X4_87 mIM_X3_addHost mSE_X3_addHost rfl rfl (k := 0) rfl (cat_perm [wX4 E adc adt c_awaited c_priority c_name, wX3 E adt t_switches t_hosts t_renewing t_priorities t_names t_wants t_blocks t_upTo t_clashedTo t_zoneSets t_places t_notices t_news] 2 rfl [1] [0] (by decide)) (cat_perm [wX4 E adc adt c_awaited c_priority c_name, wX3 E adt t_switches z_3.1 t_renewing t_priorities t_names t_wants t_blocks t_upTo t_clashedTo t_zoneSets z_3.2.1 z_3.2.2.1 z_3.2.2.2] 2 rfl [1] [0] (by decide)) rfl rfl hl.1 rfl (Nat.le_of_ble_eq_true rfl) dX4_takesPlace_35 ⟨Nat.le_of_ble_eq_true rfl, Nat.le_of_ble_eq_true rfl⟩ ⟨Nat.le_refl _, Nat.le_refl _⟩ (fun H locs hN => ?_)
      refine lv_aload_n hx hb dX4_takesPlace_38 rfl (lv_at hl 0 rfl) ?_
      refine lv_iconst (v := 5) hx hb dX4_takesPlace_39 rfl ?_
      refine pt_X4_awaited hC hN 0 rfl (Nat.le_of_ble_eq_true rfl) (ws' := cat [wX4 E adc adt 5 c_priority c_name, wX3 E adt t_switches z_3.1 t_renewing t_priorities t_names t_wants t_blocks t_upTo t_clashedTo t_zoneSets z_3.2.1 z_3.2.2.1 z_3.2.2.2]) rfl dX4_takesPlace_40 (fun H locs hN => ?_)
      refine lv_iconst (v := 1) hx hb dX4_takesPlace_43 rfl ?_
      obtain rfl := Option.some.inj h
      exact n_zret hC hN (Or.inr rfl) dX4_takesPlace_44
    · have h := if_t h c2
      refine lv_bipush (v := -9) hx hb dX4_takesPlace_29 (by decide) ?_
      refine lv_goto (tgt := 35) hx hb dX4_takesPlace_31 (by decide) ?_
      obtain ⟨z_4, hz_4, h⟩ := bi_e h
      refine n_callVv (ws' := cat [wX4 E adc adt c_awaited c_priority c_name, wX3 E adt t_switches z_4.1 t_renewing t_priorities t_names t_wants t_blocks t_upTo t_clashedTo t_zoneSets z_4.2.1 z_4.2.2.1 z_4.2.2.2]) hC hN (tX3_addHost l E adt t_switches t_hosts t_renewing t_priorities t_names t_wants t_blocks t_upTo t_clashedTo t_zoneSets t_places t_notices t_news (-9) z_4 hz_4) cy_X3_addHost mML_X4_87 mIM_X3_addHost mSE_X3_addHost rfl rfl (k := 0) rfl (cat_perm [wX4 E adc adt c_awaited c_priority c_name, wX3 E adt t_switches t_hosts t_renewing t_priorities t_names t_wants t_blocks t_upTo t_clashedTo t_zoneSets t_places t_notices t_news] 2 rfl [1] [0] (by decide)) (cat_perm [wX4 E adc adt c_awaited c_priority c_name, wX3 E adt t_switches z_4.1 t_renewing t_priorities t_names t_wants t_blocks t_upTo t_clashedTo t_zoneSets z_4.2.1 z_4.2.2.1 z_4.2.2.2] 2 rfl [1] [0] (by decide)) rfl rfl hl.1 rfl (Nat.le_of_ble_eq_true rfl) dX4_takesPlace_35 ⟨Nat.le_of_ble_eq_true rfl, Nat.le_of_ble_eq_true rfl⟩ ⟨Nat.le_refl _, Nat.le_refl _⟩ (fun H locs hN => ?_)
      refine lv_aload_n hx hb dX4_takesPlace_38 rfl (lv_at hl 0 rfl) ?_
      refine lv_iconst (v := 5) hx hb dX4_takesPlace_39 rfl ?_
      refine pt_X4_awaited hC hN 0 rfl (Nat.le_of_ble_eq_true rfl) (ws' := cat [wX4 E adc adt 5 c_priority c_name, wX3 E adt t_switches z_4.1 t_renewing t_priorities t_names t_wants t_blocks t_upTo t_clashedTo t_zoneSets z_4.2.1 z_4.2.2.1 z_4.2.2.2]) rfl dX4_takesPlace_40 (fun H locs hN => ?_)
      refine lv_iconst (v := 1) hx hb dX4_takesPlace_43 rfl ?_
      obtain rfl := Option.some.inj h
      exact n_zret hC hN (Or.inr rfl) dX4_takesPlace_44
  · have h := if_f h c1
    refine lv_aload_n hx hb dX4_takesPlace_6 rfl (lv_at hl 0 rfl) ?_
    refine gt_X4_told hC hN 0 rfl rfl dX4_takesPlace_7 ?_
    refine lv_iload_n hx hb dX4_takesPlace_10 rfl (lv_at hl 2 rfl) ?_
    obtain ⟨r_5, hr_5, h⟩ := bi_e h
    refine n_callVi (ws' := cat [wX4 E adc adt c_awaited c_priority c_name, wX3 E adt t_switches t_hosts t_renewing t_priorities t_names t_wants t_blocks t_upTo t_clashedTo t_zoneSets t_places t_notices t_news]) hC hN (tX3_hasSwitch l E adt t_switches t_hosts t_renewing t_priorities t_names t_wants t_blocks t_upTo t_clashedTo t_zoneSets t_places t_notices t_news p2 r_5 hr_5) cy_X3_hasSwitch mML_X4_84 mIM_X3_hasSwitch mSE_X3_hasSwitch rfl rfl (k := 0) rfl (cat_perm [wX4 E adc adt c_awaited c_priority c_name, wX3 E adt t_switches t_hosts t_renewing t_priorities t_names t_wants t_blocks t_upTo t_clashedTo t_zoneSets t_places t_notices t_news] 2 rfl [1] [0] (by decide)) (cat_perm [wX4 E adc adt c_awaited c_priority c_name, wX3 E adt t_switches t_hosts t_renewing t_priorities t_names t_wants t_blocks t_upTo t_clashedTo t_zoneSets t_places t_notices t_news] 2 rfl [1] [0] (by decide)) rfl rfl hl.1 rfl (Nat.le_of_ble_eq_true rfl) dX4_takesPlace_11 ⟨Nat.le_of_ble_eq_true rfl, Nat.le_of_ble_eq_true rfl⟩ ⟨Nat.le_refl _, Nat.le_refl _⟩ (fun H locs hN => ?_)
    refine lv_if_ne (tgt := 19) hx hb dX4_takesPlace_14 (by decide) (fun c6 => ?_) (fun c6 => ?_)
    · have h := if_f h c6
      refine lv_aload_n hx hb dX4_takesPlace_19 rfl (lv_at hl 0 rfl) ?_
      refine gt_X4_told hC hN 0 rfl rfl dX4_takesPlace_20 ?_
      refine lv_iload_n hx hb dX4_takesPlace_23 rfl (lv_at hl 1 rfl) ?_
      refine lv_bipush (v := 45) hx hb dX4_takesPlace_24 (by decide) ?_
      refine lv_icmp_ne (tgt := 34) hx hb dX4_takesPlace_26 (by decide) (fun c7 => ?_) (fun c7 => ?_)
      · have h := if_f h c7
        refine lv_iload_n hx hb dX4_takesPlace_34 rfl (lv_at hl 2 rfl) ?_
        obtain ⟨z_8, hz_8, h⟩ := bi_e h
        refine n_callVv (ws' := cat [wX4 E adc adt c_awaited c_priority c_name, wX3 E adt t_switches z_8.1 t_renewing t_priorities t_names t_wants t_blocks t_upTo t_clashedTo t_zoneSets z_8.2.1 z_8.2.2.1 z_8.2.2.2]) hC hN (tX3_addHost l E adt t_switches t_hosts t_renewing t_priorities t_names t_wants t_blocks t_upTo t_clashedTo t_zoneSets t_places t_notices t_news p2 z_8 hz_8) cy_X3_addHost mML_X4_87 mIM_X3_addHost mSE_X3_addHost rfl rfl (k := 0) rfl (cat_perm [wX4 E adc adt c_awaited c_priority c_name, wX3 E adt t_switches t_hosts t_renewing t_priorities t_names t_wants t_blocks t_upTo t_clashedTo t_zoneSets t_places t_notices t_news] 2 rfl [1] [0] (by decide)) (cat_perm [wX4 E adc adt c_awaited c_priority c_name, wX3 E adt t_switches z_8.1 t_renewing t_priorities t_names t_wants t_blocks t_upTo t_clashedTo t_zoneSets z_8.2.1 z_8.2.2.1 z_8.2.2.2] 2 rfl [1] [0] (by decide)) rfl rfl hl.1 rfl (Nat.le_of_ble_eq_true rfl) dX4_takesPlace_35 ⟨Nat.le_of_ble_eq_true rfl, Nat.le_of_ble_eq_true rfl⟩ ⟨Nat.le_refl _, Nat.le_refl _⟩ (fun H locs hN => ?_)
        refine lv_aload_n hx hb dX4_takesPlace_38 rfl (lv_at hl 0 rfl) ?_
        refine lv_iconst (v := 5) hx hb dX4_takesPlace_39 rfl ?_
        refine pt_X4_awaited hC hN 0 rfl (Nat.le_of_ble_eq_true rfl) (ws' := cat [wX4 E adc adt 5 c_priority c_name, wX3 E adt t_switches z_8.1 t_renewing t_priorities t_names t_wants t_blocks t_upTo t_clashedTo t_zoneSets z_8.2.1 z_8.2.2.1 z_8.2.2.2]) rfl dX4_takesPlace_40 (fun H locs hN => ?_)
        refine lv_iconst (v := 1) hx hb dX4_takesPlace_43 rfl ?_
        obtain rfl := Option.some.inj h
        exact n_zret hC hN (Or.inr rfl) dX4_takesPlace_44
      · have h := if_t h c7
        refine lv_bipush (v := -9) hx hb dX4_takesPlace_29 (by decide) ?_
        refine lv_goto (tgt := 35) hx hb dX4_takesPlace_31 (by decide) ?_
        obtain ⟨z_9, hz_9, h⟩ := bi_e h
        refine n_callVv (ws' := cat [wX4 E adc adt c_awaited c_priority c_name, wX3 E adt t_switches z_9.1 t_renewing t_priorities t_names t_wants t_blocks t_upTo t_clashedTo t_zoneSets z_9.2.1 z_9.2.2.1 z_9.2.2.2]) hC hN (tX3_addHost l E adt t_switches t_hosts t_renewing t_priorities t_names t_wants t_blocks t_upTo t_clashedTo t_zoneSets t_places t_notices t_news (-9) z_9 hz_9) cy_X3_addHost mML_X4_87 mIM_X3_addHost mSE_X3_addHost rfl rfl (k := 0) rfl (cat_perm [wX4 E adc adt c_awaited c_priority c_name, wX3 E adt t_switches t_hosts t_renewing t_priorities t_names t_wants t_blocks t_upTo t_clashedTo t_zoneSets t_places t_notices t_news] 2 rfl [1] [0] (by decide)) (cat_perm [wX4 E adc adt c_awaited c_priority c_name, wX3 E adt t_switches z_9.1 t_renewing t_priorities t_names t_wants t_blocks t_upTo t_clashedTo t_zoneSets z_9.2.1 z_9.2.2.1 z_9.2.2.2] 2 rfl [1] [0] (by decide)) rfl rfl hl.1 rfl (Nat.le_of_ble_eq_true rfl) dX4_takesPlace_35 ⟨Nat.le_of_ble_eq_true rfl, Nat.le_of_ble_eq_true rfl⟩ ⟨Nat.le_refl _, Nat.le_refl _⟩ (fun H locs hN => ?_)
        refine lv_aload_n hx hb dX4_takesPlace_38 rfl (lv_at hl 0 rfl) ?_
        refine lv_iconst (v := 5) hx hb dX4_takesPlace_39 rfl ?_
        refine pt_X4_awaited hC hN 0 rfl (Nat.le_of_ble_eq_true rfl) (ws' := cat [wX4 E adc adt 5 c_priority c_name, wX3 E adt t_switches z_9.1 t_renewing t_priorities t_names t_wants t_blocks t_upTo t_clashedTo t_zoneSets z_9.2.1 z_9.2.2.1 z_9.2.2.2]) rfl dX4_takesPlace_40 (fun H locs hN => ?_)
        refine lv_iconst (v := 1) hx hb dX4_takesPlace_43 rfl ?_
        obtain rfl := Option.some.inj h
        exact n_zret hC hN (Or.inr rfl) dX4_takesPlace_44
    · have h := if_t h c6
      refine lv_iconst (v := 0) hx hb dX4_takesPlace_17 rfl ?_
      obtain rfl := Option.some.inj h
      exact n_zret hC hN (Or.inl rfl) dX4_takesPlace_18
set_option maxHeartbeats 4000000 in
set_option maxRecDepth 100000 in
theorem tX4_takes (l : Launch) (E : EV) (adc : Nat → Nat) (adt : Nat → Nat) (c_awaited : Int32) (c_priority : Int32) (c_name : Int32) (t_switches : Int32) (t_hosts : Int32) (t_renewing : Int32) (t_priorities : Nat → Int32) (t_names : Nat → Int32) (t_wants : Nat → Int32) (t_blocks : Nat → Int32) (t_upTo : Nat → Int32) (t_clashedTo : Nat → Int32) (t_zoneSets : Nat → Int32) (t_places : Nat → Int32) (t_notices : Nat → Int32) (t_news : Nat → Int32) (p1 : Int32) (p2 : Int32) (z : Int32 × Int32 × Int32 × Int32 × Int32 × Int32 × (Nat → Int32) × (Nat → Int32) × (Nat → Int32) × (Nat → Int32) × (Nat → Int32) × (Nat → Int32) × (Nat → Int32) × (Nat → Int32) × (Nat → Int32) × (Nat → Int32)) (h : fX4_takes c_awaited c_priority c_name t_switches t_hosts t_priorities t_names t_wants t_blocks t_upTo t_clashedTo t_zoneSets t_places t_notices t_news p1 p2 = some z) : Cn l E yX4_takes cX4_takes 3 (some .boolean) 2 45 [.ref (adc 0), .int p1, .int p2] (cat [wX4 E adc adt c_awaited c_priority c_name, wX3 E adt t_switches t_hosts t_renewing t_priorities t_names t_wants t_blocks t_upTo t_clashedTo t_zoneSets t_places t_notices t_news]) (cat [wX4 E adc adt z.2.1 z.2.2.1 z.2.2.2.1, wX3 E adt z.2.2.2.2.1 z.2.2.2.2.2.1 t_renewing z.2.2.2.2.2.2.1 z.2.2.2.2.2.2.2.1 z.2.2.2.2.2.2.2.2.1 z.2.2.2.2.2.2.2.2.2.1 z.2.2.2.2.2.2.2.2.2.2.1 z.2.2.2.2.2.2.2.2.2.2.2.1 z.2.2.2.2.2.2.2.2.2.2.2.2.1 z.2.2.2.2.2.2.2.2.2.2.2.2.2.1 z.2.2.2.2.2.2.2.2.2.2.2.2.2.2.1 z.2.2.2.2.2.2.2.2.2.2.2.2.2.2.2]) (some (.int z.1)) := by
  refine Cn.ofW (by decide +kernel) (Nat.le_of_ble_eq_true rfl) ?_
  intro p e s m args below meth c ls hC hN hl
  have hl : lv_has ls 3 [(0, .ref (adc 0)), (1, .int p1), (2, .int p2)] := hl
  have hx := hC.1
  have hb := hC.2.1
  unfold fX4_takes at h
  refine lv_aload_n hx hb dX4_takes_0 rfl (lv_at hl 0 rfl) ?_
  refine gt_X4_awaited hC hN 0 rfl rfl dX4_takes_1 ?_
  by_cases s0 : c_awaited = 0
  · have h := if_t h s0
    refine lv_tableIn (off := 36) (tgt := 40) hx hb dX4_takes_4 (by rw [s0]; decide) (by rw [s0]; decide) (by rw [s0]; rfl) (by decide) ?_
    refine lv_aload_n hx hb dX4_takes_40 rfl (lv_at hl 0 rfl) ?_
    refine lv_iload_n hx hb dX4_takes_41 rfl (lv_at hl 1 rfl) ?_
    obtain ⟨z_1, hz_1, h⟩ := bi_e h
    refine n_callVi (ws' := cat [wX4 E adc adt z_1.2 c_priority c_name, wX3 E adt t_switches t_hosts t_renewing t_priorities t_names t_wants t_blocks t_upTo t_clashedTo t_zoneSets t_places t_notices t_news]) hC hN (tX4_takesItem l E adc adt c_awaited c_priority c_name t_switches t_hosts t_renewing t_priorities t_names t_wants t_blocks t_upTo t_clashedTo t_zoneSets t_places t_notices t_news p1 z_1 hz_1) cy_X4_takesItem mML_X4_52 mIM_X4_takesItem mSE_X4_takesItem rfl rfl (k := 0) rfl (perm_self _) (perm_self _) rfl rfl hl.1 rfl (Nat.le_of_ble_eq_true rfl) dX4_takes_42 ⟨Nat.le_of_ble_eq_true rfl, Nat.le_of_ble_eq_true rfl⟩ ⟨Nat.le_refl _, Nat.le_refl _⟩ (fun H locs hN => ?_)
    have gB := gd_c h
    have h := gd_e h
    obtain rfl := Option.some.inj h
    exact n_zret hC hN gB dX4_takes_45
  · have h := if_f h s0
    by_cases s1 : c_awaited = 1
    · have h := if_t h s1
      refine lv_tableIn (off := 42) (tgt := 46) hx hb dX4_takes_4 (by rw [s1]; decide) (by rw [s1]; decide) (by rw [s1]; rfl) (by decide) ?_
      refine lv_aload_n hx hb dX4_takes_46 rfl (lv_at hl 0 rfl) ?_
      refine lv_iload_n hx hb dX4_takes_47 rfl (lv_at hl 2 rfl) ?_
      obtain ⟨z_2, hz_2, h⟩ := bi_e h
      refine n_callVi (ws' := cat [wX4 E adc adt z_2.2.1 z_2.2.2 c_name, wX3 E adt t_switches t_hosts t_renewing t_priorities t_names t_wants t_blocks t_upTo t_clashedTo t_zoneSets t_places t_notices t_news]) hC hN (tX4_takesPriority l E adc adt c_awaited c_priority c_name t_switches t_hosts t_renewing t_priorities t_names t_wants t_blocks t_upTo t_clashedTo t_zoneSets t_places t_notices t_news p2 z_2 hz_2) cy_X4_takesPriority mML_X4_56 mIM_X4_takesPriority mSE_X4_takesPriority rfl rfl (k := 0) rfl (perm_self _) (perm_self _) rfl rfl hl.1 rfl (Nat.le_of_ble_eq_true rfl) dX4_takes_48 ⟨Nat.le_of_ble_eq_true rfl, Nat.le_of_ble_eq_true rfl⟩ ⟨Nat.le_refl _, Nat.le_refl _⟩ (fun H locs hN => ?_)
      have gB := gd_c h
      have h := gd_e h
      obtain rfl := Option.some.inj h
      exact n_zret hC hN gB dX4_takes_51
    · have h := if_f h s1
      by_cases s2 : c_awaited = 2
      · have h := if_t h s2
        refine lv_tableIn (off := 48) (tgt := 52) hx hb dX4_takes_4 (by rw [s2]; decide) (by rw [s2]; decide) (by rw [s2]; rfl) (by decide) ?_
        refine lv_aload_n hx hb dX4_takes_52 rfl (lv_at hl 0 rfl) ?_
        refine lv_iload_n hx hb dX4_takes_53 rfl (lv_at hl 2 rfl) ?_
        obtain ⟨z_3, hz_3, h⟩ := bi_e h
        refine n_callVi (ws' := cat [wX4 E adc adt z_3.2.1 c_priority z_3.2.2, wX3 E adt t_switches t_hosts t_renewing t_priorities t_names t_wants t_blocks t_upTo t_clashedTo t_zoneSets t_places t_notices t_news]) hC hN (tX4_takesName l E adc adt c_awaited c_priority c_name t_switches t_hosts t_renewing t_priorities t_names t_wants t_blocks t_upTo t_clashedTo t_zoneSets t_places t_notices t_news p2 z_3 hz_3) cy_X4_takesName mML_X4_59 mIM_X4_takesName mSE_X4_takesName rfl rfl (k := 0) rfl (perm_self _) (perm_self _) rfl rfl hl.1 rfl (Nat.le_of_ble_eq_true rfl) dX4_takes_54 ⟨Nat.le_of_ble_eq_true rfl, Nat.le_of_ble_eq_true rfl⟩ ⟨Nat.le_refl _, Nat.le_refl _⟩ (fun H locs hN => ?_)
        have gB := gd_c h
        have h := gd_e h
        obtain rfl := Option.some.inj h
        exact n_zret hC hN gB dX4_takes_57
      · have h := if_f h s2
        by_cases s3 : c_awaited = 3
        · have h := if_t h s3
          refine lv_tableIn (off := 54) (tgt := 58) hx hb dX4_takes_4 (by rw [s3]; decide) (by rw [s3]; decide) (by rw [s3]; rfl) (by decide) ?_
          refine lv_aload_n hx hb dX4_takes_58 rfl (lv_at hl 0 rfl) ?_
          refine lv_iload_n hx hb dX4_takes_59 rfl (lv_at hl 2 rfl) ?_
          obtain ⟨z_4, hz_4, h⟩ := bi_e h
          refine n_callVi (ws' := cat [wX4 E adc adt z_4.2.1 c_priority c_name, wX3 E adt z_4.2.2.1 t_hosts t_renewing z_4.2.2.2.1 z_4.2.2.2.2.1 z_4.2.2.2.2.2.1 z_4.2.2.2.2.2.2.1 z_4.2.2.2.2.2.2.2.1 z_4.2.2.2.2.2.2.2.2.1 z_4.2.2.2.2.2.2.2.2.2 t_places t_notices t_news]) hC hN (tX4_takesWant l E adc adt c_awaited c_priority c_name t_switches t_hosts t_renewing t_priorities t_names t_wants t_blocks t_upTo t_clashedTo t_zoneSets t_places t_notices t_news p2 z_4 hz_4) cy_X4_takesWant mML_X4_62 mIM_X4_takesWant mSE_X4_takesWant rfl rfl (k := 0) rfl (perm_self _) (perm_self _) rfl rfl hl.1 rfl (Nat.le_of_ble_eq_true rfl) dX4_takes_60 ⟨Nat.le_of_ble_eq_true rfl, Nat.le_of_ble_eq_true rfl⟩ ⟨Nat.le_refl _, Nat.le_refl _⟩ (fun H locs hN => ?_)
          have gB := gd_c h
          have h := gd_e h
          obtain rfl := Option.some.inj h
          exact n_zret hC hN gB dX4_takes_63
        · have h := if_f h s3
          by_cases s4 : c_awaited = 4
          · have h := if_t h s4
            refine lv_tableIn (off := 60) (tgt := 64) hx hb dX4_takes_4 (by rw [s4]; decide) (by rw [s4]; decide) (by rw [s4]; rfl) (by decide) ?_
            refine lv_aload_n hx hb dX4_takes_64 rfl (lv_at hl 0 rfl) ?_
            refine lv_iload_n hx hb dX4_takes_65 rfl (lv_at hl 1 rfl) ?_
            refine lv_iload_n hx hb dX4_takes_66 rfl (lv_at hl 2 rfl) ?_
            obtain ⟨z_5, hz_5, h⟩ := bi_e h
            refine n_callVi (ws' := cat [wX4 E adc adt z_5.2.1 c_priority c_name, wX3 E adt t_switches z_5.2.2.1 t_renewing t_priorities t_names t_wants t_blocks t_upTo t_clashedTo t_zoneSets z_5.2.2.2.1 z_5.2.2.2.2.1 z_5.2.2.2.2.2]) hC hN (tX4_takesPlace l E adc adt c_awaited c_priority c_name t_switches t_hosts t_renewing t_priorities t_names t_wants t_blocks t_upTo t_clashedTo t_zoneSets t_places t_notices t_news p1 p2 z_5 hz_5) cy_X4_takesPlace mML_X4_65 mIM_X4_takesPlace mSE_X4_takesPlace rfl rfl (k := 0) rfl (perm_self _) (perm_self _) rfl rfl hl.1 rfl (Nat.le_of_ble_eq_true rfl) dX4_takes_67 ⟨Nat.le_of_ble_eq_true rfl, Nat.le_of_ble_eq_true rfl⟩ ⟨Nat.le_refl _, Nat.le_refl _⟩ (fun H locs hN => ?_)
            have gB := gd_c h
            have h := gd_e h
            obtain rfl := Option.some.inj h
            exact n_zret hC hN gB dX4_takes_70
          · have h := if_f h s4
            have u0 : c_awaited.toInt ≠ 0 := i_ne s0
            have u1 : c_awaited.toInt ≠ 1 := i_ne s1
            have u2 : c_awaited.toInt ≠ 2 := i_ne s2
            have u3 : c_awaited.toInt ≠ 3 := i_ne s3
            have u4 : c_awaited.toInt ≠ 4 := i_ne s4
            refine lv_tableOut (tgt := 71) hx hb dX4_takes_4 (by omega) (by decide) ?_
            refine lv_aload_n hx hb dX4_takes_71 rfl (lv_at hl 0 rfl) ?_
            refine lv_iconst (v := 0) hx hb dX4_takes_72 rfl ?_
            refine pt_X4_awaited hC hN 0 rfl (Nat.le_of_ble_eq_true rfl) (ws' := cat [wX4 E adc adt 0 c_priority c_name, wX3 E adt t_switches t_hosts t_renewing t_priorities t_names t_wants t_blocks t_upTo t_clashedTo t_zoneSets t_places t_notices t_news]) rfl dX4_takes_73 (fun H locs hN => ?_)
            refine lv_iload_n hx hb dX4_takes_76 rfl (lv_at hl 1 rfl) ?_
            refine lv_bipush (v := 59) hx hb dX4_takes_77 (by decide) ?_
            refine lv_icmp_ne (tgt := 86) hx hb dX4_takes_79 (by decide) (fun c6 => ?_) (fun c6 => ?_)
            · have h := if_f h c6
              refine lv_iconst (v := 0) hx hb dX4_takes_86 rfl ?_
              obtain rfl := Option.some.inj h
              exact n_zret hC hN (Or.inl rfl) dX4_takes_87
            · have h := if_t h c6
              refine lv_iconst (v := 1) hx hb dX4_takes_82 rfl ?_
              refine lv_goto (tgt := 87) hx hb dX4_takes_83 (by decide) ?_
              obtain rfl := Option.some.inj h
              exact n_zret hC hN (Or.inr rfl) dX4_takes_87
set_option maxHeartbeats 4000000 in
set_option maxRecDepth 100000 in
theorem tX4_faultOf (l : Launch) (E : EV) (adc : Nat → Nat) (adt : Nat → Nat) (add : Nat → Nat) (c_awaited : Int32) (c_priority : Int32) (c_name : Int32) (t_switches : Int32) (t_hosts : Int32) (t_renewing : Int32) (t_priorities : Nat → Int32) (t_names : Nat → Int32) (t_wants : Nat → Int32) (t_blocks : Nat → Int32) (t_upTo : Nat → Int32) (t_clashedTo : Nat → Int32) (t_zoneSets : Nat → Int32) (t_places : Nat → Int32) (t_notices : Nat → Int32) (t_news : Nat → Int32) (d_letters : Nat → Int32) (d_size : Int32) (z : Int32 × Int32 × Int32 × Int32 × Int32 × Int32 × Int32 × (Nat → Int32) × (Nat → Int32) × (Nat → Int32) × (Nat → Int32) × (Nat → Int32) × (Nat → Int32) × (Nat → Int32) × (Nat → Int32) × (Nat → Int32) × (Nat → Int32)) (h : fX4_faultOf c_priority c_name t_priorities t_names t_wants t_blocks t_upTo t_clashedTo t_zoneSets t_places t_notices t_news d_letters d_size = some z) : Cn l E yX4_faultOf cX4_faultOf 5 (some .int) 3 67 [.ref (adc 0), .ref (add 0)] (cat [wX4 E adc adt c_awaited c_priority c_name, wX3 E adt t_switches t_hosts t_renewing t_priorities t_names t_wants t_blocks t_upTo t_clashedTo t_zoneSets t_places t_notices t_news, wX5 E add d_letters d_size]) (cat [wX4 E adc adt z.2.1 z.2.2.1 z.2.2.2.1, wX3 E adt z.2.2.2.2.1 z.2.2.2.2.2.1 z.2.2.2.2.2.2.1 z.2.2.2.2.2.2.2.1 z.2.2.2.2.2.2.2.2.1 z.2.2.2.2.2.2.2.2.2.1 z.2.2.2.2.2.2.2.2.2.2.1 z.2.2.2.2.2.2.2.2.2.2.2.1 z.2.2.2.2.2.2.2.2.2.2.2.2.1 z.2.2.2.2.2.2.2.2.2.2.2.2.2.1 z.2.2.2.2.2.2.2.2.2.2.2.2.2.2.1 z.2.2.2.2.2.2.2.2.2.2.2.2.2.2.2.1 z.2.2.2.2.2.2.2.2.2.2.2.2.2.2.2.2, wX5 E add d_letters d_size]) (some (.int z.1)) := by
  refine Cn.ofW (by decide +kernel) (Nat.le_of_ble_eq_true rfl) ?_
  intro p e s m args below meth c ls hC hN hl
  obtain ⟨z0, hz0⟩ : ∃ y, y = z := ⟨_, rfl⟩
  rw [← hz0] at h ⊢
  clear hz0
  have hl : lv_has ls 5 [(0, .ref (adc 0)), (1, .ref (add 0))] := hl
  have hx := hC.1
  have hb := hC.2.1
  unfold fX4_faultOf at h
  refine lv_aload_n hx hb dX4_faultOf_0 rfl (lv_at hl 0 rfl) ?_
  refine gt_X4_told hC hN 0 rfl rfl dX4_faultOf_1 ?_
  obtain ⟨z_1, hz_1, h⟩ := bi_e h
  refine n_callVv (ws' := cat [wX4 E adc adt c_awaited c_priority c_name, wX3 E adt z_1.1 z_1.2.1 z_1.2.2 t_priorities t_names t_wants t_blocks t_upTo t_clashedTo t_zoneSets t_places t_notices t_news, wX5 E add d_letters d_size]) hC hN (tX3_empty l E adt t_switches t_hosts t_renewing t_priorities t_names t_wants t_blocks t_upTo t_clashedTo t_zoneSets t_places t_notices t_news z_1 hz_1) cy_X3_empty mML_X4_18 mIM_X3_empty mSE_X3_empty rfl rfl (k := 0) rfl (cat_perm [wX4 E adc adt c_awaited c_priority c_name, wX3 E adt t_switches t_hosts t_renewing t_priorities t_names t_wants t_blocks t_upTo t_clashedTo t_zoneSets t_places t_notices t_news, wX5 E add d_letters d_size] 3 rfl [1] [0, 2] (by decide)) (cat_perm [wX4 E adc adt c_awaited c_priority c_name, wX3 E adt z_1.1 z_1.2.1 z_1.2.2 t_priorities t_names t_wants t_blocks t_upTo t_clashedTo t_zoneSets t_places t_notices t_news, wX5 E add d_letters d_size] 3 rfl [1] [0, 2] (by decide)) rfl rfl hl.1 rfl (Nat.le_of_ble_eq_true rfl) dX4_faultOf_4 ⟨Nat.le_of_ble_eq_true rfl, Nat.le_of_ble_eq_true rfl⟩ ⟨Nat.le_refl _, Nat.le_refl _⟩ (fun H locs hN => ?_)
  refine lv_aload_n hx hb dX4_faultOf_7 rfl (lv_at hl 0 rfl) ?_
  refine lv_iconst (v := 0) hx hb dX4_faultOf_8 rfl ?_
  refine pt_X4_awaited hC hN 0 rfl (Nat.le_of_ble_eq_true rfl) (ws' := cat [wX4 E adc adt 0 c_priority c_name, wX3 E adt z_1.1 z_1.2.1 z_1.2.2 t_priorities t_names t_wants t_blocks t_upTo t_clashedTo t_zoneSets t_places t_notices t_news, wX5 E add d_letters d_size]) rfl dX4_faultOf_9 (fun H locs hN => ?_)
  refine lv_aload_n hx hb dX4_faultOf_12 rfl (lv_at hl 1 rfl) ?_
  refine lv_iconst (v := 0) hx hb dX4_faultOf_13 rfl ?_
  obtain ⟨r_2, hr_2, h⟩ := bi_e h
  refine n_callVi (ws' := cat [wX4 E adc adt 0 c_priority c_name, wX3 E adt z_1.1 z_1.2.1 z_1.2.2 t_priorities t_names t_wants t_blocks t_upTo t_clashedTo t_zoneSets t_places t_notices t_news, wX5 E add d_letters d_size]) hC hN (tX5_skipBlanks l E add d_letters d_size 0 r_2 hr_2) cy_X5_skipBlanks mML_X4_25 mIM_X5_skipBlanks mSE_X5_skipBlanks rfl rfl (k := 0) rfl (cat_perm [wX4 E adc adt 0 c_priority c_name, wX3 E adt z_1.1 z_1.2.1 z_1.2.2 t_priorities t_names t_wants t_blocks t_upTo t_clashedTo t_zoneSets t_places t_notices t_news, wX5 E add d_letters d_size] 3 rfl [2] [0, 1] (by decide)) (cat_perm [wX4 E adc adt 0 c_priority c_name, wX3 E adt z_1.1 z_1.2.1 z_1.2.2 t_priorities t_names t_wants t_blocks t_upTo t_clashedTo t_zoneSets t_places t_notices t_news, wX5 E add d_letters d_size] 3 rfl [2] [0, 1] (by decide)) rfl rfl hl.1 rfl (Nat.le_of_ble_eq_true rfl) dX4_faultOf_14 ⟨Nat.le_of_ble_eq_true rfl, Nat.le_of_ble_eq_true rfl⟩ ⟨Nat.le_refl _, Nat.le_refl _⟩ (fun H locs hN => ?_)
  refine lv_istore_n (lv' := [(2, .int r_2), (0, .ref (adc 0)), (1, .ref (add 0))]) hx hb dX4_faultOf_17 rfl hl (by decide) rfl (fun ls hl => ?_)
  refine lv_iconst (v := 0) hx hb dX4_faultOf_18 rfl ?_
  refine lv_istore_n (lv' := [(3, .int 0), (2, .int r_2), (0, .ref (adc 0)), (1, .ref (add 0))]) hx hb dX4_faultOf_19 rfl hl (by decide) rfl (fun ls hl => ?_)
  have L1 : ∀ (fu : Nat) (v2_3 : Int32) (v3_4 : Int32) (c_awaited_5 : Int32) (c_priority_6 : Int32) (c_name_7 : Int32) (t_switches_8 : Int32) (t_hosts_9 : Int32) (t_priorities_10 : Nat → Int32) (t_names_11 : Nat → Int32) (t_wants_12 : Nat → Int32) (t_blocks_13 : Nat → Int32) (t_upTo_14 : Nat → Int32) (t_clashedTo_15 : Nat → Int32) (t_zoneSets_16 : Nat → Int32) (t_places_17 : Nat → Int32) (t_notices_18 : Nat → Int32) (t_news_19 : Nat → Int32) (z : (Int32 × Int32 × Int32 × Int32 × Int32 × Int32 × Int32 × (Nat → Int32) × (Nat → Int32) × (Nat → Int32) × (Nat → Int32) × (Nat → Int32) × (Nat → Int32) × (Nat → Int32) × (Nat → Int32) × (Nat → Int32) × (Nat → Int32)) ⊕ (Int32 × Int32 × Int32 × Int32 × Int32 × Int32 × Int32 × (Nat → Int32) × (Nat → Int32) × (Nat → Int32) × (Nat → Int32) × (Nat → Int32) × (Nat → Int32) × (Nat → Int32) × (Nat → Int32) × (Nat → Int32) × (Nat → Int32))) (H : Heap) (locs : List Loc) (ls : Array Slot), Nw E s (AD (cat [wX4 E adc adt c_awaited c_priority c_name, wX3 E adt t_switches t_hosts t_renewing t_priorities t_names t_wants t_blocks t_upTo t_clashedTo t_zoneSets t_places t_notices t_news, wX5 E add d_letters d_size])) (cat [wX4 E adc adt c_awaited_5 c_priority_6 c_name_7, wX3 E adt t_switches_8 t_hosts_9 z_1.2.2 t_priorities_10 t_names_11 t_wants_12 t_blocks_13 t_upTo_14 t_clashedTo_15 t_zoneSets_16 t_places_17 t_notices_18 t_news_19, wX5 E add d_letters d_size]) H locs → lv_has ls 5 [(0, .ref (adc 0)), (1, .ref (add 0)), (2, .int v2_3), (3, .int v3_4)] → fX4_faultOf_L1 d_letters d_size z_1 fu v2_3 v3_4 c_awaited_5 c_priority_6 c_name_7 t_switches_8 t_hosts_9 t_priorities_10 t_names_11 t_wants_12 t_blocks_13 t_upTo_14 t_clashedTo_15 t_zoneSets_16 t_places_17 t_notices_18 t_news_19 = some z → (∀ y : Int32 × Int32 × Int32 × Int32 × Int32 × Int32 × Int32 × (Nat → Int32) × (Nat → Int32) × (Nat → Int32) × (Nat → Int32) × (Nat → Int32) × (Nat → Int32) × (Nat → Int32) × (Nat → Int32) × (Nat → Int32) × (Nat → Int32), z = Sum.inl y → some y = some z0) → (∀ y : Int32 × Int32 × Int32 × Int32 × Int32 × Int32 × Int32 × (Nat → Int32) × (Nat → Int32) × (Nat → Int32) × (Nat → Int32) × (Nat → Int32) × (Nat → Int32) × (Nat → Int32) × (Nat → Int32) × (Nat → Int32) × (Nat → Int32), z = Sum.inr y → ∀ (H : Heap) (locs : List Loc) (ls : Array Slot), Nw E s (AD (cat [wX4 E adc adt c_awaited c_priority c_name, wX3 E adt t_switches t_hosts t_renewing t_priorities t_names t_wants t_blocks t_upTo t_clashedTo t_zoneSets t_places t_notices t_news, wX5 E add d_letters d_size])) (cat [wX4 E adc adt y.2.2.1 y.2.2.2.1 y.2.2.2.2.1, wX3 E adt y.2.2.2.2.2.1 y.2.2.2.2.2.2.1 z_1.2.2 y.2.2.2.2.2.2.2.1 y.2.2.2.2.2.2.2.2.1 y.2.2.2.2.2.2.2.2.2.1 y.2.2.2.2.2.2.2.2.2.2.1 y.2.2.2.2.2.2.2.2.2.2.2.1 y.2.2.2.2.2.2.2.2.2.2.2.2.1 y.2.2.2.2.2.2.2.2.2.2.2.2.2.1 y.2.2.2.2.2.2.2.2.2.2.2.2.2.2.1 y.2.2.2.2.2.2.2.2.2.2.2.2.2.2.2.1 y.2.2.2.2.2.2.2.2.2.2.2.2.2.2.2.2, wX5 E add d_letters d_size]) H locs → lv_has ls 5 [(0, .ref (adc 0)), (1, .ref (add 0)), (2, .int y.1), (3, .int y.2.1)] → WN p l e 3 67 s m args below meth c E (cat [wX4 E adc adt c_awaited c_priority c_name, wX3 E adt t_switches t_hosts t_renewing t_priorities t_names t_wants t_blocks t_upTo t_clashedTo t_zoneSets t_places t_notices t_news, wX5 E add d_letters d_size]) (some (.int z0.1)) (cat [wX4 E adc adt z0.2.1 z0.2.2.1 z0.2.2.2.1, wX3 E adt z0.2.2.2.2.1 z0.2.2.2.2.2.1 z0.2.2.2.2.2.2.1 z0.2.2.2.2.2.2.2.1 z0.2.2.2.2.2.2.2.2.1 z0.2.2.2.2.2.2.2.2.2.1 z0.2.2.2.2.2.2.2.2.2.2.1 z0.2.2.2.2.2.2.2.2.2.2.2.1 z0.2.2.2.2.2.2.2.2.2.2.2.2.1 z0.2.2.2.2.2.2.2.2.2.2.2.2.2.1 z0.2.2.2.2.2.2.2.2.2.2.2.2.2.2.1 z0.2.2.2.2.2.2.2.2.2.2.2.2.2.2.2.1 z0.2.2.2.2.2.2.2.2.2.2.2.2.2.2.2.2, wX5 E add d_letters d_size]) H locs (F0 m 75 ls [])) → WN p l e 3 67 s m args below meth c E (cat [wX4 E adc adt c_awaited c_priority c_name, wX3 E adt t_switches t_hosts t_renewing t_priorities t_names t_wants t_blocks t_upTo t_clashedTo t_zoneSets t_places t_notices t_news, wX5 E add d_letters d_size]) (some (.int z0.1)) (cat [wX4 E adc adt z0.2.1 z0.2.2.1 z0.2.2.2.1, wX3 E adt z0.2.2.2.2.1 z0.2.2.2.2.2.1 z0.2.2.2.2.2.2.1 z0.2.2.2.2.2.2.2.1 z0.2.2.2.2.2.2.2.2.1 z0.2.2.2.2.2.2.2.2.2.1 z0.2.2.2.2.2.2.2.2.2.2.1 z0.2.2.2.2.2.2.2.2.2.2.2.1 z0.2.2.2.2.2.2.2.2.2.2.2.2.1 z0.2.2.2.2.2.2.2.2.2.2.2.2.2.1 z0.2.2.2.2.2.2.2.2.2.2.2.2.2.2.1 z0.2.2.2.2.2.2.2.2.2.2.2.2.2.2.2.1 z0.2.2.2.2.2.2.2.2.2.2.2.2.2.2.2.2, wX5 E add d_letters d_size]) H locs (F0 m 20 ls []) := by
    intro fu
    induction fu with
    | zero =>
      intro v2_3 v3_4 c_awaited_5 c_priority_6 c_name_7 t_switches_8 t_hosts_9 t_priorities_10 t_names_11 t_wants_12 t_blocks_13 t_upTo_14 t_clashedTo_15 t_zoneSets_16 t_places_17 t_notices_18 t_news_19 z H locs ls hN hl h K1 K
      cases (show (none : Option ((Int32 × Int32 × Int32 × Int32 × Int32 × Int32 × Int32 × (Nat → Int32) × (Nat → Int32) × (Nat → Int32) × (Nat → Int32) × (Nat → Int32) × (Nat → Int32) × (Nat → Int32) × (Nat → Int32) × (Nat → Int32) × (Nat → Int32)) ⊕ (Int32 × Int32 × Int32 × Int32 × Int32 × Int32 × Int32 × (Nat → Int32) × (Nat → Int32) × (Nat → Int32) × (Nat → Int32) × (Nat → Int32) × (Nat → Int32) × (Nat → Int32) × (Nat → Int32) × (Nat → Int32) × (Nat → Int32)))) = some z from h)
    | succ fu ih =>
      intro v2_3 v3_4 c_awaited_5 c_priority_6 c_name_7 t_switches_8 t_hosts_9 t_priorities_10 t_names_11 t_wants_12 t_blocks_13 t_upTo_14 t_clashedTo_15 t_zoneSets_16 t_places_17 t_notices_18 t_news_19 z H locs ls hN hl h K1 K
      rw [fX4_faultOf_L1.eq_2] at h
      refine lv_iload_n hx hb dX4_faultOf_20 rfl (lv_at hl 3 rfl) ?_
      refine lv_bipush (v := 100) hx hb dX4_faultOf_21 (by decide) ?_
      refine lv_icmp_ge (tgt := 75) hx hb dX4_faultOf_23 (by decide) (fun c20 => ?_) (fun c20 => ?_)
      · have h := if_t h c20
        exact K _ (Option.some.inj h).symm _ _ _ hN (lv_sub hl [0, 1, 2, 3] rfl)
      · have h := if_f h c20
        refine lv_iload_n hx hb dX4_faultOf_26 rfl (lv_at hl 2 rfl) ?_
        refine lv_aload_n hx hb dX4_faultOf_27 rfl (lv_at hl 1 rfl) ?_
        obtain ⟨r_21, hr_21, h⟩ := bi_e h
        refine n_callVi (ws' := cat [wX4 E adc adt c_awaited_5 c_priority_6 c_name_7, wX3 E adt t_switches_8 t_hosts_9 z_1.2.2 t_priorities_10 t_names_11 t_wants_12 t_blocks_13 t_upTo_14 t_clashedTo_15 t_zoneSets_16 t_places_17 t_notices_18 t_news_19, wX5 E add d_letters d_size]) hC hN (tX5_size l E add d_letters d_size r_21 hr_21) cy_X5_size mML_X4_31 mIM_X5_size mSE_X5_size rfl rfl (k := 0) rfl (cat_perm [wX4 E adc adt c_awaited_5 c_priority_6 c_name_7, wX3 E adt t_switches_8 t_hosts_9 z_1.2.2 t_priorities_10 t_names_11 t_wants_12 t_blocks_13 t_upTo_14 t_clashedTo_15 t_zoneSets_16 t_places_17 t_notices_18 t_news_19, wX5 E add d_letters d_size] 3 rfl [2] [0, 1] (by decide)) (cat_perm [wX4 E adc adt c_awaited_5 c_priority_6 c_name_7, wX3 E adt t_switches_8 t_hosts_9 z_1.2.2 t_priorities_10 t_names_11 t_wants_12 t_blocks_13 t_upTo_14 t_clashedTo_15 t_zoneSets_16 t_places_17 t_notices_18 t_news_19, wX5 E add d_letters d_size] 3 rfl [2] [0, 1] (by decide)) rfl rfl hl.1 rfl (Nat.le_of_ble_eq_true rfl) dX4_faultOf_28 ⟨Nat.le_of_ble_eq_true rfl, Nat.le_of_ble_eq_true rfl⟩ ⟨Nat.le_refl _, Nat.le_refl _⟩ (fun H locs hN => ?_)
        refine lv_icmp_ge (tgt := 75) hx hb dX4_faultOf_31 (by decide) (fun c22 => ?_) (fun c22 => ?_)
        · have h := if_t h c22
          exact K _ (Option.some.inj h).symm _ _ _ hN (lv_sub hl [0, 1, 2, 3] rfl)
        · have h := if_f h c22
          refine lv_aload_n hx hb dX4_faultOf_34 rfl (lv_at hl 1 rfl) ?_
          refine lv_iload_n hx hb dX4_faultOf_35 rfl (lv_at hl 2 rfl) ?_
          obtain ⟨r_23, hr_23, h⟩ := bi_e h
          refine n_callVi (ws' := cat [wX4 E adc adt c_awaited_5 c_priority_6 c_name_7, wX3 E adt t_switches_8 t_hosts_9 z_1.2.2 t_priorities_10 t_names_11 t_wants_12 t_blocks_13 t_upTo_14 t_clashedTo_15 t_zoneSets_16 t_places_17 t_notices_18 t_news_19, wX5 E add d_letters d_size]) hC hN (tX5_tokenEnd l E add d_letters d_size v2_3 r_23 hr_23) cy_X5_tokenEnd mML_X4_35 mIM_X5_tokenEnd mSE_X5_tokenEnd rfl rfl (k := 0) rfl (cat_perm [wX4 E adc adt c_awaited_5 c_priority_6 c_name_7, wX3 E adt t_switches_8 t_hosts_9 z_1.2.2 t_priorities_10 t_names_11 t_wants_12 t_blocks_13 t_upTo_14 t_clashedTo_15 t_zoneSets_16 t_places_17 t_notices_18 t_news_19, wX5 E add d_letters d_size] 3 rfl [2] [0, 1] (by decide)) (cat_perm [wX4 E adc adt c_awaited_5 c_priority_6 c_name_7, wX3 E adt t_switches_8 t_hosts_9 z_1.2.2 t_priorities_10 t_names_11 t_wants_12 t_blocks_13 t_upTo_14 t_clashedTo_15 t_zoneSets_16 t_places_17 t_notices_18 t_news_19, wX5 E add d_letters d_size] 3 rfl [2] [0, 1] (by decide)) rfl rfl hl.1 rfl (Nat.le_of_ble_eq_true rfl) dX4_faultOf_36 ⟨Nat.le_of_ble_eq_true rfl, Nat.le_of_ble_eq_true rfl⟩ ⟨Nat.le_refl _, Nat.le_refl _⟩ (fun H locs hN => ?_)
          refine lv_istore (lv' := [(4, .int r_23), (0, .ref (adc 0)), (1, .ref (add 0)), (2, .int v2_3), (3, .int v3_4)]) hx hb dX4_faultOf_39 hl (by decide) rfl (fun ls hl => ?_)
          refine lv_aload_n hx hb dX4_faultOf_41 rfl (lv_at hl 1 rfl) ?_
          refine lv_aload_n hx hb dX4_faultOf_42 rfl (lv_at hl 2 rfl) ?_
          refine lv_iload_n hx hb dX4_faultOf_43 rfl (lv_at hl 3 rfl) ?_
          obtain ⟨r_24, hr_24, h⟩ := bi_e h
          refine n_callVi (ws' := cat [wX4 E adc adt c_awaited_5 c_priority_6 c_name_7, wX3 E adt t_switches_8 t_hosts_9 z_1.2.2 t_priorities_10 t_names_11 t_wants_12 t_blocks_13 t_upTo_14 t_clashedTo_15 t_zoneSets_16 t_places_17 t_notices_18 t_news_19, wX5 E add d_letters d_size]) hC hN (tX5_letterAt l E add d_letters d_size v2_3 r_24 hr_24) cy_X5_letterAt mML_X4_38 mIM_X5_letterAt mSE_X5_letterAt rfl rfl (k := 0) rfl (cat_perm [wX4 E adc adt c_awaited_5 c_priority_6 c_name_7, wX3 E adt t_switches_8 t_hosts_9 z_1.2.2 t_priorities_10 t_names_11 t_wants_12 t_blocks_13 t_upTo_14 t_clashedTo_15 t_zoneSets_16 t_places_17 t_notices_18 t_news_19, wX5 E add d_letters d_size] 3 rfl [2] [0, 1] (by decide)) (cat_perm [wX4 E adc adt c_awaited_5 c_priority_6 c_name_7, wX3 E adt t_switches_8 t_hosts_9 z_1.2.2 t_priorities_10 t_names_11 t_wants_12 t_blocks_13 t_upTo_14 t_clashedTo_15 t_zoneSets_16 t_places_17 t_notices_18 t_news_19, wX5 E add d_letters d_size] 3 rfl [2] [0, 1] (by decide)) rfl rfl hl.1 rfl (Nat.le_of_ble_eq_true rfl) dX4_faultOf_44 ⟨Nat.le_of_ble_eq_true rfl, Nat.le_of_ble_eq_true rfl⟩ ⟨Nat.le_refl _, Nat.le_refl _⟩ (fun H locs hN => ?_)
          refine lv_aload_n hx hb dX4_faultOf_47 rfl (lv_at hl 2 rfl) ?_
          refine lv_iload_n hx hb dX4_faultOf_48 rfl (lv_at hl 3 rfl) ?_
          refine lv_iload hx hb dX4_faultOf_49 (lv_at hl 0 rfl) ?_
          obtain ⟨r_25, hr_25, h⟩ := bi_e h
          refine n_callVi (ws' := cat [wX4 E adc adt c_awaited_5 c_priority_6 c_name_7, wX3 E adt t_switches_8 t_hosts_9 z_1.2.2 t_priorities_10 t_names_11 t_wants_12 t_blocks_13 t_upTo_14 t_clashedTo_15 t_zoneSets_16 t_places_17 t_notices_18 t_news_19, wX5 E add d_letters d_size]) hC hN (tX5_numberAt l E add d_letters d_size v2_3 r_23 r_25 hr_25) cy_X5_numberAt mML_X4_41 mIM_X5_numberAt mSE_X5_numberAt rfl rfl (k := 0) rfl (cat_perm [wX4 E adc adt c_awaited_5 c_priority_6 c_name_7, wX3 E adt t_switches_8 t_hosts_9 z_1.2.2 t_priorities_10 t_names_11 t_wants_12 t_blocks_13 t_upTo_14 t_clashedTo_15 t_zoneSets_16 t_places_17 t_notices_18 t_news_19, wX5 E add d_letters d_size] 3 rfl [2] [0, 1] (by decide)) (cat_perm [wX4 E adc adt c_awaited_5 c_priority_6 c_name_7, wX3 E adt t_switches_8 t_hosts_9 z_1.2.2 t_priorities_10 t_names_11 t_wants_12 t_blocks_13 t_upTo_14 t_clashedTo_15 t_zoneSets_16 t_places_17 t_notices_18 t_news_19, wX5 E add d_letters d_size] 3 rfl [2] [0, 1] (by decide)) rfl rfl hl.1 rfl (Nat.le_of_ble_eq_true rfl) dX4_faultOf_51 ⟨Nat.le_of_ble_eq_true rfl, Nat.le_of_ble_eq_true rfl⟩ ⟨Nat.le_refl _, Nat.le_refl _⟩ (fun H locs hN => ?_)
          obtain ⟨z_26, hz_26, h⟩ := bi_e h
          refine n_callVi (ws' := cat [wX4 E adc adt z_26.2.1 z_26.2.2.1 z_26.2.2.2.1, wX3 E adt z_26.2.2.2.2.1 z_26.2.2.2.2.2.1 z_1.2.2 z_26.2.2.2.2.2.2.1 z_26.2.2.2.2.2.2.2.1 z_26.2.2.2.2.2.2.2.2.1 z_26.2.2.2.2.2.2.2.2.2.1 z_26.2.2.2.2.2.2.2.2.2.2.1 z_26.2.2.2.2.2.2.2.2.2.2.2.1 z_26.2.2.2.2.2.2.2.2.2.2.2.2.1 z_26.2.2.2.2.2.2.2.2.2.2.2.2.2.1 z_26.2.2.2.2.2.2.2.2.2.2.2.2.2.2.1 z_26.2.2.2.2.2.2.2.2.2.2.2.2.2.2.2, wX5 E add d_letters d_size]) hC hN (tX4_takes l E adc adt c_awaited_5 c_priority_6 c_name_7 t_switches_8 t_hosts_9 z_1.2.2 t_priorities_10 t_names_11 t_wants_12 t_blocks_13 t_upTo_14 t_clashedTo_15 t_zoneSets_16 t_places_17 t_notices_18 t_news_19 r_24 r_25 z_26 hz_26) cy_X4_takes mML_X4_45 mIM_X4_takes mSE_X4_takes rfl rfl (k := 0) rfl (cat_perm [wX4 E adc adt c_awaited_5 c_priority_6 c_name_7, wX3 E adt t_switches_8 t_hosts_9 z_1.2.2 t_priorities_10 t_names_11 t_wants_12 t_blocks_13 t_upTo_14 t_clashedTo_15 t_zoneSets_16 t_places_17 t_notices_18 t_news_19, wX5 E add d_letters d_size] 3 rfl [0, 1] [2] (by decide)) (cat_perm [wX4 E adc adt z_26.2.1 z_26.2.2.1 z_26.2.2.2.1, wX3 E adt z_26.2.2.2.2.1 z_26.2.2.2.2.2.1 z_1.2.2 z_26.2.2.2.2.2.2.1 z_26.2.2.2.2.2.2.2.1 z_26.2.2.2.2.2.2.2.2.1 z_26.2.2.2.2.2.2.2.2.2.1 z_26.2.2.2.2.2.2.2.2.2.2.1 z_26.2.2.2.2.2.2.2.2.2.2.2.1 z_26.2.2.2.2.2.2.2.2.2.2.2.2.1 z_26.2.2.2.2.2.2.2.2.2.2.2.2.2.1 z_26.2.2.2.2.2.2.2.2.2.2.2.2.2.2.1 z_26.2.2.2.2.2.2.2.2.2.2.2.2.2.2.2, wX5 E add d_letters d_size] 3 rfl [0, 1] [2] (by decide)) rfl rfl hl.1 rfl (Nat.le_of_ble_eq_true rfl) dX4_faultOf_54 ⟨Nat.le_of_ble_eq_true rfl, Nat.le_of_ble_eq_true rfl⟩ ⟨Nat.le_refl _, Nat.le_refl _⟩ (fun H locs hN => ?_)
          refine lv_if_ne (tgt := 62) hx hb dX4_faultOf_57 (by decide) (fun c27 => ?_) (fun c27 => ?_)
          · have h := if_f h c27
            refine lv_aload_n hx hb dX4_faultOf_62 rfl (lv_at hl 2 rfl) ?_
            refine lv_iload hx hb dX4_faultOf_63 (lv_at hl 0 rfl) ?_
            obtain ⟨r_28, hr_28, h⟩ := bi_e h
            refine n_callVi (ws' := cat [wX4 E adc adt z_26.2.1 z_26.2.2.1 z_26.2.2.2.1, wX3 E adt z_26.2.2.2.2.1 z_26.2.2.2.2.2.1 z_1.2.2 z_26.2.2.2.2.2.2.1 z_26.2.2.2.2.2.2.2.1 z_26.2.2.2.2.2.2.2.2.1 z_26.2.2.2.2.2.2.2.2.2.1 z_26.2.2.2.2.2.2.2.2.2.2.1 z_26.2.2.2.2.2.2.2.2.2.2.2.1 z_26.2.2.2.2.2.2.2.2.2.2.2.2.1 z_26.2.2.2.2.2.2.2.2.2.2.2.2.2.1 z_26.2.2.2.2.2.2.2.2.2.2.2.2.2.2.1 z_26.2.2.2.2.2.2.2.2.2.2.2.2.2.2.2, wX5 E add d_letters d_size]) hC hN (tX5_skipBlanks l E add d_letters d_size r_23 r_28 hr_28) cy_X5_skipBlanks mML_X4_25 mIM_X5_skipBlanks mSE_X5_skipBlanks rfl rfl (k := 0) rfl (cat_perm [wX4 E adc adt z_26.2.1 z_26.2.2.1 z_26.2.2.2.1, wX3 E adt z_26.2.2.2.2.1 z_26.2.2.2.2.2.1 z_1.2.2 z_26.2.2.2.2.2.2.1 z_26.2.2.2.2.2.2.2.1 z_26.2.2.2.2.2.2.2.2.1 z_26.2.2.2.2.2.2.2.2.2.1 z_26.2.2.2.2.2.2.2.2.2.2.1 z_26.2.2.2.2.2.2.2.2.2.2.2.1 z_26.2.2.2.2.2.2.2.2.2.2.2.2.1 z_26.2.2.2.2.2.2.2.2.2.2.2.2.2.1 z_26.2.2.2.2.2.2.2.2.2.2.2.2.2.2.1 z_26.2.2.2.2.2.2.2.2.2.2.2.2.2.2.2, wX5 E add d_letters d_size] 3 rfl [2] [0, 1] (by decide)) (cat_perm [wX4 E adc adt z_26.2.1 z_26.2.2.1 z_26.2.2.2.1, wX3 E adt z_26.2.2.2.2.1 z_26.2.2.2.2.2.1 z_1.2.2 z_26.2.2.2.2.2.2.1 z_26.2.2.2.2.2.2.2.1 z_26.2.2.2.2.2.2.2.2.1 z_26.2.2.2.2.2.2.2.2.2.1 z_26.2.2.2.2.2.2.2.2.2.2.1 z_26.2.2.2.2.2.2.2.2.2.2.2.1 z_26.2.2.2.2.2.2.2.2.2.2.2.2.1 z_26.2.2.2.2.2.2.2.2.2.2.2.2.2.1 z_26.2.2.2.2.2.2.2.2.2.2.2.2.2.2.1 z_26.2.2.2.2.2.2.2.2.2.2.2.2.2.2.2, wX5 E add d_letters d_size] 3 rfl [2] [0, 1] (by decide)) rfl rfl hl.1 rfl (Nat.le_of_ble_eq_true rfl) dX4_faultOf_65 ⟨Nat.le_of_ble_eq_true rfl, Nat.le_of_ble_eq_true rfl⟩ ⟨Nat.le_refl _, Nat.le_refl _⟩ (fun H locs hN => ?_)
            refine lv_istore_n (lv' := [(2, .int r_28), (4, .int r_23), (0, .ref (adc 0)), (1, .ref (add 0)), (3, .int v3_4)]) hx hb dX4_faultOf_68 rfl hl (by decide) rfl (fun ls hl => ?_)
            obtain ⟨v3_29, ev3_29⟩ : ∃ y : Int32, y = v3_4 + 1 := ⟨_, rfl⟩
            have h := bd_e h v3_29 ev3_29
            refine lv_iinc (v := v3_29) (lv' := [(3, .int v3_29), (2, .int r_28), (4, .int r_23), (0, .ref (adc 0)), (1, .ref (add 0))]) hx hb dX4_faultOf_69 hl (k := 4) rfl (by rw [ev3_29]; rfl) (by decide) rfl (fun ls hl => ?_)
            refine lv_goto (tgt := 20) hx hb dX4_faultOf_72 (by decide) ?_
            exact ih r_28 v3_29 z_26.2.1 z_26.2.2.1 z_26.2.2.2.1 z_26.2.2.2.2.1 z_26.2.2.2.2.2.1 z_26.2.2.2.2.2.2.1 z_26.2.2.2.2.2.2.2.1 z_26.2.2.2.2.2.2.2.2.1 z_26.2.2.2.2.2.2.2.2.2.1 z_26.2.2.2.2.2.2.2.2.2.2.1 z_26.2.2.2.2.2.2.2.2.2.2.2.1 z_26.2.2.2.2.2.2.2.2.2.2.2.2.1 z_26.2.2.2.2.2.2.2.2.2.2.2.2.2.1 z_26.2.2.2.2.2.2.2.2.2.2.2.2.2.2.1 z_26.2.2.2.2.2.2.2.2.2.2.2.2.2.2.2 z _ _ _ hN (lv_sub hl [3, 4, 1, 0] rfl) h K1 K
          · have h := if_t h c27
            refine lv_iload_n hx hb dX4_faultOf_60 rfl (lv_at hl 3 rfl) ?_
            have h := K1 _ (Option.some.inj h).symm
            obtain rfl := Option.some.inj h
            exact n_iret hC hN dX4_faultOf_61
  obtain ⟨z_30, hz_30, h⟩ := bi_e h
  refine L1 500 r_2 0 0 c_priority c_name z_1.1 z_1.2.1 t_priorities t_names t_wants t_blocks t_upTo t_clashedTo t_zoneSets t_places t_notices t_news z_30 _ _ _ hN (lv_sub hl [2, 3, 1, 0] rfl) hz_30 (fun y ey => by rw [ey] at h; exact h) (fun y_31 ey H locs ls hN hl => ?_)
  rw [ey] at h
  have h := sum_r h
  refine lv_aload_n hx hb dX4_faultOf_75 rfl (lv_at hl 0 rfl) ?_
  refine gt_X4_awaited hC hN 0 rfl rfl dX4_faultOf_76 ?_
  refine lv_if_ne (tgt := 97) hx hb dX4_faultOf_79 (by decide) (fun c32 => ?_) (fun c32 => ?_)
  · have h := if_f h c32
    refine lv_aload_n hx hb dX4_faultOf_97 rfl (lv_at hl 1 rfl) ?_
    obtain ⟨r_33, hr_33, h⟩ := bi_e h
    refine n_callVi (ws' := cat [wX4 E adc adt y_31.2.2.1 y_31.2.2.2.1 y_31.2.2.2.2.1, wX3 E adt y_31.2.2.2.2.2.1 y_31.2.2.2.2.2.2.1 z_1.2.2 y_31.2.2.2.2.2.2.2.1 y_31.2.2.2.2.2.2.2.2.1 y_31.2.2.2.2.2.2.2.2.2.1 y_31.2.2.2.2.2.2.2.2.2.2.1 y_31.2.2.2.2.2.2.2.2.2.2.2.1 y_31.2.2.2.2.2.2.2.2.2.2.2.2.1 y_31.2.2.2.2.2.2.2.2.2.2.2.2.2.1 y_31.2.2.2.2.2.2.2.2.2.2.2.2.2.2.1 y_31.2.2.2.2.2.2.2.2.2.2.2.2.2.2.2.1 y_31.2.2.2.2.2.2.2.2.2.2.2.2.2.2.2.2, wX5 E add d_letters d_size]) hC hN (tX5_size l E add d_letters d_size r_33 hr_33) cy_X5_size mML_X4_31 mIM_X5_size mSE_X5_size rfl rfl (k := 0) rfl (cat_perm [wX4 E adc adt y_31.2.2.1 y_31.2.2.2.1 y_31.2.2.2.2.1, wX3 E adt y_31.2.2.2.2.2.1 y_31.2.2.2.2.2.2.1 z_1.2.2 y_31.2.2.2.2.2.2.2.1 y_31.2.2.2.2.2.2.2.2.1 y_31.2.2.2.2.2.2.2.2.2.1 y_31.2.2.2.2.2.2.2.2.2.2.1 y_31.2.2.2.2.2.2.2.2.2.2.2.1 y_31.2.2.2.2.2.2.2.2.2.2.2.2.1 y_31.2.2.2.2.2.2.2.2.2.2.2.2.2.1 y_31.2.2.2.2.2.2.2.2.2.2.2.2.2.2.1 y_31.2.2.2.2.2.2.2.2.2.2.2.2.2.2.2.1 y_31.2.2.2.2.2.2.2.2.2.2.2.2.2.2.2.2, wX5 E add d_letters d_size] 3 rfl [2] [0, 1] (by decide)) (cat_perm [wX4 E adc adt y_31.2.2.1 y_31.2.2.2.1 y_31.2.2.2.2.1, wX3 E adt y_31.2.2.2.2.2.1 y_31.2.2.2.2.2.2.1 z_1.2.2 y_31.2.2.2.2.2.2.2.1 y_31.2.2.2.2.2.2.2.2.1 y_31.2.2.2.2.2.2.2.2.2.1 y_31.2.2.2.2.2.2.2.2.2.2.1 y_31.2.2.2.2.2.2.2.2.2.2.2.1 y_31.2.2.2.2.2.2.2.2.2.2.2.2.1 y_31.2.2.2.2.2.2.2.2.2.2.2.2.2.1 y_31.2.2.2.2.2.2.2.2.2.2.2.2.2.2.1 y_31.2.2.2.2.2.2.2.2.2.2.2.2.2.2.2.1 y_31.2.2.2.2.2.2.2.2.2.2.2.2.2.2.2.2, wX5 E add d_letters d_size] 3 rfl [2] [0, 1] (by decide)) rfl rfl hl.1 rfl (Nat.le_of_ble_eq_true rfl) dX4_faultOf_98 ⟨Nat.le_of_ble_eq_true rfl, Nat.le_of_ble_eq_true rfl⟩ ⟨Nat.le_refl _, Nat.le_refl _⟩ (fun H locs hN => ?_)
    obtain rfl := Option.some.inj h
    exact n_iret hC hN dX4_faultOf_101
  · have h := if_t h c32
    refine lv_aload_n hx hb dX4_faultOf_82 rfl (lv_at hl 0 rfl) ?_
    refine gt_X4_told hC hN 0 rfl rfl dX4_faultOf_83 ?_
    obtain ⟨r_34, hr_34, h⟩ := bi_e h
    refine n_callVi (ws' := cat [wX4 E adc adt y_31.2.2.1 y_31.2.2.2.1 y_31.2.2.2.2.1, wX3 E adt y_31.2.2.2.2.2.1 y_31.2.2.2.2.2.2.1 z_1.2.2 y_31.2.2.2.2.2.2.2.1 y_31.2.2.2.2.2.2.2.2.1 y_31.2.2.2.2.2.2.2.2.2.1 y_31.2.2.2.2.2.2.2.2.2.2.1 y_31.2.2.2.2.2.2.2.2.2.2.2.1 y_31.2.2.2.2.2.2.2.2.2.2.2.2.1 y_31.2.2.2.2.2.2.2.2.2.2.2.2.2.1 y_31.2.2.2.2.2.2.2.2.2.2.2.2.2.2.1 y_31.2.2.2.2.2.2.2.2.2.2.2.2.2.2.2.1 y_31.2.2.2.2.2.2.2.2.2.2.2.2.2.2.2.2, wX5 E add d_letters d_size]) hC hN (tX3_switchTotal l E adt y_31.2.2.2.2.2.1 y_31.2.2.2.2.2.2.1 z_1.2.2 y_31.2.2.2.2.2.2.2.1 y_31.2.2.2.2.2.2.2.2.1 y_31.2.2.2.2.2.2.2.2.2.1 y_31.2.2.2.2.2.2.2.2.2.2.1 y_31.2.2.2.2.2.2.2.2.2.2.2.1 y_31.2.2.2.2.2.2.2.2.2.2.2.2.1 y_31.2.2.2.2.2.2.2.2.2.2.2.2.2.1 y_31.2.2.2.2.2.2.2.2.2.2.2.2.2.2.1 y_31.2.2.2.2.2.2.2.2.2.2.2.2.2.2.2.1 y_31.2.2.2.2.2.2.2.2.2.2.2.2.2.2.2.2 r_34 hr_34) cy_X3_switchTotal mML_X4_49 mIM_X3_switchTotal mSE_X3_switchTotal rfl rfl (k := 0) rfl (cat_perm [wX4 E adc adt y_31.2.2.1 y_31.2.2.2.1 y_31.2.2.2.2.1, wX3 E adt y_31.2.2.2.2.2.1 y_31.2.2.2.2.2.2.1 z_1.2.2 y_31.2.2.2.2.2.2.2.1 y_31.2.2.2.2.2.2.2.2.1 y_31.2.2.2.2.2.2.2.2.2.1 y_31.2.2.2.2.2.2.2.2.2.2.1 y_31.2.2.2.2.2.2.2.2.2.2.2.1 y_31.2.2.2.2.2.2.2.2.2.2.2.2.1 y_31.2.2.2.2.2.2.2.2.2.2.2.2.2.1 y_31.2.2.2.2.2.2.2.2.2.2.2.2.2.2.1 y_31.2.2.2.2.2.2.2.2.2.2.2.2.2.2.2.1 y_31.2.2.2.2.2.2.2.2.2.2.2.2.2.2.2.2, wX5 E add d_letters d_size] 3 rfl [1] [0, 2] (by decide)) (cat_perm [wX4 E adc adt y_31.2.2.1 y_31.2.2.2.1 y_31.2.2.2.2.1, wX3 E adt y_31.2.2.2.2.2.1 y_31.2.2.2.2.2.2.1 z_1.2.2 y_31.2.2.2.2.2.2.2.1 y_31.2.2.2.2.2.2.2.2.1 y_31.2.2.2.2.2.2.2.2.2.1 y_31.2.2.2.2.2.2.2.2.2.2.1 y_31.2.2.2.2.2.2.2.2.2.2.2.1 y_31.2.2.2.2.2.2.2.2.2.2.2.2.1 y_31.2.2.2.2.2.2.2.2.2.2.2.2.2.1 y_31.2.2.2.2.2.2.2.2.2.2.2.2.2.2.1 y_31.2.2.2.2.2.2.2.2.2.2.2.2.2.2.2.1 y_31.2.2.2.2.2.2.2.2.2.2.2.2.2.2.2.2, wX5 E add d_letters d_size] 3 rfl [1] [0, 2] (by decide)) rfl rfl hl.1 rfl (Nat.le_of_ble_eq_true rfl) dX4_faultOf_86 ⟨Nat.le_of_ble_eq_true rfl, Nat.le_of_ble_eq_true rfl⟩ ⟨Nat.le_refl _, Nat.le_refl _⟩ (fun H locs hN => ?_)
    refine lv_if_le (tgt := 97) hx hb dX4_faultOf_89 (by decide) (fun c35 => ?_) (fun c35 => ?_)
    · have h := if_t h c35
      refine lv_aload_n hx hb dX4_faultOf_97 rfl (lv_at hl 1 rfl) ?_
      obtain ⟨r_36, hr_36, h⟩ := bi_e h
      refine n_callVi (ws' := cat [wX4 E adc adt y_31.2.2.1 y_31.2.2.2.1 y_31.2.2.2.2.1, wX3 E adt y_31.2.2.2.2.2.1 y_31.2.2.2.2.2.2.1 z_1.2.2 y_31.2.2.2.2.2.2.2.1 y_31.2.2.2.2.2.2.2.2.1 y_31.2.2.2.2.2.2.2.2.2.1 y_31.2.2.2.2.2.2.2.2.2.2.1 y_31.2.2.2.2.2.2.2.2.2.2.2.1 y_31.2.2.2.2.2.2.2.2.2.2.2.2.1 y_31.2.2.2.2.2.2.2.2.2.2.2.2.2.1 y_31.2.2.2.2.2.2.2.2.2.2.2.2.2.2.1 y_31.2.2.2.2.2.2.2.2.2.2.2.2.2.2.2.1 y_31.2.2.2.2.2.2.2.2.2.2.2.2.2.2.2.2, wX5 E add d_letters d_size]) hC hN (tX5_size l E add d_letters d_size r_36 hr_36) cy_X5_size mML_X4_31 mIM_X5_size mSE_X5_size rfl rfl (k := 0) rfl (cat_perm [wX4 E adc adt y_31.2.2.1 y_31.2.2.2.1 y_31.2.2.2.2.1, wX3 E adt y_31.2.2.2.2.2.1 y_31.2.2.2.2.2.2.1 z_1.2.2 y_31.2.2.2.2.2.2.2.1 y_31.2.2.2.2.2.2.2.2.1 y_31.2.2.2.2.2.2.2.2.2.1 y_31.2.2.2.2.2.2.2.2.2.2.1 y_31.2.2.2.2.2.2.2.2.2.2.2.1 y_31.2.2.2.2.2.2.2.2.2.2.2.2.1 y_31.2.2.2.2.2.2.2.2.2.2.2.2.2.1 y_31.2.2.2.2.2.2.2.2.2.2.2.2.2.2.1 y_31.2.2.2.2.2.2.2.2.2.2.2.2.2.2.2.1 y_31.2.2.2.2.2.2.2.2.2.2.2.2.2.2.2.2, wX5 E add d_letters d_size] 3 rfl [2] [0, 1] (by decide)) (cat_perm [wX4 E adc adt y_31.2.2.1 y_31.2.2.2.1 y_31.2.2.2.2.1, wX3 E adt y_31.2.2.2.2.2.1 y_31.2.2.2.2.2.2.1 z_1.2.2 y_31.2.2.2.2.2.2.2.1 y_31.2.2.2.2.2.2.2.2.1 y_31.2.2.2.2.2.2.2.2.2.1 y_31.2.2.2.2.2.2.2.2.2.2.1 y_31.2.2.2.2.2.2.2.2.2.2.2.1 y_31.2.2.2.2.2.2.2.2.2.2.2.2.1 y_31.2.2.2.2.2.2.2.2.2.2.2.2.2.1 y_31.2.2.2.2.2.2.2.2.2.2.2.2.2.2.1 y_31.2.2.2.2.2.2.2.2.2.2.2.2.2.2.2.1 y_31.2.2.2.2.2.2.2.2.2.2.2.2.2.2.2.2, wX5 E add d_letters d_size] 3 rfl [2] [0, 1] (by decide)) rfl rfl hl.1 rfl (Nat.le_of_ble_eq_true rfl) dX4_faultOf_98 ⟨Nat.le_of_ble_eq_true rfl, Nat.le_of_ble_eq_true rfl⟩ ⟨Nat.le_refl _, Nat.le_refl _⟩ (fun H locs hN => ?_)
      obtain rfl := Option.some.inj h
      exact n_iret hC hN dX4_faultOf_101
    · have h := if_f h c35
      refine lv_bipush (v := -9) hx hb dX4_faultOf_92 (by decide) ?_
      refine lv_goto (tgt := 101) hx hb dX4_faultOf_94 (by decide) ?_
      obtain rfl := Option.some.inj h
      exact n_iret hC hN dX4_faultOf_101
set_option maxHeartbeats 4000000 in
set_option maxRecDepth 100000 in
theorem tX5_add (l : Launch) (E : EV) (adc : Nat → Nat) (c_letters : Nat → Int32) (c_size : Int32) (p1 : Int32) (z : Int32 × (Nat → Int32) × Int32) (h : fX5_add c_letters c_size p1 = some z) : Cn l E yX5_add cX5_add 2 (some .boolean) 0 0 [.ref (adc 0), .int p1] (wX5 E adc c_letters c_size) (wX5 E adc z.2.1 z.2.2) (some (.int z.1)) := by
  refine Cn.ofW (by decide +kernel) (Nat.le_of_ble_eq_true rfl) ?_
  intro p e s m args below meth c ls hC hN hl
  have hl : lv_has ls 2 [(0, .ref (adc 0)), (1, .int p1)] := hl
  have hx := hC.1
  have hb := hC.2.1
  unfold fX5_add at h
  refine lv_aload_n hx hb dX5_add_0 rfl (lv_at hl 0 rfl) ?_
  refine gt_X5_size hC hN 0 rfl rfl dX5_add_1 ?_
  refine lv_bipush (v := 100) hx hb dX5_add_4 (by decide) ?_
  refine lv_icmp_lt (tgt := 11) hx hb dX5_add_6 (by decide) (fun c1 => ?_) (fun c1 => ?_)
  · have h := if_t h c1
    refine lv_aload_n hx hb dX5_add_11 rfl (lv_at hl 0 rfl) ?_
    refine gt_X5_letters hC hN 0 rfl rfl dX5_add_12 ?_
    refine lv_aload_n hx hb dX5_add_15 rfl (lv_at hl 0 rfl) ?_
    refine gt_X5_size hC hN 0 rfl rfl dX5_add_16 ?_
    refine lv_iload_n hx hb dX5_add_19 rfl (lv_at hl 1 rfl) ?_
    have g := inB_vp (gd_c h)
    have h := gd_e h
    obtain ⟨c_letters_2, ec_letters_2⟩ : ∃ y : Nat → Int32, y = upd c_letters c_size.toNatClampNeg p1 := ⟨_, rfl⟩
    have h := bd_e h c_letters_2 ec_letters_2
    refine n_iast hC hN 1 rfl g ec_letters_2 (ws' := wX5 E adc c_letters_2 c_size) rfl dX5_add_20 (fun H locs hN => ?_)
    refine lv_aload_n hx hb dX5_add_21 rfl (lv_at hl 0 rfl) ?_
    refine lv_dup hx hb dX5_add_22 rfl ?_
    refine gt_X5_size hC hN 0 rfl rfl dX5_add_23 ?_
    refine lv_iconst (v := 1) hx hb dX5_add_26 rfl ?_
    refine lv_iadd hx hb dX5_add_27 ?_
    refine lv_topi (fun c_size_3 ec_size_3 => ?_)
    have h := bd_e h c_size_3 ec_size_3
    refine pt_X5_size hC hN 0 rfl (Nat.le_of_ble_eq_true rfl) (ws' := wX5 E adc c_letters_2 c_size_3) rfl dX5_add_28 (fun H locs hN => ?_)
    refine lv_iconst (v := 1) hx hb dX5_add_31 rfl ?_
    obtain rfl := Option.some.inj h
    exact n_zret hC hN (Or.inr rfl) dX5_add_32
  · have h := if_f h c1
    refine lv_iconst (v := 0) hx hb dX5_add_9 rfl ?_
    obtain rfl := Option.some.inj h
    exact n_zret hC hN (Or.inl rfl) dX5_add_10
set_option maxHeartbeats 4000000 in
set_option maxRecDepth 100000 in
theorem tX5_empty (l : Launch) (E : EV) (adc : Nat → Nat) (c_letters : Nat → Int32) (c_size : Int32) (z : Int32) (h : fX5_empty = some z) : Cn l E yX5_empty cX5_empty 1 none 0 0 [.ref (adc 0)] (wX5 E adc c_letters c_size) (wX5 E adc c_letters z) (none) := by
  refine Cn.ofW (by decide +kernel) (Nat.le_of_ble_eq_true rfl) ?_
  intro p e s m args below meth c ls hC hN hl
  have hl : lv_has ls 1 [(0, .ref (adc 0))] := hl
  have hx := hC.1
  have hb := hC.2.1
  unfold fX5_empty at h
  refine lv_aload_n hx hb dX5_empty_0 rfl (lv_at hl 0 rfl) ?_
  refine lv_iconst (v := 0) hx hb dX5_empty_1 rfl ?_
  refine pt_X5_size hC hN 0 rfl (Nat.le_of_ble_eq_true rfl) (ws' := wX5 E adc c_letters 0) rfl dX5_empty_2 (fun H locs hN => ?_)
  obtain rfl := Option.some.inj h
  exact n_vret hC hN dX5_empty_5
set_option maxHeartbeats 4000000 in
set_option maxRecDepth 100000 in
theorem tX6_size (l : Launch) (E : EV) (adc : Nat → Nat) (c_codes : Nat → Int32) (c_views : Nat → Int64) (c_size : Int32) (z : Int32) (h : fX6_size c_size = some z) : Cn l E yX6_size cX6_size 1 (some .int) 0 0 [.ref (adc 0)] (wX6 E adc c_codes c_views c_size) (wX6 E adc c_codes c_views c_size) (some (.int z)) := by
  refine Cn.ofW (by decide +kernel) (Nat.le_of_ble_eq_true rfl) ?_
  intro p e s m args below meth c ls hC hN hl
  have hl : lv_has ls 1 [(0, .ref (adc 0))] := hl
  have hx := hC.1
  have hb := hC.2.1
  unfold fX6_size at h
  refine lv_aload_n hx hb dX6_size_0 rfl (lv_at hl 0 rfl) ?_
  refine gt_X6_size hC hN 0 rfl rfl dX6_size_1 ?_
  obtain rfl := Option.some.inj h
  exact n_iret hC hN dX6_size_4
set_option maxHeartbeats 4000000 in
set_option maxRecDepth 100000 in
theorem tX6_codeAt (l : Launch) (E : EV) (adc : Nat → Nat) (c_codes : Nat → Int32) (c_views : Nat → Int64) (c_size : Int32) (p1 : Int32) (z : Int32) (h : fX6_codeAt c_codes c_size p1 = some z) : Cn l E yX6_codeAt cX6_codeAt 2 (some .int) 0 0 [.ref (adc 0), .int p1] (wX6 E adc c_codes c_views c_size) (wX6 E adc c_codes c_views c_size) (some (.int z)) := by
  refine Cn.ofW (by decide +kernel) (Nat.le_of_ble_eq_true rfl) ?_
  intro p e s m args below meth c ls hC hN hl
  have hl : lv_has ls 2 [(0, .ref (adc 0)), (1, .int p1)] := hl
  have hx := hC.1
  have hb := hC.2.1
  unfold fX6_codeAt at h
  refine lv_iload_n hx hb dX6_codeAt_0 rfl (lv_at hl 1 rfl) ?_
  refine lv_if_lt (tgt := 21) hx hb dX6_codeAt_1 (by decide) (fun c1 => ?_) (fun c1 => ?_)
  · have h := if_t h c1
    refine lv_bipush (v := -9) hx hb dX6_codeAt_21 (by decide) ?_
    obtain rfl := Option.some.inj h
    exact n_iret hC hN dX6_codeAt_23
  · have h := if_f h c1
    refine lv_iload_n hx hb dX6_codeAt_4 rfl (lv_at hl 1 rfl) ?_
    refine lv_aload_n hx hb dX6_codeAt_5 rfl (lv_at hl 0 rfl) ?_
    refine gt_X6_size hC hN 0 rfl rfl dX6_codeAt_6 ?_
    refine lv_icmp_ge (tgt := 21) hx hb dX6_codeAt_9 (by decide) (fun c2 => ?_) (fun c2 => ?_)
    · have h := if_t h c2
      refine lv_bipush (v := -9) hx hb dX6_codeAt_21 (by decide) ?_
      obtain rfl := Option.some.inj h
      exact n_iret hC hN dX6_codeAt_23
    · have h := if_f h c2
      refine lv_aload_n hx hb dX6_codeAt_12 rfl (lv_at hl 0 rfl) ?_
      refine gt_X6_codes hC hN 0 rfl rfl dX6_codeAt_13 ?_
      refine lv_iload_n hx hb dX6_codeAt_16 rfl (lv_at hl 1 rfl) ?_
      have g := inB_vp (gd_c h)
      have h := gd_e h
      refine n_iald hC hN 1 rfl g dX6_codeAt_17 ?_
      refine lv_goto (tgt := 23) hx hb dX6_codeAt_18 (by decide) ?_
      obtain rfl := Option.some.inj h
      exact n_iret hC hN dX6_codeAt_23
set_option maxHeartbeats 4000000 in
set_option maxRecDepth 100000 in
theorem tX6_cutEach (l : Launch) (E : EV) (adc : Nat → Nat) (add : Nat → Nat) (c_codes : Nat → Int32) (c_views : Nat → Int64) (c_size : Int32) (d_switches : Int32) (d_hosts : Int32) (d_renewing : Int32) (d_priorities : Nat → Int32) (d_names : Nat → Int32) (d_wants : Nat → Int32) (d_blocks : Nat → Int32) (d_upTo : Nat → Int32) (d_clashedTo : Nat → Int32) (d_zoneSets : Nat → Int32) (d_places : Nat → Int32) (d_notices : Nat → Int32) (d_news : Nat → Int32) (z : (Nat → Int32) × (Nat → Int64) × Int32 × (Nat → Int32) × (Nat → Int32)) (h : fX6_cutEach c_codes c_views d_switches d_hosts d_upTo d_clashedTo d_zoneSets d_places = some z) : Cn l E yX6_cutEach cX6_cutEach 4 none 5 123 [.ref (adc 0), .ref (add 0)] (cat [wX6 E adc c_codes c_views c_size, wX3 E add d_switches d_hosts d_renewing d_priorities d_names d_wants d_blocks d_upTo d_clashedTo d_zoneSets d_places d_notices d_news]) (cat [wX6 E adc z.1 z.2.1 z.2.2.1, wX3 E add d_switches d_hosts d_renewing d_priorities d_names d_wants d_blocks z.2.2.2.1 z.2.2.2.2 d_zoneSets d_places d_notices d_news]) (none) := by
  refine Cn.ofW (by decide +kernel) (Nat.le_of_ble_eq_true rfl) ?_
  intro p e s m args below meth c ls hC hN hl
  obtain ⟨z0, hz0⟩ : ∃ y, y = z := ⟨_, rfl⟩
  rw [← hz0] at h ⊢
  clear hz0
  have hl : lv_has ls 4 [(0, .ref (adc 0)), (1, .ref (add 0))] := hl
  have hx := hC.1
  have hb := hC.2.1
  unfold fX6_cutEach at h
  refine lv_aload_n hx hb dX6_cutEach_0 rfl (lv_at hl 0 rfl) ?_
  refine lv_iconst (v := 0) hx hb dX6_cutEach_1 rfl ?_
  refine pt_X6_size hC hN 0 rfl (Nat.le_of_ble_eq_true rfl) (ws' := cat [wX6 E adc c_codes c_views 0, wX3 E add d_switches d_hosts d_renewing d_priorities d_names d_wants d_blocks d_upTo d_clashedTo d_zoneSets d_places d_notices d_news]) rfl dX6_cutEach_2 (fun H locs hN => ?_)
  refine lv_iconst (v := 0) hx hb dX6_cutEach_5 rfl ?_
  refine lv_istore_n (lv' := [(2, .int 0), (0, .ref (adc 0)), (1, .ref (add 0))]) hx hb dX6_cutEach_6 rfl hl (by decide) rfl (fun ls hl => ?_)
  have L1 : ∀ (fu : Nat) (v2_1 : Int32) (c_codes_2 : Nat → Int32) (c_views_3 : Nat → Int64) (c_size_4 : Int32) (d_upTo_5 : Nat → Int32) (d_clashedTo_6 : Nat → Int32) (z : Int32 × (Nat → Int32) × (Nat → Int64) × Int32 × (Nat → Int32) × (Nat → Int32)) (H : Heap) (locs : List Loc) (ls : Array Slot), Nw E s (AD (cat [wX6 E adc c_codes c_views c_size, wX3 E add d_switches d_hosts d_renewing d_priorities d_names d_wants d_blocks d_upTo d_clashedTo d_zoneSets d_places d_notices d_news])) (cat [wX6 E adc c_codes_2 c_views_3 c_size_4, wX3 E add d_switches d_hosts d_renewing d_priorities d_names d_wants d_blocks d_upTo_5 d_clashedTo_6 d_zoneSets d_places d_notices d_news]) H locs → lv_has ls 4 [(0, .ref (adc 0)), (1, .ref (add 0)), (2, .int v2_1)] → fX6_cutEach_L1 d_switches d_hosts d_zoneSets d_places fu v2_1 c_codes_2 c_views_3 c_size_4 d_upTo_5 d_clashedTo_6 = some z → (∀ (H : Heap) (locs : List Loc) (ls : Array Slot), Nw E s (AD (cat [wX6 E adc c_codes c_views c_size, wX3 E add d_switches d_hosts d_renewing d_priorities d_names d_wants d_blocks d_upTo d_clashedTo d_zoneSets d_places d_notices d_news])) (cat [wX6 E adc z.2.1 z.2.2.1 z.2.2.2.1, wX3 E add d_switches d_hosts d_renewing d_priorities d_names d_wants d_blocks z.2.2.2.2.1 z.2.2.2.2.2 d_zoneSets d_places d_notices d_news]) H locs → lv_has ls 4 [(0, .ref (adc 0)), (1, .ref (add 0)), (2, .int z.1)] → WN p l e 5 123 s m args below meth c E (cat [wX6 E adc c_codes c_views c_size, wX3 E add d_switches d_hosts d_renewing d_priorities d_names d_wants d_blocks d_upTo d_clashedTo d_zoneSets d_places d_notices d_news]) (none) (cat [wX6 E adc z0.1 z0.2.1 z0.2.2.1, wX3 E add d_switches d_hosts d_renewing d_priorities d_names d_wants d_blocks z0.2.2.2.1 z0.2.2.2.2 d_zoneSets d_places d_notices d_news]) H locs (F0 m 97 ls [])) → WN p l e 5 123 s m args below meth c E (cat [wX6 E adc c_codes c_views c_size, wX3 E add d_switches d_hosts d_renewing d_priorities d_names d_wants d_blocks d_upTo d_clashedTo d_zoneSets d_places d_notices d_news]) (none) (cat [wX6 E adc z0.1 z0.2.1 z0.2.2.1, wX3 E add d_switches d_hosts d_renewing d_priorities d_names d_wants d_blocks z0.2.2.2.1 z0.2.2.2.2 d_zoneSets d_places d_notices d_news]) H locs (F0 m 7 ls []) := by
    intro fu
    induction fu with
    | zero =>
      intro v2_1 c_codes_2 c_views_3 c_size_4 d_upTo_5 d_clashedTo_6 z H locs ls hN hl h K
      cases (show (none : Option (Int32 × (Nat → Int32) × (Nat → Int64) × Int32 × (Nat → Int32) × (Nat → Int32))) = some z from h)
    | succ fu ih =>
      intro v2_1 c_codes_2 c_views_3 c_size_4 d_upTo_5 d_clashedTo_6 z H locs ls hN hl h K
      rw [fX6_cutEach_L1.eq_2] at h
      refine lv_iload_n hx hb dX6_cutEach_7 rfl (lv_at hl 2 rfl) ?_
      refine lv_aload_n hx hb dX6_cutEach_8 rfl (lv_at hl 1 rfl) ?_
      obtain ⟨r_7, hr_7, h⟩ := bi_e h
      refine n_callVi (ws' := cat [wX6 E adc c_codes_2 c_views_3 c_size_4, wX3 E add d_switches d_hosts d_renewing d_priorities d_names d_wants d_blocks d_upTo_5 d_clashedTo_6 d_zoneSets d_places d_notices d_news]) hC hN (tX3_switchTotal l E add d_switches d_hosts d_renewing d_priorities d_names d_wants d_blocks d_upTo_5 d_clashedTo_6 d_zoneSets d_places d_notices d_news r_7 hr_7) cy_X3_switchTotal mML_X6_23 mIM_X3_switchTotal mSE_X3_switchTotal rfl rfl (k := 0) rfl (cat_perm [wX6 E adc c_codes_2 c_views_3 c_size_4, wX3 E add d_switches d_hosts d_renewing d_priorities d_names d_wants d_blocks d_upTo_5 d_clashedTo_6 d_zoneSets d_places d_notices d_news] 2 rfl [1] [0] (by decide)) (cat_perm [wX6 E adc c_codes_2 c_views_3 c_size_4, wX3 E add d_switches d_hosts d_renewing d_priorities d_names d_wants d_blocks d_upTo_5 d_clashedTo_6 d_zoneSets d_places d_notices d_news] 2 rfl [1] [0] (by decide)) rfl rfl hl.1 rfl (Nat.le_of_ble_eq_true rfl) dX6_cutEach_9 ⟨Nat.le_of_ble_eq_true rfl, Nat.le_of_ble_eq_true rfl⟩ ⟨Nat.le_refl _, Nat.le_refl _⟩ (fun H locs hN => ?_)
      refine lv_icmp_ge (tgt := 97) hx hb dX6_cutEach_12 (by decide) (fun c8 => ?_) (fun c8 => ?_)
      · have h := if_t h c8
        obtain rfl := Option.some.inj h
        exact K _ _ _ hN (lv_sub hl [0, 1, 2] rfl)
      · have h := if_f h c8
        refine lv_iload_n hx hb dX6_cutEach_15 rfl (lv_at hl 2 rfl) ?_
        refine lv_iconst (v := 1) hx hb dX6_cutEach_16 rfl ?_
        refine lv_iadd hx hb dX6_cutEach_17 ?_
        refine lv_topi (fun v3_9 ev3_9 => ?_)
        have h := bd_e h v3_9 ev3_9
        refine lv_istore_n (lv' := [(3, .int v3_9), (0, .ref (adc 0)), (1, .ref (add 0)), (2, .int v2_1)]) hx hb dX6_cutEach_18 rfl hl (by decide) rfl (fun ls hl => ?_)
        have L2 : ∀ (fu : Nat) (v3_10 : Int32) (c_codes_11 : Nat → Int32) (c_views_12 : Nat → Int64) (c_size_13 : Int32) (d_upTo_14 : Nat → Int32) (d_clashedTo_15 : Nat → Int32) (z : Int32 × (Nat → Int32) × (Nat → Int64) × Int32 × (Nat → Int32) × (Nat → Int32)) (H : Heap) (locs : List Loc) (ls : Array Slot), Nw E s (AD (cat [wX6 E adc c_codes c_views c_size, wX3 E add d_switches d_hosts d_renewing d_priorities d_names d_wants d_blocks d_upTo d_clashedTo d_zoneSets d_places d_notices d_news])) (cat [wX6 E adc c_codes_11 c_views_12 c_size_13, wX3 E add d_switches d_hosts d_renewing d_priorities d_names d_wants d_blocks d_upTo_14 d_clashedTo_15 d_zoneSets d_places d_notices d_news]) H locs → lv_has ls 4 [(0, .ref (adc 0)), (1, .ref (add 0)), (2, .int v2_1), (3, .int v3_10)] → fX6_cutEach_L2 d_switches d_hosts d_zoneSets d_places v2_1 fu v3_10 c_codes_11 c_views_12 c_size_13 d_upTo_14 d_clashedTo_15 = some z → (∀ (H : Heap) (locs : List Loc) (ls : Array Slot), Nw E s (AD (cat [wX6 E adc c_codes c_views c_size, wX3 E add d_switches d_hosts d_renewing d_priorities d_names d_wants d_blocks d_upTo d_clashedTo d_zoneSets d_places d_notices d_news])) (cat [wX6 E adc z.2.1 z.2.2.1 z.2.2.2.1, wX3 E add d_switches d_hosts d_renewing d_priorities d_names d_wants d_blocks z.2.2.2.2.1 z.2.2.2.2.2 d_zoneSets d_places d_notices d_news]) H locs → lv_has ls 4 [(0, .ref (adc 0)), (1, .ref (add 0)), (2, .int v2_1), (3, .int z.1)] → WN p l e 5 123 s m args below meth c E (cat [wX6 E adc c_codes c_views c_size, wX3 E add d_switches d_hosts d_renewing d_priorities d_names d_wants d_blocks d_upTo d_clashedTo d_zoneSets d_places d_notices d_news]) (none) (cat [wX6 E adc z0.1 z0.2.1 z0.2.2.1, wX3 E add d_switches d_hosts d_renewing d_priorities d_names d_wants d_blocks z0.2.2.2.1 z0.2.2.2.2 d_zoneSets d_places d_notices d_news]) H locs (F0 m 91 ls [])) → WN p l e 5 123 s m args below meth c E (cat [wX6 E adc c_codes c_views c_size, wX3 E add d_switches d_hosts d_renewing d_priorities d_names d_wants d_blocks d_upTo d_clashedTo d_zoneSets d_places d_notices d_news]) (none) (cat [wX6 E adc z0.1 z0.2.1 z0.2.2.1, wX3 E add d_switches d_hosts d_renewing d_priorities d_names d_wants d_blocks z0.2.2.2.1 z0.2.2.2.2 d_zoneSets d_places d_notices d_news]) H locs (F0 m 19 ls []) := by
          intro fu
          induction fu with
          | zero =>
            intro v3_10 c_codes_11 c_views_12 c_size_13 d_upTo_14 d_clashedTo_15 z H locs ls hN hl h K
            cases (show (none : Option (Int32 × (Nat → Int32) × (Nat → Int64) × Int32 × (Nat → Int32) × (Nat → Int32))) = some z from h)
          | succ fu ih =>
            intro v3_10 c_codes_11 c_views_12 c_size_13 d_upTo_14 d_clashedTo_15 z H locs ls hN hl h K
            rw [fX6_cutEach_L2.eq_2] at h
            refine lv_iload_n hx hb dX6_cutEach_19 rfl (lv_at hl 3 rfl) ?_
            refine lv_aload_n hx hb dX6_cutEach_20 rfl (lv_at hl 1 rfl) ?_
            obtain ⟨r_16, hr_16, h⟩ := bi_e h
            refine n_callVi (ws' := cat [wX6 E adc c_codes_11 c_views_12 c_size_13, wX3 E add d_switches d_hosts d_renewing d_priorities d_names d_wants d_blocks d_upTo_14 d_clashedTo_15 d_zoneSets d_places d_notices d_news]) hC hN (tX3_switchTotal l E add d_switches d_hosts d_renewing d_priorities d_names d_wants d_blocks d_upTo_14 d_clashedTo_15 d_zoneSets d_places d_notices d_news r_16 hr_16) cy_X3_switchTotal mML_X6_23 mIM_X3_switchTotal mSE_X3_switchTotal rfl rfl (k := 0) rfl (cat_perm [wX6 E adc c_codes_11 c_views_12 c_size_13, wX3 E add d_switches d_hosts d_renewing d_priorities d_names d_wants d_blocks d_upTo_14 d_clashedTo_15 d_zoneSets d_places d_notices d_news] 2 rfl [1] [0] (by decide)) (cat_perm [wX6 E adc c_codes_11 c_views_12 c_size_13, wX3 E add d_switches d_hosts d_renewing d_priorities d_names d_wants d_blocks d_upTo_14 d_clashedTo_15 d_zoneSets d_places d_notices d_news] 2 rfl [1] [0] (by decide)) rfl rfl hl.1 rfl (Nat.le_of_ble_eq_true rfl) dX6_cutEach_21 ⟨Nat.le_of_ble_eq_true rfl, Nat.le_of_ble_eq_true rfl⟩ ⟨Nat.le_refl _, Nat.le_refl _⟩ (fun H locs hN => ?_)
            refine lv_icmp_ge (tgt := 91) hx hb dX6_cutEach_24 (by decide) (fun c17 => ?_) (fun c17 => ?_)
            · have h := if_t h c17
              obtain rfl := Option.some.inj h
              exact K _ _ _ hN (lv_sub hl [0, 1, 2, 3] rfl)
            · have h := if_f h c17
              refine lv_aload_n hx hb dX6_cutEach_27 rfl (lv_at hl 1 rfl) ?_
              refine lv_iload_n hx hb dX6_cutEach_28 rfl (lv_at hl 2 rfl) ?_
              refine lv_iload_n hx hb dX6_cutEach_29 rfl (lv_at hl 3 rfl) ?_
              obtain ⟨r_18, hr_18, h⟩ := bi_e h
              refine n_callVi (ws' := cat [wX6 E adc c_codes_11 c_views_12 c_size_13, wX3 E add d_switches d_hosts d_renewing d_priorities d_names d_wants d_blocks d_upTo_14 d_clashedTo_15 d_zoneSets d_places d_notices d_news]) hC hN (tX3_isUp l E add d_switches d_hosts d_renewing d_priorities d_names d_wants d_blocks d_upTo_14 d_clashedTo_15 d_zoneSets d_places d_notices d_news v2_1 v3_10 r_18 hr_18) cy_X3_isUp mML_X6_29 mIM_X3_isUp mSE_X3_isUp rfl rfl (k := 0) rfl (cat_perm [wX6 E adc c_codes_11 c_views_12 c_size_13, wX3 E add d_switches d_hosts d_renewing d_priorities d_names d_wants d_blocks d_upTo_14 d_clashedTo_15 d_zoneSets d_places d_notices d_news] 2 rfl [1] [0] (by decide)) (cat_perm [wX6 E adc c_codes_11 c_views_12 c_size_13, wX3 E add d_switches d_hosts d_renewing d_priorities d_names d_wants d_blocks d_upTo_14 d_clashedTo_15 d_zoneSets d_places d_notices d_news] 2 rfl [1] [0] (by decide)) rfl rfl hl.1 rfl (Nat.le_of_ble_eq_true rfl) dX6_cutEach_30 ⟨Nat.le_of_ble_eq_true rfl, Nat.le_of_ble_eq_true rfl⟩ ⟨Nat.le_refl _, Nat.le_refl _⟩ (fun H locs hN => ?_)
              refine lv_if_eq (tgt := 85) hx hb dX6_cutEach_33 (by decide) (fun c19 => ?_) (fun c19 => ?_)
              · have h := if_t h c19
                obtain ⟨v3_20, ev3_20⟩ : ∃ y : Int32, y = v3_10 + 1 := ⟨_, rfl⟩
                have h := bd_e h v3_20 ev3_20
                refine lv_iinc (v := v3_20) (lv' := [(3, .int v3_20), (0, .ref (adc 0)), (1, .ref (add 0)), (2, .int v2_1)]) hx hb dX6_cutEach_85 hl (k := 3) rfl (by rw [ev3_20]; rfl) (by decide) rfl (fun ls hl => ?_)
                refine lv_goto (tgt := 19) hx hb dX6_cutEach_88 (by decide) ?_
                exact ih v3_20 c_codes_11 c_views_12 c_size_13 d_upTo_14 d_clashedTo_15 z _ _ _ hN (lv_sub hl [1, 2, 3, 0] rfl) h K
              · have h := if_f h c19
                refine lv_aload_n hx hb dX6_cutEach_36 rfl (lv_at hl 0 rfl) ?_
                refine gt_X6_size hC hN 0 rfl rfl dX6_cutEach_37 ?_
                refine lv_bipush (v := 15) hx hb dX6_cutEach_40 (by decide) ?_
                refine lv_icmp_ge (tgt := 85) hx hb dX6_cutEach_42 (by decide) (fun c21 => ?_) (fun c21 => ?_)
                · have h := if_t h c21
                  obtain ⟨v3_22, ev3_22⟩ : ∃ y : Int32, y = v3_10 + 1 := ⟨_, rfl⟩
                  have h := bd_e h v3_22 ev3_22
                  refine lv_iinc (v := v3_22) (lv' := [(3, .int v3_22), (0, .ref (adc 0)), (1, .ref (add 0)), (2, .int v2_1)]) hx hb dX6_cutEach_85 hl (k := 3) rfl (by rw [ev3_22]; rfl) (by decide) rfl (fun ls hl => ?_)
                  refine lv_goto (tgt := 19) hx hb dX6_cutEach_88 (by decide) ?_
                  exact ih v3_22 c_codes_11 c_views_12 c_size_13 d_upTo_14 d_clashedTo_15 z _ _ _ hN (lv_sub hl [1, 2, 3, 0] rfl) h K
                · have h := if_f h c21
                  refine lv_aload_n hx hb dX6_cutEach_45 rfl (lv_at hl 0 rfl) ?_
                  refine gt_X6_codes hC hN 0 rfl rfl dX6_cutEach_46 ?_
                  refine lv_aload_n hx hb dX6_cutEach_49 rfl (lv_at hl 0 rfl) ?_
                  refine gt_X6_size hC hN 0 rfl rfl dX6_cutEach_50 ?_
                  refine lv_bipush (v := 10) hx hb dX6_cutEach_53 (by decide) ?_
                  refine lv_iload_n hx hb dX6_cutEach_55 rfl (lv_at hl 2 rfl) ?_
                  refine lv_imul hx hb dX6_cutEach_56 ?_
                  refine lv_iload_n hx hb dX6_cutEach_57 rfl (lv_at hl 3 rfl) ?_
                  refine lv_iadd hx hb dX6_cutEach_58 ?_
                  have g := inB_vp (gd_c h)
                  have h := gd_e h
                  obtain ⟨c_codes_23, ec_codes_23⟩ : ∃ y : Nat → Int32, y = upd c_codes_11 c_size_13.toNatClampNeg ((10 * v2_1) + v3_10) := ⟨_, rfl⟩
                  have h := bd_e h c_codes_23 ec_codes_23
                  refine n_iast hC hN 1 rfl g ec_codes_23 (ws' := cat [wX6 E adc c_codes_23 c_views_12 c_size_13, wX3 E add d_switches d_hosts d_renewing d_priorities d_names d_wants d_blocks d_upTo_14 d_clashedTo_15 d_zoneSets d_places d_notices d_news]) rfl dX6_cutEach_59 (fun H locs hN => ?_)
                  refine lv_aload_n hx hb dX6_cutEach_60 rfl (lv_at hl 0 rfl) ?_
                  refine gt_X6_views hC hN 0 rfl rfl dX6_cutEach_61 ?_
                  refine lv_aload_n hx hb dX6_cutEach_64 rfl (lv_at hl 0 rfl) ?_
                  refine gt_X6_size hC hN 0 rfl rfl dX6_cutEach_65 ?_
                  refine lv_aload_n hx hb dX6_cutEach_68 rfl (lv_at hl 1 rfl) ?_
                  refine lv_iload_n hx hb dX6_cutEach_69 rfl (lv_at hl 2 rfl) ?_
                  refine lv_iload_n hx hb dX6_cutEach_70 rfl (lv_at hl 3 rfl) ?_
                  obtain ⟨z_24, hz_24, h⟩ := bi_e h
                  refine n_callVl (ws' := cat [wX6 E adc c_codes_23 c_views_12 c_size_13, wX3 E add d_switches d_hosts d_renewing d_priorities d_names d_wants d_blocks z_24.2.1 z_24.2.2 d_zoneSets d_places d_notices d_news]) hC hN (tX3_viewWithout l E add d_switches d_hosts d_renewing d_priorities d_names d_wants d_blocks d_upTo_14 d_clashedTo_15 d_zoneSets d_places d_notices d_news v2_1 v3_10 z_24 hz_24) cy_X3_viewWithout mML_X6_33 mIM_X3_viewWithout mSE_X3_viewWithout rfl rfl (k := 0) rfl (cat_perm [wX6 E adc c_codes_23 c_views_12 c_size_13, wX3 E add d_switches d_hosts d_renewing d_priorities d_names d_wants d_blocks d_upTo_14 d_clashedTo_15 d_zoneSets d_places d_notices d_news] 2 rfl [1] [0] (by decide)) (cat_perm [wX6 E adc c_codes_23 c_views_12 c_size_13, wX3 E add d_switches d_hosts d_renewing d_priorities d_names d_wants d_blocks z_24.2.1 z_24.2.2 d_zoneSets d_places d_notices d_news] 2 rfl [1] [0] (by decide)) rfl rfl hl.1 rfl (Nat.le_of_ble_eq_true rfl) dX6_cutEach_71 ⟨Nat.le_of_ble_eq_true rfl, Nat.le_of_ble_eq_true rfl⟩ ⟨Nat.le_refl _, Nat.le_refl _⟩ (fun H locs hN => ?_)
                  have g := inB_vp (gd_c h)
                  have h := gd_e h
                  obtain ⟨c_views_25, ec_views_25⟩ : ∃ y : Nat → Int64, y = vp_updL c_views_12 c_size_13.toNatClampNeg z_24.1 := ⟨_, rfl⟩
                  have h := bd_e h c_views_25 ec_views_25
                  refine n_last hC hN 2 rfl g ec_views_25 (ws' := cat [wX6 E adc c_codes_23 c_views_25 c_size_13, wX3 E add d_switches d_hosts d_renewing d_priorities d_names d_wants d_blocks z_24.2.1 z_24.2.2 d_zoneSets d_places d_notices d_news]) rfl dX6_cutEach_74 (fun H locs hN => ?_)
                  refine lv_aload_n hx hb dX6_cutEach_75 rfl (lv_at hl 0 rfl) ?_
                  refine lv_dup hx hb dX6_cutEach_76 rfl ?_
                  refine gt_X6_size hC hN 0 rfl rfl dX6_cutEach_77 ?_
                  refine lv_iconst (v := 1) hx hb dX6_cutEach_80 rfl ?_
                  refine lv_iadd hx hb dX6_cutEach_81 ?_
                  refine lv_topi (fun c_size_26 ec_size_26 => ?_)
                  have h := bd_e h c_size_26 ec_size_26
                  refine pt_X6_size hC hN 0 rfl (Nat.le_of_ble_eq_true rfl) (ws' := cat [wX6 E adc c_codes_23 c_views_25 c_size_26, wX3 E add d_switches d_hosts d_renewing d_priorities d_names d_wants d_blocks z_24.2.1 z_24.2.2 d_zoneSets d_places d_notices d_news]) rfl dX6_cutEach_82 (fun H locs hN => ?_)
                  obtain ⟨v3_27, ev3_27⟩ : ∃ y : Int32, y = v3_10 + 1 := ⟨_, rfl⟩
                  have h := bd_e h v3_27 ev3_27
                  refine lv_iinc (v := v3_27) (lv' := [(3, .int v3_27), (0, .ref (adc 0)), (1, .ref (add 0)), (2, .int v2_1)]) hx hb dX6_cutEach_85 hl (k := 3) rfl (by rw [ev3_27]; rfl) (by decide) rfl (fun ls hl => ?_)
                  refine lv_goto (tgt := 19) hx hb dX6_cutEach_88 (by decide) ?_
                  exact ih v3_27 c_codes_23 c_views_25 c_size_26 z_24.2.1 z_24.2.2 z _ _ _ hN (lv_sub hl [1, 2, 3, 0] rfl) h K
        obtain ⟨z_28, hz_28, h⟩ := bi_e h
        refine L2 500 v3_9 c_codes_2 c_views_3 c_size_4 d_upTo_5 d_clashedTo_6 z_28 _ _ _ hN (lv_sub hl [1, 2, 3, 0] rfl) hz_28 (fun H locs ls hN hl => ?_)
        obtain ⟨v2_29, ev2_29⟩ : ∃ y : Int32, y = v2_1 + 1 := ⟨_, rfl⟩
        have h := bd_e h v2_29 ev2_29
        refine lv_iinc (v := v2_29) (lv' := [(2, .int v2_29), (0, .ref (adc 0)), (1, .ref (add 0)), (3, .int z_28.1)]) hx hb dX6_cutEach_91 hl (k := 2) rfl (by rw [ev2_29]; rfl) (by decide) rfl (fun ls hl => ?_)
        refine lv_goto (tgt := 7) hx hb dX6_cutEach_94 (by decide) ?_
        exact ih v2_29 z_28.2.1 z_28.2.2.1 z_28.2.2.2.1 z_28.2.2.2.2.1 z_28.2.2.2.2.2 z _ _ _ hN (lv_sub hl [1, 2, 0] rfl) h K
  obtain ⟨z_30, hz_30, h⟩ := bi_e h
  refine L1 500 0 c_codes c_views 0 d_upTo d_clashedTo z_30 _ _ _ hN (lv_sub hl [1, 2, 0] rfl) hz_30 (fun H locs ls hN hl => ?_)
  obtain rfl := Option.some.inj h
  exact n_vret hC hN dX6_cutEach_97
set_option maxHeartbeats 4000000 in
set_option maxRecDepth 100000 in
theorem tX6_dropUnfit (l : Launch) (E : EV) (adc : Nat → Nat) (add : Nat → Nat) (c_codes : Nat → Int32) (c_views : Nat → Int64) (c_size : Int32) (d_size : Int32) (d_mentioned : Int32) (d_seen : Int64) (d_unseen : Int64) (p2 : Int32) (z : (Nat → Int32) × (Nat → Int64) × Int32) (h : fX6_dropUnfit c_codes c_views c_size d_mentioned d_seen d_unseen p2 = some z) : Cn l E yX6_dropUnfit cX6_dropUnfit 5 none 1 23 [.ref (adc 0), .ref (add 0), .int p2] (cat [wX6 E adc c_codes c_views c_size, wX1 E add d_size d_mentioned d_seen d_unseen]) (cat [wX6 E adc z.1 z.2.1 z.2.2, wX1 E add d_size d_mentioned d_seen d_unseen]) (none) := by
  refine Cn.ofW (by decide +kernel) (Nat.le_of_ble_eq_true rfl) ?_
  intro p e s m args below meth c ls hC hN hl
  obtain ⟨z0, hz0⟩ : ∃ y, y = z := ⟨_, rfl⟩
  rw [← hz0] at h ⊢
  clear hz0
  have hl : lv_has ls 5 [(0, .ref (adc 0)), (1, .ref (add 0)), (2, .int p2)] := hl
  have hx := hC.1
  have hb := hC.2.1
  unfold fX6_dropUnfit at h
  refine lv_iconst (v := 0) hx hb dX6_dropUnfit_0 rfl ?_
  refine lv_istore_n (lv' := [(3, .int 0), (0, .ref (adc 0)), (1, .ref (add 0)), (2, .int p2)]) hx hb dX6_dropUnfit_1 rfl hl (by decide) rfl (fun ls hl => ?_)
  refine lv_iconst (v := 0) hx hb dX6_dropUnfit_2 rfl ?_
  refine lv_istore (lv' := [(4, .int 0), (3, .int 0), (0, .ref (adc 0)), (1, .ref (add 0)), (2, .int p2)]) hx hb dX6_dropUnfit_3 hl (by decide) rfl (fun ls hl => ?_)
  have L1 : ∀ (fu : Nat) (v3_1 : Int32) (v4_2 : Int32) (c_codes_3 : Nat → Int32) (c_views_4 : Nat → Int64) (z : Int32 × Int32 × (Nat → Int32) × (Nat → Int64)) (H : Heap) (locs : List Loc) (ls : Array Slot), Nw E s (AD (cat [wX6 E adc c_codes c_views c_size, wX1 E add d_size d_mentioned d_seen d_unseen])) (cat [wX6 E adc c_codes_3 c_views_4 c_size, wX1 E add d_size d_mentioned d_seen d_unseen]) H locs → lv_has ls 5 [(0, .ref (adc 0)), (1, .ref (add 0)), (2, .int p2), (3, .int v3_1), (4, .int v4_2)] → fX6_dropUnfit_L1 c_size d_mentioned d_seen d_unseen p2 fu v3_1 v4_2 c_codes_3 c_views_4 = some z → (∀ (H : Heap) (locs : List Loc) (ls : Array Slot), Nw E s (AD (cat [wX6 E adc c_codes c_views c_size, wX1 E add d_size d_mentioned d_seen d_unseen])) (cat [wX6 E adc z.2.2.1 z.2.2.2 c_size, wX1 E add d_size d_mentioned d_seen d_unseen]) H locs → lv_has ls 5 [(0, .ref (adc 0)), (1, .ref (add 0)), (2, .int p2), (3, .int z.1), (4, .int z.2.1)] → WN p l e 1 23 s m args below meth c E (cat [wX6 E adc c_codes c_views c_size, wX1 E add d_size d_mentioned d_seen d_unseen]) (none) (cat [wX6 E adc z0.1 z0.2.1 z0.2.2, wX1 E add d_size d_mentioned d_seen d_unseen]) H locs (F0 m 64 ls [])) → WN p l e 1 23 s m args below meth c E (cat [wX6 E adc c_codes c_views c_size, wX1 E add d_size d_mentioned d_seen d_unseen]) (none) (cat [wX6 E adc z0.1 z0.2.1 z0.2.2, wX1 E add d_size d_mentioned d_seen d_unseen]) H locs (F0 m 5 ls []) := by
    intro fu
    induction fu with
    | zero =>
      intro v3_1 v4_2 c_codes_3 c_views_4 z H locs ls hN hl h K
      cases (show (none : Option (Int32 × Int32 × (Nat → Int32) × (Nat → Int64))) = some z from h)
    | succ fu ih =>
      intro v3_1 v4_2 c_codes_3 c_views_4 z H locs ls hN hl h K
      rw [fX6_dropUnfit_L1.eq_2] at h
      refine lv_iload hx hb dX6_dropUnfit_5 (lv_at hl 4 rfl) ?_
      refine lv_aload_n hx hb dX6_dropUnfit_7 rfl (lv_at hl 0 rfl) ?_
      refine gt_X6_size hC hN 0 rfl rfl dX6_dropUnfit_8 ?_
      refine lv_icmp_ge (tgt := 64) hx hb dX6_dropUnfit_11 (by decide) (fun c5 => ?_) (fun c5 => ?_)
      · have h := if_t h c5
        obtain rfl := Option.some.inj h
        exact K _ _ _ hN (lv_sub hl [0, 1, 2, 3, 4] rfl)
      · have h := if_f h c5
        refine lv_aload_n hx hb dX6_dropUnfit_14 rfl (lv_at hl 1 rfl) ?_
        refine lv_aload_n hx hb dX6_dropUnfit_15 rfl (lv_at hl 0 rfl) ?_
        refine gt_X6_views hC hN 0 rfl rfl dX6_dropUnfit_16 ?_
        refine lv_iload hx hb dX6_dropUnfit_19 (lv_at hl 4 rfl) ?_
        have g := inB_vp (gd_c h)
        have h := gd_e h
        refine n_lald hC hN 2 rfl g dX6_dropUnfit_21 ?_
        refine lv_iload_n hx hb dX6_dropUnfit_22 rfl (lv_at hl 2 rfl) ?_
        obtain ⟨r_6, hr_6, h⟩ := bi_e h
        refine n_callVi (ws' := cat [wX6 E adc c_codes_3 c_views_4 c_size, wX1 E add d_size d_mentioned d_seen d_unseen]) hC hN (tX1_fit l E add d_size d_mentioned d_seen d_unseen (c_views_4 v4_2.toNatClampNeg) p2 r_6 hr_6) cy_X1_fit mML_X6_37 mIM_X1_fit mSE_X1_fit rfl rfl (k := 0) rfl (cat_perm [wX6 E adc c_codes_3 c_views_4 c_size, wX1 E add d_size d_mentioned d_seen d_unseen] 2 rfl [1] [0] (by decide)) (cat_perm [wX6 E adc c_codes_3 c_views_4 c_size, wX1 E add d_size d_mentioned d_seen d_unseen] 2 rfl [1] [0] (by decide)) rfl rfl hl.1 rfl (Nat.le_of_ble_eq_true rfl) dX6_dropUnfit_23 ⟨Nat.le_of_ble_eq_true rfl, Nat.le_of_ble_eq_true rfl⟩ ⟨Nat.le_refl _, Nat.le_refl _⟩ (fun H locs hN => ?_)
        refine lv_if_eq (tgt := 58) hx hb dX6_dropUnfit_26 (by decide) (fun c7 => ?_) (fun c7 => ?_)
        · have h := if_t h c7
          obtain ⟨v4_8, ev4_8⟩ : ∃ y : Int32, y = v4_2 + 1 := ⟨_, rfl⟩
          have h := bd_e h v4_8 ev4_8
          refine lv_iinc (v := v4_8) (lv' := [(4, .int v4_8), (0, .ref (adc 0)), (1, .ref (add 0)), (2, .int p2), (3, .int v3_1)]) hx hb dX6_dropUnfit_58 hl (k := 4) rfl (by rw [ev4_8]; rfl) (by decide) rfl (fun ls hl => ?_)
          refine lv_goto (tgt := 5) hx hb dX6_dropUnfit_61 (by decide) ?_
          exact ih v3_1 v4_8 c_codes_3 c_views_4 z _ _ _ hN (lv_sub hl [1, 2, 3, 4, 0] rfl) h K
        · have h := if_f h c7
          refine lv_aload_n hx hb dX6_dropUnfit_29 rfl (lv_at hl 0 rfl) ?_
          refine gt_X6_codes hC hN 0 rfl rfl dX6_dropUnfit_30 ?_
          refine lv_iload_n hx hb dX6_dropUnfit_33 rfl (lv_at hl 3 rfl) ?_
          refine lv_aload_n hx hb dX6_dropUnfit_34 rfl (lv_at hl 0 rfl) ?_
          refine gt_X6_codes hC hN 0 rfl rfl dX6_dropUnfit_35 ?_
          refine lv_iload hx hb dX6_dropUnfit_38 (lv_at hl 4 rfl) ?_
          have g := inB_vp (gd_c h)
          have h := gd_e h
          refine n_iald hC hN 1 rfl g dX6_dropUnfit_40 ?_
          have g := inB_vp (gd_c h)
          have h := gd_e h
          obtain ⟨c_codes_9, ec_codes_9⟩ : ∃ y : Nat → Int32, y = upd c_codes_3 v3_1.toNatClampNeg (c_codes_3 v4_2.toNatClampNeg) := ⟨_, rfl⟩
          have h := bd_e h c_codes_9 ec_codes_9
          refine n_iast hC hN 1 rfl g ec_codes_9 (ws' := cat [wX6 E adc c_codes_9 c_views_4 c_size, wX1 E add d_size d_mentioned d_seen d_unseen]) rfl dX6_dropUnfit_41 (fun H locs hN => ?_)
          refine lv_aload_n hx hb dX6_dropUnfit_42 rfl (lv_at hl 0 rfl) ?_
          refine gt_X6_views hC hN 0 rfl rfl dX6_dropUnfit_43 ?_
          refine lv_iload_n hx hb dX6_dropUnfit_46 rfl (lv_at hl 3 rfl) ?_
          refine lv_aload_n hx hb dX6_dropUnfit_47 rfl (lv_at hl 0 rfl) ?_
          refine gt_X6_views hC hN 0 rfl rfl dX6_dropUnfit_48 ?_
          refine lv_iload hx hb dX6_dropUnfit_51 (lv_at hl 4 rfl) ?_
          have g := inB_vp (gd_c h)
          have h := gd_e h
          refine n_lald hC hN 2 rfl g dX6_dropUnfit_53 ?_
          have g := inB_vp (gd_c h)
          have h := gd_e h
          obtain ⟨c_views_10, ec_views_10⟩ : ∃ y : Nat → Int64, y = vp_updL c_views_4 v3_1.toNatClampNeg (c_views_4 v4_2.toNatClampNeg) := ⟨_, rfl⟩
          have h := bd_e h c_views_10 ec_views_10
          refine n_last hC hN 2 rfl g ec_views_10 (ws' := cat [wX6 E adc c_codes_9 c_views_10 c_size, wX1 E add d_size d_mentioned d_seen d_unseen]) rfl dX6_dropUnfit_54 (fun H locs hN => ?_)
          obtain ⟨v3_11, ev3_11⟩ : ∃ y : Int32, y = v3_1 + 1 := ⟨_, rfl⟩
          have h := bd_e h v3_11 ev3_11
          refine lv_iinc (v := v3_11) (lv' := [(3, .int v3_11), (0, .ref (adc 0)), (1, .ref (add 0)), (2, .int p2), (4, .int v4_2)]) hx hb dX6_dropUnfit_55 hl (k := 3) rfl (by rw [ev3_11]; rfl) (by decide) rfl (fun ls hl => ?_)
          obtain ⟨v4_12, ev4_12⟩ : ∃ y : Int32, y = v4_2 + 1 := ⟨_, rfl⟩
          have h := bd_e h v4_12 ev4_12
          refine lv_iinc (v := v4_12) (lv' := [(4, .int v4_12), (3, .int v3_11), (0, .ref (adc 0)), (1, .ref (add 0)), (2, .int p2)]) hx hb dX6_dropUnfit_58 hl (k := 4) rfl (by rw [ev4_12]; rfl) (by decide) rfl (fun ls hl => ?_)
          refine lv_goto (tgt := 5) hx hb dX6_dropUnfit_61 (by decide) ?_
          exact ih v3_11 v4_12 c_codes_9 c_views_10 z _ _ _ hN (lv_sub hl [2, 3, 4, 1, 0] rfl) h K
  obtain ⟨z_13, hz_13, h⟩ := bi_e h
  refine L1 500 0 0 c_codes c_views z_13 _ _ _ hN (lv_sub hl [2, 3, 4, 1, 0] rfl) hz_13 (fun H locs ls hN hl => ?_)
  refine lv_aload_n hx hb dX6_dropUnfit_64 rfl (lv_at hl 0 rfl) ?_
  refine lv_iload_n hx hb dX6_dropUnfit_65 rfl (lv_at hl 3 rfl) ?_
  refine pt_X6_size hC hN 0 rfl (Nat.le_of_ble_eq_true rfl) (ws' := cat [wX6 E adc z_13.2.2.1 z_13.2.2.2 z_13.1, wX1 E add d_size d_mentioned d_seen d_unseen]) rfl dX6_dropUnfit_66 (fun H locs hN => ?_)
  obtain rfl := Option.some.inj h
  exact n_vret hC hN dX6_dropUnfit_69
set_option maxHeartbeats 4000000 in
set_option maxRecDepth 100000 in
theorem tJ13_bitCount_95d88 (l : Launch) (E : EV) (p1 : Int64) (z : Int32) (h : fJ13_bitCount_95d88 p1 = some z) : Cn l E yJ13_bitCount_95d88 cJ13_bitCount_95d88 2 (some .int) 0 0 [.long p1] ([]) ([]) (some (.int z)) := by
  refine Cn.ofW (by decide +kernel) (Nat.le_of_ble_eq_true rfl) ?_
  intro p e s m args below meth c ls hC hN hl
  have hl : lv_has ls 2 [(0, .long p1)] := hl
  have hx := hC.1
  have hb := hC.2.1
  unfold fJ13_bitCount_95d88 at h
  refine lv_lload_n hx hb dJ13_bitCount_95d88_0 rfl (lv_at hl 0 rfl) ?_
  refine lv_lload_n hx hb dJ13_bitCount_95d88_1 rfl (lv_at hl 0 rfl) ?_
  refine lv_iconst (v := 1) hx hb dJ13_bitCount_95d88_2 rfl ?_
  refine lv_lushr (v := (lushr p1 1)) hx hb dJ13_bitCount_95d88_3 rfl ?_
  refine lv_ldc2 (v := 6148914691236517205) hx hb hC.2.2.2.1 (hC.2.2.2.2.1 _ mKL_J13_314) dJ13_bitCount_95d88_4 ?_
  refine lv_land hx hb dJ13_bitCount_95d88_7 ?_
  refine lv_lsub hx hb dJ13_bitCount_95d88_8 ?_
  refine lv_topl (fun v0_1 ev0_1 => ?_)
  have h := bd_e h v0_1 ev0_1
  refine lv_lstore_n (lv' := [(0, .long v0_1)]) hx hb dJ13_bitCount_95d88_9 rfl hl (by decide) rfl (fun ls hl => ?_)
  refine lv_lload_n hx hb dJ13_bitCount_95d88_10 rfl (lv_at hl 0 rfl) ?_
  refine lv_ldc2 (v := 3689348814741910323) hx hb hC.2.2.2.1 (hC.2.2.2.2.1 _ mKL_J13_316) dJ13_bitCount_95d88_11 ?_
  refine lv_land hx hb dJ13_bitCount_95d88_14 ?_
  refine lv_lload_n hx hb dJ13_bitCount_95d88_15 rfl (lv_at hl 0 rfl) ?_
  refine lv_iconst (v := 2) hx hb dJ13_bitCount_95d88_16 rfl ?_
  refine lv_lushr (v := (lushr v0_1 2)) hx hb dJ13_bitCount_95d88_17 rfl ?_
  refine lv_ldc2 (v := 3689348814741910323) hx hb hC.2.2.2.1 (hC.2.2.2.2.1 _ mKL_J13_316) dJ13_bitCount_95d88_18 ?_
  refine lv_land hx hb dJ13_bitCount_95d88_21 ?_
  refine lv_ladd hx hb dJ13_bitCount_95d88_22 ?_
  refine lv_topl (fun v0_2 ev0_2 => ?_)
  have h := bd_e h v0_2 ev0_2
  refine lv_lstore_n (lv' := [(0, .long v0_2)]) hx hb dJ13_bitCount_95d88_23 rfl hl (by decide) rfl (fun ls hl => ?_)
  refine lv_lload_n hx hb dJ13_bitCount_95d88_24 rfl (lv_at hl 0 rfl) ?_
  refine lv_lload_n hx hb dJ13_bitCount_95d88_25 rfl (lv_at hl 0 rfl) ?_
  refine lv_iconst (v := 4) hx hb dJ13_bitCount_95d88_26 rfl ?_
  refine lv_lushr (v := (lushr v0_2 4)) hx hb dJ13_bitCount_95d88_27 rfl ?_
  refine lv_ladd hx hb dJ13_bitCount_95d88_28 ?_
  refine lv_ldc2 (v := 1085102592571150095) hx hb hC.2.2.2.1 (hC.2.2.2.2.1 _ mKL_J13_318) dJ13_bitCount_95d88_29 ?_
  refine lv_land hx hb dJ13_bitCount_95d88_32 ?_
  refine lv_topl (fun v0_3 ev0_3 => ?_)
  have h := bd_e h v0_3 ev0_3
  refine lv_lstore_n (lv' := [(0, .long v0_3)]) hx hb dJ13_bitCount_95d88_33 rfl hl (by decide) rfl (fun ls hl => ?_)
  refine lv_lload_n hx hb dJ13_bitCount_95d88_34 rfl (lv_at hl 0 rfl) ?_
  refine lv_lload_n hx hb dJ13_bitCount_95d88_35 rfl (lv_at hl 0 rfl) ?_
  refine lv_bipush (v := 8) hx hb dJ13_bitCount_95d88_36 (by decide) ?_
  refine lv_lushr (v := (lushr v0_3 8)) hx hb dJ13_bitCount_95d88_38 rfl ?_
  refine lv_ladd hx hb dJ13_bitCount_95d88_39 ?_
  refine lv_topl (fun v0_4 ev0_4 => ?_)
  have h := bd_e h v0_4 ev0_4
  refine lv_lstore_n (lv' := [(0, .long v0_4)]) hx hb dJ13_bitCount_95d88_40 rfl hl (by decide) rfl (fun ls hl => ?_)
  refine lv_lload_n hx hb dJ13_bitCount_95d88_41 rfl (lv_at hl 0 rfl) ?_
  refine lv_lload_n hx hb dJ13_bitCount_95d88_42 rfl (lv_at hl 0 rfl) ?_
  refine lv_bipush (v := 16) hx hb dJ13_bitCount_95d88_43 (by decide) ?_
  refine lv_lushr (v := (lushr v0_4 16)) hx hb dJ13_bitCount_95d88_45 rfl ?_
  refine lv_ladd hx hb dJ13_bitCount_95d88_46 ?_
  refine lv_topl (fun v0_5 ev0_5 => ?_)
  have h := bd_e h v0_5 ev0_5
  refine lv_lstore_n (lv' := [(0, .long v0_5)]) hx hb dJ13_bitCount_95d88_47 rfl hl (by decide) rfl (fun ls hl => ?_)
  refine lv_lload_n hx hb dJ13_bitCount_95d88_48 rfl (lv_at hl 0 rfl) ?_
  refine lv_lload_n hx hb dJ13_bitCount_95d88_49 rfl (lv_at hl 0 rfl) ?_
  refine lv_bipush (v := 32) hx hb dJ13_bitCount_95d88_50 (by decide) ?_
  refine lv_lushr (v := (lushr v0_5 32)) hx hb dJ13_bitCount_95d88_52 rfl ?_
  refine lv_ladd hx hb dJ13_bitCount_95d88_53 ?_
  refine lv_topl (fun v0_6 ev0_6 => ?_)
  have h := bd_e h v0_6 ev0_6
  refine lv_lstore_n (lv' := [(0, .long v0_6)]) hx hb dJ13_bitCount_95d88_54 rfl hl (by decide) rfl (fun ls hl => ?_)
  refine lv_lload_n hx hb dJ13_bitCount_95d88_55 rfl (lv_at hl 0 rfl) ?_
  refine lv_l2i hx hb dJ13_bitCount_95d88_56 rfl ?_
  refine lv_bipush (v := 127) hx hb dJ13_bitCount_95d88_57 (by decide) ?_
  refine lv_iand hx hb dJ13_bitCount_95d88_59 ?_
  obtain rfl := Option.some.inj h
  exact n_iret hC hN dJ13_bitCount_95d88_60
set_option maxHeartbeats 4000000 in
set_option maxRecDepth 100000 in
theorem tX7_twosOf (l : Launch) (E : EV) (p1 : Int64) (z : Int32) (h : fX7_twosOf p1 = some z) : Cn l E yX7_twosOf cX7_twosOf 2 (some .int) 1 21 [.long p1] ([]) ([]) (some (.int z)) := by
  refine Cn.ofW (by decide +kernel) (Nat.le_of_ble_eq_true rfl) ?_
  intro p e s m args below meth c ls hC hN hl
  have hl : lv_has ls 2 [(0, .long p1)] := hl
  have hx := hC.1
  have hb := hC.2.1
  unfold fX7_twosOf at h
  refine lv_lload_n hx hb dX7_twosOf_0 rfl (lv_at hl 0 rfl) ?_
  obtain ⟨r_1, hr_1, h⟩ := bi_e h
  refine n_callSi (ws' := []) hC hN (tJ13_bitCount_95d88 l E p1 r_1 hr_1) cy_J13_bitCount_95d88 mML_X7_250 mST_J13_bitCount_95d88 (perm_nil _) (perm_nil _) rfl rfl hl.1 rfl (Nat.le_of_ble_eq_true rfl) dX7_twosOf_1 ⟨Nat.le_of_ble_eq_true rfl, Nat.le_of_ble_eq_true rfl⟩ ⟨Nat.le_refl _, Nat.le_refl _⟩ (fun H locs hN => ?_)
  refine lv_iconst (v := 2) hx hb dX7_twosOf_4 rfl ?_
  refine lv_idiv hx hb dX7_twosOf_5 (by decide) ?_
  obtain rfl := Option.some.inj h
  exact n_iret hC hN dX7_twosOf_6
set_option maxHeartbeats 4000000 in
set_option maxRecDepth 100000 in
theorem tX6_lostAt (l : Launch) (E : EV) (adc : Nat → Nat) (c_codes : Nat → Int32) (c_views : Nat → Int64) (c_size : Int32) (p1 : Int32) (p2 : Int64) (z : Int32) (h : fX6_lostAt c_views c_size p1 p2 = some z) : Cn l E yX6_lostAt cX6_lostAt 4 (some .int) 2 42 [.ref (adc 0), .int p1, .long p2] (wX6 E adc c_codes c_views c_size) (wX6 E adc c_codes c_views c_size) (some (.int z)) := by
  refine Cn.ofW (by decide +kernel) (Nat.le_of_ble_eq_true rfl) ?_
  intro p e s m args below meth c ls hC hN hl
  have hl : lv_has ls 4 [(0, .ref (adc 0)), (1, .int p1), (2, .long p2)] := hl
  have hx := hC.1
  have hb := hC.2.1
  unfold fX6_lostAt at h
  refine lv_iload_n hx hb dX6_lostAt_0 rfl (lv_at hl 1 rfl) ?_
  refine lv_if_lt (tgt := 30) hx hb dX6_lostAt_1 (by decide) (fun c1 => ?_) (fun c1 => ?_)
  · have h := if_t h c1
    refine lv_iconst (v := 0) hx hb dX6_lostAt_30 rfl ?_
    obtain rfl := Option.some.inj h
    exact n_iret hC hN dX6_lostAt_31
  · have h := if_f h c1
    refine lv_iload_n hx hb dX6_lostAt_4 rfl (lv_at hl 1 rfl) ?_
    refine lv_aload_n hx hb dX6_lostAt_5 rfl (lv_at hl 0 rfl) ?_
    refine gt_X6_size hC hN 0 rfl rfl dX6_lostAt_6 ?_
    refine lv_icmp_ge (tgt := 30) hx hb dX6_lostAt_9 (by decide) (fun c2 => ?_) (fun c2 => ?_)
    · have h := if_t h c2
      refine lv_iconst (v := 0) hx hb dX6_lostAt_30 rfl ?_
      obtain rfl := Option.some.inj h
      exact n_iret hC hN dX6_lostAt_31
    · have h := if_f h c2
      refine lv_lload_n hx hb dX6_lostAt_12 rfl (lv_at hl 2 rfl) ?_
      refine lv_aload_n hx hb dX6_lostAt_13 rfl (lv_at hl 0 rfl) ?_
      refine gt_X6_views hC hN 0 rfl rfl dX6_lostAt_14 ?_
      refine lv_iload_n hx hb dX6_lostAt_17 rfl (lv_at hl 1 rfl) ?_
      have g := inB_vp (gd_c h)
      have h := gd_e h
      refine n_lald hC hN 2 rfl g dX6_lostAt_18 ?_
      refine lv_ldc2 (v := -1) hx hb hC.2.2.2.1 (hC.2.2.2.2.1 _ mKL_X6_43) dX6_lostAt_19 ?_
      refine lv_lxor hx hb dX6_lostAt_22 ?_
      refine lv_land hx hb dX6_lostAt_23 ?_
      obtain ⟨r_3, hr_3, h⟩ := bi_e h
      refine n_callSNi (ws' := wX6 E adc c_codes c_views c_size) hC hN (tX7_twosOf l E (p2 &&& ((c_views p1.toNatClampNeg) ^^^ (-1))) r_3 hr_3) cy_X7_twosOf (List.mem_of_getElem? (i := 10) rfl) mST_X7_twosOf (perm_nil _) (perm_nil _) rfl rfl hl.1 rfl (Nat.le_of_ble_eq_true rfl) dX6_lostAt_24 ⟨Nat.le_of_ble_eq_true rfl, Nat.le_of_ble_eq_true rfl⟩ ⟨Nat.le_refl _, Nat.le_refl _⟩ (fun H locs hN => ?_)
      refine lv_goto (tgt := 31) hx hb dX6_lostAt_27 (by decide) ?_
      obtain rfl := Option.some.inj h
      exact n_iret hC hN dX6_lostAt_31
set_option maxHeartbeats 4000000 in
set_option maxRecDepth 100000 in
theorem tX6_dearest (l : Launch) (E : EV) (adc : Nat → Nat) (c_codes : Nat → Int32) (c_views : Nat → Int64) (c_size : Int32) (p1 : Int64) (z : Int32) (h : fX6_dearest c_views c_size p1 = some z) : Cn l E yX6_dearest cX6_dearest 5 (some .int) 3 65 [.ref (adc 0), .long p1] (wX6 E adc c_codes c_views c_size) (wX6 E adc c_codes c_views c_size) (some (.int z)) := by
  refine Cn.ofW (by decide +kernel) (Nat.le_of_ble_eq_true rfl) ?_
  intro p e s m args below meth c ls hC hN hl
  obtain ⟨z0, hz0⟩ : ∃ y, y = z := ⟨_, rfl⟩
  rw [← hz0] at h ⊢
  clear hz0
  have hl : lv_has ls 5 [(0, .ref (adc 0)), (1, .long p1)] := hl
  have hx := hC.1
  have hb := hC.2.1
  unfold fX6_dearest at h
  refine lv_iconst (v := 0) hx hb dX6_dearest_0 rfl ?_
  refine lv_istore_n (lv' := [(3, .int 0), (0, .ref (adc 0)), (1, .long p1)]) hx hb dX6_dearest_1 rfl hl (by decide) rfl (fun ls hl => ?_)
  refine lv_iconst (v := 1) hx hb dX6_dearest_2 rfl ?_
  refine lv_istore (lv' := [(4, .int 1), (3, .int 0), (0, .ref (adc 0)), (1, .long p1)]) hx hb dX6_dearest_3 hl (by decide) rfl (fun ls hl => ?_)
  have L1 : ∀ (fu : Nat) (v3_1 : Int32) (v4_2 : Int32) (z : Int32 × Int32) (H : Heap) (locs : List Loc) (ls : Array Slot), Nw E s (AD (wX6 E adc c_codes c_views c_size)) (wX6 E adc c_codes c_views c_size) H locs → lv_has ls 5 [(0, .ref (adc 0)), (1, .long p1), (3, .int v3_1), (4, .int v4_2)] → fX6_dearest_L1 c_views c_size p1 fu v3_1 v4_2 = some z → (∀ (H : Heap) (locs : List Loc) (ls : Array Slot), Nw E s (AD (wX6 E adc c_codes c_views c_size)) (wX6 E adc c_codes c_views c_size) H locs → lv_has ls 5 [(0, .ref (adc 0)), (1, .long p1), (3, .int z.1), (4, .int z.2)] → WN p l e 3 65 s m args below meth c E (wX6 E adc c_codes c_views c_size) (some (.int z0)) (wX6 E adc c_codes c_views c_size) H locs (F0 m 39 ls [])) → WN p l e 3 65 s m args below meth c E (wX6 E adc c_codes c_views c_size) (some (.int z0)) (wX6 E adc c_codes c_views c_size) H locs (F0 m 5 ls []) := by
    intro fu
    induction fu with
    | zero =>
      intro v3_1 v4_2 z H locs ls hN hl h K
      cases (show (none : Option (Int32 × Int32)) = some z from h)
    | succ fu ih =>
      intro v3_1 v4_2 z H locs ls hN hl h K
      rw [fX6_dearest_L1.eq_2] at h
      refine lv_iload hx hb dX6_dearest_5 (lv_at hl 3 rfl) ?_
      refine lv_aload_n hx hb dX6_dearest_7 rfl (lv_at hl 0 rfl) ?_
      refine gt_X6_size hC hN 0 rfl rfl dX6_dearest_8 ?_
      refine lv_icmp_ge (tgt := 39) hx hb dX6_dearest_11 (by decide) (fun c3 => ?_) (fun c3 => ?_)
      · have h := if_t h c3
        obtain rfl := Option.some.inj h
        exact K _ _ _ hN (lv_sub hl [0, 1, 2, 3] rfl)
      · have h := if_f h c3
        refine lv_aload_n hx hb dX6_dearest_14 rfl (lv_at hl 0 rfl) ?_
        refine lv_iload hx hb dX6_dearest_15 (lv_at hl 3 rfl) ?_
        refine lv_lload_n hx hb dX6_dearest_17 rfl (lv_at hl 1 rfl) ?_
        obtain ⟨r_4, hr_4, h⟩ := bi_e h
        refine n_callVi (ws' := wX6 E adc c_codes c_views c_size) hC hN (tX6_lostAt l E adc c_codes c_views c_size v4_2 p1 r_4 hr_4) cy_X6_lostAt mML_X6_49 mIM_X6_lostAt mSE_X6_lostAt rfl rfl (k := 0) rfl (perm_self _) (perm_self _) rfl rfl hl.1 rfl (Nat.le_of_ble_eq_true rfl) dX6_dearest_18 ⟨Nat.le_of_ble_eq_true rfl, Nat.le_of_ble_eq_true rfl⟩ ⟨Nat.le_refl _, Nat.le_refl _⟩ (fun H locs hN => ?_)
        refine lv_aload_n hx hb dX6_dearest_21 rfl (lv_at hl 0 rfl) ?_
        refine lv_iload_n hx hb dX6_dearest_22 rfl (lv_at hl 2 rfl) ?_
        refine lv_lload_n hx hb dX6_dearest_23 rfl (lv_at hl 1 rfl) ?_
        obtain ⟨r_5, hr_5, h⟩ := bi_e h
        refine n_callVi (ws' := wX6 E adc c_codes c_views c_size) hC hN (tX6_lostAt l E adc c_codes c_views c_size v3_1 p1 r_5 hr_5) cy_X6_lostAt mML_X6_49 mIM_X6_lostAt mSE_X6_lostAt rfl rfl (k := 0) rfl (perm_self _) (perm_self _) rfl rfl hl.1 rfl (Nat.le_of_ble_eq_true rfl) dX6_dearest_24 ⟨Nat.le_of_ble_eq_true rfl, Nat.le_of_ble_eq_true rfl⟩ ⟨Nat.le_refl _, Nat.le_refl _⟩ (fun H locs hN => ?_)
        refine lv_icmp_le (tgt := 33) hx hb dX6_dearest_27 (by decide) (fun c6 => ?_) (fun c6 => ?_)
        · have h := if_t h c6
          obtain ⟨v4_7, ev4_7⟩ : ∃ y : Int32, y = v4_2 + 1 := ⟨_, rfl⟩
          have h := bd_e h v4_7 ev4_7
          refine lv_iinc (v := v4_7) (lv' := [(4, .int v4_7), (0, .ref (adc 0)), (1, .long p1), (3, .int v3_1)]) hx hb dX6_dearest_33 hl (k := 3) rfl (by rw [ev4_7]; rfl) (by decide) rfl (fun ls hl => ?_)
          refine lv_goto (tgt := 5) hx hb dX6_dearest_36 (by decide) ?_
          exact ih v3_1 v4_7 z _ _ _ hN (lv_sub hl [1, 2, 3, 0] rfl) h K
        · have h := if_f h c6
          refine lv_iload hx hb dX6_dearest_30 (lv_at hl 3 rfl) ?_
          refine lv_istore_n (lv' := [(3, .int v4_2), (0, .ref (adc 0)), (1, .long p1), (4, .int v4_2)]) hx hb dX6_dearest_32 rfl hl (by decide) rfl (fun ls hl => ?_)
          obtain ⟨v4_8, ev4_8⟩ : ∃ y : Int32, y = v4_2 + 1 := ⟨_, rfl⟩
          have h := bd_e h v4_8 ev4_8
          refine lv_iinc (v := v4_8) (lv' := [(4, .int v4_8), (3, .int v4_2), (0, .ref (adc 0)), (1, .long p1)]) hx hb dX6_dearest_33 hl (k := 3) rfl (by rw [ev4_8]; rfl) (by decide) rfl (fun ls hl => ?_)
          refine lv_goto (tgt := 5) hx hb dX6_dearest_36 (by decide) ?_
          exact ih v4_2 v4_8 z _ _ _ hN (lv_sub hl [2, 3, 1, 0] rfl) h K
  obtain ⟨z_9, hz_9, h⟩ := bi_e h
  refine L1 500 0 1 z_9 _ _ _ hN (lv_sub hl [2, 3, 1, 0] rfl) hz_9 (fun H locs ls hN hl => ?_)
  refine lv_iload_n hx hb dX6_dearest_39 rfl (lv_at hl 2 rfl) ?_
  obtain rfl := Option.some.inj h
  exact n_iret hC hN dX6_dearest_40
set_option maxHeartbeats 4000000 in
set_option maxRecDepth 100000 in
theorem tX6_mostAlike (l : Launch) (E : EV) (adc : Nat → Nat) (c_codes : Nat → Int32) (c_views : Nat → Int64) (c_size : Int32) (p1 : Int64) (z : Int32) (h : fX6_mostAlike c_views c_size p1 = some z) : Cn l E yX6_mostAlike cX6_mostAlike 5 (some .int) 1 21 [.ref (adc 0), .long p1] (wX6 E adc c_codes c_views c_size) (wX6 E adc c_codes c_views c_size) (some (.int z)) := by
  refine Cn.ofW (by decide +kernel) (Nat.le_of_ble_eq_true rfl) ?_
  intro p e s m args below meth c ls hC hN hl
  obtain ⟨z0, hz0⟩ : ∃ y, y = z := ⟨_, rfl⟩
  rw [← hz0] at h ⊢
  clear hz0
  have hl : lv_has ls 5 [(0, .ref (adc 0)), (1, .long p1)] := hl
  have hx := hC.1
  have hb := hC.2.1
  unfold fX6_mostAlike at h
  refine lv_iconst (v := 0) hx hb dX6_mostAlike_0 rfl ?_
  refine lv_istore_n (lv' := [(3, .int 0), (0, .ref (adc 0)), (1, .long p1)]) hx hb dX6_mostAlike_1 rfl hl (by decide) rfl (fun ls hl => ?_)
  refine lv_iconst (v := 0) hx hb dX6_mostAlike_2 rfl ?_
  refine lv_istore (lv' := [(4, .int 0), (3, .int 0), (0, .ref (adc 0)), (1, .long p1)]) hx hb dX6_mostAlike_3 hl (by decide) rfl (fun ls hl => ?_)
  have L1 : ∀ (fu : Nat) (v3_1 : Int32) (v4_2 : Int32) (z : Int32 × Int32) (H : Heap) (locs : List Loc) (ls : Array Slot), Nw E s (AD (wX6 E adc c_codes c_views c_size)) (wX6 E adc c_codes c_views c_size) H locs → lv_has ls 5 [(0, .ref (adc 0)), (1, .long p1), (3, .int v3_1), (4, .int v4_2)] → fX6_mostAlike_L1 c_views c_size p1 fu v3_1 v4_2 = some z → (∀ (H : Heap) (locs : List Loc) (ls : Array Slot), Nw E s (AD (wX6 E adc c_codes c_views c_size)) (wX6 E adc c_codes c_views c_size) H locs → lv_has ls 5 [(0, .ref (adc 0)), (1, .long p1), (3, .int z.1), (4, .int z.2)] → WN p l e 1 21 s m args below meth c E (wX6 E adc c_codes c_views c_size) (some (.int z0)) (wX6 E adc c_codes c_views c_size) H locs (F0 m 37 ls [])) → WN p l e 1 21 s m args below meth c E (wX6 E adc c_codes c_views c_size) (some (.int z0)) (wX6 E adc c_codes c_views c_size) H locs (F0 m 5 ls []) := by
    intro fu
    induction fu with
    | zero =>
      intro v3_1 v4_2 z H locs ls hN hl h K
      cases (show (none : Option (Int32 × Int32)) = some z from h)
    | succ fu ih =>
      intro v3_1 v4_2 z H locs ls hN hl h K
      rw [fX6_mostAlike_L1.eq_2] at h
      refine lv_iload hx hb dX6_mostAlike_5 (lv_at hl 3 rfl) ?_
      refine lv_aload_n hx hb dX6_mostAlike_7 rfl (lv_at hl 0 rfl) ?_
      refine gt_X6_size hC hN 0 rfl rfl dX6_mostAlike_8 ?_
      refine lv_icmp_ge (tgt := 37) hx hb dX6_mostAlike_11 (by decide) (fun c3 => ?_) (fun c3 => ?_)
      · have h := if_t h c3
        obtain rfl := Option.some.inj h
        exact K _ _ _ hN (lv_sub hl [0, 1, 2, 3] rfl)
      · have h := if_f h c3
        refine lv_aload_n hx hb dX6_mostAlike_14 rfl (lv_at hl 0 rfl) ?_
        refine gt_X6_views hC hN 0 rfl rfl dX6_mostAlike_15 ?_
        refine lv_iload hx hb dX6_mostAlike_18 (lv_at hl 3 rfl) ?_
        have g := inB_vp (gd_c h)
        have h := gd_e h
        refine n_lald hC hN 2 rfl g dX6_mostAlike_20 ?_
        refine lv_lload_n hx hb dX6_mostAlike_21 rfl (lv_at hl 1 rfl) ?_
        refine lv_land hx hb dX6_mostAlike_22 ?_
        refine lv_lconst (v := 0) hx hb dX6_mostAlike_23 rfl ?_
        refine W.lcmp hx hb dX6_mostAlike_24 ?_
        refine lv_if_eq (tgt := 31) hx hb dX6_mostAlike_25 (by decide) (fun c4 => ?_) (fun c4 => ?_)
        · have h := if_t h c4
          obtain ⟨v4_5, ev4_5⟩ : ∃ y : Int32, y = v4_2 + 1 := ⟨_, rfl⟩
          have h := bd_e h v4_5 ev4_5
          refine lv_iinc (v := v4_5) (lv' := [(4, .int v4_5), (0, .ref (adc 0)), (1, .long p1), (3, .int v3_1)]) hx hb dX6_mostAlike_31 hl (k := 3) rfl (by rw [ev4_5]; rfl) (by decide) rfl (fun ls hl => ?_)
          refine lv_goto (tgt := 5) hx hb dX6_mostAlike_34 (by decide) ?_
          exact ih v3_1 v4_5 z _ _ _ hN (lv_sub hl [1, 2, 3, 0] rfl) h K
        · have h := if_f h c4
          obtain ⟨v3_6, ev3_6⟩ : ∃ y : Int32, y = v3_1 + 1 := ⟨_, rfl⟩
          have h := bd_e h v3_6 ev3_6
          refine lv_iinc (v := v3_6) (lv' := [(3, .int v3_6), (0, .ref (adc 0)), (1, .long p1), (4, .int v4_2)]) hx hb dX6_mostAlike_28 hl (k := 2) rfl (by rw [ev3_6]; rfl) (by decide) rfl (fun ls hl => ?_)
          obtain ⟨v4_7, ev4_7⟩ : ∃ y : Int32, y = v4_2 + 1 := ⟨_, rfl⟩
          have h := bd_e h v4_7 ev4_7
          refine lv_iinc (v := v4_7) (lv' := [(4, .int v4_7), (3, .int v3_6), (0, .ref (adc 0)), (1, .long p1)]) hx hb dX6_mostAlike_31 hl (k := 3) rfl (by rw [ev4_7]; rfl) (by decide) rfl (fun ls hl => ?_)
          refine lv_goto (tgt := 5) hx hb dX6_mostAlike_34 (by decide) ?_
          exact ih v3_6 v4_7 z _ _ _ hN (lv_sub hl [2, 3, 1, 0] rfl) h K
  obtain ⟨z_8, hz_8, h⟩ := bi_e h
  refine L1 500 0 0 z_8 _ _ _ hN (lv_sub hl [2, 3, 1, 0] rfl) hz_8 (fun H locs ls hN hl => ?_)
  refine lv_iload_n hx hb dX6_mostAlike_37 rfl (lv_at hl 2 rfl) ?_
  refine lv_aload_n hx hb dX6_mostAlike_38 rfl (lv_at hl 0 rfl) ?_
  refine gt_X6_size hC hN 0 rfl rfl dX6_mostAlike_39 ?_
  refine lv_iload_n hx hb dX6_mostAlike_42 rfl (lv_at hl 2 rfl) ?_
  refine lv_isub hx hb dX6_mostAlike_43 ?_
  refine va_mmax hx hb (hC.2.2.1.trans hl.1.symm) hC.2.2.2.1 (hC.2.2.2.2.1 _ mML_X6_59) (hC.2.2.2.2.1 _ mST_J9_max_7cf53) (hC.2.2.2.2.1 _ mIN_J9) (hC.2.2.2.2.1 _ mCO_J9_max_7cf53) (Nat.le_of_ble_eq_true rfl) (Nat.le_of_ble_eq_true rfl) (Nat.le_refl _) (Nat.le_refl _) dX6_mostAlike_44 ?_
  obtain rfl := Option.some.inj h
  exact n_iret hC hN dX6_mostAlike_47
set_option maxHeartbeats 4000000 in
set_option maxRecDepth 100000 in
theorem tX6_bestQuestion (l : Launch) (E : EV) (adc : Nat → Nat) (c_codes : Nat → Int32) (c_views : Nat → Int64) (c_size : Int32) (p1 : Int32) (z : Int32) (h : fX6_bestQuestion c_views c_size p1 = some z) : Cn l E yX6_bestQuestion cX6_bestQuestion 7 (some .int) 2 45 [.ref (adc 0), .int p1] (wX6 E adc c_codes c_views c_size) (wX6 E adc c_codes c_views c_size) (some (.int z)) := by
  refine Cn.ofW (by decide +kernel) (Nat.le_of_ble_eq_true rfl) ?_
  intro p e s m args below meth c ls hC hN hl
  obtain ⟨z0, hz0⟩ : ∃ y, y = z := ⟨_, rfl⟩
  rw [← hz0] at h ⊢
  clear hz0
  have hl : lv_has ls 7 [(0, .ref (adc 0)), (1, .int p1)] := hl
  have hx := hC.1
  have hb := hC.2.1
  unfold fX6_bestQuestion at h
  refine lv_bipush (v := -9) hx hb dX6_bestQuestion_0 (by decide) ?_
  refine lv_istore_n (lv' := [(2, .int (-9)), (0, .ref (adc 0)), (1, .int p1)]) hx hb dX6_bestQuestion_2 rfl hl (by decide) rfl (fun ls hl => ?_)
  refine lv_aload_n hx hb dX6_bestQuestion_3 rfl (lv_at hl 1 rfl) ?_
  refine gt_X6_size hC hN 0 rfl rfl dX6_bestQuestion_4 ?_
  refine lv_iconst (v := 1) hx hb dX6_bestQuestion_7 rfl ?_
  refine lv_iadd hx hb dX6_bestQuestion_8 ?_
  refine lv_topi (fun v3_1 ev3_1 => ?_)
  have h := bd_e h v3_1 ev3_1
  refine lv_istore_n (lv' := [(3, .int v3_1), (2, .int (-9)), (0, .ref (adc 0)), (1, .int p1)]) hx hb dX6_bestQuestion_9 rfl hl (by decide) rfl (fun ls hl => ?_)
  refine lv_iconst (v := 0) hx hb dX6_bestQuestion_10 rfl ?_
  refine lv_istore (lv' := [(4, .int 0), (3, .int v3_1), (2, .int (-9)), (0, .ref (adc 0)), (1, .int p1)]) hx hb dX6_bestQuestion_11 hl (by decide) rfl (fun ls hl => ?_)
  have L1 : ∀ (fu : Nat) (v2_2 : Int32) (v3_3 : Int32) (v4_4 : Int32) (z : Int32 × Int32 × Int32) (H : Heap) (locs : List Loc) (ls : Array Slot), Nw E s (AD (wX6 E adc c_codes c_views c_size)) (wX6 E adc c_codes c_views c_size) H locs → lv_has ls 7 [(0, .ref (adc 0)), (1, .int p1), (2, .int v2_2), (3, .int v3_3), (4, .int v4_4)] → fX6_bestQuestion_L1 c_views c_size p1 fu v2_2 v3_3 v4_4 = some z → (∀ (H : Heap) (locs : List Loc) (ls : Array Slot), Nw E s (AD (wX6 E adc c_codes c_views c_size)) (wX6 E adc c_codes c_views c_size) H locs → lv_has ls 7 [(0, .ref (adc 0)), (1, .int p1), (2, .int z.1), (3, .int z.2.1), (4, .int z.2.2)] → WN p l e 2 45 s m args below meth c E (wX6 E adc c_codes c_views c_size) (some (.int z0)) (wX6 E adc c_codes c_views c_size) H locs (F0 m 74 ls [])) → WN p l e 2 45 s m args below meth c E (wX6 E adc c_codes c_views c_size) (some (.int z0)) (wX6 E adc c_codes c_views c_size) H locs (F0 m 13 ls []) := by
    intro fu
    induction fu with
    | zero =>
      intro v2_2 v3_3 v4_4 z H locs ls hN hl h K
      cases (show (none : Option (Int32 × Int32 × Int32)) = some z from h)
    | succ fu ih =>
      intro v2_2 v3_3 v4_4 z H locs ls hN hl h K
      rw [fX6_bestQuestion_L1.eq_2] at h
      refine lv_iload hx hb dX6_bestQuestion_13 (lv_at hl 4 rfl) ?_
      refine lv_iload_n hx hb dX6_bestQuestion_15 rfl (lv_at hl 1 rfl) ?_
      refine lv_icmp_ge (tgt := 74) hx hb dX6_bestQuestion_16 (by decide) (fun c5 => ?_) (fun c5 => ?_)
      · have h := if_t h c5
        obtain rfl := Option.some.inj h
        exact K _ _ _ hN (lv_sub hl [0, 1, 2, 3, 4] rfl)
      · have h := if_f h c5
        refine lv_iload hx hb dX6_bestQuestion_19 (lv_at hl 4 rfl) ?_
        refine lv_iconst (v := 1) hx hb dX6_bestQuestion_21 rfl ?_
        refine lv_iadd hx hb dX6_bestQuestion_22 ?_
        refine lv_topi (fun v5_6 ev5_6 => ?_)
        have h := bd_e h v5_6 ev5_6
        refine lv_istore (lv' := [(5, .int v5_6), (0, .ref (adc 0)), (1, .int p1), (2, .int v2_2), (3, .int v3_3), (4, .int v4_4)]) hx hb dX6_bestQuestion_23 hl (by decide) rfl (fun ls hl => ?_)
        have L2 : ∀ (fu : Nat) (v2_7 : Int32) (v3_8 : Int32) (v5_9 : Int32) (z : Int32 × Int32 × Int32) (H : Heap) (locs : List Loc) (ls : Array Slot), Nw E s (AD (wX6 E adc c_codes c_views c_size)) (wX6 E adc c_codes c_views c_size) H locs → lv_has ls 7 [(0, .ref (adc 0)), (1, .int p1), (2, .int v2_7), (3, .int v3_8), (4, .int v4_4), (5, .int v5_9)] → fX6_bestQuestion_L2 c_views c_size p1 v4_4 fu v2_7 v3_8 v5_9 = some z → (∀ (H : Heap) (locs : List Loc) (ls : Array Slot), Nw E s (AD (wX6 E adc c_codes c_views c_size)) (wX6 E adc c_codes c_views c_size) H locs → lv_has ls 7 [(0, .ref (adc 0)), (1, .int p1), (2, .int z.1), (3, .int z.2.1), (4, .int v4_4), (5, .int z.2.2)] → WN p l e 2 45 s m args below meth c E (wX6 E adc c_codes c_views c_size) (some (.int z0)) (wX6 E adc c_codes c_views c_size) H locs (F0 m 68 ls [])) → WN p l e 2 45 s m args below meth c E (wX6 E adc c_codes c_views c_size) (some (.int z0)) (wX6 E adc c_codes c_views c_size) H locs (F0 m 25 ls []) := by
          intro fu
          induction fu with
          | zero =>
            intro v2_7 v3_8 v5_9 z H locs ls hN hl h K
            cases (show (none : Option (Int32 × Int32 × Int32)) = some z from h)
          | succ fu ih =>
            intro v2_7 v3_8 v5_9 z H locs ls hN hl h K
            rw [fX6_bestQuestion_L2.eq_2] at h
            refine lv_iload hx hb dX6_bestQuestion_25 (lv_at hl 5 rfl) ?_
            refine lv_iload_n hx hb dX6_bestQuestion_27 rfl (lv_at hl 1 rfl) ?_
            refine lv_icmp_ge (tgt := 68) hx hb dX6_bestQuestion_28 (by decide) (fun c10 => ?_) (fun c10 => ?_)
            · have h := if_t h c10
              obtain rfl := Option.some.inj h
              exact K _ _ _ hN (lv_sub hl [0, 1, 2, 3, 4, 5] rfl)
            · have h := if_f h c10
              refine lv_aload_n hx hb dX6_bestQuestion_31 rfl (lv_at hl 0 rfl) ?_
              refine lv_iload hx hb dX6_bestQuestion_32 (lv_at hl 4 rfl) ?_
              refine lv_iload hx hb dX6_bestQuestion_34 (lv_at hl 5 rfl) ?_
              obtain ⟨r_11, hr_11, h⟩ := bi_e h
              refine n_callSNl (ws' := wX6 E adc c_codes c_views c_size) hC hN (tX7_viewBit l E v4_4 v5_9 r_11 hr_11) cy_X7_viewBit (List.mem_of_getElem? (i := 12) rfl) mST_X7_viewBit (perm_nil _) (perm_nil _) rfl rfl hl.1 rfl (Nat.le_of_ble_eq_true rfl) dX6_bestQuestion_36 ⟨Nat.le_of_ble_eq_true rfl, Nat.le_of_ble_eq_true rfl⟩ ⟨Nat.le_refl _, Nat.le_refl _⟩ (fun H locs hN => ?_)
              obtain ⟨r_12, hr_12, h⟩ := bi_e h
              refine n_callVi (ws' := wX6 E adc c_codes c_views c_size) hC hN (tX6_mostAlike l E adc c_codes c_views c_size r_11 r_12 hr_12) cy_X6_mostAlike mML_X6_56 mIM_X6_mostAlike mSE_X6_mostAlike rfl rfl (k := 0) rfl (perm_self _) (perm_self _) rfl rfl hl.1 rfl (Nat.le_of_ble_eq_true rfl) dX6_bestQuestion_39 ⟨Nat.le_of_ble_eq_true rfl, Nat.le_of_ble_eq_true rfl⟩ ⟨Nat.le_refl _, Nat.le_refl _⟩ (fun H locs hN => ?_)
              refine lv_istore (lv' := [(6, .int r_12), (0, .ref (adc 0)), (1, .int p1), (2, .int v2_7), (3, .int v3_8), (4, .int v4_4), (5, .int v5_9)]) hx hb dX6_bestQuestion_42 hl (by decide) rfl (fun ls hl => ?_)
              refine lv_iload hx hb dX6_bestQuestion_44 (lv_at hl 0 rfl) ?_
              refine lv_iload_n hx hb dX6_bestQuestion_46 rfl (lv_at hl 4 rfl) ?_
              refine lv_icmp_ge (tgt := 62) hx hb dX6_bestQuestion_47 (by decide) (fun c13 => ?_) (fun c13 => ?_)
              · have h := if_t h c13
                obtain ⟨v5_14, ev5_14⟩ : ∃ y : Int32, y = v5_9 + 1 := ⟨_, rfl⟩
                have h := bd_e h v5_14 ev5_14
                refine lv_iinc (v := v5_14) (lv' := [(5, .int v5_14), (6, .int r_12), (0, .ref (adc 0)), (1, .int p1), (2, .int v2_7), (3, .int v3_8), (4, .int v4_4)]) hx hb dX6_bestQuestion_62 hl (k := 6) rfl (by rw [ev5_14]; rfl) (by decide) rfl (fun ls hl => ?_)
                refine lv_goto (tgt := 25) hx hb dX6_bestQuestion_65 (by decide) ?_
                exact ih v2_7 v3_8 v5_14 z _ _ _ hN (lv_sub hl [2, 3, 4, 5, 6, 0] rfl) h K
              · have h := if_f h c13
                refine lv_iload hx hb dX6_bestQuestion_50 (lv_at hl 0 rfl) ?_
                refine lv_istore_n (lv' := [(3, .int r_12), (6, .int r_12), (0, .ref (adc 0)), (1, .int p1), (2, .int v2_7), (4, .int v4_4), (5, .int v5_9)]) hx hb dX6_bestQuestion_52 rfl hl (by decide) rfl (fun ls hl => ?_)
                refine lv_bipush (v := 10) hx hb dX6_bestQuestion_53 (by decide) ?_
                refine lv_iload hx hb dX6_bestQuestion_55 (lv_at hl 5 rfl) ?_
                refine lv_imul hx hb dX6_bestQuestion_57 ?_
                refine lv_iload hx hb dX6_bestQuestion_58 (lv_at hl 6 rfl) ?_
                refine lv_iadd hx hb dX6_bestQuestion_60 ?_
                refine lv_topi (fun v2_15 ev2_15 => ?_)
                have h := bd_e h v2_15 ev2_15
                refine lv_istore_n (lv' := [(2, .int v2_15), (3, .int r_12), (6, .int r_12), (0, .ref (adc 0)), (1, .int p1), (4, .int v4_4), (5, .int v5_9)]) hx hb dX6_bestQuestion_61 rfl hl (by decide) rfl (fun ls hl => ?_)
                obtain ⟨v5_16, ev5_16⟩ : ∃ y : Int32, y = v5_9 + 1 := ⟨_, rfl⟩
                have h := bd_e h v5_16 ev5_16
                refine lv_iinc (v := v5_16) (lv' := [(5, .int v5_16), (2, .int v2_15), (3, .int r_12), (6, .int r_12), (0, .ref (adc 0)), (1, .int p1), (4, .int v4_4)]) hx hb dX6_bestQuestion_62 hl (k := 6) rfl (by rw [ev5_16]; rfl) (by decide) rfl (fun ls hl => ?_)
                refine lv_goto (tgt := 25) hx hb dX6_bestQuestion_65 (by decide) ?_
                exact ih v2_15 r_12 v5_16 z _ _ _ hN (lv_sub hl [4, 5, 1, 2, 6, 0] rfl) h K
        obtain ⟨z_17, hz_17, h⟩ := bi_e h
        refine L2 500 v2_2 v3_3 v5_6 z_17 _ _ _ hN (lv_sub hl [1, 2, 3, 4, 5, 0] rfl) hz_17 (fun H locs ls hN hl => ?_)
        obtain ⟨v4_18, ev4_18⟩ : ∃ y : Int32, y = v4_4 + 1 := ⟨_, rfl⟩
        have h := bd_e h v4_18 ev4_18
        refine lv_iinc (v := v4_18) (lv' := [(4, .int v4_18), (0, .ref (adc 0)), (1, .int p1), (2, .int z_17.1), (3, .int z_17.2.1), (5, .int z_17.2.2)]) hx hb dX6_bestQuestion_68 hl (k := 4) rfl (by rw [ev4_18]; rfl) (by decide) rfl (fun ls hl => ?_)
        refine lv_goto (tgt := 13) hx hb dX6_bestQuestion_71 (by decide) ?_
        exact ih z_17.1 z_17.2.1 v4_18 z _ _ _ hN (lv_sub hl [1, 2, 3, 4, 0] rfl) h K
  obtain ⟨z_19, hz_19, h⟩ := bi_e h
  refine L1 500 (-9) v3_1 0 z_19 _ _ _ hN (lv_sub hl [3, 4, 2, 1, 0] rfl) hz_19 (fun H locs ls hN hl => ?_)
  refine lv_iload_n hx hb dX6_bestQuestion_74 rfl (lv_at hl 2 rfl) ?_
  obtain rfl := Option.some.inj h
  exact n_iret hC hN dX6_bestQuestion_75
