set_option maxHeartbeats 4000000 in
set_option maxRecDepth 100000 in
theorem tX3_fabricOf (l : Launch) (E : EV) (adc : Nat → Nat) (c_switches : Int32) (c_hosts : Int32) (c_renewing : Int32) (c_priorities : Nat → Int32) (c_names : Nat → Int32) (c_wants : Nat → Int32) (c_blocks : Nat → Int32) (c_upTo : Nat → Int32) (c_clashedTo : Nat → Int32) (c_zoneSets : Nat → Int32) (c_places : Nat → Int32) (c_notices : Nat → Int32) (c_news : Nat → Int32) (p1 : Int32) (z : Int32) (h : fX3_fabricOf c_switches c_upTo p1 = some z) : Cn l E yX3_fabricOf cX3_fabricOf 4 (some .int) 2 44 [.ref (adc 0), .int p1] (wX3 E adc c_switches c_hosts c_renewing c_priorities c_names c_wants c_blocks c_upTo c_clashedTo c_zoneSets c_places c_notices c_news) (wX3 E adc c_switches c_hosts c_renewing c_priorities c_names c_wants c_blocks c_upTo c_clashedTo c_zoneSets c_places c_notices c_news) (some (.int z)) := by
  refine Cn.ofW (by decide +kernel) (Nat.le_of_ble_eq_true rfl) ?_
  intro p e s m args below meth c ls hC hN hl
  obtain ⟨z0, hz0⟩ : ∃ y, y = z := ⟨_, rfl⟩
  rw [← hz0] at h ⊢
  clear hz0
  have hl : lv_has ls 4 [(0, .ref (adc 0)), (1, .int p1)] := hl
  have hx := hC.1
  have hb := hC.2.1
  unfold fX3_fabricOf at h
  refine lv_iconst (v := 1) hx hb dX3_fabricOf_0 rfl ?_
  refine lv_iload_n hx hb dX3_fabricOf_1 rfl (lv_at hl 1 rfl) ?_
  refine lv_ishl hx hb dX3_fabricOf_2 ?_
  refine lv_topi (fun v2_1 ev2_1 => ?_)
  have h := bd_e h v2_1 ev2_1
  refine lv_istore_n (lv' := [(2, .int v2_1), (0, .ref (adc 0)), (1, .int p1)]) hx hb dX3_fabricOf_3 rfl hl (by decide) rfl (fun ls hl => ?_)
  refine lv_iconst (v := 1) hx hb dX3_fabricOf_4 rfl ?_
  refine lv_istore_n (lv' := [(3, .int 1), (2, .int v2_1), (0, .ref (adc 0)), (1, .int p1)]) hx hb dX3_fabricOf_5 rfl hl (by decide) rfl (fun ls hl => ?_)
  have L1 : ∀ (fu : Nat) (v2_2 : Int32) (v3_3 : Int32) (z : Int32 × Int32) (H : Heap) (locs : List Loc) (ls : Array Slot), Nw E s (AD (wX3 E adc c_switches c_hosts c_renewing c_priorities c_names c_wants c_blocks c_upTo c_clashedTo c_zoneSets c_places c_notices c_news)) (wX3 E adc c_switches c_hosts c_renewing c_priorities c_names c_wants c_blocks c_upTo c_clashedTo c_zoneSets c_places c_notices c_news) H locs → lv_has ls 4 [(0, .ref (adc 0)), (1, .int p1), (2, .int v2_2), (3, .int v3_3)] → fX3_fabricOf_L1 c_switches c_upTo fu v2_2 v3_3 = some z → (∀ (H : Heap) (locs : List Loc) (ls : Array Slot), Nw E s (AD (wX3 E adc c_switches c_hosts c_renewing c_priorities c_names c_wants c_blocks c_upTo c_clashedTo c_zoneSets c_places c_notices c_news)) (wX3 E adc c_switches c_hosts c_renewing c_priorities c_names c_wants c_blocks c_upTo c_clashedTo c_zoneSets c_places c_notices c_news) H locs → lv_has ls 4 [(0, .ref (adc 0)), (1, .int p1), (2, .int z.1), (3, .int z.2)] → WN p l e 2 44 s m args below meth c E (wX3 E adc c_switches c_hosts c_renewing c_priorities c_names c_wants c_blocks c_upTo c_clashedTo c_zoneSets c_places c_notices c_news) (some (.int z0)) (wX3 E adc c_switches c_hosts c_renewing c_priorities c_names c_wants c_blocks c_upTo c_clashedTo c_zoneSets c_places c_notices c_news) H locs (F0 m 26 ls [])) → WN p l e 2 44 s m args below meth c E (wX3 E adc c_switches c_hosts c_renewing c_priorities c_names c_wants c_blocks c_upTo c_clashedTo c_zoneSets c_places c_notices c_news) (some (.int z0)) (wX3 E adc c_switches c_hosts c_renewing c_priorities c_names c_wants c_blocks c_upTo c_clashedTo c_zoneSets c_places c_notices c_news) H locs (F0 m 6 ls []) := by
    intro fu
    induction fu with
    | zero =>
      intro v2_2 v3_3 z H locs ls hN hl h K
      cases (show (none : Option (Int32 × Int32)) = some z from h)
    | succ fu ih =>
      intro v2_2 v3_3 z H locs ls hN hl h K
      rw [fX3_fabricOf_L1.eq_2] at h
      refine lv_iload_n hx hb dX3_fabricOf_6 rfl (lv_at hl 3 rfl) ?_
      refine lv_aload_n hx hb dX3_fabricOf_7 rfl (lv_at hl 0 rfl) ?_
      refine gt_X3_switches hC hN 0 rfl rfl dX3_fabricOf_8 ?_
      refine lv_icmp_ge (tgt := 26) hx hb dX3_fabricOf_11 (by decide) (fun c4 => ?_) (fun c4 => ?_)
      · have h := if_t h c4
        obtain rfl := Option.some.inj h
        exact K _ _ _ hN (lv_sub hl [0, 1, 2, 3] rfl)
      · have h := if_f h c4
        refine lv_aload_n hx hb dX3_fabricOf_14 rfl (lv_at hl 0 rfl) ?_
        refine lv_iload_n hx hb dX3_fabricOf_15 rfl (lv_at hl 2 rfl) ?_
        obtain ⟨r_5, hr_5, h⟩ := bi_e h
        refine n_callVi (ws' := wX3 E adc c_switches c_hosts c_renewing c_priorities c_names c_wants c_blocks c_upTo c_clashedTo c_zoneSets c_places c_notices c_news) hC hN (tX3_spread l E adc c_switches c_hosts c_renewing c_priorities c_names c_wants c_blocks c_upTo c_clashedTo c_zoneSets c_places c_notices c_news v2_2 r_5 hr_5) cy_X3_spread mML_X3_85 mIM_X3_spread mSE_X3_spread rfl rfl (k := 0) rfl (perm_self _) (perm_self _) rfl rfl hl.1 rfl (Nat.le_of_ble_eq_true rfl) dX3_fabricOf_16 ⟨Nat.le_of_ble_eq_true rfl, Nat.le_of_ble_eq_true rfl⟩ ⟨Nat.le_refl _, Nat.le_refl _⟩ (fun H locs hN => ?_)
        refine lv_istore_n (lv' := [(2, .int r_5), (0, .ref (adc 0)), (1, .int p1), (3, .int v3_3)]) hx hb dX3_fabricOf_19 rfl hl (by decide) rfl (fun ls hl => ?_)
        obtain ⟨v3_6, ev3_6⟩ : ∃ y : Int32, y = v3_3 + 1 := ⟨_, rfl⟩
        have h := bd_e h v3_6 ev3_6
        refine lv_iinc (v := v3_6) (lv' := [(3, .int v3_6), (2, .int r_5), (0, .ref (adc 0)), (1, .int p1)]) hx hb dX3_fabricOf_20 hl (k := 3) rfl (by rw [ev3_6]; rfl) (by decide) rfl (fun ls hl => ?_)
        refine lv_goto (tgt := 6) hx hb dX3_fabricOf_23 (by decide) ?_
        exact ih r_5 v3_6 z _ _ _ hN (lv_sub hl [2, 3, 1, 0] rfl) h K
  obtain ⟨z_7, hz_7, h⟩ := bi_e h
  refine L1 500 v2_1 1 z_7 _ _ _ hN (lv_sub hl [2, 3, 1, 0] rfl) hz_7 (fun H locs ls hN hl => ?_)
  refine lv_iload_n hx hb dX3_fabricOf_26 rfl (lv_at hl 2 rfl) ?_
  obtain rfl := Option.some.inj h
  exact n_iret hC hN dX3_fabricOf_27
set_option maxHeartbeats 4000000 in
set_option maxRecDepth 100000 in
theorem tX3_fabricTotal (l : Launch) (E : EV) (adc : Nat → Nat) (c_switches : Int32) (c_hosts : Int32) (c_renewing : Int32) (c_priorities : Nat → Int32) (c_names : Nat → Int32) (c_wants : Nat → Int32) (c_blocks : Nat → Int32) (c_upTo : Nat → Int32) (c_clashedTo : Nat → Int32) (c_zoneSets : Nat → Int32) (c_places : Nat → Int32) (c_notices : Nat → Int32) (c_news : Nat → Int32) (z : Int32) (h : fX3_fabricTotal c_switches c_upTo = some z) : Cn l E yX3_fabricTotal cX3_fabricTotal 4 (some .int) 3 67 [.ref (adc 0)] (wX3 E adc c_switches c_hosts c_renewing c_priorities c_names c_wants c_blocks c_upTo c_clashedTo c_zoneSets c_places c_notices c_news) (wX3 E adc c_switches c_hosts c_renewing c_priorities c_names c_wants c_blocks c_upTo c_clashedTo c_zoneSets c_places c_notices c_news) (some (.int z)) := by
  refine Cn.ofW (by decide +kernel) (Nat.le_of_ble_eq_true rfl) ?_
  intro p e s m args below meth c ls hC hN hl
  obtain ⟨z0, hz0⟩ : ∃ y, y = z := ⟨_, rfl⟩
  rw [← hz0] at h ⊢
  clear hz0
  have hl : lv_has ls 4 [(0, .ref (adc 0))] := hl
  have hx := hC.1
  have hb := hC.2.1
  unfold fX3_fabricTotal at h
  refine lv_iconst (v := 0) hx hb dX3_fabricTotal_0 rfl ?_
  refine lv_istore_n (lv' := [(1, .int 0), (0, .ref (adc 0))]) hx hb dX3_fabricTotal_1 rfl hl (by decide) rfl (fun ls hl => ?_)
  refine lv_iconst (v := 0) hx hb dX3_fabricTotal_2 rfl ?_
  refine lv_istore_n (lv' := [(2, .int 0), (1, .int 0), (0, .ref (adc 0))]) hx hb dX3_fabricTotal_3 rfl hl (by decide) rfl (fun ls hl => ?_)
  refine lv_iconst (v := 0) hx hb dX3_fabricTotal_4 rfl ?_
  refine lv_istore_n (lv' := [(3, .int 0), (2, .int 0), (1, .int 0), (0, .ref (adc 0))]) hx hb dX3_fabricTotal_5 rfl hl (by decide) rfl (fun ls hl => ?_)
  have L1 : ∀ (fu : Nat) (v1_1 : Int32) (v2_2 : Int32) (v3_3 : Int32) (z : Int32 × Int32 × Int32) (H : Heap) (locs : List Loc) (ls : Array Slot), Nw E s (AD (wX3 E adc c_switches c_hosts c_renewing c_priorities c_names c_wants c_blocks c_upTo c_clashedTo c_zoneSets c_places c_notices c_news)) (wX3 E adc c_switches c_hosts c_renewing c_priorities c_names c_wants c_blocks c_upTo c_clashedTo c_zoneSets c_places c_notices c_news) H locs → lv_has ls 4 [(0, .ref (adc 0)), (1, .int v1_1), (2, .int v2_2), (3, .int v3_3)] → fX3_fabricTotal_L1 c_switches c_upTo fu v1_1 v2_2 v3_3 = some z → (∀ (H : Heap) (locs : List Loc) (ls : Array Slot), Nw E s (AD (wX3 E adc c_switches c_hosts c_renewing c_priorities c_names c_wants c_blocks c_upTo c_clashedTo c_zoneSets c_places c_notices c_news)) (wX3 E adc c_switches c_hosts c_renewing c_priorities c_names c_wants c_blocks c_upTo c_clashedTo c_zoneSets c_places c_notices c_news) H locs → lv_has ls 4 [(0, .ref (adc 0)), (1, .int z.1), (2, .int z.2.1), (3, .int z.2.2)] → WN p l e 3 67 s m args below meth c E (wX3 E adc c_switches c_hosts c_renewing c_priorities c_names c_wants c_blocks c_upTo c_clashedTo c_zoneSets c_places c_notices c_news) (some (.int z0)) (wX3 E adc c_switches c_hosts c_renewing c_priorities c_names c_wants c_blocks c_upTo c_clashedTo c_zoneSets c_places c_notices c_news) H locs (F0 m 39 ls [])) → WN p l e 3 67 s m args below meth c E (wX3 E adc c_switches c_hosts c_renewing c_priorities c_names c_wants c_blocks c_upTo c_clashedTo c_zoneSets c_places c_notices c_news) (some (.int z0)) (wX3 E adc c_switches c_hosts c_renewing c_priorities c_names c_wants c_blocks c_upTo c_clashedTo c_zoneSets c_places c_notices c_news) H locs (F0 m 6 ls []) := by
    intro fu
    induction fu with
    | zero =>
      intro v1_1 v2_2 v3_3 z H locs ls hN hl h K
      cases (show (none : Option (Int32 × Int32 × Int32)) = some z from h)
    | succ fu ih =>
      intro v1_1 v2_2 v3_3 z H locs ls hN hl h K
      rw [fX3_fabricTotal_L1.eq_2] at h
      refine lv_iload_n hx hb dX3_fabricTotal_6 rfl (lv_at hl 3 rfl) ?_
      refine lv_aload_n hx hb dX3_fabricTotal_7 rfl (lv_at hl 0 rfl) ?_
      refine gt_X3_switches hC hN 0 rfl rfl dX3_fabricTotal_8 ?_
      refine lv_icmp_ge (tgt := 39) hx hb dX3_fabricTotal_11 (by decide) (fun c4 => ?_) (fun c4 => ?_)
      · have h := if_t h c4
        obtain rfl := Option.some.inj h
        exact K _ _ _ hN (lv_sub hl [0, 1, 2, 3] rfl)
      · have h := if_f h c4
        refine lv_iload_n hx hb dX3_fabricTotal_14 rfl (lv_at hl 2 rfl) ?_
        refine lv_iload_n hx hb dX3_fabricTotal_15 rfl (lv_at hl 3 rfl) ?_
        obtain ⟨r_5, hr_5, h⟩ := bi_e h
        refine n_callSNi (ws' := wX3 E adc c_switches c_hosts c_renewing c_priorities c_names c_wants c_blocks c_upTo c_clashedTo c_zoneSets c_places c_notices c_news) hC hN (tX7_has l E v2_2 v3_3 r_5 hr_5) cy_X7_has (List.mem_of_getElem? (i := 8) rfl) mST_X7_has (perm_nil _) (perm_nil _) rfl rfl hl.1 rfl (Nat.le_of_ble_eq_true rfl) dX3_fabricTotal_16 ⟨Nat.le_of_ble_eq_true rfl, Nat.le_of_ble_eq_true rfl⟩ ⟨Nat.le_refl _, Nat.le_refl _⟩ (fun H locs hN => ?_)
        refine lv_if_ne (tgt := 33) hx hb dX3_fabricTotal_19 (by decide) (fun c6 => ?_) (fun c6 => ?_)
        · have h := if_f h c6
          obtain ⟨v3_7, ev3_7⟩ : ∃ y : Int32, y = v3_3 + 1 := ⟨_, rfl⟩
          have h := bd_e h v3_7 ev3_7
          refine lv_iinc (v := v3_7) (lv' := [(3, .int v3_7), (0, .ref (adc 0)), (1, .int v1_1), (2, .int v2_2)]) hx hb dX3_fabricTotal_33 hl (k := 3) rfl (by rw [ev3_7]; rfl) (by decide) rfl (fun ls hl => ?_)
          refine lv_goto (tgt := 6) hx hb dX3_fabricTotal_36 (by decide) ?_
          exact ih v1_1 v2_2 v3_7 z _ _ _ hN (lv_sub hl [1, 2, 3, 0] rfl) h K
        · have h := if_t h c6
          refine lv_iload_n hx hb dX3_fabricTotal_22 rfl (lv_at hl 2 rfl) ?_
          refine lv_aload_n hx hb dX3_fabricTotal_23 rfl (lv_at hl 0 rfl) ?_
          refine lv_iload_n hx hb dX3_fabricTotal_24 rfl (lv_at hl 3 rfl) ?_
          obtain ⟨r_8, hr_8, h⟩ := bi_e h
          refine n_callVi (ws' := wX3 E adc c_switches c_hosts c_renewing c_priorities c_names c_wants c_blocks c_upTo c_clashedTo c_zoneSets c_places c_notices c_news) hC hN (tX3_fabricOf l E adc c_switches c_hosts c_renewing c_priorities c_names c_wants c_blocks c_upTo c_clashedTo c_zoneSets c_places c_notices c_news v3_3 r_8 hr_8) cy_X3_fabricOf mML_X3_88 mIM_X3_fabricOf mSE_X3_fabricOf rfl rfl (k := 0) rfl (perm_self _) (perm_self _) rfl rfl hl.1 rfl (Nat.le_of_ble_eq_true rfl) dX3_fabricTotal_25 ⟨Nat.le_of_ble_eq_true rfl, Nat.le_of_ble_eq_true rfl⟩ ⟨Nat.le_refl _, Nat.le_refl _⟩ (fun H locs hN => ?_)
          refine lv_ior hx hb dX3_fabricTotal_28 ?_
          refine lv_topi (fun v2_9 ev2_9 => ?_)
          have h := bd_e h v2_9 ev2_9
          refine lv_istore_n (lv' := [(2, .int v2_9), (0, .ref (adc 0)), (1, .int v1_1), (3, .int v3_3)]) hx hb dX3_fabricTotal_29 rfl hl (by decide) rfl (fun ls hl => ?_)
          obtain ⟨v1_10, ev1_10⟩ : ∃ y : Int32, y = v1_1 + 1 := ⟨_, rfl⟩
          have h := bd_e h v1_10 ev1_10
          refine lv_iinc (v := v1_10) (lv' := [(1, .int v1_10), (2, .int v2_9), (0, .ref (adc 0)), (3, .int v3_3)]) hx hb dX3_fabricTotal_30 hl (k := 2) rfl (by rw [ev1_10]; rfl) (by decide) rfl (fun ls hl => ?_)
          obtain ⟨v3_11, ev3_11⟩ : ∃ y : Int32, y = v3_3 + 1 := ⟨_, rfl⟩
          have h := bd_e h v3_11 ev3_11
          refine lv_iinc (v := v3_11) (lv' := [(3, .int v3_11), (1, .int v1_10), (2, .int v2_9), (0, .ref (adc 0))]) hx hb dX3_fabricTotal_33 hl (k := 3) rfl (by rw [ev3_11]; rfl) (by decide) rfl (fun ls hl => ?_)
          refine lv_goto (tgt := 6) hx hb dX3_fabricTotal_36 (by decide) ?_
          exact ih v1_10 v2_9 v3_11 z _ _ _ hN (lv_sub hl [3, 1, 2, 0] rfl) h K
  obtain ⟨z_12, hz_12, h⟩ := bi_e h
  refine L1 500 0 0 0 z_12 _ _ _ hN (lv_sub hl [3, 2, 1, 0] rfl) hz_12 (fun H locs ls hN hl => ?_)
  refine lv_iload_n hx hb dX3_fabricTotal_39 rfl (lv_at hl 1 rfl) ?_
  obtain rfl := Option.some.inj h
  exact n_iret hC hN dX3_fabricTotal_40
set_option maxHeartbeats 4000000 in
set_option maxRecDepth 100000 in
theorem tX3_goesAhead (l : Launch) (E : EV) (adc : Nat → Nat) (c_switches : Int32) (c_hosts : Int32) (c_renewing : Int32) (c_priorities : Nat → Int32) (c_names : Nat → Int32) (c_wants : Nat → Int32) (c_blocks : Nat → Int32) (c_upTo : Nat → Int32) (c_clashedTo : Nat → Int32) (c_zoneSets : Nat → Int32) (c_places : Nat → Int32) (c_notices : Nat → Int32) (c_news : Nat → Int32) (p1 : Int32) (p2 : Int32) (z : Int32) (h : fX3_goesAhead c_switches c_priorities c_names p1 p2 = some z) : Cn l E yX3_goesAhead cX3_goesAhead 3 (some .boolean) 2 42 [.ref (adc 0), .int p1, .int p2] (wX3 E adc c_switches c_hosts c_renewing c_priorities c_names c_wants c_blocks c_upTo c_clashedTo c_zoneSets c_places c_notices c_news) (wX3 E adc c_switches c_hosts c_renewing c_priorities c_names c_wants c_blocks c_upTo c_clashedTo c_zoneSets c_places c_notices c_news) (some (.int z)) := by
  refine Cn.ofW (by decide +kernel) (Nat.le_of_ble_eq_true rfl) ?_
  intro p e s m args below meth c ls hC hN hl
  have hl : lv_has ls 3 [(0, .ref (adc 0)), (1, .int p1), (2, .int p2)] := hl
  have hx := hC.1
  have hb := hC.2.1
  unfold fX3_goesAhead at h
  refine lv_aload_n hx hb dX3_goesAhead_0 rfl (lv_at hl 0 rfl) ?_
  refine lv_iload_n hx hb dX3_goesAhead_1 rfl (lv_at hl 1 rfl) ?_
  obtain ⟨r_1, hr_1, h⟩ := bi_e h
  refine n_callVi (ws' := wX3 E adc c_switches c_hosts c_renewing c_priorities c_names c_wants c_blocks c_upTo c_clashedTo c_zoneSets c_places c_notices c_news) hC hN (tX3_priorityOf l E adc c_switches c_hosts c_renewing c_priorities c_names c_wants c_blocks c_upTo c_clashedTo c_zoneSets c_places c_notices c_news p1 r_1 hr_1) cy_X3_priorityOf mML_X3_94 mIM_X3_priorityOf mSE_X3_priorityOf rfl rfl (k := 0) rfl (perm_self _) (perm_self _) rfl rfl hl.1 rfl (Nat.le_of_ble_eq_true rfl) dX3_goesAhead_2 ⟨Nat.le_of_ble_eq_true rfl, Nat.le_of_ble_eq_true rfl⟩ ⟨Nat.le_refl _, Nat.le_refl _⟩ (fun H locs hN => ?_)
  refine lv_aload_n hx hb dX3_goesAhead_5 rfl (lv_at hl 0 rfl) ?_
  refine lv_iload_n hx hb dX3_goesAhead_6 rfl (lv_at hl 2 rfl) ?_
  obtain ⟨r_2, hr_2, h⟩ := bi_e h
  refine n_callVi (ws' := wX3 E adc c_switches c_hosts c_renewing c_priorities c_names c_wants c_blocks c_upTo c_clashedTo c_zoneSets c_places c_notices c_news) hC hN (tX3_priorityOf l E adc c_switches c_hosts c_renewing c_priorities c_names c_wants c_blocks c_upTo c_clashedTo c_zoneSets c_places c_notices c_news p2 r_2 hr_2) cy_X3_priorityOf mML_X3_94 mIM_X3_priorityOf mSE_X3_priorityOf rfl rfl (k := 0) rfl (perm_self _) (perm_self _) rfl rfl hl.1 rfl (Nat.le_of_ble_eq_true rfl) dX3_goesAhead_7 ⟨Nat.le_of_ble_eq_true rfl, Nat.le_of_ble_eq_true rfl⟩ ⟨Nat.le_refl _, Nat.le_refl _⟩ (fun H locs hN => ?_)
  refine lv_icmp_eq (tgt := 32) hx hb dX3_goesAhead_10 (by decide) (fun c3 => ?_) (fun c3 => ?_)
  · have h := if_t h c3
    refine lv_aload_n hx hb dX3_goesAhead_32 rfl (lv_at hl 0 rfl) ?_
    refine lv_iload_n hx hb dX3_goesAhead_33 rfl (lv_at hl 1 rfl) ?_
    obtain ⟨r_4, hr_4, h⟩ := bi_e h
    refine n_callVi (ws' := wX3 E adc c_switches c_hosts c_renewing c_priorities c_names c_wants c_blocks c_upTo c_clashedTo c_zoneSets c_places c_notices c_news) hC hN (tX3_nameOf l E adc c_switches c_hosts c_renewing c_priorities c_names c_wants c_blocks c_upTo c_clashedTo c_zoneSets c_places c_notices c_news p1 r_4 hr_4) cy_X3_nameOf mML_X3_97 mIM_X3_nameOf mSE_X3_nameOf rfl rfl (k := 0) rfl (perm_self _) (perm_self _) rfl rfl hl.1 rfl (Nat.le_of_ble_eq_true rfl) dX3_goesAhead_34 ⟨Nat.le_of_ble_eq_true rfl, Nat.le_of_ble_eq_true rfl⟩ ⟨Nat.le_refl _, Nat.le_refl _⟩ (fun H locs hN => ?_)
    refine lv_aload_n hx hb dX3_goesAhead_37 rfl (lv_at hl 0 rfl) ?_
    refine lv_iload_n hx hb dX3_goesAhead_38 rfl (lv_at hl 2 rfl) ?_
    obtain ⟨r_5, hr_5, h⟩ := bi_e h
    refine n_callVi (ws' := wX3 E adc c_switches c_hosts c_renewing c_priorities c_names c_wants c_blocks c_upTo c_clashedTo c_zoneSets c_places c_notices c_news) hC hN (tX3_nameOf l E adc c_switches c_hosts c_renewing c_priorities c_names c_wants c_blocks c_upTo c_clashedTo c_zoneSets c_places c_notices c_news p2 r_5 hr_5) cy_X3_nameOf mML_X3_97 mIM_X3_nameOf mSE_X3_nameOf rfl rfl (k := 0) rfl (perm_self _) (perm_self _) rfl rfl hl.1 rfl (Nat.le_of_ble_eq_true rfl) dX3_goesAhead_39 ⟨Nat.le_of_ble_eq_true rfl, Nat.le_of_ble_eq_true rfl⟩ ⟨Nat.le_refl _, Nat.le_refl _⟩ (fun H locs hN => ?_)
    refine lv_icmp_ge (tgt := 49) hx hb dX3_goesAhead_42 (by decide) (fun c6 => ?_) (fun c6 => ?_)
    · have h := if_t h c6
      refine lv_iconst (v := 0) hx hb dX3_goesAhead_49 rfl ?_
      obtain rfl := Option.some.inj h
      exact n_zret hC hN (Or.inl rfl) dX3_goesAhead_50
    · have h := if_f h c6
      refine lv_iconst (v := 1) hx hb dX3_goesAhead_45 rfl ?_
      refine lv_goto (tgt := 50) hx hb dX3_goesAhead_46 (by decide) ?_
      obtain rfl := Option.some.inj h
      exact n_zret hC hN (Or.inr rfl) dX3_goesAhead_50
  · have h := if_f h c3
    refine lv_aload_n hx hb dX3_goesAhead_13 rfl (lv_at hl 0 rfl) ?_
    refine lv_iload_n hx hb dX3_goesAhead_14 rfl (lv_at hl 1 rfl) ?_
    obtain ⟨r_7, hr_7, h⟩ := bi_e h
    refine n_callVi (ws' := wX3 E adc c_switches c_hosts c_renewing c_priorities c_names c_wants c_blocks c_upTo c_clashedTo c_zoneSets c_places c_notices c_news) hC hN (tX3_priorityOf l E adc c_switches c_hosts c_renewing c_priorities c_names c_wants c_blocks c_upTo c_clashedTo c_zoneSets c_places c_notices c_news p1 r_7 hr_7) cy_X3_priorityOf mML_X3_94 mIM_X3_priorityOf mSE_X3_priorityOf rfl rfl (k := 0) rfl (perm_self _) (perm_self _) rfl rfl hl.1 rfl (Nat.le_of_ble_eq_true rfl) dX3_goesAhead_15 ⟨Nat.le_of_ble_eq_true rfl, Nat.le_of_ble_eq_true rfl⟩ ⟨Nat.le_refl _, Nat.le_refl _⟩ (fun H locs hN => ?_)
    refine lv_aload_n hx hb dX3_goesAhead_18 rfl (lv_at hl 0 rfl) ?_
    refine lv_iload_n hx hb dX3_goesAhead_19 rfl (lv_at hl 2 rfl) ?_
    obtain ⟨r_8, hr_8, h⟩ := bi_e h
    refine n_callVi (ws' := wX3 E adc c_switches c_hosts c_renewing c_priorities c_names c_wants c_blocks c_upTo c_clashedTo c_zoneSets c_places c_notices c_news) hC hN (tX3_priorityOf l E adc c_switches c_hosts c_renewing c_priorities c_names c_wants c_blocks c_upTo c_clashedTo c_zoneSets c_places c_notices c_news p2 r_8 hr_8) cy_X3_priorityOf mML_X3_94 mIM_X3_priorityOf mSE_X3_priorityOf rfl rfl (k := 0) rfl (perm_self _) (perm_self _) rfl rfl hl.1 rfl (Nat.le_of_ble_eq_true rfl) dX3_goesAhead_20 ⟨Nat.le_of_ble_eq_true rfl, Nat.le_of_ble_eq_true rfl⟩ ⟨Nat.le_refl _, Nat.le_refl _⟩ (fun H locs hN => ?_)
    refine lv_icmp_ge (tgt := 30) hx hb dX3_goesAhead_23 (by decide) (fun c9 => ?_) (fun c9 => ?_)
    · have h := if_t h c9
      refine lv_iconst (v := 0) hx hb dX3_goesAhead_30 rfl ?_
      obtain rfl := Option.some.inj h
      exact n_zret hC hN (Or.inl rfl) dX3_goesAhead_31
    · have h := if_f h c9
      refine lv_iconst (v := 1) hx hb dX3_goesAhead_26 rfl ?_
      refine lv_goto (tgt := 31) hx hb dX3_goesAhead_27 (by decide) ?_
      obtain rfl := Option.some.inj h
      exact n_zret hC hN (Or.inr rfl) dX3_goesAhead_31
set_option maxHeartbeats 4000000 in
set_option maxRecDepth 100000 in
theorem tX3_principalOf (l : Launch) (E : EV) (adc : Nat → Nat) (c_switches : Int32) (c_hosts : Int32) (c_renewing : Int32) (c_priorities : Nat → Int32) (c_names : Nat → Int32) (c_wants : Nat → Int32) (c_blocks : Nat → Int32) (c_upTo : Nat → Int32) (c_clashedTo : Nat → Int32) (c_zoneSets : Nat → Int32) (c_places : Nat → Int32) (c_notices : Nat → Int32) (c_news : Nat → Int32) (p1 : Int32) (z : Int32) (h : fX3_principalOf c_switches c_priorities c_names p1 = some z) : Cn l E yX3_principalOf cX3_principalOf 4 (some .int) 3 64 [.ref (adc 0), .int p1] (wX3 E adc c_switches c_hosts c_renewing c_priorities c_names c_wants c_blocks c_upTo c_clashedTo c_zoneSets c_places c_notices c_news) (wX3 E adc c_switches c_hosts c_renewing c_priorities c_names c_wants c_blocks c_upTo c_clashedTo c_zoneSets c_places c_notices c_news) (some (.int z)) := by
  refine Cn.ofW (by decide +kernel) (Nat.le_of_ble_eq_true rfl) ?_
  intro p e s m args below meth c ls hC hN hl
  obtain ⟨z0, hz0⟩ : ∃ y, y = z := ⟨_, rfl⟩
  rw [← hz0] at h ⊢
  clear hz0
  have hl : lv_has ls 4 [(0, .ref (adc 0)), (1, .int p1)] := hl
  have hx := hC.1
  have hb := hC.2.1
  unfold fX3_principalOf at h
  refine lv_bipush (v := -9) hx hb dX3_principalOf_0 (by decide) ?_
  refine lv_istore_n (lv' := [(2, .int (-9)), (0, .ref (adc 0)), (1, .int p1)]) hx hb dX3_principalOf_2 rfl hl (by decide) rfl (fun ls hl => ?_)
  refine lv_iconst (v := 0) hx hb dX3_principalOf_3 rfl ?_
  refine lv_istore_n (lv' := [(3, .int 0), (2, .int (-9)), (0, .ref (adc 0)), (1, .int p1)]) hx hb dX3_principalOf_4 rfl hl (by decide) rfl (fun ls hl => ?_)
  have L1 : ∀ (fu : Nat) (v2_1 : Int32) (v3_2 : Int32) (z : Int32 × Int32) (H : Heap) (locs : List Loc) (ls : Array Slot), Nw E s (AD (wX3 E adc c_switches c_hosts c_renewing c_priorities c_names c_wants c_blocks c_upTo c_clashedTo c_zoneSets c_places c_notices c_news)) (wX3 E adc c_switches c_hosts c_renewing c_priorities c_names c_wants c_blocks c_upTo c_clashedTo c_zoneSets c_places c_notices c_news) H locs → lv_has ls 4 [(0, .ref (adc 0)), (1, .int p1), (2, .int v2_1), (3, .int v3_2)] → fX3_principalOf_L1 c_switches c_priorities c_names p1 fu v2_1 v3_2 = some z → (∀ (H : Heap) (locs : List Loc) (ls : Array Slot), Nw E s (AD (wX3 E adc c_switches c_hosts c_renewing c_priorities c_names c_wants c_blocks c_upTo c_clashedTo c_zoneSets c_places c_notices c_news)) (wX3 E adc c_switches c_hosts c_renewing c_priorities c_names c_wants c_blocks c_upTo c_clashedTo c_zoneSets c_places c_notices c_news) H locs → lv_has ls 4 [(0, .ref (adc 0)), (1, .int p1), (2, .int z.1), (3, .int z.2)] → WN p l e 3 64 s m args below meth c E (wX3 E adc c_switches c_hosts c_renewing c_priorities c_names c_wants c_blocks c_upTo c_clashedTo c_zoneSets c_places c_notices c_news) (some (.int z0)) (wX3 E adc c_switches c_hosts c_renewing c_priorities c_names c_wants c_blocks c_upTo c_clashedTo c_zoneSets c_places c_notices c_news) H locs (F0 m 44 ls [])) → WN p l e 3 64 s m args below meth c E (wX3 E adc c_switches c_hosts c_renewing c_priorities c_names c_wants c_blocks c_upTo c_clashedTo c_zoneSets c_places c_notices c_news) (some (.int z0)) (wX3 E adc c_switches c_hosts c_renewing c_priorities c_names c_wants c_blocks c_upTo c_clashedTo c_zoneSets c_places c_notices c_news) H locs (F0 m 5 ls []) := by
    intro fu
    induction fu with
    | zero =>
      intro v2_1 v3_2 z H locs ls hN hl h K
      cases (show (none : Option (Int32 × Int32)) = some z from h)
    | succ fu ih =>
      intro v2_1 v3_2 z H locs ls hN hl h K
      rw [fX3_principalOf_L1.eq_2] at h
      refine lv_iload_n hx hb dX3_principalOf_5 rfl (lv_at hl 3 rfl) ?_
      refine lv_aload_n hx hb dX3_principalOf_6 rfl (lv_at hl 0 rfl) ?_
      refine gt_X3_switches hC hN 0 rfl rfl dX3_principalOf_7 ?_
      refine lv_icmp_ge (tgt := 44) hx hb dX3_principalOf_10 (by decide) (fun c3 => ?_) (fun c3 => ?_)
      · have h := if_t h c3
        obtain rfl := Option.some.inj h
        exact K _ _ _ hN (lv_sub hl [0, 1, 2, 3] rfl)
      · have h := if_f h c3
        refine lv_iload_n hx hb dX3_principalOf_13 rfl (lv_at hl 1 rfl) ?_
        refine lv_iload_n hx hb dX3_principalOf_14 rfl (lv_at hl 3 rfl) ?_
        obtain ⟨r_4, hr_4, h⟩ := bi_e h
        refine n_callSNi (ws' := wX3 E adc c_switches c_hosts c_renewing c_priorities c_names c_wants c_blocks c_upTo c_clashedTo c_zoneSets c_places c_notices c_news) hC hN (tX7_has l E p1 v3_2 r_4 hr_4) cy_X7_has (List.mem_of_getElem? (i := 8) rfl) mST_X7_has (perm_nil _) (perm_nil _) rfl rfl hl.1 rfl (Nat.le_of_ble_eq_true rfl) dX3_principalOf_15 ⟨Nat.le_of_ble_eq_true rfl, Nat.le_of_ble_eq_true rfl⟩ ⟨Nat.le_refl _, Nat.le_refl _⟩ (fun H locs hN => ?_)
        refine lv_if_eq (tgt := 38) hx hb dX3_principalOf_18 (by decide) (fun c5 => ?_) (fun c5 => ?_)
        · have h := if_t h c5
          obtain ⟨v3_6, ev3_6⟩ : ∃ y : Int32, y = v3_2 + 1 := ⟨_, rfl⟩
          have h := bd_e h v3_6 ev3_6
          refine lv_iinc (v := v3_6) (lv' := [(3, .int v3_6), (0, .ref (adc 0)), (1, .int p1), (2, .int v2_1)]) hx hb dX3_principalOf_38 hl (k := 3) rfl (by rw [ev3_6]; rfl) (by decide) rfl (fun ls hl => ?_)
          refine lv_goto (tgt := 5) hx hb dX3_principalOf_41 (by decide) ?_
          exact ih v2_1 v3_6 z _ _ _ hN (lv_sub hl [1, 2, 3, 0] rfl) h K
        · have h := if_f h c5
          refine lv_iload_n hx hb dX3_principalOf_21 rfl (lv_at hl 2 rfl) ?_
          refine lv_bipush (v := -9) hx hb dX3_principalOf_22 (by decide) ?_
          refine lv_icmp_eq (tgt := 36) hx hb dX3_principalOf_24 (by decide) (fun c7 => ?_) (fun c7 => ?_)
          · have h := if_t h c7
            refine lv_iload_n hx hb dX3_principalOf_36 rfl (lv_at hl 3 rfl) ?_
            refine lv_istore_n (lv' := [(2, .int v3_2), (0, .ref (adc 0)), (1, .int p1), (3, .int v3_2)]) hx hb dX3_principalOf_37 rfl hl (by decide) rfl (fun ls hl => ?_)
            obtain ⟨v3_8, ev3_8⟩ : ∃ y : Int32, y = v3_2 + 1 := ⟨_, rfl⟩
            have h := bd_e h v3_8 ev3_8
            refine lv_iinc (v := v3_8) (lv' := [(3, .int v3_8), (2, .int v3_2), (0, .ref (adc 0)), (1, .int p1)]) hx hb dX3_principalOf_38 hl (k := 3) rfl (by rw [ev3_8]; rfl) (by decide) rfl (fun ls hl => ?_)
            refine lv_goto (tgt := 5) hx hb dX3_principalOf_41 (by decide) ?_
            exact ih v3_2 v3_8 z _ _ _ hN (lv_sub hl [2, 3, 1, 0] rfl) h K
          · have h := if_f h c7
            refine lv_aload_n hx hb dX3_principalOf_27 rfl (lv_at hl 0 rfl) ?_
            refine lv_iload_n hx hb dX3_principalOf_28 rfl (lv_at hl 3 rfl) ?_
            refine lv_iload_n hx hb dX3_principalOf_29 rfl (lv_at hl 2 rfl) ?_
            obtain ⟨r_9, hr_9, h⟩ := bi_e h
            refine n_callVi (ws' := wX3 E adc c_switches c_hosts c_renewing c_priorities c_names c_wants c_blocks c_upTo c_clashedTo c_zoneSets c_places c_notices c_news) hC hN (tX3_goesAhead l E adc c_switches c_hosts c_renewing c_priorities c_names c_wants c_blocks c_upTo c_clashedTo c_zoneSets c_places c_notices c_news v3_2 v2_1 r_9 hr_9) cy_X3_goesAhead mML_X3_91 mIM_X3_goesAhead mSE_X3_goesAhead rfl rfl (k := 0) rfl (perm_self _) (perm_self _) rfl rfl hl.1 rfl (Nat.le_of_ble_eq_true rfl) dX3_principalOf_30 ⟨Nat.le_of_ble_eq_true rfl, Nat.le_of_ble_eq_true rfl⟩ ⟨Nat.le_refl _, Nat.le_refl _⟩ (fun H locs hN => ?_)
            refine lv_if_eq (tgt := 38) hx hb dX3_principalOf_33 (by decide) (fun c10 => ?_) (fun c10 => ?_)
            · have h := if_t h c10
              obtain ⟨v3_11, ev3_11⟩ : ∃ y : Int32, y = v3_2 + 1 := ⟨_, rfl⟩
              have h := bd_e h v3_11 ev3_11
              refine lv_iinc (v := v3_11) (lv' := [(3, .int v3_11), (0, .ref (adc 0)), (1, .int p1), (2, .int v2_1)]) hx hb dX3_principalOf_38 hl (k := 3) rfl (by rw [ev3_11]; rfl) (by decide) rfl (fun ls hl => ?_)
              refine lv_goto (tgt := 5) hx hb dX3_principalOf_41 (by decide) ?_
              exact ih v2_1 v3_11 z _ _ _ hN (lv_sub hl [1, 2, 3, 0] rfl) h K
            · have h := if_f h c10
              refine lv_iload_n hx hb dX3_principalOf_36 rfl (lv_at hl 3 rfl) ?_
              refine lv_istore_n (lv' := [(2, .int v3_2), (0, .ref (adc 0)), (1, .int p1), (3, .int v3_2)]) hx hb dX3_principalOf_37 rfl hl (by decide) rfl (fun ls hl => ?_)
              obtain ⟨v3_12, ev3_12⟩ : ∃ y : Int32, y = v3_2 + 1 := ⟨_, rfl⟩
              have h := bd_e h v3_12 ev3_12
              refine lv_iinc (v := v3_12) (lv' := [(3, .int v3_12), (2, .int v3_2), (0, .ref (adc 0)), (1, .int p1)]) hx hb dX3_principalOf_38 hl (k := 3) rfl (by rw [ev3_12]; rfl) (by decide) rfl (fun ls hl => ?_)
              refine lv_goto (tgt := 5) hx hb dX3_principalOf_41 (by decide) ?_
              exact ih v3_2 v3_12 z _ _ _ hN (lv_sub hl [2, 3, 1, 0] rfl) h K
  obtain ⟨z_13, hz_13, h⟩ := bi_e h
  refine L1 500 (-9) 0 z_13 _ _ _ hN (lv_sub hl [2, 3, 1, 0] rfl) hz_13 (fun H locs ls hN hl => ?_)
  refine lv_iload_n hx hb dX3_principalOf_44 rfl (lv_at hl 2 rfl) ?_
  obtain rfl := Option.some.inj h
  exact n_iret hC hN dX3_principalOf_45
set_option maxHeartbeats 4000000 in
set_option maxRecDepth 100000 in
theorem tX3_farOf (l : Launch) (E : EV) (adc : Nat → Nat) (c_switches : Int32) (c_hosts : Int32) (c_renewing : Int32) (c_priorities : Nat → Int32) (c_names : Nat → Int32) (c_wants : Nat → Int32) (c_blocks : Nat → Int32) (c_upTo : Nat → Int32) (c_clashedTo : Nat → Int32) (c_zoneSets : Nat → Int32) (c_places : Nat → Int32) (c_notices : Nat → Int32) (c_news : Nat → Int32) (p1 : Int32) (z : Int32) (h : fX3_farOf c_switches c_priorities c_names c_upTo p1 = some z) : Cn l E yX3_farOf cX3_farOf 4 (some .int) 4 87 [.ref (adc 0), .int p1] (wX3 E adc c_switches c_hosts c_renewing c_priorities c_names c_wants c_blocks c_upTo c_clashedTo c_zoneSets c_places c_notices c_news) (wX3 E adc c_switches c_hosts c_renewing c_priorities c_names c_wants c_blocks c_upTo c_clashedTo c_zoneSets c_places c_notices c_news) (some (.int z)) := by
  refine Cn.ofW (by decide +kernel) (Nat.le_of_ble_eq_true rfl) ?_
  intro p e s m args below meth c ls hC hN hl
  obtain ⟨z0, hz0⟩ : ∃ y, y = z := ⟨_, rfl⟩
  rw [← hz0] at h ⊢
  clear hz0
  have hl : lv_has ls 4 [(0, .ref (adc 0)), (1, .int p1)] := hl
  have hx := hC.1
  have hb := hC.2.1
  unfold fX3_farOf at h
  refine lv_iconst (v := 1) hx hb dX3_farOf_0 rfl ?_
  refine lv_aload_n hx hb dX3_farOf_1 rfl (lv_at hl 0 rfl) ?_
  refine lv_aload_n hx hb dX3_farOf_2 rfl (lv_at hl 0 rfl) ?_
  refine lv_iload_n hx hb dX3_farOf_3 rfl (lv_at hl 1 rfl) ?_
  obtain ⟨r_1, hr_1, h⟩ := bi_e h
  refine n_callVi (ws' := wX3 E adc c_switches c_hosts c_renewing c_priorities c_names c_wants c_blocks c_upTo c_clashedTo c_zoneSets c_places c_notices c_news) hC hN (tX3_fabricOf l E adc c_switches c_hosts c_renewing c_priorities c_names c_wants c_blocks c_upTo c_clashedTo c_zoneSets c_places c_notices c_news p1 r_1 hr_1) cy_X3_fabricOf mML_X3_88 mIM_X3_fabricOf mSE_X3_fabricOf rfl rfl (k := 0) rfl (perm_self _) (perm_self _) rfl rfl hl.1 rfl (Nat.le_of_ble_eq_true rfl) dX3_farOf_4 ⟨Nat.le_of_ble_eq_true rfl, Nat.le_of_ble_eq_true rfl⟩ ⟨Nat.le_refl _, Nat.le_refl _⟩ (fun H locs hN => ?_)
  obtain ⟨r_2, hr_2, h⟩ := bi_e h
  refine n_callVi (ws' := wX3 E adc c_switches c_hosts c_renewing c_priorities c_names c_wants c_blocks c_upTo c_clashedTo c_zoneSets c_places c_notices c_news) hC hN (tX3_principalOf l E adc c_switches c_hosts c_renewing c_priorities c_names c_wants c_blocks c_upTo c_clashedTo c_zoneSets c_places c_notices c_news r_1 r_2 hr_2) cy_X3_principalOf mML_X3_100 mIM_X3_principalOf mSE_X3_principalOf rfl rfl (k := 0) rfl (perm_self _) (perm_self _) rfl rfl hl.1 rfl (Nat.le_of_ble_eq_true rfl) dX3_farOf_7 ⟨Nat.le_of_ble_eq_true rfl, Nat.le_of_ble_eq_true rfl⟩ ⟨Nat.le_refl _, Nat.le_refl _⟩ (fun H locs hN => ?_)
  refine lv_ishl hx hb dX3_farOf_10 ?_
  refine lv_topi (fun v2_3 ev2_3 => ?_)
  have h := bd_e h v2_3 ev2_3
  refine lv_istore_n (lv' := [(2, .int v2_3), (0, .ref (adc 0)), (1, .int p1)]) hx hb dX3_farOf_11 rfl hl (by decide) rfl (fun ls hl => ?_)
  refine lv_iconst (v := 0) hx hb dX3_farOf_12 rfl ?_
  refine lv_istore_n (lv' := [(3, .int 0), (2, .int v2_3), (0, .ref (adc 0)), (1, .int p1)]) hx hb dX3_farOf_13 rfl hl (by decide) rfl (fun ls hl => ?_)
  have L1 : ∀ (fu : Nat) (v2_4 : Int32) (v3_5 : Int32) (z : Int32 × Int32) (H : Heap) (locs : List Loc) (ls : Array Slot), Nw E s (AD (wX3 E adc c_switches c_hosts c_renewing c_priorities c_names c_wants c_blocks c_upTo c_clashedTo c_zoneSets c_places c_notices c_news)) (wX3 E adc c_switches c_hosts c_renewing c_priorities c_names c_wants c_blocks c_upTo c_clashedTo c_zoneSets c_places c_notices c_news) H locs → lv_has ls 4 [(0, .ref (adc 0)), (1, .int p1), (2, .int v2_4), (3, .int v3_5)] → fX3_farOf_L1 c_switches c_upTo p1 fu v2_4 v3_5 = some z → (∀ (H : Heap) (locs : List Loc) (ls : Array Slot), Nw E s (AD (wX3 E adc c_switches c_hosts c_renewing c_priorities c_names c_wants c_blocks c_upTo c_clashedTo c_zoneSets c_places c_notices c_news)) (wX3 E adc c_switches c_hosts c_renewing c_priorities c_names c_wants c_blocks c_upTo c_clashedTo c_zoneSets c_places c_notices c_news) H locs → lv_has ls 4 [(0, .ref (adc 0)), (1, .int p1), (2, .int z.1), (3, .int z.2)] → WN p l e 4 87 s m args below meth c E (wX3 E adc c_switches c_hosts c_renewing c_priorities c_names c_wants c_blocks c_upTo c_clashedTo c_zoneSets c_places c_notices c_news) (some (.int z0)) (wX3 E adc c_switches c_hosts c_renewing c_priorities c_names c_wants c_blocks c_upTo c_clashedTo c_zoneSets c_places c_notices c_news) H locs (F0 m 42 ls [])) → WN p l e 4 87 s m args below meth c E (wX3 E adc c_switches c_hosts c_renewing c_priorities c_names c_wants c_blocks c_upTo c_clashedTo c_zoneSets c_places c_notices c_news) (some (.int z0)) (wX3 E adc c_switches c_hosts c_renewing c_priorities c_names c_wants c_blocks c_upTo c_clashedTo c_zoneSets c_places c_notices c_news) H locs (F0 m 14 ls []) := by
    intro fu
    induction fu with
    | zero =>
      intro v2_4 v3_5 z H locs ls hN hl h K
      cases (show (none : Option (Int32 × Int32)) = some z from h)
    | succ fu ih =>
      intro v2_4 v3_5 z H locs ls hN hl h K
      rw [fX3_farOf_L1.eq_2] at h
      refine lv_iload_n hx hb dX3_farOf_14 rfl (lv_at hl 3 rfl) ?_
      refine lv_aload_n hx hb dX3_farOf_15 rfl (lv_at hl 0 rfl) ?_
      refine gt_X3_switches hC hN 0 rfl rfl dX3_farOf_16 ?_
      refine lv_icmp_ge (tgt := 42) hx hb dX3_farOf_19 (by decide) (fun c6 => ?_) (fun c6 => ?_)
      · have h := if_t h c6
        obtain rfl := Option.some.inj h
        exact K _ _ _ hN (lv_sub hl [0, 1, 2, 3] rfl)
      · have h := if_f h c6
        refine lv_iload_n hx hb dX3_farOf_22 rfl (lv_at hl 2 rfl) ?_
        refine lv_iload_n hx hb dX3_farOf_23 rfl (lv_at hl 1 rfl) ?_
        obtain ⟨r_7, hr_7, h⟩ := bi_e h
        refine n_callSNi (ws' := wX3 E adc c_switches c_hosts c_renewing c_priorities c_names c_wants c_blocks c_upTo c_clashedTo c_zoneSets c_places c_notices c_news) hC hN (tX7_has l E v2_4 p1 r_7 hr_7) cy_X7_has (List.mem_of_getElem? (i := 8) rfl) mST_X7_has (perm_nil _) (perm_nil _) rfl rfl hl.1 rfl (Nat.le_of_ble_eq_true rfl) dX3_farOf_24 ⟨Nat.le_of_ble_eq_true rfl, Nat.le_of_ble_eq_true rfl⟩ ⟨Nat.le_refl _, Nat.le_refl _⟩ (fun H locs hN => ?_)
        refine lv_if_ne (tgt := 42) hx hb dX3_farOf_27 (by decide) (fun c8 => ?_) (fun c8 => ?_)
        · have h := if_f h c8
          obtain rfl := Option.some.inj h
          exact K _ _ _ hN (lv_sub hl [0, 1, 2, 3] rfl)
        · have h := if_t h c8
          refine lv_aload_n hx hb dX3_farOf_30 rfl (lv_at hl 0 rfl) ?_
          refine lv_iload_n hx hb dX3_farOf_31 rfl (lv_at hl 2 rfl) ?_
          obtain ⟨r_9, hr_9, h⟩ := bi_e h
          refine n_callVi (ws' := wX3 E adc c_switches c_hosts c_renewing c_priorities c_names c_wants c_blocks c_upTo c_clashedTo c_zoneSets c_places c_notices c_news) hC hN (tX3_spread l E adc c_switches c_hosts c_renewing c_priorities c_names c_wants c_blocks c_upTo c_clashedTo c_zoneSets c_places c_notices c_news v2_4 r_9 hr_9) cy_X3_spread mML_X3_85 mIM_X3_spread mSE_X3_spread rfl rfl (k := 0) rfl (perm_self _) (perm_self _) rfl rfl hl.1 rfl (Nat.le_of_ble_eq_true rfl) dX3_farOf_32 ⟨Nat.le_of_ble_eq_true rfl, Nat.le_of_ble_eq_true rfl⟩ ⟨Nat.le_refl _, Nat.le_refl _⟩ (fun H locs hN => ?_)
          refine lv_istore_n (lv' := [(2, .int r_9), (0, .ref (adc 0)), (1, .int p1), (3, .int v3_5)]) hx hb dX3_farOf_35 rfl hl (by decide) rfl (fun ls hl => ?_)
          obtain ⟨v3_10, ev3_10⟩ : ∃ y : Int32, y = v3_5 + 1 := ⟨_, rfl⟩
          have h := bd_e h v3_10 ev3_10
          refine lv_iinc (v := v3_10) (lv' := [(3, .int v3_10), (2, .int r_9), (0, .ref (adc 0)), (1, .int p1)]) hx hb dX3_farOf_36 hl (k := 3) rfl (by rw [ev3_10]; rfl) (by decide) rfl (fun ls hl => ?_)
          refine lv_goto (tgt := 14) hx hb dX3_farOf_39 (by decide) ?_
          exact ih r_9 v3_10 z _ _ _ hN (lv_sub hl [2, 3, 1, 0] rfl) h K
  obtain ⟨z_11, hz_11, h⟩ := bi_e h
  refine L1 500 v2_3 0 z_11 _ _ _ hN (lv_sub hl [2, 3, 1, 0] rfl) hz_11 (fun H locs ls hN hl => ?_)
  refine lv_iload_n hx hb dX3_farOf_42 rfl (lv_at hl 3 rfl) ?_
  obtain rfl := Option.some.inj h
  exact n_iret hC hN dX3_farOf_43
set_option maxHeartbeats 4000000 in
set_option maxRecDepth 100000 in
theorem tX3_lowestNameOf (l : Launch) (E : EV) (adc : Nat → Nat) (c_switches : Int32) (c_hosts : Int32) (c_renewing : Int32) (c_priorities : Nat → Int32) (c_names : Nat → Int32) (c_wants : Nat → Int32) (c_blocks : Nat → Int32) (c_upTo : Nat → Int32) (c_clashedTo : Nat → Int32) (c_zoneSets : Nat → Int32) (c_places : Nat → Int32) (c_notices : Nat → Int32) (c_news : Nat → Int32) (p1 : Int32) (z : Int32) (h : fX3_lowestNameOf c_switches c_names p1 = some z) : Cn l E yX3_lowestNameOf cX3_lowestNameOf 4 (some .int) 2 42 [.ref (adc 0), .int p1] (wX3 E adc c_switches c_hosts c_renewing c_priorities c_names c_wants c_blocks c_upTo c_clashedTo c_zoneSets c_places c_notices c_news) (wX3 E adc c_switches c_hosts c_renewing c_priorities c_names c_wants c_blocks c_upTo c_clashedTo c_zoneSets c_places c_notices c_news) (some (.int z)) := by
  refine Cn.ofW (by decide +kernel) (Nat.le_of_ble_eq_true rfl) ?_
  intro p e s m args below meth c ls hC hN hl
  obtain ⟨z0, hz0⟩ : ∃ y, y = z := ⟨_, rfl⟩
  rw [← hz0] at h ⊢
  clear hz0
  have hl : lv_has ls 4 [(0, .ref (adc 0)), (1, .int p1)] := hl
  have hx := hC.1
  have hb := hC.2.1
  unfold fX3_lowestNameOf at h
  refine lv_bipush (v := -9) hx hb dX3_lowestNameOf_0 (by decide) ?_
  refine lv_istore_n (lv' := [(2, .int (-9)), (0, .ref (adc 0)), (1, .int p1)]) hx hb dX3_lowestNameOf_2 rfl hl (by decide) rfl (fun ls hl => ?_)
  refine lv_iconst (v := 0) hx hb dX3_lowestNameOf_3 rfl ?_
  refine lv_istore_n (lv' := [(3, .int 0), (2, .int (-9)), (0, .ref (adc 0)), (1, .int p1)]) hx hb dX3_lowestNameOf_4 rfl hl (by decide) rfl (fun ls hl => ?_)
  have L1 : ∀ (fu : Nat) (v2_1 : Int32) (v3_2 : Int32) (z : Int32 × Int32) (H : Heap) (locs : List Loc) (ls : Array Slot), Nw E s (AD (wX3 E adc c_switches c_hosts c_renewing c_priorities c_names c_wants c_blocks c_upTo c_clashedTo c_zoneSets c_places c_notices c_news)) (wX3 E adc c_switches c_hosts c_renewing c_priorities c_names c_wants c_blocks c_upTo c_clashedTo c_zoneSets c_places c_notices c_news) H locs → lv_has ls 4 [(0, .ref (adc 0)), (1, .int p1), (2, .int v2_1), (3, .int v3_2)] → fX3_lowestNameOf_L1 c_switches c_names p1 fu v2_1 v3_2 = some z → (∀ (H : Heap) (locs : List Loc) (ls : Array Slot), Nw E s (AD (wX3 E adc c_switches c_hosts c_renewing c_priorities c_names c_wants c_blocks c_upTo c_clashedTo c_zoneSets c_places c_notices c_news)) (wX3 E adc c_switches c_hosts c_renewing c_priorities c_names c_wants c_blocks c_upTo c_clashedTo c_zoneSets c_places c_notices c_news) H locs → lv_has ls 4 [(0, .ref (adc 0)), (1, .int p1), (2, .int z.1), (3, .int z.2)] → WN p l e 2 42 s m args below meth c E (wX3 E adc c_switches c_hosts c_renewing c_priorities c_names c_wants c_blocks c_upTo c_clashedTo c_zoneSets c_places c_notices c_news) (some (.int z0)) (wX3 E adc c_switches c_hosts c_renewing c_priorities c_names c_wants c_blocks c_upTo c_clashedTo c_zoneSets c_places c_notices c_news) H locs (F0 m 49 ls [])) → WN p l e 2 42 s m args below meth c E (wX3 E adc c_switches c_hosts c_renewing c_priorities c_names c_wants c_blocks c_upTo c_clashedTo c_zoneSets c_places c_notices c_news) (some (.int z0)) (wX3 E adc c_switches c_hosts c_renewing c_priorities c_names c_wants c_blocks c_upTo c_clashedTo c_zoneSets c_places c_notices c_news) H locs (F0 m 5 ls []) := by
    intro fu
    induction fu with
    | zero =>
      intro v2_1 v3_2 z H locs ls hN hl h K
      cases (show (none : Option (Int32 × Int32)) = some z from h)
    | succ fu ih =>
      intro v2_1 v3_2 z H locs ls hN hl h K
      rw [fX3_lowestNameOf_L1.eq_2] at h
      refine lv_iload_n hx hb dX3_lowestNameOf_5 rfl (lv_at hl 3 rfl) ?_
      refine lv_aload_n hx hb dX3_lowestNameOf_6 rfl (lv_at hl 0 rfl) ?_
      refine gt_X3_switches hC hN 0 rfl rfl dX3_lowestNameOf_7 ?_
      refine lv_icmp_ge (tgt := 49) hx hb dX3_lowestNameOf_10 (by decide) (fun c3 => ?_) (fun c3 => ?_)
      · have h := if_t h c3
        obtain rfl := Option.some.inj h
        exact K _ _ _ hN (lv_sub hl [0, 1, 2, 3] rfl)
      · have h := if_f h c3
        refine lv_iload_n hx hb dX3_lowestNameOf_13 rfl (lv_at hl 1 rfl) ?_
        refine lv_iload_n hx hb dX3_lowestNameOf_14 rfl (lv_at hl 3 rfl) ?_
        obtain ⟨r_4, hr_4, h⟩ := bi_e h
        refine n_callSNi (ws' := wX3 E adc c_switches c_hosts c_renewing c_priorities c_names c_wants c_blocks c_upTo c_clashedTo c_zoneSets c_places c_notices c_news) hC hN (tX7_has l E p1 v3_2 r_4 hr_4) cy_X7_has (List.mem_of_getElem? (i := 8) rfl) mST_X7_has (perm_nil _) (perm_nil _) rfl rfl hl.1 rfl (Nat.le_of_ble_eq_true rfl) dX3_lowestNameOf_15 ⟨Nat.le_of_ble_eq_true rfl, Nat.le_of_ble_eq_true rfl⟩ ⟨Nat.le_refl _, Nat.le_refl _⟩ (fun H locs hN => ?_)
        refine lv_if_eq (tgt := 43) hx hb dX3_lowestNameOf_18 (by decide) (fun c5 => ?_) (fun c5 => ?_)
        · have h := if_t h c5
          obtain ⟨v3_6, ev3_6⟩ : ∃ y : Int32, y = v3_2 + 1 := ⟨_, rfl⟩
          have h := bd_e h v3_6 ev3_6
          refine lv_iinc (v := v3_6) (lv' := [(3, .int v3_6), (0, .ref (adc 0)), (1, .int p1), (2, .int v2_1)]) hx hb dX3_lowestNameOf_43 hl (k := 3) rfl (by rw [ev3_6]; rfl) (by decide) rfl (fun ls hl => ?_)
          refine lv_goto (tgt := 5) hx hb dX3_lowestNameOf_46 (by decide) ?_
          exact ih v2_1 v3_6 z _ _ _ hN (lv_sub hl [1, 2, 3, 0] rfl) h K
        · have h := if_f h c5
          refine lv_iload_n hx hb dX3_lowestNameOf_21 rfl (lv_at hl 2 rfl) ?_
          refine lv_bipush (v := -9) hx hb dX3_lowestNameOf_22 (by decide) ?_
          refine lv_icmp_eq (tgt := 41) hx hb dX3_lowestNameOf_24 (by decide) (fun c7 => ?_) (fun c7 => ?_)
          · have h := if_t h c7
            refine lv_iload_n hx hb dX3_lowestNameOf_41 rfl (lv_at hl 3 rfl) ?_
            refine lv_istore_n (lv' := [(2, .int v3_2), (0, .ref (adc 0)), (1, .int p1), (3, .int v3_2)]) hx hb dX3_lowestNameOf_42 rfl hl (by decide) rfl (fun ls hl => ?_)
            obtain ⟨v3_8, ev3_8⟩ : ∃ y : Int32, y = v3_2 + 1 := ⟨_, rfl⟩
            have h := bd_e h v3_8 ev3_8
            refine lv_iinc (v := v3_8) (lv' := [(3, .int v3_8), (2, .int v3_2), (0, .ref (adc 0)), (1, .int p1)]) hx hb dX3_lowestNameOf_43 hl (k := 3) rfl (by rw [ev3_8]; rfl) (by decide) rfl (fun ls hl => ?_)
            refine lv_goto (tgt := 5) hx hb dX3_lowestNameOf_46 (by decide) ?_
            exact ih v3_2 v3_8 z _ _ _ hN (lv_sub hl [2, 3, 1, 0] rfl) h K
          · have h := if_f h c7
            refine lv_aload_n hx hb dX3_lowestNameOf_27 rfl (lv_at hl 0 rfl) ?_
            refine gt_X3_names hC hN 0 rfl rfl dX3_lowestNameOf_28 ?_
            refine lv_iload_n hx hb dX3_lowestNameOf_31 rfl (lv_at hl 3 rfl) ?_
            have g := inB_vp (gd_c h)
            have h := gd_e h
            refine n_iald hC hN 2 rfl g dX3_lowestNameOf_32 ?_
            refine lv_aload_n hx hb dX3_lowestNameOf_33 rfl (lv_at hl 0 rfl) ?_
            refine lv_iload_n hx hb dX3_lowestNameOf_34 rfl (lv_at hl 2 rfl) ?_
            obtain ⟨r_9, hr_9, h⟩ := bi_e h
            refine n_callVi (ws' := wX3 E adc c_switches c_hosts c_renewing c_priorities c_names c_wants c_blocks c_upTo c_clashedTo c_zoneSets c_places c_notices c_news) hC hN (tX3_nameOf l E adc c_switches c_hosts c_renewing c_priorities c_names c_wants c_blocks c_upTo c_clashedTo c_zoneSets c_places c_notices c_news v2_1 r_9 hr_9) cy_X3_nameOf mML_X3_97 mIM_X3_nameOf mSE_X3_nameOf rfl rfl (k := 0) rfl (perm_self _) (perm_self _) rfl rfl hl.1 rfl (Nat.le_of_ble_eq_true rfl) dX3_lowestNameOf_35 ⟨Nat.le_of_ble_eq_true rfl, Nat.le_of_ble_eq_true rfl⟩ ⟨Nat.le_refl _, Nat.le_refl _⟩ (fun H locs hN => ?_)
            refine lv_icmp_ge (tgt := 43) hx hb dX3_lowestNameOf_38 (by decide) (fun c10 => ?_) (fun c10 => ?_)
            · have h := if_t h c10
              obtain ⟨v3_11, ev3_11⟩ : ∃ y : Int32, y = v3_2 + 1 := ⟨_, rfl⟩
              have h := bd_e h v3_11 ev3_11
              refine lv_iinc (v := v3_11) (lv' := [(3, .int v3_11), (0, .ref (adc 0)), (1, .int p1), (2, .int v2_1)]) hx hb dX3_lowestNameOf_43 hl (k := 3) rfl (by rw [ev3_11]; rfl) (by decide) rfl (fun ls hl => ?_)
              refine lv_goto (tgt := 5) hx hb dX3_lowestNameOf_46 (by decide) ?_
              exact ih v2_1 v3_11 z _ _ _ hN (lv_sub hl [1, 2, 3, 0] rfl) h K
            · have h := if_f h c10
              refine lv_iload_n hx hb dX3_lowestNameOf_41 rfl (lv_at hl 3 rfl) ?_
              refine lv_istore_n (lv' := [(2, .int v3_2), (0, .ref (adc 0)), (1, .int p1), (3, .int v3_2)]) hx hb dX3_lowestNameOf_42 rfl hl (by decide) rfl (fun ls hl => ?_)
              obtain ⟨v3_12, ev3_12⟩ : ∃ y : Int32, y = v3_2 + 1 := ⟨_, rfl⟩
              have h := bd_e h v3_12 ev3_12
              refine lv_iinc (v := v3_12) (lv' := [(3, .int v3_12), (2, .int v3_2), (0, .ref (adc 0)), (1, .int p1)]) hx hb dX3_lowestNameOf_43 hl (k := 3) rfl (by rw [ev3_12]; rfl) (by decide) rfl (fun ls hl => ?_)
              refine lv_goto (tgt := 5) hx hb dX3_lowestNameOf_46 (by decide) ?_
              exact ih v3_2 v3_12 z _ _ _ hN (lv_sub hl [2, 3, 1, 0] rfl) h K
  obtain ⟨z_13, hz_13, h⟩ := bi_e h
  refine L1 500 (-9) 0 z_13 _ _ _ hN (lv_sub hl [2, 3, 1, 0] rfl) hz_13 (fun H locs ls hN hl => ?_)
  refine lv_iload_n hx hb dX3_lowestNameOf_49 rfl (lv_at hl 2 rfl) ?_
  obtain rfl := Option.some.inj h
  exact n_iret hC hN dX3_lowestNameOf_50
set_option maxHeartbeats 4000000 in
set_option maxRecDepth 100000 in
theorem tX3_blockFor (l : Launch) (E : EV) (adc : Nat → Nat) (c_switches : Int32) (c_hosts : Int32) (c_renewing : Int32) (c_priorities : Nat → Int32) (c_names : Nat → Int32) (c_wants : Nat → Int32) (c_blocks : Nat → Int32) (c_upTo : Nat → Int32) (c_clashedTo : Nat → Int32) (c_zoneSets : Nat → Int32) (c_places : Nat → Int32) (c_notices : Nat → Int32) (c_news : Nat → Int32) (p1 : Int32) (p2 : Int32) (z : Int32) (h : fX3_blockFor c_switches c_wants p1 p2 = some z) : Cn l E yX3_blockFor cX3_blockFor 5 (some .int) 2 42 [.ref (adc 0), .int p1, .int p2] (wX3 E adc c_switches c_hosts c_renewing c_priorities c_names c_wants c_blocks c_upTo c_clashedTo c_zoneSets c_places c_notices c_news) (wX3 E adc c_switches c_hosts c_renewing c_priorities c_names c_wants c_blocks c_upTo c_clashedTo c_zoneSets c_places c_notices c_news) (some (.int z)) := by
  refine Cn.ofW (by decide +kernel) (Nat.le_of_ble_eq_true rfl) ?_
  intro p e s m args below meth c ls hC hN hl
  obtain ⟨z0, hz0⟩ : ∃ y, y = z := ⟨_, rfl⟩
  rw [← hz0] at h ⊢
  clear hz0
  have hl : lv_has ls 5 [(0, .ref (adc 0)), (1, .int p1), (2, .int p2)] := hl
  have hx := hC.1
  have hb := hC.2.1
  unfold fX3_blockFor at h
  refine lv_aload_n hx hb dX3_blockFor_0 rfl (lv_at hl 0 rfl) ?_
  refine lv_iload_n hx hb dX3_blockFor_1 rfl (lv_at hl 1 rfl) ?_
  obtain ⟨r_1, hr_1, h⟩ := bi_e h
  refine n_callVi (ws' := wX3 E adc c_switches c_hosts c_renewing c_priorities c_names c_wants c_blocks c_upTo c_clashedTo c_zoneSets c_places c_notices c_news) hC hN (tX3_wantOf l E adc c_switches c_hosts c_renewing c_priorities c_names c_wants c_blocks c_upTo c_clashedTo c_zoneSets c_places c_notices c_news p1 r_1 hr_1) cy_X3_wantOf mML_X3_116 mIM_X3_wantOf mSE_X3_wantOf rfl rfl (k := 0) rfl (perm_self _) (perm_self _) rfl rfl hl.1 rfl (Nat.le_of_ble_eq_true rfl) dX3_blockFor_2 ⟨Nat.le_of_ble_eq_true rfl, Nat.le_of_ble_eq_true rfl⟩ ⟨Nat.le_refl _, Nat.le_refl _⟩ (fun H locs hN => ?_)
  refine lv_istore_n (lv' := [(3, .int r_1), (0, .ref (adc 0)), (1, .int p1), (2, .int p2)]) hx hb dX3_blockFor_5 rfl hl (by decide) rfl (fun ls hl => ?_)
  refine lv_iload_n hx hb dX3_blockFor_6 rfl (lv_at hl 0 rfl) ?_
  refine lv_if_le (tgt := 20) hx hb dX3_blockFor_7 (by decide) (fun c2 => ?_) (fun c2 => ?_)
  · have h := if_t h c2
    refine lv_iconst (v := 1) hx hb dX3_blockFor_20 rfl ?_
    refine lv_istore (lv' := [(4, .int 1), (3, .int r_1), (0, .ref (adc 0)), (1, .int p1), (2, .int p2)]) hx hb dX3_blockFor_21 hl (by decide) rfl (fun ls hl => ?_)
    have L1 : ∀ (fu : Nat) (v4_3 : Int32) (z : Int32) (H : Heap) (locs : List Loc) (ls : Array Slot), Nw E s (AD (wX3 E adc c_switches c_hosts c_renewing c_priorities c_names c_wants c_blocks c_upTo c_clashedTo c_zoneSets c_places c_notices c_news)) (wX3 E adc c_switches c_hosts c_renewing c_priorities c_names c_wants c_blocks c_upTo c_clashedTo c_zoneSets c_places c_notices c_news) H locs → lv_has ls 5 [(0, .ref (adc 0)), (1, .int p1), (2, .int p2), (3, .int r_1), (4, .int v4_3)] → fX3_blockFor_L1 p2 fu v4_3 = some z → (∀ (H : Heap) (locs : List Loc) (ls : Array Slot), Nw E s (AD (wX3 E adc c_switches c_hosts c_renewing c_priorities c_names c_wants c_blocks c_upTo c_clashedTo c_zoneSets c_places c_notices c_news)) (wX3 E adc c_switches c_hosts c_renewing c_priorities c_names c_wants c_blocks c_upTo c_clashedTo c_zoneSets c_places c_notices c_news) H locs → lv_has ls 5 [(0, .ref (adc 0)), (1, .int p1), (2, .int p2), (3, .int r_1), (4, .int z)] → WN p l e 2 42 s m args below meth c E (wX3 E adc c_switches c_hosts c_renewing c_priorities c_names c_wants c_blocks c_upTo c_clashedTo c_zoneSets c_places c_notices c_news) (some (.int z0)) (wX3 E adc c_switches c_hosts c_renewing c_priorities c_names c_wants c_blocks c_upTo c_clashedTo c_zoneSets c_places c_notices c_news) H locs (F0 m 45 ls [])) → WN p l e 2 42 s m args below meth c E (wX3 E adc c_switches c_hosts c_renewing c_priorities c_names c_wants c_blocks c_upTo c_clashedTo c_zoneSets c_places c_notices c_news) (some (.int z0)) (wX3 E adc c_switches c_hosts c_renewing c_priorities c_names c_wants c_blocks c_upTo c_clashedTo c_zoneSets c_places c_notices c_news) H locs (F0 m 23 ls []) := by
      intro fu
      induction fu with
      | zero =>
        intro v4_3 z H locs ls hN hl h K
        cases (show (none : Option (Int32)) = some z from h)
      | succ fu ih =>
        intro v4_3 z H locs ls hN hl h K
        rw [fX3_blockFor_L1.eq_2] at h
        refine lv_iload hx hb dX3_blockFor_23 (lv_at hl 4 rfl) ?_
        refine lv_bipush (v := 8) hx hb dX3_blockFor_25 (by decide) ?_
        refine lv_icmp_ge (tgt := 45) hx hb dX3_blockFor_27 (by decide) (fun c4 => ?_) (fun c4 => ?_)
        · have h := if_t h c4
          obtain rfl := Option.some.inj h
          exact K _ _ _ hN (lv_sub hl [0, 1, 2, 3, 4] rfl)
        · have h := if_f h c4
          refine lv_iload_n hx hb dX3_blockFor_30 rfl (lv_at hl 2 rfl) ?_
          refine lv_iload hx hb dX3_blockFor_31 (lv_at hl 4 rfl) ?_
          obtain ⟨r_5, hr_5, h⟩ := bi_e h
          refine n_callSNi (ws' := wX3 E adc c_switches c_hosts c_renewing c_priorities c_names c_wants c_blocks c_upTo c_clashedTo c_zoneSets c_places c_notices c_news) hC hN (tX7_has l E p2 v4_3 r_5 hr_5) cy_X7_has (List.mem_of_getElem? (i := 8) rfl) mST_X7_has (perm_nil _) (perm_nil _) rfl rfl hl.1 rfl (Nat.le_of_ble_eq_true rfl) dX3_blockFor_33 ⟨Nat.le_of_ble_eq_true rfl, Nat.le_of_ble_eq_true rfl⟩ ⟨Nat.le_refl _, Nat.le_refl _⟩ (fun H locs hN => ?_)
          refine lv_if_eq (tgt := 45) hx hb dX3_blockFor_36 (by decide) (fun c6 => ?_) (fun c6 => ?_)
          · have h := if_t h c6
            obtain rfl := Option.some.inj h
            exact K _ _ _ hN (lv_sub hl [0, 1, 2, 3, 4] rfl)
          · have h := if_f h c6
            obtain ⟨v4_7, ev4_7⟩ : ∃ y : Int32, y = v4_3 + 1 := ⟨_, rfl⟩
            have h := bd_e h v4_7 ev4_7
            refine lv_iinc (v := v4_7) (lv' := [(4, .int v4_7), (0, .ref (adc 0)), (1, .int p1), (2, .int p2), (3, .int r_1)]) hx hb dX3_blockFor_39 hl (k := 4) rfl (by rw [ev4_7]; rfl) (by decide) rfl (fun ls hl => ?_)
            refine lv_goto (tgt := 23) hx hb dX3_blockFor_42 (by decide) ?_
            exact ih v4_7 z _ _ _ hN (lv_sub hl [1, 2, 3, 4, 0] rfl) h K
    obtain ⟨v4_8, hv4_8, h⟩ := bi_e h
    refine L1 500 1 v4_8 _ _ _ hN (lv_sub hl [2, 3, 4, 1, 0] rfl) hv4_8 (fun H locs ls hN hl => ?_)
    refine lv_iload hx hb dX3_blockFor_45 (lv_at hl 4 rfl) ?_
    obtain rfl := Option.some.inj h
    exact n_iret hC hN dX3_blockFor_47
  · have h := if_f h c2
    refine lv_iload_n hx hb dX3_blockFor_10 rfl (lv_at hl 3 rfl) ?_
    refine lv_iload_n hx hb dX3_blockFor_11 rfl (lv_at hl 0 rfl) ?_
    obtain ⟨r_9, hr_9, h⟩ := bi_e h
    refine n_callSNi (ws' := wX3 E adc c_switches c_hosts c_renewing c_priorities c_names c_wants c_blocks c_upTo c_clashedTo c_zoneSets c_places c_notices c_news) hC hN (tX7_has l E p2 r_1 r_9 hr_9) cy_X7_has (List.mem_of_getElem? (i := 8) rfl) mST_X7_has (perm_nil _) (perm_nil _) rfl rfl hl.1 rfl (Nat.le_of_ble_eq_true rfl) dX3_blockFor_12 ⟨Nat.le_of_ble_eq_true rfl, Nat.le_of_ble_eq_true rfl⟩ ⟨Nat.le_refl _, Nat.le_refl _⟩ (fun H locs hN => ?_)
    refine lv_if_ne (tgt := 20) hx hb dX3_blockFor_15 (by decide) (fun c10 => ?_) (fun c10 => ?_)
    · have h := if_f h c10
      refine lv_iconst (v := 1) hx hb dX3_blockFor_20 rfl ?_
      refine lv_istore (lv' := [(4, .int 1), (3, .int r_1), (0, .ref (adc 0)), (1, .int p1), (2, .int p2)]) hx hb dX3_blockFor_21 hl (by decide) rfl (fun ls hl => ?_)
      have L2 : ∀ (fu : Nat) (v4_11 : Int32) (z : Int32) (H : Heap) (locs : List Loc) (ls : Array Slot), Nw E s (AD (wX3 E adc c_switches c_hosts c_renewing c_priorities c_names c_wants c_blocks c_upTo c_clashedTo c_zoneSets c_places c_notices c_news)) (wX3 E adc c_switches c_hosts c_renewing c_priorities c_names c_wants c_blocks c_upTo c_clashedTo c_zoneSets c_places c_notices c_news) H locs → lv_has ls 5 [(0, .ref (adc 0)), (1, .int p1), (2, .int p2), (3, .int r_1), (4, .int v4_11)] → fX3_blockFor_L2 p2 fu v4_11 = some z → (∀ (H : Heap) (locs : List Loc) (ls : Array Slot), Nw E s (AD (wX3 E adc c_switches c_hosts c_renewing c_priorities c_names c_wants c_blocks c_upTo c_clashedTo c_zoneSets c_places c_notices c_news)) (wX3 E adc c_switches c_hosts c_renewing c_priorities c_names c_wants c_blocks c_upTo c_clashedTo c_zoneSets c_places c_notices c_news) H locs → lv_has ls 5 [(0, .ref (adc 0)), (1, .int p1), (2, .int p2), (3, .int r_1), (4, .int z)] → WN p l e 2 42 s m args below meth c E (wX3 E adc c_switches c_hosts c_renewing c_priorities c_names c_wants c_blocks c_upTo c_clashedTo c_zoneSets c_places c_notices c_news) (some (.int z0)) (wX3 E adc c_switches c_hosts c_renewing c_priorities c_names c_wants c_blocks c_upTo c_clashedTo c_zoneSets c_places c_notices c_news) H locs (F0 m 45 ls [])) → WN p l e 2 42 s m args below meth c E (wX3 E adc c_switches c_hosts c_renewing c_priorities c_names c_wants c_blocks c_upTo c_clashedTo c_zoneSets c_places c_notices c_news) (some (.int z0)) (wX3 E adc c_switches c_hosts c_renewing c_priorities c_names c_wants c_blocks c_upTo c_clashedTo c_zoneSets c_places c_notices c_news) H locs (F0 m 23 ls []) := by
        intro fu
        induction fu with
        | zero =>
          intro v4_11 z H locs ls hN hl h K
          cases (show (none : Option (Int32)) = some z from h)
        | succ fu ih =>
          intro v4_11 z H locs ls hN hl h K
          rw [fX3_blockFor_L2.eq_2] at h
          refine lv_iload hx hb dX3_blockFor_23 (lv_at hl 4 rfl) ?_
          refine lv_bipush (v := 8) hx hb dX3_blockFor_25 (by decide) ?_
          refine lv_icmp_ge (tgt := 45) hx hb dX3_blockFor_27 (by decide) (fun c12 => ?_) (fun c12 => ?_)
          · have h := if_t h c12
            obtain rfl := Option.some.inj h
            exact K _ _ _ hN (lv_sub hl [0, 1, 2, 3, 4] rfl)
          · have h := if_f h c12
            refine lv_iload_n hx hb dX3_blockFor_30 rfl (lv_at hl 2 rfl) ?_
            refine lv_iload hx hb dX3_blockFor_31 (lv_at hl 4 rfl) ?_
            obtain ⟨r_13, hr_13, h⟩ := bi_e h
            refine n_callSNi (ws' := wX3 E adc c_switches c_hosts c_renewing c_priorities c_names c_wants c_blocks c_upTo c_clashedTo c_zoneSets c_places c_notices c_news) hC hN (tX7_has l E p2 v4_11 r_13 hr_13) cy_X7_has (List.mem_of_getElem? (i := 8) rfl) mST_X7_has (perm_nil _) (perm_nil _) rfl rfl hl.1 rfl (Nat.le_of_ble_eq_true rfl) dX3_blockFor_33 ⟨Nat.le_of_ble_eq_true rfl, Nat.le_of_ble_eq_true rfl⟩ ⟨Nat.le_refl _, Nat.le_refl _⟩ (fun H locs hN => ?_)
            refine lv_if_eq (tgt := 45) hx hb dX3_blockFor_36 (by decide) (fun c14 => ?_) (fun c14 => ?_)
            · have h := if_t h c14
              obtain rfl := Option.some.inj h
              exact K _ _ _ hN (lv_sub hl [0, 1, 2, 3, 4] rfl)
            · have h := if_f h c14
              obtain ⟨v4_15, ev4_15⟩ : ∃ y : Int32, y = v4_11 + 1 := ⟨_, rfl⟩
              have h := bd_e h v4_15 ev4_15
              refine lv_iinc (v := v4_15) (lv' := [(4, .int v4_15), (0, .ref (adc 0)), (1, .int p1), (2, .int p2), (3, .int r_1)]) hx hb dX3_blockFor_39 hl (k := 4) rfl (by rw [ev4_15]; rfl) (by decide) rfl (fun ls hl => ?_)
              refine lv_goto (tgt := 23) hx hb dX3_blockFor_42 (by decide) ?_
              exact ih v4_15 z _ _ _ hN (lv_sub hl [1, 2, 3, 4, 0] rfl) h K
      obtain ⟨v4_16, hv4_16, h⟩ := bi_e h
      refine L2 500 1 v4_16 _ _ _ hN (lv_sub hl [2, 3, 4, 1, 0] rfl) hv4_16 (fun H locs ls hN hl => ?_)
      refine lv_iload hx hb dX3_blockFor_45 (lv_at hl 4 rfl) ?_
      obtain rfl := Option.some.inj h
      exact n_iret hC hN dX3_blockFor_47
    · have h := if_t h c10
      refine lv_iload_n hx hb dX3_blockFor_18 rfl (lv_at hl 0 rfl) ?_
      obtain rfl := Option.some.inj h
      exact n_iret hC hN dX3_blockFor_19
set_option maxHeartbeats 4000000 in
set_option maxRecDepth 100000 in
theorem tX3_setBlock (l : Launch) (E : EV) (adc : Nat → Nat) (c_switches : Int32) (c_hosts : Int32) (c_renewing : Int32) (c_priorities : Nat → Int32) (c_names : Nat → Int32) (c_wants : Nat → Int32) (c_blocks : Nat → Int32) (c_upTo : Nat → Int32) (c_clashedTo : Nat → Int32) (c_zoneSets : Nat → Int32) (c_places : Nat → Int32) (c_notices : Nat → Int32) (c_news : Nat → Int32) (p1 : Int32) (p2 : Int32) (z : Nat → Int32) (h : fX3_setBlock c_switches c_blocks p1 p2 = some z) : Cn l E yX3_setBlock cX3_setBlock 3 none 1 21 [.ref (adc 0), .int p1, .int p2] (wX3 E adc c_switches c_hosts c_renewing c_priorities c_names c_wants c_blocks c_upTo c_clashedTo c_zoneSets c_places c_notices c_news) (wX3 E adc c_switches c_hosts c_renewing c_priorities c_names c_wants z c_upTo c_clashedTo c_zoneSets c_places c_notices c_news) (none) := by
  refine Cn.ofW (by decide +kernel) (Nat.le_of_ble_eq_true rfl) ?_
  intro p e s m args below meth c ls hC hN hl
  have hl : lv_has ls 3 [(0, .ref (adc 0)), (1, .int p1), (2, .int p2)] := hl
  have hx := hC.1
  have hb := hC.2.1
  unfold fX3_setBlock at h
  refine lv_aload_n hx hb dX3_setBlock_0 rfl (lv_at hl 0 rfl) ?_
  refine lv_iload_n hx hb dX3_setBlock_1 rfl (lv_at hl 1 rfl) ?_
  obtain ⟨r_1, hr_1, h⟩ := bi_e h
  refine n_callVi (ws' := wX3 E adc c_switches c_hosts c_renewing c_priorities c_names c_wants c_blocks c_upTo c_clashedTo c_zoneSets c_places c_notices c_news) hC hN (tX3_hasSwitch l E adc c_switches c_hosts c_renewing c_priorities c_names c_wants c_blocks c_upTo c_clashedTo c_zoneSets c_places c_notices c_news p1 r_1 hr_1) cy_X3_hasSwitch mML_X3_57 mIM_X3_hasSwitch mSE_X3_hasSwitch rfl rfl (k := 0) rfl (perm_self _) (perm_self _) rfl rfl hl.1 rfl (Nat.le_of_ble_eq_true rfl) dX3_setBlock_2 ⟨Nat.le_of_ble_eq_true rfl, Nat.le_of_ble_eq_true rfl⟩ ⟨Nat.le_refl _, Nat.le_refl _⟩ (fun H locs hN => ?_)
  refine lv_if_eq (tgt := 15) hx hb dX3_setBlock_5 (by decide) (fun c2 => ?_) (fun c2 => ?_)
  · have h := if_t h c2
    obtain rfl := Option.some.inj h
    exact n_vret hC hN dX3_setBlock_15
  · have h := if_f h c2
    refine lv_aload_n hx hb dX3_setBlock_8 rfl (lv_at hl 0 rfl) ?_
    refine gt_X3_blocks hC hN 0 rfl rfl dX3_setBlock_9 ?_
    refine lv_iload_n hx hb dX3_setBlock_12 rfl (lv_at hl 1 rfl) ?_
    refine lv_iload_n hx hb dX3_setBlock_13 rfl (lv_at hl 2 rfl) ?_
    have g := inB_vp (gd_c h)
    have h := gd_e h
    obtain ⟨c_blocks_3, ec_blocks_3⟩ : ∃ y : Nat → Int32, y = upd c_blocks p1.toNatClampNeg p2 := ⟨_, rfl⟩
    have h := bd_e h c_blocks_3 ec_blocks_3
    refine n_iast hC hN 4 rfl g ec_blocks_3 (ws' := wX3 E adc c_switches c_hosts c_renewing c_priorities c_names c_wants c_blocks_3 c_upTo c_clashedTo c_zoneSets c_places c_notices c_news) rfl dX3_setBlock_14 (fun H locs hN => ?_)
    obtain rfl := Option.some.inj h
    exact n_vret hC hN dX3_setBlock_15
set_option maxHeartbeats 4000000 in
set_option maxRecDepth 100000 in
theorem tX3_handOut (l : Launch) (E : EV) (adc : Nat → Nat) (c_switches : Int32) (c_hosts : Int32) (c_renewing : Int32) (c_priorities : Nat → Int32) (c_names : Nat → Int32) (c_wants : Nat → Int32) (c_blocks : Nat → Int32) (c_upTo : Nat → Int32) (c_clashedTo : Nat → Int32) (c_zoneSets : Nat → Int32) (c_places : Nat → Int32) (c_notices : Nat → Int32) (c_news : Nat → Int32) (p1 : Int32) (z : Int32 × (Nat → Int32)) (h : fX3_handOut c_switches c_priorities c_names c_wants c_blocks c_upTo p1 = some z) : Cn l E yX3_handOut cX3_handOut 9 (some .int) 4 87 [.ref (adc 0), .int p1] (wX3 E adc c_switches c_hosts c_renewing c_priorities c_names c_wants c_blocks c_upTo c_clashedTo c_zoneSets c_places c_notices c_news) (wX3 E adc c_switches c_hosts c_renewing c_priorities c_names c_wants z.2 c_upTo c_clashedTo c_zoneSets c_places c_notices c_news) (some (.int z.1)) := by
  refine Cn.ofW (by decide +kernel) (Nat.le_of_ble_eq_true rfl) ?_
  intro p e s m args below meth c ls hC hN hl
  obtain ⟨z0, hz0⟩ : ∃ y, y = z := ⟨_, rfl⟩
  rw [← hz0] at h ⊢
  clear hz0
  have hl : lv_has ls 9 [(0, .ref (adc 0)), (1, .int p1)] := hl
  have hx := hC.1
  have hb := hC.2.1
  unfold fX3_handOut at h
  refine lv_iconst (v := 0) hx hb dX3_handOut_0 rfl ?_
  refine lv_istore_n (lv' := [(2, .int 0), (0, .ref (adc 0)), (1, .int p1)]) hx hb dX3_handOut_1 rfl hl (by decide) rfl (fun ls hl => ?_)
  refine lv_iconst (v := 0) hx hb dX3_handOut_2 rfl ?_
  refine lv_istore_n (lv' := [(3, .int 0), (2, .int 0), (0, .ref (adc 0)), (1, .int p1)]) hx hb dX3_handOut_3 rfl hl (by decide) rfl (fun ls hl => ?_)
  refine lv_iconst (v := 0) hx hb dX3_handOut_4 rfl ?_
  refine lv_istore (lv' := [(4, .int 0), (3, .int 0), (2, .int 0), (0, .ref (adc 0)), (1, .int p1)]) hx hb dX3_handOut_5 hl (by decide) rfl (fun ls hl => ?_)
  refine lv_iconst (v := 1) hx hb dX3_handOut_7 rfl ?_
  refine lv_aload_n hx hb dX3_handOut_8 rfl (lv_at hl 3 rfl) ?_
  refine lv_iload_n hx hb dX3_handOut_9 rfl (lv_at hl 4 rfl) ?_
  obtain ⟨r_1, hr_1, h⟩ := bi_e h
  refine n_callVi (ws' := wX3 E adc c_switches c_hosts c_renewing c_priorities c_names c_wants c_blocks c_upTo c_clashedTo c_zoneSets c_places c_notices c_news) hC hN (tX3_principalOf l E adc c_switches c_hosts c_renewing c_priorities c_names c_wants c_blocks c_upTo c_clashedTo c_zoneSets c_places c_notices c_news p1 r_1 hr_1) cy_X3_principalOf mML_X3_100 mIM_X3_principalOf mSE_X3_principalOf rfl rfl (k := 0) rfl (perm_self _) (perm_self _) rfl rfl hl.1 rfl (Nat.le_of_ble_eq_true rfl) dX3_handOut_10 ⟨Nat.le_of_ble_eq_true rfl, Nat.le_of_ble_eq_true rfl⟩ ⟨Nat.le_refl _, Nat.le_refl _⟩ (fun H locs hN => ?_)
  refine lv_ishl hx hb dX3_handOut_13 ?_
  refine lv_topi (fun v5_2 ev5_2 => ?_)
  have h := bd_e h v5_2 ev5_2
  refine lv_istore (lv' := [(5, .int v5_2), (4, .int 0), (3, .int 0), (2, .int 0), (0, .ref (adc 0)), (1, .int p1)]) hx hb dX3_handOut_14 hl (by decide) rfl (fun ls hl => ?_)
  refine lv_iconst (v := 0) hx hb dX3_handOut_16 rfl ?_
  refine lv_istore (lv' := [(6, .int 0), (5, .int v5_2), (4, .int 0), (3, .int 0), (2, .int 0), (0, .ref (adc 0)), (1, .int p1)]) hx hb dX3_handOut_17 hl (by decide) rfl (fun ls hl => ?_)
  have L1 : ∀ (fu : Nat) (v2_3 : Int32) (v3_4 : Int32) (v4_5 : Int32) (v5_6 : Int32) (v6_7 : Int32) (c_blocks_8 : Nat → Int32) (z : Int32 × Int32 × Int32 × Int32 × Int32 × (Nat → Int32)) (H : Heap) (locs : List Loc) (ls : Array Slot), Nw E s (AD (wX3 E adc c_switches c_hosts c_renewing c_priorities c_names c_wants c_blocks c_upTo c_clashedTo c_zoneSets c_places c_notices c_news)) (wX3 E adc c_switches c_hosts c_renewing c_priorities c_names c_wants c_blocks_8 c_upTo c_clashedTo c_zoneSets c_places c_notices c_news) H locs → lv_has ls 9 [(0, .ref (adc 0)), (1, .int p1), (2, .int v2_3), (3, .int v3_4), (4, .int v4_5), (5, .int v5_6), (6, .int v6_7)] → fX3_handOut_L1 c_switches c_names c_wants c_upTo p1 fu v2_3 v3_4 v4_5 v5_6 v6_7 c_blocks_8 = some z → (∀ (H : Heap) (locs : List Loc) (ls : Array Slot), Nw E s (AD (wX3 E adc c_switches c_hosts c_renewing c_priorities c_names c_wants c_blocks c_upTo c_clashedTo c_zoneSets c_places c_notices c_news)) (wX3 E adc c_switches c_hosts c_renewing c_priorities c_names c_wants z.2.2.2.2.2 c_upTo c_clashedTo c_zoneSets c_places c_notices c_news) H locs → lv_has ls 9 [(0, .ref (adc 0)), (1, .int p1), (2, .int z.1), (3, .int z.2.1), (4, .int z.2.2.1), (5, .int z.2.2.2.1), (6, .int z.2.2.2.2.1)] → WN p l e 4 87 s m args below meth c E (wX3 E adc c_switches c_hosts c_renewing c_priorities c_names c_wants c_blocks c_upTo c_clashedTo c_zoneSets c_places c_notices c_news) (some (.int z0.1)) (wX3 E adc c_switches c_hosts c_renewing c_priorities c_names c_wants z0.2 c_upTo c_clashedTo c_zoneSets c_places c_notices c_news) H locs (F0 m 113 ls [])) → WN p l e 4 87 s m args below meth c E (wX3 E adc c_switches c_hosts c_renewing c_priorities c_names c_wants c_blocks c_upTo c_clashedTo c_zoneSets c_places c_notices c_news) (some (.int z0.1)) (wX3 E adc c_switches c_hosts c_renewing c_priorities c_names c_wants z0.2 c_upTo c_clashedTo c_zoneSets c_places c_notices c_news) H locs (F0 m 19 ls []) := by
    intro fu
    induction fu with
    | zero =>
      intro v2_3 v3_4 v4_5 v5_6 v6_7 c_blocks_8 z H locs ls hN hl h K
      cases (show (none : Option (Int32 × Int32 × Int32 × Int32 × Int32 × (Nat → Int32))) = some z from h)
    | succ fu ih =>
      intro v2_3 v3_4 v4_5 v5_6 v6_7 c_blocks_8 z H locs ls hN hl h K
      rw [fX3_handOut_L1.eq_2] at h
      refine lv_iload hx hb dX3_handOut_19 (lv_at hl 6 rfl) ?_
      refine lv_aload_n hx hb dX3_handOut_21 rfl (lv_at hl 0 rfl) ?_
      refine gt_X3_switches hC hN 0 rfl rfl dX3_handOut_22 ?_
      refine lv_icmp_ge (tgt := 113) hx hb dX3_handOut_25 (by decide) (fun c9 => ?_) (fun c9 => ?_)
      · have h := if_t h c9
        obtain rfl := Option.some.inj h
        exact K _ _ _ hN (lv_sub hl [0, 1, 2, 3, 4, 5, 6] rfl)
      · have h := if_f h c9
        refine lv_iload_n hx hb dX3_handOut_28 rfl (lv_at hl 3 rfl) ?_
        refine lv_iload_n hx hb dX3_handOut_29 rfl (lv_at hl 1 rfl) ?_
        refine lv_icmp_eq (tgt := 113) hx hb dX3_handOut_30 (by decide) (fun c10 => ?_) (fun c10 => ?_)
        · have h := if_t h c10
          obtain rfl := Option.some.inj h
          exact K _ _ _ hN (lv_sub hl [0, 1, 2, 3, 4, 5, 6] rfl)
        · have h := if_f h c10
          refine lv_iload_n hx hb dX3_handOut_33 rfl (lv_at hl 3 rfl) ?_
          refine lv_iload hx hb dX3_handOut_34 (lv_at hl 5 rfl) ?_
          refine lv_icmp_ne (tgt := 47) hx hb dX3_handOut_36 (by decide) (fun c11 => ?_) (fun c11 => ?_)
          · have h := if_f h c11
            refine lv_aload_n hx hb dX3_handOut_47 rfl (lv_at hl 0 rfl) ?_
            refine lv_iload hx hb dX3_handOut_48 (lv_at hl 5 rfl) ?_
            refine lv_iload_n hx hb dX3_handOut_50 rfl (lv_at hl 3 rfl) ?_
            refine lv_iconst (v := -1) hx hb dX3_handOut_51 rfl ?_
            refine lv_ixor hx hb dX3_handOut_52 ?_
            refine lv_iand hx hb dX3_handOut_53 ?_
            obtain ⟨r_12, hr_12, h⟩ := bi_e h
            refine n_callVi (ws' := wX3 E adc c_switches c_hosts c_renewing c_priorities c_names c_wants c_blocks_8 c_upTo c_clashedTo c_zoneSets c_places c_notices c_news) hC hN (tX3_lowestNameOf l E adc c_switches c_hosts c_renewing c_priorities c_names c_wants c_blocks_8 c_upTo c_clashedTo c_zoneSets c_places c_notices c_news (v5_6 &&& (v3_4 ^^^ (-1))) r_12 hr_12) cy_X3_lowestNameOf mML_X3_103 mIM_X3_lowestNameOf mSE_X3_lowestNameOf rfl rfl (k := 0) rfl (perm_self _) (perm_self _) rfl rfl hl.1 rfl (Nat.le_of_ble_eq_true rfl) dX3_handOut_54 ⟨Nat.le_of_ble_eq_true rfl, Nat.le_of_ble_eq_true rfl⟩ ⟨Nat.le_refl _, Nat.le_refl _⟩ (fun H locs hN => ?_)
            refine lv_istore (lv' := [(7, .int r_12), (0, .ref (adc 0)), (1, .int p1), (2, .int v2_3), (3, .int v3_4), (4, .int v4_5), (5, .int v5_6), (6, .int v6_7)]) hx hb dX3_handOut_57 hl (by decide) rfl (fun ls hl => ?_)
            refine lv_aload_n hx hb dX3_handOut_59 rfl (lv_at hl 1 rfl) ?_
            refine lv_iload hx hb dX3_handOut_60 (lv_at hl 0 rfl) ?_
            refine lv_iload hx hb dX3_handOut_62 (lv_at hl 5 rfl) ?_
            obtain ⟨r_13, hr_13, h⟩ := bi_e h
            refine n_callVi (ws' := wX3 E adc c_switches c_hosts c_renewing c_priorities c_names c_wants c_blocks_8 c_upTo c_clashedTo c_zoneSets c_places c_notices c_news) hC hN (tX3_blockFor l E adc c_switches c_hosts c_renewing c_priorities c_names c_wants c_blocks_8 c_upTo c_clashedTo c_zoneSets c_places c_notices c_news r_12 v4_5 r_13 hr_13) cy_X3_blockFor mML_X3_106 mIM_X3_blockFor mSE_X3_blockFor rfl rfl (k := 0) rfl (perm_self _) (perm_self _) rfl rfl hl.1 rfl (Nat.le_of_ble_eq_true rfl) dX3_handOut_64 ⟨Nat.le_of_ble_eq_true rfl, Nat.le_of_ble_eq_true rfl⟩ ⟨Nat.le_refl _, Nat.le_refl _⟩ (fun H locs hN => ?_)
            refine lv_istore (lv' := [(8, .int r_13), (7, .int r_12), (0, .ref (adc 0)), (1, .int p1), (2, .int v2_3), (3, .int v3_4), (4, .int v4_5), (5, .int v5_6), (6, .int v6_7)]) hx hb dX3_handOut_67 hl (by decide) rfl (fun ls hl => ?_)
            refine lv_aload_n hx hb dX3_handOut_69 rfl (lv_at hl 2 rfl) ?_
            refine lv_iload hx hb dX3_handOut_70 (lv_at hl 1 rfl) ?_
            obtain ⟨r_14, hr_14, h⟩ := bi_e h
            refine n_callVi (ws' := wX3 E adc c_switches c_hosts c_renewing c_priorities c_names c_wants c_blocks_8 c_upTo c_clashedTo c_zoneSets c_places c_notices c_news) hC hN (tX3_blockOf l E adc c_switches c_hosts c_renewing c_priorities c_names c_wants c_blocks_8 c_upTo c_clashedTo c_zoneSets c_places c_notices c_news r_12 r_14 hr_14) cy_X3_blockOf mML_X3_109 mIM_X3_blockOf mSE_X3_blockOf rfl rfl (k := 0) rfl (perm_self _) (perm_self _) rfl rfl hl.1 rfl (Nat.le_of_ble_eq_true rfl) dX3_handOut_72 ⟨Nat.le_of_ble_eq_true rfl, Nat.le_of_ble_eq_true rfl⟩ ⟨Nat.le_refl _, Nat.le_refl _⟩ (fun H locs hN => ?_)
            refine lv_iload hx hb dX3_handOut_75 (lv_at hl 0 rfl) ?_
            refine lv_icmp_eq (tgt := 83) hx hb dX3_handOut_77 (by decide) (fun c15 => ?_) (fun c15 => ?_)
            · have h := if_t h c15
              refine lv_aload_n hx hb dX3_handOut_83 rfl (lv_at hl 2 rfl) ?_
              refine lv_iload hx hb dX3_handOut_84 (lv_at hl 1 rfl) ?_
              refine lv_iload hx hb dX3_handOut_86 (lv_at hl 0 rfl) ?_
              obtain ⟨z_16, hz_16, h⟩ := bi_e h
              refine n_callVv (ws' := wX3 E adc c_switches c_hosts c_renewing c_priorities c_names c_wants z_16 c_upTo c_clashedTo c_zoneSets c_places c_notices c_news) hC hN (tX3_setBlock l E adc c_switches c_hosts c_renewing c_priorities c_names c_wants c_blocks_8 c_upTo c_clashedTo c_zoneSets c_places c_notices c_news r_12 r_13 z_16 hz_16) cy_X3_setBlock mML_X3_112 mIM_X3_setBlock mSE_X3_setBlock rfl rfl (k := 0) rfl (perm_self _) (perm_self _) rfl rfl hl.1 rfl (Nat.le_of_ble_eq_true rfl) dX3_handOut_88 ⟨Nat.le_of_ble_eq_true rfl, Nat.le_of_ble_eq_true rfl⟩ ⟨Nat.le_refl _, Nat.le_refl _⟩ (fun H locs hN => ?_)
              refine lv_iload hx hb dX3_handOut_91 (lv_at hl 6 rfl) ?_
              refine lv_iconst (v := 1) hx hb dX3_handOut_93 rfl ?_
              refine lv_iload hx hb dX3_handOut_94 (lv_at hl 0 rfl) ?_
              refine lv_ishl hx hb dX3_handOut_96 ?_
              refine lv_ior hx hb dX3_handOut_97 ?_
              refine lv_topi (fun v4_17 ev4_17 => ?_)
              have h := bd_e h v4_17 ev4_17
              refine lv_istore (lv' := [(4, .int v4_17), (8, .int r_13), (7, .int r_12), (0, .ref (adc 0)), (1, .int p1), (2, .int v2_3), (3, .int v3_4), (5, .int v5_6), (6, .int v6_7)]) hx hb dX3_handOut_98 hl (by decide) rfl (fun ls hl => ?_)
              refine lv_iload_n hx hb dX3_handOut_100 rfl (lv_at hl 6 rfl) ?_
              refine lv_iconst (v := 1) hx hb dX3_handOut_101 rfl ?_
              refine lv_iload hx hb dX3_handOut_102 (lv_at hl 2 rfl) ?_
              refine lv_ishl hx hb dX3_handOut_104 ?_
              refine lv_ior hx hb dX3_handOut_105 ?_
              refine lv_topi (fun v3_18 ev3_18 => ?_)
              have h := bd_e h v3_18 ev3_18
              refine lv_istore_n (lv' := [(3, .int v3_18), (4, .int v4_17), (8, .int r_13), (7, .int r_12), (0, .ref (adc 0)), (1, .int p1), (2, .int v2_3), (5, .int v5_6), (6, .int v6_7)]) hx hb dX3_handOut_106 rfl hl (by decide) rfl (fun ls hl => ?_)
              obtain ⟨v6_19, ev6_19⟩ : ∃ y : Int32, y = v6_7 + 1 := ⟨_, rfl⟩
              have h := bd_e h v6_19 ev6_19
              refine lv_iinc (v := v6_19) (lv' := [(6, .int v6_19), (3, .int v3_18), (4, .int v4_17), (8, .int r_13), (7, .int r_12), (0, .ref (adc 0)), (1, .int p1), (2, .int v2_3), (5, .int v5_6)]) hx hb dX3_handOut_107 hl (k := 8) rfl (by rw [ev6_19]; rfl) (by decide) rfl (fun ls hl => ?_)
              refine lv_goto (tgt := 19) hx hb dX3_handOut_110 (by decide) ?_
              exact ih v2_3 v3_18 v4_17 v5_6 v6_19 z_16 z _ _ _ hN (lv_sub hl [5, 6, 7, 1, 2, 8, 0] rfl) h K
            · have h := if_f h c15
              obtain ⟨v2_20, ev2_20⟩ : ∃ y : Int32, y = v2_3 + 1 := ⟨_, rfl⟩
              have h := bd_e h v2_20 ev2_20
              refine lv_iinc (v := v2_20) (lv' := [(2, .int v2_20), (8, .int r_13), (7, .int r_12), (0, .ref (adc 0)), (1, .int p1), (3, .int v3_4), (4, .int v4_5), (5, .int v5_6), (6, .int v6_7)]) hx hb dX3_handOut_80 hl (k := 4) rfl (by rw [ev2_20]; rfl) (by decide) rfl (fun ls hl => ?_)
              refine lv_aload_n hx hb dX3_handOut_83 rfl (lv_at hl 3 rfl) ?_
              refine lv_iload hx hb dX3_handOut_84 (lv_at hl 2 rfl) ?_
              refine lv_iload hx hb dX3_handOut_86 (lv_at hl 1 rfl) ?_
              obtain ⟨z_21, hz_21, h⟩ := bi_e h
              refine n_callVv (ws' := wX3 E adc c_switches c_hosts c_renewing c_priorities c_names c_wants z_21 c_upTo c_clashedTo c_zoneSets c_places c_notices c_news) hC hN (tX3_setBlock l E adc c_switches c_hosts c_renewing c_priorities c_names c_wants c_blocks_8 c_upTo c_clashedTo c_zoneSets c_places c_notices c_news r_12 r_13 z_21 hz_21) cy_X3_setBlock mML_X3_112 mIM_X3_setBlock mSE_X3_setBlock rfl rfl (k := 0) rfl (perm_self _) (perm_self _) rfl rfl hl.1 rfl (Nat.le_of_ble_eq_true rfl) dX3_handOut_88 ⟨Nat.le_of_ble_eq_true rfl, Nat.le_of_ble_eq_true rfl⟩ ⟨Nat.le_refl _, Nat.le_refl _⟩ (fun H locs hN => ?_)
              refine lv_iload hx hb dX3_handOut_91 (lv_at hl 6 rfl) ?_
              refine lv_iconst (v := 1) hx hb dX3_handOut_93 rfl ?_
              refine lv_iload hx hb dX3_handOut_94 (lv_at hl 1 rfl) ?_
              refine lv_ishl hx hb dX3_handOut_96 ?_
              refine lv_ior hx hb dX3_handOut_97 ?_
              refine lv_topi (fun v4_22 ev4_22 => ?_)
              have h := bd_e h v4_22 ev4_22
              refine lv_istore (lv' := [(4, .int v4_22), (2, .int v2_20), (8, .int r_13), (7, .int r_12), (0, .ref (adc 0)), (1, .int p1), (3, .int v3_4), (5, .int v5_6), (6, .int v6_7)]) hx hb dX3_handOut_98 hl (by decide) rfl (fun ls hl => ?_)
              refine lv_iload_n hx hb dX3_handOut_100 rfl (lv_at hl 6 rfl) ?_
              refine lv_iconst (v := 1) hx hb dX3_handOut_101 rfl ?_
              refine lv_iload hx hb dX3_handOut_102 (lv_at hl 3 rfl) ?_
              refine lv_ishl hx hb dX3_handOut_104 ?_
              refine lv_ior hx hb dX3_handOut_105 ?_
              refine lv_topi (fun v3_23 ev3_23 => ?_)
              have h := bd_e h v3_23 ev3_23
              refine lv_istore_n (lv' := [(3, .int v3_23), (4, .int v4_22), (2, .int v2_20), (8, .int r_13), (7, .int r_12), (0, .ref (adc 0)), (1, .int p1), (5, .int v5_6), (6, .int v6_7)]) hx hb dX3_handOut_106 rfl hl (by decide) rfl (fun ls hl => ?_)
              obtain ⟨v6_24, ev6_24⟩ : ∃ y : Int32, y = v6_7 + 1 := ⟨_, rfl⟩
              have h := bd_e h v6_24 ev6_24
              refine lv_iinc (v := v6_24) (lv' := [(6, .int v6_24), (3, .int v3_23), (4, .int v4_22), (2, .int v2_20), (8, .int r_13), (7, .int r_12), (0, .ref (adc 0)), (1, .int p1), (5, .int v5_6)]) hx hb dX3_handOut_107 hl (k := 8) rfl (by rw [ev6_24]; rfl) (by decide) rfl (fun ls hl => ?_)
              refine lv_goto (tgt := 19) hx hb dX3_handOut_110 (by decide) ?_
              exact ih v2_20 v3_23 v4_22 v5_6 v6_24 z_21 z _ _ _ hN (lv_sub hl [6, 7, 3, 1, 2, 8, 0] rfl) h K
          · have h := if_t h c11
            refine lv_aload_n hx hb dX3_handOut_39 rfl (lv_at hl 0 rfl) ?_
            refine lv_iload hx hb dX3_handOut_40 (lv_at hl 5 rfl) ?_
            obtain ⟨r_25, hr_25, h⟩ := bi_e h
            refine n_callVi (ws' := wX3 E adc c_switches c_hosts c_renewing c_priorities c_names c_wants c_blocks_8 c_upTo c_clashedTo c_zoneSets c_places c_notices c_news) hC hN (tX3_spread l E adc c_switches c_hosts c_renewing c_priorities c_names c_wants c_blocks_8 c_upTo c_clashedTo c_zoneSets c_places c_notices c_news v5_6 r_25 hr_25) cy_X3_spread mML_X3_85 mIM_X3_spread mSE_X3_spread rfl rfl (k := 0) rfl (perm_self _) (perm_self _) rfl rfl hl.1 rfl (Nat.le_of_ble_eq_true rfl) dX3_handOut_42 ⟨Nat.le_of_ble_eq_true rfl, Nat.le_of_ble_eq_true rfl⟩ ⟨Nat.le_refl _, Nat.le_refl _⟩ (fun H locs hN => ?_)
            refine lv_istore (lv' := [(5, .int r_25), (0, .ref (adc 0)), (1, .int p1), (2, .int v2_3), (3, .int v3_4), (4, .int v4_5), (6, .int v6_7)]) hx hb dX3_handOut_45 hl (by decide) rfl (fun ls hl => ?_)
            refine lv_aload_n hx hb dX3_handOut_47 rfl (lv_at hl 1 rfl) ?_
            refine lv_iload hx hb dX3_handOut_48 (lv_at hl 0 rfl) ?_
            refine lv_iload_n hx hb dX3_handOut_50 rfl (lv_at hl 4 rfl) ?_
            refine lv_iconst (v := -1) hx hb dX3_handOut_51 rfl ?_
            refine lv_ixor hx hb dX3_handOut_52 ?_
            refine lv_iand hx hb dX3_handOut_53 ?_
            obtain ⟨r_26, hr_26, h⟩ := bi_e h
            refine n_callVi (ws' := wX3 E adc c_switches c_hosts c_renewing c_priorities c_names c_wants c_blocks_8 c_upTo c_clashedTo c_zoneSets c_places c_notices c_news) hC hN (tX3_lowestNameOf l E adc c_switches c_hosts c_renewing c_priorities c_names c_wants c_blocks_8 c_upTo c_clashedTo c_zoneSets c_places c_notices c_news (r_25 &&& (v3_4 ^^^ (-1))) r_26 hr_26) cy_X3_lowestNameOf mML_X3_103 mIM_X3_lowestNameOf mSE_X3_lowestNameOf rfl rfl (k := 0) rfl (perm_self _) (perm_self _) rfl rfl hl.1 rfl (Nat.le_of_ble_eq_true rfl) dX3_handOut_54 ⟨Nat.le_of_ble_eq_true rfl, Nat.le_of_ble_eq_true rfl⟩ ⟨Nat.le_refl _, Nat.le_refl _⟩ (fun H locs hN => ?_)
            refine lv_istore (lv' := [(7, .int r_26), (5, .int r_25), (0, .ref (adc 0)), (1, .int p1), (2, .int v2_3), (3, .int v3_4), (4, .int v4_5), (6, .int v6_7)]) hx hb dX3_handOut_57 hl (by decide) rfl (fun ls hl => ?_)
            refine lv_aload_n hx hb dX3_handOut_59 rfl (lv_at hl 2 rfl) ?_
            refine lv_iload hx hb dX3_handOut_60 (lv_at hl 0 rfl) ?_
            refine lv_iload hx hb dX3_handOut_62 (lv_at hl 6 rfl) ?_
            obtain ⟨r_27, hr_27, h⟩ := bi_e h
            refine n_callVi (ws' := wX3 E adc c_switches c_hosts c_renewing c_priorities c_names c_wants c_blocks_8 c_upTo c_clashedTo c_zoneSets c_places c_notices c_news) hC hN (tX3_blockFor l E adc c_switches c_hosts c_renewing c_priorities c_names c_wants c_blocks_8 c_upTo c_clashedTo c_zoneSets c_places c_notices c_news r_26 v4_5 r_27 hr_27) cy_X3_blockFor mML_X3_106 mIM_X3_blockFor mSE_X3_blockFor rfl rfl (k := 0) rfl (perm_self _) (perm_self _) rfl rfl hl.1 rfl (Nat.le_of_ble_eq_true rfl) dX3_handOut_64 ⟨Nat.le_of_ble_eq_true rfl, Nat.le_of_ble_eq_true rfl⟩ ⟨Nat.le_refl _, Nat.le_refl _⟩ (fun H locs hN => ?_)
            refine lv_istore (lv' := [(8, .int r_27), (7, .int r_26), (5, .int r_25), (0, .ref (adc 0)), (1, .int p1), (2, .int v2_3), (3, .int v3_4), (4, .int v4_5), (6, .int v6_7)]) hx hb dX3_handOut_67 hl (by decide) rfl (fun ls hl => ?_)
            refine lv_aload_n hx hb dX3_handOut_69 rfl (lv_at hl 3 rfl) ?_
            refine lv_iload hx hb dX3_handOut_70 (lv_at hl 1 rfl) ?_
            obtain ⟨r_28, hr_28, h⟩ := bi_e h
            refine n_callVi (ws' := wX3 E adc c_switches c_hosts c_renewing c_priorities c_names c_wants c_blocks_8 c_upTo c_clashedTo c_zoneSets c_places c_notices c_news) hC hN (tX3_blockOf l E adc c_switches c_hosts c_renewing c_priorities c_names c_wants c_blocks_8 c_upTo c_clashedTo c_zoneSets c_places c_notices c_news r_26 r_28 hr_28) cy_X3_blockOf mML_X3_109 mIM_X3_blockOf mSE_X3_blockOf rfl rfl (k := 0) rfl (perm_self _) (perm_self _) rfl rfl hl.1 rfl (Nat.le_of_ble_eq_true rfl) dX3_handOut_72 ⟨Nat.le_of_ble_eq_true rfl, Nat.le_of_ble_eq_true rfl⟩ ⟨Nat.le_refl _, Nat.le_refl _⟩ (fun H locs hN => ?_)
            refine lv_iload hx hb dX3_handOut_75 (lv_at hl 0 rfl) ?_
            refine lv_icmp_eq (tgt := 83) hx hb dX3_handOut_77 (by decide) (fun c29 => ?_) (fun c29 => ?_)
            · have h := if_t h c29
              refine lv_aload_n hx hb dX3_handOut_83 rfl (lv_at hl 3 rfl) ?_
              refine lv_iload hx hb dX3_handOut_84 (lv_at hl 1 rfl) ?_
              refine lv_iload hx hb dX3_handOut_86 (lv_at hl 0 rfl) ?_
              obtain ⟨z_30, hz_30, h⟩ := bi_e h
              refine n_callVv (ws' := wX3 E adc c_switches c_hosts c_renewing c_priorities c_names c_wants z_30 c_upTo c_clashedTo c_zoneSets c_places c_notices c_news) hC hN (tX3_setBlock l E adc c_switches c_hosts c_renewing c_priorities c_names c_wants c_blocks_8 c_upTo c_clashedTo c_zoneSets c_places c_notices c_news r_26 r_27 z_30 hz_30) cy_X3_setBlock mML_X3_112 mIM_X3_setBlock mSE_X3_setBlock rfl rfl (k := 0) rfl (perm_self _) (perm_self _) rfl rfl hl.1 rfl (Nat.le_of_ble_eq_true rfl) dX3_handOut_88 ⟨Nat.le_of_ble_eq_true rfl, Nat.le_of_ble_eq_true rfl⟩ ⟨Nat.le_refl _, Nat.le_refl _⟩ (fun H locs hN => ?_)
              refine lv_iload hx hb dX3_handOut_91 (lv_at hl 7 rfl) ?_
              refine lv_iconst (v := 1) hx hb dX3_handOut_93 rfl ?_
              refine lv_iload hx hb dX3_handOut_94 (lv_at hl 0 rfl) ?_
              refine lv_ishl hx hb dX3_handOut_96 ?_
              refine lv_ior hx hb dX3_handOut_97 ?_
              refine lv_topi (fun v4_31 ev4_31 => ?_)
              have h := bd_e h v4_31 ev4_31
              refine lv_istore (lv' := [(4, .int v4_31), (8, .int r_27), (7, .int r_26), (5, .int r_25), (0, .ref (adc 0)), (1, .int p1), (2, .int v2_3), (3, .int v3_4), (6, .int v6_7)]) hx hb dX3_handOut_98 hl (by decide) rfl (fun ls hl => ?_)
              refine lv_iload_n hx hb dX3_handOut_100 rfl (lv_at hl 7 rfl) ?_
              refine lv_iconst (v := 1) hx hb dX3_handOut_101 rfl ?_
              refine lv_iload hx hb dX3_handOut_102 (lv_at hl 2 rfl) ?_
              refine lv_ishl hx hb dX3_handOut_104 ?_
              refine lv_ior hx hb dX3_handOut_105 ?_
              refine lv_topi (fun v3_32 ev3_32 => ?_)
              have h := bd_e h v3_32 ev3_32
              refine lv_istore_n (lv' := [(3, .int v3_32), (4, .int v4_31), (8, .int r_27), (7, .int r_26), (5, .int r_25), (0, .ref (adc 0)), (1, .int p1), (2, .int v2_3), (6, .int v6_7)]) hx hb dX3_handOut_106 rfl hl (by decide) rfl (fun ls hl => ?_)
              obtain ⟨v6_33, ev6_33⟩ : ∃ y : Int32, y = v6_7 + 1 := ⟨_, rfl⟩
              have h := bd_e h v6_33 ev6_33
              refine lv_iinc (v := v6_33) (lv' := [(6, .int v6_33), (3, .int v3_32), (4, .int v4_31), (8, .int r_27), (7, .int r_26), (5, .int r_25), (0, .ref (adc 0)), (1, .int p1), (2, .int v2_3)]) hx hb dX3_handOut_107 hl (k := 8) rfl (by rw [ev6_33]; rfl) (by decide) rfl (fun ls hl => ?_)
              refine lv_goto (tgt := 19) hx hb dX3_handOut_110 (by decide) ?_
              exact ih v2_3 v3_32 v4_31 r_25 v6_33 z_30 z _ _ _ hN (lv_sub hl [6, 7, 8, 1, 2, 5, 0] rfl) h K
            · have h := if_f h c29
              obtain ⟨v2_34, ev2_34⟩ : ∃ y : Int32, y = v2_3 + 1 := ⟨_, rfl⟩
              have h := bd_e h v2_34 ev2_34
              refine lv_iinc (v := v2_34) (lv' := [(2, .int v2_34), (8, .int r_27), (7, .int r_26), (5, .int r_25), (0, .ref (adc 0)), (1, .int p1), (3, .int v3_4), (4, .int v4_5), (6, .int v6_7)]) hx hb dX3_handOut_80 hl (k := 5) rfl (by rw [ev2_34]; rfl) (by decide) rfl (fun ls hl => ?_)
              refine lv_aload_n hx hb dX3_handOut_83 rfl (lv_at hl 4 rfl) ?_
              refine lv_iload hx hb dX3_handOut_84 (lv_at hl 2 rfl) ?_
              refine lv_iload hx hb dX3_handOut_86 (lv_at hl 1 rfl) ?_
              obtain ⟨z_35, hz_35, h⟩ := bi_e h
              refine n_callVv (ws' := wX3 E adc c_switches c_hosts c_renewing c_priorities c_names c_wants z_35 c_upTo c_clashedTo c_zoneSets c_places c_notices c_news) hC hN (tX3_setBlock l E adc c_switches c_hosts c_renewing c_priorities c_names c_wants c_blocks_8 c_upTo c_clashedTo c_zoneSets c_places c_notices c_news r_26 r_27 z_35 hz_35) cy_X3_setBlock mML_X3_112 mIM_X3_setBlock mSE_X3_setBlock rfl rfl (k := 0) rfl (perm_self _) (perm_self _) rfl rfl hl.1 rfl (Nat.le_of_ble_eq_true rfl) dX3_handOut_88 ⟨Nat.le_of_ble_eq_true rfl, Nat.le_of_ble_eq_true rfl⟩ ⟨Nat.le_refl _, Nat.le_refl _⟩ (fun H locs hN => ?_)
              refine lv_iload hx hb dX3_handOut_91 (lv_at hl 7 rfl) ?_
              refine lv_iconst (v := 1) hx hb dX3_handOut_93 rfl ?_
              refine lv_iload hx hb dX3_handOut_94 (lv_at hl 1 rfl) ?_
              refine lv_ishl hx hb dX3_handOut_96 ?_
              refine lv_ior hx hb dX3_handOut_97 ?_
              refine lv_topi (fun v4_36 ev4_36 => ?_)
              have h := bd_e h v4_36 ev4_36
              refine lv_istore (lv' := [(4, .int v4_36), (2, .int v2_34), (8, .int r_27), (7, .int r_26), (5, .int r_25), (0, .ref (adc 0)), (1, .int p1), (3, .int v3_4), (6, .int v6_7)]) hx hb dX3_handOut_98 hl (by decide) rfl (fun ls hl => ?_)
              refine lv_iload_n hx hb dX3_handOut_100 rfl (lv_at hl 7 rfl) ?_
              refine lv_iconst (v := 1) hx hb dX3_handOut_101 rfl ?_
              refine lv_iload hx hb dX3_handOut_102 (lv_at hl 3 rfl) ?_
              refine lv_ishl hx hb dX3_handOut_104 ?_
              refine lv_ior hx hb dX3_handOut_105 ?_
              refine lv_topi (fun v3_37 ev3_37 => ?_)
              have h := bd_e h v3_37 ev3_37
              refine lv_istore_n (lv' := [(3, .int v3_37), (4, .int v4_36), (2, .int v2_34), (8, .int r_27), (7, .int r_26), (5, .int r_25), (0, .ref (adc 0)), (1, .int p1), (6, .int v6_7)]) hx hb dX3_handOut_106 rfl hl (by decide) rfl (fun ls hl => ?_)
              obtain ⟨v6_38, ev6_38⟩ : ∃ y : Int32, y = v6_7 + 1 := ⟨_, rfl⟩
              have h := bd_e h v6_38 ev6_38
              refine lv_iinc (v := v6_38) (lv' := [(6, .int v6_38), (3, .int v3_37), (4, .int v4_36), (2, .int v2_34), (8, .int r_27), (7, .int r_26), (5, .int r_25), (0, .ref (adc 0)), (1, .int p1)]) hx hb dX3_handOut_107 hl (k := 8) rfl (by rw [ev6_38]; rfl) (by decide) rfl (fun ls hl => ?_)
              refine lv_goto (tgt := 19) hx hb dX3_handOut_110 (by decide) ?_
              exact ih v2_34 v3_37 v4_36 r_25 v6_38 z_35 z _ _ _ hN (lv_sub hl [7, 8, 3, 1, 2, 6, 0] rfl) h K
  obtain ⟨z_39, hz_39, h⟩ := bi_e h
  refine L1 500 0 0 0 v5_2 0 c_blocks z_39 _ _ _ hN (lv_sub hl [5, 6, 4, 3, 2, 1, 0] rfl) hz_39 (fun H locs ls hN hl => ?_)
  refine lv_iload_n hx hb dX3_handOut_113 rfl (lv_at hl 2 rfl) ?_
  obtain rfl := Option.some.inj h
  exact n_iret hC hN dX3_handOut_114
set_option maxHeartbeats 4000000 in
set_option maxRecDepth 100000 in
theorem tX3_blocksIn (l : Launch) (E : EV) (adc : Nat → Nat) (c_switches : Int32) (c_hosts : Int32) (c_renewing : Int32) (c_priorities : Nat → Int32) (c_names : Nat → Int32) (c_wants : Nat → Int32) (c_blocks : Nat → Int32) (c_upTo : Nat → Int32) (c_clashedTo : Nat → Int32) (c_zoneSets : Nat → Int32) (c_places : Nat → Int32) (c_notices : Nat → Int32) (c_news : Nat → Int32) (p1 : Int32) (z : Int32) (h : fX3_blocksIn c_switches c_blocks p1 = some z) : Cn l E yX3_blocksIn cX3_blocksIn 4 (some .int) 1 21 [.ref (adc 0), .int p1] (wX3 E adc c_switches c_hosts c_renewing c_priorities c_names c_wants c_blocks c_upTo c_clashedTo c_zoneSets c_places c_notices c_news) (wX3 E adc c_switches c_hosts c_renewing c_priorities c_names c_wants c_blocks c_upTo c_clashedTo c_zoneSets c_places c_notices c_news) (some (.int z)) := by
  refine Cn.ofW (by decide +kernel) (Nat.le_of_ble_eq_true rfl) ?_
  intro p e s m args below meth c ls hC hN hl
  obtain ⟨z0, hz0⟩ : ∃ y, y = z := ⟨_, rfl⟩
  rw [← hz0] at h ⊢
  clear hz0
  have hl : lv_has ls 4 [(0, .ref (adc 0)), (1, .int p1)] := hl
  have hx := hC.1
  have hb := hC.2.1
  unfold fX3_blocksIn at h
  refine lv_iconst (v := 0) hx hb dX3_blocksIn_0 rfl ?_
  refine lv_istore_n (lv' := [(2, .int 0), (0, .ref (adc 0)), (1, .int p1)]) hx hb dX3_blocksIn_1 rfl hl (by decide) rfl (fun ls hl => ?_)
  refine lv_iconst (v := 0) hx hb dX3_blocksIn_2 rfl ?_
  refine lv_istore_n (lv' := [(3, .int 0), (2, .int 0), (0, .ref (adc 0)), (1, .int p1)]) hx hb dX3_blocksIn_3 rfl hl (by decide) rfl (fun ls hl => ?_)
  have L1 : ∀ (fu : Nat) (v2_1 : Int32) (v3_2 : Int32) (z : Int32 × Int32) (H : Heap) (locs : List Loc) (ls : Array Slot), Nw E s (AD (wX3 E adc c_switches c_hosts c_renewing c_priorities c_names c_wants c_blocks c_upTo c_clashedTo c_zoneSets c_places c_notices c_news)) (wX3 E adc c_switches c_hosts c_renewing c_priorities c_names c_wants c_blocks c_upTo c_clashedTo c_zoneSets c_places c_notices c_news) H locs → lv_has ls 4 [(0, .ref (adc 0)), (1, .int p1), (2, .int v2_1), (3, .int v3_2)] → fX3_blocksIn_L1 c_switches c_blocks p1 fu v2_1 v3_2 = some z → (∀ (H : Heap) (locs : List Loc) (ls : Array Slot), Nw E s (AD (wX3 E adc c_switches c_hosts c_renewing c_priorities c_names c_wants c_blocks c_upTo c_clashedTo c_zoneSets c_places c_notices c_news)) (wX3 E adc c_switches c_hosts c_renewing c_priorities c_names c_wants c_blocks c_upTo c_clashedTo c_zoneSets c_places c_notices c_news) H locs → lv_has ls 4 [(0, .ref (adc 0)), (1, .int p1), (2, .int z.1), (3, .int z.2)] → WN p l e 1 21 s m args below meth c E (wX3 E adc c_switches c_hosts c_renewing c_priorities c_names c_wants c_blocks c_upTo c_clashedTo c_zoneSets c_places c_notices c_news) (some (.int z0)) (wX3 E adc c_switches c_hosts c_renewing c_priorities c_names c_wants c_blocks c_upTo c_clashedTo c_zoneSets c_places c_notices c_news) H locs (F0 m 37 ls [])) → WN p l e 1 21 s m args below meth c E (wX3 E adc c_switches c_hosts c_renewing c_priorities c_names c_wants c_blocks c_upTo c_clashedTo c_zoneSets c_places c_notices c_news) (some (.int z0)) (wX3 E adc c_switches c_hosts c_renewing c_priorities c_names c_wants c_blocks c_upTo c_clashedTo c_zoneSets c_places c_notices c_news) H locs (F0 m 4 ls []) := by
    intro fu
    induction fu with
    | zero =>
      intro v2_1 v3_2 z H locs ls hN hl h K
      cases (show (none : Option (Int32 × Int32)) = some z from h)
    | succ fu ih =>
      intro v2_1 v3_2 z H locs ls hN hl h K
      rw [fX3_blocksIn_L1.eq_2] at h
      refine lv_iload_n hx hb dX3_blocksIn_4 rfl (lv_at hl 3 rfl) ?_
      refine lv_aload_n hx hb dX3_blocksIn_5 rfl (lv_at hl 0 rfl) ?_
      refine gt_X3_switches hC hN 0 rfl rfl dX3_blocksIn_6 ?_
      refine lv_icmp_ge (tgt := 37) hx hb dX3_blocksIn_9 (by decide) (fun c3 => ?_) (fun c3 => ?_)
      · have h := if_t h c3
        obtain rfl := Option.some.inj h
        exact K _ _ _ hN (lv_sub hl [0, 1, 2, 3] rfl)
      · have h := if_f h c3
        refine lv_iload_n hx hb dX3_blocksIn_12 rfl (lv_at hl 1 rfl) ?_
        refine lv_iload_n hx hb dX3_blocksIn_13 rfl (lv_at hl 3 rfl) ?_
        obtain ⟨r_4, hr_4, h⟩ := bi_e h
        refine n_callSNi (ws' := wX3 E adc c_switches c_hosts c_renewing c_priorities c_names c_wants c_blocks c_upTo c_clashedTo c_zoneSets c_places c_notices c_news) hC hN (tX7_has l E p1 v3_2 r_4 hr_4) cy_X7_has (List.mem_of_getElem? (i := 8) rfl) mST_X7_has (perm_nil _) (perm_nil _) rfl rfl hl.1 rfl (Nat.le_of_ble_eq_true rfl) dX3_blocksIn_14 ⟨Nat.le_of_ble_eq_true rfl, Nat.le_of_ble_eq_true rfl⟩ ⟨Nat.le_refl _, Nat.le_refl _⟩ (fun H locs hN => ?_)
        refine lv_if_eq (tgt := 31) hx hb dX3_blocksIn_17 (by decide) (fun c5 => ?_) (fun c5 => ?_)
        · have h := if_t h c5
          obtain ⟨v3_6, ev3_6⟩ : ∃ y : Int32, y = v3_2 + 1 := ⟨_, rfl⟩
          have h := bd_e h v3_6 ev3_6
          refine lv_iinc (v := v3_6) (lv' := [(3, .int v3_6), (0, .ref (adc 0)), (1, .int p1), (2, .int v2_1)]) hx hb dX3_blocksIn_31 hl (k := 3) rfl (by rw [ev3_6]; rfl) (by decide) rfl (fun ls hl => ?_)
          refine lv_goto (tgt := 4) hx hb dX3_blocksIn_34 (by decide) ?_
          exact ih v2_1 v3_6 z _ _ _ hN (lv_sub hl [1, 2, 3, 0] rfl) h K
        · have h := if_f h c5
          refine lv_iload_n hx hb dX3_blocksIn_20 rfl (lv_at hl 2 rfl) ?_
          refine lv_iconst (v := 1) hx hb dX3_blocksIn_21 rfl ?_
          refine lv_aload_n hx hb dX3_blocksIn_22 rfl (lv_at hl 0 rfl) ?_
          refine gt_X3_blocks hC hN 0 rfl rfl dX3_blocksIn_23 ?_
          refine lv_iload_n hx hb dX3_blocksIn_26 rfl (lv_at hl 3 rfl) ?_
          have g := inB_vp (gd_c h)
          have h := gd_e h
          refine n_iald hC hN 4 rfl g dX3_blocksIn_27 ?_
          refine lv_ishl hx hb dX3_blocksIn_28 ?_
          refine lv_ior hx hb dX3_blocksIn_29 ?_
          refine lv_topi (fun v2_7 ev2_7 => ?_)
          have h := bd_e h v2_7 ev2_7
          refine lv_istore_n (lv' := [(2, .int v2_7), (0, .ref (adc 0)), (1, .int p1), (3, .int v3_2)]) hx hb dX3_blocksIn_30 rfl hl (by decide) rfl (fun ls hl => ?_)
          obtain ⟨v3_8, ev3_8⟩ : ∃ y : Int32, y = v3_2 + 1 := ⟨_, rfl⟩
          have h := bd_e h v3_8 ev3_8
          refine lv_iinc (v := v3_8) (lv' := [(3, .int v3_8), (2, .int v2_7), (0, .ref (adc 0)), (1, .int p1)]) hx hb dX3_blocksIn_31 hl (k := 3) rfl (by rw [ev3_8]; rfl) (by decide) rfl (fun ls hl => ?_)
          refine lv_goto (tgt := 4) hx hb dX3_blocksIn_34 (by decide) ?_
          exact ih v2_7 v3_8 z _ _ _ hN (lv_sub hl [2, 3, 1, 0] rfl) h K
  obtain ⟨z_9, hz_9, h⟩ := bi_e h
  refine L1 500 0 0 z_9 _ _ _ hN (lv_sub hl [2, 3, 1, 0] rfl) hz_9 (fun H locs ls hN hl => ?_)
  refine lv_iload_n hx hb dX3_blocksIn_37 rfl (lv_at hl 2 rfl) ?_
  obtain rfl := Option.some.inj h
  exact n_iret hC hN dX3_blocksIn_38
set_option maxHeartbeats 4000000 in
set_option maxRecDepth 100000 in
theorem tX3_zoneSet (l : Launch) (E : EV) (adc : Nat → Nat) (c_switches : Int32) (c_hosts : Int32) (c_renewing : Int32) (c_priorities : Nat → Int32) (c_names : Nat → Int32) (c_wants : Nat → Int32) (c_blocks : Nat → Int32) (c_upTo : Nat → Int32) (c_clashedTo : Nat → Int32) (c_zoneSets : Nat → Int32) (c_places : Nat → Int32) (c_notices : Nat → Int32) (c_news : Nat → Int32) (p1 : Int32) (p2 : Int32) (z : Int32) (h : fX3_zoneSet c_switches c_zoneSets p1 p2 = some z) : Cn l E yX3_zoneSet cX3_zoneSet 4 (some .int) 0 0 [.ref (adc 0), .int p1, .int p2] (wX3 E adc c_switches c_hosts c_renewing c_priorities c_names c_wants c_blocks c_upTo c_clashedTo c_zoneSets c_places c_notices c_news) (wX3 E adc c_switches c_hosts c_renewing c_priorities c_names c_wants c_blocks c_upTo c_clashedTo c_zoneSets c_places c_notices c_news) (some (.int z)) := by
  refine Cn.ofW (by decide +kernel) (Nat.le_of_ble_eq_true rfl) ?_
  intro p e s m args below meth c ls hC hN hl
  have hl : lv_has ls 4 [(0, .ref (adc 0)), (1, .int p1), (2, .int p2)] := hl
  have hx := hC.1
  have hb := hC.2.1
  unfold fX3_zoneSet at h
  refine lv_iload_n hx hb dX3_zoneSet_0 rfl (lv_at hl 1 rfl) ?_
  refine lv_if_lt (tgt := 25) hx hb dX3_zoneSet_1 (by decide) (fun c1 => ?_) (fun c1 => ?_)
  · have h := if_t h c1
    refine lv_iconst (v := 0) hx hb dX3_zoneSet_25 rfl ?_
    refine lv_istore_n (lv' := [(3, .int 0), (0, .ref (adc 0)), (1, .int p1), (2, .int p2)]) hx hb dX3_zoneSet_26 rfl hl (by decide) rfl (fun ls hl => ?_)
    refine lv_iload_n hx hb dX3_zoneSet_27 rfl (lv_at hl 0 rfl) ?_
    refine lv_if_eq (tgt := 44) hx hb dX3_zoneSet_28 (by decide) (fun c2 => ?_) (fun c2 => ?_)
    · refine lv_iconst (v := 0) hx hb dX3_zoneSet_44 rfl ?_
      obtain rfl := Option.some.inj h
      exact n_iret hC hN dX3_zoneSet_45
    · exact absurd c2 (by decide)
  · have h := if_f h c1
    refine lv_iload_n hx hb dX3_zoneSet_4 rfl (lv_at hl 1 rfl) ?_
    refine lv_aload_n hx hb dX3_zoneSet_5 rfl (lv_at hl 0 rfl) ?_
    refine gt_X3_switches hC hN 0 rfl rfl dX3_zoneSet_6 ?_
    refine lv_icmp_ge (tgt := 25) hx hb dX3_zoneSet_9 (by decide) (fun c3 => ?_) (fun c3 => ?_)
    · have h := if_t h c3
      refine lv_iconst (v := 0) hx hb dX3_zoneSet_25 rfl ?_
      refine lv_istore_n (lv' := [(3, .int 0), (0, .ref (adc 0)), (1, .int p1), (2, .int p2)]) hx hb dX3_zoneSet_26 rfl hl (by decide) rfl (fun ls hl => ?_)
      refine lv_iload_n hx hb dX3_zoneSet_27 rfl (lv_at hl 0 rfl) ?_
      refine lv_if_eq (tgt := 44) hx hb dX3_zoneSet_28 (by decide) (fun c4 => ?_) (fun c4 => ?_)
      · refine lv_iconst (v := 0) hx hb dX3_zoneSet_44 rfl ?_
        obtain rfl := Option.some.inj h
        exact n_iret hC hN dX3_zoneSet_45
      · exact absurd c4 (by decide)
    · have h := if_f h c3
      refine lv_iload_n hx hb dX3_zoneSet_12 rfl (lv_at hl 2 rfl) ?_
      refine lv_if_lt (tgt := 25) hx hb dX3_zoneSet_13 (by decide) (fun c5 => ?_) (fun c5 => ?_)
      · have h := if_t h c5
        refine lv_iconst (v := 0) hx hb dX3_zoneSet_25 rfl ?_
        refine lv_istore_n (lv' := [(3, .int 0), (0, .ref (adc 0)), (1, .int p1), (2, .int p2)]) hx hb dX3_zoneSet_26 rfl hl (by decide) rfl (fun ls hl => ?_)
        refine lv_iload_n hx hb dX3_zoneSet_27 rfl (lv_at hl 0 rfl) ?_
        refine lv_if_eq (tgt := 44) hx hb dX3_zoneSet_28 (by decide) (fun c6 => ?_) (fun c6 => ?_)
        · refine lv_iconst (v := 0) hx hb dX3_zoneSet_44 rfl ?_
          obtain rfl := Option.some.inj h
          exact n_iret hC hN dX3_zoneSet_45
        · exact absurd c6 (by decide)
      · have h := if_f h c5
        refine lv_iload_n hx hb dX3_zoneSet_16 rfl (lv_at hl 2 rfl) ?_
        refine lv_iconst (v := 4) hx hb dX3_zoneSet_17 rfl ?_
        refine lv_icmp_ge (tgt := 25) hx hb dX3_zoneSet_18 (by decide) (fun c7 => ?_) (fun c7 => ?_)
        · have h := if_t h c7
          refine lv_iconst (v := 0) hx hb dX3_zoneSet_25 rfl ?_
          refine lv_istore_n (lv' := [(3, .int 0), (0, .ref (adc 0)), (1, .int p1), (2, .int p2)]) hx hb dX3_zoneSet_26 rfl hl (by decide) rfl (fun ls hl => ?_)
          refine lv_iload_n hx hb dX3_zoneSet_27 rfl (lv_at hl 0 rfl) ?_
          refine lv_if_eq (tgt := 44) hx hb dX3_zoneSet_28 (by decide) (fun c8 => ?_) (fun c8 => ?_)
          · refine lv_iconst (v := 0) hx hb dX3_zoneSet_44 rfl ?_
            obtain rfl := Option.some.inj h
            exact n_iret hC hN dX3_zoneSet_45
          · exact absurd c8 (by decide)
        · have h := if_f h c7
          refine lv_iconst (v := 1) hx hb dX3_zoneSet_21 rfl ?_
          refine lv_goto (tgt := 26) hx hb dX3_zoneSet_22 (by decide) ?_
          refine lv_istore_n (lv' := [(3, .int 1), (0, .ref (adc 0)), (1, .int p1), (2, .int p2)]) hx hb dX3_zoneSet_26 rfl hl (by decide) rfl (fun ls hl => ?_)
          refine lv_iload_n hx hb dX3_zoneSet_27 rfl (lv_at hl 0 rfl) ?_
          refine lv_if_eq (tgt := 44) hx hb dX3_zoneSet_28 (by decide) (fun c9 => ?_) (fun c9 => ?_)
          · exact absurd c9 (by decide)
          · refine lv_aload_n hx hb dX3_zoneSet_31 rfl (lv_at hl 1 rfl) ?_
            refine gt_X3_zoneSets hC hN 0 rfl rfl dX3_zoneSet_32 ?_
            refine lv_iload_n hx hb dX3_zoneSet_35 rfl (lv_at hl 2 rfl) ?_
            refine lv_iconst (v := 4) hx hb dX3_zoneSet_36 rfl ?_
            refine lv_imul hx hb dX3_zoneSet_37 ?_
            refine lv_iload_n hx hb dX3_zoneSet_38 rfl (lv_at hl 3 rfl) ?_
            refine lv_iadd hx hb dX3_zoneSet_39 ?_
            have g := inB_vp (gd_c h)
            have h := gd_e h
            refine n_iald hC hN 7 rfl g dX3_zoneSet_40 ?_
            refine lv_goto (tgt := 45) hx hb dX3_zoneSet_41 (by decide) ?_
            obtain rfl := Option.some.inj h
            exact n_iret hC hN dX3_zoneSet_45
set_option maxHeartbeats 4000000 in
set_option maxRecDepth 100000 in
theorem tX3_setZone (l : Launch) (E : EV) (adc : Nat → Nat) (c_switches : Int32) (c_hosts : Int32) (c_renewing : Int32) (c_priorities : Nat → Int32) (c_names : Nat → Int32) (c_wants : Nat → Int32) (c_blocks : Nat → Int32) (c_upTo : Nat → Int32) (c_clashedTo : Nat → Int32) (c_zoneSets : Nat → Int32) (c_places : Nat → Int32) (c_notices : Nat → Int32) (c_news : Nat → Int32) (p1 : Int32) (p2 : Int32) (p3 : Int32) (z : Nat → Int32) (h : fX3_setZone c_switches c_zoneSets p1 p2 p3 = some z) : Cn l E yX3_setZone cX3_setZone 5 none 1 21 [.ref (adc 0), .int p1, .int p2, .int p3] (wX3 E adc c_switches c_hosts c_renewing c_priorities c_names c_wants c_blocks c_upTo c_clashedTo c_zoneSets c_places c_notices c_news) (wX3 E adc c_switches c_hosts c_renewing c_priorities c_names c_wants c_blocks c_upTo c_clashedTo z c_places c_notices c_news) (none) := by
  refine Cn.ofW (by decide +kernel) (Nat.le_of_ble_eq_true rfl) ?_
  intro p e s m args below meth c ls hC hN hl
  obtain ⟨z0, hz0⟩ : ∃ y, y = z := ⟨_, rfl⟩
  rw [← hz0] at h ⊢
  clear hz0
  have hl : lv_has ls 5 [(0, .ref (adc 0)), (1, .int p1), (2, .int p2), (3, .int p3)] := hl
  have hx := hC.1
  have hb := hC.2.1
  unfold fX3_setZone at h
  refine lv_iload_n hx hb dX3_setZone_0 rfl (lv_at hl 2 rfl) ?_
  refine lv_if_lt (tgt := 9) hx hb dX3_setZone_1 (by decide) (fun c1 => ?_) (fun c1 => ?_)
  · have h := if_t h c1
    obtain rfl := Option.some.inj h
    exact n_vret hC hN dX3_setZone_9
  · have h := if_f h c1
    refine lv_iload_n hx hb dX3_setZone_4 rfl (lv_at hl 2 rfl) ?_
    refine lv_iconst (v := 4) hx hb dX3_setZone_5 rfl ?_
    refine lv_icmp_lt (tgt := 10) hx hb dX3_setZone_6 (by decide) (fun c2 => ?_) (fun c2 => ?_)
    · have h := if_t h c2
      refine lv_iconst (v := 0) hx hb dX3_setZone_10 rfl ?_
      refine lv_istore (lv' := [(4, .int 0), (0, .ref (adc 0)), (1, .int p1), (2, .int p2), (3, .int p3)]) hx hb dX3_setZone_11 hl (by decide) rfl (fun ls hl => ?_)
      have L1 : ∀ (fu : Nat) (v4_3 : Int32) (c_zoneSets_4 : Nat → Int32) (z : Int32 × (Nat → Int32)) (H : Heap) (locs : List Loc) (ls : Array Slot), Nw E s (AD (wX3 E adc c_switches c_hosts c_renewing c_priorities c_names c_wants c_blocks c_upTo c_clashedTo c_zoneSets c_places c_notices c_news)) (wX3 E adc c_switches c_hosts c_renewing c_priorities c_names c_wants c_blocks c_upTo c_clashedTo c_zoneSets_4 c_places c_notices c_news) H locs → lv_has ls 5 [(0, .ref (adc 0)), (1, .int p1), (2, .int p2), (3, .int p3), (4, .int v4_3)] → fX3_setZone_L1 c_switches p1 p2 p3 fu v4_3 c_zoneSets_4 = some z → (∀ (H : Heap) (locs : List Loc) (ls : Array Slot), Nw E s (AD (wX3 E adc c_switches c_hosts c_renewing c_priorities c_names c_wants c_blocks c_upTo c_clashedTo c_zoneSets c_places c_notices c_news)) (wX3 E adc c_switches c_hosts c_renewing c_priorities c_names c_wants c_blocks c_upTo c_clashedTo z.2 c_places c_notices c_news) H locs → lv_has ls 5 [(0, .ref (adc 0)), (1, .int p1), (2, .int p2), (3, .int p3), (4, .int z.1)] → WN p l e 1 21 s m args below meth c E (wX3 E adc c_switches c_hosts c_renewing c_priorities c_names c_wants c_blocks c_upTo c_clashedTo c_zoneSets c_places c_notices c_news) (none) (wX3 E adc c_switches c_hosts c_renewing c_priorities c_names c_wants c_blocks c_upTo c_clashedTo z0 c_places c_notices c_news) H locs (F0 m 49 ls [])) → WN p l e 1 21 s m args below meth c E (wX3 E adc c_switches c_hosts c_renewing c_priorities c_names c_wants c_blocks c_upTo c_clashedTo c_zoneSets c_places c_notices c_news) (none) (wX3 E adc c_switches c_hosts c_renewing c_priorities c_names c_wants c_blocks c_upTo c_clashedTo z0 c_places c_notices c_news) H locs (F0 m 13 ls []) := by
        intro fu
        induction fu with
        | zero =>
          intro v4_3 c_zoneSets_4 z H locs ls hN hl h K
          cases (show (none : Option (Int32 × (Nat → Int32))) = some z from h)
        | succ fu ih =>
          intro v4_3 c_zoneSets_4 z H locs ls hN hl h K
          rw [fX3_setZone_L1.eq_2] at h
          refine lv_iload hx hb dX3_setZone_13 (lv_at hl 4 rfl) ?_
          refine lv_aload_n hx hb dX3_setZone_15 rfl (lv_at hl 0 rfl) ?_
          refine gt_X3_switches hC hN 0 rfl rfl dX3_setZone_16 ?_
          refine lv_icmp_ge (tgt := 49) hx hb dX3_setZone_19 (by decide) (fun c5 => ?_) (fun c5 => ?_)
          · have h := if_t h c5
            obtain rfl := Option.some.inj h
            exact K _ _ _ hN (lv_sub hl [0, 1, 2, 3, 4] rfl)
          · have h := if_f h c5
            refine lv_iload_n hx hb dX3_setZone_22 rfl (lv_at hl 1 rfl) ?_
            refine lv_iload hx hb dX3_setZone_23 (lv_at hl 4 rfl) ?_
            obtain ⟨r_6, hr_6, h⟩ := bi_e h
            refine n_callSNi (ws' := wX3 E adc c_switches c_hosts c_renewing c_priorities c_names c_wants c_blocks c_upTo c_clashedTo c_zoneSets_4 c_places c_notices c_news) hC hN (tX7_has l E p1 v4_3 r_6 hr_6) cy_X7_has (List.mem_of_getElem? (i := 8) rfl) mST_X7_has (perm_nil _) (perm_nil _) rfl rfl hl.1 rfl (Nat.le_of_ble_eq_true rfl) dX3_setZone_25 ⟨Nat.le_of_ble_eq_true rfl, Nat.le_of_ble_eq_true rfl⟩ ⟨Nat.le_refl _, Nat.le_refl _⟩ (fun H locs hN => ?_)
            refine lv_if_eq (tgt := 43) hx hb dX3_setZone_28 (by decide) (fun c7 => ?_) (fun c7 => ?_)
            · have h := if_t h c7
              obtain ⟨v4_8, ev4_8⟩ : ∃ y : Int32, y = v4_3 + 1 := ⟨_, rfl⟩
              have h := bd_e h v4_8 ev4_8
              refine lv_iinc (v := v4_8) (lv' := [(4, .int v4_8), (0, .ref (adc 0)), (1, .int p1), (2, .int p2), (3, .int p3)]) hx hb dX3_setZone_43 hl (k := 4) rfl (by rw [ev4_8]; rfl) (by decide) rfl (fun ls hl => ?_)
              refine lv_goto (tgt := 13) hx hb dX3_setZone_46 (by decide) ?_
              exact ih v4_8 c_zoneSets_4 z _ _ _ hN (lv_sub hl [1, 2, 3, 4, 0] rfl) h K
            · have h := if_f h c7
              refine lv_aload_n hx hb dX3_setZone_31 rfl (lv_at hl 0 rfl) ?_
              refine gt_X3_zoneSets hC hN 0 rfl rfl dX3_setZone_32 ?_
              refine lv_iload hx hb dX3_setZone_35 (lv_at hl 4 rfl) ?_
              refine lv_iconst (v := 4) hx hb dX3_setZone_37 rfl ?_
              refine lv_imul hx hb dX3_setZone_38 ?_
              refine lv_iload_n hx hb dX3_setZone_39 rfl (lv_at hl 2 rfl) ?_
              refine lv_iadd hx hb dX3_setZone_40 ?_
              refine lv_iload_n hx hb dX3_setZone_41 rfl (lv_at hl 3 rfl) ?_
              have g := inB_vp (gd_c h)
              have h := gd_e h
              obtain ⟨c_zoneSets_9, ec_zoneSets_9⟩ : ∃ y : Nat → Int32, y = upd c_zoneSets_4 ((v4_3 * 4) + p2).toNatClampNeg p3 := ⟨_, rfl⟩
              have h := bd_e h c_zoneSets_9 ec_zoneSets_9
              refine n_iast hC hN 7 rfl g ec_zoneSets_9 (ws' := wX3 E adc c_switches c_hosts c_renewing c_priorities c_names c_wants c_blocks c_upTo c_clashedTo c_zoneSets_9 c_places c_notices c_news) rfl dX3_setZone_42 (fun H locs hN => ?_)
              obtain ⟨v4_10, ev4_10⟩ : ∃ y : Int32, y = v4_3 + 1 := ⟨_, rfl⟩
              have h := bd_e h v4_10 ev4_10
              refine lv_iinc (v := v4_10) (lv' := [(4, .int v4_10), (0, .ref (adc 0)), (1, .int p1), (2, .int p2), (3, .int p3)]) hx hb dX3_setZone_43 hl (k := 4) rfl (by rw [ev4_10]; rfl) (by decide) rfl (fun ls hl => ?_)
              refine lv_goto (tgt := 13) hx hb dX3_setZone_46 (by decide) ?_
              exact ih v4_10 c_zoneSets_9 z _ _ _ hN (lv_sub hl [1, 2, 3, 4, 0] rfl) h K
      obtain ⟨z_11, hz_11, h⟩ := bi_e h
      refine L1 500 0 c_zoneSets z_11 _ _ _ hN (lv_sub hl [1, 2, 3, 4, 0] rfl) hz_11 (fun H locs ls hN hl => ?_)
      obtain rfl := Option.some.inj h
      exact n_vret hC hN dX3_setZone_49
    · have h := if_f h c2
      obtain rfl := Option.some.inj h
      exact n_vret hC hN dX3_setZone_9
set_option maxHeartbeats 4000000 in
set_option maxRecDepth 100000 in
theorem tX3_zonesClash (l : Launch) (E : EV) (adc : Nat → Nat) (c_switches : Int32) (c_hosts : Int32) (c_renewing : Int32) (c_priorities : Nat → Int32) (c_names : Nat → Int32) (c_wants : Nat → Int32) (c_blocks : Nat → Int32) (c_upTo : Nat → Int32) (c_clashedTo : Nat → Int32) (c_zoneSets : Nat → Int32) (c_places : Nat → Int32) (c_notices : Nat → Int32) (c_news : Nat → Int32) (p1 : Int32) (p2 : Int32) (z : Int32) (h : fX3_zonesClash c_switches c_zoneSets p1 p2 = some z) : Cn l E yX3_zonesClash cX3_zonesClash 6 (some .boolean) 1 23 [.ref (adc 0), .int p1, .int p2] (wX3 E adc c_switches c_hosts c_renewing c_priorities c_names c_wants c_blocks c_upTo c_clashedTo c_zoneSets c_places c_notices c_news) (wX3 E adc c_switches c_hosts c_renewing c_priorities c_names c_wants c_blocks c_upTo c_clashedTo c_zoneSets c_places c_notices c_news) (some (.int z)) := by
  refine Cn.ofW (by decide +kernel) (Nat.le_of_ble_eq_true rfl) ?_
  intro p e s m args below meth c ls hC hN hl
  obtain ⟨z0, hz0⟩ : ∃ y, y = z := ⟨_, rfl⟩
  rw [← hz0] at h ⊢
  clear hz0
  have hl : lv_has ls 6 [(0, .ref (adc 0)), (1, .int p1), (2, .int p2)] := hl
  have hx := hC.1
  have hb := hC.2.1
  unfold fX3_zonesClash at h
  refine lv_iconst (v := 0) hx hb dX3_zonesClash_0 rfl ?_
  refine lv_istore_n (lv' := [(3, .int 0), (0, .ref (adc 0)), (1, .int p1), (2, .int p2)]) hx hb dX3_zonesClash_1 rfl hl (by decide) rfl (fun ls hl => ?_)
  have L1 : ∀ (fu : Nat) (v3_1 : Int32) (z : (Int32) ⊕ (Int32)) (H : Heap) (locs : List Loc) (ls : Array Slot), Nw E s (AD (wX3 E adc c_switches c_hosts c_renewing c_priorities c_names c_wants c_blocks c_upTo c_clashedTo c_zoneSets c_places c_notices c_news)) (wX3 E adc c_switches c_hosts c_renewing c_priorities c_names c_wants c_blocks c_upTo c_clashedTo c_zoneSets c_places c_notices c_news) H locs → lv_has ls 6 [(0, .ref (adc 0)), (1, .int p1), (2, .int p2), (3, .int v3_1)] → fX3_zonesClash_L1 c_switches c_zoneSets p1 p2 fu v3_1 = some z → (∀ y : Int32, z = Sum.inl y → some y = some z0) → (∀ y : Int32, z = Sum.inr y → ∀ (H : Heap) (locs : List Loc) (ls : Array Slot), Nw E s (AD (wX3 E adc c_switches c_hosts c_renewing c_priorities c_names c_wants c_blocks c_upTo c_clashedTo c_zoneSets c_places c_notices c_news)) (wX3 E adc c_switches c_hosts c_renewing c_priorities c_names c_wants c_blocks c_upTo c_clashedTo c_zoneSets c_places c_notices c_news) H locs → lv_has ls 6 [(0, .ref (adc 0)), (1, .int p1), (2, .int p2), (3, .int y)] → WN p l e 1 23 s m args below meth c E (wX3 E adc c_switches c_hosts c_renewing c_priorities c_names c_wants c_blocks c_upTo c_clashedTo c_zoneSets c_places c_notices c_news) (some (.int z0)) (wX3 E adc c_switches c_hosts c_renewing c_priorities c_names c_wants c_blocks c_upTo c_clashedTo c_zoneSets c_places c_notices c_news) H locs (F0 m 48 ls [])) → WN p l e 1 23 s m args below meth c E (wX3 E adc c_switches c_hosts c_renewing c_priorities c_names c_wants c_blocks c_upTo c_clashedTo c_zoneSets c_places c_notices c_news) (some (.int z0)) (wX3 E adc c_switches c_hosts c_renewing c_priorities c_names c_wants c_blocks c_upTo c_clashedTo c_zoneSets c_places c_notices c_news) H locs (F0 m 2 ls []) := by
    intro fu
    induction fu with
    | zero =>
      intro v3_1 z H locs ls hN hl h K1 K
      cases (show (none : Option ((Int32) ⊕ (Int32))) = some z from h)
    | succ fu ih =>
      intro v3_1 z H locs ls hN hl h K1 K
      rw [fX3_zonesClash_L1.eq_2] at h
      refine lv_iload_n hx hb dX3_zonesClash_2 rfl (lv_at hl 3 rfl) ?_
      refine lv_iconst (v := 4) hx hb dX3_zonesClash_3 rfl ?_
      refine lv_icmp_ge (tgt := 48) hx hb dX3_zonesClash_4 (by decide) (fun c2 => ?_) (fun c2 => ?_)
      · have h := if_t h c2
        exact K _ (Option.some.inj h).symm _ _ _ hN (lv_sub hl [0, 1, 2, 3] rfl)
      · have h := if_f h c2
        refine lv_aload_n hx hb dX3_zonesClash_7 rfl (lv_at hl 0 rfl) ?_
        refine lv_iload_n hx hb dX3_zonesClash_8 rfl (lv_at hl 1 rfl) ?_
        refine lv_iload_n hx hb dX3_zonesClash_9 rfl (lv_at hl 3 rfl) ?_
        obtain ⟨r_3, hr_3, h⟩ := bi_e h
        refine n_callVi (ws' := wX3 E adc c_switches c_hosts c_renewing c_priorities c_names c_wants c_blocks c_upTo c_clashedTo c_zoneSets c_places c_notices c_news) hC hN (tX3_zoneSet l E adc c_switches c_hosts c_renewing c_priorities c_names c_wants c_blocks c_upTo c_clashedTo c_zoneSets c_places c_notices c_news p1 v3_1 r_3 hr_3) cy_X3_zoneSet mML_X3_119 mIM_X3_zoneSet mSE_X3_zoneSet rfl rfl (k := 0) rfl (perm_self _) (perm_self _) rfl rfl hl.1 rfl (Nat.le_of_ble_eq_true rfl) dX3_zonesClash_10 ⟨Nat.le_of_ble_eq_true rfl, Nat.le_of_ble_eq_true rfl⟩ ⟨Nat.le_refl _, Nat.le_refl _⟩ (fun H locs hN => ?_)
        refine lv_istore (lv' := [(4, .int r_3), (0, .ref (adc 0)), (1, .int p1), (2, .int p2), (3, .int v3_1)]) hx hb dX3_zonesClash_13 hl (by decide) rfl (fun ls hl => ?_)
        refine lv_aload_n hx hb dX3_zonesClash_15 rfl (lv_at hl 1 rfl) ?_
        refine lv_iload_n hx hb dX3_zonesClash_16 rfl (lv_at hl 3 rfl) ?_
        refine lv_iload_n hx hb dX3_zonesClash_17 rfl (lv_at hl 4 rfl) ?_
        obtain ⟨r_4, hr_4, h⟩ := bi_e h
        refine n_callVi (ws' := wX3 E adc c_switches c_hosts c_renewing c_priorities c_names c_wants c_blocks c_upTo c_clashedTo c_zoneSets c_places c_notices c_news) hC hN (tX3_zoneSet l E adc c_switches c_hosts c_renewing c_priorities c_names c_wants c_blocks c_upTo c_clashedTo c_zoneSets c_places c_notices c_news p2 v3_1 r_4 hr_4) cy_X3_zoneSet mML_X3_119 mIM_X3_zoneSet mSE_X3_zoneSet rfl rfl (k := 0) rfl (perm_self _) (perm_self _) rfl rfl hl.1 rfl (Nat.le_of_ble_eq_true rfl) dX3_zonesClash_18 ⟨Nat.le_of_ble_eq_true rfl, Nat.le_of_ble_eq_true rfl⟩ ⟨Nat.le_refl _, Nat.le_refl _⟩ (fun H locs hN => ?_)
        refine lv_istore (lv' := [(5, .int r_4), (4, .int r_3), (0, .ref (adc 0)), (1, .int p1), (2, .int p2), (3, .int v3_1)]) hx hb dX3_zonesClash_21 hl (by decide) rfl (fun ls hl => ?_)
        refine lv_iload hx hb dX3_zonesClash_23 (lv_at hl 1 rfl) ?_
        refine lv_if_eq (tgt := 42) hx hb dX3_zonesClash_25 (by decide) (fun c5 => ?_) (fun c5 => ?_)
        · have h := if_t h c5
          obtain ⟨v3_6, ev3_6⟩ : ∃ y : Int32, y = v3_1 + 1 := ⟨_, rfl⟩
          have h := bd_e h v3_6 ev3_6
          refine lv_iinc (v := v3_6) (lv' := [(3, .int v3_6), (5, .int r_4), (4, .int r_3), (0, .ref (adc 0)), (1, .int p1), (2, .int p2)]) hx hb dX3_zonesClash_42 hl (k := 5) rfl (by rw [ev3_6]; rfl) (by decide) rfl (fun ls hl => ?_)
          refine lv_goto (tgt := 2) hx hb dX3_zonesClash_45 (by decide) ?_
          exact ih v3_6 z _ _ _ hN (lv_sub hl [3, 4, 5, 0] rfl) h K1 K
        · have h := if_f h c5
          refine lv_iload hx hb dX3_zonesClash_28 (lv_at hl 0 rfl) ?_
          refine lv_if_eq (tgt := 42) hx hb dX3_zonesClash_30 (by decide) (fun c7 => ?_) (fun c7 => ?_)
          · have h := if_t h c7
            obtain ⟨v3_8, ev3_8⟩ : ∃ y : Int32, y = v3_1 + 1 := ⟨_, rfl⟩
            have h := bd_e h v3_8 ev3_8
            refine lv_iinc (v := v3_8) (lv' := [(3, .int v3_8), (5, .int r_4), (4, .int r_3), (0, .ref (adc 0)), (1, .int p1), (2, .int p2)]) hx hb dX3_zonesClash_42 hl (k := 5) rfl (by rw [ev3_8]; rfl) (by decide) rfl (fun ls hl => ?_)
            refine lv_goto (tgt := 2) hx hb dX3_zonesClash_45 (by decide) ?_
            exact ih v3_8 z _ _ _ hN (lv_sub hl [3, 4, 5, 0] rfl) h K1 K
          · have h := if_f h c7
            refine lv_iload hx hb dX3_zonesClash_33 (lv_at hl 1 rfl) ?_
            refine lv_iload hx hb dX3_zonesClash_35 (lv_at hl 0 rfl) ?_
            refine lv_icmp_eq (tgt := 42) hx hb dX3_zonesClash_37 (by decide) (fun c9 => ?_) (fun c9 => ?_)
            · have h := if_t h c9
              obtain ⟨v3_10, ev3_10⟩ : ∃ y : Int32, y = v3_1 + 1 := ⟨_, rfl⟩
              have h := bd_e h v3_10 ev3_10
              refine lv_iinc (v := v3_10) (lv' := [(3, .int v3_10), (5, .int r_4), (4, .int r_3), (0, .ref (adc 0)), (1, .int p1), (2, .int p2)]) hx hb dX3_zonesClash_42 hl (k := 5) rfl (by rw [ev3_10]; rfl) (by decide) rfl (fun ls hl => ?_)
              refine lv_goto (tgt := 2) hx hb dX3_zonesClash_45 (by decide) ?_
              exact ih v3_10 z _ _ _ hN (lv_sub hl [3, 4, 5, 0] rfl) h K1 K
            · have h := if_f h c9
              refine lv_iconst (v := 1) hx hb dX3_zonesClash_40 rfl ?_
              have h := K1 _ (Option.some.inj h).symm
              obtain rfl := Option.some.inj h
              exact n_zret hC hN (Or.inr rfl) dX3_zonesClash_41
  obtain ⟨v3_11, hv3_11, h⟩ := bi_e h
  refine L1 500 0 v3_11 _ _ _ hN (lv_sub hl [1, 2, 3, 0] rfl) hv3_11 (fun y ey => by rw [ey] at h; exact h) (fun y_12 ey H locs ls hN hl => ?_)
  rw [ey] at h
  have h := sum_r h
  refine lv_iconst (v := 0) hx hb dX3_zonesClash_48 rfl ?_
  obtain rfl := Option.some.inj h
  exact n_zret hC hN (Or.inl rfl) dX3_zonesClash_49
set_option maxHeartbeats 4000000 in
set_option maxRecDepth 100000 in
theorem tX3_outcomeOf (l : Launch) (E : EV) (adc : Nat → Nat) (c_switches : Int32) (c_hosts : Int32) (c_renewing : Int32) (c_priorities : Nat → Int32) (c_names : Nat → Int32) (c_wants : Nat → Int32) (c_blocks : Nat → Int32) (c_upTo : Nat → Int32) (c_clashedTo : Nat → Int32) (c_zoneSets : Nat → Int32) (c_places : Nat → Int32) (c_notices : Nat → Int32) (c_news : Nat → Int32) (p1 : Int32) (p2 : Int32) (z : Int32) (h : fX3_outcomeOf c_switches c_renewing c_blocks c_upTo c_zoneSets p1 p2 = some z) : Cn l E yX3_outcomeOf cX3_outcomeOf 5 (some .int) 3 67 [.ref (adc 0), .int p1, .int p2] (wX3 E adc c_switches c_hosts c_renewing c_priorities c_names c_wants c_blocks c_upTo c_clashedTo c_zoneSets c_places c_notices c_news) (wX3 E adc c_switches c_hosts c_renewing c_priorities c_names c_wants c_blocks c_upTo c_clashedTo c_zoneSets c_places c_notices c_news) (some (.int z)) := by
  refine Cn.ofW (by decide +kernel) (Nat.le_of_ble_eq_true rfl) ?_
  intro p e s m args below meth c ls hC hN hl
  have hl : lv_has ls 5 [(0, .ref (adc 0)), (1, .int p1), (2, .int p2)] := hl
  have hx := hC.1
  have hb := hC.2.1
  unfold fX3_outcomeOf at h
  refine lv_aload_n hx hb dX3_outcomeOf_0 rfl (lv_at hl 0 rfl) ?_
  refine lv_iload_n hx hb dX3_outcomeOf_1 rfl (lv_at hl 1 rfl) ?_
  obtain ⟨r_1, hr_1, h⟩ := bi_e h
  refine n_callVi (ws' := wX3 E adc c_switches c_hosts c_renewing c_priorities c_names c_wants c_blocks c_upTo c_clashedTo c_zoneSets c_places c_notices c_news) hC hN (tX3_fabricOf l E adc c_switches c_hosts c_renewing c_priorities c_names c_wants c_blocks c_upTo c_clashedTo c_zoneSets c_places c_notices c_news p1 r_1 hr_1) cy_X3_fabricOf mML_X3_88 mIM_X3_fabricOf mSE_X3_fabricOf rfl rfl (k := 0) rfl (perm_self _) (perm_self _) rfl rfl hl.1 rfl (Nat.le_of_ble_eq_true rfl) dX3_outcomeOf_2 ⟨Nat.le_of_ble_eq_true rfl, Nat.le_of_ble_eq_true rfl⟩ ⟨Nat.le_refl _, Nat.le_refl _⟩ (fun H locs hN => ?_)
  refine lv_istore_n (lv' := [(3, .int r_1), (0, .ref (adc 0)), (1, .int p1), (2, .int p2)]) hx hb dX3_outcomeOf_5 rfl hl (by decide) rfl (fun ls hl => ?_)
  refine lv_iload_n hx hb dX3_outcomeOf_6 rfl (lv_at hl 0 rfl) ?_
  refine lv_iload_n hx hb dX3_outcomeOf_7 rfl (lv_at hl 3 rfl) ?_
  obtain ⟨r_2, hr_2, h⟩ := bi_e h
  refine n_callSNi (ws' := wX3 E adc c_switches c_hosts c_renewing c_priorities c_names c_wants c_blocks c_upTo c_clashedTo c_zoneSets c_places c_notices c_news) hC hN (tX7_has l E r_1 p2 r_2 hr_2) cy_X7_has (List.mem_of_getElem? (i := 8) rfl) mST_X7_has (perm_nil _) (perm_nil _) rfl rfl hl.1 rfl (Nat.le_of_ble_eq_true rfl) dX3_outcomeOf_8 ⟨Nat.le_of_ble_eq_true rfl, Nat.le_of_ble_eq_true rfl⟩ ⟨Nat.le_refl _, Nat.le_refl _⟩ (fun H locs hN => ?_)
  refine lv_if_eq (tgt := 16) hx hb dX3_outcomeOf_11 (by decide) (fun c3 => ?_) (fun c3 => ?_)
  · have h := if_t h c3
    refine lv_aload_n hx hb dX3_outcomeOf_16 rfl (lv_at hl 1 rfl) ?_
    refine lv_iload_n hx hb dX3_outcomeOf_17 rfl (lv_at hl 0 rfl) ?_
    obtain ⟨r_4, hr_4, h⟩ := bi_e h
    refine n_callVi (ws' := wX3 E adc c_switches c_hosts c_renewing c_priorities c_names c_wants c_blocks c_upTo c_clashedTo c_zoneSets c_places c_notices c_news) hC hN (tX3_blocksIn l E adc c_switches c_hosts c_renewing c_priorities c_names c_wants c_blocks c_upTo c_clashedTo c_zoneSets c_places c_notices c_news r_1 r_4 hr_4) cy_X3_blocksIn mML_X3_122 mIM_X3_blocksIn mSE_X3_blocksIn rfl rfl (k := 0) rfl (perm_self _) (perm_self _) rfl rfl hl.1 rfl (Nat.le_of_ble_eq_true rfl) dX3_outcomeOf_18 ⟨Nat.le_of_ble_eq_true rfl, Nat.le_of_ble_eq_true rfl⟩ ⟨Nat.le_refl _, Nat.le_refl _⟩ (fun H locs hN => ?_)
    refine lv_aload_n hx hb dX3_outcomeOf_21 rfl (lv_at hl 1 rfl) ?_
    refine lv_aload_n hx hb dX3_outcomeOf_22 rfl (lv_at hl 1 rfl) ?_
    refine lv_iload_n hx hb dX3_outcomeOf_23 rfl (lv_at hl 3 rfl) ?_
    obtain ⟨r_5, hr_5, h⟩ := bi_e h
    refine n_callVi (ws' := wX3 E adc c_switches c_hosts c_renewing c_priorities c_names c_wants c_blocks c_upTo c_clashedTo c_zoneSets c_places c_notices c_news) hC hN (tX3_fabricOf l E adc c_switches c_hosts c_renewing c_priorities c_names c_wants c_blocks c_upTo c_clashedTo c_zoneSets c_places c_notices c_news p2 r_5 hr_5) cy_X3_fabricOf mML_X3_88 mIM_X3_fabricOf mSE_X3_fabricOf rfl rfl (k := 0) rfl (perm_self _) (perm_self _) rfl rfl hl.1 rfl (Nat.le_of_ble_eq_true rfl) dX3_outcomeOf_24 ⟨Nat.le_of_ble_eq_true rfl, Nat.le_of_ble_eq_true rfl⟩ ⟨Nat.le_refl _, Nat.le_refl _⟩ (fun H locs hN => ?_)
    obtain ⟨r_6, hr_6, h⟩ := bi_e h
    refine n_callVi (ws' := wX3 E adc c_switches c_hosts c_renewing c_priorities c_names c_wants c_blocks c_upTo c_clashedTo c_zoneSets c_places c_notices c_news) hC hN (tX3_blocksIn l E adc c_switches c_hosts c_renewing c_priorities c_names c_wants c_blocks c_upTo c_clashedTo c_zoneSets c_places c_notices c_news r_5 r_6 hr_6) cy_X3_blocksIn mML_X3_122 mIM_X3_blocksIn mSE_X3_blocksIn rfl rfl (k := 0) rfl (perm_self _) (perm_self _) rfl rfl hl.1 rfl (Nat.le_of_ble_eq_true rfl) dX3_outcomeOf_27 ⟨Nat.le_of_ble_eq_true rfl, Nat.le_of_ble_eq_true rfl⟩ ⟨Nat.le_refl _, Nat.le_refl _⟩ (fun H locs hN => ?_)
    refine lv_iand hx hb dX3_outcomeOf_30 ?_
    refine lv_if_eq (tgt := 38) hx hb dX3_outcomeOf_31 (by decide) (fun c7 => ?_) (fun c7 => ?_)
    · have h := if_t h c7
      refine lv_iconst (v := 0) hx hb dX3_outcomeOf_38 rfl ?_
      refine lv_istore (lv' := [(4, .int 0), (3, .int r_1), (0, .ref (adc 0)), (1, .int p1), (2, .int p2)]) hx hb dX3_outcomeOf_39 hl (by decide) rfl (fun ls hl => ?_)
      refine lv_aload_n hx hb dX3_outcomeOf_41 rfl (lv_at hl 2 rfl) ?_
      refine lv_iload_n hx hb dX3_outcomeOf_42 rfl (lv_at hl 3 rfl) ?_
      refine lv_iload_n hx hb dX3_outcomeOf_43 rfl (lv_at hl 4 rfl) ?_
      obtain ⟨r_8, hr_8, h⟩ := bi_e h
      refine n_callVi (ws' := wX3 E adc c_switches c_hosts c_renewing c_priorities c_names c_wants c_blocks c_upTo c_clashedTo c_zoneSets c_places c_notices c_news) hC hN (tX3_zonesClash l E adc c_switches c_hosts c_renewing c_priorities c_names c_wants c_blocks c_upTo c_clashedTo c_zoneSets c_places c_notices c_news p1 p2 r_8 hr_8) cy_X3_zonesClash mML_X3_125 mIM_X3_zonesClash mSE_X3_zonesClash rfl rfl (k := 0) rfl (perm_self _) (perm_self _) rfl rfl hl.1 rfl (Nat.le_of_ble_eq_true rfl) dX3_outcomeOf_44 ⟨Nat.le_of_ble_eq_true rfl, Nat.le_of_ble_eq_true rfl⟩ ⟨Nat.le_refl _, Nat.le_refl _⟩ (fun H locs hN => ?_)
      refine lv_if_eq (tgt := 61) hx hb dX3_outcomeOf_47 (by decide) (fun c9 => ?_) (fun c9 => ?_)
      · have h := if_t h c9
        refine lv_iload hx hb dX3_outcomeOf_61 (lv_at hl 0 rfl) ?_
        refine lv_if_eq (tgt := 79) hx hb dX3_outcomeOf_63 (by decide) (fun c10 => ?_) (fun c10 => ?_)
        · refine lv_iconst (v := 1) hx hb dX3_outcomeOf_79 rfl ?_
          obtain rfl := Option.some.inj h
          exact n_iret hC hN dX3_outcomeOf_80
        · exact absurd c10 (by decide)
      · have h := if_f h c9
        refine lv_iload hx hb dX3_outcomeOf_50 (lv_at hl 0 rfl) ?_
        refine lv_if_eq (tgt := 59) hx hb dX3_outcomeOf_52 (by decide) (fun c11 => ?_) (fun c11 => ?_)
        · refine lv_iconst (v := 4) hx hb dX3_outcomeOf_59 rfl ?_
          obtain rfl := Option.some.inj h
          exact n_iret hC hN dX3_outcomeOf_60
        · exact absurd c11 (by decide)
    · have h := if_f h c7
      refine lv_iconst (v := 1) hx hb dX3_outcomeOf_34 rfl ?_
      refine lv_goto (tgt := 39) hx hb dX3_outcomeOf_35 (by decide) ?_
      refine lv_istore (lv' := [(4, .int 1), (3, .int r_1), (0, .ref (adc 0)), (1, .int p1), (2, .int p2)]) hx hb dX3_outcomeOf_39 hl (by decide) rfl (fun ls hl => ?_)
      refine lv_aload_n hx hb dX3_outcomeOf_41 rfl (lv_at hl 2 rfl) ?_
      refine lv_iload_n hx hb dX3_outcomeOf_42 rfl (lv_at hl 3 rfl) ?_
      refine lv_iload_n hx hb dX3_outcomeOf_43 rfl (lv_at hl 4 rfl) ?_
      obtain ⟨r_12, hr_12, h⟩ := bi_e h
      refine n_callVi (ws' := wX3 E adc c_switches c_hosts c_renewing c_priorities c_names c_wants c_blocks c_upTo c_clashedTo c_zoneSets c_places c_notices c_news) hC hN (tX3_zonesClash l E adc c_switches c_hosts c_renewing c_priorities c_names c_wants c_blocks c_upTo c_clashedTo c_zoneSets c_places c_notices c_news p1 p2 r_12 hr_12) cy_X3_zonesClash mML_X3_125 mIM_X3_zonesClash mSE_X3_zonesClash rfl rfl (k := 0) rfl (perm_self _) (perm_self _) rfl rfl hl.1 rfl (Nat.le_of_ble_eq_true rfl) dX3_outcomeOf_44 ⟨Nat.le_of_ble_eq_true rfl, Nat.le_of_ble_eq_true rfl⟩ ⟨Nat.le_refl _, Nat.le_refl _⟩ (fun H locs hN => ?_)
      refine lv_if_eq (tgt := 61) hx hb dX3_outcomeOf_47 (by decide) (fun c13 => ?_) (fun c13 => ?_)
      · have h := if_t h c13
        refine lv_iload hx hb dX3_outcomeOf_61 (lv_at hl 0 rfl) ?_
        refine lv_if_eq (tgt := 79) hx hb dX3_outcomeOf_63 (by decide) (fun c14 => ?_) (fun c14 => ?_)
        · exact absurd c14 (by decide)
        · refine lv_aload_n hx hb dX3_outcomeOf_66 rfl (lv_at hl 2 rfl) ?_
          refine gt_X3_renewing hC hN 0 rfl rfl dX3_outcomeOf_67 ?_
          refine lv_if_eq (tgt := 77) hx hb dX3_outcomeOf_70 (by decide) (fun c15 => ?_) (fun c15 => ?_)
          · have h := if_t h c15
            refine lv_iconst (v := 3) hx hb dX3_outcomeOf_77 rfl ?_
            obtain rfl := Option.some.inj h
            exact n_iret hC hN dX3_outcomeOf_78
          · have h := if_f h c15
            refine lv_iconst (v := 2) hx hb dX3_outcomeOf_73 rfl ?_
            refine lv_goto (tgt := 78) hx hb dX3_outcomeOf_74 (by decide) ?_
            obtain rfl := Option.some.inj h
            exact n_iret hC hN dX3_outcomeOf_78
      · have h := if_f h c13
        refine lv_iload hx hb dX3_outcomeOf_50 (lv_at hl 0 rfl) ?_
        refine lv_if_eq (tgt := 59) hx hb dX3_outcomeOf_52 (by decide) (fun c16 => ?_) (fun c16 => ?_)
        · exact absurd c16 (by decide)
        · refine lv_iconst (v := 5) hx hb dX3_outcomeOf_55 rfl ?_
          refine lv_goto (tgt := 60) hx hb dX3_outcomeOf_56 (by decide) ?_
          obtain rfl := Option.some.inj h
          exact n_iret hC hN dX3_outcomeOf_60
  · have h := if_f h c3
    refine lv_iconst (v := 0) hx hb dX3_outcomeOf_14 rfl ?_
    obtain rfl := Option.some.inj h
    exact n_iret hC hN dX3_outcomeOf_15
set_option maxHeartbeats 4000000 in
set_option maxRecDepth 100000 in
theorem tX3_shareZones (l : Launch) (E : EV) (adc : Nat → Nat) (c_switches : Int32) (c_hosts : Int32) (c_renewing : Int32) (c_priorities : Nat → Int32) (c_names : Nat → Int32) (c_wants : Nat → Int32) (c_blocks : Nat → Int32) (c_upTo : Nat → Int32) (c_clashedTo : Nat → Int32) (c_zoneSets : Nat → Int32) (c_places : Nat → Int32) (c_notices : Nat → Int32) (c_news : Nat → Int32) (p1 : Int32) (p2 : Int32) (z : Nat → Int32) (h : fX3_shareZones c_switches c_upTo c_zoneSets p1 p2 = some z) : Cn l E yX3_shareZones cX3_shareZones 5 none 3 67 [.ref (adc 0), .int p1, .int p2] (wX3 E adc c_switches c_hosts c_renewing c_priorities c_names c_wants c_blocks c_upTo c_clashedTo c_zoneSets c_places c_notices c_news) (wX3 E adc c_switches c_hosts c_renewing c_priorities c_names c_wants c_blocks c_upTo c_clashedTo z c_places c_notices c_news) (none) := by
  refine Cn.ofW (by decide +kernel) (Nat.le_of_ble_eq_true rfl) ?_
  intro p e s m args below meth c ls hC hN hl
  obtain ⟨z0, hz0⟩ : ∃ y, y = z := ⟨_, rfl⟩
  rw [← hz0] at h ⊢
  clear hz0
  have hl : lv_has ls 5 [(0, .ref (adc 0)), (1, .int p1), (2, .int p2)] := hl
  have hx := hC.1
  have hb := hC.2.1
  unfold fX3_shareZones at h
  refine lv_aload_n hx hb dX3_shareZones_0 rfl (lv_at hl 0 rfl) ?_
  refine lv_iload_n hx hb dX3_shareZones_1 rfl (lv_at hl 1 rfl) ?_
  obtain ⟨r_1, hr_1, h⟩ := bi_e h
  refine n_callVi (ws' := wX3 E adc c_switches c_hosts c_renewing c_priorities c_names c_wants c_blocks c_upTo c_clashedTo c_zoneSets c_places c_notices c_news) hC hN (tX3_fabricOf l E adc c_switches c_hosts c_renewing c_priorities c_names c_wants c_blocks c_upTo c_clashedTo c_zoneSets c_places c_notices c_news p1 r_1 hr_1) cy_X3_fabricOf mML_X3_88 mIM_X3_fabricOf mSE_X3_fabricOf rfl rfl (k := 0) rfl (perm_self _) (perm_self _) rfl rfl hl.1 rfl (Nat.le_of_ble_eq_true rfl) dX3_shareZones_2 ⟨Nat.le_of_ble_eq_true rfl, Nat.le_of_ble_eq_true rfl⟩ ⟨Nat.le_refl _, Nat.le_refl _⟩ (fun H locs hN => ?_)
  refine lv_istore_n (lv' := [(3, .int r_1), (0, .ref (adc 0)), (1, .int p1), (2, .int p2)]) hx hb dX3_shareZones_5 rfl hl (by decide) rfl (fun ls hl => ?_)
  refine lv_iconst (v := 0) hx hb dX3_shareZones_6 rfl ?_
  refine lv_istore (lv' := [(4, .int 0), (3, .int r_1), (0, .ref (adc 0)), (1, .int p1), (2, .int p2)]) hx hb dX3_shareZones_7 hl (by decide) rfl (fun ls hl => ?_)
  have L1 : ∀ (fu : Nat) (v4_2 : Int32) (c_zoneSets_3 : Nat → Int32) (z : Int32 × (Nat → Int32)) (H : Heap) (locs : List Loc) (ls : Array Slot), Nw E s (AD (wX3 E adc c_switches c_hosts c_renewing c_priorities c_names c_wants c_blocks c_upTo c_clashedTo c_zoneSets c_places c_notices c_news)) (wX3 E adc c_switches c_hosts c_renewing c_priorities c_names c_wants c_blocks c_upTo c_clashedTo c_zoneSets_3 c_places c_notices c_news) H locs → lv_has ls 5 [(0, .ref (adc 0)), (1, .int p1), (2, .int p2), (3, .int r_1), (4, .int v4_2)] → fX3_shareZones_L1 c_switches p1 p2 r_1 fu v4_2 c_zoneSets_3 = some z → (∀ (H : Heap) (locs : List Loc) (ls : Array Slot), Nw E s (AD (wX3 E adc c_switches c_hosts c_renewing c_priorities c_names c_wants c_blocks c_upTo c_clashedTo c_zoneSets c_places c_notices c_news)) (wX3 E adc c_switches c_hosts c_renewing c_priorities c_names c_wants c_blocks c_upTo c_clashedTo z.2 c_places c_notices c_news) H locs → lv_has ls 5 [(0, .ref (adc 0)), (1, .int p1), (2, .int p2), (3, .int r_1), (4, .int z.1)] → WN p l e 3 67 s m args below meth c E (wX3 E adc c_switches c_hosts c_renewing c_priorities c_names c_wants c_blocks c_upTo c_clashedTo c_zoneSets c_places c_notices c_news) (none) (wX3 E adc c_switches c_hosts c_renewing c_priorities c_names c_wants c_blocks c_upTo c_clashedTo z0 c_places c_notices c_news) H locs (F0 m 43 ls [])) → WN p l e 3 67 s m args below meth c E (wX3 E adc c_switches c_hosts c_renewing c_priorities c_names c_wants c_blocks c_upTo c_clashedTo c_zoneSets c_places c_notices c_news) (none) (wX3 E adc c_switches c_hosts c_renewing c_priorities c_names c_wants c_blocks c_upTo c_clashedTo z0 c_places c_notices c_news) H locs (F0 m 9 ls []) := by
    intro fu
    induction fu with
    | zero =>
      intro v4_2 c_zoneSets_3 z H locs ls hN hl h K
      cases (show (none : Option (Int32 × (Nat → Int32))) = some z from h)
    | succ fu ih =>
      intro v4_2 c_zoneSets_3 z H locs ls hN hl h K
      rw [fX3_shareZones_L1.eq_2] at h
      refine lv_iload hx hb dX3_shareZones_9 (lv_at hl 4 rfl) ?_
      refine lv_iconst (v := 4) hx hb dX3_shareZones_11 rfl ?_
      refine lv_icmp_ge (tgt := 43) hx hb dX3_shareZones_12 (by decide) (fun c4 => ?_) (fun c4 => ?_)
      · have h := if_t h c4
        obtain rfl := Option.some.inj h
        exact K _ _ _ hN (lv_sub hl [0, 1, 2, 3, 4] rfl)
      · have h := if_f h c4
        refine lv_aload_n hx hb dX3_shareZones_15 rfl (lv_at hl 0 rfl) ?_
        refine lv_iload_n hx hb dX3_shareZones_16 rfl (lv_at hl 3 rfl) ?_
        refine lv_iload hx hb dX3_shareZones_17 (lv_at hl 4 rfl) ?_
        refine lv_aload_n hx hb dX3_shareZones_19 rfl (lv_at hl 0 rfl) ?_
        refine lv_iload_n hx hb dX3_shareZones_20 rfl (lv_at hl 1 rfl) ?_
        refine lv_iload hx hb dX3_shareZones_21 (lv_at hl 4 rfl) ?_
        obtain ⟨r_5, hr_5, h⟩ := bi_e h
        refine n_callVi (ws' := wX3 E adc c_switches c_hosts c_renewing c_priorities c_names c_wants c_blocks c_upTo c_clashedTo c_zoneSets_3 c_places c_notices c_news) hC hN (tX3_zoneSet l E adc c_switches c_hosts c_renewing c_priorities c_names c_wants c_blocks c_upTo c_clashedTo c_zoneSets_3 c_places c_notices c_news p1 v4_2 r_5 hr_5) cy_X3_zoneSet mML_X3_119 mIM_X3_zoneSet mSE_X3_zoneSet rfl rfl (k := 0) rfl (perm_self _) (perm_self _) rfl rfl hl.1 rfl (Nat.le_of_ble_eq_true rfl) dX3_shareZones_23 ⟨Nat.le_of_ble_eq_true rfl, Nat.le_of_ble_eq_true rfl⟩ ⟨Nat.le_refl _, Nat.le_refl _⟩ (fun H locs hN => ?_)
        refine lv_aload_n hx hb dX3_shareZones_26 rfl (lv_at hl 0 rfl) ?_
        refine lv_iload_n hx hb dX3_shareZones_27 rfl (lv_at hl 2 rfl) ?_
        refine lv_iload hx hb dX3_shareZones_28 (lv_at hl 4 rfl) ?_
        obtain ⟨r_6, hr_6, h⟩ := bi_e h
        refine n_callVi (ws' := wX3 E adc c_switches c_hosts c_renewing c_priorities c_names c_wants c_blocks c_upTo c_clashedTo c_zoneSets_3 c_places c_notices c_news) hC hN (tX3_zoneSet l E adc c_switches c_hosts c_renewing c_priorities c_names c_wants c_blocks c_upTo c_clashedTo c_zoneSets_3 c_places c_notices c_news p2 v4_2 r_6 hr_6) cy_X3_zoneSet mML_X3_119 mIM_X3_zoneSet mSE_X3_zoneSet rfl rfl (k := 0) rfl (perm_self _) (perm_self _) rfl rfl hl.1 rfl (Nat.le_of_ble_eq_true rfl) dX3_shareZones_30 ⟨Nat.le_of_ble_eq_true rfl, Nat.le_of_ble_eq_true rfl⟩ ⟨Nat.le_refl _, Nat.le_refl _⟩ (fun H locs hN => ?_)
        refine lv_ior hx hb dX3_shareZones_33 ?_
        obtain ⟨z_7, hz_7, h⟩ := bi_e h
        refine n_callVv (ws' := wX3 E adc c_switches c_hosts c_renewing c_priorities c_names c_wants c_blocks c_upTo c_clashedTo z_7 c_places c_notices c_news) hC hN (tX3_setZone l E adc c_switches c_hosts c_renewing c_priorities c_names c_wants c_blocks c_upTo c_clashedTo c_zoneSets_3 c_places c_notices c_news r_1 v4_2 (r_5 ||| r_6) z_7 hz_7) cy_X3_setZone mML_X3_140 mIM_X3_setZone mSE_X3_setZone rfl rfl (k := 0) rfl (perm_self _) (perm_self _) rfl rfl hl.1 rfl (Nat.le_of_ble_eq_true rfl) dX3_shareZones_34 ⟨Nat.le_of_ble_eq_true rfl, Nat.le_of_ble_eq_true rfl⟩ ⟨Nat.le_refl _, Nat.le_refl _⟩ (fun H locs hN => ?_)
        obtain ⟨v4_8, ev4_8⟩ : ∃ y : Int32, y = v4_2 + 1 := ⟨_, rfl⟩
        have h := bd_e h v4_8 ev4_8
        refine lv_iinc (v := v4_8) (lv' := [(4, .int v4_8), (0, .ref (adc 0)), (1, .int p1), (2, .int p2), (3, .int r_1)]) hx hb dX3_shareZones_37 hl (k := 4) rfl (by rw [ev4_8]; rfl) (by decide) rfl (fun ls hl => ?_)
        refine lv_goto (tgt := 9) hx hb dX3_shareZones_40 (by decide) ?_
        exact ih v4_8 z_7 z _ _ _ hN (lv_sub hl [1, 2, 3, 4, 0] rfl) h K
  obtain ⟨z_9, hz_9, h⟩ := bi_e h
  refine L1 500 0 c_zoneSets z_9 _ _ _ hN (lv_sub hl [2, 3, 4, 1, 0] rfl) hz_9 (fun H locs ls hN hl => ?_)
  obtain rfl := Option.some.inj h
  exact n_vret hC hN dX3_shareZones_43
set_option maxHeartbeats 4000000 in
set_option maxRecDepth 100000 in
theorem tX3_join (l : Launch) (E : EV) (adc : Nat → Nat) (c_switches : Int32) (c_hosts : Int32) (c_renewing : Int32) (c_priorities : Nat → Int32) (c_names : Nat → Int32) (c_wants : Nat → Int32) (c_blocks : Nat → Int32) (c_upTo : Nat → Int32) (c_clashedTo : Nat → Int32) (c_zoneSets : Nat → Int32) (c_places : Nat → Int32) (c_notices : Nat → Int32) (c_news : Nat → Int32) (p1 : Int32) (p2 : Int32) (z : Int32 × (Nat → Int32) × (Nat → Int32) × (Nat → Int32) × (Nat → Int32)) (h : fX3_join c_switches c_renewing c_priorities c_names c_wants c_blocks c_upTo c_clashedTo c_zoneSets p1 p2 = some z) : Cn l E yX3_join cX3_join 4 (some .boolean) 5 115 [.ref (adc 0), .int p1, .int p2] (wX3 E adc c_switches c_hosts c_renewing c_priorities c_names c_wants c_blocks c_upTo c_clashedTo c_zoneSets c_places c_notices c_news) (wX3 E adc c_switches c_hosts c_renewing c_priorities c_names c_wants z.2.1 z.2.2.1 z.2.2.2.1 z.2.2.2.2 c_places c_notices c_news) (some (.int z.1)) := by
  refine Cn.ofW (by decide +kernel) (Nat.le_of_ble_eq_true rfl) ?_
  intro p e s m args below meth c ls hC hN hl
  have hl : lv_has ls 4 [(0, .ref (adc 0)), (1, .int p1), (2, .int p2)] := hl
  have hx := hC.1
  have hb := hC.2.1
  unfold fX3_join at h
  refine lv_aload_n hx hb dX3_join_0 rfl (lv_at hl 0 rfl) ?_
  refine lv_iload_n hx hb dX3_join_1 rfl (lv_at hl 1 rfl) ?_
  refine lv_iload_n hx hb dX3_join_2 rfl (lv_at hl 2 rfl) ?_
  obtain ⟨r_1, hr_1, h⟩ := bi_e h
  refine n_callVi (ws' := wX3 E adc c_switches c_hosts c_renewing c_priorities c_names c_wants c_blocks c_upTo c_clashedTo c_zoneSets c_places c_notices c_news) hC hN (tX3_outcomeOf l E adc c_switches c_hosts c_renewing c_priorities c_names c_wants c_blocks c_upTo c_clashedTo c_zoneSets c_places c_notices c_news p1 p2 r_1 hr_1) cy_X3_outcomeOf mML_X3_128 mIM_X3_outcomeOf mSE_X3_outcomeOf rfl rfl (k := 0) rfl (perm_self _) (perm_self _) rfl rfl hl.1 rfl (Nat.le_of_ble_eq_true rfl) dX3_join_3 ⟨Nat.le_of_ble_eq_true rfl, Nat.le_of_ble_eq_true rfl⟩ ⟨Nat.le_refl _, Nat.le_refl _⟩ (fun H locs hN => ?_)
  refine lv_istore_n (lv' := [(3, .int r_1), (0, .ref (adc 0)), (1, .int p1), (2, .int p2)]) hx hb dX3_join_6 rfl hl (by decide) rfl (fun ls hl => ?_)
  refine lv_iload_n hx hb dX3_join_7 rfl (lv_at hl 0 rfl) ?_
  refine lv_iconst (v := 3) hx hb dX3_join_8 rfl ?_
  refine lv_icmp_lt (tgt := 21) hx hb dX3_join_9 (by decide) (fun c2 => ?_) (fun c2 => ?_)
  · have h := if_t h c2
    refine lv_aload_n hx hb dX3_join_21 rfl (lv_at hl 1 rfl) ?_
    refine lv_iload_n hx hb dX3_join_22 rfl (lv_at hl 2 rfl) ?_
    refine lv_iload_n hx hb dX3_join_23 rfl (lv_at hl 3 rfl) ?_
    refine lv_iconst (v := 1) hx hb dX3_join_24 rfl ?_
    obtain ⟨z_3, hz_3, h⟩ := bi_e h
    refine n_callVv (ws' := wX3 E adc c_switches c_hosts c_renewing c_priorities c_names c_wants c_blocks z_3.1 z_3.2 c_zoneSets c_places c_notices c_news) hC hN (tX3_setLink l E adc c_switches c_hosts c_renewing c_priorities c_names c_wants c_blocks c_upTo c_clashedTo c_zoneSets c_places c_notices c_news p1 p2 1 z_3 hz_3) cy_X3_setLink mML_X3_131 mIM_X3_setLink mSE_X3_setLink rfl rfl (k := 0) rfl (perm_self _) (perm_self _) rfl rfl hl.1 rfl (Nat.le_of_ble_eq_true rfl) dX3_join_25 ⟨Nat.le_of_ble_eq_true rfl, Nat.le_of_ble_eq_true rfl⟩ ⟨Nat.le_refl _, Nat.le_refl _⟩ (fun H locs hN => ?_)
    refine lv_iload_n hx hb dX3_join_28 rfl (lv_at hl 0 rfl) ?_
    refine lv_if_eq (tgt := 38) hx hb dX3_join_29 (by decide) (fun c4 => ?_) (fun c4 => ?_)
    · have h := if_t h c4
      refine lv_iload_n hx hb dX3_join_38 rfl (lv_at hl 0 rfl) ?_
      refine lv_iconst (v := 2) hx hb dX3_join_39 rfl ?_
      refine lv_icmp_ne (tgt := 53) hx hb dX3_join_40 (by decide) (fun c5 => ?_) (fun c5 => ?_)
      · have h := if_f h c5
        refine lv_iconst (v := 1) hx hb dX3_join_53 rfl ?_
        obtain rfl := Option.some.inj h
        exact n_zret hC hN (Or.inr rfl) dX3_join_54
      · have h := if_t h c5
        refine lv_aload_n hx hb dX3_join_43 rfl (lv_at hl 1 rfl) ?_
        refine lv_aload_n hx hb dX3_join_44 rfl (lv_at hl 1 rfl) ?_
        refine lv_iload_n hx hb dX3_join_45 rfl (lv_at hl 2 rfl) ?_
        obtain ⟨r_6, hr_6, h⟩ := bi_e h
        refine n_callVi (ws' := wX3 E adc c_switches c_hosts c_renewing c_priorities c_names c_wants c_blocks z_3.1 z_3.2 c_zoneSets c_places c_notices c_news) hC hN (tX3_fabricOf l E adc c_switches c_hosts c_renewing c_priorities c_names c_wants c_blocks z_3.1 z_3.2 c_zoneSets c_places c_notices c_news p1 r_6 hr_6) cy_X3_fabricOf mML_X3_88 mIM_X3_fabricOf mSE_X3_fabricOf rfl rfl (k := 0) rfl (perm_self _) (perm_self _) rfl rfl hl.1 rfl (Nat.le_of_ble_eq_true rfl) dX3_join_46 ⟨Nat.le_of_ble_eq_true rfl, Nat.le_of_ble_eq_true rfl⟩ ⟨Nat.le_refl _, Nat.le_refl _⟩ (fun H locs hN => ?_)
        obtain ⟨z_7, hz_7, h⟩ := bi_e h
        refine n_callVi (ws' := wX3 E adc c_switches c_hosts c_renewing c_priorities c_names c_wants z_7.2 z_3.1 z_3.2 c_zoneSets c_places c_notices c_news) hC hN (tX3_handOut l E adc c_switches c_hosts c_renewing c_priorities c_names c_wants c_blocks z_3.1 z_3.2 c_zoneSets c_places c_notices c_news r_6 z_7 hz_7) cy_X3_handOut mML_X3_137 mIM_X3_handOut mSE_X3_handOut rfl rfl (k := 0) rfl (perm_self _) (perm_self _) rfl rfl hl.1 rfl (Nat.le_of_ble_eq_true rfl) dX3_join_49 ⟨Nat.le_of_ble_eq_true rfl, Nat.le_of_ble_eq_true rfl⟩ ⟨Nat.le_refl _, Nat.le_refl _⟩ (fun H locs hN => ?_)
        refine lv_pop hx hb dX3_join_52 rfl ?_
        refine lv_iconst (v := 1) hx hb dX3_join_53 rfl ?_
        obtain rfl := Option.some.inj h
        exact n_zret hC hN (Or.inr rfl) dX3_join_54
    · have h := if_f h c4
      refine lv_aload_n hx hb dX3_join_32 rfl (lv_at hl 1 rfl) ?_
      refine lv_iload_n hx hb dX3_join_33 rfl (lv_at hl 2 rfl) ?_
      refine lv_iload_n hx hb dX3_join_34 rfl (lv_at hl 3 rfl) ?_
      obtain ⟨z_8, hz_8, h⟩ := bi_e h
      refine n_callVv (ws' := wX3 E adc c_switches c_hosts c_renewing c_priorities c_names c_wants c_blocks z_3.1 z_3.2 z_8 c_places c_notices c_news) hC hN (tX3_shareZones l E adc c_switches c_hosts c_renewing c_priorities c_names c_wants c_blocks z_3.1 z_3.2 c_zoneSets c_places c_notices c_news p1 p2 z_8 hz_8) cy_X3_shareZones mML_X3_134 mIM_X3_shareZones mSE_X3_shareZones rfl rfl (k := 0) rfl (perm_self _) (perm_self _) rfl rfl hl.1 rfl (Nat.le_of_ble_eq_true rfl) dX3_join_35 ⟨Nat.le_of_ble_eq_true rfl, Nat.le_of_ble_eq_true rfl⟩ ⟨Nat.le_refl _, Nat.le_refl _⟩ (fun H locs hN => ?_)
      refine lv_iload_n hx hb dX3_join_38 rfl (lv_at hl 0 rfl) ?_
      refine lv_iconst (v := 2) hx hb dX3_join_39 rfl ?_
      refine lv_icmp_ne (tgt := 53) hx hb dX3_join_40 (by decide) (fun c9 => ?_) (fun c9 => ?_)
      · have h := if_f h c9
        refine lv_iconst (v := 1) hx hb dX3_join_53 rfl ?_
        obtain rfl := Option.some.inj h
        exact n_zret hC hN (Or.inr rfl) dX3_join_54
      · have h := if_t h c9
        refine lv_aload_n hx hb dX3_join_43 rfl (lv_at hl 1 rfl) ?_
        refine lv_aload_n hx hb dX3_join_44 rfl (lv_at hl 1 rfl) ?_
        refine lv_iload_n hx hb dX3_join_45 rfl (lv_at hl 2 rfl) ?_
        obtain ⟨r_10, hr_10, h⟩ := bi_e h
        refine n_callVi (ws' := wX3 E adc c_switches c_hosts c_renewing c_priorities c_names c_wants c_blocks z_3.1 z_3.2 z_8 c_places c_notices c_news) hC hN (tX3_fabricOf l E adc c_switches c_hosts c_renewing c_priorities c_names c_wants c_blocks z_3.1 z_3.2 z_8 c_places c_notices c_news p1 r_10 hr_10) cy_X3_fabricOf mML_X3_88 mIM_X3_fabricOf mSE_X3_fabricOf rfl rfl (k := 0) rfl (perm_self _) (perm_self _) rfl rfl hl.1 rfl (Nat.le_of_ble_eq_true rfl) dX3_join_46 ⟨Nat.le_of_ble_eq_true rfl, Nat.le_of_ble_eq_true rfl⟩ ⟨Nat.le_refl _, Nat.le_refl _⟩ (fun H locs hN => ?_)
        obtain ⟨z_11, hz_11, h⟩ := bi_e h
        refine n_callVi (ws' := wX3 E adc c_switches c_hosts c_renewing c_priorities c_names c_wants z_11.2 z_3.1 z_3.2 z_8 c_places c_notices c_news) hC hN (tX3_handOut l E adc c_switches c_hosts c_renewing c_priorities c_names c_wants c_blocks z_3.1 z_3.2 z_8 c_places c_notices c_news r_10 z_11 hz_11) cy_X3_handOut mML_X3_137 mIM_X3_handOut mSE_X3_handOut rfl rfl (k := 0) rfl (perm_self _) (perm_self _) rfl rfl hl.1 rfl (Nat.le_of_ble_eq_true rfl) dX3_join_49 ⟨Nat.le_of_ble_eq_true rfl, Nat.le_of_ble_eq_true rfl⟩ ⟨Nat.le_refl _, Nat.le_refl _⟩ (fun H locs hN => ?_)
        refine lv_pop hx hb dX3_join_52 rfl ?_
        refine lv_iconst (v := 1) hx hb dX3_join_53 rfl ?_
        obtain rfl := Option.some.inj h
        exact n_zret hC hN (Or.inr rfl) dX3_join_54
  · have h := if_f h c2
    refine lv_aload_n hx hb dX3_join_12 rfl (lv_at hl 1 rfl) ?_
    refine lv_iload_n hx hb dX3_join_13 rfl (lv_at hl 2 rfl) ?_
    refine lv_iload_n hx hb dX3_join_14 rfl (lv_at hl 3 rfl) ?_
    refine lv_iconst (v := 2) hx hb dX3_join_15 rfl ?_
    obtain ⟨z_12, hz_12, h⟩ := bi_e h
    refine n_callVv (ws' := wX3 E adc c_switches c_hosts c_renewing c_priorities c_names c_wants c_blocks z_12.1 z_12.2 c_zoneSets c_places c_notices c_news) hC hN (tX3_setLink l E adc c_switches c_hosts c_renewing c_priorities c_names c_wants c_blocks c_upTo c_clashedTo c_zoneSets c_places c_notices c_news p1 p2 2 z_12 hz_12) cy_X3_setLink mML_X3_131 mIM_X3_setLink mSE_X3_setLink rfl rfl (k := 0) rfl (perm_self _) (perm_self _) rfl rfl hl.1 rfl (Nat.le_of_ble_eq_true rfl) dX3_join_16 ⟨Nat.le_of_ble_eq_true rfl, Nat.le_of_ble_eq_true rfl⟩ ⟨Nat.le_refl _, Nat.le_refl _⟩ (fun H locs hN => ?_)
    refine lv_iconst (v := 0) hx hb dX3_join_19 rfl ?_
    obtain rfl := Option.some.inj h
    exact n_zret hC hN (Or.inl rfl) dX3_join_20
set_option maxHeartbeats 4000000 in
set_option maxRecDepth 100000 in
theorem tX3_hostsAt (l : Launch) (E : EV) (adc : Nat → Nat) (c_switches : Int32) (c_hosts : Int32) (c_renewing : Int32) (c_priorities : Nat → Int32) (c_names : Nat → Int32) (c_wants : Nat → Int32) (c_blocks : Nat → Int32) (c_upTo : Nat → Int32) (c_clashedTo : Nat → Int32) (c_zoneSets : Nat → Int32) (c_places : Nat → Int32) (c_notices : Nat → Int32) (c_news : Nat → Int32) (p1 : Int32) (z : Int32) (h : fX3_hostsAt c_hosts c_places p1 = some z) : Cn l E yX3_hostsAt cX3_hostsAt 4 (some .int) 1 21 [.ref (adc 0), .int p1] (wX3 E adc c_switches c_hosts c_renewing c_priorities c_names c_wants c_blocks c_upTo c_clashedTo c_zoneSets c_places c_notices c_news) (wX3 E adc c_switches c_hosts c_renewing c_priorities c_names c_wants c_blocks c_upTo c_clashedTo c_zoneSets c_places c_notices c_news) (some (.int z)) := by
  refine Cn.ofW (by decide +kernel) (Nat.le_of_ble_eq_true rfl) ?_
  intro p e s m args below meth c ls hC hN hl
  obtain ⟨z0, hz0⟩ : ∃ y, y = z := ⟨_, rfl⟩
  rw [← hz0] at h ⊢
  clear hz0
  have hl : lv_has ls 4 [(0, .ref (adc 0)), (1, .int p1)] := hl
  have hx := hC.1
  have hb := hC.2.1
  unfold fX3_hostsAt at h
  refine lv_iconst (v := 0) hx hb dX3_hostsAt_0 rfl ?_
  refine lv_istore_n (lv' := [(2, .int 0), (0, .ref (adc 0)), (1, .int p1)]) hx hb dX3_hostsAt_1 rfl hl (by decide) rfl (fun ls hl => ?_)
  refine lv_iconst (v := 0) hx hb dX3_hostsAt_2 rfl ?_
  refine lv_istore_n (lv' := [(3, .int 0), (2, .int 0), (0, .ref (adc 0)), (1, .int p1)]) hx hb dX3_hostsAt_3 rfl hl (by decide) rfl (fun ls hl => ?_)
  have L1 : ∀ (fu : Nat) (v2_1 : Int32) (v3_2 : Int32) (z : Int32 × Int32) (H : Heap) (locs : List Loc) (ls : Array Slot), Nw E s (AD (wX3 E adc c_switches c_hosts c_renewing c_priorities c_names c_wants c_blocks c_upTo c_clashedTo c_zoneSets c_places c_notices c_news)) (wX3 E adc c_switches c_hosts c_renewing c_priorities c_names c_wants c_blocks c_upTo c_clashedTo c_zoneSets c_places c_notices c_news) H locs → lv_has ls 4 [(0, .ref (adc 0)), (1, .int p1), (2, .int v2_1), (3, .int v3_2)] → fX3_hostsAt_L1 c_hosts c_places p1 fu v2_1 v3_2 = some z → (∀ (H : Heap) (locs : List Loc) (ls : Array Slot), Nw E s (AD (wX3 E adc c_switches c_hosts c_renewing c_priorities c_names c_wants c_blocks c_upTo c_clashedTo c_zoneSets c_places c_notices c_news)) (wX3 E adc c_switches c_hosts c_renewing c_priorities c_names c_wants c_blocks c_upTo c_clashedTo c_zoneSets c_places c_notices c_news) H locs → lv_has ls 4 [(0, .ref (adc 0)), (1, .int p1), (2, .int z.1), (3, .int z.2)] → WN p l e 1 21 s m args below meth c E (wX3 E adc c_switches c_hosts c_renewing c_priorities c_names c_wants c_blocks c_upTo c_clashedTo c_zoneSets c_places c_notices c_news) (some (.int z0)) (wX3 E adc c_switches c_hosts c_renewing c_priorities c_names c_wants c_blocks c_upTo c_clashedTo c_zoneSets c_places c_notices c_news) H locs (F0 m 48 ls [])) → WN p l e 1 21 s m args below meth c E (wX3 E adc c_switches c_hosts c_renewing c_priorities c_names c_wants c_blocks c_upTo c_clashedTo c_zoneSets c_places c_notices c_news) (some (.int z0)) (wX3 E adc c_switches c_hosts c_renewing c_priorities c_names c_wants c_blocks c_upTo c_clashedTo c_zoneSets c_places c_notices c_news) H locs (F0 m 4 ls []) := by
    intro fu
    induction fu with
    | zero =>
      intro v2_1 v3_2 z H locs ls hN hl h K
      cases (show (none : Option (Int32 × Int32)) = some z from h)
    | succ fu ih =>
      intro v2_1 v3_2 z H locs ls hN hl h K
      rw [fX3_hostsAt_L1.eq_2] at h
      refine lv_iload_n hx hb dX3_hostsAt_4 rfl (lv_at hl 3 rfl) ?_
      refine lv_aload_n hx hb dX3_hostsAt_5 rfl (lv_at hl 0 rfl) ?_
      refine gt_X3_hosts hC hN 0 rfl rfl dX3_hostsAt_6 ?_
      refine lv_icmp_ge (tgt := 48) hx hb dX3_hostsAt_9 (by decide) (fun c3 => ?_) (fun c3 => ?_)
      · have h := if_t h c3
        obtain rfl := Option.some.inj h
        exact K _ _ _ hN (lv_sub hl [0, 1, 2, 3] rfl)
      · have h := if_f h c3
        refine lv_aload_n hx hb dX3_hostsAt_12 rfl (lv_at hl 0 rfl) ?_
        refine gt_X3_places hC hN 0 rfl rfl dX3_hostsAt_13 ?_
        refine lv_iload_n hx hb dX3_hostsAt_16 rfl (lv_at hl 3 rfl) ?_
        have g := inB_vp (gd_c h)
        have h := gd_e h
        refine n_iald hC hN 8 rfl g dX3_hostsAt_17 ?_
        refine lv_bipush (v := -9) hx hb dX3_hostsAt_18 (by decide) ?_
        refine lv_icmp_eq (tgt := 42) hx hb dX3_hostsAt_20 (by decide) (fun c4 => ?_) (fun c4 => ?_)
        · have h := if_t h c4
          obtain ⟨v3_5, ev3_5⟩ : ∃ y : Int32, y = v3_2 + 1 := ⟨_, rfl⟩
          have h := bd_e h v3_5 ev3_5
          refine lv_iinc (v := v3_5) (lv' := [(3, .int v3_5), (0, .ref (adc 0)), (1, .int p1), (2, .int v2_1)]) hx hb dX3_hostsAt_42 hl (k := 3) rfl (by rw [ev3_5]; rfl) (by decide) rfl (fun ls hl => ?_)
          refine lv_goto (tgt := 4) hx hb dX3_hostsAt_45 (by decide) ?_
          exact ih v2_1 v3_5 z _ _ _ hN (lv_sub hl [1, 2, 3, 0] rfl) h K
        · have h := if_f h c4
          refine lv_iload_n hx hb dX3_hostsAt_23 rfl (lv_at hl 1 rfl) ?_
          refine lv_aload_n hx hb dX3_hostsAt_24 rfl (lv_at hl 0 rfl) ?_
          refine gt_X3_places hC hN 0 rfl rfl dX3_hostsAt_25 ?_
          refine lv_iload_n hx hb dX3_hostsAt_28 rfl (lv_at hl 3 rfl) ?_
          have g := inB_vp (gd_c h)
          have h := gd_e h
          refine n_iald hC hN 8 rfl g dX3_hostsAt_29 ?_
          obtain ⟨r_6, hr_6, h⟩ := bi_e h
          refine n_callSNi (ws' := wX3 E adc c_switches c_hosts c_renewing c_priorities c_names c_wants c_blocks c_upTo c_clashedTo c_zoneSets c_places c_notices c_news) hC hN (tX7_has l E p1 (c_places v3_2.toNatClampNeg) r_6 hr_6) cy_X7_has (List.mem_of_getElem? (i := 8) rfl) mST_X7_has (perm_nil _) (perm_nil _) rfl rfl hl.1 rfl (Nat.le_of_ble_eq_true rfl) dX3_hostsAt_30 ⟨Nat.le_of_ble_eq_true rfl, Nat.le_of_ble_eq_true rfl⟩ ⟨Nat.le_refl _, Nat.le_refl _⟩ (fun H locs hN => ?_)
          refine lv_if_eq (tgt := 42) hx hb dX3_hostsAt_33 (by decide) (fun c7 => ?_) (fun c7 => ?_)
          · have h := if_t h c7
            obtain ⟨v3_8, ev3_8⟩ : ∃ y : Int32, y = v3_2 + 1 := ⟨_, rfl⟩
            have h := bd_e h v3_8 ev3_8
            refine lv_iinc (v := v3_8) (lv' := [(3, .int v3_8), (0, .ref (adc 0)), (1, .int p1), (2, .int v2_1)]) hx hb dX3_hostsAt_42 hl (k := 3) rfl (by rw [ev3_8]; rfl) (by decide) rfl (fun ls hl => ?_)
            refine lv_goto (tgt := 4) hx hb dX3_hostsAt_45 (by decide) ?_
            exact ih v2_1 v3_8 z _ _ _ hN (lv_sub hl [1, 2, 3, 0] rfl) h K
          · have h := if_f h c7
            refine lv_iload_n hx hb dX3_hostsAt_36 rfl (lv_at hl 2 rfl) ?_
            refine lv_iconst (v := 1) hx hb dX3_hostsAt_37 rfl ?_
            refine lv_iload_n hx hb dX3_hostsAt_38 rfl (lv_at hl 3 rfl) ?_
            refine lv_ishl hx hb dX3_hostsAt_39 ?_
            refine lv_ior hx hb dX3_hostsAt_40 ?_
            refine lv_topi (fun v2_9 ev2_9 => ?_)
            have h := bd_e h v2_9 ev2_9
            refine lv_istore_n (lv' := [(2, .int v2_9), (0, .ref (adc 0)), (1, .int p1), (3, .int v3_2)]) hx hb dX3_hostsAt_41 rfl hl (by decide) rfl (fun ls hl => ?_)
            obtain ⟨v3_10, ev3_10⟩ : ∃ y : Int32, y = v3_2 + 1 := ⟨_, rfl⟩
            have h := bd_e h v3_10 ev3_10
            refine lv_iinc (v := v3_10) (lv' := [(3, .int v3_10), (2, .int v2_9), (0, .ref (adc 0)), (1, .int p1)]) hx hb dX3_hostsAt_42 hl (k := 3) rfl (by rw [ev3_10]; rfl) (by decide) rfl (fun ls hl => ?_)
            refine lv_goto (tgt := 4) hx hb dX3_hostsAt_45 (by decide) ?_
            exact ih v2_9 v3_10 z _ _ _ hN (lv_sub hl [2, 3, 1, 0] rfl) h K
  obtain ⟨z_11, hz_11, h⟩ := bi_e h
  refine L1 500 0 0 z_11 _ _ _ hN (lv_sub hl [2, 3, 1, 0] rfl) hz_11 (fun H locs ls hN hl => ?_)
  refine lv_iload_n hx hb dX3_hostsAt_48 rfl (lv_at hl 2 rfl) ?_
  obtain rfl := Option.some.inj h
  exact n_iret hC hN dX3_hostsAt_49
set_option maxHeartbeats 4000000 in
set_option maxRecDepth 100000 in
theorem tX3_zonesEmpty (l : Launch) (E : EV) (adc : Nat → Nat) (c_switches : Int32) (c_hosts : Int32) (c_renewing : Int32) (c_priorities : Nat → Int32) (c_names : Nat → Int32) (c_wants : Nat → Int32) (c_blocks : Nat → Int32) (c_upTo : Nat → Int32) (c_clashedTo : Nat → Int32) (c_zoneSets : Nat → Int32) (c_places : Nat → Int32) (c_notices : Nat → Int32) (c_news : Nat → Int32) (p1 : Int32) (z : Int32) (h : fX3_zonesEmpty c_switches c_zoneSets p1 = some z) : Cn l E yX3_zonesEmpty cX3_zonesEmpty 4 (some .boolean) 1 23 [.ref (adc 0), .int p1] (wX3 E adc c_switches c_hosts c_renewing c_priorities c_names c_wants c_blocks c_upTo c_clashedTo c_zoneSets c_places c_notices c_news) (wX3 E adc c_switches c_hosts c_renewing c_priorities c_names c_wants c_blocks c_upTo c_clashedTo c_zoneSets c_places c_notices c_news) (some (.int z)) := by
  refine Cn.ofW (by decide +kernel) (Nat.le_of_ble_eq_true rfl) ?_
  intro p e s m args below meth c ls hC hN hl
  obtain ⟨z0, hz0⟩ : ∃ y, y = z := ⟨_, rfl⟩
  rw [← hz0] at h ⊢
  clear hz0
  have hl : lv_has ls 4 [(0, .ref (adc 0)), (1, .int p1)] := hl
  have hx := hC.1
  have hb := hC.2.1
  unfold fX3_zonesEmpty at h
  refine lv_iconst (v := 0) hx hb dX3_zonesEmpty_0 rfl ?_
  refine lv_istore_n (lv' := [(2, .int 0), (0, .ref (adc 0)), (1, .int p1)]) hx hb dX3_zonesEmpty_1 rfl hl (by decide) rfl (fun ls hl => ?_)
  refine lv_iconst (v := 0) hx hb dX3_zonesEmpty_2 rfl ?_
  refine lv_istore_n (lv' := [(3, .int 0), (2, .int 0), (0, .ref (adc 0)), (1, .int p1)]) hx hb dX3_zonesEmpty_3 rfl hl (by decide) rfl (fun ls hl => ?_)
  have L1 : ∀ (fu : Nat) (v2_1 : Int32) (v3_2 : Int32) (z : Int32 × Int32) (H : Heap) (locs : List Loc) (ls : Array Slot), Nw E s (AD (wX3 E adc c_switches c_hosts c_renewing c_priorities c_names c_wants c_blocks c_upTo c_clashedTo c_zoneSets c_places c_notices c_news)) (wX3 E adc c_switches c_hosts c_renewing c_priorities c_names c_wants c_blocks c_upTo c_clashedTo c_zoneSets c_places c_notices c_news) H locs → lv_has ls 4 [(0, .ref (adc 0)), (1, .int p1), (2, .int v2_1), (3, .int v3_2)] → fX3_zonesEmpty_L1 c_switches c_zoneSets p1 fu v2_1 v3_2 = some z → (∀ (H : Heap) (locs : List Loc) (ls : Array Slot), Nw E s (AD (wX3 E adc c_switches c_hosts c_renewing c_priorities c_names c_wants c_blocks c_upTo c_clashedTo c_zoneSets c_places c_notices c_news)) (wX3 E adc c_switches c_hosts c_renewing c_priorities c_names c_wants c_blocks c_upTo c_clashedTo c_zoneSets c_places c_notices c_news) H locs → lv_has ls 4 [(0, .ref (adc 0)), (1, .int p1), (2, .int z.1), (3, .int z.2)] → WN p l e 1 23 s m args below meth c E (wX3 E adc c_switches c_hosts c_renewing c_priorities c_names c_wants c_blocks c_upTo c_clashedTo c_zoneSets c_places c_notices c_news) (some (.int z0)) (wX3 E adc c_switches c_hosts c_renewing c_priorities c_names c_wants c_blocks c_upTo c_clashedTo c_zoneSets c_places c_notices c_news) H locs (F0 m 24 ls [])) → WN p l e 1 23 s m args below meth c E (wX3 E adc c_switches c_hosts c_renewing c_priorities c_names c_wants c_blocks c_upTo c_clashedTo c_zoneSets c_places c_notices c_news) (some (.int z0)) (wX3 E adc c_switches c_hosts c_renewing c_priorities c_names c_wants c_blocks c_upTo c_clashedTo c_zoneSets c_places c_notices c_news) H locs (F0 m 4 ls []) := by
    intro fu
    induction fu with
    | zero =>
      intro v2_1 v3_2 z H locs ls hN hl h K
      cases (show (none : Option (Int32 × Int32)) = some z from h)
    | succ fu ih =>
      intro v2_1 v3_2 z H locs ls hN hl h K
      rw [fX3_zonesEmpty_L1.eq_2] at h
      refine lv_iload_n hx hb dX3_zonesEmpty_4 rfl (lv_at hl 3 rfl) ?_
      refine lv_iconst (v := 4) hx hb dX3_zonesEmpty_5 rfl ?_
      refine lv_icmp_ge (tgt := 24) hx hb dX3_zonesEmpty_6 (by decide) (fun c3 => ?_) (fun c3 => ?_)
      · have h := if_t h c3
        obtain rfl := Option.some.inj h
        exact K _ _ _ hN (lv_sub hl [0, 1, 2, 3] rfl)
      · have h := if_f h c3
        refine lv_iload_n hx hb dX3_zonesEmpty_9 rfl (lv_at hl 2 rfl) ?_
        refine lv_aload_n hx hb dX3_zonesEmpty_10 rfl (lv_at hl 0 rfl) ?_
        refine lv_iload_n hx hb dX3_zonesEmpty_11 rfl (lv_at hl 1 rfl) ?_
        refine lv_iload_n hx hb dX3_zonesEmpty_12 rfl (lv_at hl 3 rfl) ?_
        obtain ⟨r_4, hr_4, h⟩ := bi_e h
        refine n_callVi (ws' := wX3 E adc c_switches c_hosts c_renewing c_priorities c_names c_wants c_blocks c_upTo c_clashedTo c_zoneSets c_places c_notices c_news) hC hN (tX3_zoneSet l E adc c_switches c_hosts c_renewing c_priorities c_names c_wants c_blocks c_upTo c_clashedTo c_zoneSets c_places c_notices c_news p1 v3_2 r_4 hr_4) cy_X3_zoneSet mML_X3_119 mIM_X3_zoneSet mSE_X3_zoneSet rfl rfl (k := 0) rfl (perm_self _) (perm_self _) rfl rfl hl.1 rfl (Nat.le_of_ble_eq_true rfl) dX3_zonesEmpty_13 ⟨Nat.le_of_ble_eq_true rfl, Nat.le_of_ble_eq_true rfl⟩ ⟨Nat.le_refl _, Nat.le_refl _⟩ (fun H locs hN => ?_)
        refine lv_ior hx hb dX3_zonesEmpty_16 ?_
        refine lv_topi (fun v2_5 ev2_5 => ?_)
        have h := bd_e h v2_5 ev2_5
        refine lv_istore_n (lv' := [(2, .int v2_5), (0, .ref (adc 0)), (1, .int p1), (3, .int v3_2)]) hx hb dX3_zonesEmpty_17 rfl hl (by decide) rfl (fun ls hl => ?_)
        obtain ⟨v3_6, ev3_6⟩ : ∃ y : Int32, y = v3_2 + 1 := ⟨_, rfl⟩
        have h := bd_e h v3_6 ev3_6
        refine lv_iinc (v := v3_6) (lv' := [(3, .int v3_6), (2, .int v2_5), (0, .ref (adc 0)), (1, .int p1)]) hx hb dX3_zonesEmpty_18 hl (k := 3) rfl (by rw [ev3_6]; rfl) (by decide) rfl (fun ls hl => ?_)
        refine lv_goto (tgt := 4) hx hb dX3_zonesEmpty_21 (by decide) ?_
        exact ih v2_5 v3_6 z _ _ _ hN (lv_sub hl [2, 3, 1, 0] rfl) h K
  obtain ⟨z_7, hz_7, h⟩ := bi_e h
  refine L1 500 0 0 z_7 _ _ _ hN (lv_sub hl [2, 3, 1, 0] rfl) hz_7 (fun H locs ls hN hl => ?_)
  refine lv_iload_n hx hb dX3_zonesEmpty_24 rfl (lv_at hl 2 rfl) ?_
  refine lv_if_ne (tgt := 32) hx hb dX3_zonesEmpty_25 (by decide) (fun c8 => ?_) (fun c8 => ?_)
  · have h := if_f h c8
    refine lv_iconst (v := 0) hx hb dX3_zonesEmpty_32 rfl ?_
    obtain rfl := Option.some.inj h
    exact n_zret hC hN (Or.inl rfl) dX3_zonesEmpty_33
  · have h := if_t h c8
    refine lv_iconst (v := 1) hx hb dX3_zonesEmpty_28 rfl ?_
    refine lv_goto (tgt := 33) hx hb dX3_zonesEmpty_29 (by decide) ?_
    obtain rfl := Option.some.inj h
    exact n_zret hC hN (Or.inr rfl) dX3_zonesEmpty_33
set_option maxHeartbeats 4000000 in
set_option maxRecDepth 100000 in
theorem tX3_sharingZone (l : Launch) (E : EV) (adc : Nat → Nat) (c_switches : Int32) (c_hosts : Int32) (c_renewing : Int32) (c_priorities : Nat → Int32) (c_names : Nat → Int32) (c_wants : Nat → Int32) (c_blocks : Nat → Int32) (c_upTo : Nat → Int32) (c_clashedTo : Nat → Int32) (c_zoneSets : Nat → Int32) (c_places : Nat → Int32) (c_notices : Nat → Int32) (c_news : Nat → Int32) (p1 : Int32) (p2 : Int32) (z : Int32) (h : fX3_sharingZone c_switches c_zoneSets p1 p2 = some z) : Cn l E yX3_sharingZone cX3_sharingZone 5 (some .int) 1 23 [.ref (adc 0), .int p1, .int p2] (wX3 E adc c_switches c_hosts c_renewing c_priorities c_names c_wants c_blocks c_upTo c_clashedTo c_zoneSets c_places c_notices c_news) (wX3 E adc c_switches c_hosts c_renewing c_priorities c_names c_wants c_blocks c_upTo c_clashedTo c_zoneSets c_places c_notices c_news) (some (.int z)) := by
  refine Cn.ofW (by decide +kernel) (Nat.le_of_ble_eq_true rfl) ?_
  intro p e s m args below meth c ls hC hN hl
  obtain ⟨z0, hz0⟩ : ∃ y, y = z := ⟨_, rfl⟩
  rw [← hz0] at h ⊢
  clear hz0
  have hl : lv_has ls 5 [(0, .ref (adc 0)), (1, .int p1), (2, .int p2)] := hl
  have hx := hC.1
  have hb := hC.2.1
  unfold fX3_sharingZone at h
  refine lv_iconst (v := 0) hx hb dX3_sharingZone_0 rfl ?_
  refine lv_istore_n (lv' := [(3, .int 0), (0, .ref (adc 0)), (1, .int p1), (2, .int p2)]) hx hb dX3_sharingZone_1 rfl hl (by decide) rfl (fun ls hl => ?_)
  refine lv_iconst (v := 0) hx hb dX3_sharingZone_2 rfl ?_
  refine lv_istore (lv' := [(4, .int 0), (3, .int 0), (0, .ref (adc 0)), (1, .int p1), (2, .int p2)]) hx hb dX3_sharingZone_3 hl (by decide) rfl (fun ls hl => ?_)
  have L1 : ∀ (fu : Nat) (v3_1 : Int32) (v4_2 : Int32) (z : Int32 × Int32) (H : Heap) (locs : List Loc) (ls : Array Slot), Nw E s (AD (wX3 E adc c_switches c_hosts c_renewing c_priorities c_names c_wants c_blocks c_upTo c_clashedTo c_zoneSets c_places c_notices c_news)) (wX3 E adc c_switches c_hosts c_renewing c_priorities c_names c_wants c_blocks c_upTo c_clashedTo c_zoneSets c_places c_notices c_news) H locs → lv_has ls 5 [(0, .ref (adc 0)), (1, .int p1), (2, .int p2), (3, .int v3_1), (4, .int v4_2)] → fX3_sharingZone_L1 c_switches c_zoneSets p1 p2 fu v3_1 v4_2 = some z → (∀ (H : Heap) (locs : List Loc) (ls : Array Slot), Nw E s (AD (wX3 E adc c_switches c_hosts c_renewing c_priorities c_names c_wants c_blocks c_upTo c_clashedTo c_zoneSets c_places c_notices c_news)) (wX3 E adc c_switches c_hosts c_renewing c_priorities c_names c_wants c_blocks c_upTo c_clashedTo c_zoneSets c_places c_notices c_news) H locs → lv_has ls 5 [(0, .ref (adc 0)), (1, .int p1), (2, .int p2), (3, .int z.1), (4, .int z.2)] → WN p l e 1 23 s m args below meth c E (wX3 E adc c_switches c_hosts c_renewing c_priorities c_names c_wants c_blocks c_upTo c_clashedTo c_zoneSets c_places c_notices c_news) (some (.int z0)) (wX3 E adc c_switches c_hosts c_renewing c_priorities c_names c_wants c_blocks c_upTo c_clashedTo c_zoneSets c_places c_notices c_news) H locs (F0 m 41 ls [])) → WN p l e 1 23 s m args below meth c E (wX3 E adc c_switches c_hosts c_renewing c_priorities c_names c_wants c_blocks c_upTo c_clashedTo c_zoneSets c_places c_notices c_news) (some (.int z0)) (wX3 E adc c_switches c_hosts c_renewing c_priorities c_names c_wants c_blocks c_upTo c_clashedTo c_zoneSets c_places c_notices c_news) H locs (F0 m 5 ls []) := by
    intro fu
    induction fu with
    | zero =>
      intro v3_1 v4_2 z H locs ls hN hl h K
      cases (show (none : Option (Int32 × Int32)) = some z from h)
    | succ fu ih =>
      intro v3_1 v4_2 z H locs ls hN hl h K
      rw [fX3_sharingZone_L1.eq_2] at h
      refine lv_iload hx hb dX3_sharingZone_5 (lv_at hl 4 rfl) ?_
      refine lv_iconst (v := 4) hx hb dX3_sharingZone_7 rfl ?_
      refine lv_icmp_ge (tgt := 41) hx hb dX3_sharingZone_8 (by decide) (fun c3 => ?_) (fun c3 => ?_)
      · have h := if_t h c3
        obtain rfl := Option.some.inj h
        exact K _ _ _ hN (lv_sub hl [0, 1, 2, 3, 4] rfl)
      · have h := if_f h c3
        refine lv_aload_n hx hb dX3_sharingZone_11 rfl (lv_at hl 0 rfl) ?_
        refine lv_iload_n hx hb dX3_sharingZone_12 rfl (lv_at hl 1 rfl) ?_
        refine lv_iload hx hb dX3_sharingZone_13 (lv_at hl 4 rfl) ?_
        obtain ⟨r_4, hr_4, h⟩ := bi_e h
        refine n_callVi (ws' := wX3 E adc c_switches c_hosts c_renewing c_priorities c_names c_wants c_blocks c_upTo c_clashedTo c_zoneSets c_places c_notices c_news) hC hN (tX3_zoneSet l E adc c_switches c_hosts c_renewing c_priorities c_names c_wants c_blocks c_upTo c_clashedTo c_zoneSets c_places c_notices c_news p1 v4_2 r_4 hr_4) cy_X3_zoneSet mML_X3_119 mIM_X3_zoneSet mSE_X3_zoneSet rfl rfl (k := 0) rfl (perm_self _) (perm_self _) rfl rfl hl.1 rfl (Nat.le_of_ble_eq_true rfl) dX3_sharingZone_15 ⟨Nat.le_of_ble_eq_true rfl, Nat.le_of_ble_eq_true rfl⟩ ⟨Nat.le_refl _, Nat.le_refl _⟩ (fun H locs hN => ?_)
        refine lv_iload_n hx hb dX3_sharingZone_18 rfl (lv_at hl 2 rfl) ?_
        obtain ⟨r_5, hr_5, h⟩ := bi_e h
        refine n_callSNi (ws' := wX3 E adc c_switches c_hosts c_renewing c_priorities c_names c_wants c_blocks c_upTo c_clashedTo c_zoneSets c_places c_notices c_news) hC hN (tX7_has l E r_4 p2 r_5 hr_5) cy_X7_has (List.mem_of_getElem? (i := 8) rfl) mST_X7_has (perm_nil _) (perm_nil _) rfl rfl hl.1 rfl (Nat.le_of_ble_eq_true rfl) dX3_sharingZone_19 ⟨Nat.le_of_ble_eq_true rfl, Nat.le_of_ble_eq_true rfl⟩ ⟨Nat.le_refl _, Nat.le_refl _⟩ (fun H locs hN => ?_)
        refine lv_if_eq (tgt := 35) hx hb dX3_sharingZone_22 (by decide) (fun c6 => ?_) (fun c6 => ?_)
        · have h := if_t h c6
          obtain ⟨v4_7, ev4_7⟩ : ∃ y : Int32, y = v4_2 + 1 := ⟨_, rfl⟩
          have h := bd_e h v4_7 ev4_7
          refine lv_iinc (v := v4_7) (lv' := [(4, .int v4_7), (0, .ref (adc 0)), (1, .int p1), (2, .int p2), (3, .int v3_1)]) hx hb dX3_sharingZone_35 hl (k := 4) rfl (by rw [ev4_7]; rfl) (by decide) rfl (fun ls hl => ?_)
          refine lv_goto (tgt := 5) hx hb dX3_sharingZone_38 (by decide) ?_
          exact ih v3_1 v4_7 z _ _ _ hN (lv_sub hl [1, 2, 3, 4, 0] rfl) h K
        · have h := if_f h c6
          refine lv_iload_n hx hb dX3_sharingZone_25 rfl (lv_at hl 3 rfl) ?_
          refine lv_aload_n hx hb dX3_sharingZone_26 rfl (lv_at hl 0 rfl) ?_
          refine lv_iload_n hx hb dX3_sharingZone_27 rfl (lv_at hl 1 rfl) ?_
          refine lv_iload hx hb dX3_sharingZone_28 (lv_at hl 4 rfl) ?_
          obtain ⟨r_8, hr_8, h⟩ := bi_e h
          refine n_callVi (ws' := wX3 E adc c_switches c_hosts c_renewing c_priorities c_names c_wants c_blocks c_upTo c_clashedTo c_zoneSets c_places c_notices c_news) hC hN (tX3_zoneSet l E adc c_switches c_hosts c_renewing c_priorities c_names c_wants c_blocks c_upTo c_clashedTo c_zoneSets c_places c_notices c_news p1 v4_2 r_8 hr_8) cy_X3_zoneSet mML_X3_119 mIM_X3_zoneSet mSE_X3_zoneSet rfl rfl (k := 0) rfl (perm_self _) (perm_self _) rfl rfl hl.1 rfl (Nat.le_of_ble_eq_true rfl) dX3_sharingZone_30 ⟨Nat.le_of_ble_eq_true rfl, Nat.le_of_ble_eq_true rfl⟩ ⟨Nat.le_refl _, Nat.le_refl _⟩ (fun H locs hN => ?_)
          refine lv_ior hx hb dX3_sharingZone_33 ?_
          refine lv_topi (fun v3_9 ev3_9 => ?_)
          have h := bd_e h v3_9 ev3_9
          refine lv_istore_n (lv' := [(3, .int v3_9), (0, .ref (adc 0)), (1, .int p1), (2, .int p2), (4, .int v4_2)]) hx hb dX3_sharingZone_34 rfl hl (by decide) rfl (fun ls hl => ?_)
          obtain ⟨v4_10, ev4_10⟩ : ∃ y : Int32, y = v4_2 + 1 := ⟨_, rfl⟩
          have h := bd_e h v4_10 ev4_10
          refine lv_iinc (v := v4_10) (lv' := [(4, .int v4_10), (3, .int v3_9), (0, .ref (adc 0)), (1, .int p1), (2, .int p2)]) hx hb dX3_sharingZone_35 hl (k := 4) rfl (by rw [ev4_10]; rfl) (by decide) rfl (fun ls hl => ?_)
          refine lv_goto (tgt := 5) hx hb dX3_sharingZone_38 (by decide) ?_
          exact ih v3_9 v4_10 z _ _ _ hN (lv_sub hl [2, 3, 4, 1, 0] rfl) h K
  obtain ⟨z_11, hz_11, h⟩ := bi_e h
  refine L1 500 0 0 z_11 _ _ _ hN (lv_sub hl [2, 3, 4, 1, 0] rfl) hz_11 (fun H locs ls hN hl => ?_)
  refine lv_iload_n hx hb dX3_sharingZone_41 rfl (lv_at hl 3 rfl) ?_
  obtain rfl := Option.some.inj h
  exact n_iret hC hN dX3_sharingZone_42
set_option maxHeartbeats 4000000 in
set_option maxRecDepth 100000 in
theorem tX3_viewWithin (l : Launch) (E : EV) (adc : Nat → Nat) (c_switches : Int32) (c_hosts : Int32) (c_renewing : Int32) (c_priorities : Nat → Int32) (c_names : Nat → Int32) (c_wants : Nat → Int32) (c_blocks : Nat → Int32) (c_upTo : Nat → Int32) (c_clashedTo : Nat → Int32) (c_zoneSets : Nat → Int32) (c_places : Nat → Int32) (c_notices : Nat → Int32) (c_news : Nat → Int32) (p1 : Int32) (p2 : Int32) (z : Int64) (h : fX3_viewWithin c_switches c_hosts c_zoneSets p1 p2 = some z) : Cn l E yX3_viewWithin cX3_viewWithin 8 (some .long) 2 47 [.ref (adc 0), .int p1, .int p2] (wX3 E adc c_switches c_hosts c_renewing c_priorities c_names c_wants c_blocks c_upTo c_clashedTo c_zoneSets c_places c_notices c_news) (wX3 E adc c_switches c_hosts c_renewing c_priorities c_names c_wants c_blocks c_upTo c_clashedTo c_zoneSets c_places c_notices c_news) (some (.long z)) := by
  refine Cn.ofW (by decide +kernel) (Nat.le_of_ble_eq_true rfl) ?_
  intro p e s m args below meth c ls hC hN hl
  obtain ⟨z0, hz0⟩ : ∃ y, y = z := ⟨_, rfl⟩
  rw [← hz0] at h ⊢
  clear hz0
  have hl : lv_has ls 8 [(0, .ref (adc 0)), (1, .int p1), (2, .int p2)] := hl
  have hx := hC.1
  have hb := hC.2.1
  unfold fX3_viewWithin at h
  refine lv_lconst (v := 0) hx hb dX3_viewWithin_0 rfl ?_
  refine lv_lstore_n (lv' := [(3, .long 0), (0, .ref (adc 0)), (1, .int p1), (2, .int p2)]) hx hb dX3_viewWithin_1 rfl hl (by decide) rfl (fun ls hl => ?_)
  refine lv_aload_n hx hb dX3_viewWithin_2 rfl (lv_at hl 1 rfl) ?_
  refine lv_iload_n hx hb dX3_viewWithin_3 rfl (lv_at hl 2 rfl) ?_
  obtain ⟨r_1, hr_1, h⟩ := bi_e h
  refine n_callVi (ws' := wX3 E adc c_switches c_hosts c_renewing c_priorities c_names c_wants c_blocks c_upTo c_clashedTo c_zoneSets c_places c_notices c_news) hC hN (tX3_zonesEmpty l E adc c_switches c_hosts c_renewing c_priorities c_names c_wants c_blocks c_upTo c_clashedTo c_zoneSets c_places c_notices c_news p1 r_1 hr_1) cy_X3_zonesEmpty mML_X3_150 mIM_X3_zonesEmpty mSE_X3_zonesEmpty rfl rfl (k := 0) rfl (perm_self _) (perm_self _) rfl rfl hl.1 rfl (Nat.le_of_ble_eq_true rfl) dX3_viewWithin_4 ⟨Nat.le_of_ble_eq_true rfl, Nat.le_of_ble_eq_true rfl⟩ ⟨Nat.le_refl _, Nat.le_refl _⟩ (fun H locs hN => ?_)
  refine lv_istore (lv' := [(5, .int r_1), (3, .long 0), (0, .ref (adc 0)), (1, .int p1), (2, .int p2)]) hx hb dX3_viewWithin_7 hl (by decide) rfl (fun ls hl => ?_)
  refine lv_iconst (v := 0) hx hb dX3_viewWithin_9 rfl ?_
  refine lv_istore (lv' := [(6, .int 0), (5, .int r_1), (3, .long 0), (0, .ref (adc 0)), (1, .int p1), (2, .int p2)]) hx hb dX3_viewWithin_10 hl (by decide) rfl (fun ls hl => ?_)
  have L1 : ∀ (fu : Nat) (v3_2 : Int64) (v6_3 : Int32) (z : Int64 × Int32) (H : Heap) (locs : List Loc) (ls : Array Slot), Nw E s (AD (wX3 E adc c_switches c_hosts c_renewing c_priorities c_names c_wants c_blocks c_upTo c_clashedTo c_zoneSets c_places c_notices c_news)) (wX3 E adc c_switches c_hosts c_renewing c_priorities c_names c_wants c_blocks c_upTo c_clashedTo c_zoneSets c_places c_notices c_news) H locs → lv_has ls 8 [(0, .ref (adc 0)), (1, .int p1), (2, .int p2), (3, .long v3_2), (5, .int r_1), (6, .int v6_3)] → fX3_viewWithin_L1 c_switches c_hosts c_zoneSets p1 p2 r_1 fu v3_2 v6_3 = some z → (∀ (H : Heap) (locs : List Loc) (ls : Array Slot), Nw E s (AD (wX3 E adc c_switches c_hosts c_renewing c_priorities c_names c_wants c_blocks c_upTo c_clashedTo c_zoneSets c_places c_notices c_news)) (wX3 E adc c_switches c_hosts c_renewing c_priorities c_names c_wants c_blocks c_upTo c_clashedTo c_zoneSets c_places c_notices c_news) H locs → lv_has ls 8 [(0, .ref (adc 0)), (1, .int p1), (2, .int p2), (3, .long z.1), (5, .int r_1), (6, .int z.2)] → WN p l e 2 47 s m args below meth c E (wX3 E adc c_switches c_hosts c_renewing c_priorities c_names c_wants c_blocks c_upTo c_clashedTo c_zoneSets c_places c_notices c_news) (some (.long z0)) (wX3 E adc c_switches c_hosts c_renewing c_priorities c_names c_wants c_blocks c_upTo c_clashedTo c_zoneSets c_places c_notices c_news) H locs (F0 m 75 ls [])) → WN p l e 2 47 s m args below meth c E (wX3 E adc c_switches c_hosts c_renewing c_priorities c_names c_wants c_blocks c_upTo c_clashedTo c_zoneSets c_places c_notices c_news) (some (.long z0)) (wX3 E adc c_switches c_hosts c_renewing c_priorities c_names c_wants c_blocks c_upTo c_clashedTo c_zoneSets c_places c_notices c_news) H locs (F0 m 12 ls []) := by
    intro fu
    induction fu with
    | zero =>
      intro v3_2 v6_3 z H locs ls hN hl h K
      cases (show (none : Option (Int64 × Int32)) = some z from h)
    | succ fu ih =>
      intro v3_2 v6_3 z H locs ls hN hl h K
      rw [fX3_viewWithin_L1.eq_2] at h
      refine lv_iload hx hb dX3_viewWithin_12 (lv_at hl 5 rfl) ?_
      refine lv_aload_n hx hb dX3_viewWithin_14 rfl (lv_at hl 0 rfl) ?_
      refine gt_X3_hosts hC hN 0 rfl rfl dX3_viewWithin_15 ?_
      refine lv_icmp_ge (tgt := 75) hx hb dX3_viewWithin_18 (by decide) (fun c4 => ?_) (fun c4 => ?_)
      · have h := if_t h c4
        obtain rfl := Option.some.inj h
        exact K _ _ _ hN (lv_sub hl [0, 1, 2, 3, 4, 5] rfl)
      · have h := if_f h c4
        refine lv_iload_n hx hb dX3_viewWithin_21 rfl (lv_at hl 2 rfl) ?_
        refine lv_iload hx hb dX3_viewWithin_22 (lv_at hl 5 rfl) ?_
        obtain ⟨r_5, hr_5, h⟩ := bi_e h
        refine n_callSNi (ws' := wX3 E adc c_switches c_hosts c_renewing c_priorities c_names c_wants c_blocks c_upTo c_clashedTo c_zoneSets c_places c_notices c_news) hC hN (tX7_has l E p2 v6_3 r_5 hr_5) cy_X7_has (List.mem_of_getElem? (i := 8) rfl) mST_X7_has (perm_nil _) (perm_nil _) rfl rfl hl.1 rfl (Nat.le_of_ble_eq_true rfl) dX3_viewWithin_24 ⟨Nat.le_of_ble_eq_true rfl, Nat.le_of_ble_eq_true rfl⟩ ⟨Nat.le_refl _, Nat.le_refl _⟩ (fun H locs hN => ?_)
        refine lv_if_eq (tgt := 69) hx hb dX3_viewWithin_27 (by decide) (fun c6 => ?_) (fun c6 => ?_)
        · have h := if_t h c6
          obtain ⟨v6_7, ev6_7⟩ : ∃ y : Int32, y = v6_3 + 1 := ⟨_, rfl⟩
          have h := bd_e h v6_7 ev6_7
          refine lv_iinc (v := v6_7) (lv' := [(6, .int v6_7), (0, .ref (adc 0)), (1, .int p1), (2, .int p2), (3, .long v3_2), (5, .int r_1)]) hx hb dX3_viewWithin_69 hl (k := 5) rfl (by rw [ev6_7]; rfl) (by decide) rfl (fun ls hl => ?_)
          refine lv_goto (tgt := 12) hx hb dX3_viewWithin_72 (by decide) ?_
          exact ih v3_2 v6_7 z _ _ _ hN (lv_sub hl [1, 2, 3, 4, 5, 0] rfl) h K
        · have h := if_f h c6
          refine lv_iload hx hb dX3_viewWithin_30 (lv_at hl 4 rfl) ?_
          refine lv_if_eq (tgt := 39) hx hb dX3_viewWithin_32 (by decide) (fun c8 => ?_) (fun c8 => ?_)
          · have h := if_t h c8
            refine lv_iload_n hx hb dX3_viewWithin_39 rfl (lv_at hl 2 rfl) ?_
            refine lv_aload_n hx hb dX3_viewWithin_40 rfl (lv_at hl 0 rfl) ?_
            refine lv_iload_n hx hb dX3_viewWithin_41 rfl (lv_at hl 1 rfl) ?_
            refine lv_iload hx hb dX3_viewWithin_42 (lv_at hl 5 rfl) ?_
            obtain ⟨r_9, hr_9, h⟩ := bi_e h
            refine n_callVi (ws' := wX3 E adc c_switches c_hosts c_renewing c_priorities c_names c_wants c_blocks c_upTo c_clashedTo c_zoneSets c_places c_notices c_news) hC hN (tX3_sharingZone l E adc c_switches c_hosts c_renewing c_priorities c_names c_wants c_blocks c_upTo c_clashedTo c_zoneSets c_places c_notices c_news p1 v6_3 r_9 hr_9) cy_X3_sharingZone mML_X3_153 mIM_X3_sharingZone mSE_X3_sharingZone rfl rfl (k := 0) rfl (perm_self _) (perm_self _) rfl rfl hl.1 rfl (Nat.le_of_ble_eq_true rfl) dX3_viewWithin_44 ⟨Nat.le_of_ble_eq_true rfl, Nat.le_of_ble_eq_true rfl⟩ ⟨Nat.le_refl _, Nat.le_refl _⟩ (fun H locs hN => ?_)
            refine lv_iand hx hb dX3_viewWithin_47 ?_
            refine lv_topi (fun v7_10 ev7_10 => ?_)
            have h := bd_e h v7_10 ev7_10
            refine lv_istore (lv' := [(7, .int v7_10), (0, .ref (adc 0)), (1, .int p1), (2, .int p2), (3, .long v3_2), (5, .int r_1), (6, .int v6_3)]) hx hb dX3_viewWithin_48 hl (by decide) rfl (fun ls hl => ?_)
            refine lv_lload_n hx hb dX3_viewWithin_50 rfl (lv_at hl 4 rfl) ?_
            refine lv_iload hx hb dX3_viewWithin_51 (lv_at hl 0 rfl) ?_
            refine lv_iconst (v := 1) hx hb dX3_viewWithin_53 rfl ?_
            refine lv_iload hx hb dX3_viewWithin_54 (lv_at hl 6 rfl) ?_
            refine lv_ishl hx hb dX3_viewWithin_56 ?_
            refine lv_iconst (v := -1) hx hb dX3_viewWithin_57 rfl ?_
            refine lv_ixor hx hb dX3_viewWithin_58 ?_
            refine lv_iand hx hb dX3_viewWithin_59 ?_
            refine lv_i2l hx hb dX3_viewWithin_60 rfl ?_
            refine lv_bipush (v := 8) hx hb dX3_viewWithin_61 (by decide) ?_
            refine lv_iload hx hb dX3_viewWithin_63 (lv_at hl 6 rfl) ?_
            refine lv_imul hx hb dX3_viewWithin_65 ?_
            refine lv_lshl (v := (lshl ((v7_10 &&& ((1 <<< (v6_3 &&& 31)) ^^^ (-1))).toInt64) (8 * v6_3))) hx hb dX3_viewWithin_66 rfl ?_
            refine lv_lor hx hb dX3_viewWithin_67 ?_
            refine lv_topl (fun v3_11 ev3_11 => ?_)
            have h := bd_e h v3_11 ev3_11
            refine lv_lstore_n (lv' := [(3, .long v3_11), (7, .int v7_10), (0, .ref (adc 0)), (1, .int p1), (2, .int p2), (5, .int r_1), (6, .int v6_3)]) hx hb dX3_viewWithin_68 rfl hl (by decide) rfl (fun ls hl => ?_)
            obtain ⟨v6_12, ev6_12⟩ : ∃ y : Int32, y = v6_3 + 1 := ⟨_, rfl⟩
            have h := bd_e h v6_12 ev6_12
            refine lv_iinc (v := v6_12) (lv' := [(6, .int v6_12), (3, .long v3_11), (7, .int v7_10), (0, .ref (adc 0)), (1, .int p1), (2, .int p2), (5, .int r_1)]) hx hb dX3_viewWithin_69 hl (k := 6) rfl (by rw [ev6_12]; rfl) (by decide) rfl (fun ls hl => ?_)
            refine lv_goto (tgt := 12) hx hb dX3_viewWithin_72 (by decide) ?_
            exact ih v3_11 v6_12 z _ _ _ hN (lv_sub hl [3, 4, 5, 1, 6, 0] rfl) h K
          · have h := if_f h c8
            refine lv_iload_n hx hb dX3_viewWithin_35 rfl (lv_at hl 2 rfl) ?_
            refine lv_goto (tgt := 48) hx hb dX3_viewWithin_36 (by decide) ?_
            refine lv_istore (lv' := [(7, .int p2), (0, .ref (adc 0)), (1, .int p1), (2, .int p2), (3, .long v3_2), (5, .int r_1), (6, .int v6_3)]) hx hb dX3_viewWithin_48 hl (by decide) rfl (fun ls hl => ?_)
            refine lv_lload_n hx hb dX3_viewWithin_50 rfl (lv_at hl 4 rfl) ?_
            refine lv_iload hx hb dX3_viewWithin_51 (lv_at hl 0 rfl) ?_
            refine lv_iconst (v := 1) hx hb dX3_viewWithin_53 rfl ?_
            refine lv_iload hx hb dX3_viewWithin_54 (lv_at hl 6 rfl) ?_
            refine lv_ishl hx hb dX3_viewWithin_56 ?_
            refine lv_iconst (v := -1) hx hb dX3_viewWithin_57 rfl ?_
            refine lv_ixor hx hb dX3_viewWithin_58 ?_
            refine lv_iand hx hb dX3_viewWithin_59 ?_
            refine lv_i2l hx hb dX3_viewWithin_60 rfl ?_
            refine lv_bipush (v := 8) hx hb dX3_viewWithin_61 (by decide) ?_
            refine lv_iload hx hb dX3_viewWithin_63 (lv_at hl 6 rfl) ?_
            refine lv_imul hx hb dX3_viewWithin_65 ?_
            refine lv_lshl (v := (lshl ((p2 &&& ((1 <<< (v6_3 &&& 31)) ^^^ (-1))).toInt64) (8 * v6_3))) hx hb dX3_viewWithin_66 rfl ?_
            refine lv_lor hx hb dX3_viewWithin_67 ?_
            refine lv_topl (fun v3_13 ev3_13 => ?_)
            have h := bd_e h v3_13 ev3_13
            refine lv_lstore_n (lv' := [(3, .long v3_13), (7, .int p2), (0, .ref (adc 0)), (1, .int p1), (2, .int p2), (5, .int r_1), (6, .int v6_3)]) hx hb dX3_viewWithin_68 rfl hl (by decide) rfl (fun ls hl => ?_)
            obtain ⟨v6_14, ev6_14⟩ : ∃ y : Int32, y = v6_3 + 1 := ⟨_, rfl⟩
            have h := bd_e h v6_14 ev6_14
            refine lv_iinc (v := v6_14) (lv' := [(6, .int v6_14), (3, .long v3_13), (7, .int p2), (0, .ref (adc 0)), (1, .int p1), (2, .int p2), (5, .int r_1)]) hx hb dX3_viewWithin_69 hl (k := 6) rfl (by rw [ev6_14]; rfl) (by decide) rfl (fun ls hl => ?_)
            refine lv_goto (tgt := 12) hx hb dX3_viewWithin_72 (by decide) ?_
            exact ih v3_13 v6_14 z _ _ _ hN (lv_sub hl [3, 4, 5, 1, 6, 0] rfl) h K
  obtain ⟨z_15, hz_15, h⟩ := bi_e h
  refine L1 500 0 0 z_15 _ _ _ hN (lv_sub hl [3, 4, 5, 2, 1, 0] rfl) hz_15 (fun H locs ls hN hl => ?_)
  refine lv_lload_n hx hb dX3_viewWithin_75 rfl (lv_at hl 3 rfl) ?_
  obtain rfl := Option.some.inj h
  exact n_lret hC hN dX3_viewWithin_76
