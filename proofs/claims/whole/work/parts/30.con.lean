set_option maxHeartbeats 4000000 in
set_option maxRecDepth 100000 in
theorem tX0_empty (l : Launch) (E : EV) (adc : Nat → Nat) (ec : Nat → Nat → Nat) (c_nets : Nat → NetT) (c_kept : Int32) (z : Int32) (h : fX0_empty = some z) : Cn l E yX0_empty cX0_empty 1 none 0 0 [.ref (adc 0)] (wX0 E adc ec c_nets c_kept) (wX0 E adc ec c_nets z) (none) := by
  refine Cn.ofW (by decide +kernel) (Nat.le_of_ble_eq_true rfl) ?_
  intro p e s m args below meth c ls hC hN hl
  have hl : lv_has ls 1 [(0, .ref (adc 0))] := hl
  have hx := hC.1
  have hb := hC.2.1
  unfold fX0_empty at h
  refine lv_aload_n hx hb dX0_empty_0 rfl (lv_at hl 0 rfl) ?_
  refine lv_iconst (v := 0) hx hb dX0_empty_1 rfl ?_
  refine pt_X0_kept hC hN 0 rfl (Nat.le_of_ble_eq_true rfl) (ws' := wX0 E adc ec c_nets 0) rfl dX0_empty_2 (fun H locs hN => ?_)
  obtain rfl := Option.some.inj h
  exact n_vret hC hN dX0_empty_5
set_option maxHeartbeats 4000000 in
set_option maxRecDepth 100000 in
theorem tX7_has (l : Launch) (E : EV) (p1 : Int32) (p2 : Int32) (z : Int32) (h : fX7_has p1 p2 = some z) : Cn l E yX7_has cX7_has 2 (some .boolean) 0 0 [.int p1, .int p2] ([]) ([]) (some (.int z)) := by
  refine Cn.ofW (by decide +kernel) (Nat.le_of_ble_eq_true rfl) ?_
  intro p e s m args below meth c ls hC hN hl
  have hl : lv_has ls 2 [(0, .int p1), (1, .int p2)] := hl
  have hx := hC.1
  have hb := hC.2.1
  unfold fX7_has at h
  refine lv_iload_n hx hb dX7_has_0 rfl (lv_at hl 0 rfl) ?_
  refine lv_iload_n hx hb dX7_has_1 rfl (lv_at hl 1 rfl) ?_
  refine lv_ishr hx hb dX7_has_2 ?_
  refine lv_iconst (v := 1) hx hb dX7_has_3 rfl ?_
  refine lv_iand hx hb dX7_has_4 ?_
  refine lv_if_eq (tgt := 12) hx hb dX7_has_5 (by decide) (fun c1 => ?_) (fun c1 => ?_)
  · have h := if_t h c1
    refine lv_iconst (v := 0) hx hb dX7_has_12 rfl ?_
    obtain rfl := Option.some.inj h
    exact n_zret hC hN (Or.inl rfl) dX7_has_13
  · have h := if_f h c1
    refine lv_iconst (v := 1) hx hb dX7_has_8 rfl ?_
    refine lv_goto (tgt := 13) hx hb dX7_has_9 (by decide) ?_
    obtain rfl := Option.some.inj h
    exact n_zret hC hN (Or.inr rfl) dX7_has_13
set_option maxHeartbeats 4000000 in
set_option maxRecDepth 100000 in
theorem tX0_holds (l : Launch) (E : EV) (adc : Nat → Nat) (ec : Nat → Nat → Nat) (c_nets : Nat → NetT) (c_kept : Int32) (p1 : Int32) (z : Int32) (h : fX0_holds c_kept p1 = some z) : Cn l E yX0_holds cX0_holds 2 (some .boolean) 1 21 [.ref (adc 0), .int p1] (wX0 E adc ec c_nets c_kept) (wX0 E adc ec c_nets c_kept) (some (.int z)) := by
  refine Cn.ofW (by decide +kernel) (Nat.le_of_ble_eq_true rfl) ?_
  intro p e s m args below meth c ls hC hN hl
  have hl : lv_has ls 2 [(0, .ref (adc 0)), (1, .int p1)] := hl
  have hx := hC.1
  have hb := hC.2.1
  unfold fX0_holds at h
  refine lv_iload_n hx hb dX0_holds_0 rfl (lv_at hl 1 rfl) ?_
  refine lv_if_lt (tgt := 24) hx hb dX0_holds_1 (by decide) (fun c1 => ?_) (fun c1 => ?_)
  · have h := if_t h c1
    refine lv_iconst (v := 0) hx hb dX0_holds_24 rfl ?_
    obtain rfl := Option.some.inj h
    exact n_zret hC hN (Or.inl rfl) dX0_holds_25
  · have h := if_f h c1
    refine lv_iload_n hx hb dX0_holds_4 rfl (lv_at hl 1 rfl) ?_
    refine lv_iconst (v := 2) hx hb dX0_holds_5 rfl ?_
    refine lv_icmp_ge (tgt := 24) hx hb dX0_holds_6 (by decide) (fun c2 => ?_) (fun c2 => ?_)
    · have h := if_t h c2
      refine lv_iconst (v := 0) hx hb dX0_holds_24 rfl ?_
      obtain rfl := Option.some.inj h
      exact n_zret hC hN (Or.inl rfl) dX0_holds_25
    · have h := if_f h c2
      refine lv_aload_n hx hb dX0_holds_9 rfl (lv_at hl 0 rfl) ?_
      refine gt_X0_kept hC hN 0 rfl rfl dX0_holds_10 ?_
      refine lv_iload_n hx hb dX0_holds_13 rfl (lv_at hl 1 rfl) ?_
      obtain ⟨r_3, hr_3, h⟩ := bi_e h
      refine n_callSNi (ws' := wX0 E adc ec c_nets c_kept) hC hN (tX7_has l E c_kept p1 r_3 hr_3) cy_X7_has (List.mem_of_getElem? (i := 13) rfl) mST_X7_has (perm_nil _) (perm_nil _) rfl rfl hl.1 rfl (Nat.le_of_ble_eq_true rfl) dX0_holds_14 ⟨Nat.le_of_ble_eq_true rfl, Nat.le_of_ble_eq_true rfl⟩ ⟨Nat.le_refl _, Nat.le_refl _⟩ (fun H locs hN => ?_)
      refine lv_if_eq (tgt := 24) hx hb dX0_holds_17 (by decide) (fun c4 => ?_) (fun c4 => ?_)
      · have h := if_t h c4
        refine lv_iconst (v := 0) hx hb dX0_holds_24 rfl ?_
        obtain rfl := Option.some.inj h
        exact n_zret hC hN (Or.inl rfl) dX0_holds_25
      · have h := if_f h c4
        refine lv_iconst (v := 1) hx hb dX0_holds_20 rfl ?_
        refine lv_goto (tgt := 25) hx hb dX0_holds_21 (by decide) ?_
        obtain rfl := Option.some.inj h
        exact n_zret hC hN (Or.inr rfl) dX0_holds_25
set_option maxHeartbeats 4000000 in
set_option maxRecDepth 100000 in
theorem tX3_copyRow (l : Launch) (E : EV) (qf nf : Nat) (qg ng : Nat) (f_ : Nat → Int32) (g_ : Nat → Int32) (z : Nat → Int32) (h : fX3_copyRow nf ng f_ g_ = some z) : Cn l E yX3_copyRow cX3_copyRow 3 none 0 0 [.ref qf, .ref qg] (cat [[(qf, .inl (E.2 0, nf, .inl f_))], [(qg, .inl (E.2 0, ng, .inl g_))]]) (cat [[(qf, .inl (E.2 0, nf, .inl f_))], [(qg, .inl (E.2 0, ng, .inl z))]]) (none) := by
  refine Cn.ofW (by decide +kernel) (Nat.le_of_ble_eq_true rfl) ?_
  intro p e s m args below meth c ls hC hN hl
  obtain ⟨z0, hz0⟩ : ∃ y, y = z := ⟨_, rfl⟩
  rw [← hz0] at h ⊢
  clear hz0
  have hl : lv_has ls 3 [(0, .ref qf), (1, .ref qg)] := hl
  have hx := hC.1
  have hb := hC.2.1
  unfold fX3_copyRow at h
  refine lv_iconst (v := 0) hx hb dX3_copyRow_0 rfl ?_
  refine lv_istore_n (lv' := [(2, .int 0), (0, .ref qf), (1, .ref qg)]) hx hb dX3_copyRow_1 rfl hl (by decide) rfl (fun ls hl => ?_)
  have L1 : ∀ (fu : Nat) (v2_1 : Int32) (g__2 : Nat → Int32) (z : Int32 × (Nat → Int32)) (H : Heap) (locs : List Loc) (ls : Array Slot), Nw E s (AD (cat [[(qf, .inl (E.2 0, nf, .inl f_))], [(qg, .inl (E.2 0, ng, .inl g_))]])) (cat [[(qf, .inl (E.2 0, nf, .inl f_))], [(qg, .inl (E.2 0, ng, .inl g__2))]]) H locs → lv_has ls 3 [(0, .ref qf), (1, .ref qg), (2, .int v2_1)] → fX3_copyRow_L1 nf ng f_ fu v2_1 g__2 = some z → (∀ (H : Heap) (locs : List Loc) (ls : Array Slot), Nw E s (AD (cat [[(qf, .inl (E.2 0, nf, .inl f_))], [(qg, .inl (E.2 0, ng, .inl g_))]])) (cat [[(qf, .inl (E.2 0, nf, .inl f_))], [(qg, .inl (E.2 0, ng, .inl z.2))]]) H locs → lv_has ls 3 [(0, .ref qf), (1, .ref qg), (2, .int z.1)] → WN p l e 0 0 s m args below meth c E (cat [[(qf, .inl (E.2 0, nf, .inl f_))], [(qg, .inl (E.2 0, ng, .inl g_))]]) (none) (cat [[(qf, .inl (E.2 0, nf, .inl f_))], [(qg, .inl (E.2 0, ng, .inl z0))]]) H locs (F0 m 26 ls [])) → WN p l e 0 0 s m args below meth c E (cat [[(qf, .inl (E.2 0, nf, .inl f_))], [(qg, .inl (E.2 0, ng, .inl g_))]]) (none) (cat [[(qf, .inl (E.2 0, nf, .inl f_))], [(qg, .inl (E.2 0, ng, .inl z0))]]) H locs (F0 m 2 ls []) := by
    intro fu
    induction fu with
    | zero =>
      intro v2_1 g__2 z H locs ls hN hl h K
      cases (show (none : Option (Int32 × (Nat → Int32))) = some z from h)
    | succ fu ih =>
      intro v2_1 g__2 z H locs ls hN hl h K
      rw [fX3_copyRow_L1.eq_2] at h
      refine lv_iload_n hx hb dX3_copyRow_2 rfl (lv_at hl 2 rfl) ?_
      refine lv_aload_n hx hb dX3_copyRow_3 rfl (lv_at hl 0 rfl) ?_
      refine n_alen hC hN 0 rfl rfl dX3_copyRow_4 ?_
      refine lv_icmp_ge (tgt := 26) hx hb dX3_copyRow_5 (by decide) (fun c3 => ?_) (fun c3 => ?_)
      · have h := if_t h c3
        obtain rfl := Option.some.inj h
        exact K _ _ _ hN (lv_sub hl [0, 1, 2] rfl)
      · have h := if_f h c3
        refine lv_iload_n hx hb dX3_copyRow_8 rfl (lv_at hl 2 rfl) ?_
        refine lv_aload_n hx hb dX3_copyRow_9 rfl (lv_at hl 1 rfl) ?_
        refine n_alen hC hN 1 rfl rfl dX3_copyRow_10 ?_
        refine lv_icmp_ge (tgt := 26) hx hb dX3_copyRow_11 (by decide) (fun c4 => ?_) (fun c4 => ?_)
        · have h := if_t h c4
          obtain rfl := Option.some.inj h
          exact K _ _ _ hN (lv_sub hl [0, 1, 2] rfl)
        · have h := if_f h c4
          refine lv_aload_n hx hb dX3_copyRow_14 rfl (lv_at hl 1 rfl) ?_
          refine lv_iload_n hx hb dX3_copyRow_15 rfl (lv_at hl 2 rfl) ?_
          refine lv_aload_n hx hb dX3_copyRow_16 rfl (lv_at hl 0 rfl) ?_
          refine lv_iload_n hx hb dX3_copyRow_17 rfl (lv_at hl 2 rfl) ?_
          have g := inB_vp (gd_c h)
          have h := gd_e h
          refine n_iald hC hN 0 rfl g dX3_copyRow_18 ?_
          have g := inB_vp (gd_c h)
          have h := gd_e h
          obtain ⟨g__5, eg__5⟩ : ∃ y : Nat → Int32, y = upd g__2 v2_1.toNatClampNeg (f_ v2_1.toNatClampNeg) := ⟨_, rfl⟩
          have h := bd_e h g__5 eg__5
          refine n_iast hC hN 1 rfl g eg__5 (ws' := cat [[(qf, .inl (E.2 0, nf, .inl f_))], [(qg, .inl (E.2 0, ng, .inl g__5))]]) rfl dX3_copyRow_19 (fun H locs hN => ?_)
          obtain ⟨v2_6, ev2_6⟩ : ∃ y : Int32, y = v2_1 + 1 := ⟨_, rfl⟩
          have h := bd_e h v2_6 ev2_6
          refine lv_iinc (v := v2_6) (lv' := [(2, .int v2_6), (0, .ref qf), (1, .ref qg)]) hx hb dX3_copyRow_20 hl (k := 2) rfl (by rw [ev2_6]; rfl) (by decide) rfl (fun ls hl => ?_)
          refine lv_goto (tgt := 2) hx hb dX3_copyRow_23 (by decide) ?_
          exact ih v2_6 g__5 z _ _ _ hN (lv_sub hl [1, 2, 0] rfl) h K
  obtain ⟨z_7, hz_7, h⟩ := bi_e h
  refine L1 500 0 g_ z_7 _ _ _ hN (lv_sub hl [1, 2, 0] rfl) hz_7 (fun H locs ls hN hl => ?_)
  obtain rfl := Option.some.inj h
  exact n_vret hC hN dX3_copyRow_26
set_option maxHeartbeats 4000000 in
set_option maxRecDepth 100000 in
theorem tX3_copyFrom (l : Launch) (E : EV) (adc : Nat → Nat) (add : Nat → Nat) (c_switches : Int32) (c_hosts : Int32) (c_renewing : Int32) (c_priorities : Nat → Int32) (c_names : Nat → Int32) (c_wants : Nat → Int32) (c_blocks : Nat → Int32) (c_upTo : Nat → Int32) (c_clashedTo : Nat → Int32) (c_zoneSets : Nat → Int32) (c_places : Nat → Int32) (c_notices : Nat → Int32) (c_news : Nat → Int32) (d_switches : Int32) (d_hosts : Int32) (d_renewing : Int32) (d_priorities : Nat → Int32) (d_names : Nat → Int32) (d_wants : Nat → Int32) (d_blocks : Nat → Int32) (d_upTo : Nat → Int32) (d_clashedTo : Nat → Int32) (d_zoneSets : Nat → Int32) (d_places : Nat → Int32) (d_notices : Nat → Int32) (d_news : Nat → Int32) (z : Int32 × Int32 × Int32 × (Nat → Int32) × (Nat → Int32) × (Nat → Int32) × (Nat → Int32) × (Nat → Int32) × (Nat → Int32) × (Nat → Int32) × (Nat → Int32) × (Nat → Int32) × (Nat → Int32)) (h : fX3_copyFrom c_priorities c_names c_wants c_blocks c_upTo c_clashedTo c_zoneSets c_places c_notices c_news d_switches d_hosts d_renewing d_priorities d_names d_wants d_blocks d_upTo d_clashedTo d_zoneSets d_places d_notices d_news = some z) : Cn l E yX3_copyFrom cX3_copyFrom 2 none 1 22 [.ref (adc 0), .ref (add 0)] (cat [wX3 E adc c_switches c_hosts c_renewing c_priorities c_names c_wants c_blocks c_upTo c_clashedTo c_zoneSets c_places c_notices c_news, wX3 E add d_switches d_hosts d_renewing d_priorities d_names d_wants d_blocks d_upTo d_clashedTo d_zoneSets d_places d_notices d_news]) (cat [wX3 E adc z.1 z.2.1 z.2.2.1 z.2.2.2.1 z.2.2.2.2.1 z.2.2.2.2.2.1 z.2.2.2.2.2.2.1 z.2.2.2.2.2.2.2.1 z.2.2.2.2.2.2.2.2.1 z.2.2.2.2.2.2.2.2.2.1 z.2.2.2.2.2.2.2.2.2.2.1 z.2.2.2.2.2.2.2.2.2.2.2.1 z.2.2.2.2.2.2.2.2.2.2.2.2, wX3 E add d_switches d_hosts d_renewing d_priorities d_names d_wants d_blocks d_upTo d_clashedTo d_zoneSets d_places d_notices d_news]) (none) := by
  refine Cn.ofW (by decide +kernel) (Nat.le_of_ble_eq_true rfl) ?_
  intro p e s m args below meth c ls hC hN hl
  have hl : lv_has ls 2 [(0, .ref (adc 0)), (1, .ref (add 0))] := hl
  have hx := hC.1
  have hb := hC.2.1
  unfold fX3_copyFrom at h
  refine lv_aload_n hx hb dX3_copyFrom_0 rfl (lv_at hl 0 rfl) ?_
  refine lv_aload_n hx hb dX3_copyFrom_1 rfl (lv_at hl 1 rfl) ?_
  refine gt_X3_switches hC hN 11 rfl rfl dX3_copyFrom_2 ?_
  refine pt_X3_switches hC hN 0 rfl (Nat.le_of_ble_eq_true rfl) (ws' := cat [wX3 E adc d_switches c_hosts c_renewing c_priorities c_names c_wants c_blocks c_upTo c_clashedTo c_zoneSets c_places c_notices c_news, wX3 E add d_switches d_hosts d_renewing d_priorities d_names d_wants d_blocks d_upTo d_clashedTo d_zoneSets d_places d_notices d_news]) rfl dX3_copyFrom_5 (fun H locs hN => ?_)
  refine lv_aload_n hx hb dX3_copyFrom_8 rfl (lv_at hl 0 rfl) ?_
  refine lv_aload_n hx hb dX3_copyFrom_9 rfl (lv_at hl 1 rfl) ?_
  refine gt_X3_hosts hC hN 11 rfl rfl dX3_copyFrom_10 ?_
  refine pt_X3_hosts hC hN 0 rfl (Nat.le_of_ble_eq_true rfl) (ws' := cat [wX3 E adc d_switches d_hosts c_renewing c_priorities c_names c_wants c_blocks c_upTo c_clashedTo c_zoneSets c_places c_notices c_news, wX3 E add d_switches d_hosts d_renewing d_priorities d_names d_wants d_blocks d_upTo d_clashedTo d_zoneSets d_places d_notices d_news]) rfl dX3_copyFrom_13 (fun H locs hN => ?_)
  refine lv_aload_n hx hb dX3_copyFrom_16 rfl (lv_at hl 0 rfl) ?_
  refine lv_aload_n hx hb dX3_copyFrom_17 rfl (lv_at hl 1 rfl) ?_
  refine gt_X3_renewing hC hN 11 rfl rfl dX3_copyFrom_18 ?_
  have gB := gd_c h
  have h := gd_e h
  refine pt_X3_renewing hC hN 0 rfl gB (Nat.le_of_ble_eq_true rfl) (ws' := cat [wX3 E adc d_switches d_hosts d_renewing c_priorities c_names c_wants c_blocks c_upTo c_clashedTo c_zoneSets c_places c_notices c_news, wX3 E add d_switches d_hosts d_renewing d_priorities d_names d_wants d_blocks d_upTo d_clashedTo d_zoneSets d_places d_notices d_news]) rfl dX3_copyFrom_21 (fun H locs hN => ?_)
  refine lv_aload_n hx hb dX3_copyFrom_24 rfl (lv_at hl 1 rfl) ?_
  refine gt_X3_priorities hC hN 11 rfl rfl dX3_copyFrom_25 ?_
  refine lv_aload_n hx hb dX3_copyFrom_28 rfl (lv_at hl 0 rfl) ?_
  refine gt_X3_priorities hC hN 0 rfl rfl dX3_copyFrom_29 ?_
  obtain ⟨z_1, hz_1, h⟩ := bi_e h
  refine n_callSv (ws' := cat [wX3 E adc d_switches d_hosts d_renewing z_1 c_names c_wants c_blocks c_upTo c_clashedTo c_zoneSets c_places c_notices c_news, wX3 E add d_switches d_hosts d_renewing d_priorities d_names d_wants d_blocks d_upTo d_clashedTo d_zoneSets d_places d_notices d_news]) hC hN (tX3_copyRow l E (add 1) 6 (adc 1) 6 d_priorities c_priorities z_1 hz_1) cy_X3_copyRow mML_X3_53 mST_X3_copyRow (pl_perm (cat [wX3 E adc d_switches d_hosts d_renewing c_priorities c_names c_wants c_blocks c_upTo c_clashedTo c_zoneSets c_places c_notices c_news, wX3 E add d_switches d_hosts d_renewing d_priorities d_names d_wants d_blocks d_upTo d_clashedTo d_zoneSets d_places d_notices d_news]) 22 rfl [12, 1] [0, 2, 3, 4, 5, 6, 7, 8, 9, 10, 11, 13, 14, 15, 16, 17, 18, 19, 20, 21] (by decide)) (pl_perm (cat [wX3 E adc d_switches d_hosts d_renewing z_1 c_names c_wants c_blocks c_upTo c_clashedTo c_zoneSets c_places c_notices c_news, wX3 E add d_switches d_hosts d_renewing d_priorities d_names d_wants d_blocks d_upTo d_clashedTo d_zoneSets d_places d_notices d_news]) 22 rfl [12, 1] [0, 2, 3, 4, 5, 6, 7, 8, 9, 10, 11, 13, 14, 15, 16, 17, 18, 19, 20, 21] (by decide)) rfl rfl hl.1 rfl (Nat.le_of_ble_eq_true rfl) dX3_copyFrom_32 ⟨Nat.le_of_ble_eq_true rfl, Nat.le_of_ble_eq_true rfl⟩ ⟨Nat.le_refl _, Nat.le_refl _⟩ (fun H locs hN => ?_)
  refine lv_aload_n hx hb dX3_copyFrom_35 rfl (lv_at hl 1 rfl) ?_
  refine gt_X3_names hC hN 11 rfl rfl dX3_copyFrom_36 ?_
  refine lv_aload_n hx hb dX3_copyFrom_39 rfl (lv_at hl 0 rfl) ?_
  refine gt_X3_names hC hN 0 rfl rfl dX3_copyFrom_40 ?_
  obtain ⟨z_2, hz_2, h⟩ := bi_e h
  refine n_callSv (ws' := cat [wX3 E adc d_switches d_hosts d_renewing z_1 z_2 c_wants c_blocks c_upTo c_clashedTo c_zoneSets c_places c_notices c_news, wX3 E add d_switches d_hosts d_renewing d_priorities d_names d_wants d_blocks d_upTo d_clashedTo d_zoneSets d_places d_notices d_news]) hC hN (tX3_copyRow l E (add 2) 6 (adc 2) 6 d_names c_names z_2 hz_2) cy_X3_copyRow mML_X3_53 mST_X3_copyRow (pl_perm (cat [wX3 E adc d_switches d_hosts d_renewing z_1 c_names c_wants c_blocks c_upTo c_clashedTo c_zoneSets c_places c_notices c_news, wX3 E add d_switches d_hosts d_renewing d_priorities d_names d_wants d_blocks d_upTo d_clashedTo d_zoneSets d_places d_notices d_news]) 22 rfl [13, 2] [0, 1, 3, 4, 5, 6, 7, 8, 9, 10, 11, 12, 14, 15, 16, 17, 18, 19, 20, 21] (by decide)) (pl_perm (cat [wX3 E adc d_switches d_hosts d_renewing z_1 z_2 c_wants c_blocks c_upTo c_clashedTo c_zoneSets c_places c_notices c_news, wX3 E add d_switches d_hosts d_renewing d_priorities d_names d_wants d_blocks d_upTo d_clashedTo d_zoneSets d_places d_notices d_news]) 22 rfl [13, 2] [0, 1, 3, 4, 5, 6, 7, 8, 9, 10, 11, 12, 14, 15, 16, 17, 18, 19, 20, 21] (by decide)) rfl rfl hl.1 rfl (Nat.le_of_ble_eq_true rfl) dX3_copyFrom_43 ⟨Nat.le_of_ble_eq_true rfl, Nat.le_of_ble_eq_true rfl⟩ ⟨Nat.le_refl _, Nat.le_refl _⟩ (fun H locs hN => ?_)
  refine lv_aload_n hx hb dX3_copyFrom_46 rfl (lv_at hl 1 rfl) ?_
  refine gt_X3_wants hC hN 11 rfl rfl dX3_copyFrom_47 ?_
  refine lv_aload_n hx hb dX3_copyFrom_50 rfl (lv_at hl 0 rfl) ?_
  refine gt_X3_wants hC hN 0 rfl rfl dX3_copyFrom_51 ?_
  obtain ⟨z_3, hz_3, h⟩ := bi_e h
  refine n_callSv (ws' := cat [wX3 E adc d_switches d_hosts d_renewing z_1 z_2 z_3 c_blocks c_upTo c_clashedTo c_zoneSets c_places c_notices c_news, wX3 E add d_switches d_hosts d_renewing d_priorities d_names d_wants d_blocks d_upTo d_clashedTo d_zoneSets d_places d_notices d_news]) hC hN (tX3_copyRow l E (add 3) 6 (adc 3) 6 d_wants c_wants z_3 hz_3) cy_X3_copyRow mML_X3_53 mST_X3_copyRow (pl_perm (cat [wX3 E adc d_switches d_hosts d_renewing z_1 z_2 c_wants c_blocks c_upTo c_clashedTo c_zoneSets c_places c_notices c_news, wX3 E add d_switches d_hosts d_renewing d_priorities d_names d_wants d_blocks d_upTo d_clashedTo d_zoneSets d_places d_notices d_news]) 22 rfl [14, 3] [0, 1, 2, 4, 5, 6, 7, 8, 9, 10, 11, 12, 13, 15, 16, 17, 18, 19, 20, 21] (by decide)) (pl_perm (cat [wX3 E adc d_switches d_hosts d_renewing z_1 z_2 z_3 c_blocks c_upTo c_clashedTo c_zoneSets c_places c_notices c_news, wX3 E add d_switches d_hosts d_renewing d_priorities d_names d_wants d_blocks d_upTo d_clashedTo d_zoneSets d_places d_notices d_news]) 22 rfl [14, 3] [0, 1, 2, 4, 5, 6, 7, 8, 9, 10, 11, 12, 13, 15, 16, 17, 18, 19, 20, 21] (by decide)) rfl rfl hl.1 rfl (Nat.le_of_ble_eq_true rfl) dX3_copyFrom_54 ⟨Nat.le_of_ble_eq_true rfl, Nat.le_of_ble_eq_true rfl⟩ ⟨Nat.le_refl _, Nat.le_refl _⟩ (fun H locs hN => ?_)
  refine lv_aload_n hx hb dX3_copyFrom_57 rfl (lv_at hl 1 rfl) ?_
  refine gt_X3_blocks hC hN 11 rfl rfl dX3_copyFrom_58 ?_
  refine lv_aload_n hx hb dX3_copyFrom_61 rfl (lv_at hl 0 rfl) ?_
  refine gt_X3_blocks hC hN 0 rfl rfl dX3_copyFrom_62 ?_
  obtain ⟨z_4, hz_4, h⟩ := bi_e h
  refine n_callSv (ws' := cat [wX3 E adc d_switches d_hosts d_renewing z_1 z_2 z_3 z_4 c_upTo c_clashedTo c_zoneSets c_places c_notices c_news, wX3 E add d_switches d_hosts d_renewing d_priorities d_names d_wants d_blocks d_upTo d_clashedTo d_zoneSets d_places d_notices d_news]) hC hN (tX3_copyRow l E (add 4) 6 (adc 4) 6 d_blocks c_blocks z_4 hz_4) cy_X3_copyRow mML_X3_53 mST_X3_copyRow (pl_perm (cat [wX3 E adc d_switches d_hosts d_renewing z_1 z_2 z_3 c_blocks c_upTo c_clashedTo c_zoneSets c_places c_notices c_news, wX3 E add d_switches d_hosts d_renewing d_priorities d_names d_wants d_blocks d_upTo d_clashedTo d_zoneSets d_places d_notices d_news]) 22 rfl [15, 4] [0, 1, 2, 3, 5, 6, 7, 8, 9, 10, 11, 12, 13, 14, 16, 17, 18, 19, 20, 21] (by decide)) (pl_perm (cat [wX3 E adc d_switches d_hosts d_renewing z_1 z_2 z_3 z_4 c_upTo c_clashedTo c_zoneSets c_places c_notices c_news, wX3 E add d_switches d_hosts d_renewing d_priorities d_names d_wants d_blocks d_upTo d_clashedTo d_zoneSets d_places d_notices d_news]) 22 rfl [15, 4] [0, 1, 2, 3, 5, 6, 7, 8, 9, 10, 11, 12, 13, 14, 16, 17, 18, 19, 20, 21] (by decide)) rfl rfl hl.1 rfl (Nat.le_of_ble_eq_true rfl) dX3_copyFrom_65 ⟨Nat.le_of_ble_eq_true rfl, Nat.le_of_ble_eq_true rfl⟩ ⟨Nat.le_refl _, Nat.le_refl _⟩ (fun H locs hN => ?_)
  refine lv_aload_n hx hb dX3_copyFrom_68 rfl (lv_at hl 1 rfl) ?_
  refine gt_X3_upTo hC hN 11 rfl rfl dX3_copyFrom_69 ?_
  refine lv_aload_n hx hb dX3_copyFrom_72 rfl (lv_at hl 0 rfl) ?_
  refine gt_X3_upTo hC hN 0 rfl rfl dX3_copyFrom_73 ?_
  obtain ⟨z_5, hz_5, h⟩ := bi_e h
  refine n_callSv (ws' := cat [wX3 E adc d_switches d_hosts d_renewing z_1 z_2 z_3 z_4 z_5 c_clashedTo c_zoneSets c_places c_notices c_news, wX3 E add d_switches d_hosts d_renewing d_priorities d_names d_wants d_blocks d_upTo d_clashedTo d_zoneSets d_places d_notices d_news]) hC hN (tX3_copyRow l E (add 5) 6 (adc 5) 6 d_upTo c_upTo z_5 hz_5) cy_X3_copyRow mML_X3_53 mST_X3_copyRow (pl_perm (cat [wX3 E adc d_switches d_hosts d_renewing z_1 z_2 z_3 z_4 c_upTo c_clashedTo c_zoneSets c_places c_notices c_news, wX3 E add d_switches d_hosts d_renewing d_priorities d_names d_wants d_blocks d_upTo d_clashedTo d_zoneSets d_places d_notices d_news]) 22 rfl [16, 5] [0, 1, 2, 3, 4, 6, 7, 8, 9, 10, 11, 12, 13, 14, 15, 17, 18, 19, 20, 21] (by decide)) (pl_perm (cat [wX3 E adc d_switches d_hosts d_renewing z_1 z_2 z_3 z_4 z_5 c_clashedTo c_zoneSets c_places c_notices c_news, wX3 E add d_switches d_hosts d_renewing d_priorities d_names d_wants d_blocks d_upTo d_clashedTo d_zoneSets d_places d_notices d_news]) 22 rfl [16, 5] [0, 1, 2, 3, 4, 6, 7, 8, 9, 10, 11, 12, 13, 14, 15, 17, 18, 19, 20, 21] (by decide)) rfl rfl hl.1 rfl (Nat.le_of_ble_eq_true rfl) dX3_copyFrom_76 ⟨Nat.le_of_ble_eq_true rfl, Nat.le_of_ble_eq_true rfl⟩ ⟨Nat.le_refl _, Nat.le_refl _⟩ (fun H locs hN => ?_)
  refine lv_aload_n hx hb dX3_copyFrom_79 rfl (lv_at hl 1 rfl) ?_
  refine gt_X3_clashedTo hC hN 11 rfl rfl dX3_copyFrom_80 ?_
  refine lv_aload_n hx hb dX3_copyFrom_83 rfl (lv_at hl 0 rfl) ?_
  refine gt_X3_clashedTo hC hN 0 rfl rfl dX3_copyFrom_84 ?_
  obtain ⟨z_6, hz_6, h⟩ := bi_e h
  refine n_callSv (ws' := cat [wX3 E adc d_switches d_hosts d_renewing z_1 z_2 z_3 z_4 z_5 z_6 c_zoneSets c_places c_notices c_news, wX3 E add d_switches d_hosts d_renewing d_priorities d_names d_wants d_blocks d_upTo d_clashedTo d_zoneSets d_places d_notices d_news]) hC hN (tX3_copyRow l E (add 6) 6 (adc 6) 6 d_clashedTo c_clashedTo z_6 hz_6) cy_X3_copyRow mML_X3_53 mST_X3_copyRow (pl_perm (cat [wX3 E adc d_switches d_hosts d_renewing z_1 z_2 z_3 z_4 z_5 c_clashedTo c_zoneSets c_places c_notices c_news, wX3 E add d_switches d_hosts d_renewing d_priorities d_names d_wants d_blocks d_upTo d_clashedTo d_zoneSets d_places d_notices d_news]) 22 rfl [17, 6] [0, 1, 2, 3, 4, 5, 7, 8, 9, 10, 11, 12, 13, 14, 15, 16, 18, 19, 20, 21] (by decide)) (pl_perm (cat [wX3 E adc d_switches d_hosts d_renewing z_1 z_2 z_3 z_4 z_5 z_6 c_zoneSets c_places c_notices c_news, wX3 E add d_switches d_hosts d_renewing d_priorities d_names d_wants d_blocks d_upTo d_clashedTo d_zoneSets d_places d_notices d_news]) 22 rfl [17, 6] [0, 1, 2, 3, 4, 5, 7, 8, 9, 10, 11, 12, 13, 14, 15, 16, 18, 19, 20, 21] (by decide)) rfl rfl hl.1 rfl (Nat.le_of_ble_eq_true rfl) dX3_copyFrom_87 ⟨Nat.le_of_ble_eq_true rfl, Nat.le_of_ble_eq_true rfl⟩ ⟨Nat.le_refl _, Nat.le_refl _⟩ (fun H locs hN => ?_)
  refine lv_aload_n hx hb dX3_copyFrom_90 rfl (lv_at hl 1 rfl) ?_
  refine gt_X3_zoneSets hC hN 11 rfl rfl dX3_copyFrom_91 ?_
  refine lv_aload_n hx hb dX3_copyFrom_94 rfl (lv_at hl 0 rfl) ?_
  refine gt_X3_zoneSets hC hN 0 rfl rfl dX3_copyFrom_95 ?_
  obtain ⟨z_7, hz_7, h⟩ := bi_e h
  refine n_callSv (ws' := cat [wX3 E adc d_switches d_hosts d_renewing z_1 z_2 z_3 z_4 z_5 z_6 z_7 c_places c_notices c_news, wX3 E add d_switches d_hosts d_renewing d_priorities d_names d_wants d_blocks d_upTo d_clashedTo d_zoneSets d_places d_notices d_news]) hC hN (tX3_copyRow l E (add 7) 24 (adc 7) 24 d_zoneSets c_zoneSets z_7 hz_7) cy_X3_copyRow mML_X3_53 mST_X3_copyRow (pl_perm (cat [wX3 E adc d_switches d_hosts d_renewing z_1 z_2 z_3 z_4 z_5 z_6 c_zoneSets c_places c_notices c_news, wX3 E add d_switches d_hosts d_renewing d_priorities d_names d_wants d_blocks d_upTo d_clashedTo d_zoneSets d_places d_notices d_news]) 22 rfl [18, 7] [0, 1, 2, 3, 4, 5, 6, 8, 9, 10, 11, 12, 13, 14, 15, 16, 17, 19, 20, 21] (by decide)) (pl_perm (cat [wX3 E adc d_switches d_hosts d_renewing z_1 z_2 z_3 z_4 z_5 z_6 z_7 c_places c_notices c_news, wX3 E add d_switches d_hosts d_renewing d_priorities d_names d_wants d_blocks d_upTo d_clashedTo d_zoneSets d_places d_notices d_news]) 22 rfl [18, 7] [0, 1, 2, 3, 4, 5, 6, 8, 9, 10, 11, 12, 13, 14, 15, 16, 17, 19, 20, 21] (by decide)) rfl rfl hl.1 rfl (Nat.le_of_ble_eq_true rfl) dX3_copyFrom_98 ⟨Nat.le_of_ble_eq_true rfl, Nat.le_of_ble_eq_true rfl⟩ ⟨Nat.le_refl _, Nat.le_refl _⟩ (fun H locs hN => ?_)
  refine lv_aload_n hx hb dX3_copyFrom_101 rfl (lv_at hl 1 rfl) ?_
  refine gt_X3_places hC hN 11 rfl rfl dX3_copyFrom_102 ?_
  refine lv_aload_n hx hb dX3_copyFrom_105 rfl (lv_at hl 0 rfl) ?_
  refine gt_X3_places hC hN 0 rfl rfl dX3_copyFrom_106 ?_
  obtain ⟨z_8, hz_8, h⟩ := bi_e h
  refine n_callSv (ws' := cat [wX3 E adc d_switches d_hosts d_renewing z_1 z_2 z_3 z_4 z_5 z_6 z_7 z_8 c_notices c_news, wX3 E add d_switches d_hosts d_renewing d_priorities d_names d_wants d_blocks d_upTo d_clashedTo d_zoneSets d_places d_notices d_news]) hC hN (tX3_copyRow l E (add 8) 8 (adc 8) 8 d_places c_places z_8 hz_8) cy_X3_copyRow mML_X3_53 mST_X3_copyRow (pl_perm (cat [wX3 E adc d_switches d_hosts d_renewing z_1 z_2 z_3 z_4 z_5 z_6 z_7 c_places c_notices c_news, wX3 E add d_switches d_hosts d_renewing d_priorities d_names d_wants d_blocks d_upTo d_clashedTo d_zoneSets d_places d_notices d_news]) 22 rfl [19, 8] [0, 1, 2, 3, 4, 5, 6, 7, 9, 10, 11, 12, 13, 14, 15, 16, 17, 18, 20, 21] (by decide)) (pl_perm (cat [wX3 E adc d_switches d_hosts d_renewing z_1 z_2 z_3 z_4 z_5 z_6 z_7 z_8 c_notices c_news, wX3 E add d_switches d_hosts d_renewing d_priorities d_names d_wants d_blocks d_upTo d_clashedTo d_zoneSets d_places d_notices d_news]) 22 rfl [19, 8] [0, 1, 2, 3, 4, 5, 6, 7, 9, 10, 11, 12, 13, 14, 15, 16, 17, 18, 20, 21] (by decide)) rfl rfl hl.1 rfl (Nat.le_of_ble_eq_true rfl) dX3_copyFrom_109 ⟨Nat.le_of_ble_eq_true rfl, Nat.le_of_ble_eq_true rfl⟩ ⟨Nat.le_refl _, Nat.le_refl _⟩ (fun H locs hN => ?_)
  refine lv_aload_n hx hb dX3_copyFrom_112 rfl (lv_at hl 1 rfl) ?_
  refine gt_X3_notices hC hN 11 rfl rfl dX3_copyFrom_113 ?_
  refine lv_aload_n hx hb dX3_copyFrom_116 rfl (lv_at hl 0 rfl) ?_
  refine gt_X3_notices hC hN 0 rfl rfl dX3_copyFrom_117 ?_
  obtain ⟨z_9, hz_9, h⟩ := bi_e h
  refine n_callSv (ws' := cat [wX3 E adc d_switches d_hosts d_renewing z_1 z_2 z_3 z_4 z_5 z_6 z_7 z_8 z_9 c_news, wX3 E add d_switches d_hosts d_renewing d_priorities d_names d_wants d_blocks d_upTo d_clashedTo d_zoneSets d_places d_notices d_news]) hC hN (tX3_copyRow l E (add 9) 8 (adc 9) 8 d_notices c_notices z_9 hz_9) cy_X3_copyRow mML_X3_53 mST_X3_copyRow (pl_perm (cat [wX3 E adc d_switches d_hosts d_renewing z_1 z_2 z_3 z_4 z_5 z_6 z_7 z_8 c_notices c_news, wX3 E add d_switches d_hosts d_renewing d_priorities d_names d_wants d_blocks d_upTo d_clashedTo d_zoneSets d_places d_notices d_news]) 22 rfl [20, 9] [0, 1, 2, 3, 4, 5, 6, 7, 8, 10, 11, 12, 13, 14, 15, 16, 17, 18, 19, 21] (by decide)) (pl_perm (cat [wX3 E adc d_switches d_hosts d_renewing z_1 z_2 z_3 z_4 z_5 z_6 z_7 z_8 z_9 c_news, wX3 E add d_switches d_hosts d_renewing d_priorities d_names d_wants d_blocks d_upTo d_clashedTo d_zoneSets d_places d_notices d_news]) 22 rfl [20, 9] [0, 1, 2, 3, 4, 5, 6, 7, 8, 10, 11, 12, 13, 14, 15, 16, 17, 18, 19, 21] (by decide)) rfl rfl hl.1 rfl (Nat.le_of_ble_eq_true rfl) dX3_copyFrom_120 ⟨Nat.le_of_ble_eq_true rfl, Nat.le_of_ble_eq_true rfl⟩ ⟨Nat.le_refl _, Nat.le_refl _⟩ (fun H locs hN => ?_)
  refine lv_aload_n hx hb dX3_copyFrom_123 rfl (lv_at hl 1 rfl) ?_
  refine gt_X3_news hC hN 11 rfl rfl dX3_copyFrom_124 ?_
  refine lv_aload_n hx hb dX3_copyFrom_127 rfl (lv_at hl 0 rfl) ?_
  refine gt_X3_news hC hN 0 rfl rfl dX3_copyFrom_128 ?_
  obtain ⟨z_10, hz_10, h⟩ := bi_e h
  refine n_callSv (ws' := cat [wX3 E adc d_switches d_hosts d_renewing z_1 z_2 z_3 z_4 z_5 z_6 z_7 z_8 z_9 z_10, wX3 E add d_switches d_hosts d_renewing d_priorities d_names d_wants d_blocks d_upTo d_clashedTo d_zoneSets d_places d_notices d_news]) hC hN (tX3_copyRow l E (add 10) 8 (adc 10) 8 d_news c_news z_10 hz_10) cy_X3_copyRow mML_X3_53 mST_X3_copyRow (pl_perm (cat [wX3 E adc d_switches d_hosts d_renewing z_1 z_2 z_3 z_4 z_5 z_6 z_7 z_8 z_9 c_news, wX3 E add d_switches d_hosts d_renewing d_priorities d_names d_wants d_blocks d_upTo d_clashedTo d_zoneSets d_places d_notices d_news]) 22 rfl [21, 10] [0, 1, 2, 3, 4, 5, 6, 7, 8, 9, 11, 12, 13, 14, 15, 16, 17, 18, 19, 20] (by decide)) (pl_perm (cat [wX3 E adc d_switches d_hosts d_renewing z_1 z_2 z_3 z_4 z_5 z_6 z_7 z_8 z_9 z_10, wX3 E add d_switches d_hosts d_renewing d_priorities d_names d_wants d_blocks d_upTo d_clashedTo d_zoneSets d_places d_notices d_news]) 22 rfl [21, 10] [0, 1, 2, 3, 4, 5, 6, 7, 8, 9, 11, 12, 13, 14, 15, 16, 17, 18, 19, 20] (by decide)) rfl rfl hl.1 rfl (Nat.le_of_ble_eq_true rfl) dX3_copyFrom_131 ⟨Nat.le_of_ble_eq_true rfl, Nat.le_of_ble_eq_true rfl⟩ ⟨Nat.le_refl _, Nat.le_refl _⟩ (fun H locs hN => ?_)
  obtain rfl := Option.some.inj h
  exact n_vret hC hN dX3_copyFrom_134
set_option maxHeartbeats 4000000 in
set_option maxRecDepth 100000 in
theorem tX0_store (l : Launch) (E : EV) (adc : Nat → Nat) (ec : Nat → Nat → Nat) (add : Nat → Nat) (c_nets : Nat → NetT) (c_kept : Int32) (d_switches : Int32) (d_hosts : Int32) (d_renewing : Int32) (d_priorities : Nat → Int32) (d_names : Nat → Int32) (d_wants : Nat → Int32) (d_blocks : Nat → Int32) (d_upTo : Nat → Int32) (d_clashedTo : Nat → Int32) (d_zoneSets : Nat → Int32) (d_places : Nat → Int32) (d_notices : Nat → Int32) (d_news : Nat → Int32) (p1 : Int32) (z : (Nat → NetT) × Int32) (h : fX0_store c_nets c_kept d_switches d_hosts d_renewing d_priorities d_names d_wants d_blocks d_upTo d_clashedTo d_zoneSets d_places d_notices d_news p1 = some z) : Cn l E yX0_store cX0_store 3 none 2 43 [.ref (adc 0), .int p1, .ref (add 0)] (cat [wX0 E adc ec c_nets c_kept, wX3 E add d_switches d_hosts d_renewing d_priorities d_names d_wants d_blocks d_upTo d_clashedTo d_zoneSets d_places d_notices d_news]) (cat [wX0 E adc ec z.1 z.2, wX3 E add d_switches d_hosts d_renewing d_priorities d_names d_wants d_blocks d_upTo d_clashedTo d_zoneSets d_places d_notices d_news]) (none) := by
  refine Cn.ofW (by decide +kernel) (Nat.le_of_ble_eq_true rfl) ?_
  intro p e s m args below meth c ls hC hN hl
  have hl : lv_has ls 3 [(0, .ref (adc 0)), (1, .int p1), (2, .ref (add 0))] := hl
  have hx := hC.1
  have hb := hC.2.1
  unfold fX0_store at h
  refine lv_iload_n hx hb dX0_store_0 rfl (lv_at hl 1 rfl) ?_
  refine lv_if_lt (tgt := 31) hx hb dX0_store_1 (by decide) (fun c1 => ?_) (fun c1 => ?_)
  · have h := if_t h c1
    obtain rfl := Option.some.inj h
    exact n_vret hC hN dX0_store_31
  · have h := if_f h c1
    refine lv_iload_n hx hb dX0_store_4 rfl (lv_at hl 1 rfl) ?_
    refine lv_iconst (v := 2) hx hb dX0_store_5 rfl ?_
    refine lv_icmp_ge (tgt := 31) hx hb dX0_store_6 (by decide) (fun c2 => ?_) (fun c2 => ?_)
    · have h := if_t h c2
      obtain rfl := Option.some.inj h
      exact n_vret hC hN dX0_store_31
    · have h := if_f h c2
      refine lv_aload_n hx hb dX0_store_9 rfl (lv_at hl 0 rfl) ?_
      refine gt_X0_nets hC hN 0 rfl rfl dX0_store_10 ?_
      refine lv_iload_n hx hb dX0_store_13 rfl (lv_at hl 1 rfl) ?_
      have gk := inB_lt (gd_c h)
      have g := inB_vp (gd_c h)
      have h := gd_e h
      refine n_aald hC hN 1 rfl g rfl dX0_store_14 ?_
      refine lv_aload_n hx hb dX0_store_15 rfl (lv_at hl 2 rfl) ?_
      obtain ⟨z_3, hz_3, h⟩ := bi_e h
      obtain ⟨c_nets_4, ec_nets_4⟩ : ∃ y : Nat → NetT, y = updN c_nets p1.toNatClampNeg z_3 := ⟨_, rfl⟩
      have h := bd_e h c_nets_4 ec_nets_4
      refine n_callVv (ws' := cat [wX0 E adc ec c_nets_4 c_kept, wX3 E add d_switches d_hosts d_renewing d_priorities d_names d_wants d_blocks d_upTo d_clashedTo d_zoneSets d_places d_notices d_news]) hC hN (tX3_copyFrom l E (ec p1.toNatClampNeg) add ((c_nets p1.toNatClampNeg).1) ((c_nets p1.toNatClampNeg).2.1) ((c_nets p1.toNatClampNeg).2.2.1) ((c_nets p1.toNatClampNeg).2.2.2.1) ((c_nets p1.toNatClampNeg).2.2.2.2.1) ((c_nets p1.toNatClampNeg).2.2.2.2.2.1) ((c_nets p1.toNatClampNeg).2.2.2.2.2.2.1) ((c_nets p1.toNatClampNeg).2.2.2.2.2.2.2.1) ((c_nets p1.toNatClampNeg).2.2.2.2.2.2.2.2.1) ((c_nets p1.toNatClampNeg).2.2.2.2.2.2.2.2.2.1) ((c_nets p1.toNatClampNeg).2.2.2.2.2.2.2.2.2.2.1) ((c_nets p1.toNatClampNeg).2.2.2.2.2.2.2.2.2.2.2.1) ((c_nets p1.toNatClampNeg).2.2.2.2.2.2.2.2.2.2.2.2) d_switches d_hosts d_renewing d_priorities d_names d_wants d_blocks d_upTo d_clashedTo d_zoneSets d_places d_notices d_news z_3 hz_3) cy_X3_copyFrom mML_X0_26 mIM_X3_copyFrom mSE_X3_copyFrom rfl rfl (k := 0) rfl (pn_cd gk (fun i => wN E (ec i) (c_nets i)) _) (by rw [ec_nets_4]; exact pn_cdu gk _ _ _ _ _) rfl rfl hl.1 rfl (Nat.le_of_ble_eq_true rfl) dX0_store_16 ⟨Nat.le_of_ble_eq_true rfl, Nat.le_of_ble_eq_true rfl⟩ ⟨Nat.le_refl _, Nat.le_refl _⟩ (fun H locs hN => ?_)
      refine lv_aload_n hx hb dX0_store_19 rfl (lv_at hl 0 rfl) ?_
      refine lv_dup hx hb dX0_store_20 rfl ?_
      refine gt_X0_kept hC hN 0 rfl rfl dX0_store_21 ?_
      refine lv_iconst (v := 1) hx hb dX0_store_24 rfl ?_
      refine lv_iload_n hx hb dX0_store_25 rfl (lv_at hl 1 rfl) ?_
      refine lv_ishl hx hb dX0_store_26 ?_
      refine lv_ior hx hb dX0_store_27 ?_
      refine lv_topi (fun c_kept_5 ec_kept_5 => ?_)
      have h := bd_e h c_kept_5 ec_kept_5
      refine pt_X0_kept hC hN 0 rfl (Nat.le_of_ble_eq_true rfl) (ws' := cat [wX0 E adc ec c_nets_4 c_kept_5, wX3 E add d_switches d_hosts d_renewing d_priorities d_names d_wants d_blocks d_upTo d_clashedTo d_zoneSets d_places d_notices d_news]) rfl dX0_store_28 (fun H locs hN => ?_)
      obtain rfl := Option.some.inj h
      exact n_vret hC hN dX0_store_31
set_option maxHeartbeats 4000000 in
set_option maxRecDepth 100000 in
theorem tX0_restoreTo (l : Launch) (E : EV) (adc : Nat → Nat) (ec : Nat → Nat → Nat) (add : Nat → Nat) (c_nets : Nat → NetT) (c_kept : Int32) (d_switches : Int32) (d_hosts : Int32) (d_renewing : Int32) (d_priorities : Nat → Int32) (d_names : Nat → Int32) (d_wants : Nat → Int32) (d_blocks : Nat → Int32) (d_upTo : Nat → Int32) (d_clashedTo : Nat → Int32) (d_zoneSets : Nat → Int32) (d_places : Nat → Int32) (d_notices : Nat → Int32) (d_news : Nat → Int32) (p1 : Int32) (z : Int32 × Int32 × Int32 × (Nat → Int32) × (Nat → Int32) × (Nat → Int32) × (Nat → Int32) × (Nat → Int32) × (Nat → Int32) × (Nat → Int32) × (Nat → Int32) × (Nat → Int32) × (Nat → Int32)) (h : fX0_restoreTo c_nets c_kept d_switches d_hosts d_renewing d_priorities d_names d_wants d_blocks d_upTo d_clashedTo d_zoneSets d_places d_notices d_news p1 = some z) : Cn l E yX0_restoreTo cX0_restoreTo 3 none 2 43 [.ref (adc 0), .int p1, .ref (add 0)] (cat [wX0 E adc ec c_nets c_kept, wX3 E add d_switches d_hosts d_renewing d_priorities d_names d_wants d_blocks d_upTo d_clashedTo d_zoneSets d_places d_notices d_news]) (cat [wX0 E adc ec c_nets c_kept, wX3 E add z.1 z.2.1 z.2.2.1 z.2.2.2.1 z.2.2.2.2.1 z.2.2.2.2.2.1 z.2.2.2.2.2.2.1 z.2.2.2.2.2.2.2.1 z.2.2.2.2.2.2.2.2.1 z.2.2.2.2.2.2.2.2.2.1 z.2.2.2.2.2.2.2.2.2.2.1 z.2.2.2.2.2.2.2.2.2.2.2.1 z.2.2.2.2.2.2.2.2.2.2.2.2]) (none) := by
  refine Cn.ofW (by decide +kernel) (Nat.le_of_ble_eq_true rfl) ?_
  intro p e s m args below meth c ls hC hN hl
  have hl : lv_has ls 3 [(0, .ref (adc 0)), (1, .int p1), (2, .ref (add 0))] := hl
  have hx := hC.1
  have hb := hC.2.1
  unfold fX0_restoreTo at h
  refine lv_aload_n hx hb dX0_restoreTo_0 rfl (lv_at hl 0 rfl) ?_
  refine lv_iload_n hx hb dX0_restoreTo_1 rfl (lv_at hl 1 rfl) ?_
  obtain ⟨r_1, hr_1, h⟩ := bi_e h
  refine n_callVi (ws' := cat [wX0 E adc ec c_nets c_kept, wX3 E add d_switches d_hosts d_renewing d_priorities d_names d_wants d_blocks d_upTo d_clashedTo d_zoneSets d_places d_notices d_news]) hC hN (tX0_holds l E adc ec c_nets c_kept p1 r_1 hr_1) cy_X0_holds mML_X0_30 mIM_X0_holds mSE_X0_holds rfl rfl (k := 0) rfl (cat_perm [wX0 E adc ec c_nets c_kept, wX3 E add d_switches d_hosts d_renewing d_priorities d_names d_wants d_blocks d_upTo d_clashedTo d_zoneSets d_places d_notices d_news] 2 rfl [0] [1] (by decide)) (cat_perm [wX0 E adc ec c_nets c_kept, wX3 E add d_switches d_hosts d_renewing d_priorities d_names d_wants d_blocks d_upTo d_clashedTo d_zoneSets d_places d_notices d_news] 2 rfl [0] [1] (by decide)) rfl rfl hl.1 rfl (Nat.le_of_ble_eq_true rfl) dX0_restoreTo_2 ⟨Nat.le_of_ble_eq_true rfl, Nat.le_of_ble_eq_true rfl⟩ ⟨Nat.le_refl _, Nat.le_refl _⟩ (fun H locs hN => ?_)
  refine lv_if_eq (tgt := 18) hx hb dX0_restoreTo_5 (by decide) (fun c2 => ?_) (fun c2 => ?_)
  · have h := if_t h c2
    obtain rfl := Option.some.inj h
    exact n_vret hC hN dX0_restoreTo_18
  · have h := if_f h c2
    refine lv_aload_n hx hb dX0_restoreTo_8 rfl (lv_at hl 2 rfl) ?_
    refine lv_aload_n hx hb dX0_restoreTo_9 rfl (lv_at hl 0 rfl) ?_
    refine gt_X0_nets hC hN 0 rfl rfl dX0_restoreTo_10 ?_
    refine lv_iload_n hx hb dX0_restoreTo_13 rfl (lv_at hl 1 rfl) ?_
    have gk := inB_lt (gd_c h)
    have g := inB_vp (gd_c h)
    have h := gd_e h
    refine n_aald hC hN 1 rfl g rfl dX0_restoreTo_14 ?_
    obtain ⟨z_3, hz_3, h⟩ := bi_e h
    refine n_callVv (ws' := cat [wX0 E adc ec c_nets c_kept, wX3 E add z_3.1 z_3.2.1 z_3.2.2.1 z_3.2.2.2.1 z_3.2.2.2.2.1 z_3.2.2.2.2.2.1 z_3.2.2.2.2.2.2.1 z_3.2.2.2.2.2.2.2.1 z_3.2.2.2.2.2.2.2.2.1 z_3.2.2.2.2.2.2.2.2.2.1 z_3.2.2.2.2.2.2.2.2.2.2.1 z_3.2.2.2.2.2.2.2.2.2.2.2.1 z_3.2.2.2.2.2.2.2.2.2.2.2.2]) hC hN (tX3_copyFrom l E add (ec p1.toNatClampNeg) d_switches d_hosts d_renewing d_priorities d_names d_wants d_blocks d_upTo d_clashedTo d_zoneSets d_places d_notices d_news ((c_nets p1.toNatClampNeg).1) ((c_nets p1.toNatClampNeg).2.1) ((c_nets p1.toNatClampNeg).2.2.1) ((c_nets p1.toNatClampNeg).2.2.2.1) ((c_nets p1.toNatClampNeg).2.2.2.2.1) ((c_nets p1.toNatClampNeg).2.2.2.2.2.1) ((c_nets p1.toNatClampNeg).2.2.2.2.2.2.1) ((c_nets p1.toNatClampNeg).2.2.2.2.2.2.2.1) ((c_nets p1.toNatClampNeg).2.2.2.2.2.2.2.2.1) ((c_nets p1.toNatClampNeg).2.2.2.2.2.2.2.2.2.1) ((c_nets p1.toNatClampNeg).2.2.2.2.2.2.2.2.2.2.1) ((c_nets p1.toNatClampNeg).2.2.2.2.2.2.2.2.2.2.2.1) ((c_nets p1.toNatClampNeg).2.2.2.2.2.2.2.2.2.2.2.2) z_3 hz_3) cy_X3_copyFrom mML_X0_26 mIM_X3_copyFrom mSE_X3_copyFrom rfl rfl (k := 0) rfl (pn_dc gk (fun i => wN E (ec i) (c_nets i)) _) (pn_dc gk (fun i => wN E (ec i) (c_nets i)) _) rfl rfl hl.1 rfl (Nat.le_of_ble_eq_true rfl) dX0_restoreTo_15 ⟨Nat.le_of_ble_eq_true rfl, Nat.le_of_ble_eq_true rfl⟩ ⟨Nat.le_refl _, Nat.le_refl _⟩ (fun H locs hN => ?_)
    obtain rfl := Option.some.inj h
    exact n_vret hC hN dX0_restoreTo_18
set_option maxHeartbeats 4000000 in
set_option maxRecDepth 100000 in
theorem tX1_size (l : Launch) (E : EV) (adc : Nat → Nat) (c_size : Int32) (c_mentioned : Int32) (c_seen : Int64) (c_unseen : Int64) (z : Int32) (h : fX1_size c_size = some z) : Cn l E yX1_size cX1_size 1 (some .int) 0 0 [.ref (adc 0)] (wX1 E adc c_size c_mentioned c_seen c_unseen) (wX1 E adc c_size c_mentioned c_seen c_unseen) (some (.int z)) := by
  refine Cn.ofW (by decide +kernel) (Nat.le_of_ble_eq_true rfl) ?_
  intro p e s m args below meth c ls hC hN hl
  have hl : lv_has ls 1 [(0, .ref (adc 0))] := hl
  have hx := hC.1
  have hb := hC.2.1
  unfold fX1_size at h
  refine lv_aload_n hx hb dX1_size_0 rfl (lv_at hl 0 rfl) ?_
  refine gt_X1_size hC hN 0 rfl rfl dX1_size_1 ?_
  obtain rfl := Option.some.inj h
  exact n_iret hC hN dX1_size_4
set_option maxHeartbeats 4000000 in
set_option maxRecDepth 100000 in
theorem tX1_empty (l : Launch) (E : EV) (adc : Nat → Nat) (c_size : Int32) (c_mentioned : Int32) (c_seen : Int64) (c_unseen : Int64) (z : Int32 × Int32 × Int64 × Int64) (h : fX1_empty = some z) : Cn l E yX1_empty cX1_empty 1 none 0 0 [.ref (adc 0)] (wX1 E adc c_size c_mentioned c_seen c_unseen) (wX1 E adc z.1 z.2.1 z.2.2.1 z.2.2.2) (none) := by
  refine Cn.ofW (by decide +kernel) (Nat.le_of_ble_eq_true rfl) ?_
  intro p e s m args below meth c ls hC hN hl
  have hl : lv_has ls 1 [(0, .ref (adc 0))] := hl
  have hx := hC.1
  have hb := hC.2.1
  unfold fX1_empty at h
  refine lv_aload_n hx hb dX1_empty_0 rfl (lv_at hl 0 rfl) ?_
  refine lv_iconst (v := 0) hx hb dX1_empty_1 rfl ?_
  refine pt_X1_size hC hN 0 rfl (Nat.le_of_ble_eq_true rfl) (ws' := wX1 E adc 0 c_mentioned c_seen c_unseen) rfl dX1_empty_2 (fun H locs hN => ?_)
  refine lv_aload_n hx hb dX1_empty_5 rfl (lv_at hl 0 rfl) ?_
  refine lv_iconst (v := 0) hx hb dX1_empty_6 rfl ?_
  refine pt_X1_mentioned hC hN 0 rfl (Nat.le_of_ble_eq_true rfl) (ws' := wX1 E adc 0 0 c_seen c_unseen) rfl dX1_empty_7 (fun H locs hN => ?_)
  refine lv_aload_n hx hb dX1_empty_10 rfl (lv_at hl 0 rfl) ?_
  refine lv_lconst (v := 0) hx hb dX1_empty_11 rfl ?_
  refine pt_X1_seen hC hN 0 rfl (Nat.le_of_ble_eq_true rfl) (ws' := wX1 E adc 0 0 0 c_unseen) rfl dX1_empty_12 (fun H locs hN => ?_)
  refine lv_aload_n hx hb dX1_empty_15 rfl (lv_at hl 0 rfl) ?_
  refine lv_lconst (v := 0) hx hb dX1_empty_16 rfl ?_
  refine pt_X1_unseen hC hN 0 rfl (Nat.le_of_ble_eq_true rfl) (ws' := wX1 E adc 0 0 0 0) rfl dX1_empty_17 (fun H locs hN => ?_)
  obtain rfl := Option.some.inj h
  exact n_vret hC hN dX1_empty_20
set_option maxHeartbeats 4000000 in
set_option maxRecDepth 100000 in
theorem tX7_viewBit (l : Launch) (E : EV) (p1 : Int32) (p2 : Int32) (z : Int64) (h : fX7_viewBit p1 p2 = some z) : Cn l E yX7_viewBit cX7_viewBit 2 (some .long) 0 0 [.int p1, .int p2] ([]) ([]) (some (.long z)) := by
  refine Cn.ofW (by decide +kernel) (Nat.le_of_ble_eq_true rfl) ?_
  intro p e s m args below meth c ls hC hN hl
  have hl : lv_has ls 2 [(0, .int p1), (1, .int p2)] := hl
  have hx := hC.1
  have hb := hC.2.1
  unfold fX7_viewBit at h
  refine lv_lconst (v := 1) hx hb dX7_viewBit_0 rfl ?_
  refine lv_bipush (v := 8) hx hb dX7_viewBit_1 (by decide) ?_
  refine lv_iload_n hx hb dX7_viewBit_3 rfl (lv_at hl 0 rfl) ?_
  refine lv_imul hx hb dX7_viewBit_4 ?_
  refine lv_iload_n hx hb dX7_viewBit_5 rfl (lv_at hl 1 rfl) ?_
  refine lv_iadd hx hb dX7_viewBit_6 ?_
  refine lv_lshl (v := (lshl 1 ((8 * p1) + p2))) hx hb dX7_viewBit_7 rfl ?_
  obtain rfl := Option.some.inj h
  exact n_lret hC hN dX7_viewBit_8
set_option maxHeartbeats 4000000 in
set_option maxRecDepth 100000 in
theorem tX1_add (l : Launch) (E : EV) (adc : Nat → Nat) (c_size : Int32) (c_mentioned : Int32) (c_seen : Int64) (c_unseen : Int64) (p1 : Int32) (p2 : Int32) (p3 : Int32) (z : Int32 × Int32 × Int32 × Int64 × Int64) (h : fX1_add c_size c_mentioned c_seen c_unseen p1 p2 p3 = some z) : Cn l E yX1_add cX1_add 4 (some .boolean) 1 21 [.ref (adc 0), .int p1, .int p2, .int p3] (wX1 E adc c_size c_mentioned c_seen c_unseen) (wX1 E adc z.2.1 z.2.2.1 z.2.2.2.1 z.2.2.2.2) (some (.int z.1)) := by
  refine Cn.ofW (by decide +kernel) (Nat.le_of_ble_eq_true rfl) ?_
  intro p e s m args below meth c ls hC hN hl
  have hl : lv_has ls 4 [(0, .ref (adc 0)), (1, .int p1), (2, .int p2), (3, .int p3)] := hl
  have hx := hC.1
  have hb := hC.2.1
  unfold fX1_add at h
  refine lv_aload_n hx hb dX1_add_0 rfl (lv_at hl 0 rfl) ?_
  refine gt_X1_size hC hN 0 rfl rfl dX1_add_1 ?_
  refine lv_bipush (v := 6) hx hb dX1_add_4 (by decide) ?_
  refine lv_icmp_lt (tgt := 11) hx hb dX1_add_6 (by decide) (fun c1 => ?_) (fun c1 => ?_)
  · have h := if_t h c1
    refine lv_iload_n hx hb dX1_add_11 rfl (lv_at hl 3 rfl) ?_
    refine lv_if_eq (tgt := 32) hx hb dX1_add_12 (by decide) (fun c2 => ?_) (fun c2 => ?_)
    · have h := if_t h c2
      refine lv_aload_n hx hb dX1_add_32 rfl (lv_at hl 0 rfl) ?_
      refine lv_dup hx hb dX1_add_33 rfl ?_
      refine gt_X1_unseen hC hN 0 rfl rfl dX1_add_34 ?_
      refine lv_iload_n hx hb dX1_add_37 rfl (lv_at hl 1 rfl) ?_
      refine lv_iload_n hx hb dX1_add_38 rfl (lv_at hl 2 rfl) ?_
      obtain ⟨r_3, hr_3, h⟩ := bi_e h
      refine n_callSNl (ws' := wX1 E adc c_size c_mentioned c_seen c_unseen) hC hN (tX7_viewBit l E p1 p2 r_3 hr_3) cy_X7_viewBit (List.mem_of_getElem? (i := 11) rfl) mST_X7_viewBit (perm_nil _) (perm_nil _) rfl rfl hl.1 rfl (Nat.le_of_ble_eq_true rfl) dX1_add_39 ⟨Nat.le_of_ble_eq_true rfl, Nat.le_of_ble_eq_true rfl⟩ ⟨Nat.le_refl _, Nat.le_refl _⟩ (fun H locs hN => ?_)
      refine lv_lor hx hb dX1_add_42 ?_
      refine lv_topl (fun c_unseen_4 ec_unseen_4 => ?_)
      have h := bd_e h c_unseen_4 ec_unseen_4
      refine pt_X1_unseen hC hN 0 rfl (Nat.le_of_ble_eq_true rfl) (ws' := wX1 E adc c_size c_mentioned c_seen c_unseen_4) rfl dX1_add_43 (fun H locs hN => ?_)
      refine lv_aload_n hx hb dX1_add_46 rfl (lv_at hl 0 rfl) ?_
      refine lv_dup hx hb dX1_add_47 rfl ?_
      refine gt_X1_mentioned hC hN 0 rfl rfl dX1_add_48 ?_
      refine lv_iconst (v := 1) hx hb dX1_add_51 rfl ?_
      refine lv_iload_n hx hb dX1_add_52 rfl (lv_at hl 1 rfl) ?_
      refine lv_ishl hx hb dX1_add_53 ?_
      refine lv_iconst (v := 1) hx hb dX1_add_54 rfl ?_
      refine lv_iload_n hx hb dX1_add_55 rfl (lv_at hl 2 rfl) ?_
      refine lv_ishl hx hb dX1_add_56 ?_
      refine lv_ior hx hb dX1_add_57 ?_
      refine lv_ior hx hb dX1_add_58 ?_
      refine lv_topi (fun c_mentioned_5 ec_mentioned_5 => ?_)
      have h := bd_e h c_mentioned_5 ec_mentioned_5
      refine pt_X1_mentioned hC hN 0 rfl (Nat.le_of_ble_eq_true rfl) (ws' := wX1 E adc c_size c_mentioned_5 c_seen c_unseen_4) rfl dX1_add_59 (fun H locs hN => ?_)
      refine lv_aload_n hx hb dX1_add_62 rfl (lv_at hl 0 rfl) ?_
      refine lv_dup hx hb dX1_add_63 rfl ?_
      refine gt_X1_size hC hN 0 rfl rfl dX1_add_64 ?_
      refine lv_iconst (v := 1) hx hb dX1_add_67 rfl ?_
      refine lv_iadd hx hb dX1_add_68 ?_
      refine lv_topi (fun c_size_6 ec_size_6 => ?_)
      have h := bd_e h c_size_6 ec_size_6
      refine pt_X1_size hC hN 0 rfl (Nat.le_of_ble_eq_true rfl) (ws' := wX1 E adc c_size_6 c_mentioned_5 c_seen c_unseen_4) rfl dX1_add_69 (fun H locs hN => ?_)
      refine lv_iconst (v := 1) hx hb dX1_add_72 rfl ?_
      obtain rfl := Option.some.inj h
      exact n_zret hC hN (Or.inr rfl) dX1_add_73
    · have h := if_f h c2
      refine lv_aload_n hx hb dX1_add_15 rfl (lv_at hl 0 rfl) ?_
      refine lv_dup hx hb dX1_add_16 rfl ?_
      refine gt_X1_seen hC hN 0 rfl rfl dX1_add_17 ?_
      refine lv_iload_n hx hb dX1_add_20 rfl (lv_at hl 1 rfl) ?_
      refine lv_iload_n hx hb dX1_add_21 rfl (lv_at hl 2 rfl) ?_
      obtain ⟨r_7, hr_7, h⟩ := bi_e h
      refine n_callSNl (ws' := wX1 E adc c_size c_mentioned c_seen c_unseen) hC hN (tX7_viewBit l E p1 p2 r_7 hr_7) cy_X7_viewBit (List.mem_of_getElem? (i := 11) rfl) mST_X7_viewBit (perm_nil _) (perm_nil _) rfl rfl hl.1 rfl (Nat.le_of_ble_eq_true rfl) dX1_add_22 ⟨Nat.le_of_ble_eq_true rfl, Nat.le_of_ble_eq_true rfl⟩ ⟨Nat.le_refl _, Nat.le_refl _⟩ (fun H locs hN => ?_)
      refine lv_lor hx hb dX1_add_25 ?_
      refine lv_topl (fun c_seen_8 ec_seen_8 => ?_)
      have h := bd_e h c_seen_8 ec_seen_8
      refine pt_X1_seen hC hN 0 rfl (Nat.le_of_ble_eq_true rfl) (ws' := wX1 E adc c_size c_mentioned c_seen_8 c_unseen) rfl dX1_add_26 (fun H locs hN => ?_)
      refine lv_goto (tgt := 46) hx hb dX1_add_29 (by decide) ?_
      refine lv_aload_n hx hb dX1_add_46 rfl (lv_at hl 0 rfl) ?_
      refine lv_dup hx hb dX1_add_47 rfl ?_
      refine gt_X1_mentioned hC hN 0 rfl rfl dX1_add_48 ?_
      refine lv_iconst (v := 1) hx hb dX1_add_51 rfl ?_
      refine lv_iload_n hx hb dX1_add_52 rfl (lv_at hl 1 rfl) ?_
      refine lv_ishl hx hb dX1_add_53 ?_
      refine lv_iconst (v := 1) hx hb dX1_add_54 rfl ?_
      refine lv_iload_n hx hb dX1_add_55 rfl (lv_at hl 2 rfl) ?_
      refine lv_ishl hx hb dX1_add_56 ?_
      refine lv_ior hx hb dX1_add_57 ?_
      refine lv_ior hx hb dX1_add_58 ?_
      refine lv_topi (fun c_mentioned_9 ec_mentioned_9 => ?_)
      have h := bd_e h c_mentioned_9 ec_mentioned_9
      refine pt_X1_mentioned hC hN 0 rfl (Nat.le_of_ble_eq_true rfl) (ws' := wX1 E adc c_size c_mentioned_9 c_seen_8 c_unseen) rfl dX1_add_59 (fun H locs hN => ?_)
      refine lv_aload_n hx hb dX1_add_62 rfl (lv_at hl 0 rfl) ?_
      refine lv_dup hx hb dX1_add_63 rfl ?_
      refine gt_X1_size hC hN 0 rfl rfl dX1_add_64 ?_
      refine lv_iconst (v := 1) hx hb dX1_add_67 rfl ?_
      refine lv_iadd hx hb dX1_add_68 ?_
      refine lv_topi (fun c_size_10 ec_size_10 => ?_)
      have h := bd_e h c_size_10 ec_size_10
      refine pt_X1_size hC hN 0 rfl (Nat.le_of_ble_eq_true rfl) (ws' := wX1 E adc c_size_10 c_mentioned_9 c_seen_8 c_unseen) rfl dX1_add_69 (fun H locs hN => ?_)
      refine lv_iconst (v := 1) hx hb dX1_add_72 rfl ?_
      obtain rfl := Option.some.inj h
      exact n_zret hC hN (Or.inr rfl) dX1_add_73
  · have h := if_f h c1
    refine lv_iconst (v := 0) hx hb dX1_add_9 rfl ?_
    obtain rfl := Option.some.inj h
    exact n_zret hC hN (Or.inl rfl) dX1_add_10
set_option maxHeartbeats 4000000 in
set_option maxRecDepth 100000 in
theorem tX1_fit (l : Launch) (E : EV) (adc : Nat → Nat) (c_size : Int32) (c_mentioned : Int32) (c_seen : Int64) (c_unseen : Int64) (p1 : Int64) (p2 : Int32) (z : Int32) (h : fX1_fit c_mentioned c_seen c_unseen p1 p2 = some z) : Cn l E yX1_fit cX1_fit 4 (some .boolean) 0 0 [.ref (adc 0), .long p1, .int p2] (wX1 E adc c_size c_mentioned c_seen c_unseen) (wX1 E adc c_size c_mentioned c_seen c_unseen) (some (.int z)) := by
  refine Cn.ofW (by decide +kernel) (Nat.le_of_ble_eq_true rfl) ?_
  intro p e s m args below meth c ls hC hN hl
  have hl : lv_has ls 4 [(0, .ref (adc 0)), (1, .long p1), (3, .int p2)] := hl
  have hx := hC.1
  have hb := hC.2.1
  unfold fX1_fit at h
  refine lv_aload_n hx hb dX1_fit_0 rfl (lv_at hl 0 rfl) ?_
  refine gt_X1_mentioned hC hN 0 rfl rfl dX1_fit_1 ?_
  refine lv_iload_n hx hb dX1_fit_4 rfl (lv_at hl 2 rfl) ?_
  refine lv_iconst (v := -1) hx hb dX1_fit_5 rfl ?_
  refine lv_ixor hx hb dX1_fit_6 ?_
  refine lv_iand hx hb dX1_fit_7 ?_
  refine lv_if_ne (tgt := 40) hx hb dX1_fit_8 (by decide) (fun c1 => ?_) (fun c1 => ?_)
  · have h := if_f h c1
    refine lv_iconst (v := 0) hx hb dX1_fit_40 rfl ?_
    obtain rfl := Option.some.inj h
    exact n_zret hC hN (Or.inl rfl) dX1_fit_41
  · have h := if_t h c1
    refine lv_lload_n hx hb dX1_fit_11 rfl (lv_at hl 1 rfl) ?_
    refine lv_aload_n hx hb dX1_fit_12 rfl (lv_at hl 0 rfl) ?_
    refine gt_X1_seen hC hN 0 rfl rfl dX1_fit_13 ?_
    refine lv_land hx hb dX1_fit_16 ?_
    refine lv_aload_n hx hb dX1_fit_17 rfl (lv_at hl 0 rfl) ?_
    refine gt_X1_seen hC hN 0 rfl rfl dX1_fit_18 ?_
    refine W.lcmp hx hb dX1_fit_21 ?_
    refine lv_if_ne (tgt := 40) hx hb dX1_fit_22 (by decide) (fun c2 => ?_) (fun c2 => ?_)
    · have h := if_f h c2
      refine lv_iconst (v := 0) hx hb dX1_fit_40 rfl ?_
      obtain rfl := Option.some.inj h
      exact n_zret hC hN (Or.inl rfl) dX1_fit_41
    · have h := if_t h c2
      refine lv_lload_n hx hb dX1_fit_25 rfl (lv_at hl 1 rfl) ?_
      refine lv_aload_n hx hb dX1_fit_26 rfl (lv_at hl 0 rfl) ?_
      refine gt_X1_unseen hC hN 0 rfl rfl dX1_fit_27 ?_
      refine lv_land hx hb dX1_fit_30 ?_
      refine lv_lconst (v := 0) hx hb dX1_fit_31 rfl ?_
      refine W.lcmp hx hb dX1_fit_32 ?_
      refine lv_if_ne (tgt := 40) hx hb dX1_fit_33 (by decide) (fun c3 => ?_) (fun c3 => ?_)
      · have h := if_f h c3
        refine lv_iconst (v := 0) hx hb dX1_fit_40 rfl ?_
        obtain rfl := Option.some.inj h
        exact n_zret hC hN (Or.inl rfl) dX1_fit_41
      · have h := if_t h c3
        refine lv_iconst (v := 1) hx hb dX1_fit_36 rfl ?_
        refine lv_goto (tgt := 41) hx hb dX1_fit_37 (by decide) ?_
        obtain rfl := Option.some.inj h
        exact n_zret hC hN (Or.inr rfl) dX1_fit_41
set_option maxHeartbeats 4000000 in
set_option maxRecDepth 100000 in
theorem tX2_size (l : Launch) (E : EV) (adc : Nat → Nat) (ec : Nat → Nat → Nat) (c_nets : Nat → NetT) (c_oldest : Int32) (c_size : Int32) (z : Int32) (h : fX2_size c_size = some z) : Cn l E yX2_size cX2_size 1 (some .int) 0 0 [.ref (adc 0)] (wX2 E adc ec c_nets c_oldest c_size) (wX2 E adc ec c_nets c_oldest c_size) (some (.int z)) := by
  refine Cn.ofW (by decide +kernel) (Nat.le_of_ble_eq_true rfl) ?_
  intro p e s m args below meth c ls hC hN hl
  have hl : lv_has ls 1 [(0, .ref (adc 0))] := hl
  have hx := hC.1
  have hb := hC.2.1
  unfold fX2_size at h
  refine lv_aload_n hx hb dX2_size_0 rfl (lv_at hl 0 rfl) ?_
  refine gt_X2_size hC hN 0 rfl rfl dX2_size_1 ?_
  obtain rfl := Option.some.inj h
  exact n_iret hC hN dX2_size_4
set_option maxHeartbeats 4000000 in
set_option maxRecDepth 100000 in
theorem tX2_empty (l : Launch) (E : EV) (adc : Nat → Nat) (ec : Nat → Nat → Nat) (c_nets : Nat → NetT) (c_oldest : Int32) (c_size : Int32) (z : Int32) (h : fX2_empty = some z) : Cn l E yX2_empty cX2_empty 1 none 0 0 [.ref (adc 0)] (wX2 E adc ec c_nets c_oldest c_size) (wX2 E adc ec c_nets c_oldest z) (none) := by
  refine Cn.ofW (by decide +kernel) (Nat.le_of_ble_eq_true rfl) ?_
  intro p e s m args below meth c ls hC hN hl
  have hl : lv_has ls 1 [(0, .ref (adc 0))] := hl
  have hx := hC.1
  have hb := hC.2.1
  unfold fX2_empty at h
  refine lv_aload_n hx hb dX2_empty_0 rfl (lv_at hl 0 rfl) ?_
  refine lv_iconst (v := 0) hx hb dX2_empty_1 rfl ?_
  refine pt_X2_size hC hN 0 rfl (Nat.le_of_ble_eq_true rfl) (ws' := wX2 E adc ec c_nets c_oldest 0) rfl dX2_empty_2 (fun H locs hN => ?_)
  obtain rfl := Option.some.inj h
  exact n_vret hC hN dX2_empty_5
set_option maxHeartbeats 4000000 in
set_option maxRecDepth 100000 in
theorem tX2_remember (l : Launch) (E : EV) (adc : Nat → Nat) (ec : Nat → Nat → Nat) (add : Nat → Nat) (c_nets : Nat → NetT) (c_oldest : Int32) (c_size : Int32) (d_switches : Int32) (d_hosts : Int32) (d_renewing : Int32) (d_priorities : Nat → Int32) (d_names : Nat → Int32) (d_wants : Nat → Int32) (d_blocks : Nat → Int32) (d_upTo : Nat → Int32) (d_clashedTo : Nat → Int32) (d_zoneSets : Nat → Int32) (d_places : Nat → Int32) (d_notices : Nat → Int32) (d_news : Nat → Int32) (z : (Nat → NetT) × Int32 × Int32) (h : fX2_remember c_nets c_oldest c_size d_switches d_hosts d_renewing d_priorities d_names d_wants d_blocks d_upTo d_clashedTo d_zoneSets d_places d_notices d_news = some z) : Cn l E yX2_remember cX2_remember 2 none 2 43 [.ref (adc 0), .ref (add 0)] (cat [wX2 E adc ec c_nets c_oldest c_size, wX3 E add d_switches d_hosts d_renewing d_priorities d_names d_wants d_blocks d_upTo d_clashedTo d_zoneSets d_places d_notices d_news]) (cat [wX2 E adc ec z.1 z.2.1 z.2.2, wX3 E add d_switches d_hosts d_renewing d_priorities d_names d_wants d_blocks d_upTo d_clashedTo d_zoneSets d_places d_notices d_news]) (none) := by
  refine Cn.ofW (by decide +kernel) (Nat.le_of_ble_eq_true rfl) ?_
  intro p e s m args below meth c ls hC hN hl
  have hl : lv_has ls 2 [(0, .ref (adc 0)), (1, .ref (add 0))] := hl
  have hx := hC.1
  have hb := hC.2.1
  unfold fX2_remember at h
  refine lv_aload_n hx hb dX2_remember_0 rfl (lv_at hl 0 rfl) ?_
  refine gt_X2_size hC hN 0 rfl rfl dX2_remember_1 ?_
  refine lv_iconst (v := 5) hx hb dX2_remember_4 rfl ?_
  refine lv_icmp_ne (tgt := 30) hx hb dX2_remember_5 (by decide) (fun c1 => ?_) (fun c1 => ?_)
  · have h := if_f h c1
    refine lv_aload_n hx hb dX2_remember_30 rfl (lv_at hl 0 rfl) ?_
    refine gt_X2_nets hC hN 0 rfl rfl dX2_remember_31 ?_
    refine lv_aload_n hx hb dX2_remember_34 rfl (lv_at hl 0 rfl) ?_
    refine gt_X2_oldest hC hN 0 rfl rfl dX2_remember_35 ?_
    refine lv_aload_n hx hb dX2_remember_38 rfl (lv_at hl 0 rfl) ?_
    refine gt_X2_size hC hN 0 rfl rfl dX2_remember_39 ?_
    refine lv_iadd hx hb dX2_remember_42 ?_
    refine lv_iconst (v := 5) hx hb dX2_remember_43 rfl ?_
    refine lv_irem hx hb dX2_remember_44 (by decide) ?_
    have gk := inB_lt (gd_c h)
    have g := inB_vp (gd_c h)
    have h := gd_e h
    refine n_aald hC hN 1 rfl g rfl dX2_remember_45 ?_
    refine lv_aload_n hx hb dX2_remember_46 rfl (lv_at hl 1 rfl) ?_
    obtain ⟨z_2, hz_2, h⟩ := bi_e h
    obtain ⟨c_nets_3, ec_nets_3⟩ : ∃ y : Nat → NetT, y = updN c_nets (((c_oldest + c_size) - (c_oldest + c_size) / 5 * 5).toNatClampNeg) z_2 := ⟨_, rfl⟩
    have h := bd_e h c_nets_3 ec_nets_3
    refine n_callVv (ws' := cat [wX2 E adc ec c_nets_3 c_oldest c_size, wX3 E add d_switches d_hosts d_renewing d_priorities d_names d_wants d_blocks d_upTo d_clashedTo d_zoneSets d_places d_notices d_news]) hC hN (tX3_copyFrom l E (ec (((c_oldest + c_size) - (c_oldest + c_size) / 5 * 5).toNatClampNeg)) add ((c_nets (((c_oldest + c_size) - (c_oldest + c_size) / 5 * 5).toNatClampNeg)).1) ((c_nets (((c_oldest + c_size) - (c_oldest + c_size) / 5 * 5).toNatClampNeg)).2.1) ((c_nets (((c_oldest + c_size) - (c_oldest + c_size) / 5 * 5).toNatClampNeg)).2.2.1) ((c_nets (((c_oldest + c_size) - (c_oldest + c_size) / 5 * 5).toNatClampNeg)).2.2.2.1) ((c_nets (((c_oldest + c_size) - (c_oldest + c_size) / 5 * 5).toNatClampNeg)).2.2.2.2.1) ((c_nets (((c_oldest + c_size) - (c_oldest + c_size) / 5 * 5).toNatClampNeg)).2.2.2.2.2.1) ((c_nets (((c_oldest + c_size) - (c_oldest + c_size) / 5 * 5).toNatClampNeg)).2.2.2.2.2.2.1) ((c_nets (((c_oldest + c_size) - (c_oldest + c_size) / 5 * 5).toNatClampNeg)).2.2.2.2.2.2.2.1) ((c_nets (((c_oldest + c_size) - (c_oldest + c_size) / 5 * 5).toNatClampNeg)).2.2.2.2.2.2.2.2.1) ((c_nets (((c_oldest + c_size) - (c_oldest + c_size) / 5 * 5).toNatClampNeg)).2.2.2.2.2.2.2.2.2.1) ((c_nets (((c_oldest + c_size) - (c_oldest + c_size) / 5 * 5).toNatClampNeg)).2.2.2.2.2.2.2.2.2.2.1) ((c_nets (((c_oldest + c_size) - (c_oldest + c_size) / 5 * 5).toNatClampNeg)).2.2.2.2.2.2.2.2.2.2.2.1) ((c_nets (((c_oldest + c_size) - (c_oldest + c_size) / 5 * 5).toNatClampNeg)).2.2.2.2.2.2.2.2.2.2.2.2) d_switches d_hosts d_renewing d_priorities d_names d_wants d_blocks d_upTo d_clashedTo d_zoneSets d_places d_notices d_news z_2 hz_2) cy_X3_copyFrom mML_X2_25 mIM_X3_copyFrom mSE_X3_copyFrom rfl rfl (k := 0) rfl (pn_cd gk (fun i => wN E (ec i) (c_nets i)) _) (by rw [ec_nets_3]; exact pn_cdu gk _ _ _ _ _) rfl rfl hl.1 rfl (Nat.le_of_ble_eq_true rfl) dX2_remember_47 ⟨Nat.le_of_ble_eq_true rfl, Nat.le_of_ble_eq_true rfl⟩ ⟨Nat.le_refl _, Nat.le_refl _⟩ (fun H locs hN => ?_)
    refine lv_aload_n hx hb dX2_remember_50 rfl (lv_at hl 0 rfl) ?_
    refine lv_dup hx hb dX2_remember_51 rfl ?_
    refine gt_X2_size hC hN 0 rfl rfl dX2_remember_52 ?_
    refine lv_iconst (v := 1) hx hb dX2_remember_55 rfl ?_
    refine lv_iadd hx hb dX2_remember_56 ?_
    refine lv_topi (fun c_size_4 ec_size_4 => ?_)
    have h := bd_e h c_size_4 ec_size_4
    refine pt_X2_size hC hN 0 rfl (Nat.le_of_ble_eq_true rfl) (ws' := cat [wX2 E adc ec c_nets_3 c_oldest c_size_4, wX3 E add d_switches d_hosts d_renewing d_priorities d_names d_wants d_blocks d_upTo d_clashedTo d_zoneSets d_places d_notices d_news]) rfl dX2_remember_57 (fun H locs hN => ?_)
    obtain rfl := Option.some.inj h
    exact n_vret hC hN dX2_remember_60
  · have h := if_t h c1
    refine lv_aload_n hx hb dX2_remember_8 rfl (lv_at hl 0 rfl) ?_
    refine lv_aload_n hx hb dX2_remember_9 rfl (lv_at hl 0 rfl) ?_
    refine gt_X2_oldest hC hN 0 rfl rfl dX2_remember_10 ?_
    refine lv_iconst (v := 1) hx hb dX2_remember_13 rfl ?_
    refine lv_iadd hx hb dX2_remember_14 ?_
    refine lv_iconst (v := 5) hx hb dX2_remember_15 rfl ?_
    refine lv_irem hx hb dX2_remember_16 (by decide) ?_
    refine lv_topi (fun c_oldest_5 ec_oldest_5 => ?_)
    have h := bd_e h c_oldest_5 ec_oldest_5
    refine pt_X2_oldest hC hN 0 rfl (Nat.le_of_ble_eq_true rfl) (ws' := cat [wX2 E adc ec c_nets c_oldest_5 c_size, wX3 E add d_switches d_hosts d_renewing d_priorities d_names d_wants d_blocks d_upTo d_clashedTo d_zoneSets d_places d_notices d_news]) rfl dX2_remember_17 (fun H locs hN => ?_)
    refine lv_aload_n hx hb dX2_remember_20 rfl (lv_at hl 0 rfl) ?_
    refine lv_dup hx hb dX2_remember_21 rfl ?_
    refine gt_X2_size hC hN 0 rfl rfl dX2_remember_22 ?_
    refine lv_iconst (v := 1) hx hb dX2_remember_25 rfl ?_
    refine lv_isub hx hb dX2_remember_26 ?_
    refine lv_topi (fun c_size_6 ec_size_6 => ?_)
    have h := bd_e h c_size_6 ec_size_6
    refine pt_X2_size hC hN 0 rfl (Nat.le_of_ble_eq_true rfl) (ws' := cat [wX2 E adc ec c_nets c_oldest_5 c_size_6, wX3 E add d_switches d_hosts d_renewing d_priorities d_names d_wants d_blocks d_upTo d_clashedTo d_zoneSets d_places d_notices d_news]) rfl dX2_remember_27 (fun H locs hN => ?_)
    refine lv_aload_n hx hb dX2_remember_30 rfl (lv_at hl 0 rfl) ?_
    refine gt_X2_nets hC hN 0 rfl rfl dX2_remember_31 ?_
    refine lv_aload_n hx hb dX2_remember_34 rfl (lv_at hl 0 rfl) ?_
    refine gt_X2_oldest hC hN 0 rfl rfl dX2_remember_35 ?_
    refine lv_aload_n hx hb dX2_remember_38 rfl (lv_at hl 0 rfl) ?_
    refine gt_X2_size hC hN 0 rfl rfl dX2_remember_39 ?_
    refine lv_iadd hx hb dX2_remember_42 ?_
    refine lv_iconst (v := 5) hx hb dX2_remember_43 rfl ?_
    refine lv_irem hx hb dX2_remember_44 (by decide) ?_
    have gk := inB_lt (gd_c h)
    have g := inB_vp (gd_c h)
    have h := gd_e h
    refine n_aald hC hN 1 rfl g rfl dX2_remember_45 ?_
    refine lv_aload_n hx hb dX2_remember_46 rfl (lv_at hl 1 rfl) ?_
    obtain ⟨z_7, hz_7, h⟩ := bi_e h
    obtain ⟨c_nets_8, ec_nets_8⟩ : ∃ y : Nat → NetT, y = updN c_nets (((c_oldest_5 + c_size_6) - (c_oldest_5 + c_size_6) / 5 * 5).toNatClampNeg) z_7 := ⟨_, rfl⟩
    have h := bd_e h c_nets_8 ec_nets_8
    refine n_callVv (ws' := cat [wX2 E adc ec c_nets_8 c_oldest_5 c_size_6, wX3 E add d_switches d_hosts d_renewing d_priorities d_names d_wants d_blocks d_upTo d_clashedTo d_zoneSets d_places d_notices d_news]) hC hN (tX3_copyFrom l E (ec (((c_oldest_5 + c_size_6) - (c_oldest_5 + c_size_6) / 5 * 5).toNatClampNeg)) add ((c_nets (((c_oldest_5 + c_size_6) - (c_oldest_5 + c_size_6) / 5 * 5).toNatClampNeg)).1) ((c_nets (((c_oldest_5 + c_size_6) - (c_oldest_5 + c_size_6) / 5 * 5).toNatClampNeg)).2.1) ((c_nets (((c_oldest_5 + c_size_6) - (c_oldest_5 + c_size_6) / 5 * 5).toNatClampNeg)).2.2.1) ((c_nets (((c_oldest_5 + c_size_6) - (c_oldest_5 + c_size_6) / 5 * 5).toNatClampNeg)).2.2.2.1) ((c_nets (((c_oldest_5 + c_size_6) - (c_oldest_5 + c_size_6) / 5 * 5).toNatClampNeg)).2.2.2.2.1) ((c_nets (((c_oldest_5 + c_size_6) - (c_oldest_5 + c_size_6) / 5 * 5).toNatClampNeg)).2.2.2.2.2.1) ((c_nets (((c_oldest_5 + c_size_6) - (c_oldest_5 + c_size_6) / 5 * 5).toNatClampNeg)).2.2.2.2.2.2.1) ((c_nets (((c_oldest_5 + c_size_6) - (c_oldest_5 + c_size_6) / 5 * 5).toNatClampNeg)).2.2.2.2.2.2.2.1) ((c_nets (((c_oldest_5 + c_size_6) - (c_oldest_5 + c_size_6) / 5 * 5).toNatClampNeg)).2.2.2.2.2.2.2.2.1) ((c_nets (((c_oldest_5 + c_size_6) - (c_oldest_5 + c_size_6) / 5 * 5).toNatClampNeg)).2.2.2.2.2.2.2.2.2.1) ((c_nets (((c_oldest_5 + c_size_6) - (c_oldest_5 + c_size_6) / 5 * 5).toNatClampNeg)).2.2.2.2.2.2.2.2.2.2.1) ((c_nets (((c_oldest_5 + c_size_6) - (c_oldest_5 + c_size_6) / 5 * 5).toNatClampNeg)).2.2.2.2.2.2.2.2.2.2.2.1) ((c_nets (((c_oldest_5 + c_size_6) - (c_oldest_5 + c_size_6) / 5 * 5).toNatClampNeg)).2.2.2.2.2.2.2.2.2.2.2.2) d_switches d_hosts d_renewing d_priorities d_names d_wants d_blocks d_upTo d_clashedTo d_zoneSets d_places d_notices d_news z_7 hz_7) cy_X3_copyFrom mML_X2_25 mIM_X3_copyFrom mSE_X3_copyFrom rfl rfl (k := 0) rfl (pn_cd gk (fun i => wN E (ec i) (c_nets i)) _) (by rw [ec_nets_8]; exact pn_cdu gk _ _ _ _ _) rfl rfl hl.1 rfl (Nat.le_of_ble_eq_true rfl) dX2_remember_47 ⟨Nat.le_of_ble_eq_true rfl, Nat.le_of_ble_eq_true rfl⟩ ⟨Nat.le_refl _, Nat.le_refl _⟩ (fun H locs hN => ?_)
    refine lv_aload_n hx hb dX2_remember_50 rfl (lv_at hl 0 rfl) ?_
    refine lv_dup hx hb dX2_remember_51 rfl ?_
    refine gt_X2_size hC hN 0 rfl rfl dX2_remember_52 ?_
    refine lv_iconst (v := 1) hx hb dX2_remember_55 rfl ?_
    refine lv_iadd hx hb dX2_remember_56 ?_
    refine lv_topi (fun c_size_9 ec_size_9 => ?_)
    have h := bd_e h c_size_9 ec_size_9
    refine pt_X2_size hC hN 0 rfl (Nat.le_of_ble_eq_true rfl) (ws' := cat [wX2 E adc ec c_nets_8 c_oldest_5 c_size_9, wX3 E add d_switches d_hosts d_renewing d_priorities d_names d_wants d_blocks d_upTo d_clashedTo d_zoneSets d_places d_notices d_news]) rfl dX2_remember_57 (fun H locs hN => ?_)
    obtain rfl := Option.some.inj h
    exact n_vret hC hN dX2_remember_60
set_option maxHeartbeats 4000000 in
set_option maxRecDepth 100000 in
theorem tX2_restoreTo (l : Launch) (E : EV) (adc : Nat → Nat) (ec : Nat → Nat → Nat) (add : Nat → Nat) (c_nets : Nat → NetT) (c_oldest : Int32) (c_size : Int32) (d_switches : Int32) (d_hosts : Int32) (d_renewing : Int32) (d_priorities : Nat → Int32) (d_names : Nat → Int32) (d_wants : Nat → Int32) (d_blocks : Nat → Int32) (d_upTo : Nat → Int32) (d_clashedTo : Nat → Int32) (d_zoneSets : Nat → Int32) (d_places : Nat → Int32) (d_notices : Nat → Int32) (d_news : Nat → Int32) (z : Int32 × Int32 × Int32 × Int32 × (Nat → Int32) × (Nat → Int32) × (Nat → Int32) × (Nat → Int32) × (Nat → Int32) × (Nat → Int32) × (Nat → Int32) × (Nat → Int32) × (Nat → Int32) × (Nat → Int32)) (h : fX2_restoreTo c_nets c_oldest c_size d_switches d_hosts d_renewing d_priorities d_names d_wants d_blocks d_upTo d_clashedTo d_zoneSets d_places d_notices d_news = some z) : Cn l E yX2_restoreTo cX2_restoreTo 2 none 2 43 [.ref (adc 0), .ref (add 0)] (cat [wX2 E adc ec c_nets c_oldest c_size, wX3 E add d_switches d_hosts d_renewing d_priorities d_names d_wants d_blocks d_upTo d_clashedTo d_zoneSets d_places d_notices d_news]) (cat [wX2 E adc ec c_nets c_oldest z.1, wX3 E add z.2.1 z.2.2.1 z.2.2.2.1 z.2.2.2.2.1 z.2.2.2.2.2.1 z.2.2.2.2.2.2.1 z.2.2.2.2.2.2.2.1 z.2.2.2.2.2.2.2.2.1 z.2.2.2.2.2.2.2.2.2.1 z.2.2.2.2.2.2.2.2.2.2.1 z.2.2.2.2.2.2.2.2.2.2.2.1 z.2.2.2.2.2.2.2.2.2.2.2.2.1 z.2.2.2.2.2.2.2.2.2.2.2.2.2]) (none) := by
  refine Cn.ofW (by decide +kernel) (Nat.le_of_ble_eq_true rfl) ?_
  intro p e s m args below meth c ls hC hN hl
  have hl : lv_has ls 2 [(0, .ref (adc 0)), (1, .ref (add 0))] := hl
  have hx := hC.1
  have hb := hC.2.1
  unfold fX2_restoreTo at h
  refine lv_aload_n hx hb dX2_restoreTo_0 rfl (lv_at hl 0 rfl) ?_
  refine gt_X2_size hC hN 0 rfl rfl dX2_restoreTo_1 ?_
  refine lv_if_le (tgt := 37) hx hb dX2_restoreTo_4 (by decide) (fun c1 => ?_) (fun c1 => ?_)
  · have h := if_t h c1
    obtain rfl := Option.some.inj h
    exact n_vret hC hN dX2_restoreTo_37
  · have h := if_f h c1
    refine lv_aload_n hx hb dX2_restoreTo_7 rfl (lv_at hl 0 rfl) ?_
    refine lv_dup hx hb dX2_restoreTo_8 rfl ?_
    refine gt_X2_size hC hN 0 rfl rfl dX2_restoreTo_9 ?_
    refine lv_iconst (v := 1) hx hb dX2_restoreTo_12 rfl ?_
    refine lv_isub hx hb dX2_restoreTo_13 ?_
    refine lv_topi (fun c_size_2 ec_size_2 => ?_)
    have h := bd_e h c_size_2 ec_size_2
    refine pt_X2_size hC hN 0 rfl (Nat.le_of_ble_eq_true rfl) (ws' := cat [wX2 E adc ec c_nets c_oldest c_size_2, wX3 E add d_switches d_hosts d_renewing d_priorities d_names d_wants d_blocks d_upTo d_clashedTo d_zoneSets d_places d_notices d_news]) rfl dX2_restoreTo_14 (fun H locs hN => ?_)
    refine lv_aload_n hx hb dX2_restoreTo_17 rfl (lv_at hl 1 rfl) ?_
    refine lv_aload_n hx hb dX2_restoreTo_18 rfl (lv_at hl 0 rfl) ?_
    refine gt_X2_nets hC hN 0 rfl rfl dX2_restoreTo_19 ?_
    refine lv_aload_n hx hb dX2_restoreTo_22 rfl (lv_at hl 0 rfl) ?_
    refine gt_X2_oldest hC hN 0 rfl rfl dX2_restoreTo_23 ?_
    refine lv_aload_n hx hb dX2_restoreTo_26 rfl (lv_at hl 0 rfl) ?_
    refine gt_X2_size hC hN 0 rfl rfl dX2_restoreTo_27 ?_
    refine lv_iadd hx hb dX2_restoreTo_30 ?_
    refine lv_iconst (v := 5) hx hb dX2_restoreTo_31 rfl ?_
    refine lv_irem hx hb dX2_restoreTo_32 (by decide) ?_
    have gk := inB_lt (gd_c h)
    have g := inB_vp (gd_c h)
    have h := gd_e h
    refine n_aald hC hN 1 rfl g rfl dX2_restoreTo_33 ?_
    obtain ⟨z_3, hz_3, h⟩ := bi_e h
    refine n_callVv (ws' := cat [wX2 E adc ec c_nets c_oldest c_size_2, wX3 E add z_3.1 z_3.2.1 z_3.2.2.1 z_3.2.2.2.1 z_3.2.2.2.2.1 z_3.2.2.2.2.2.1 z_3.2.2.2.2.2.2.1 z_3.2.2.2.2.2.2.2.1 z_3.2.2.2.2.2.2.2.2.1 z_3.2.2.2.2.2.2.2.2.2.1 z_3.2.2.2.2.2.2.2.2.2.2.1 z_3.2.2.2.2.2.2.2.2.2.2.2.1 z_3.2.2.2.2.2.2.2.2.2.2.2.2]) hC hN (tX3_copyFrom l E add (ec (((c_oldest + c_size_2) - (c_oldest + c_size_2) / 5 * 5).toNatClampNeg)) d_switches d_hosts d_renewing d_priorities d_names d_wants d_blocks d_upTo d_clashedTo d_zoneSets d_places d_notices d_news ((c_nets (((c_oldest + c_size_2) - (c_oldest + c_size_2) / 5 * 5).toNatClampNeg)).1) ((c_nets (((c_oldest + c_size_2) - (c_oldest + c_size_2) / 5 * 5).toNatClampNeg)).2.1) ((c_nets (((c_oldest + c_size_2) - (c_oldest + c_size_2) / 5 * 5).toNatClampNeg)).2.2.1) ((c_nets (((c_oldest + c_size_2) - (c_oldest + c_size_2) / 5 * 5).toNatClampNeg)).2.2.2.1) ((c_nets (((c_oldest + c_size_2) - (c_oldest + c_size_2) / 5 * 5).toNatClampNeg)).2.2.2.2.1) ((c_nets (((c_oldest + c_size_2) - (c_oldest + c_size_2) / 5 * 5).toNatClampNeg)).2.2.2.2.2.1) ((c_nets (((c_oldest + c_size_2) - (c_oldest + c_size_2) / 5 * 5).toNatClampNeg)).2.2.2.2.2.2.1) ((c_nets (((c_oldest + c_size_2) - (c_oldest + c_size_2) / 5 * 5).toNatClampNeg)).2.2.2.2.2.2.2.1) ((c_nets (((c_oldest + c_size_2) - (c_oldest + c_size_2) / 5 * 5).toNatClampNeg)).2.2.2.2.2.2.2.2.1) ((c_nets (((c_oldest + c_size_2) - (c_oldest + c_size_2) / 5 * 5).toNatClampNeg)).2.2.2.2.2.2.2.2.2.1) ((c_nets (((c_oldest + c_size_2) - (c_oldest + c_size_2) / 5 * 5).toNatClampNeg)).2.2.2.2.2.2.2.2.2.2.1) ((c_nets (((c_oldest + c_size_2) - (c_oldest + c_size_2) / 5 * 5).toNatClampNeg)).2.2.2.2.2.2.2.2.2.2.2.1) ((c_nets (((c_oldest + c_size_2) - (c_oldest + c_size_2) / 5 * 5).toNatClampNeg)).2.2.2.2.2.2.2.2.2.2.2.2) z_3 hz_3) cy_X3_copyFrom mML_X2_25 mIM_X3_copyFrom mSE_X3_copyFrom rfl rfl (k := 0) rfl (pn_dc gk (fun i => wN E (ec i) (c_nets i)) _) (pn_dc gk (fun i => wN E (ec i) (c_nets i)) _) rfl rfl hl.1 rfl (Nat.le_of_ble_eq_true rfl) dX2_restoreTo_34 ⟨Nat.le_of_ble_eq_true rfl, Nat.le_of_ble_eq_true rfl⟩ ⟨Nat.le_refl _, Nat.le_refl _⟩ (fun H locs hN => ?_)
    obtain rfl := Option.some.inj h
    exact n_vret hC hN dX2_restoreTo_37
set_option maxHeartbeats 4000000 in
set_option maxRecDepth 100000 in
theorem tX3_empty (l : Launch) (E : EV) (adc : Nat → Nat) (c_switches : Int32) (c_hosts : Int32) (c_renewing : Int32) (c_priorities : Nat → Int32) (c_names : Nat → Int32) (c_wants : Nat → Int32) (c_blocks : Nat → Int32) (c_upTo : Nat → Int32) (c_clashedTo : Nat → Int32) (c_zoneSets : Nat → Int32) (c_places : Nat → Int32) (c_notices : Nat → Int32) (c_news : Nat → Int32) (z : Int32 × Int32 × Int32) (h : fX3_empty = some z) : Cn l E yX3_empty cX3_empty 1 none 0 0 [.ref (adc 0)] (wX3 E adc c_switches c_hosts c_renewing c_priorities c_names c_wants c_blocks c_upTo c_clashedTo c_zoneSets c_places c_notices c_news) (wX3 E adc z.1 z.2.1 z.2.2 c_priorities c_names c_wants c_blocks c_upTo c_clashedTo c_zoneSets c_places c_notices c_news) (none) := by
  refine Cn.ofW (by decide +kernel) (Nat.le_of_ble_eq_true rfl) ?_
  intro p e s m args below meth c ls hC hN hl
  have hl : lv_has ls 1 [(0, .ref (adc 0))] := hl
  have hx := hC.1
  have hb := hC.2.1
  unfold fX3_empty at h
  refine lv_aload_n hx hb dX3_empty_0 rfl (lv_at hl 0 rfl) ?_
  refine lv_iconst (v := 0) hx hb dX3_empty_1 rfl ?_
  refine pt_X3_switches hC hN 0 rfl (Nat.le_of_ble_eq_true rfl) (ws' := wX3 E adc 0 c_hosts c_renewing c_priorities c_names c_wants c_blocks c_upTo c_clashedTo c_zoneSets c_places c_notices c_news) rfl dX3_empty_2 (fun H locs hN => ?_)
  refine lv_aload_n hx hb dX3_empty_5 rfl (lv_at hl 0 rfl) ?_
  refine lv_iconst (v := 0) hx hb dX3_empty_6 rfl ?_
  refine pt_X3_hosts hC hN 0 rfl (Nat.le_of_ble_eq_true rfl) (ws' := wX3 E adc 0 0 c_renewing c_priorities c_names c_wants c_blocks c_upTo c_clashedTo c_zoneSets c_places c_notices c_news) rfl dX3_empty_7 (fun H locs hN => ?_)
  refine lv_aload_n hx hb dX3_empty_10 rfl (lv_at hl 0 rfl) ?_
  refine lv_iconst (v := 0) hx hb dX3_empty_11 rfl ?_
  refine pt_X3_renewing hC hN 0 rfl (by decide) (Nat.le_of_ble_eq_true rfl) (ws' := wX3 E adc 0 0 0 c_priorities c_names c_wants c_blocks c_upTo c_clashedTo c_zoneSets c_places c_notices c_news) rfl dX3_empty_12 (fun H locs hN => ?_)
  obtain rfl := Option.some.inj h
  exact n_vret hC hN dX3_empty_15
set_option maxHeartbeats 4000000 in
set_option maxRecDepth 100000 in
theorem tX3_addSwitch (l : Launch) (E : EV) (adc : Nat → Nat) (c_switches : Int32) (c_hosts : Int32) (c_renewing : Int32) (c_priorities : Nat → Int32) (c_names : Nat → Int32) (c_wants : Nat → Int32) (c_blocks : Nat → Int32) (c_upTo : Nat → Int32) (c_clashedTo : Nat → Int32) (c_zoneSets : Nat → Int32) (c_places : Nat → Int32) (c_notices : Nat → Int32) (c_news : Nat → Int32) (p1 : Int32) (p2 : Int32) (p3 : Int32) (z : Int32 × (Nat → Int32) × (Nat → Int32) × (Nat → Int32) × (Nat → Int32) × (Nat → Int32) × (Nat → Int32) × (Nat → Int32)) (h : fX3_addSwitch c_switches c_priorities c_names c_wants c_blocks c_upTo c_clashedTo c_zoneSets p1 p2 p3 = some z) : Cn l E yX3_addSwitch cX3_addSwitch 5 none 0 0 [.ref (adc 0), .int p1, .int p2, .int p3] (wX3 E adc c_switches c_hosts c_renewing c_priorities c_names c_wants c_blocks c_upTo c_clashedTo c_zoneSets c_places c_notices c_news) (wX3 E adc z.1 c_hosts c_renewing z.2.1 z.2.2.1 z.2.2.2.1 z.2.2.2.2.1 z.2.2.2.2.2.1 z.2.2.2.2.2.2.1 z.2.2.2.2.2.2.2 c_places c_notices c_news) (none) := by
  refine Cn.ofW (by decide +kernel) (Nat.le_of_ble_eq_true rfl) ?_
  intro p e s m args below meth c ls hC hN hl
  obtain ⟨z0, hz0⟩ : ∃ y, y = z := ⟨_, rfl⟩
  rw [← hz0] at h ⊢
  clear hz0
  have hl : lv_has ls 5 [(0, .ref (adc 0)), (1, .int p1), (2, .int p2), (3, .int p3)] := hl
  have hx := hC.1
  have hb := hC.2.1
  unfold fX3_addSwitch at h
  refine lv_aload_n hx hb dX3_addSwitch_0 rfl (lv_at hl 0 rfl) ?_
  refine gt_X3_switches hC hN 0 rfl rfl dX3_addSwitch_1 ?_
  refine lv_bipush (v := 6) hx hb dX3_addSwitch_4 (by decide) ?_
  refine lv_icmp_lt (tgt := 10) hx hb dX3_addSwitch_6 (by decide) (fun c1 => ?_) (fun c1 => ?_)
  · have h := if_t h c1
    refine lv_aload_n hx hb dX3_addSwitch_10 rfl (lv_at hl 0 rfl) ?_
    refine gt_X3_priorities hC hN 0 rfl rfl dX3_addSwitch_11 ?_
    refine lv_aload_n hx hb dX3_addSwitch_14 rfl (lv_at hl 0 rfl) ?_
    refine gt_X3_switches hC hN 0 rfl rfl dX3_addSwitch_15 ?_
    refine lv_iload_n hx hb dX3_addSwitch_18 rfl (lv_at hl 1 rfl) ?_
    have g := inB_vp (gd_c h)
    have h := gd_e h
    obtain ⟨c_priorities_2, ec_priorities_2⟩ : ∃ y : Nat → Int32, y = upd c_priorities c_switches.toNatClampNeg p1 := ⟨_, rfl⟩
    have h := bd_e h c_priorities_2 ec_priorities_2
    refine n_iast hC hN 1 rfl g ec_priorities_2 (ws' := wX3 E adc c_switches c_hosts c_renewing c_priorities_2 c_names c_wants c_blocks c_upTo c_clashedTo c_zoneSets c_places c_notices c_news) rfl dX3_addSwitch_19 (fun H locs hN => ?_)
    refine lv_aload_n hx hb dX3_addSwitch_20 rfl (lv_at hl 0 rfl) ?_
    refine gt_X3_names hC hN 0 rfl rfl dX3_addSwitch_21 ?_
    refine lv_aload_n hx hb dX3_addSwitch_24 rfl (lv_at hl 0 rfl) ?_
    refine gt_X3_switches hC hN 0 rfl rfl dX3_addSwitch_25 ?_
    refine lv_iload_n hx hb dX3_addSwitch_28 rfl (lv_at hl 2 rfl) ?_
    have g := inB_vp (gd_c h)
    have h := gd_e h
    obtain ⟨c_names_3, ec_names_3⟩ : ∃ y : Nat → Int32, y = upd c_names c_switches.toNatClampNeg p2 := ⟨_, rfl⟩
    have h := bd_e h c_names_3 ec_names_3
    refine n_iast hC hN 2 rfl g ec_names_3 (ws' := wX3 E adc c_switches c_hosts c_renewing c_priorities_2 c_names_3 c_wants c_blocks c_upTo c_clashedTo c_zoneSets c_places c_notices c_news) rfl dX3_addSwitch_29 (fun H locs hN => ?_)
    refine lv_aload_n hx hb dX3_addSwitch_30 rfl (lv_at hl 0 rfl) ?_
    refine gt_X3_wants hC hN 0 rfl rfl dX3_addSwitch_31 ?_
    refine lv_aload_n hx hb dX3_addSwitch_34 rfl (lv_at hl 0 rfl) ?_
    refine gt_X3_switches hC hN 0 rfl rfl dX3_addSwitch_35 ?_
    refine lv_iload_n hx hb dX3_addSwitch_38 rfl (lv_at hl 3 rfl) ?_
    have g := inB_vp (gd_c h)
    have h := gd_e h
    obtain ⟨c_wants_4, ec_wants_4⟩ : ∃ y : Nat → Int32, y = upd c_wants c_switches.toNatClampNeg p3 := ⟨_, rfl⟩
    have h := bd_e h c_wants_4 ec_wants_4
    refine n_iast hC hN 3 rfl g ec_wants_4 (ws' := wX3 E adc c_switches c_hosts c_renewing c_priorities_2 c_names_3 c_wants_4 c_blocks c_upTo c_clashedTo c_zoneSets c_places c_notices c_news) rfl dX3_addSwitch_39 (fun H locs hN => ?_)
    refine lv_aload_n hx hb dX3_addSwitch_40 rfl (lv_at hl 0 rfl) ?_
    refine gt_X3_blocks hC hN 0 rfl rfl dX3_addSwitch_41 ?_
    refine lv_aload_n hx hb dX3_addSwitch_44 rfl (lv_at hl 0 rfl) ?_
    refine gt_X3_switches hC hN 0 rfl rfl dX3_addSwitch_45 ?_
    refine lv_iload_n hx hb dX3_addSwitch_48 rfl (lv_at hl 3 rfl) ?_
    refine lv_if_ne (tgt := 56) hx hb dX3_addSwitch_49 (by decide) (fun c5 => ?_) (fun c5 => ?_)
    · have h := if_f h c5
      refine lv_iload_n hx hb dX3_addSwitch_56 rfl (lv_at hl 3 rfl) ?_
      have g := inB_vp (gd_c h)
      have h := gd_e h
      obtain ⟨c_blocks_6, ec_blocks_6⟩ : ∃ y : Nat → Int32, y = upd c_blocks c_switches.toNatClampNeg p3 := ⟨_, rfl⟩
      have h := bd_e h c_blocks_6 ec_blocks_6
      refine n_iast hC hN 4 rfl g ec_blocks_6 (ws' := wX3 E adc c_switches c_hosts c_renewing c_priorities_2 c_names_3 c_wants_4 c_blocks_6 c_upTo c_clashedTo c_zoneSets c_places c_notices c_news) rfl dX3_addSwitch_57 (fun H locs hN => ?_)
      refine lv_aload_n hx hb dX3_addSwitch_58 rfl (lv_at hl 0 rfl) ?_
      refine gt_X3_upTo hC hN 0 rfl rfl dX3_addSwitch_59 ?_
      refine lv_aload_n hx hb dX3_addSwitch_62 rfl (lv_at hl 0 rfl) ?_
      refine gt_X3_switches hC hN 0 rfl rfl dX3_addSwitch_63 ?_
      refine lv_iconst (v := 0) hx hb dX3_addSwitch_66 rfl ?_
      have g := inB_vp (gd_c h)
      have h := gd_e h
      obtain ⟨c_upTo_7, ec_upTo_7⟩ : ∃ y : Nat → Int32, y = upd c_upTo c_switches.toNatClampNeg 0 := ⟨_, rfl⟩
      have h := bd_e h c_upTo_7 ec_upTo_7
      refine n_iast hC hN 5 rfl g ec_upTo_7 (ws' := wX3 E adc c_switches c_hosts c_renewing c_priorities_2 c_names_3 c_wants_4 c_blocks_6 c_upTo_7 c_clashedTo c_zoneSets c_places c_notices c_news) rfl dX3_addSwitch_67 (fun H locs hN => ?_)
      refine lv_aload_n hx hb dX3_addSwitch_68 rfl (lv_at hl 0 rfl) ?_
      refine gt_X3_clashedTo hC hN 0 rfl rfl dX3_addSwitch_69 ?_
      refine lv_aload_n hx hb dX3_addSwitch_72 rfl (lv_at hl 0 rfl) ?_
      refine gt_X3_switches hC hN 0 rfl rfl dX3_addSwitch_73 ?_
      refine lv_iconst (v := 0) hx hb dX3_addSwitch_76 rfl ?_
      have g := inB_vp (gd_c h)
      have h := gd_e h
      obtain ⟨c_clashedTo_8, ec_clashedTo_8⟩ : ∃ y : Nat → Int32, y = upd c_clashedTo c_switches.toNatClampNeg 0 := ⟨_, rfl⟩
      have h := bd_e h c_clashedTo_8 ec_clashedTo_8
      refine n_iast hC hN 6 rfl g ec_clashedTo_8 (ws' := wX3 E adc c_switches c_hosts c_renewing c_priorities_2 c_names_3 c_wants_4 c_blocks_6 c_upTo_7 c_clashedTo_8 c_zoneSets c_places c_notices c_news) rfl dX3_addSwitch_77 (fun H locs hN => ?_)
      refine lv_iconst (v := 0) hx hb dX3_addSwitch_78 rfl ?_
      refine lv_istore (lv' := [(4, .int 0), (0, .ref (adc 0)), (1, .int p1), (2, .int p2), (3, .int p3)]) hx hb dX3_addSwitch_79 hl (by decide) rfl (fun ls hl => ?_)
      have L1 : ∀ (fu : Nat) (v4_9 : Int32) (c_zoneSets_10 : Nat → Int32) (z : Int32 × (Nat → Int32)) (H : Heap) (locs : List Loc) (ls : Array Slot), Nw E s (AD (wX3 E adc c_switches c_hosts c_renewing c_priorities c_names c_wants c_blocks c_upTo c_clashedTo c_zoneSets c_places c_notices c_news)) (wX3 E adc c_switches c_hosts c_renewing c_priorities_2 c_names_3 c_wants_4 c_blocks_6 c_upTo_7 c_clashedTo_8 c_zoneSets_10 c_places c_notices c_news) H locs → lv_has ls 5 [(0, .ref (adc 0)), (1, .int p1), (2, .int p2), (3, .int p3), (4, .int v4_9)] → fX3_addSwitch_L1 c_switches fu v4_9 c_zoneSets_10 = some z → (∀ (H : Heap) (locs : List Loc) (ls : Array Slot), Nw E s (AD (wX3 E adc c_switches c_hosts c_renewing c_priorities c_names c_wants c_blocks c_upTo c_clashedTo c_zoneSets c_places c_notices c_news)) (wX3 E adc c_switches c_hosts c_renewing c_priorities_2 c_names_3 c_wants_4 c_blocks_6 c_upTo_7 c_clashedTo_8 z.2 c_places c_notices c_news) H locs → lv_has ls 5 [(0, .ref (adc 0)), (1, .int p1), (2, .int p2), (3, .int p3), (4, .int z.1)] → WN p l e 0 0 s m args below meth c E (wX3 E adc c_switches c_hosts c_renewing c_priorities c_names c_wants c_blocks c_upTo c_clashedTo c_zoneSets c_places c_notices c_news) (none) (wX3 E adc z0.1 c_hosts c_renewing z0.2.1 z0.2.2.1 z0.2.2.2.1 z0.2.2.2.2.1 z0.2.2.2.2.2.1 z0.2.2.2.2.2.2.1 z0.2.2.2.2.2.2.2 c_places c_notices c_news) H locs (F0 m 108 ls [])) → WN p l e 0 0 s m args below meth c E (wX3 E adc c_switches c_hosts c_renewing c_priorities c_names c_wants c_blocks c_upTo c_clashedTo c_zoneSets c_places c_notices c_news) (none) (wX3 E adc z0.1 c_hosts c_renewing z0.2.1 z0.2.2.1 z0.2.2.2.1 z0.2.2.2.2.1 z0.2.2.2.2.2.1 z0.2.2.2.2.2.2.1 z0.2.2.2.2.2.2.2 c_places c_notices c_news) H locs (F0 m 81 ls []) := by
        intro fu
        induction fu with
        | zero =>
          intro v4_9 c_zoneSets_10 z H locs ls hN hl h K
          cases (show (none : Option (Int32 × (Nat → Int32))) = some z from h)
        | succ fu ih =>
          intro v4_9 c_zoneSets_10 z H locs ls hN hl h K
          rw [fX3_addSwitch_L1.eq_2] at h
          refine lv_iload hx hb dX3_addSwitch_81 (lv_at hl 4 rfl) ?_
          refine lv_iconst (v := 4) hx hb dX3_addSwitch_83 rfl ?_
          refine lv_icmp_ge (tgt := 108) hx hb dX3_addSwitch_84 (by decide) (fun c11 => ?_) (fun c11 => ?_)
          · have h := if_t h c11
            obtain rfl := Option.some.inj h
            exact K _ _ _ hN (lv_sub hl [0, 1, 2, 3, 4] rfl)
          · have h := if_f h c11
            refine lv_aload_n hx hb dX3_addSwitch_87 rfl (lv_at hl 0 rfl) ?_
            refine gt_X3_zoneSets hC hN 0 rfl rfl dX3_addSwitch_88 ?_
            refine lv_aload_n hx hb dX3_addSwitch_91 rfl (lv_at hl 0 rfl) ?_
            refine gt_X3_switches hC hN 0 rfl rfl dX3_addSwitch_92 ?_
            refine lv_iconst (v := 4) hx hb dX3_addSwitch_95 rfl ?_
            refine lv_imul hx hb dX3_addSwitch_96 ?_
            refine lv_iload hx hb dX3_addSwitch_97 (lv_at hl 4 rfl) ?_
            refine lv_iadd hx hb dX3_addSwitch_99 ?_
            refine lv_iconst (v := 0) hx hb dX3_addSwitch_100 rfl ?_
            have g := inB_vp (gd_c h)
            have h := gd_e h
            obtain ⟨c_zoneSets_12, ec_zoneSets_12⟩ : ∃ y : Nat → Int32, y = upd c_zoneSets_10 ((c_switches * 4) + v4_9).toNatClampNeg 0 := ⟨_, rfl⟩
            have h := bd_e h c_zoneSets_12 ec_zoneSets_12
            refine n_iast hC hN 7 rfl g ec_zoneSets_12 (ws' := wX3 E adc c_switches c_hosts c_renewing c_priorities_2 c_names_3 c_wants_4 c_blocks_6 c_upTo_7 c_clashedTo_8 c_zoneSets_12 c_places c_notices c_news) rfl dX3_addSwitch_101 (fun H locs hN => ?_)
            obtain ⟨v4_13, ev4_13⟩ : ∃ y : Int32, y = v4_9 + 1 := ⟨_, rfl⟩
            have h := bd_e h v4_13 ev4_13
            refine lv_iinc (v := v4_13) (lv' := [(4, .int v4_13), (0, .ref (adc 0)), (1, .int p1), (2, .int p2), (3, .int p3)]) hx hb dX3_addSwitch_102 hl (k := 4) rfl (by rw [ev4_13]; rfl) (by decide) rfl (fun ls hl => ?_)
            refine lv_goto (tgt := 81) hx hb dX3_addSwitch_105 (by decide) ?_
            exact ih v4_13 c_zoneSets_12 z _ _ _ hN (lv_sub hl [1, 2, 3, 4, 0] rfl) h K
      obtain ⟨z_14, hz_14, h⟩ := bi_e h
      refine L1 500 0 c_zoneSets z_14 _ _ _ hN (lv_sub hl [1, 2, 3, 4, 0] rfl) hz_14 (fun H locs ls hN hl => ?_)
      refine lv_aload_n hx hb dX3_addSwitch_108 rfl (lv_at hl 0 rfl) ?_
      refine lv_dup hx hb dX3_addSwitch_109 rfl ?_
      refine gt_X3_switches hC hN 0 rfl rfl dX3_addSwitch_110 ?_
      refine lv_iconst (v := 1) hx hb dX3_addSwitch_113 rfl ?_
      refine lv_iadd hx hb dX3_addSwitch_114 ?_
      refine lv_topi (fun c_switches_15 ec_switches_15 => ?_)
      have h := bd_e h c_switches_15 ec_switches_15
      refine pt_X3_switches hC hN 0 rfl (Nat.le_of_ble_eq_true rfl) (ws' := wX3 E adc c_switches_15 c_hosts c_renewing c_priorities_2 c_names_3 c_wants_4 c_blocks_6 c_upTo_7 c_clashedTo_8 z_14.2 c_places c_notices c_news) rfl dX3_addSwitch_115 (fun H locs hN => ?_)
      obtain rfl := Option.some.inj h
      exact n_vret hC hN dX3_addSwitch_118
    · have h := if_t h c5
      refine lv_iconst (v := 1) hx hb dX3_addSwitch_52 rfl ?_
      refine lv_goto (tgt := 57) hx hb dX3_addSwitch_53 (by decide) ?_
      have g := inB_vp (gd_c h)
      have h := gd_e h
      obtain ⟨c_blocks_16, ec_blocks_16⟩ : ∃ y : Nat → Int32, y = upd c_blocks c_switches.toNatClampNeg 1 := ⟨_, rfl⟩
      have h := bd_e h c_blocks_16 ec_blocks_16
      refine n_iast hC hN 4 rfl g ec_blocks_16 (ws' := wX3 E adc c_switches c_hosts c_renewing c_priorities_2 c_names_3 c_wants_4 c_blocks_16 c_upTo c_clashedTo c_zoneSets c_places c_notices c_news) rfl dX3_addSwitch_57 (fun H locs hN => ?_)
      refine lv_aload_n hx hb dX3_addSwitch_58 rfl (lv_at hl 0 rfl) ?_
      refine gt_X3_upTo hC hN 0 rfl rfl dX3_addSwitch_59 ?_
      refine lv_aload_n hx hb dX3_addSwitch_62 rfl (lv_at hl 0 rfl) ?_
      refine gt_X3_switches hC hN 0 rfl rfl dX3_addSwitch_63 ?_
      refine lv_iconst (v := 0) hx hb dX3_addSwitch_66 rfl ?_
      have g := inB_vp (gd_c h)
      have h := gd_e h
      obtain ⟨c_upTo_17, ec_upTo_17⟩ : ∃ y : Nat → Int32, y = upd c_upTo c_switches.toNatClampNeg 0 := ⟨_, rfl⟩
      have h := bd_e h c_upTo_17 ec_upTo_17
      refine n_iast hC hN 5 rfl g ec_upTo_17 (ws' := wX3 E adc c_switches c_hosts c_renewing c_priorities_2 c_names_3 c_wants_4 c_blocks_16 c_upTo_17 c_clashedTo c_zoneSets c_places c_notices c_news) rfl dX3_addSwitch_67 (fun H locs hN => ?_)
      refine lv_aload_n hx hb dX3_addSwitch_68 rfl (lv_at hl 0 rfl) ?_
      refine gt_X3_clashedTo hC hN 0 rfl rfl dX3_addSwitch_69 ?_
      refine lv_aload_n hx hb dX3_addSwitch_72 rfl (lv_at hl 0 rfl) ?_
      refine gt_X3_switches hC hN 0 rfl rfl dX3_addSwitch_73 ?_
      refine lv_iconst (v := 0) hx hb dX3_addSwitch_76 rfl ?_
      have g := inB_vp (gd_c h)
      have h := gd_e h
      obtain ⟨c_clashedTo_18, ec_clashedTo_18⟩ : ∃ y : Nat → Int32, y = upd c_clashedTo c_switches.toNatClampNeg 0 := ⟨_, rfl⟩
      have h := bd_e h c_clashedTo_18 ec_clashedTo_18
      refine n_iast hC hN 6 rfl g ec_clashedTo_18 (ws' := wX3 E adc c_switches c_hosts c_renewing c_priorities_2 c_names_3 c_wants_4 c_blocks_16 c_upTo_17 c_clashedTo_18 c_zoneSets c_places c_notices c_news) rfl dX3_addSwitch_77 (fun H locs hN => ?_)
      refine lv_iconst (v := 0) hx hb dX3_addSwitch_78 rfl ?_
      refine lv_istore (lv' := [(4, .int 0), (0, .ref (adc 0)), (1, .int p1), (2, .int p2), (3, .int p3)]) hx hb dX3_addSwitch_79 hl (by decide) rfl (fun ls hl => ?_)
      have L2 : ∀ (fu : Nat) (v4_19 : Int32) (c_zoneSets_20 : Nat → Int32) (z : Int32 × (Nat → Int32)) (H : Heap) (locs : List Loc) (ls : Array Slot), Nw E s (AD (wX3 E adc c_switches c_hosts c_renewing c_priorities c_names c_wants c_blocks c_upTo c_clashedTo c_zoneSets c_places c_notices c_news)) (wX3 E adc c_switches c_hosts c_renewing c_priorities_2 c_names_3 c_wants_4 c_blocks_16 c_upTo_17 c_clashedTo_18 c_zoneSets_20 c_places c_notices c_news) H locs → lv_has ls 5 [(0, .ref (adc 0)), (1, .int p1), (2, .int p2), (3, .int p3), (4, .int v4_19)] → fX3_addSwitch_L2 c_switches fu v4_19 c_zoneSets_20 = some z → (∀ (H : Heap) (locs : List Loc) (ls : Array Slot), Nw E s (AD (wX3 E adc c_switches c_hosts c_renewing c_priorities c_names c_wants c_blocks c_upTo c_clashedTo c_zoneSets c_places c_notices c_news)) (wX3 E adc c_switches c_hosts c_renewing c_priorities_2 c_names_3 c_wants_4 c_blocks_16 c_upTo_17 c_clashedTo_18 z.2 c_places c_notices c_news) H locs → lv_has ls 5 [(0, .ref (adc 0)), (1, .int p1), (2, .int p2), (3, .int p3), (4, .int z.1)] → WN p l e 0 0 s m args below meth c E (wX3 E adc c_switches c_hosts c_renewing c_priorities c_names c_wants c_blocks c_upTo c_clashedTo c_zoneSets c_places c_notices c_news) (none) (wX3 E adc z0.1 c_hosts c_renewing z0.2.1 z0.2.2.1 z0.2.2.2.1 z0.2.2.2.2.1 z0.2.2.2.2.2.1 z0.2.2.2.2.2.2.1 z0.2.2.2.2.2.2.2 c_places c_notices c_news) H locs (F0 m 108 ls [])) → WN p l e 0 0 s m args below meth c E (wX3 E adc c_switches c_hosts c_renewing c_priorities c_names c_wants c_blocks c_upTo c_clashedTo c_zoneSets c_places c_notices c_news) (none) (wX3 E adc z0.1 c_hosts c_renewing z0.2.1 z0.2.2.1 z0.2.2.2.1 z0.2.2.2.2.1 z0.2.2.2.2.2.1 z0.2.2.2.2.2.2.1 z0.2.2.2.2.2.2.2 c_places c_notices c_news) H locs (F0 m 81 ls []) := by
        intro fu
        induction fu with
        | zero =>
          intro v4_19 c_zoneSets_20 z H locs ls hN hl h K
          cases (show (none : Option (Int32 × (Nat → Int32))) = some z from h)
        | succ fu ih =>
          intro v4_19 c_zoneSets_20 z H locs ls hN hl h K
          rw [fX3_addSwitch_L2.eq_2] at h
          refine lv_iload hx hb dX3_addSwitch_81 (lv_at hl 4 rfl) ?_
          refine lv_iconst (v := 4) hx hb dX3_addSwitch_83 rfl ?_
          refine lv_icmp_ge (tgt := 108) hx hb dX3_addSwitch_84 (by decide) (fun c21 => ?_) (fun c21 => ?_)
          · have h := if_t h c21
            obtain rfl := Option.some.inj h
            exact K _ _ _ hN (lv_sub hl [0, 1, 2, 3, 4] rfl)
          · have h := if_f h c21
            refine lv_aload_n hx hb dX3_addSwitch_87 rfl (lv_at hl 0 rfl) ?_
            refine gt_X3_zoneSets hC hN 0 rfl rfl dX3_addSwitch_88 ?_
            refine lv_aload_n hx hb dX3_addSwitch_91 rfl (lv_at hl 0 rfl) ?_
            refine gt_X3_switches hC hN 0 rfl rfl dX3_addSwitch_92 ?_
            refine lv_iconst (v := 4) hx hb dX3_addSwitch_95 rfl ?_
            refine lv_imul hx hb dX3_addSwitch_96 ?_
            refine lv_iload hx hb dX3_addSwitch_97 (lv_at hl 4 rfl) ?_
            refine lv_iadd hx hb dX3_addSwitch_99 ?_
            refine lv_iconst (v := 0) hx hb dX3_addSwitch_100 rfl ?_
            have g := inB_vp (gd_c h)
            have h := gd_e h
            obtain ⟨c_zoneSets_22, ec_zoneSets_22⟩ : ∃ y : Nat → Int32, y = upd c_zoneSets_20 ((c_switches * 4) + v4_19).toNatClampNeg 0 := ⟨_, rfl⟩
            have h := bd_e h c_zoneSets_22 ec_zoneSets_22
            refine n_iast hC hN 7 rfl g ec_zoneSets_22 (ws' := wX3 E adc c_switches c_hosts c_renewing c_priorities_2 c_names_3 c_wants_4 c_blocks_16 c_upTo_17 c_clashedTo_18 c_zoneSets_22 c_places c_notices c_news) rfl dX3_addSwitch_101 (fun H locs hN => ?_)
            obtain ⟨v4_23, ev4_23⟩ : ∃ y : Int32, y = v4_19 + 1 := ⟨_, rfl⟩
            have h := bd_e h v4_23 ev4_23
            refine lv_iinc (v := v4_23) (lv' := [(4, .int v4_23), (0, .ref (adc 0)), (1, .int p1), (2, .int p2), (3, .int p3)]) hx hb dX3_addSwitch_102 hl (k := 4) rfl (by rw [ev4_23]; rfl) (by decide) rfl (fun ls hl => ?_)
            refine lv_goto (tgt := 81) hx hb dX3_addSwitch_105 (by decide) ?_
            exact ih v4_23 c_zoneSets_22 z _ _ _ hN (lv_sub hl [1, 2, 3, 4, 0] rfl) h K
      obtain ⟨z_24, hz_24, h⟩ := bi_e h
      refine L2 500 0 c_zoneSets z_24 _ _ _ hN (lv_sub hl [1, 2, 3, 4, 0] rfl) hz_24 (fun H locs ls hN hl => ?_)
      refine lv_aload_n hx hb dX3_addSwitch_108 rfl (lv_at hl 0 rfl) ?_
      refine lv_dup hx hb dX3_addSwitch_109 rfl ?_
      refine gt_X3_switches hC hN 0 rfl rfl dX3_addSwitch_110 ?_
      refine lv_iconst (v := 1) hx hb dX3_addSwitch_113 rfl ?_
      refine lv_iadd hx hb dX3_addSwitch_114 ?_
      refine lv_topi (fun c_switches_25 ec_switches_25 => ?_)
      have h := bd_e h c_switches_25 ec_switches_25
      refine pt_X3_switches hC hN 0 rfl (Nat.le_of_ble_eq_true rfl) (ws' := wX3 E adc c_switches_25 c_hosts c_renewing c_priorities_2 c_names_3 c_wants_4 c_blocks_16 c_upTo_17 c_clashedTo_18 z_24.2 c_places c_notices c_news) rfl dX3_addSwitch_115 (fun H locs hN => ?_)
      obtain rfl := Option.some.inj h
      exact n_vret hC hN dX3_addSwitch_118
  · have h := if_f h c1
    obtain rfl := Option.some.inj h
    exact n_vret hC hN dX3_addSwitch_9
set_option maxHeartbeats 4000000 in
set_option maxRecDepth 100000 in
theorem tX3_addHost (l : Launch) (E : EV) (adc : Nat → Nat) (c_switches : Int32) (c_hosts : Int32) (c_renewing : Int32) (c_priorities : Nat → Int32) (c_names : Nat → Int32) (c_wants : Nat → Int32) (c_blocks : Nat → Int32) (c_upTo : Nat → Int32) (c_clashedTo : Nat → Int32) (c_zoneSets : Nat → Int32) (c_places : Nat → Int32) (c_notices : Nat → Int32) (c_news : Nat → Int32) (p1 : Int32) (z : Int32 × (Nat → Int32) × (Nat → Int32) × (Nat → Int32)) (h : fX3_addHost c_hosts c_places c_notices c_news p1 = some z) : Cn l E yX3_addHost cX3_addHost 2 none 0 0 [.ref (adc 0), .int p1] (wX3 E adc c_switches c_hosts c_renewing c_priorities c_names c_wants c_blocks c_upTo c_clashedTo c_zoneSets c_places c_notices c_news) (wX3 E adc c_switches z.1 c_renewing c_priorities c_names c_wants c_blocks c_upTo c_clashedTo c_zoneSets z.2.1 z.2.2.1 z.2.2.2) (none) := by
  refine Cn.ofW (by decide +kernel) (Nat.le_of_ble_eq_true rfl) ?_
  intro p e s m args below meth c ls hC hN hl
  have hl : lv_has ls 2 [(0, .ref (adc 0)), (1, .int p1)] := hl
  have hx := hC.1
  have hb := hC.2.1
  unfold fX3_addHost at h
  refine lv_aload_n hx hb dX3_addHost_0 rfl (lv_at hl 0 rfl) ?_
  refine gt_X3_hosts hC hN 0 rfl rfl dX3_addHost_1 ?_
  refine lv_bipush (v := 8) hx hb dX3_addHost_4 (by decide) ?_
  refine lv_icmp_lt (tgt := 10) hx hb dX3_addHost_6 (by decide) (fun c1 => ?_) (fun c1 => ?_)
  · have h := if_t h c1
    refine lv_aload_n hx hb dX3_addHost_10 rfl (lv_at hl 0 rfl) ?_
    refine gt_X3_places hC hN 0 rfl rfl dX3_addHost_11 ?_
    refine lv_aload_n hx hb dX3_addHost_14 rfl (lv_at hl 0 rfl) ?_
    refine gt_X3_hosts hC hN 0 rfl rfl dX3_addHost_15 ?_
    refine lv_iload_n hx hb dX3_addHost_18 rfl (lv_at hl 1 rfl) ?_
    have g := inB_vp (gd_c h)
    have h := gd_e h
    obtain ⟨c_places_2, ec_places_2⟩ : ∃ y : Nat → Int32, y = upd c_places c_hosts.toNatClampNeg p1 := ⟨_, rfl⟩
    have h := bd_e h c_places_2 ec_places_2
    refine n_iast hC hN 8 rfl g ec_places_2 (ws' := wX3 E adc c_switches c_hosts c_renewing c_priorities c_names c_wants c_blocks c_upTo c_clashedTo c_zoneSets c_places_2 c_notices c_news) rfl dX3_addHost_19 (fun H locs hN => ?_)
    refine lv_aload_n hx hb dX3_addHost_20 rfl (lv_at hl 0 rfl) ?_
    refine gt_X3_notices hC hN 0 rfl rfl dX3_addHost_21 ?_
    refine lv_aload_n hx hb dX3_addHost_24 rfl (lv_at hl 0 rfl) ?_
    refine gt_X3_hosts hC hN 0 rfl rfl dX3_addHost_25 ?_
    refine lv_iconst (v := 0) hx hb dX3_addHost_28 rfl ?_
    have g := inB_vp (gd_c h)
    have h := gd_e h
    obtain ⟨c_notices_3, ec_notices_3⟩ : ∃ y : Nat → Int32, y = upd c_notices c_hosts.toNatClampNeg 0 := ⟨_, rfl⟩
    have h := bd_e h c_notices_3 ec_notices_3
    refine n_iast hC hN 9 rfl g ec_notices_3 (ws' := wX3 E adc c_switches c_hosts c_renewing c_priorities c_names c_wants c_blocks c_upTo c_clashedTo c_zoneSets c_places_2 c_notices_3 c_news) rfl dX3_addHost_29 (fun H locs hN => ?_)
    refine lv_aload_n hx hb dX3_addHost_30 rfl (lv_at hl 0 rfl) ?_
    refine gt_X3_news hC hN 0 rfl rfl dX3_addHost_31 ?_
    refine lv_aload_n hx hb dX3_addHost_34 rfl (lv_at hl 0 rfl) ?_
    refine gt_X3_hosts hC hN 0 rfl rfl dX3_addHost_35 ?_
    refine lv_iconst (v := 0) hx hb dX3_addHost_38 rfl ?_
    have g := inB_vp (gd_c h)
    have h := gd_e h
    obtain ⟨c_news_4, ec_news_4⟩ : ∃ y : Nat → Int32, y = upd c_news c_hosts.toNatClampNeg 0 := ⟨_, rfl⟩
    have h := bd_e h c_news_4 ec_news_4
    refine n_iast hC hN 10 rfl g ec_news_4 (ws' := wX3 E adc c_switches c_hosts c_renewing c_priorities c_names c_wants c_blocks c_upTo c_clashedTo c_zoneSets c_places_2 c_notices_3 c_news_4) rfl dX3_addHost_39 (fun H locs hN => ?_)
    refine lv_aload_n hx hb dX3_addHost_40 rfl (lv_at hl 0 rfl) ?_
    refine lv_dup hx hb dX3_addHost_41 rfl ?_
    refine gt_X3_hosts hC hN 0 rfl rfl dX3_addHost_42 ?_
    refine lv_iconst (v := 1) hx hb dX3_addHost_45 rfl ?_
    refine lv_iadd hx hb dX3_addHost_46 ?_
    refine lv_topi (fun c_hosts_5 ec_hosts_5 => ?_)
    have h := bd_e h c_hosts_5 ec_hosts_5
    refine pt_X3_hosts hC hN 0 rfl (Nat.le_of_ble_eq_true rfl) (ws' := wX3 E adc c_switches c_hosts_5 c_renewing c_priorities c_names c_wants c_blocks c_upTo c_clashedTo c_zoneSets c_places_2 c_notices_3 c_news_4) rfl dX3_addHost_47 (fun H locs hN => ?_)
    obtain rfl := Option.some.inj h
    exact n_vret hC hN dX3_addHost_50
  · have h := if_f h c1
    obtain rfl := Option.some.inj h
    exact n_vret hC hN dX3_addHost_9
set_option maxHeartbeats 4000000 in
set_option maxRecDepth 100000 in
theorem tX3_switchTotal (l : Launch) (E : EV) (adc : Nat → Nat) (c_switches : Int32) (c_hosts : Int32) (c_renewing : Int32) (c_priorities : Nat → Int32) (c_names : Nat → Int32) (c_wants : Nat → Int32) (c_blocks : Nat → Int32) (c_upTo : Nat → Int32) (c_clashedTo : Nat → Int32) (c_zoneSets : Nat → Int32) (c_places : Nat → Int32) (c_notices : Nat → Int32) (c_news : Nat → Int32) (z : Int32) (h : fX3_switchTotal c_switches = some z) : Cn l E yX3_switchTotal cX3_switchTotal 1 (some .int) 0 0 [.ref (adc 0)] (wX3 E adc c_switches c_hosts c_renewing c_priorities c_names c_wants c_blocks c_upTo c_clashedTo c_zoneSets c_places c_notices c_news) (wX3 E adc c_switches c_hosts c_renewing c_priorities c_names c_wants c_blocks c_upTo c_clashedTo c_zoneSets c_places c_notices c_news) (some (.int z)) := by
  refine Cn.ofW (by decide +kernel) (Nat.le_of_ble_eq_true rfl) ?_
  intro p e s m args below meth c ls hC hN hl
  have hl : lv_has ls 1 [(0, .ref (adc 0))] := hl
  have hx := hC.1
  have hb := hC.2.1
  unfold fX3_switchTotal at h
  refine lv_aload_n hx hb dX3_switchTotal_0 rfl (lv_at hl 0 rfl) ?_
  refine gt_X3_switches hC hN 0 rfl rfl dX3_switchTotal_1 ?_
  obtain rfl := Option.some.inj h
  exact n_iret hC hN dX3_switchTotal_4
set_option maxHeartbeats 4000000 in
set_option maxRecDepth 100000 in
theorem tX3_hostTotal (l : Launch) (E : EV) (adc : Nat → Nat) (c_switches : Int32) (c_hosts : Int32) (c_renewing : Int32) (c_priorities : Nat → Int32) (c_names : Nat → Int32) (c_wants : Nat → Int32) (c_blocks : Nat → Int32) (c_upTo : Nat → Int32) (c_clashedTo : Nat → Int32) (c_zoneSets : Nat → Int32) (c_places : Nat → Int32) (c_notices : Nat → Int32) (c_news : Nat → Int32) (z : Int32) (h : fX3_hostTotal c_hosts = some z) : Cn l E yX3_hostTotal cX3_hostTotal 1 (some .int) 0 0 [.ref (adc 0)] (wX3 E adc c_switches c_hosts c_renewing c_priorities c_names c_wants c_blocks c_upTo c_clashedTo c_zoneSets c_places c_notices c_news) (wX3 E adc c_switches c_hosts c_renewing c_priorities c_names c_wants c_blocks c_upTo c_clashedTo c_zoneSets c_places c_notices c_news) (some (.int z)) := by
  refine Cn.ofW (by decide +kernel) (Nat.le_of_ble_eq_true rfl) ?_
  intro p e s m args below meth c ls hC hN hl
  have hl : lv_has ls 1 [(0, .ref (adc 0))] := hl
  have hx := hC.1
  have hb := hC.2.1
  unfold fX3_hostTotal at h
  refine lv_aload_n hx hb dX3_hostTotal_0 rfl (lv_at hl 0 rfl) ?_
  refine gt_X3_hosts hC hN 0 rfl rfl dX3_hostTotal_1 ?_
  obtain rfl := Option.some.inj h
  exact n_iret hC hN dX3_hostTotal_4
set_option maxHeartbeats 4000000 in
set_option maxRecDepth 100000 in
theorem tX3_everyHost (l : Launch) (E : EV) (adc : Nat → Nat) (c_switches : Int32) (c_hosts : Int32) (c_renewing : Int32) (c_priorities : Nat → Int32) (c_names : Nat → Int32) (c_wants : Nat → Int32) (c_blocks : Nat → Int32) (c_upTo : Nat → Int32) (c_clashedTo : Nat → Int32) (c_zoneSets : Nat → Int32) (c_places : Nat → Int32) (c_notices : Nat → Int32) (c_news : Nat → Int32) (z : Int32) (h : fX3_everyHost c_hosts = some z) : Cn l E yX3_everyHost cX3_everyHost 1 (some .int) 0 0 [.ref (adc 0)] (wX3 E adc c_switches c_hosts c_renewing c_priorities c_names c_wants c_blocks c_upTo c_clashedTo c_zoneSets c_places c_notices c_news) (wX3 E adc c_switches c_hosts c_renewing c_priorities c_names c_wants c_blocks c_upTo c_clashedTo c_zoneSets c_places c_notices c_news) (some (.int z)) := by
  refine Cn.ofW (by decide +kernel) (Nat.le_of_ble_eq_true rfl) ?_
  intro p e s m args below meth c ls hC hN hl
  have hl : lv_has ls 1 [(0, .ref (adc 0))] := hl
  have hx := hC.1
  have hb := hC.2.1
  unfold fX3_everyHost at h
  refine lv_iconst (v := 1) hx hb dX3_everyHost_0 rfl ?_
  refine lv_aload_n hx hb dX3_everyHost_1 rfl (lv_at hl 0 rfl) ?_
  refine gt_X3_hosts hC hN 0 rfl rfl dX3_everyHost_2 ?_
  refine lv_ishl hx hb dX3_everyHost_5 ?_
  refine lv_iconst (v := 1) hx hb dX3_everyHost_6 rfl ?_
  refine lv_isub hx hb dX3_everyHost_7 ?_
  obtain rfl := Option.some.inj h
  exact n_iret hC hN dX3_everyHost_8
set_option maxHeartbeats 4000000 in
set_option maxRecDepth 100000 in
theorem tX3_hasSwitch (l : Launch) (E : EV) (adc : Nat → Nat) (c_switches : Int32) (c_hosts : Int32) (c_renewing : Int32) (c_priorities : Nat → Int32) (c_names : Nat → Int32) (c_wants : Nat → Int32) (c_blocks : Nat → Int32) (c_upTo : Nat → Int32) (c_clashedTo : Nat → Int32) (c_zoneSets : Nat → Int32) (c_places : Nat → Int32) (c_notices : Nat → Int32) (c_news : Nat → Int32) (p1 : Int32) (z : Int32) (h : fX3_hasSwitch c_switches p1 = some z) : Cn l E yX3_hasSwitch cX3_hasSwitch 2 (some .boolean) 0 0 [.ref (adc 0), .int p1] (wX3 E adc c_switches c_hosts c_renewing c_priorities c_names c_wants c_blocks c_upTo c_clashedTo c_zoneSets c_places c_notices c_news) (wX3 E adc c_switches c_hosts c_renewing c_priorities c_names c_wants c_blocks c_upTo c_clashedTo c_zoneSets c_places c_notices c_news) (some (.int z)) := by
  refine Cn.ofW (by decide +kernel) (Nat.le_of_ble_eq_true rfl) ?_
  intro p e s m args below meth c ls hC hN hl
  have hl : lv_has ls 2 [(0, .ref (adc 0)), (1, .int p1)] := hl
  have hx := hC.1
  have hb := hC.2.1
  unfold fX3_hasSwitch at h
  refine lv_iload_n hx hb dX3_hasSwitch_0 rfl (lv_at hl 1 rfl) ?_
  refine lv_if_lt (tgt := 16) hx hb dX3_hasSwitch_1 (by decide) (fun c1 => ?_) (fun c1 => ?_)
  · have h := if_t h c1
    refine lv_iconst (v := 0) hx hb dX3_hasSwitch_16 rfl ?_
    obtain rfl := Option.some.inj h
    exact n_zret hC hN (Or.inl rfl) dX3_hasSwitch_17
  · have h := if_f h c1
    refine lv_iload_n hx hb dX3_hasSwitch_4 rfl (lv_at hl 1 rfl) ?_
    refine lv_aload_n hx hb dX3_hasSwitch_5 rfl (lv_at hl 0 rfl) ?_
    refine gt_X3_switches hC hN 0 rfl rfl dX3_hasSwitch_6 ?_
    refine lv_icmp_ge (tgt := 16) hx hb dX3_hasSwitch_9 (by decide) (fun c2 => ?_) (fun c2 => ?_)
    · have h := if_t h c2
      refine lv_iconst (v := 0) hx hb dX3_hasSwitch_16 rfl ?_
      obtain rfl := Option.some.inj h
      exact n_zret hC hN (Or.inl rfl) dX3_hasSwitch_17
    · have h := if_f h c2
      refine lv_iconst (v := 1) hx hb dX3_hasSwitch_12 rfl ?_
      refine lv_goto (tgt := 17) hx hb dX3_hasSwitch_13 (by decide) ?_
      obtain rfl := Option.some.inj h
      exact n_zret hC hN (Or.inr rfl) dX3_hasSwitch_17
set_option maxHeartbeats 4000000 in
set_option maxRecDepth 100000 in
theorem tX3_hasTwo (l : Launch) (E : EV) (adc : Nat → Nat) (c_switches : Int32) (c_hosts : Int32) (c_renewing : Int32) (c_priorities : Nat → Int32) (c_names : Nat → Int32) (c_wants : Nat → Int32) (c_blocks : Nat → Int32) (c_upTo : Nat → Int32) (c_clashedTo : Nat → Int32) (c_zoneSets : Nat → Int32) (c_places : Nat → Int32) (c_notices : Nat → Int32) (c_news : Nat → Int32) (p1 : Int32) (p2 : Int32) (z : Int32) (h : fX3_hasTwo c_switches p1 p2 = some z) : Cn l E yX3_hasTwo cX3_hasTwo 3 (some .boolean) 1 21 [.ref (adc 0), .int p1, .int p2] (wX3 E adc c_switches c_hosts c_renewing c_priorities c_names c_wants c_blocks c_upTo c_clashedTo c_zoneSets c_places c_notices c_news) (wX3 E adc c_switches c_hosts c_renewing c_priorities c_names c_wants c_blocks c_upTo c_clashedTo c_zoneSets c_places c_notices c_news) (some (.int z)) := by
  refine Cn.ofW (by decide +kernel) (Nat.le_of_ble_eq_true rfl) ?_
  intro p e s m args below meth c ls hC hN hl
  have hl : lv_has ls 3 [(0, .ref (adc 0)), (1, .int p1), (2, .int p2)] := hl
  have hx := hC.1
  have hb := hC.2.1
  unfold fX3_hasTwo at h
  refine lv_iload_n hx hb dX3_hasTwo_0 rfl (lv_at hl 1 rfl) ?_
  refine lv_iload_n hx hb dX3_hasTwo_1 rfl (lv_at hl 2 rfl) ?_
  refine lv_icmp_eq (tgt := 25) hx hb dX3_hasTwo_2 (by decide) (fun c1 => ?_) (fun c1 => ?_)
  · have h := if_t h c1
    refine lv_iconst (v := 0) hx hb dX3_hasTwo_25 rfl ?_
    obtain rfl := Option.some.inj h
    exact n_zret hC hN (Or.inl rfl) dX3_hasTwo_26
  · have h := if_f h c1
    refine lv_aload_n hx hb dX3_hasTwo_5 rfl (lv_at hl 0 rfl) ?_
    refine lv_iload_n hx hb dX3_hasTwo_6 rfl (lv_at hl 1 rfl) ?_
    obtain ⟨r_2, hr_2, h⟩ := bi_e h
    refine n_callVi (ws' := wX3 E adc c_switches c_hosts c_renewing c_priorities c_names c_wants c_blocks c_upTo c_clashedTo c_zoneSets c_places c_notices c_news) hC hN (tX3_hasSwitch l E adc c_switches c_hosts c_renewing c_priorities c_names c_wants c_blocks c_upTo c_clashedTo c_zoneSets c_places c_notices c_news p1 r_2 hr_2) cy_X3_hasSwitch mML_X3_57 mIM_X3_hasSwitch mSE_X3_hasSwitch rfl rfl (k := 0) rfl (perm_self _) (perm_self _) rfl rfl hl.1 rfl (Nat.le_of_ble_eq_true rfl) dX3_hasTwo_7 ⟨Nat.le_of_ble_eq_true rfl, Nat.le_of_ble_eq_true rfl⟩ ⟨Nat.le_refl _, Nat.le_refl _⟩ (fun H locs hN => ?_)
    refine lv_if_eq (tgt := 25) hx hb dX3_hasTwo_10 (by decide) (fun c3 => ?_) (fun c3 => ?_)
    · have h := if_t h c3
      refine lv_iconst (v := 0) hx hb dX3_hasTwo_25 rfl ?_
      obtain rfl := Option.some.inj h
      exact n_zret hC hN (Or.inl rfl) dX3_hasTwo_26
    · have h := if_f h c3
      refine lv_aload_n hx hb dX3_hasTwo_13 rfl (lv_at hl 0 rfl) ?_
      refine lv_iload_n hx hb dX3_hasTwo_14 rfl (lv_at hl 2 rfl) ?_
      obtain ⟨r_4, hr_4, h⟩ := bi_e h
      refine n_callVi (ws' := wX3 E adc c_switches c_hosts c_renewing c_priorities c_names c_wants c_blocks c_upTo c_clashedTo c_zoneSets c_places c_notices c_news) hC hN (tX3_hasSwitch l E adc c_switches c_hosts c_renewing c_priorities c_names c_wants c_blocks c_upTo c_clashedTo c_zoneSets c_places c_notices c_news p2 r_4 hr_4) cy_X3_hasSwitch mML_X3_57 mIM_X3_hasSwitch mSE_X3_hasSwitch rfl rfl (k := 0) rfl (perm_self _) (perm_self _) rfl rfl hl.1 rfl (Nat.le_of_ble_eq_true rfl) dX3_hasTwo_15 ⟨Nat.le_of_ble_eq_true rfl, Nat.le_of_ble_eq_true rfl⟩ ⟨Nat.le_refl _, Nat.le_refl _⟩ (fun H locs hN => ?_)
      refine lv_if_eq (tgt := 25) hx hb dX3_hasTwo_18 (by decide) (fun c5 => ?_) (fun c5 => ?_)
      · have h := if_t h c5
        refine lv_iconst (v := 0) hx hb dX3_hasTwo_25 rfl ?_
        obtain rfl := Option.some.inj h
        exact n_zret hC hN (Or.inl rfl) dX3_hasTwo_26
      · have h := if_f h c5
        refine lv_iconst (v := 1) hx hb dX3_hasTwo_21 rfl ?_
        refine lv_goto (tgt := 26) hx hb dX3_hasTwo_22 (by decide) ?_
        obtain rfl := Option.some.inj h
        exact n_zret hC hN (Or.inr rfl) dX3_hasTwo_26
set_option maxHeartbeats 4000000 in
set_option maxRecDepth 100000 in
theorem tX3_hasHost (l : Launch) (E : EV) (adc : Nat → Nat) (c_switches : Int32) (c_hosts : Int32) (c_renewing : Int32) (c_priorities : Nat → Int32) (c_names : Nat → Int32) (c_wants : Nat → Int32) (c_blocks : Nat → Int32) (c_upTo : Nat → Int32) (c_clashedTo : Nat → Int32) (c_zoneSets : Nat → Int32) (c_places : Nat → Int32) (c_notices : Nat → Int32) (c_news : Nat → Int32) (p1 : Int32) (z : Int32) (h : fX3_hasHost c_hosts p1 = some z) : Cn l E yX3_hasHost cX3_hasHost 2 (some .boolean) 0 0 [.ref (adc 0), .int p1] (wX3 E adc c_switches c_hosts c_renewing c_priorities c_names c_wants c_blocks c_upTo c_clashedTo c_zoneSets c_places c_notices c_news) (wX3 E adc c_switches c_hosts c_renewing c_priorities c_names c_wants c_blocks c_upTo c_clashedTo c_zoneSets c_places c_notices c_news) (some (.int z)) := by
  refine Cn.ofW (by decide +kernel) (Nat.le_of_ble_eq_true rfl) ?_
  intro p e s m args below meth c ls hC hN hl
  have hl : lv_has ls 2 [(0, .ref (adc 0)), (1, .int p1)] := hl
  have hx := hC.1
  have hb := hC.2.1
  unfold fX3_hasHost at h
  refine lv_iload_n hx hb dX3_hasHost_0 rfl (lv_at hl 1 rfl) ?_
  refine lv_if_lt (tgt := 16) hx hb dX3_hasHost_1 (by decide) (fun c1 => ?_) (fun c1 => ?_)
  · have h := if_t h c1
    refine lv_iconst (v := 0) hx hb dX3_hasHost_16 rfl ?_
    obtain rfl := Option.some.inj h
    exact n_zret hC hN (Or.inl rfl) dX3_hasHost_17
  · have h := if_f h c1
    refine lv_iload_n hx hb dX3_hasHost_4 rfl (lv_at hl 1 rfl) ?_
    refine lv_aload_n hx hb dX3_hasHost_5 rfl (lv_at hl 0 rfl) ?_
    refine gt_X3_hosts hC hN 0 rfl rfl dX3_hasHost_6 ?_
    refine lv_icmp_ge (tgt := 16) hx hb dX3_hasHost_9 (by decide) (fun c2 => ?_) (fun c2 => ?_)
    · have h := if_t h c2
      refine lv_iconst (v := 0) hx hb dX3_hasHost_16 rfl ?_
      obtain rfl := Option.some.inj h
      exact n_zret hC hN (Or.inl rfl) dX3_hasHost_17
    · have h := if_f h c2
      refine lv_iconst (v := 1) hx hb dX3_hasHost_12 rfl ?_
      refine lv_goto (tgt := 17) hx hb dX3_hasHost_13 (by decide) ?_
      obtain rfl := Option.some.inj h
      exact n_zret hC hN (Or.inr rfl) dX3_hasHost_17
set_option maxHeartbeats 4000000 in
set_option maxRecDepth 100000 in
theorem tX3_hasName (l : Launch) (E : EV) (adc : Nat → Nat) (c_switches : Int32) (c_hosts : Int32) (c_renewing : Int32) (c_priorities : Nat → Int32) (c_names : Nat → Int32) (c_wants : Nat → Int32) (c_blocks : Nat → Int32) (c_upTo : Nat → Int32) (c_clashedTo : Nat → Int32) (c_zoneSets : Nat → Int32) (c_places : Nat → Int32) (c_notices : Nat → Int32) (c_news : Nat → Int32) (p1 : Int32) (z : Int32) (h : fX3_hasName c_switches c_names p1 = some z) : Cn l E yX3_hasName cX3_hasName 3 (some .boolean) 0 0 [.ref (adc 0), .int p1] (wX3 E adc c_switches c_hosts c_renewing c_priorities c_names c_wants c_blocks c_upTo c_clashedTo c_zoneSets c_places c_notices c_news) (wX3 E adc c_switches c_hosts c_renewing c_priorities c_names c_wants c_blocks c_upTo c_clashedTo c_zoneSets c_places c_notices c_news) (some (.int z)) := by
  refine Cn.ofW (by decide +kernel) (Nat.le_of_ble_eq_true rfl) ?_
  intro p e s m args below meth c ls hC hN hl
  obtain ⟨z0, hz0⟩ : ∃ y, y = z := ⟨_, rfl⟩
  rw [← hz0] at h ⊢
  clear hz0
  have hl : lv_has ls 3 [(0, .ref (adc 0)), (1, .int p1)] := hl
  have hx := hC.1
  have hb := hC.2.1
  unfold fX3_hasName at h
  refine lv_iconst (v := 0) hx hb dX3_hasName_0 rfl ?_
  refine lv_istore_n (lv' := [(2, .int 0), (0, .ref (adc 0)), (1, .int p1)]) hx hb dX3_hasName_1 rfl hl (by decide) rfl (fun ls hl => ?_)
  have L1 : ∀ (fu : Nat) (v2_1 : Int32) (z : (Int32) ⊕ (Int32)) (H : Heap) (locs : List Loc) (ls : Array Slot), Nw E s (AD (wX3 E adc c_switches c_hosts c_renewing c_priorities c_names c_wants c_blocks c_upTo c_clashedTo c_zoneSets c_places c_notices c_news)) (wX3 E adc c_switches c_hosts c_renewing c_priorities c_names c_wants c_blocks c_upTo c_clashedTo c_zoneSets c_places c_notices c_news) H locs → lv_has ls 3 [(0, .ref (adc 0)), (1, .int p1), (2, .int v2_1)] → fX3_hasName_L1 c_switches c_names p1 fu v2_1 = some z → (∀ y : Int32, z = Sum.inl y → some y = some z0) → (∀ y : Int32, z = Sum.inr y → ∀ (H : Heap) (locs : List Loc) (ls : Array Slot), Nw E s (AD (wX3 E adc c_switches c_hosts c_renewing c_priorities c_names c_wants c_blocks c_upTo c_clashedTo c_zoneSets c_places c_notices c_news)) (wX3 E adc c_switches c_hosts c_renewing c_priorities c_names c_wants c_blocks c_upTo c_clashedTo c_zoneSets c_places c_notices c_news) H locs → lv_has ls 3 [(0, .ref (adc 0)), (1, .int p1), (2, .int y)] → WN p l e 0 0 s m args below meth c E (wX3 E adc c_switches c_hosts c_renewing c_priorities c_names c_wants c_blocks c_upTo c_clashedTo c_zoneSets c_places c_notices c_news) (some (.int z0)) (wX3 E adc c_switches c_hosts c_renewing c_priorities c_names c_wants c_blocks c_upTo c_clashedTo c_zoneSets c_places c_notices c_news) H locs (F0 m 28 ls [])) → WN p l e 0 0 s m args below meth c E (wX3 E adc c_switches c_hosts c_renewing c_priorities c_names c_wants c_blocks c_upTo c_clashedTo c_zoneSets c_places c_notices c_news) (some (.int z0)) (wX3 E adc c_switches c_hosts c_renewing c_priorities c_names c_wants c_blocks c_upTo c_clashedTo c_zoneSets c_places c_notices c_news) H locs (F0 m 2 ls []) := by
    intro fu
    induction fu with
    | zero =>
      intro v2_1 z H locs ls hN hl h K1 K
      cases (show (none : Option ((Int32) ⊕ (Int32))) = some z from h)
    | succ fu ih =>
      intro v2_1 z H locs ls hN hl h K1 K
      rw [fX3_hasName_L1.eq_2] at h
      refine lv_iload_n hx hb dX3_hasName_2 rfl (lv_at hl 2 rfl) ?_
      refine lv_aload_n hx hb dX3_hasName_3 rfl (lv_at hl 0 rfl) ?_
      refine gt_X3_switches hC hN 0 rfl rfl dX3_hasName_4 ?_
      refine lv_icmp_ge (tgt := 28) hx hb dX3_hasName_7 (by decide) (fun c2 => ?_) (fun c2 => ?_)
      · have h := if_t h c2
        exact K _ (Option.some.inj h).symm _ _ _ hN (lv_sub hl [0, 1, 2] rfl)
      · have h := if_f h c2
        refine lv_aload_n hx hb dX3_hasName_10 rfl (lv_at hl 0 rfl) ?_
        refine gt_X3_names hC hN 0 rfl rfl dX3_hasName_11 ?_
        refine lv_iload_n hx hb dX3_hasName_14 rfl (lv_at hl 2 rfl) ?_
        have g := inB_vp (gd_c h)
        have h := gd_e h
        refine n_iald hC hN 2 rfl g dX3_hasName_15 ?_
        refine lv_iload_n hx hb dX3_hasName_16 rfl (lv_at hl 1 rfl) ?_
        refine lv_icmp_ne (tgt := 22) hx hb dX3_hasName_17 (by decide) (fun c3 => ?_) (fun c3 => ?_)
        · have h := if_f h c3
          obtain ⟨v2_4, ev2_4⟩ : ∃ y : Int32, y = v2_1 + 1 := ⟨_, rfl⟩
          have h := bd_e h v2_4 ev2_4
          refine lv_iinc (v := v2_4) (lv' := [(2, .int v2_4), (0, .ref (adc 0)), (1, .int p1)]) hx hb dX3_hasName_22 hl (k := 2) rfl (by rw [ev2_4]; rfl) (by decide) rfl (fun ls hl => ?_)
          refine lv_goto (tgt := 2) hx hb dX3_hasName_25 (by decide) ?_
          exact ih v2_4 z _ _ _ hN (lv_sub hl [1, 2, 0] rfl) h K1 K
        · have h := if_t h c3
          refine lv_iconst (v := 1) hx hb dX3_hasName_20 rfl ?_
          have h := K1 _ (Option.some.inj h).symm
          obtain rfl := Option.some.inj h
          exact n_zret hC hN (Or.inr rfl) dX3_hasName_21
  obtain ⟨v2_5, hv2_5, h⟩ := bi_e h
  refine L1 500 0 v2_5 _ _ _ hN (lv_sub hl [1, 2, 0] rfl) hv2_5 (fun y ey => by rw [ey] at h; exact h) (fun y_6 ey H locs ls hN hl => ?_)
  rw [ey] at h
  have h := sum_r h
  refine lv_iconst (v := 0) hx hb dX3_hasName_28 rfl ?_
  obtain rfl := Option.some.inj h
  exact n_zret hC hN (Or.inl rfl) dX3_hasName_29
set_option maxHeartbeats 4000000 in
set_option maxRecDepth 100000 in
theorem tX3_isRenewing (l : Launch) (E : EV) (adc : Nat → Nat) (c_switches : Int32) (c_hosts : Int32) (c_renewing : Int32) (c_priorities : Nat → Int32) (c_names : Nat → Int32) (c_wants : Nat → Int32) (c_blocks : Nat → Int32) (c_upTo : Nat → Int32) (c_clashedTo : Nat → Int32) (c_zoneSets : Nat → Int32) (c_places : Nat → Int32) (c_notices : Nat → Int32) (c_news : Nat → Int32) (z : Int32) (h : fX3_isRenewing c_renewing = some z) : Cn l E yX3_isRenewing cX3_isRenewing 1 (some .boolean) 0 0 [.ref (adc 0)] (wX3 E adc c_switches c_hosts c_renewing c_priorities c_names c_wants c_blocks c_upTo c_clashedTo c_zoneSets c_places c_notices c_news) (wX3 E adc c_switches c_hosts c_renewing c_priorities c_names c_wants c_blocks c_upTo c_clashedTo c_zoneSets c_places c_notices c_news) (some (.int z)) := by
  refine Cn.ofW (by decide +kernel) (Nat.le_of_ble_eq_true rfl) ?_
  intro p e s m args below meth c ls hC hN hl
  have hl : lv_has ls 1 [(0, .ref (adc 0))] := hl
  have hx := hC.1
  have hb := hC.2.1
  unfold fX3_isRenewing at h
  refine lv_aload_n hx hb dX3_isRenewing_0 rfl (lv_at hl 0 rfl) ?_
  refine gt_X3_renewing hC hN 0 rfl rfl dX3_isRenewing_1 ?_
  have gB := gd_c h
  have h := gd_e h
  obtain rfl := Option.some.inj h
  exact n_zret hC hN gB dX3_isRenewing_4
set_option maxHeartbeats 4000000 in
set_option maxRecDepth 100000 in
theorem tX3_setRenewing (l : Launch) (E : EV) (adc : Nat → Nat) (c_switches : Int32) (c_hosts : Int32) (c_renewing : Int32) (c_priorities : Nat → Int32) (c_names : Nat → Int32) (c_wants : Nat → Int32) (c_blocks : Nat → Int32) (c_upTo : Nat → Int32) (c_clashedTo : Nat → Int32) (c_zoneSets : Nat → Int32) (c_places : Nat → Int32) (c_notices : Nat → Int32) (c_news : Nat → Int32) (p1 : Int32) (z : Int32) (h : fX3_setRenewing p1 = some z) : Cn l E yX3_setRenewing cX3_setRenewing 2 none 0 0 [.ref (adc 0), .int p1] (wX3 E adc c_switches c_hosts c_renewing c_priorities c_names c_wants c_blocks c_upTo c_clashedTo c_zoneSets c_places c_notices c_news) (wX3 E adc c_switches c_hosts z c_priorities c_names c_wants c_blocks c_upTo c_clashedTo c_zoneSets c_places c_notices c_news) (none) := by
  refine Cn.ofW (by decide +kernel) (Nat.le_of_ble_eq_true rfl) ?_
  intro p e s m args below meth c ls hC hN hl
  have hl : lv_has ls 2 [(0, .ref (adc 0)), (1, .int p1)] := hl
  have hx := hC.1
  have hb := hC.2.1
  unfold fX3_setRenewing at h
  refine lv_aload_n hx hb dX3_setRenewing_0 rfl (lv_at hl 0 rfl) ?_
  refine lv_iload_n hx hb dX3_setRenewing_1 rfl (lv_at hl 1 rfl) ?_
  have gB := gd_c h
  have h := gd_e h
  refine pt_X3_renewing hC hN 0 rfl gB (Nat.le_of_ble_eq_true rfl) (ws' := wX3 E adc c_switches c_hosts p1 c_priorities c_names c_wants c_blocks c_upTo c_clashedTo c_zoneSets c_places c_notices c_news) rfl dX3_setRenewing_2 (fun H locs hN => ?_)
  obtain rfl := Option.some.inj h
  exact n_vret hC hN dX3_setRenewing_5
set_option maxHeartbeats 4000000 in
set_option maxRecDepth 100000 in
theorem tX3_priorityOf (l : Launch) (E : EV) (adc : Nat → Nat) (c_switches : Int32) (c_hosts : Int32) (c_renewing : Int32) (c_priorities : Nat → Int32) (c_names : Nat → Int32) (c_wants : Nat → Int32) (c_blocks : Nat → Int32) (c_upTo : Nat → Int32) (c_clashedTo : Nat → Int32) (c_zoneSets : Nat → Int32) (c_places : Nat → Int32) (c_notices : Nat → Int32) (c_news : Nat → Int32) (p1 : Int32) (z : Int32) (h : fX3_priorityOf c_switches c_priorities p1 = some z) : Cn l E yX3_priorityOf cX3_priorityOf 2 (some .int) 1 21 [.ref (adc 0), .int p1] (wX3 E adc c_switches c_hosts c_renewing c_priorities c_names c_wants c_blocks c_upTo c_clashedTo c_zoneSets c_places c_notices c_news) (wX3 E adc c_switches c_hosts c_renewing c_priorities c_names c_wants c_blocks c_upTo c_clashedTo c_zoneSets c_places c_notices c_news) (some (.int z)) := by
  refine Cn.ofW (by decide +kernel) (Nat.le_of_ble_eq_true rfl) ?_
  intro p e s m args below meth c ls hC hN hl
  have hl : lv_has ls 2 [(0, .ref (adc 0)), (1, .int p1)] := hl
  have hx := hC.1
  have hb := hC.2.1
  unfold fX3_priorityOf at h
  refine lv_aload_n hx hb dX3_priorityOf_0 rfl (lv_at hl 0 rfl) ?_
  refine lv_iload_n hx hb dX3_priorityOf_1 rfl (lv_at hl 1 rfl) ?_
  obtain ⟨r_1, hr_1, h⟩ := bi_e h
  refine n_callVi (ws' := wX3 E adc c_switches c_hosts c_renewing c_priorities c_names c_wants c_blocks c_upTo c_clashedTo c_zoneSets c_places c_notices c_news) hC hN (tX3_hasSwitch l E adc c_switches c_hosts c_renewing c_priorities c_names c_wants c_blocks c_upTo c_clashedTo c_zoneSets c_places c_notices c_news p1 r_1 hr_1) cy_X3_hasSwitch mML_X3_57 mIM_X3_hasSwitch mSE_X3_hasSwitch rfl rfl (k := 0) rfl (perm_self _) (perm_self _) rfl rfl hl.1 rfl (Nat.le_of_ble_eq_true rfl) dX3_priorityOf_2 ⟨Nat.le_of_ble_eq_true rfl, Nat.le_of_ble_eq_true rfl⟩ ⟨Nat.le_refl _, Nat.le_refl _⟩ (fun H locs hN => ?_)
  refine lv_if_eq (tgt := 17) hx hb dX3_priorityOf_5 (by decide) (fun c2 => ?_) (fun c2 => ?_)
  · have h := if_t h c2
    refine lv_iconst (v := -1) hx hb dX3_priorityOf_17 rfl ?_
    obtain rfl := Option.some.inj h
    exact n_iret hC hN dX3_priorityOf_18
  · have h := if_f h c2
    refine lv_aload_n hx hb dX3_priorityOf_8 rfl (lv_at hl 0 rfl) ?_
    refine gt_X3_priorities hC hN 0 rfl rfl dX3_priorityOf_9 ?_
    refine lv_iload_n hx hb dX3_priorityOf_12 rfl (lv_at hl 1 rfl) ?_
    have g := inB_vp (gd_c h)
    have h := gd_e h
    refine n_iald hC hN 1 rfl g dX3_priorityOf_13 ?_
    refine lv_goto (tgt := 18) hx hb dX3_priorityOf_14 (by decide) ?_
    obtain rfl := Option.some.inj h
    exact n_iret hC hN dX3_priorityOf_18
set_option maxHeartbeats 4000000 in
set_option maxRecDepth 100000 in
theorem tX3_setPriority (l : Launch) (E : EV) (adc : Nat → Nat) (c_switches : Int32) (c_hosts : Int32) (c_renewing : Int32) (c_priorities : Nat → Int32) (c_names : Nat → Int32) (c_wants : Nat → Int32) (c_blocks : Nat → Int32) (c_upTo : Nat → Int32) (c_clashedTo : Nat → Int32) (c_zoneSets : Nat → Int32) (c_places : Nat → Int32) (c_notices : Nat → Int32) (c_news : Nat → Int32) (p1 : Int32) (p2 : Int32) (z : Nat → Int32) (h : fX3_setPriority c_switches c_priorities p1 p2 = some z) : Cn l E yX3_setPriority cX3_setPriority 3 none 1 21 [.ref (adc 0), .int p1, .int p2] (wX3 E adc c_switches c_hosts c_renewing c_priorities c_names c_wants c_blocks c_upTo c_clashedTo c_zoneSets c_places c_notices c_news) (wX3 E adc c_switches c_hosts c_renewing z c_names c_wants c_blocks c_upTo c_clashedTo c_zoneSets c_places c_notices c_news) (none) := by
  refine Cn.ofW (by decide +kernel) (Nat.le_of_ble_eq_true rfl) ?_
  intro p e s m args below meth c ls hC hN hl
  have hl : lv_has ls 3 [(0, .ref (adc 0)), (1, .int p1), (2, .int p2)] := hl
  have hx := hC.1
  have hb := hC.2.1
  unfold fX3_setPriority at h
  refine lv_aload_n hx hb dX3_setPriority_0 rfl (lv_at hl 0 rfl) ?_
  refine lv_iload_n hx hb dX3_setPriority_1 rfl (lv_at hl 1 rfl) ?_
  obtain ⟨r_1, hr_1, h⟩ := bi_e h
  refine n_callVi (ws' := wX3 E adc c_switches c_hosts c_renewing c_priorities c_names c_wants c_blocks c_upTo c_clashedTo c_zoneSets c_places c_notices c_news) hC hN (tX3_hasSwitch l E adc c_switches c_hosts c_renewing c_priorities c_names c_wants c_blocks c_upTo c_clashedTo c_zoneSets c_places c_notices c_news p1 r_1 hr_1) cy_X3_hasSwitch mML_X3_57 mIM_X3_hasSwitch mSE_X3_hasSwitch rfl rfl (k := 0) rfl (perm_self _) (perm_self _) rfl rfl hl.1 rfl (Nat.le_of_ble_eq_true rfl) dX3_setPriority_2 ⟨Nat.le_of_ble_eq_true rfl, Nat.le_of_ble_eq_true rfl⟩ ⟨Nat.le_refl _, Nat.le_refl _⟩ (fun H locs hN => ?_)
  refine lv_if_eq (tgt := 15) hx hb dX3_setPriority_5 (by decide) (fun c2 => ?_) (fun c2 => ?_)
  · have h := if_t h c2
    obtain rfl := Option.some.inj h
    exact n_vret hC hN dX3_setPriority_15
  · have h := if_f h c2
    refine lv_aload_n hx hb dX3_setPriority_8 rfl (lv_at hl 0 rfl) ?_
    refine gt_X3_priorities hC hN 0 rfl rfl dX3_setPriority_9 ?_
    refine lv_iload_n hx hb dX3_setPriority_12 rfl (lv_at hl 1 rfl) ?_
    refine lv_iload_n hx hb dX3_setPriority_13 rfl (lv_at hl 2 rfl) ?_
    have g := inB_vp (gd_c h)
    have h := gd_e h
    obtain ⟨c_priorities_3, ec_priorities_3⟩ : ∃ y : Nat → Int32, y = upd c_priorities p1.toNatClampNeg p2 := ⟨_, rfl⟩
    have h := bd_e h c_priorities_3 ec_priorities_3
    refine n_iast hC hN 1 rfl g ec_priorities_3 (ws' := wX3 E adc c_switches c_hosts c_renewing c_priorities_3 c_names c_wants c_blocks c_upTo c_clashedTo c_zoneSets c_places c_notices c_news) rfl dX3_setPriority_14 (fun H locs hN => ?_)
    obtain rfl := Option.some.inj h
    exact n_vret hC hN dX3_setPriority_15
set_option maxHeartbeats 4000000 in
set_option maxRecDepth 100000 in
theorem tX3_nameOf (l : Launch) (E : EV) (adc : Nat → Nat) (c_switches : Int32) (c_hosts : Int32) (c_renewing : Int32) (c_priorities : Nat → Int32) (c_names : Nat → Int32) (c_wants : Nat → Int32) (c_blocks : Nat → Int32) (c_upTo : Nat → Int32) (c_clashedTo : Nat → Int32) (c_zoneSets : Nat → Int32) (c_places : Nat → Int32) (c_notices : Nat → Int32) (c_news : Nat → Int32) (p1 : Int32) (z : Int32) (h : fX3_nameOf c_switches c_names p1 = some z) : Cn l E yX3_nameOf cX3_nameOf 2 (some .int) 1 21 [.ref (adc 0), .int p1] (wX3 E adc c_switches c_hosts c_renewing c_priorities c_names c_wants c_blocks c_upTo c_clashedTo c_zoneSets c_places c_notices c_news) (wX3 E adc c_switches c_hosts c_renewing c_priorities c_names c_wants c_blocks c_upTo c_clashedTo c_zoneSets c_places c_notices c_news) (some (.int z)) := by
  refine Cn.ofW (by decide +kernel) (Nat.le_of_ble_eq_true rfl) ?_
  intro p e s m args below meth c ls hC hN hl
  have hl : lv_has ls 2 [(0, .ref (adc 0)), (1, .int p1)] := hl
  have hx := hC.1
  have hb := hC.2.1
  unfold fX3_nameOf at h
  refine lv_aload_n hx hb dX3_nameOf_0 rfl (lv_at hl 0 rfl) ?_
  refine lv_iload_n hx hb dX3_nameOf_1 rfl (lv_at hl 1 rfl) ?_
  obtain ⟨r_1, hr_1, h⟩ := bi_e h
  refine n_callVi (ws' := wX3 E adc c_switches c_hosts c_renewing c_priorities c_names c_wants c_blocks c_upTo c_clashedTo c_zoneSets c_places c_notices c_news) hC hN (tX3_hasSwitch l E adc c_switches c_hosts c_renewing c_priorities c_names c_wants c_blocks c_upTo c_clashedTo c_zoneSets c_places c_notices c_news p1 r_1 hr_1) cy_X3_hasSwitch mML_X3_57 mIM_X3_hasSwitch mSE_X3_hasSwitch rfl rfl (k := 0) rfl (perm_self _) (perm_self _) rfl rfl hl.1 rfl (Nat.le_of_ble_eq_true rfl) dX3_nameOf_2 ⟨Nat.le_of_ble_eq_true rfl, Nat.le_of_ble_eq_true rfl⟩ ⟨Nat.le_refl _, Nat.le_refl _⟩ (fun H locs hN => ?_)
  refine lv_if_eq (tgt := 17) hx hb dX3_nameOf_5 (by decide) (fun c2 => ?_) (fun c2 => ?_)
  · have h := if_t h c2
    refine lv_iconst (v := -1) hx hb dX3_nameOf_17 rfl ?_
    obtain rfl := Option.some.inj h
    exact n_iret hC hN dX3_nameOf_18
  · have h := if_f h c2
    refine lv_aload_n hx hb dX3_nameOf_8 rfl (lv_at hl 0 rfl) ?_
    refine gt_X3_names hC hN 0 rfl rfl dX3_nameOf_9 ?_
    refine lv_iload_n hx hb dX3_nameOf_12 rfl (lv_at hl 1 rfl) ?_
    have g := inB_vp (gd_c h)
    have h := gd_e h
    refine n_iald hC hN 2 rfl g dX3_nameOf_13 ?_
    refine lv_goto (tgt := 18) hx hb dX3_nameOf_14 (by decide) ?_
    obtain rfl := Option.some.inj h
    exact n_iret hC hN dX3_nameOf_18
set_option maxHeartbeats 4000000 in
set_option maxRecDepth 100000 in
theorem tX3_wantOf (l : Launch) (E : EV) (adc : Nat → Nat) (c_switches : Int32) (c_hosts : Int32) (c_renewing : Int32) (c_priorities : Nat → Int32) (c_names : Nat → Int32) (c_wants : Nat → Int32) (c_blocks : Nat → Int32) (c_upTo : Nat → Int32) (c_clashedTo : Nat → Int32) (c_zoneSets : Nat → Int32) (c_places : Nat → Int32) (c_notices : Nat → Int32) (c_news : Nat → Int32) (p1 : Int32) (z : Int32) (h : fX3_wantOf c_switches c_wants p1 = some z) : Cn l E yX3_wantOf cX3_wantOf 2 (some .int) 1 21 [.ref (adc 0), .int p1] (wX3 E adc c_switches c_hosts c_renewing c_priorities c_names c_wants c_blocks c_upTo c_clashedTo c_zoneSets c_places c_notices c_news) (wX3 E adc c_switches c_hosts c_renewing c_priorities c_names c_wants c_blocks c_upTo c_clashedTo c_zoneSets c_places c_notices c_news) (some (.int z)) := by
  refine Cn.ofW (by decide +kernel) (Nat.le_of_ble_eq_true rfl) ?_
  intro p e s m args below meth c ls hC hN hl
  have hl : lv_has ls 2 [(0, .ref (adc 0)), (1, .int p1)] := hl
  have hx := hC.1
  have hb := hC.2.1
  unfold fX3_wantOf at h
  refine lv_aload_n hx hb dX3_wantOf_0 rfl (lv_at hl 0 rfl) ?_
  refine lv_iload_n hx hb dX3_wantOf_1 rfl (lv_at hl 1 rfl) ?_
  obtain ⟨r_1, hr_1, h⟩ := bi_e h
  refine n_callVi (ws' := wX3 E adc c_switches c_hosts c_renewing c_priorities c_names c_wants c_blocks c_upTo c_clashedTo c_zoneSets c_places c_notices c_news) hC hN (tX3_hasSwitch l E adc c_switches c_hosts c_renewing c_priorities c_names c_wants c_blocks c_upTo c_clashedTo c_zoneSets c_places c_notices c_news p1 r_1 hr_1) cy_X3_hasSwitch mML_X3_57 mIM_X3_hasSwitch mSE_X3_hasSwitch rfl rfl (k := 0) rfl (perm_self _) (perm_self _) rfl rfl hl.1 rfl (Nat.le_of_ble_eq_true rfl) dX3_wantOf_2 ⟨Nat.le_of_ble_eq_true rfl, Nat.le_of_ble_eq_true rfl⟩ ⟨Nat.le_refl _, Nat.le_refl _⟩ (fun H locs hN => ?_)
  refine lv_if_eq (tgt := 17) hx hb dX3_wantOf_5 (by decide) (fun c2 => ?_) (fun c2 => ?_)
  · have h := if_t h c2
    refine lv_iconst (v := -1) hx hb dX3_wantOf_17 rfl ?_
    obtain rfl := Option.some.inj h
    exact n_iret hC hN dX3_wantOf_18
  · have h := if_f h c2
    refine lv_aload_n hx hb dX3_wantOf_8 rfl (lv_at hl 0 rfl) ?_
    refine gt_X3_wants hC hN 0 rfl rfl dX3_wantOf_9 ?_
    refine lv_iload_n hx hb dX3_wantOf_12 rfl (lv_at hl 1 rfl) ?_
    have g := inB_vp (gd_c h)
    have h := gd_e h
    refine n_iald hC hN 3 rfl g dX3_wantOf_13 ?_
    refine lv_goto (tgt := 18) hx hb dX3_wantOf_14 (by decide) ?_
    obtain rfl := Option.some.inj h
    exact n_iret hC hN dX3_wantOf_18
set_option maxHeartbeats 4000000 in
set_option maxRecDepth 100000 in
theorem tX3_blockOf (l : Launch) (E : EV) (adc : Nat → Nat) (c_switches : Int32) (c_hosts : Int32) (c_renewing : Int32) (c_priorities : Nat → Int32) (c_names : Nat → Int32) (c_wants : Nat → Int32) (c_blocks : Nat → Int32) (c_upTo : Nat → Int32) (c_clashedTo : Nat → Int32) (c_zoneSets : Nat → Int32) (c_places : Nat → Int32) (c_notices : Nat → Int32) (c_news : Nat → Int32) (p1 : Int32) (z : Int32) (h : fX3_blockOf c_switches c_blocks p1 = some z) : Cn l E yX3_blockOf cX3_blockOf 2 (some .int) 1 21 [.ref (adc 0), .int p1] (wX3 E adc c_switches c_hosts c_renewing c_priorities c_names c_wants c_blocks c_upTo c_clashedTo c_zoneSets c_places c_notices c_news) (wX3 E adc c_switches c_hosts c_renewing c_priorities c_names c_wants c_blocks c_upTo c_clashedTo c_zoneSets c_places c_notices c_news) (some (.int z)) := by
  refine Cn.ofW (by decide +kernel) (Nat.le_of_ble_eq_true rfl) ?_
  intro p e s m args below meth c ls hC hN hl
  have hl : lv_has ls 2 [(0, .ref (adc 0)), (1, .int p1)] := hl
  have hx := hC.1
  have hb := hC.2.1
  unfold fX3_blockOf at h
  refine lv_aload_n hx hb dX3_blockOf_0 rfl (lv_at hl 0 rfl) ?_
  refine lv_iload_n hx hb dX3_blockOf_1 rfl (lv_at hl 1 rfl) ?_
  obtain ⟨r_1, hr_1, h⟩ := bi_e h
  refine n_callVi (ws' := wX3 E adc c_switches c_hosts c_renewing c_priorities c_names c_wants c_blocks c_upTo c_clashedTo c_zoneSets c_places c_notices c_news) hC hN (tX3_hasSwitch l E adc c_switches c_hosts c_renewing c_priorities c_names c_wants c_blocks c_upTo c_clashedTo c_zoneSets c_places c_notices c_news p1 r_1 hr_1) cy_X3_hasSwitch mML_X3_57 mIM_X3_hasSwitch mSE_X3_hasSwitch rfl rfl (k := 0) rfl (perm_self _) (perm_self _) rfl rfl hl.1 rfl (Nat.le_of_ble_eq_true rfl) dX3_blockOf_2 ⟨Nat.le_of_ble_eq_true rfl, Nat.le_of_ble_eq_true rfl⟩ ⟨Nat.le_refl _, Nat.le_refl _⟩ (fun H locs hN => ?_)
  refine lv_if_eq (tgt := 17) hx hb dX3_blockOf_5 (by decide) (fun c2 => ?_) (fun c2 => ?_)
  · have h := if_t h c2
    refine lv_iconst (v := -1) hx hb dX3_blockOf_17 rfl ?_
    obtain rfl := Option.some.inj h
    exact n_iret hC hN dX3_blockOf_18
  · have h := if_f h c2
    refine lv_aload_n hx hb dX3_blockOf_8 rfl (lv_at hl 0 rfl) ?_
    refine gt_X3_blocks hC hN 0 rfl rfl dX3_blockOf_9 ?_
    refine lv_iload_n hx hb dX3_blockOf_12 rfl (lv_at hl 1 rfl) ?_
    have g := inB_vp (gd_c h)
    have h := gd_e h
    refine n_iald hC hN 4 rfl g dX3_blockOf_13 ?_
    refine lv_goto (tgt := 18) hx hb dX3_blockOf_14 (by decide) ?_
    obtain rfl := Option.some.inj h
    exact n_iret hC hN dX3_blockOf_18
set_option maxHeartbeats 4000000 in
set_option maxRecDepth 100000 in
theorem tX3_placeOf (l : Launch) (E : EV) (adc : Nat → Nat) (c_switches : Int32) (c_hosts : Int32) (c_renewing : Int32) (c_priorities : Nat → Int32) (c_names : Nat → Int32) (c_wants : Nat → Int32) (c_blocks : Nat → Int32) (c_upTo : Nat → Int32) (c_clashedTo : Nat → Int32) (c_zoneSets : Nat → Int32) (c_places : Nat → Int32) (c_notices : Nat → Int32) (c_news : Nat → Int32) (p1 : Int32) (z : Int32) (h : fX3_placeOf c_hosts c_places p1 = some z) : Cn l E yX3_placeOf cX3_placeOf 2 (some .int) 1 21 [.ref (adc 0), .int p1] (wX3 E adc c_switches c_hosts c_renewing c_priorities c_names c_wants c_blocks c_upTo c_clashedTo c_zoneSets c_places c_notices c_news) (wX3 E adc c_switches c_hosts c_renewing c_priorities c_names c_wants c_blocks c_upTo c_clashedTo c_zoneSets c_places c_notices c_news) (some (.int z)) := by
  refine Cn.ofW (by decide +kernel) (Nat.le_of_ble_eq_true rfl) ?_
  intro p e s m args below meth c ls hC hN hl
  have hl : lv_has ls 2 [(0, .ref (adc 0)), (1, .int p1)] := hl
  have hx := hC.1
  have hb := hC.2.1
  unfold fX3_placeOf at h
  refine lv_aload_n hx hb dX3_placeOf_0 rfl (lv_at hl 0 rfl) ?_
  refine lv_iload_n hx hb dX3_placeOf_1 rfl (lv_at hl 1 rfl) ?_
  obtain ⟨r_1, hr_1, h⟩ := bi_e h
  refine n_callVi (ws' := wX3 E adc c_switches c_hosts c_renewing c_priorities c_names c_wants c_blocks c_upTo c_clashedTo c_zoneSets c_places c_notices c_news) hC hN (tX3_hasHost l E adc c_switches c_hosts c_renewing c_priorities c_names c_wants c_blocks c_upTo c_clashedTo c_zoneSets c_places c_notices c_news p1 r_1 hr_1) cy_X3_hasHost mML_X3_61 mIM_X3_hasHost mSE_X3_hasHost rfl rfl (k := 0) rfl (perm_self _) (perm_self _) rfl rfl hl.1 rfl (Nat.le_of_ble_eq_true rfl) dX3_placeOf_2 ⟨Nat.le_of_ble_eq_true rfl, Nat.le_of_ble_eq_true rfl⟩ ⟨Nat.le_refl _, Nat.le_refl _⟩ (fun H locs hN => ?_)
  refine lv_if_eq (tgt := 17) hx hb dX3_placeOf_5 (by decide) (fun c2 => ?_) (fun c2 => ?_)
  · have h := if_t h c2
    refine lv_bipush (v := -9) hx hb dX3_placeOf_17 (by decide) ?_
    obtain rfl := Option.some.inj h
    exact n_iret hC hN dX3_placeOf_19
  · have h := if_f h c2
    refine lv_aload_n hx hb dX3_placeOf_8 rfl (lv_at hl 0 rfl) ?_
    refine gt_X3_places hC hN 0 rfl rfl dX3_placeOf_9 ?_
    refine lv_iload_n hx hb dX3_placeOf_12 rfl (lv_at hl 1 rfl) ?_
    have g := inB_vp (gd_c h)
    have h := gd_e h
    refine n_iald hC hN 8 rfl g dX3_placeOf_13 ?_
    refine lv_goto (tgt := 19) hx hb dX3_placeOf_14 (by decide) ?_
    obtain rfl := Option.some.inj h
    exact n_iret hC hN dX3_placeOf_19
set_option maxHeartbeats 4000000 in
set_option maxRecDepth 100000 in
theorem tX3_setPlace (l : Launch) (E : EV) (adc : Nat → Nat) (c_switches : Int32) (c_hosts : Int32) (c_renewing : Int32) (c_priorities : Nat → Int32) (c_names : Nat → Int32) (c_wants : Nat → Int32) (c_blocks : Nat → Int32) (c_upTo : Nat → Int32) (c_clashedTo : Nat → Int32) (c_zoneSets : Nat → Int32) (c_places : Nat → Int32) (c_notices : Nat → Int32) (c_news : Nat → Int32) (p1 : Int32) (p2 : Int32) (z : Nat → Int32) (h : fX3_setPlace c_hosts c_places p1 p2 = some z) : Cn l E yX3_setPlace cX3_setPlace 3 none 1 21 [.ref (adc 0), .int p1, .int p2] (wX3 E adc c_switches c_hosts c_renewing c_priorities c_names c_wants c_blocks c_upTo c_clashedTo c_zoneSets c_places c_notices c_news) (wX3 E adc c_switches c_hosts c_renewing c_priorities c_names c_wants c_blocks c_upTo c_clashedTo c_zoneSets z c_notices c_news) (none) := by
  refine Cn.ofW (by decide +kernel) (Nat.le_of_ble_eq_true rfl) ?_
  intro p e s m args below meth c ls hC hN hl
  have hl : lv_has ls 3 [(0, .ref (adc 0)), (1, .int p1), (2, .int p2)] := hl
  have hx := hC.1
  have hb := hC.2.1
  unfold fX3_setPlace at h
  refine lv_aload_n hx hb dX3_setPlace_0 rfl (lv_at hl 0 rfl) ?_
  refine lv_iload_n hx hb dX3_setPlace_1 rfl (lv_at hl 1 rfl) ?_
  obtain ⟨r_1, hr_1, h⟩ := bi_e h
  refine n_callVi (ws' := wX3 E adc c_switches c_hosts c_renewing c_priorities c_names c_wants c_blocks c_upTo c_clashedTo c_zoneSets c_places c_notices c_news) hC hN (tX3_hasHost l E adc c_switches c_hosts c_renewing c_priorities c_names c_wants c_blocks c_upTo c_clashedTo c_zoneSets c_places c_notices c_news p1 r_1 hr_1) cy_X3_hasHost mML_X3_61 mIM_X3_hasHost mSE_X3_hasHost rfl rfl (k := 0) rfl (perm_self _) (perm_self _) rfl rfl hl.1 rfl (Nat.le_of_ble_eq_true rfl) dX3_setPlace_2 ⟨Nat.le_of_ble_eq_true rfl, Nat.le_of_ble_eq_true rfl⟩ ⟨Nat.le_refl _, Nat.le_refl _⟩ (fun H locs hN => ?_)
  refine lv_if_eq (tgt := 15) hx hb dX3_setPlace_5 (by decide) (fun c2 => ?_) (fun c2 => ?_)
  · have h := if_t h c2
    obtain rfl := Option.some.inj h
    exact n_vret hC hN dX3_setPlace_15
  · have h := if_f h c2
    refine lv_aload_n hx hb dX3_setPlace_8 rfl (lv_at hl 0 rfl) ?_
    refine gt_X3_places hC hN 0 rfl rfl dX3_setPlace_9 ?_
    refine lv_iload_n hx hb dX3_setPlace_12 rfl (lv_at hl 1 rfl) ?_
    refine lv_iload_n hx hb dX3_setPlace_13 rfl (lv_at hl 2 rfl) ?_
    have g := inB_vp (gd_c h)
    have h := gd_e h
    obtain ⟨c_places_3, ec_places_3⟩ : ∃ y : Nat → Int32, y = upd c_places p1.toNatClampNeg p2 := ⟨_, rfl⟩
    have h := bd_e h c_places_3 ec_places_3
    refine n_iast hC hN 8 rfl g ec_places_3 (ws' := wX3 E adc c_switches c_hosts c_renewing c_priorities c_names c_wants c_blocks c_upTo c_clashedTo c_zoneSets c_places_3 c_notices c_news) rfl dX3_setPlace_14 (fun H locs hN => ?_)
    obtain rfl := Option.some.inj h
    exact n_vret hC hN dX3_setPlace_15
set_option maxHeartbeats 4000000 in
set_option maxRecDepth 100000 in
theorem tX3_noticesOf (l : Launch) (E : EV) (adc : Nat → Nat) (c_switches : Int32) (c_hosts : Int32) (c_renewing : Int32) (c_priorities : Nat → Int32) (c_names : Nat → Int32) (c_wants : Nat → Int32) (c_blocks : Nat → Int32) (c_upTo : Nat → Int32) (c_clashedTo : Nat → Int32) (c_zoneSets : Nat → Int32) (c_places : Nat → Int32) (c_notices : Nat → Int32) (c_news : Nat → Int32) (p1 : Int32) (z : Int32) (h : fX3_noticesOf c_hosts c_notices p1 = some z) : Cn l E yX3_noticesOf cX3_noticesOf 2 (some .int) 1 21 [.ref (adc 0), .int p1] (wX3 E adc c_switches c_hosts c_renewing c_priorities c_names c_wants c_blocks c_upTo c_clashedTo c_zoneSets c_places c_notices c_news) (wX3 E adc c_switches c_hosts c_renewing c_priorities c_names c_wants c_blocks c_upTo c_clashedTo c_zoneSets c_places c_notices c_news) (some (.int z)) := by
  refine Cn.ofW (by decide +kernel) (Nat.le_of_ble_eq_true rfl) ?_
  intro p e s m args below meth c ls hC hN hl
  have hl : lv_has ls 2 [(0, .ref (adc 0)), (1, .int p1)] := hl
  have hx := hC.1
  have hb := hC.2.1
  unfold fX3_noticesOf at h
  refine lv_aload_n hx hb dX3_noticesOf_0 rfl (lv_at hl 0 rfl) ?_
  refine lv_iload_n hx hb dX3_noticesOf_1 rfl (lv_at hl 1 rfl) ?_
  obtain ⟨r_1, hr_1, h⟩ := bi_e h
  refine n_callVi (ws' := wX3 E adc c_switches c_hosts c_renewing c_priorities c_names c_wants c_blocks c_upTo c_clashedTo c_zoneSets c_places c_notices c_news) hC hN (tX3_hasHost l E adc c_switches c_hosts c_renewing c_priorities c_names c_wants c_blocks c_upTo c_clashedTo c_zoneSets c_places c_notices c_news p1 r_1 hr_1) cy_X3_hasHost mML_X3_61 mIM_X3_hasHost mSE_X3_hasHost rfl rfl (k := 0) rfl (perm_self _) (perm_self _) rfl rfl hl.1 rfl (Nat.le_of_ble_eq_true rfl) dX3_noticesOf_2 ⟨Nat.le_of_ble_eq_true rfl, Nat.le_of_ble_eq_true rfl⟩ ⟨Nat.le_refl _, Nat.le_refl _⟩ (fun H locs hN => ?_)
  refine lv_if_eq (tgt := 17) hx hb dX3_noticesOf_5 (by decide) (fun c2 => ?_) (fun c2 => ?_)
  · have h := if_t h c2
    refine lv_iconst (v := -1) hx hb dX3_noticesOf_17 rfl ?_
    obtain rfl := Option.some.inj h
    exact n_iret hC hN dX3_noticesOf_18
  · have h := if_f h c2
    refine lv_aload_n hx hb dX3_noticesOf_8 rfl (lv_at hl 0 rfl) ?_
    refine gt_X3_notices hC hN 0 rfl rfl dX3_noticesOf_9 ?_
    refine lv_iload_n hx hb dX3_noticesOf_12 rfl (lv_at hl 1 rfl) ?_
    have g := inB_vp (gd_c h)
    have h := gd_e h
    refine n_iald hC hN 9 rfl g dX3_noticesOf_13 ?_
    refine lv_goto (tgt := 18) hx hb dX3_noticesOf_14 (by decide) ?_
    obtain rfl := Option.some.inj h
    exact n_iret hC hN dX3_noticesOf_18
set_option maxHeartbeats 4000000 in
set_option maxRecDepth 100000 in
theorem tX3_newsOf (l : Launch) (E : EV) (adc : Nat → Nat) (c_switches : Int32) (c_hosts : Int32) (c_renewing : Int32) (c_priorities : Nat → Int32) (c_names : Nat → Int32) (c_wants : Nat → Int32) (c_blocks : Nat → Int32) (c_upTo : Nat → Int32) (c_clashedTo : Nat → Int32) (c_zoneSets : Nat → Int32) (c_places : Nat → Int32) (c_notices : Nat → Int32) (c_news : Nat → Int32) (p1 : Int32) (z : Int32) (h : fX3_newsOf c_hosts c_news p1 = some z) : Cn l E yX3_newsOf cX3_newsOf 2 (some .int) 1 21 [.ref (adc 0), .int p1] (wX3 E adc c_switches c_hosts c_renewing c_priorities c_names c_wants c_blocks c_upTo c_clashedTo c_zoneSets c_places c_notices c_news) (wX3 E adc c_switches c_hosts c_renewing c_priorities c_names c_wants c_blocks c_upTo c_clashedTo c_zoneSets c_places c_notices c_news) (some (.int z)) := by
  refine Cn.ofW (by decide +kernel) (Nat.le_of_ble_eq_true rfl) ?_
  intro p e s m args below meth c ls hC hN hl
  have hl : lv_has ls 2 [(0, .ref (adc 0)), (1, .int p1)] := hl
  have hx := hC.1
  have hb := hC.2.1
  unfold fX3_newsOf at h
  refine lv_aload_n hx hb dX3_newsOf_0 rfl (lv_at hl 0 rfl) ?_
  refine lv_iload_n hx hb dX3_newsOf_1 rfl (lv_at hl 1 rfl) ?_
  obtain ⟨r_1, hr_1, h⟩ := bi_e h
  refine n_callVi (ws' := wX3 E adc c_switches c_hosts c_renewing c_priorities c_names c_wants c_blocks c_upTo c_clashedTo c_zoneSets c_places c_notices c_news) hC hN (tX3_hasHost l E adc c_switches c_hosts c_renewing c_priorities c_names c_wants c_blocks c_upTo c_clashedTo c_zoneSets c_places c_notices c_news p1 r_1 hr_1) cy_X3_hasHost mML_X3_61 mIM_X3_hasHost mSE_X3_hasHost rfl rfl (k := 0) rfl (perm_self _) (perm_self _) rfl rfl hl.1 rfl (Nat.le_of_ble_eq_true rfl) dX3_newsOf_2 ⟨Nat.le_of_ble_eq_true rfl, Nat.le_of_ble_eq_true rfl⟩ ⟨Nat.le_refl _, Nat.le_refl _⟩ (fun H locs hN => ?_)
  refine lv_if_eq (tgt := 17) hx hb dX3_newsOf_5 (by decide) (fun c2 => ?_) (fun c2 => ?_)
  · have h := if_t h c2
    refine lv_iconst (v := -1) hx hb dX3_newsOf_17 rfl ?_
    obtain rfl := Option.some.inj h
    exact n_iret hC hN dX3_newsOf_18
  · have h := if_f h c2
    refine lv_aload_n hx hb dX3_newsOf_8 rfl (lv_at hl 0 rfl) ?_
    refine gt_X3_news hC hN 0 rfl rfl dX3_newsOf_9 ?_
    refine lv_iload_n hx hb dX3_newsOf_12 rfl (lv_at hl 1 rfl) ?_
    have g := inB_vp (gd_c h)
    have h := gd_e h
    refine n_iald hC hN 10 rfl g dX3_newsOf_13 ?_
    refine lv_goto (tgt := 18) hx hb dX3_newsOf_14 (by decide) ?_
    obtain rfl := Option.some.inj h
    exact n_iret hC hN dX3_newsOf_18
set_option maxHeartbeats 4000000 in
set_option maxRecDepth 100000 in
theorem tX3_noticeTotal (l : Launch) (E : EV) (adc : Nat → Nat) (c_switches : Int32) (c_hosts : Int32) (c_renewing : Int32) (c_priorities : Nat → Int32) (c_names : Nat → Int32) (c_wants : Nat → Int32) (c_blocks : Nat → Int32) (c_upTo : Nat → Int32) (c_clashedTo : Nat → Int32) (c_zoneSets : Nat → Int32) (c_places : Nat → Int32) (c_notices : Nat → Int32) (c_news : Nat → Int32) (z : Int32) (h : fX3_noticeTotal c_hosts c_notices = some z) : Cn l E yX3_noticeTotal cX3_noticeTotal 3 (some .int) 0 0 [.ref (adc 0)] (wX3 E adc c_switches c_hosts c_renewing c_priorities c_names c_wants c_blocks c_upTo c_clashedTo c_zoneSets c_places c_notices c_news) (wX3 E adc c_switches c_hosts c_renewing c_priorities c_names c_wants c_blocks c_upTo c_clashedTo c_zoneSets c_places c_notices c_news) (some (.int z)) := by
  refine Cn.ofW (by decide +kernel) (Nat.le_of_ble_eq_true rfl) ?_
  intro p e s m args below meth c ls hC hN hl
  obtain ⟨z0, hz0⟩ : ∃ y, y = z := ⟨_, rfl⟩
  rw [← hz0] at h ⊢
  clear hz0
  have hl : lv_has ls 3 [(0, .ref (adc 0))] := hl
  have hx := hC.1
  have hb := hC.2.1
  unfold fX3_noticeTotal at h
  refine lv_iconst (v := 0) hx hb dX3_noticeTotal_0 rfl ?_
  refine lv_istore_n (lv' := [(1, .int 0), (0, .ref (adc 0))]) hx hb dX3_noticeTotal_1 rfl hl (by decide) rfl (fun ls hl => ?_)
  refine lv_iconst (v := 0) hx hb dX3_noticeTotal_2 rfl ?_
  refine lv_istore_n (lv' := [(2, .int 0), (1, .int 0), (0, .ref (adc 0))]) hx hb dX3_noticeTotal_3 rfl hl (by decide) rfl (fun ls hl => ?_)
  have L1 : ∀ (fu : Nat) (v1_1 : Int32) (v2_2 : Int32) (z : Int32 × Int32) (H : Heap) (locs : List Loc) (ls : Array Slot), Nw E s (AD (wX3 E adc c_switches c_hosts c_renewing c_priorities c_names c_wants c_blocks c_upTo c_clashedTo c_zoneSets c_places c_notices c_news)) (wX3 E adc c_switches c_hosts c_renewing c_priorities c_names c_wants c_blocks c_upTo c_clashedTo c_zoneSets c_places c_notices c_news) H locs → lv_has ls 3 [(0, .ref (adc 0)), (1, .int v1_1), (2, .int v2_2)] → fX3_noticeTotal_L1 c_hosts c_notices fu v1_1 v2_2 = some z → (∀ (H : Heap) (locs : List Loc) (ls : Array Slot), Nw E s (AD (wX3 E adc c_switches c_hosts c_renewing c_priorities c_names c_wants c_blocks c_upTo c_clashedTo c_zoneSets c_places c_notices c_news)) (wX3 E adc c_switches c_hosts c_renewing c_priorities c_names c_wants c_blocks c_upTo c_clashedTo c_zoneSets c_places c_notices c_news) H locs → lv_has ls 3 [(0, .ref (adc 0)), (1, .int z.1), (2, .int z.2)] → WN p l e 0 0 s m args below meth c E (wX3 E adc c_switches c_hosts c_renewing c_priorities c_names c_wants c_blocks c_upTo c_clashedTo c_zoneSets c_places c_notices c_news) (some (.int z0)) (wX3 E adc c_switches c_hosts c_renewing c_priorities c_names c_wants c_blocks c_upTo c_clashedTo c_zoneSets c_places c_notices c_news) H locs (F0 m 27 ls [])) → WN p l e 0 0 s m args below meth c E (wX3 E adc c_switches c_hosts c_renewing c_priorities c_names c_wants c_blocks c_upTo c_clashedTo c_zoneSets c_places c_notices c_news) (some (.int z0)) (wX3 E adc c_switches c_hosts c_renewing c_priorities c_names c_wants c_blocks c_upTo c_clashedTo c_zoneSets c_places c_notices c_news) H locs (F0 m 4 ls []) := by
    intro fu
    induction fu with
    | zero =>
      intro v1_1 v2_2 z H locs ls hN hl h K
      cases (show (none : Option (Int32 × Int32)) = some z from h)
    | succ fu ih =>
      intro v1_1 v2_2 z H locs ls hN hl h K
      rw [fX3_noticeTotal_L1.eq_2] at h
      refine lv_iload_n hx hb dX3_noticeTotal_4 rfl (lv_at hl 2 rfl) ?_
      refine lv_aload_n hx hb dX3_noticeTotal_5 rfl (lv_at hl 0 rfl) ?_
      refine gt_X3_hosts hC hN 0 rfl rfl dX3_noticeTotal_6 ?_
      refine lv_icmp_ge (tgt := 27) hx hb dX3_noticeTotal_9 (by decide) (fun c3 => ?_) (fun c3 => ?_)
      · have h := if_t h c3
        obtain rfl := Option.some.inj h
        exact K _ _ _ hN (lv_sub hl [0, 1, 2] rfl)
      · have h := if_f h c3
        refine lv_iload_n hx hb dX3_noticeTotal_12 rfl (lv_at hl 1 rfl) ?_
        refine lv_aload_n hx hb dX3_noticeTotal_13 rfl (lv_at hl 0 rfl) ?_
        refine gt_X3_notices hC hN 0 rfl rfl dX3_noticeTotal_14 ?_
        refine lv_iload_n hx hb dX3_noticeTotal_17 rfl (lv_at hl 2 rfl) ?_
        have g := inB_vp (gd_c h)
        have h := gd_e h
        refine n_iald hC hN 9 rfl g dX3_noticeTotal_18 ?_
        refine lv_iadd hx hb dX3_noticeTotal_19 ?_
        refine lv_topi (fun v1_4 ev1_4 => ?_)
        have h := bd_e h v1_4 ev1_4
        refine lv_istore_n (lv' := [(1, .int v1_4), (0, .ref (adc 0)), (2, .int v2_2)]) hx hb dX3_noticeTotal_20 rfl hl (by decide) rfl (fun ls hl => ?_)
        obtain ⟨v2_5, ev2_5⟩ : ∃ y : Int32, y = v2_2 + 1 := ⟨_, rfl⟩
        have h := bd_e h v2_5 ev2_5
        refine lv_iinc (v := v2_5) (lv' := [(2, .int v2_5), (1, .int v1_4), (0, .ref (adc 0))]) hx hb dX3_noticeTotal_21 hl (k := 2) rfl (by rw [ev2_5]; rfl) (by decide) rfl (fun ls hl => ?_)
        refine lv_goto (tgt := 4) hx hb dX3_noticeTotal_24 (by decide) ?_
        exact ih v1_4 v2_5 z _ _ _ hN (lv_sub hl [2, 1, 0] rfl) h K
  obtain ⟨z_6, hz_6, h⟩ := bi_e h
  refine L1 500 0 0 z_6 _ _ _ hN (lv_sub hl [2, 1, 0] rfl) hz_6 (fun H locs ls hN hl => ?_)
  refine lv_iload_n hx hb dX3_noticeTotal_27 rfl (lv_at hl 1 rfl) ?_
  obtain rfl := Option.some.inj h
  exact n_iret hC hN dX3_noticeTotal_28
set_option maxHeartbeats 4000000 in
set_option maxRecDepth 100000 in
theorem tX3_linkState (l : Launch) (E : EV) (adc : Nat → Nat) (c_switches : Int32) (c_hosts : Int32) (c_renewing : Int32) (c_priorities : Nat → Int32) (c_names : Nat → Int32) (c_wants : Nat → Int32) (c_blocks : Nat → Int32) (c_upTo : Nat → Int32) (c_clashedTo : Nat → Int32) (c_zoneSets : Nat → Int32) (c_places : Nat → Int32) (c_notices : Nat → Int32) (c_news : Nat → Int32) (p1 : Int32) (p2 : Int32) (z : Int32) (h : fX3_linkState c_switches c_upTo c_clashedTo p1 p2 = some z) : Cn l E yX3_linkState cX3_linkState 3 (some .int) 2 43 [.ref (adc 0), .int p1, .int p2] (wX3 E adc c_switches c_hosts c_renewing c_priorities c_names c_wants c_blocks c_upTo c_clashedTo c_zoneSets c_places c_notices c_news) (wX3 E adc c_switches c_hosts c_renewing c_priorities c_names c_wants c_blocks c_upTo c_clashedTo c_zoneSets c_places c_notices c_news) (some (.int z)) := by
  refine Cn.ofW (by decide +kernel) (Nat.le_of_ble_eq_true rfl) ?_
  intro p e s m args below meth c ls hC hN hl
  have hl : lv_has ls 3 [(0, .ref (adc 0)), (1, .int p1), (2, .int p2)] := hl
  have hx := hC.1
  have hb := hC.2.1
  unfold fX3_linkState at h
  refine lv_aload_n hx hb dX3_linkState_0 rfl (lv_at hl 0 rfl) ?_
  refine lv_iload_n hx hb dX3_linkState_1 rfl (lv_at hl 1 rfl) ?_
  refine lv_iload_n hx hb dX3_linkState_2 rfl (lv_at hl 2 rfl) ?_
  obtain ⟨r_1, hr_1, h⟩ := bi_e h
  refine n_callVi (ws' := wX3 E adc c_switches c_hosts c_renewing c_priorities c_names c_wants c_blocks c_upTo c_clashedTo c_zoneSets c_places c_notices c_news) hC hN (tX3_hasTwo l E adc c_switches c_hosts c_renewing c_priorities c_names c_wants c_blocks c_upTo c_clashedTo c_zoneSets c_places c_notices c_news p1 p2 r_1 hr_1) cy_X3_hasTwo mML_X3_68 mIM_X3_hasTwo mSE_X3_hasTwo rfl rfl (k := 0) rfl (perm_self _) (perm_self _) rfl rfl hl.1 rfl (Nat.le_of_ble_eq_true rfl) dX3_linkState_3 ⟨Nat.le_of_ble_eq_true rfl, Nat.le_of_ble_eq_true rfl⟩ ⟨Nat.le_refl _, Nat.le_refl _⟩ (fun H locs hN => ?_)
  refine lv_if_ne (tgt := 11) hx hb dX3_linkState_6 (by decide) (fun c2 => ?_) (fun c2 => ?_)
  · have h := if_f h c2
    refine lv_aload_n hx hb dX3_linkState_11 rfl (lv_at hl 0 rfl) ?_
    refine gt_X3_upTo hC hN 0 rfl rfl dX3_linkState_12 ?_
    refine lv_iload_n hx hb dX3_linkState_15 rfl (lv_at hl 1 rfl) ?_
    have g := inB_vp (gd_c h)
    have h := gd_e h
    refine n_iald hC hN 5 rfl g dX3_linkState_16 ?_
    refine lv_iload_n hx hb dX3_linkState_17 rfl (lv_at hl 2 rfl) ?_
    obtain ⟨r_3, hr_3, h⟩ := bi_e h
    refine n_callSNi (ws' := wX3 E adc c_switches c_hosts c_renewing c_priorities c_names c_wants c_blocks c_upTo c_clashedTo c_zoneSets c_places c_notices c_news) hC hN (tX7_has l E (c_upTo p1.toNatClampNeg) p2 r_3 hr_3) cy_X7_has (List.mem_of_getElem? (i := 8) rfl) mST_X7_has (perm_nil _) (perm_nil _) rfl rfl hl.1 rfl (Nat.le_of_ble_eq_true rfl) dX3_linkState_18 ⟨Nat.le_of_ble_eq_true rfl, Nat.le_of_ble_eq_true rfl⟩ ⟨Nat.le_refl _, Nat.le_refl _⟩ (fun H locs hN => ?_)
    refine lv_if_eq (tgt := 26) hx hb dX3_linkState_21 (by decide) (fun c4 => ?_) (fun c4 => ?_)
    · have h := if_t h c4
      refine lv_aload_n hx hb dX3_linkState_26 rfl (lv_at hl 0 rfl) ?_
      refine gt_X3_clashedTo hC hN 0 rfl rfl dX3_linkState_27 ?_
      refine lv_iload_n hx hb dX3_linkState_30 rfl (lv_at hl 1 rfl) ?_
      have g := inB_vp (gd_c h)
      have h := gd_e h
      refine n_iald hC hN 6 rfl g dX3_linkState_31 ?_
      refine lv_iload_n hx hb dX3_linkState_32 rfl (lv_at hl 2 rfl) ?_
      obtain ⟨r_5, hr_5, h⟩ := bi_e h
      refine n_callSNi (ws' := wX3 E adc c_switches c_hosts c_renewing c_priorities c_names c_wants c_blocks c_upTo c_clashedTo c_zoneSets c_places c_notices c_news) hC hN (tX7_has l E (c_clashedTo p1.toNatClampNeg) p2 r_5 hr_5) cy_X7_has (List.mem_of_getElem? (i := 8) rfl) mST_X7_has (perm_nil _) (perm_nil _) rfl rfl hl.1 rfl (Nat.le_of_ble_eq_true rfl) dX3_linkState_33 ⟨Nat.le_of_ble_eq_true rfl, Nat.le_of_ble_eq_true rfl⟩ ⟨Nat.le_refl _, Nat.le_refl _⟩ (fun H locs hN => ?_)
      refine lv_if_eq (tgt := 43) hx hb dX3_linkState_36 (by decide) (fun c6 => ?_) (fun c6 => ?_)
      · have h := if_t h c6
        refine lv_iconst (v := 0) hx hb dX3_linkState_43 rfl ?_
        obtain rfl := Option.some.inj h
        exact n_iret hC hN dX3_linkState_44
      · have h := if_f h c6
        refine lv_iconst (v := 2) hx hb dX3_linkState_39 rfl ?_
        refine lv_goto (tgt := 44) hx hb dX3_linkState_40 (by decide) ?_
        obtain rfl := Option.some.inj h
        exact n_iret hC hN dX3_linkState_44
    · have h := if_f h c4
      refine lv_iconst (v := 1) hx hb dX3_linkState_24 rfl ?_
      obtain rfl := Option.some.inj h
      exact n_iret hC hN dX3_linkState_25
  · have h := if_t h c2
    refine lv_iconst (v := 0) hx hb dX3_linkState_9 rfl ?_
    obtain rfl := Option.some.inj h
    exact n_iret hC hN dX3_linkState_10
set_option maxHeartbeats 4000000 in
set_option maxRecDepth 100000 in
theorem tX3_isUp (l : Launch) (E : EV) (adc : Nat → Nat) (c_switches : Int32) (c_hosts : Int32) (c_renewing : Int32) (c_priorities : Nat → Int32) (c_names : Nat → Int32) (c_wants : Nat → Int32) (c_blocks : Nat → Int32) (c_upTo : Nat → Int32) (c_clashedTo : Nat → Int32) (c_zoneSets : Nat → Int32) (c_places : Nat → Int32) (c_notices : Nat → Int32) (c_news : Nat → Int32) (p1 : Int32) (p2 : Int32) (z : Int32) (h : fX3_isUp c_switches c_upTo c_clashedTo p1 p2 = some z) : Cn l E yX3_isUp cX3_isUp 3 (some .boolean) 3 65 [.ref (adc 0), .int p1, .int p2] (wX3 E adc c_switches c_hosts c_renewing c_priorities c_names c_wants c_blocks c_upTo c_clashedTo c_zoneSets c_places c_notices c_news) (wX3 E adc c_switches c_hosts c_renewing c_priorities c_names c_wants c_blocks c_upTo c_clashedTo c_zoneSets c_places c_notices c_news) (some (.int z)) := by
  refine Cn.ofW (by decide +kernel) (Nat.le_of_ble_eq_true rfl) ?_
  intro p e s m args below meth c ls hC hN hl
  have hl : lv_has ls 3 [(0, .ref (adc 0)), (1, .int p1), (2, .int p2)] := hl
  have hx := hC.1
  have hb := hC.2.1
  unfold fX3_isUp at h
  refine lv_aload_n hx hb dX3_isUp_0 rfl (lv_at hl 0 rfl) ?_
  refine lv_iload_n hx hb dX3_isUp_1 rfl (lv_at hl 1 rfl) ?_
  refine lv_iload_n hx hb dX3_isUp_2 rfl (lv_at hl 2 rfl) ?_
  obtain ⟨r_1, hr_1, h⟩ := bi_e h
  refine n_callVi (ws' := wX3 E adc c_switches c_hosts c_renewing c_priorities c_names c_wants c_blocks c_upTo c_clashedTo c_zoneSets c_places c_notices c_news) hC hN (tX3_linkState l E adc c_switches c_hosts c_renewing c_priorities c_names c_wants c_blocks c_upTo c_clashedTo c_zoneSets c_places c_notices c_news p1 p2 r_1 hr_1) cy_X3_linkState mML_X3_64 mIM_X3_linkState mSE_X3_linkState rfl rfl (k := 0) rfl (perm_self _) (perm_self _) rfl rfl hl.1 rfl (Nat.le_of_ble_eq_true rfl) dX3_isUp_3 ⟨Nat.le_of_ble_eq_true rfl, Nat.le_of_ble_eq_true rfl⟩ ⟨Nat.le_refl _, Nat.le_refl _⟩ (fun H locs hN => ?_)
  refine lv_iconst (v := 1) hx hb dX3_isUp_6 rfl ?_
  refine lv_icmp_ne (tgt := 14) hx hb dX3_isUp_7 (by decide) (fun c2 => ?_) (fun c2 => ?_)
  · have h := if_f h c2
    refine lv_iconst (v := 0) hx hb dX3_isUp_14 rfl ?_
    obtain rfl := Option.some.inj h
    exact n_zret hC hN (Or.inl rfl) dX3_isUp_15
  · have h := if_t h c2
    refine lv_iconst (v := 1) hx hb dX3_isUp_10 rfl ?_
    refine lv_goto (tgt := 15) hx hb dX3_isUp_11 (by decide) ?_
    obtain rfl := Option.some.inj h
    exact n_zret hC hN (Or.inr rfl) dX3_isUp_15
set_option maxHeartbeats 4000000 in
set_option maxRecDepth 100000 in
theorem tX3_setEnd (l : Launch) (E : EV) (adc : Nat → Nat) (c_switches : Int32) (c_hosts : Int32) (c_renewing : Int32) (c_priorities : Nat → Int32) (c_names : Nat → Int32) (c_wants : Nat → Int32) (c_blocks : Nat → Int32) (c_upTo : Nat → Int32) (c_clashedTo : Nat → Int32) (c_zoneSets : Nat → Int32) (c_places : Nat → Int32) (c_notices : Nat → Int32) (c_news : Nat → Int32) (p1 : Int32) (p2 : Int32) (p3 : Int32) (z : (Nat → Int32) × (Nat → Int32)) (h : fX3_setEnd c_upTo c_clashedTo p1 p2 p3 = some z) : Cn l E yX3_setEnd cX3_setEnd 4 none 0 0 [.ref (adc 0), .int p1, .int p2, .int p3] (wX3 E adc c_switches c_hosts c_renewing c_priorities c_names c_wants c_blocks c_upTo c_clashedTo c_zoneSets c_places c_notices c_news) (wX3 E adc c_switches c_hosts c_renewing c_priorities c_names c_wants c_blocks z.1 z.2 c_zoneSets c_places c_notices c_news) (none) := by
  refine Cn.ofW (by decide +kernel) (Nat.le_of_ble_eq_true rfl) ?_
  intro p e s m args below meth c ls hC hN hl
  have hl : lv_has ls 4 [(0, .ref (adc 0)), (1, .int p1), (2, .int p2), (3, .int p3)] := hl
  have hx := hC.1
  have hb := hC.2.1
  unfold fX3_setEnd at h
  refine lv_aload_n hx hb dX3_setEnd_0 rfl (lv_at hl 0 rfl) ?_
  refine gt_X3_upTo hC hN 0 rfl rfl dX3_setEnd_1 ?_
  refine lv_iload_n hx hb dX3_setEnd_4 rfl (lv_at hl 1 rfl) ?_
  refine lv_iload_n hx hb dX3_setEnd_5 rfl (lv_at hl 3 rfl) ?_
  refine lv_iconst (v := 1) hx hb dX3_setEnd_6 rfl ?_
  refine lv_icmp_ne (tgt := 21) hx hb dX3_setEnd_7 (by decide) (fun c1 => ?_) (fun c1 => ?_)
  · have h := if_f h c1
    refine lv_aload_n hx hb dX3_setEnd_21 rfl (lv_at hl 0 rfl) ?_
    refine gt_X3_upTo hC hN 0 rfl rfl dX3_setEnd_22 ?_
    refine lv_iload_n hx hb dX3_setEnd_25 rfl (lv_at hl 1 rfl) ?_
    have g := inB_vp (gd_c h)
    have h := gd_e h
    refine n_iald hC hN 5 rfl g dX3_setEnd_26 ?_
    refine lv_iload_n hx hb dX3_setEnd_27 rfl (lv_at hl 2 rfl) ?_
    refine lv_iconst (v := -1) hx hb dX3_setEnd_28 rfl ?_
    refine lv_ixor hx hb dX3_setEnd_29 ?_
    refine lv_iand hx hb dX3_setEnd_30 ?_
    have g := inB_vp (gd_c h)
    have h := gd_e h
    obtain ⟨c_upTo_2, ec_upTo_2⟩ : ∃ y : Nat → Int32, y = upd c_upTo p1.toNatClampNeg ((c_upTo p1.toNatClampNeg) &&& (p2 ^^^ (-1))) := ⟨_, rfl⟩
    have h := bd_e h c_upTo_2 ec_upTo_2
    refine n_iast hC hN 5 rfl g ec_upTo_2 (ws' := wX3 E adc c_switches c_hosts c_renewing c_priorities c_names c_wants c_blocks c_upTo_2 c_clashedTo c_zoneSets c_places c_notices c_news) rfl dX3_setEnd_31 (fun H locs hN => ?_)
    refine lv_aload_n hx hb dX3_setEnd_32 rfl (lv_at hl 0 rfl) ?_
    refine gt_X3_clashedTo hC hN 0 rfl rfl dX3_setEnd_33 ?_
    refine lv_iload_n hx hb dX3_setEnd_36 rfl (lv_at hl 1 rfl) ?_
    refine lv_iload_n hx hb dX3_setEnd_37 rfl (lv_at hl 3 rfl) ?_
    refine lv_iconst (v := 2) hx hb dX3_setEnd_38 rfl ?_
    refine lv_icmp_ne (tgt := 53) hx hb dX3_setEnd_39 (by decide) (fun c3 => ?_) (fun c3 => ?_)
    · have h := if_f h c3
      refine lv_aload_n hx hb dX3_setEnd_53 rfl (lv_at hl 0 rfl) ?_
      refine gt_X3_clashedTo hC hN 0 rfl rfl dX3_setEnd_54 ?_
      refine lv_iload_n hx hb dX3_setEnd_57 rfl (lv_at hl 1 rfl) ?_
      have g := inB_vp (gd_c h)
      have h := gd_e h
      refine n_iald hC hN 6 rfl g dX3_setEnd_58 ?_
      refine lv_iload_n hx hb dX3_setEnd_59 rfl (lv_at hl 2 rfl) ?_
      refine lv_iconst (v := -1) hx hb dX3_setEnd_60 rfl ?_
      refine lv_ixor hx hb dX3_setEnd_61 ?_
      refine lv_iand hx hb dX3_setEnd_62 ?_
      have g := inB_vp (gd_c h)
      have h := gd_e h
      obtain ⟨c_clashedTo_4, ec_clashedTo_4⟩ : ∃ y : Nat → Int32, y = upd c_clashedTo p1.toNatClampNeg ((c_clashedTo p1.toNatClampNeg) &&& (p2 ^^^ (-1))) := ⟨_, rfl⟩
      have h := bd_e h c_clashedTo_4 ec_clashedTo_4
      refine n_iast hC hN 6 rfl g ec_clashedTo_4 (ws' := wX3 E adc c_switches c_hosts c_renewing c_priorities c_names c_wants c_blocks c_upTo_2 c_clashedTo_4 c_zoneSets c_places c_notices c_news) rfl dX3_setEnd_63 (fun H locs hN => ?_)
      obtain rfl := Option.some.inj h
      exact n_vret hC hN dX3_setEnd_64
    · have h := if_t h c3
      refine lv_aload_n hx hb dX3_setEnd_42 rfl (lv_at hl 0 rfl) ?_
      refine gt_X3_clashedTo hC hN 0 rfl rfl dX3_setEnd_43 ?_
      refine lv_iload_n hx hb dX3_setEnd_46 rfl (lv_at hl 1 rfl) ?_
      have g := inB_vp (gd_c h)
      have h := gd_e h
      refine n_iald hC hN 6 rfl g dX3_setEnd_47 ?_
      refine lv_iload_n hx hb dX3_setEnd_48 rfl (lv_at hl 2 rfl) ?_
      refine lv_ior hx hb dX3_setEnd_49 ?_
      refine lv_goto (tgt := 63) hx hb dX3_setEnd_50 (by decide) ?_
      have g := inB_vp (gd_c h)
      have h := gd_e h
      obtain ⟨c_clashedTo_5, ec_clashedTo_5⟩ : ∃ y : Nat → Int32, y = upd c_clashedTo p1.toNatClampNeg ((c_clashedTo p1.toNatClampNeg) ||| p2) := ⟨_, rfl⟩
      have h := bd_e h c_clashedTo_5 ec_clashedTo_5
      refine n_iast hC hN 6 rfl g ec_clashedTo_5 (ws' := wX3 E adc c_switches c_hosts c_renewing c_priorities c_names c_wants c_blocks c_upTo_2 c_clashedTo_5 c_zoneSets c_places c_notices c_news) rfl dX3_setEnd_63 (fun H locs hN => ?_)
      obtain rfl := Option.some.inj h
      exact n_vret hC hN dX3_setEnd_64
  · have h := if_t h c1
    refine lv_aload_n hx hb dX3_setEnd_10 rfl (lv_at hl 0 rfl) ?_
    refine gt_X3_upTo hC hN 0 rfl rfl dX3_setEnd_11 ?_
    refine lv_iload_n hx hb dX3_setEnd_14 rfl (lv_at hl 1 rfl) ?_
    have g := inB_vp (gd_c h)
    have h := gd_e h
    refine n_iald hC hN 5 rfl g dX3_setEnd_15 ?_
    refine lv_iload_n hx hb dX3_setEnd_16 rfl (lv_at hl 2 rfl) ?_
    refine lv_ior hx hb dX3_setEnd_17 ?_
    refine lv_goto (tgt := 31) hx hb dX3_setEnd_18 (by decide) ?_
    have g := inB_vp (gd_c h)
    have h := gd_e h
    obtain ⟨c_upTo_6, ec_upTo_6⟩ : ∃ y : Nat → Int32, y = upd c_upTo p1.toNatClampNeg ((c_upTo p1.toNatClampNeg) ||| p2) := ⟨_, rfl⟩
    have h := bd_e h c_upTo_6 ec_upTo_6
    refine n_iast hC hN 5 rfl g ec_upTo_6 (ws' := wX3 E adc c_switches c_hosts c_renewing c_priorities c_names c_wants c_blocks c_upTo_6 c_clashedTo c_zoneSets c_places c_notices c_news) rfl dX3_setEnd_31 (fun H locs hN => ?_)
    refine lv_aload_n hx hb dX3_setEnd_32 rfl (lv_at hl 0 rfl) ?_
    refine gt_X3_clashedTo hC hN 0 rfl rfl dX3_setEnd_33 ?_
    refine lv_iload_n hx hb dX3_setEnd_36 rfl (lv_at hl 1 rfl) ?_
    refine lv_iload_n hx hb dX3_setEnd_37 rfl (lv_at hl 3 rfl) ?_
    refine lv_iconst (v := 2) hx hb dX3_setEnd_38 rfl ?_
    refine lv_icmp_ne (tgt := 53) hx hb dX3_setEnd_39 (by decide) (fun c7 => ?_) (fun c7 => ?_)
    · have h := if_f h c7
      refine lv_aload_n hx hb dX3_setEnd_53 rfl (lv_at hl 0 rfl) ?_
      refine gt_X3_clashedTo hC hN 0 rfl rfl dX3_setEnd_54 ?_
      refine lv_iload_n hx hb dX3_setEnd_57 rfl (lv_at hl 1 rfl) ?_
      have g := inB_vp (gd_c h)
      have h := gd_e h
      refine n_iald hC hN 6 rfl g dX3_setEnd_58 ?_
      refine lv_iload_n hx hb dX3_setEnd_59 rfl (lv_at hl 2 rfl) ?_
      refine lv_iconst (v := -1) hx hb dX3_setEnd_60 rfl ?_
      refine lv_ixor hx hb dX3_setEnd_61 ?_
      refine lv_iand hx hb dX3_setEnd_62 ?_
      have g := inB_vp (gd_c h)
      have h := gd_e h
      obtain ⟨c_clashedTo_8, ec_clashedTo_8⟩ : ∃ y : Nat → Int32, y = upd c_clashedTo p1.toNatClampNeg ((c_clashedTo p1.toNatClampNeg) &&& (p2 ^^^ (-1))) := ⟨_, rfl⟩
      have h := bd_e h c_clashedTo_8 ec_clashedTo_8
      refine n_iast hC hN 6 rfl g ec_clashedTo_8 (ws' := wX3 E adc c_switches c_hosts c_renewing c_priorities c_names c_wants c_blocks c_upTo_6 c_clashedTo_8 c_zoneSets c_places c_notices c_news) rfl dX3_setEnd_63 (fun H locs hN => ?_)
      obtain rfl := Option.some.inj h
      exact n_vret hC hN dX3_setEnd_64
    · have h := if_t h c7
      refine lv_aload_n hx hb dX3_setEnd_42 rfl (lv_at hl 0 rfl) ?_
      refine gt_X3_clashedTo hC hN 0 rfl rfl dX3_setEnd_43 ?_
      refine lv_iload_n hx hb dX3_setEnd_46 rfl (lv_at hl 1 rfl) ?_
      have g := inB_vp (gd_c h)
      have h := gd_e h
      refine n_iald hC hN 6 rfl g dX3_setEnd_47 ?_
      refine lv_iload_n hx hb dX3_setEnd_48 rfl (lv_at hl 2 rfl) ?_
      refine lv_ior hx hb dX3_setEnd_49 ?_
      refine lv_goto (tgt := 63) hx hb dX3_setEnd_50 (by decide) ?_
      have g := inB_vp (gd_c h)
      have h := gd_e h
      obtain ⟨c_clashedTo_9, ec_clashedTo_9⟩ : ∃ y : Nat → Int32, y = upd c_clashedTo p1.toNatClampNeg ((c_clashedTo p1.toNatClampNeg) ||| p2) := ⟨_, rfl⟩
      have h := bd_e h c_clashedTo_9 ec_clashedTo_9
      refine n_iast hC hN 6 rfl g ec_clashedTo_9 (ws' := wX3 E adc c_switches c_hosts c_renewing c_priorities c_names c_wants c_blocks c_upTo_6 c_clashedTo_9 c_zoneSets c_places c_notices c_news) rfl dX3_setEnd_63 (fun H locs hN => ?_)
      obtain rfl := Option.some.inj h
      exact n_vret hC hN dX3_setEnd_64
set_option maxHeartbeats 4000000 in
set_option maxRecDepth 100000 in
theorem tX3_setLink (l : Launch) (E : EV) (adc : Nat → Nat) (c_switches : Int32) (c_hosts : Int32) (c_renewing : Int32) (c_priorities : Nat → Int32) (c_names : Nat → Int32) (c_wants : Nat → Int32) (c_blocks : Nat → Int32) (c_upTo : Nat → Int32) (c_clashedTo : Nat → Int32) (c_zoneSets : Nat → Int32) (c_places : Nat → Int32) (c_notices : Nat → Int32) (c_news : Nat → Int32) (p1 : Int32) (p2 : Int32) (p3 : Int32) (z : (Nat → Int32) × (Nat → Int32)) (h : fX3_setLink c_switches c_upTo c_clashedTo p1 p2 p3 = some z) : Cn l E yX3_setLink cX3_setLink 4 none 2 43 [.ref (adc 0), .int p1, .int p2, .int p3] (wX3 E adc c_switches c_hosts c_renewing c_priorities c_names c_wants c_blocks c_upTo c_clashedTo c_zoneSets c_places c_notices c_news) (wX3 E adc c_switches c_hosts c_renewing c_priorities c_names c_wants c_blocks z.1 z.2 c_zoneSets c_places c_notices c_news) (none) := by
  refine Cn.ofW (by decide +kernel) (Nat.le_of_ble_eq_true rfl) ?_
  intro p e s m args below meth c ls hC hN hl
  have hl : lv_has ls 4 [(0, .ref (adc 0)), (1, .int p1), (2, .int p2), (3, .int p3)] := hl
  have hx := hC.1
  have hb := hC.2.1
  unfold fX3_setLink at h
  refine lv_aload_n hx hb dX3_setLink_0 rfl (lv_at hl 0 rfl) ?_
  refine lv_iload_n hx hb dX3_setLink_1 rfl (lv_at hl 1 rfl) ?_
  refine lv_iload_n hx hb dX3_setLink_2 rfl (lv_at hl 2 rfl) ?_
  obtain ⟨r_1, hr_1, h⟩ := bi_e h
  refine n_callVi (ws' := wX3 E adc c_switches c_hosts c_renewing c_priorities c_names c_wants c_blocks c_upTo c_clashedTo c_zoneSets c_places c_notices c_news) hC hN (tX3_hasTwo l E adc c_switches c_hosts c_renewing c_priorities c_names c_wants c_blocks c_upTo c_clashedTo c_zoneSets c_places c_notices c_news p1 p2 r_1 hr_1) cy_X3_hasTwo mML_X3_68 mIM_X3_hasTwo mSE_X3_hasTwo rfl rfl (k := 0) rfl (perm_self _) (perm_self _) rfl rfl hl.1 rfl (Nat.le_of_ble_eq_true rfl) dX3_setLink_3 ⟨Nat.le_of_ble_eq_true rfl, Nat.le_of_ble_eq_true rfl⟩ ⟨Nat.le_refl _, Nat.le_refl _⟩ (fun H locs hN => ?_)
  refine lv_if_ne (tgt := 10) hx hb dX3_setLink_6 (by decide) (fun c2 => ?_) (fun c2 => ?_)
  · have h := if_f h c2
    refine lv_aload_n hx hb dX3_setLink_10 rfl (lv_at hl 0 rfl) ?_
    refine lv_iload_n hx hb dX3_setLink_11 rfl (lv_at hl 1 rfl) ?_
    refine lv_iconst (v := 1) hx hb dX3_setLink_12 rfl ?_
    refine lv_iload_n hx hb dX3_setLink_13 rfl (lv_at hl 2 rfl) ?_
    refine lv_ishl hx hb dX3_setLink_14 ?_
    refine lv_iload_n hx hb dX3_setLink_15 rfl (lv_at hl 3 rfl) ?_
    obtain ⟨z_3, hz_3, h⟩ := bi_e h
    refine n_callVv (ws' := wX3 E adc c_switches c_hosts c_renewing c_priorities c_names c_wants c_blocks z_3.1 z_3.2 c_zoneSets c_places c_notices c_news) hC hN (tX3_setEnd l E adc c_switches c_hosts c_renewing c_priorities c_names c_wants c_blocks c_upTo c_clashedTo c_zoneSets c_places c_notices c_news p1 (1 <<< (p2 &&& 31)) p3 z_3 hz_3) cy_X3_setEnd mML_X3_75 mIM_X3_setEnd mSE_X3_setEnd rfl rfl (k := 0) rfl (perm_self _) (perm_self _) rfl rfl hl.1 rfl (Nat.le_of_ble_eq_true rfl) dX3_setLink_16 ⟨Nat.le_of_ble_eq_true rfl, Nat.le_of_ble_eq_true rfl⟩ ⟨Nat.le_refl _, Nat.le_refl _⟩ (fun H locs hN => ?_)
    refine lv_aload_n hx hb dX3_setLink_19 rfl (lv_at hl 0 rfl) ?_
    refine lv_iload_n hx hb dX3_setLink_20 rfl (lv_at hl 2 rfl) ?_
    refine lv_iconst (v := 1) hx hb dX3_setLink_21 rfl ?_
    refine lv_iload_n hx hb dX3_setLink_22 rfl (lv_at hl 1 rfl) ?_
    refine lv_ishl hx hb dX3_setLink_23 ?_
    refine lv_iload_n hx hb dX3_setLink_24 rfl (lv_at hl 3 rfl) ?_
    obtain ⟨z_4, hz_4, h⟩ := bi_e h
    refine n_callVv (ws' := wX3 E adc c_switches c_hosts c_renewing c_priorities c_names c_wants c_blocks z_4.1 z_4.2 c_zoneSets c_places c_notices c_news) hC hN (tX3_setEnd l E adc c_switches c_hosts c_renewing c_priorities c_names c_wants c_blocks z_3.1 z_3.2 c_zoneSets c_places c_notices c_news p2 (1 <<< (p1 &&& 31)) p3 z_4 hz_4) cy_X3_setEnd mML_X3_75 mIM_X3_setEnd mSE_X3_setEnd rfl rfl (k := 0) rfl (perm_self _) (perm_self _) rfl rfl hl.1 rfl (Nat.le_of_ble_eq_true rfl) dX3_setLink_25 ⟨Nat.le_of_ble_eq_true rfl, Nat.le_of_ble_eq_true rfl⟩ ⟨Nat.le_refl _, Nat.le_refl _⟩ (fun H locs hN => ?_)
    obtain rfl := Option.some.inj h
    exact n_vret hC hN dX3_setLink_28
  · have h := if_t h c2
    obtain rfl := Option.some.inj h
    exact n_vret hC hN dX3_setLink_9
set_option maxHeartbeats 4000000 in
set_option maxRecDepth 100000 in
theorem tJ6_bitCount_0f7a4 (l : Launch) (E : EV) (p1 : Int32) (z : Int32) (h : fJ6_bitCount_0f7a4 p1 = some z) : Cn l E yJ6_bitCount_0f7a4 cJ6_bitCount_0f7a4 1 (some .int) 0 0 [.int p1] ([]) ([]) (some (.int z)) := by
  refine Cn.ofW (by decide +kernel) (Nat.le_of_ble_eq_true rfl) ?_
  intro p e s m args below meth c ls hC hN hl
  have hl : lv_has ls 1 [(0, .int p1)] := hl
  have hx := hC.1
  have hb := hC.2.1
  unfold fJ6_bitCount_0f7a4 at h
  refine lv_iload_n hx hb dJ6_bitCount_0f7a4_0 rfl (lv_at hl 0 rfl) ?_
  refine lv_iload_n hx hb dJ6_bitCount_0f7a4_1 rfl (lv_at hl 0 rfl) ?_
  refine lv_iconst (v := 1) hx hb dJ6_bitCount_0f7a4_2 rfl ?_
  refine lv_iushr (v := (iushr p1 1)) hx hb dJ6_bitCount_0f7a4_3 rfl ?_
  refine lv_ldcw (v := 1431655765) hx hb hC.2.2.2.1 (hC.2.2.2.2.1 _ mKI_J6_265) dJ6_bitCount_0f7a4_4 ?_
  refine lv_iand hx hb dJ6_bitCount_0f7a4_7 ?_
  refine lv_isub hx hb dJ6_bitCount_0f7a4_8 ?_
  refine lv_topi (fun v0_1 ev0_1 => ?_)
  have h := bd_e h v0_1 ev0_1
  refine lv_istore_n (lv' := [(0, .int v0_1)]) hx hb dJ6_bitCount_0f7a4_9 rfl hl (by decide) rfl (fun ls hl => ?_)
  refine lv_iload_n hx hb dJ6_bitCount_0f7a4_10 rfl (lv_at hl 0 rfl) ?_
  refine lv_ldcw (v := 858993459) hx hb hC.2.2.2.1 (hC.2.2.2.2.1 _ mKI_J6_266) dJ6_bitCount_0f7a4_11 ?_
  refine lv_iand hx hb dJ6_bitCount_0f7a4_14 ?_
  refine lv_iload_n hx hb dJ6_bitCount_0f7a4_15 rfl (lv_at hl 0 rfl) ?_
  refine lv_iconst (v := 2) hx hb dJ6_bitCount_0f7a4_16 rfl ?_
  refine lv_iushr (v := (iushr v0_1 2)) hx hb dJ6_bitCount_0f7a4_17 rfl ?_
  refine lv_ldcw (v := 858993459) hx hb hC.2.2.2.1 (hC.2.2.2.2.1 _ mKI_J6_266) dJ6_bitCount_0f7a4_18 ?_
  refine lv_iand hx hb dJ6_bitCount_0f7a4_21 ?_
  refine lv_iadd hx hb dJ6_bitCount_0f7a4_22 ?_
  refine lv_topi (fun v0_2 ev0_2 => ?_)
  have h := bd_e h v0_2 ev0_2
  refine lv_istore_n (lv' := [(0, .int v0_2)]) hx hb dJ6_bitCount_0f7a4_23 rfl hl (by decide) rfl (fun ls hl => ?_)
  refine lv_iload_n hx hb dJ6_bitCount_0f7a4_24 rfl (lv_at hl 0 rfl) ?_
  refine lv_iload_n hx hb dJ6_bitCount_0f7a4_25 rfl (lv_at hl 0 rfl) ?_
  refine lv_iconst (v := 4) hx hb dJ6_bitCount_0f7a4_26 rfl ?_
  refine lv_iushr (v := (iushr v0_2 4)) hx hb dJ6_bitCount_0f7a4_27 rfl ?_
  refine lv_iadd hx hb dJ6_bitCount_0f7a4_28 ?_
  refine lv_ldcw (v := 252645135) hx hb hC.2.2.2.1 (hC.2.2.2.2.1 _ mKI_J6_267) dJ6_bitCount_0f7a4_29 ?_
  refine lv_iand hx hb dJ6_bitCount_0f7a4_32 ?_
  refine lv_topi (fun v0_3 ev0_3 => ?_)
  have h := bd_e h v0_3 ev0_3
  refine lv_istore_n (lv' := [(0, .int v0_3)]) hx hb dJ6_bitCount_0f7a4_33 rfl hl (by decide) rfl (fun ls hl => ?_)
  refine lv_iload_n hx hb dJ6_bitCount_0f7a4_34 rfl (lv_at hl 0 rfl) ?_
  refine lv_iload_n hx hb dJ6_bitCount_0f7a4_35 rfl (lv_at hl 0 rfl) ?_
  refine lv_bipush (v := 8) hx hb dJ6_bitCount_0f7a4_36 (by decide) ?_
  refine lv_iushr (v := (iushr v0_3 8)) hx hb dJ6_bitCount_0f7a4_38 rfl ?_
  refine lv_iadd hx hb dJ6_bitCount_0f7a4_39 ?_
  refine lv_topi (fun v0_4 ev0_4 => ?_)
  have h := bd_e h v0_4 ev0_4
  refine lv_istore_n (lv' := [(0, .int v0_4)]) hx hb dJ6_bitCount_0f7a4_40 rfl hl (by decide) rfl (fun ls hl => ?_)
  refine lv_iload_n hx hb dJ6_bitCount_0f7a4_41 rfl (lv_at hl 0 rfl) ?_
  refine lv_iload_n hx hb dJ6_bitCount_0f7a4_42 rfl (lv_at hl 0 rfl) ?_
  refine lv_bipush (v := 16) hx hb dJ6_bitCount_0f7a4_43 (by decide) ?_
  refine lv_iushr (v := (iushr v0_4 16)) hx hb dJ6_bitCount_0f7a4_45 rfl ?_
  refine lv_iadd hx hb dJ6_bitCount_0f7a4_46 ?_
  refine lv_topi (fun v0_5 ev0_5 => ?_)
  have h := bd_e h v0_5 ev0_5
  refine lv_istore_n (lv' := [(0, .int v0_5)]) hx hb dJ6_bitCount_0f7a4_47 rfl hl (by decide) rfl (fun ls hl => ?_)
  refine lv_iload_n hx hb dJ6_bitCount_0f7a4_48 rfl (lv_at hl 0 rfl) ?_
  refine lv_bipush (v := 63) hx hb dJ6_bitCount_0f7a4_49 (by decide) ?_
  refine lv_iand hx hb dJ6_bitCount_0f7a4_51 ?_
  obtain rfl := Option.some.inj h
  exact n_iret hC hN dJ6_bitCount_0f7a4_52
set_option maxHeartbeats 4000000 in
set_option maxRecDepth 100000 in
theorem tX3_linkTotal (l : Launch) (E : EV) (adc : Nat → Nat) (c_switches : Int32) (c_hosts : Int32) (c_renewing : Int32) (c_priorities : Nat → Int32) (c_names : Nat → Int32) (c_wants : Nat → Int32) (c_blocks : Nat → Int32) (c_upTo : Nat → Int32) (c_clashedTo : Nat → Int32) (c_zoneSets : Nat → Int32) (c_places : Nat → Int32) (c_notices : Nat → Int32) (c_news : Nat → Int32) (p1 : Int32) (z : Int32) (h : fX3_linkTotal c_switches c_upTo c_clashedTo p1 = some z) : Cn l E yX3_linkTotal cX3_linkTotal 4 (some .int) 1 20 [.ref (adc 0), .int p1] (wX3 E adc c_switches c_hosts c_renewing c_priorities c_names c_wants c_blocks c_upTo c_clashedTo c_zoneSets c_places c_notices c_news) (wX3 E adc c_switches c_hosts c_renewing c_priorities c_names c_wants c_blocks c_upTo c_clashedTo c_zoneSets c_places c_notices c_news) (some (.int z)) := by
  refine Cn.ofW (by decide +kernel) (Nat.le_of_ble_eq_true rfl) ?_
  intro p e s m args below meth c ls hC hN hl
  obtain ⟨z0, hz0⟩ : ∃ y, y = z := ⟨_, rfl⟩
  rw [← hz0] at h ⊢
  clear hz0
  have hl : lv_has ls 4 [(0, .ref (adc 0)), (1, .int p1)] := hl
  have hx := hC.1
  have hb := hC.2.1
  unfold fX3_linkTotal at h
  refine lv_iconst (v := 0) hx hb dX3_linkTotal_0 rfl ?_
  refine lv_istore_n (lv' := [(2, .int 0), (0, .ref (adc 0)), (1, .int p1)]) hx hb dX3_linkTotal_1 rfl hl (by decide) rfl (fun ls hl => ?_)
  refine lv_iconst (v := 0) hx hb dX3_linkTotal_2 rfl ?_
  refine lv_istore_n (lv' := [(3, .int 0), (2, .int 0), (0, .ref (adc 0)), (1, .int p1)]) hx hb dX3_linkTotal_3 rfl hl (by decide) rfl (fun ls hl => ?_)
  have L1 : ∀ (fu : Nat) (v2_1 : Int32) (v3_2 : Int32) (z : Int32 × Int32) (H : Heap) (locs : List Loc) (ls : Array Slot), Nw E s (AD (wX3 E adc c_switches c_hosts c_renewing c_priorities c_names c_wants c_blocks c_upTo c_clashedTo c_zoneSets c_places c_notices c_news)) (wX3 E adc c_switches c_hosts c_renewing c_priorities c_names c_wants c_blocks c_upTo c_clashedTo c_zoneSets c_places c_notices c_news) H locs → lv_has ls 4 [(0, .ref (adc 0)), (1, .int p1), (2, .int v2_1), (3, .int v3_2)] → fX3_linkTotal_L1 c_switches c_upTo c_clashedTo p1 fu v2_1 v3_2 = some z → (∀ (H : Heap) (locs : List Loc) (ls : Array Slot), Nw E s (AD (wX3 E adc c_switches c_hosts c_renewing c_priorities c_names c_wants c_blocks c_upTo c_clashedTo c_zoneSets c_places c_notices c_news)) (wX3 E adc c_switches c_hosts c_renewing c_priorities c_names c_wants c_blocks c_upTo c_clashedTo c_zoneSets c_places c_notices c_news) H locs → lv_has ls 4 [(0, .ref (adc 0)), (1, .int p1), (2, .int z.1), (3, .int z.2)] → WN p l e 1 20 s m args below meth c E (wX3 E adc c_switches c_hosts c_renewing c_priorities c_names c_wants c_blocks c_upTo c_clashedTo c_zoneSets c_places c_notices c_news) (some (.int z0)) (wX3 E adc c_switches c_hosts c_renewing c_priorities c_names c_wants c_blocks c_upTo c_clashedTo c_zoneSets c_places c_notices c_news) H locs (F0 m 44 ls [])) → WN p l e 1 20 s m args below meth c E (wX3 E adc c_switches c_hosts c_renewing c_priorities c_names c_wants c_blocks c_upTo c_clashedTo c_zoneSets c_places c_notices c_news) (some (.int z0)) (wX3 E adc c_switches c_hosts c_renewing c_priorities c_names c_wants c_blocks c_upTo c_clashedTo c_zoneSets c_places c_notices c_news) H locs (F0 m 4 ls []) := by
    intro fu
    induction fu with
    | zero =>
      intro v2_1 v3_2 z H locs ls hN hl h K
      cases (show (none : Option (Int32 × Int32)) = some z from h)
    | succ fu ih =>
      intro v2_1 v3_2 z H locs ls hN hl h K
      rw [fX3_linkTotal_L1.eq_2] at h
      refine lv_iload_n hx hb dX3_linkTotal_4 rfl (lv_at hl 3 rfl) ?_
      refine lv_aload_n hx hb dX3_linkTotal_5 rfl (lv_at hl 0 rfl) ?_
      refine gt_X3_switches hC hN 0 rfl rfl dX3_linkTotal_6 ?_
      refine lv_icmp_ge (tgt := 44) hx hb dX3_linkTotal_9 (by decide) (fun c3 => ?_) (fun c3 => ?_)
      · have h := if_t h c3
        obtain rfl := Option.some.inj h
        exact K _ _ _ hN (lv_sub hl [0, 1, 2, 3] rfl)
      · have h := if_f h c3
        refine lv_iload_n hx hb dX3_linkTotal_12 rfl (lv_at hl 2 rfl) ?_
        refine lv_iload_n hx hb dX3_linkTotal_13 rfl (lv_at hl 1 rfl) ?_
        refine lv_iconst (v := 1) hx hb dX3_linkTotal_14 rfl ?_
        refine lv_icmp_ne (tgt := 27) hx hb dX3_linkTotal_15 (by decide) (fun c4 => ?_) (fun c4 => ?_)
        · have h := if_f h c4
          refine lv_aload_n hx hb dX3_linkTotal_27 rfl (lv_at hl 0 rfl) ?_
          refine gt_X3_clashedTo hC hN 0 rfl rfl dX3_linkTotal_28 ?_
          refine lv_iload_n hx hb dX3_linkTotal_31 rfl (lv_at hl 3 rfl) ?_
          have g := inB_vp (gd_c h)
          have h := gd_e h
          refine n_iald hC hN 6 rfl g dX3_linkTotal_32 ?_
          obtain ⟨r_5, hr_5, h⟩ := bi_e h
          refine n_callSi (ws' := wX3 E adc c_switches c_hosts c_renewing c_priorities c_names c_wants c_blocks c_upTo c_clashedTo c_zoneSets c_places c_notices c_news) hC hN (tJ6_bitCount_0f7a4 l E (c_clashedTo v3_2.toNatClampNeg) r_5 hr_5) cy_J6_bitCount_0f7a4 mML_X3_79 mST_J6_bitCount_0f7a4 (perm_nil _) (perm_nil _) rfl rfl hl.1 rfl (Nat.le_of_ble_eq_true rfl) dX3_linkTotal_33 ⟨Nat.le_of_ble_eq_true rfl, Nat.le_of_ble_eq_true rfl⟩ ⟨Nat.le_refl _, Nat.le_refl _⟩ (fun H locs hN => ?_)
          refine lv_iadd hx hb dX3_linkTotal_36 ?_
          refine lv_topi (fun v2_6 ev2_6 => ?_)
          have h := bd_e h v2_6 ev2_6
          refine lv_istore_n (lv' := [(2, .int v2_6), (0, .ref (adc 0)), (1, .int p1), (3, .int v3_2)]) hx hb dX3_linkTotal_37 rfl hl (by decide) rfl (fun ls hl => ?_)
          obtain ⟨v3_7, ev3_7⟩ : ∃ y : Int32, y = v3_2 + 1 := ⟨_, rfl⟩
          have h := bd_e h v3_7 ev3_7
          refine lv_iinc (v := v3_7) (lv' := [(3, .int v3_7), (2, .int v2_6), (0, .ref (adc 0)), (1, .int p1)]) hx hb dX3_linkTotal_38 hl (k := 3) rfl (by rw [ev3_7]; rfl) (by decide) rfl (fun ls hl => ?_)
          refine lv_goto (tgt := 4) hx hb dX3_linkTotal_41 (by decide) ?_
          exact ih v2_6 v3_7 z _ _ _ hN (lv_sub hl [2, 3, 1, 0] rfl) h K
        · have h := if_t h c4
          refine lv_aload_n hx hb dX3_linkTotal_18 rfl (lv_at hl 0 rfl) ?_
          refine gt_X3_upTo hC hN 0 rfl rfl dX3_linkTotal_19 ?_
          refine lv_iload_n hx hb dX3_linkTotal_22 rfl (lv_at hl 3 rfl) ?_
          have g := inB_vp (gd_c h)
          have h := gd_e h
          refine n_iald hC hN 5 rfl g dX3_linkTotal_23 ?_
          refine lv_goto (tgt := 33) hx hb dX3_linkTotal_24 (by decide) ?_
          obtain ⟨r_8, hr_8, h⟩ := bi_e h
          refine n_callSi (ws' := wX3 E adc c_switches c_hosts c_renewing c_priorities c_names c_wants c_blocks c_upTo c_clashedTo c_zoneSets c_places c_notices c_news) hC hN (tJ6_bitCount_0f7a4 l E (c_upTo v3_2.toNatClampNeg) r_8 hr_8) cy_J6_bitCount_0f7a4 mML_X3_79 mST_J6_bitCount_0f7a4 (perm_nil _) (perm_nil _) rfl rfl hl.1 rfl (Nat.le_of_ble_eq_true rfl) dX3_linkTotal_33 ⟨Nat.le_of_ble_eq_true rfl, Nat.le_of_ble_eq_true rfl⟩ ⟨Nat.le_refl _, Nat.le_refl _⟩ (fun H locs hN => ?_)
          refine lv_iadd hx hb dX3_linkTotal_36 ?_
          refine lv_topi (fun v2_9 ev2_9 => ?_)
          have h := bd_e h v2_9 ev2_9
          refine lv_istore_n (lv' := [(2, .int v2_9), (0, .ref (adc 0)), (1, .int p1), (3, .int v3_2)]) hx hb dX3_linkTotal_37 rfl hl (by decide) rfl (fun ls hl => ?_)
          obtain ⟨v3_10, ev3_10⟩ : ∃ y : Int32, y = v3_2 + 1 := ⟨_, rfl⟩
          have h := bd_e h v3_10 ev3_10
          refine lv_iinc (v := v3_10) (lv' := [(3, .int v3_10), (2, .int v2_9), (0, .ref (adc 0)), (1, .int p1)]) hx hb dX3_linkTotal_38 hl (k := 3) rfl (by rw [ev3_10]; rfl) (by decide) rfl (fun ls hl => ?_)
          refine lv_goto (tgt := 4) hx hb dX3_linkTotal_41 (by decide) ?_
          exact ih v2_9 v3_10 z _ _ _ hN (lv_sub hl [2, 3, 1, 0] rfl) h K
  obtain ⟨z_11, hz_11, h⟩ := bi_e h
  refine L1 500 0 0 z_11 _ _ _ hN (lv_sub hl [2, 3, 1, 0] rfl) hz_11 (fun H locs ls hN hl => ?_)
  refine lv_iload_n hx hb dX3_linkTotal_44 rfl (lv_at hl 2 rfl) ?_
  refine lv_iconst (v := 2) hx hb dX3_linkTotal_45 rfl ?_
  refine lv_idiv hx hb dX3_linkTotal_46 (by decide) ?_
  obtain rfl := Option.some.inj h
  exact n_iret hC hN dX3_linkTotal_47
set_option maxHeartbeats 4000000 in
set_option maxRecDepth 100000 in
theorem tX3_spread (l : Launch) (E : EV) (adc : Nat → Nat) (c_switches : Int32) (c_hosts : Int32) (c_renewing : Int32) (c_priorities : Nat → Int32) (c_names : Nat → Int32) (c_wants : Nat → Int32) (c_blocks : Nat → Int32) (c_upTo : Nat → Int32) (c_clashedTo : Nat → Int32) (c_zoneSets : Nat → Int32) (c_places : Nat → Int32) (c_notices : Nat → Int32) (c_news : Nat → Int32) (p1 : Int32) (z : Int32) (h : fX3_spread c_switches c_upTo p1 = some z) : Cn l E yX3_spread cX3_spread 4 (some .int) 1 21 [.ref (adc 0), .int p1] (wX3 E adc c_switches c_hosts c_renewing c_priorities c_names c_wants c_blocks c_upTo c_clashedTo c_zoneSets c_places c_notices c_news) (wX3 E adc c_switches c_hosts c_renewing c_priorities c_names c_wants c_blocks c_upTo c_clashedTo c_zoneSets c_places c_notices c_news) (some (.int z)) := by
  refine Cn.ofW (by decide +kernel) (Nat.le_of_ble_eq_true rfl) ?_
  intro p e s m args below meth c ls hC hN hl
  obtain ⟨z0, hz0⟩ : ∃ y, y = z := ⟨_, rfl⟩
  rw [← hz0] at h ⊢
  clear hz0
  have hl : lv_has ls 4 [(0, .ref (adc 0)), (1, .int p1)] := hl
  have hx := hC.1
  have hb := hC.2.1
  unfold fX3_spread at h
  refine lv_iload_n hx hb dX3_spread_0 rfl (lv_at hl 1 rfl) ?_
  refine lv_istore_n (lv' := [(2, .int p1), (0, .ref (adc 0)), (1, .int p1)]) hx hb dX3_spread_1 rfl hl (by decide) rfl (fun ls hl => ?_)
  refine lv_iconst (v := 0) hx hb dX3_spread_2 rfl ?_
  refine lv_istore_n (lv' := [(3, .int 0), (2, .int p1), (0, .ref (adc 0)), (1, .int p1)]) hx hb dX3_spread_3 rfl hl (by decide) rfl (fun ls hl => ?_)
  have L1 : ∀ (fu : Nat) (v2_1 : Int32) (v3_2 : Int32) (z : Int32 × Int32) (H : Heap) (locs : List Loc) (ls : Array Slot), Nw E s (AD (wX3 E adc c_switches c_hosts c_renewing c_priorities c_names c_wants c_blocks c_upTo c_clashedTo c_zoneSets c_places c_notices c_news)) (wX3 E adc c_switches c_hosts c_renewing c_priorities c_names c_wants c_blocks c_upTo c_clashedTo c_zoneSets c_places c_notices c_news) H locs → lv_has ls 4 [(0, .ref (adc 0)), (1, .int p1), (2, .int v2_1), (3, .int v3_2)] → fX3_spread_L1 c_switches c_upTo p1 fu v2_1 v3_2 = some z → (∀ (H : Heap) (locs : List Loc) (ls : Array Slot), Nw E s (AD (wX3 E adc c_switches c_hosts c_renewing c_priorities c_names c_wants c_blocks c_upTo c_clashedTo c_zoneSets c_places c_notices c_news)) (wX3 E adc c_switches c_hosts c_renewing c_priorities c_names c_wants c_blocks c_upTo c_clashedTo c_zoneSets c_places c_notices c_news) H locs → lv_has ls 4 [(0, .ref (adc 0)), (1, .int p1), (2, .int z.1), (3, .int z.2)] → WN p l e 1 21 s m args below meth c E (wX3 E adc c_switches c_hosts c_renewing c_priorities c_names c_wants c_blocks c_upTo c_clashedTo c_zoneSets c_places c_notices c_news) (some (.int z0)) (wX3 E adc c_switches c_hosts c_renewing c_priorities c_names c_wants c_blocks c_upTo c_clashedTo c_zoneSets c_places c_notices c_news) H locs (F0 m 35 ls [])) → WN p l e 1 21 s m args below meth c E (wX3 E adc c_switches c_hosts c_renewing c_priorities c_names c_wants c_blocks c_upTo c_clashedTo c_zoneSets c_places c_notices c_news) (some (.int z0)) (wX3 E adc c_switches c_hosts c_renewing c_priorities c_names c_wants c_blocks c_upTo c_clashedTo c_zoneSets c_places c_notices c_news) H locs (F0 m 4 ls []) := by
    intro fu
    induction fu with
    | zero =>
      intro v2_1 v3_2 z H locs ls hN hl h K
      cases (show (none : Option (Int32 × Int32)) = some z from h)
    | succ fu ih =>
      intro v2_1 v3_2 z H locs ls hN hl h K
      rw [fX3_spread_L1.eq_2] at h
      refine lv_iload_n hx hb dX3_spread_4 rfl (lv_at hl 3 rfl) ?_
      refine lv_aload_n hx hb dX3_spread_5 rfl (lv_at hl 0 rfl) ?_
      refine gt_X3_switches hC hN 0 rfl rfl dX3_spread_6 ?_
      refine lv_icmp_ge (tgt := 35) hx hb dX3_spread_9 (by decide) (fun c3 => ?_) (fun c3 => ?_)
      · have h := if_t h c3
        obtain rfl := Option.some.inj h
        exact K _ _ _ hN (lv_sub hl [0, 1, 2, 3] rfl)
      · have h := if_f h c3
        refine lv_iload_n hx hb dX3_spread_12 rfl (lv_at hl 1 rfl) ?_
        refine lv_iload_n hx hb dX3_spread_13 rfl (lv_at hl 3 rfl) ?_
        obtain ⟨r_4, hr_4, h⟩ := bi_e h
        refine n_callSNi (ws' := wX3 E adc c_switches c_hosts c_renewing c_priorities c_names c_wants c_blocks c_upTo c_clashedTo c_zoneSets c_places c_notices c_news) hC hN (tX7_has l E p1 v3_2 r_4 hr_4) cy_X7_has (List.mem_of_getElem? (i := 8) rfl) mST_X7_has (perm_nil _) (perm_nil _) rfl rfl hl.1 rfl (Nat.le_of_ble_eq_true rfl) dX3_spread_14 ⟨Nat.le_of_ble_eq_true rfl, Nat.le_of_ble_eq_true rfl⟩ ⟨Nat.le_refl _, Nat.le_refl _⟩ (fun H locs hN => ?_)
        refine lv_if_eq (tgt := 29) hx hb dX3_spread_17 (by decide) (fun c5 => ?_) (fun c5 => ?_)
        · have h := if_t h c5
          obtain ⟨v3_6, ev3_6⟩ : ∃ y : Int32, y = v3_2 + 1 := ⟨_, rfl⟩
          have h := bd_e h v3_6 ev3_6
          refine lv_iinc (v := v3_6) (lv' := [(3, .int v3_6), (0, .ref (adc 0)), (1, .int p1), (2, .int v2_1)]) hx hb dX3_spread_29 hl (k := 3) rfl (by rw [ev3_6]; rfl) (by decide) rfl (fun ls hl => ?_)
          refine lv_goto (tgt := 4) hx hb dX3_spread_32 (by decide) ?_
          exact ih v2_1 v3_6 z _ _ _ hN (lv_sub hl [1, 2, 3, 0] rfl) h K
        · have h := if_f h c5
          refine lv_iload_n hx hb dX3_spread_20 rfl (lv_at hl 2 rfl) ?_
          refine lv_aload_n hx hb dX3_spread_21 rfl (lv_at hl 0 rfl) ?_
          refine gt_X3_upTo hC hN 0 rfl rfl dX3_spread_22 ?_
          refine lv_iload_n hx hb dX3_spread_25 rfl (lv_at hl 3 rfl) ?_
          have g := inB_vp (gd_c h)
          have h := gd_e h
          refine n_iald hC hN 5 rfl g dX3_spread_26 ?_
          refine lv_ior hx hb dX3_spread_27 ?_
          refine lv_topi (fun v2_7 ev2_7 => ?_)
          have h := bd_e h v2_7 ev2_7
          refine lv_istore_n (lv' := [(2, .int v2_7), (0, .ref (adc 0)), (1, .int p1), (3, .int v3_2)]) hx hb dX3_spread_28 rfl hl (by decide) rfl (fun ls hl => ?_)
          obtain ⟨v3_8, ev3_8⟩ : ∃ y : Int32, y = v3_2 + 1 := ⟨_, rfl⟩
          have h := bd_e h v3_8 ev3_8
          refine lv_iinc (v := v3_8) (lv' := [(3, .int v3_8), (2, .int v2_7), (0, .ref (adc 0)), (1, .int p1)]) hx hb dX3_spread_29 hl (k := 3) rfl (by rw [ev3_8]; rfl) (by decide) rfl (fun ls hl => ?_)
          refine lv_goto (tgt := 4) hx hb dX3_spread_32 (by decide) ?_
          exact ih v2_7 v3_8 z _ _ _ hN (lv_sub hl [2, 3, 1, 0] rfl) h K
  obtain ⟨z_9, hz_9, h⟩ := bi_e h
  refine L1 500 p1 0 z_9 _ _ _ hN (lv_sub hl [2, 3, 1, 0] rfl) hz_9 (fun H locs ls hN hl => ?_)
  refine lv_iload_n hx hb dX3_spread_35 rfl (lv_at hl 2 rfl) ?_
  obtain rfl := Option.some.inj h
  exact n_iret hC hN dX3_spread_36
