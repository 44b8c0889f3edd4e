set_option maxHeartbeats 4000000 in
set_option maxRecDepth 100000 in
theorem tX7_count (l : Launch) (E : EV) (adc : Nat → Nat) (ads : Nat → Nat) (adr : Nat → Nat) (adt : Nat → Nat) (adn : Nat → Nat) (adh : Nat → Nat) (eh : Nat → Nat → Nat) (adb : Nat → Nat) (eb : Nat → Nat → Nat) (adk : Nat → Nat) (adq : Nat → Nat) (s_letters : Nat → Int32) (s_size : Int32) (r_awaited : Int32) (r_priority : Int32) (r_name : Int32) (t_switches : Int32) (t_hosts : Int32) (t_renewing : Int32) (t_priorities : Nat → Int32) (t_names : Nat → Int32) (t_wants : Nat → Int32) (t_blocks : Nat → Int32) (t_upTo : Nat → Int32) (t_clashedTo : Nat → Int32) (t_zoneSets : Nat → Int32) (t_places : Nat → Int32) (t_notices : Nat → Int32) (t_news : Nat → Int32) (n_switches : Int32) (n_hosts : Int32) (n_renewing : Int32) (n_priorities : Nat → Int32) (n_names : Nat → Int32) (n_wants : Nat → Int32) (n_blocks : Nat → Int32) (n_upTo : Nat → Int32) (n_clashedTo : Nat → Int32) (n_zoneSets : Nat → Int32) (n_places : Nat → Int32) (n_notices : Nat → Int32) (n_news : Nat → Int32) (h_nets : Nat → NetT) (h_oldest : Int32) (h_size : Int32) (b_nets : Nat → NetT) (b_kept : Int32) (k_size : Int32) (k_mentioned : Int32) (k_seen : Int64) (k_unseen : Int64) (q_codes : Nat → Int32) (q_views : Nat → Int64) (q_size : Int32) (p1 : Int32) (z : Int32) (h : fX7_count s_size n_switches n_hosts n_renewing n_upTo n_clashedTo n_zoneSets n_places n_notices h_size k_size p1 = some z) : Cn l E yX7_count cX7_count 2 (some .int) 4 99 [.ref (adc 0), .int p1] (cat [wX7 E adc ads adr adn adh adb adk adq, wX5 E ads s_letters s_size, wX4 E adr adt r_awaited r_priority r_name, wX3 E adt t_switches t_hosts t_renewing t_priorities t_names t_wants t_blocks t_upTo t_clashedTo t_zoneSets t_places t_notices t_news, wX3 E adn n_switches n_hosts n_renewing n_priorities n_names n_wants n_blocks n_upTo n_clashedTo n_zoneSets n_places n_notices n_news, wX2 E adh eh h_nets h_oldest h_size, wX0 E adb eb b_nets b_kept, wX1 E adk k_size k_mentioned k_seen k_unseen, wX6 E adq q_codes q_views q_size]) (cat [wX7 E adc ads adr adn adh adb adk adq, wX5 E ads s_letters s_size, wX4 E adr adt r_awaited r_priority r_name, wX3 E adt t_switches t_hosts t_renewing t_priorities t_names t_wants t_blocks t_upTo t_clashedTo t_zoneSets t_places t_notices t_news, wX3 E adn n_switches n_hosts n_renewing n_priorities n_names n_wants n_blocks n_upTo n_clashedTo n_zoneSets n_places n_notices n_news, wX2 E adh eh h_nets h_oldest h_size, wX0 E adb eb b_nets b_kept, wX1 E adk k_size k_mentioned k_seen k_unseen, wX6 E adq q_codes q_views q_size]) (some (.int z)) := by
  refine Cn.ofW (by decide +kernel) (Nat.le_of_ble_eq_true rfl) ?_
  intro p e s m args below meth c ls hC hN hl
  have hl : lv_has ls 2 [(0, .ref (adc 0)), (1, .int p1)] := hl
  have hx := hC.1
  have hb := hC.2.1
  unfold fX7_count at h
  refine lv_iload_n hx hb dX7_count_0 rfl (lv_at hl 1 rfl) ?_
  by_cases s0 : p1 = 0
  · have h := if_t h s0
    refine lv_tableIn (off := 59) (tgt := 60) hx hb dX7_count_1 (by rw [s0]; decide) (by rw [s0]; decide) (by rw [s0]; rfl) (by decide) ?_
    refine lv_aload_n hx hb dX7_count_60 rfl (lv_at hl 0 rfl) ?_
    refine gt_X7_now hC hN 0 rfl rfl dX7_count_61 ?_
    obtain ⟨r_1, hr_1, h⟩ := bi_e h
    refine n_callVi (ws' := cat [wX7 E adc ads adr adn adh adb adk adq, wX5 E ads s_letters s_size, wX4 E adr adt r_awaited r_priority r_name, wX3 E adt t_switches t_hosts t_renewing t_priorities t_names t_wants t_blocks t_upTo t_clashedTo t_zoneSets t_places t_notices t_news, wX3 E adn n_switches n_hosts n_renewing n_priorities n_names n_wants n_blocks n_upTo n_clashedTo n_zoneSets n_places n_notices n_news, wX2 E adh eh h_nets h_oldest h_size, wX0 E adb eb b_nets b_kept, wX1 E adk k_size k_mentioned k_seen k_unseen, wX6 E adq q_codes q_views q_size]) hC hN (tX3_switchTotal l E adn n_switches n_hosts n_renewing n_priorities n_names n_wants n_blocks n_upTo n_clashedTo n_zoneSets n_places n_notices n_news r_1 hr_1) cy_X3_switchTotal mML_X7_90 mIM_X3_switchTotal mSE_X3_switchTotal rfl rfl (k := 0) rfl (cat_perm [wX7 E adc ads adr adn adh adb adk adq, wX5 E ads s_letters s_size, wX4 E adr adt r_awaited r_priority r_name, wX3 E adt t_switches t_hosts t_renewing t_priorities t_names t_wants t_blocks t_upTo t_clashedTo t_zoneSets t_places t_notices t_news, wX3 E adn n_switches n_hosts n_renewing n_priorities n_names n_wants n_blocks n_upTo n_clashedTo n_zoneSets n_places n_notices n_news, wX2 E adh eh h_nets h_oldest h_size, wX0 E adb eb b_nets b_kept, wX1 E adk k_size k_mentioned k_seen k_unseen, wX6 E adq q_codes q_views q_size] 9 rfl [4] [0, 1, 2, 3, 5, 6, 7, 8] (by decide)) (cat_perm [wX7 E adc ads adr adn adh adb adk adq, wX5 E ads s_letters s_size, wX4 E adr adt r_awaited r_priority r_name, wX3 E adt t_switches t_hosts t_renewing t_priorities t_names t_wants t_blocks t_upTo t_clashedTo t_zoneSets t_places t_notices t_news, wX3 E adn n_switches n_hosts n_renewing n_priorities n_names n_wants n_blocks n_upTo n_clashedTo n_zoneSets n_places n_notices n_news, wX2 E adh eh h_nets h_oldest h_size, wX0 E adb eb b_nets b_kept, wX1 E adk k_size k_mentioned k_seen k_unseen, wX6 E adq q_codes q_views q_size] 9 rfl [4] [0, 1, 2, 3, 5, 6, 7, 8] (by decide)) rfl rfl hl.1 rfl (Nat.le_of_ble_eq_true rfl) dX7_count_64 ⟨Nat.le_of_ble_eq_true rfl, Nat.le_of_ble_eq_true rfl⟩ ⟨Nat.le_refl _, Nat.le_refl _⟩ (fun H locs hN => ?_)
    obtain rfl := Option.some.inj h
    exact n_iret hC hN dX7_count_67
  · have h := if_f h s0
    by_cases s1 : p1 = 1
    · have h := if_t h s1
      refine lv_tableIn (off := 67) (tgt := 68) hx hb dX7_count_1 (by rw [s1]; decide) (by rw [s1]; decide) (by rw [s1]; rfl) (by decide) ?_
      refine lv_aload_n hx hb dX7_count_68 rfl (lv_at hl 0 rfl) ?_
      refine gt_X7_now hC hN 0 rfl rfl dX7_count_69 ?_
      obtain ⟨r_2, hr_2, h⟩ := bi_e h
      refine n_callVi (ws' := cat [wX7 E adc ads adr adn adh adb adk adq, wX5 E ads s_letters s_size, wX4 E adr adt r_awaited r_priority r_name, wX3 E adt t_switches t_hosts t_renewing t_priorities t_names t_wants t_blocks t_upTo t_clashedTo t_zoneSets t_places t_notices t_news, wX3 E adn n_switches n_hosts n_renewing n_priorities n_names n_wants n_blocks n_upTo n_clashedTo n_zoneSets n_places n_notices n_news, wX2 E adh eh h_nets h_oldest h_size, wX0 E adb eb b_nets b_kept, wX1 E adk k_size k_mentioned k_seen k_unseen, wX6 E adq q_codes q_views q_size]) hC hN (tX3_hostTotal l E adn n_switches n_hosts n_renewing n_priorities n_names n_wants n_blocks n_upTo n_clashedTo n_zoneSets n_places n_notices n_news r_2 hr_2) cy_X3_hostTotal mML_X7_93 mIM_X3_hostTotal mSE_X3_hostTotal rfl rfl (k := 0) rfl (cat_perm [wX7 E adc ads adr adn adh adb adk adq, wX5 E ads s_letters s_size, wX4 E adr adt r_awaited r_priority r_name, wX3 E adt t_switches t_hosts t_renewing t_priorities t_names t_wants t_blocks t_upTo t_clashedTo t_zoneSets t_places t_notices t_news, wX3 E adn n_switches n_hosts n_renewing n_priorities n_names n_wants n_blocks n_upTo n_clashedTo n_zoneSets n_places n_notices n_news, wX2 E adh eh h_nets h_oldest h_size, wX0 E adb eb b_nets b_kept, wX1 E adk k_size k_mentioned k_seen k_unseen, wX6 E adq q_codes q_views q_size] 9 rfl [4] [0, 1, 2, 3, 5, 6, 7, 8] (by decide)) (cat_perm [wX7 E adc ads adr adn adh adb adk adq, wX5 E ads s_letters s_size, wX4 E adr adt r_awaited r_priority r_name, wX3 E adt t_switches t_hosts t_renewing t_priorities t_names t_wants t_blocks t_upTo t_clashedTo t_zoneSets t_places t_notices t_news, wX3 E adn n_switches n_hosts n_renewing n_priorities n_names n_wants n_blocks n_upTo n_clashedTo n_zoneSets n_places n_notices n_news, wX2 E adh eh h_nets h_oldest h_size, wX0 E adb eb b_nets b_kept, wX1 E adk k_size k_mentioned k_seen k_unseen, wX6 E adq q_codes q_views q_size] 9 rfl [4] [0, 1, 2, 3, 5, 6, 7, 8] (by decide)) rfl rfl hl.1 rfl (Nat.le_of_ble_eq_true rfl) dX7_count_72 ⟨Nat.le_of_ble_eq_true rfl, Nat.le_of_ble_eq_true rfl⟩ ⟨Nat.le_refl _, Nat.le_refl _⟩ (fun H locs hN => ?_)
      obtain rfl := Option.some.inj h
      exact n_iret hC hN dX7_count_75
    · have h := if_f h s1
      by_cases s2 : p1 = 2
      · have h := if_t h s2
        refine lv_tableIn (off := 75) (tgt := 76) hx hb dX7_count_1 (by rw [s2]; decide) (by rw [s2]; decide) (by rw [s2]; rfl) (by decide) ?_
        refine lv_aload_n hx hb dX7_count_76 rfl (lv_at hl 0 rfl) ?_
        refine gt_X7_now hC hN 0 rfl rfl dX7_count_77 ?_
        obtain ⟨r_3, hr_3, h⟩ := bi_e h
        refine n_callVi (ws' := cat [wX7 E adc ads adr adn adh adb adk adq, wX5 E ads s_letters s_size, wX4 E adr adt r_awaited r_priority r_name, wX3 E adt t_switches t_hosts t_renewing t_priorities t_names t_wants t_blocks t_upTo t_clashedTo t_zoneSets t_places t_notices t_news, wX3 E adn n_switches n_hosts n_renewing n_priorities n_names n_wants n_blocks n_upTo n_clashedTo n_zoneSets n_places n_notices n_news, wX2 E adh eh h_nets h_oldest h_size, wX0 E adb eb b_nets b_kept, wX1 E adk k_size k_mentioned k_seen k_unseen, wX6 E adq q_codes q_views q_size]) hC hN (tX3_fabricTotal l E adn n_switches n_hosts n_renewing n_priorities n_names n_wants n_blocks n_upTo n_clashedTo n_zoneSets n_places n_notices n_news r_3 hr_3) cy_X3_fabricTotal mML_X7_121 mIM_X3_fabricTotal mSE_X3_fabricTotal rfl rfl (k := 0) rfl (cat_perm [wX7 E adc ads adr adn adh adb adk adq, wX5 E ads s_letters s_size, wX4 E adr adt r_awaited r_priority r_name, wX3 E adt t_switches t_hosts t_renewing t_priorities t_names t_wants t_blocks t_upTo t_clashedTo t_zoneSets t_places t_notices t_news, wX3 E adn n_switches n_hosts n_renewing n_priorities n_names n_wants n_blocks n_upTo n_clashedTo n_zoneSets n_places n_notices n_news, wX2 E adh eh h_nets h_oldest h_size, wX0 E adb eb b_nets b_kept, wX1 E adk k_size k_mentioned k_seen k_unseen, wX6 E adq q_codes q_views q_size] 9 rfl [4] [0, 1, 2, 3, 5, 6, 7, 8] (by decide)) (cat_perm [wX7 E adc ads adr adn adh adb adk adq, wX5 E ads s_letters s_size, wX4 E adr adt r_awaited r_priority r_name, wX3 E adt t_switches t_hosts t_renewing t_priorities t_names t_wants t_blocks t_upTo t_clashedTo t_zoneSets t_places t_notices t_news, wX3 E adn n_switches n_hosts n_renewing n_priorities n_names n_wants n_blocks n_upTo n_clashedTo n_zoneSets n_places n_notices n_news, wX2 E adh eh h_nets h_oldest h_size, wX0 E adb eb b_nets b_kept, wX1 E adk k_size k_mentioned k_seen k_unseen, wX6 E adq q_codes q_views q_size] 9 rfl [4] [0, 1, 2, 3, 5, 6, 7, 8] (by decide)) rfl rfl hl.1 rfl (Nat.le_of_ble_eq_true rfl) dX7_count_80 ⟨Nat.le_of_ble_eq_true rfl, Nat.le_of_ble_eq_true rfl⟩ ⟨Nat.le_refl _, Nat.le_refl _⟩ (fun H locs hN => ?_)
        obtain rfl := Option.some.inj h
        exact n_iret hC hN dX7_count_83
      · have h := if_f h s2
        by_cases s3 : p1 = 3
        · have h := if_t h s3
          refine lv_tableIn (off := 83) (tgt := 84) hx hb dX7_count_1 (by rw [s3]; decide) (by rw [s3]; decide) (by rw [s3]; rfl) (by decide) ?_
          refine lv_aload_n hx hb dX7_count_84 rfl (lv_at hl 0 rfl) ?_
          refine gt_X7_now hC hN 0 rfl rfl dX7_count_85 ?_
          refine lv_iconst (v := 1) hx hb dX7_count_88 rfl ?_
          obtain ⟨r_4, hr_4, h⟩ := bi_e h
          refine n_callVi (ws' := cat [wX7 E adc ads adr adn adh adb adk adq, wX5 E ads s_letters s_size, wX4 E adr adt r_awaited r_priority r_name, wX3 E adt t_switches t_hosts t_renewing t_priorities t_names t_wants t_blocks t_upTo t_clashedTo t_zoneSets t_places t_notices t_news, wX3 E adn n_switches n_hosts n_renewing n_priorities n_names n_wants n_blocks n_upTo n_clashedTo n_zoneSets n_places n_notices n_news, wX2 E adh eh h_nets h_oldest h_size, wX0 E adb eb b_nets b_kept, wX1 E adk k_size k_mentioned k_seen k_unseen, wX6 E adq q_codes q_views q_size]) hC hN (tX3_linkTotal l E adn n_switches n_hosts n_renewing n_priorities n_names n_wants n_blocks n_upTo n_clashedTo n_zoneSets n_places n_notices n_news 1 r_4 hr_4) cy_X3_linkTotal mML_X7_241 mIM_X3_linkTotal mSE_X3_linkTotal rfl rfl (k := 0) rfl (cat_perm [wX7 E adc ads adr adn adh adb adk adq, wX5 E ads s_letters s_size, wX4 E adr adt r_awaited r_priority r_name, wX3 E adt t_switches t_hosts t_renewing t_priorities t_names t_wants t_blocks t_upTo t_clashedTo t_zoneSets t_places t_notices t_news, wX3 E adn n_switches n_hosts n_renewing n_priorities n_names n_wants n_blocks n_upTo n_clashedTo n_zoneSets n_places n_notices n_news, wX2 E adh eh h_nets h_oldest h_size, wX0 E adb eb b_nets b_kept, wX1 E adk k_size k_mentioned k_seen k_unseen, wX6 E adq q_codes q_views q_size] 9 rfl [4] [0, 1, 2, 3, 5, 6, 7, 8] (by decide)) (cat_perm [wX7 E adc ads adr adn adh adb adk adq, wX5 E ads s_letters s_size, wX4 E adr adt r_awaited r_priority r_name, wX3 E adt t_switches t_hosts t_renewing t_priorities t_names t_wants t_blocks t_upTo t_clashedTo t_zoneSets t_places t_notices t_news, wX3 E adn n_switches n_hosts n_renewing n_priorities n_names n_wants n_blocks n_upTo n_clashedTo n_zoneSets n_places n_notices n_news, wX2 E adh eh h_nets h_oldest h_size, wX0 E adb eb b_nets b_kept, wX1 E adk k_size k_mentioned k_seen k_unseen, wX6 E adq q_codes q_views q_size] 9 rfl [4] [0, 1, 2, 3, 5, 6, 7, 8] (by decide)) rfl rfl hl.1 rfl (Nat.le_of_ble_eq_true rfl) dX7_count_89 ⟨Nat.le_of_ble_eq_true rfl, Nat.le_of_ble_eq_true rfl⟩ ⟨Nat.le_refl _, Nat.le_refl _⟩ (fun H locs hN => ?_)
          obtain rfl := Option.some.inj h
          exact n_iret hC hN dX7_count_92
        · have h := if_f h s3
          by_cases s4 : p1 = 4
          · have h := if_t h s4
            refine lv_tableIn (off := 92) (tgt := 93) hx hb dX7_count_1 (by rw [s4]; decide) (by rw [s4]; decide) (by rw [s4]; rfl) (by decide) ?_
            refine lv_aload_n hx hb dX7_count_93 rfl (lv_at hl 0 rfl) ?_
            refine gt_X7_now hC hN 0 rfl rfl dX7_count_94 ?_
            refine lv_iconst (v := 2) hx hb dX7_count_97 rfl ?_
            obtain ⟨r_5, hr_5, h⟩ := bi_e h
            refine n_callVi (ws' := cat [wX7 E adc ads adr adn adh adb adk adq, wX5 E ads s_letters s_size, wX4 E adr adt r_awaited r_priority r_name, wX3 E adt t_switches t_hosts t_renewing t_priorities t_names t_wants t_blocks t_upTo t_clashedTo t_zoneSets t_places t_notices t_news, wX3 E adn n_switches n_hosts n_renewing n_priorities n_names n_wants n_blocks n_upTo n_clashedTo n_zoneSets n_places n_notices n_news, wX2 E adh eh h_nets h_oldest h_size, wX0 E adb eb b_nets b_kept, wX1 E adk k_size k_mentioned k_seen k_unseen, wX6 E adq q_codes q_views q_size]) hC hN (tX3_linkTotal l E adn n_switches n_hosts n_renewing n_priorities n_names n_wants n_blocks n_upTo n_clashedTo n_zoneSets n_places n_notices n_news 2 r_5 hr_5) cy_X3_linkTotal mML_X7_241 mIM_X3_linkTotal mSE_X3_linkTotal rfl rfl (k := 0) rfl (cat_perm [wX7 E adc ads adr adn adh adb adk adq, wX5 E ads s_letters s_size, wX4 E adr adt r_awaited r_priority r_name, wX3 E adt t_switches t_hosts t_renewing t_priorities t_names t_wants t_blocks t_upTo t_clashedTo t_zoneSets t_places t_notices t_news, wX3 E adn n_switches n_hosts n_renewing n_priorities n_names n_wants n_blocks n_upTo n_clashedTo n_zoneSets n_places n_notices n_news, wX2 E adh eh h_nets h_oldest h_size, wX0 E adb eb b_nets b_kept, wX1 E adk k_size k_mentioned k_seen k_unseen, wX6 E adq q_codes q_views q_size] 9 rfl [4] [0, 1, 2, 3, 5, 6, 7, 8] (by decide)) (cat_perm [wX7 E adc ads adr adn adh adb adk adq, wX5 E ads s_letters s_size, wX4 E adr adt r_awaited r_priority r_name, wX3 E adt t_switches t_hosts t_renewing t_priorities t_names t_wants t_blocks t_upTo t_clashedTo t_zoneSets t_places t_notices t_news, wX3 E adn n_switches n_hosts n_renewing n_priorities n_names n_wants n_blocks n_upTo n_clashedTo n_zoneSets n_places n_notices n_news, wX2 E adh eh h_nets h_oldest h_size, wX0 E adb eb b_nets b_kept, wX1 E adk k_size k_mentioned k_seen k_unseen, wX6 E adq q_codes q_views q_size] 9 rfl [4] [0, 1, 2, 3, 5, 6, 7, 8] (by decide)) rfl rfl hl.1 rfl (Nat.le_of_ble_eq_true rfl) dX7_count_98 ⟨Nat.le_of_ble_eq_true rfl, Nat.le_of_ble_eq_true rfl⟩ ⟨Nat.le_refl _, Nat.le_refl _⟩ (fun H locs hN => ?_)
            obtain rfl := Option.some.inj h
            exact n_iret hC hN dX7_count_101
          · have h := if_f h s4
            by_cases s5 : p1 = 5
            · have h := if_t h s5
              refine lv_tableIn (off := 101) (tgt := 102) hx hb dX7_count_1 (by rw [s5]; decide) (by rw [s5]; decide) (by rw [s5]; rfl) (by decide) ?_
              refine lv_aload_n hx hb dX7_count_102 rfl (lv_at hl 0 rfl) ?_
              refine gt_X7_now hC hN 0 rfl rfl dX7_count_103 ?_
              obtain ⟨r_6, hr_6, h⟩ := bi_e h
              refine n_callVi (ws' := cat [wX7 E adc ads adr adn adh adb adk adq, wX5 E ads s_letters s_size, wX4 E adr adt r_awaited r_priority r_name, wX3 E adt t_switches t_hosts t_renewing t_priorities t_names t_wants t_blocks t_upTo t_clashedTo t_zoneSets t_places t_notices t_news, wX3 E adn n_switches n_hosts n_renewing n_priorities n_names n_wants n_blocks n_upTo n_clashedTo n_zoneSets n_places n_notices n_news, wX2 E adh eh h_nets h_oldest h_size, wX0 E adb eb b_nets b_kept, wX1 E adk k_size k_mentioned k_seen k_unseen, wX6 E adq q_codes q_views q_size]) hC hN (tX3_isRenewing l E adn n_switches n_hosts n_renewing n_priorities n_names n_wants n_blocks n_upTo n_clashedTo n_zoneSets n_places n_notices n_news r_6 hr_6) cy_X3_isRenewing mML_X7_159 mIM_X3_isRenewing mSE_X3_isRenewing rfl rfl (k := 0) rfl (cat_perm [wX7 E adc ads adr adn adh adb adk adq, wX5 E ads s_letters s_size, wX4 E adr adt r_awaited r_priority r_name, wX3 E adt t_switches t_hosts t_renewing t_priorities t_names t_wants t_blocks t_upTo t_clashedTo t_zoneSets t_places t_notices t_news, wX3 E adn n_switches n_hosts n_renewing n_priorities n_names n_wants n_blocks n_upTo n_clashedTo n_zoneSets n_places n_notices n_news, wX2 E adh eh h_nets h_oldest h_size, wX0 E adb eb b_nets b_kept, wX1 E adk k_size k_mentioned k_seen k_unseen, wX6 E adq q_codes q_views q_size] 9 rfl [4] [0, 1, 2, 3, 5, 6, 7, 8] (by decide)) (cat_perm [wX7 E adc ads adr adn adh adb adk adq, wX5 E ads s_letters s_size, wX4 E adr adt r_awaited r_priority r_name, wX3 E adt t_switches t_hosts t_renewing t_priorities t_names t_wants t_blocks t_upTo t_clashedTo t_zoneSets t_places t_notices t_news, wX3 E adn n_switches n_hosts n_renewing n_priorities n_names n_wants n_blocks n_upTo n_clashedTo n_zoneSets n_places n_notices n_news, wX2 E adh eh h_nets h_oldest h_size, wX0 E adb eb b_nets b_kept, wX1 E adk k_size k_mentioned k_seen k_unseen, wX6 E adq q_codes q_views q_size] 9 rfl [4] [0, 1, 2, 3, 5, 6, 7, 8] (by decide)) rfl rfl hl.1 rfl (Nat.le_of_ble_eq_true rfl) dX7_count_106 ⟨Nat.le_of_ble_eq_true rfl, Nat.le_of_ble_eq_true rfl⟩ ⟨Nat.le_refl _, Nat.le_refl _⟩ (fun H locs hN => ?_)
              refine lv_if_eq (tgt := 116) hx hb dX7_count_109 (by decide) (fun c7 => ?_) (fun c7 => ?_)
              · have h := if_t h c7
                refine lv_iconst (v := 0) hx hb dX7_count_116 rfl ?_
                obtain rfl := Option.some.inj h
                exact n_iret hC hN dX7_count_117
              · have h := if_f h c7
                refine lv_iconst (v := 1) hx hb dX7_count_112 rfl ?_
                refine lv_goto (tgt := 117) hx hb dX7_count_113 (by decide) ?_
                obtain rfl := Option.some.inj h
                exact n_iret hC hN dX7_count_117
            · have h := if_f h s5
              by_cases s6 : p1 = 6
              · have h := if_t h s6
                refine lv_tableIn (off := 117) (tgt := 118) hx hb dX7_count_1 (by rw [s6]; decide) (by rw [s6]; decide) (by rw [s6]; rfl) (by decide) ?_
                refine lv_aload_n hx hb dX7_count_118 rfl (lv_at hl 0 rfl) ?_
                refine gt_X7_now hC hN 0 rfl rfl dX7_count_119 ?_
                obtain ⟨r_8, hr_8, h⟩ := bi_e h
                refine n_callVi (ws' := cat [wX7 E adc ads adr adn adh adb adk adq, wX5 E ads s_letters s_size, wX4 E adr adt r_awaited r_priority r_name, wX3 E adt t_switches t_hosts t_renewing t_priorities t_names t_wants t_blocks t_upTo t_clashedTo t_zoneSets t_places t_notices t_news, wX3 E adn n_switches n_hosts n_renewing n_priorities n_names n_wants n_blocks n_upTo n_clashedTo n_zoneSets n_places n_notices n_news, wX2 E adh eh h_nets h_oldest h_size, wX0 E adb eb b_nets b_kept, wX1 E adk k_size k_mentioned k_seen k_unseen, wX6 E adq q_codes q_views q_size]) hC hN (tX3_noticeTotal l E adn n_switches n_hosts n_renewing n_priorities n_names n_wants n_blocks n_upTo n_clashedTo n_zoneSets n_places n_notices n_news r_8 hr_8) cy_X3_noticeTotal mML_X7_244 mIM_X3_noticeTotal mSE_X3_noticeTotal rfl rfl (k := 0) rfl (cat_perm [wX7 E adc ads adr adn adh adb adk adq, wX5 E ads s_letters s_size, wX4 E adr adt r_awaited r_priority r_name, wX3 E adt t_switches t_hosts t_renewing t_priorities t_names t_wants t_blocks t_upTo t_clashedTo t_zoneSets t_places t_notices t_news, wX3 E adn n_switches n_hosts n_renewing n_priorities n_names n_wants n_blocks n_upTo n_clashedTo n_zoneSets n_places n_notices n_news, wX2 E adh eh h_nets h_oldest h_size, wX0 E adb eb b_nets b_kept, wX1 E adk k_size k_mentioned k_seen k_unseen, wX6 E adq q_codes q_views q_size] 9 rfl [4] [0, 1, 2, 3, 5, 6, 7, 8] (by decide)) (cat_perm [wX7 E adc ads adr adn adh adb adk adq, wX5 E ads s_letters s_size, wX4 E adr adt r_awaited r_priority r_name, wX3 E adt t_switches t_hosts t_renewing t_priorities t_names t_wants t_blocks t_upTo t_clashedTo t_zoneSets t_places t_notices t_news, wX3 E adn n_switches n_hosts n_renewing n_priorities n_names n_wants n_blocks n_upTo n_clashedTo n_zoneSets n_places n_notices n_news, wX2 E adh eh h_nets h_oldest h_size, wX0 E adb eb b_nets b_kept, wX1 E adk k_size k_mentioned k_seen k_unseen, wX6 E adq q_codes q_views q_size] 9 rfl [4] [0, 1, 2, 3, 5, 6, 7, 8] (by decide)) rfl rfl hl.1 rfl (Nat.le_of_ble_eq_true rfl) dX7_count_122 ⟨Nat.le_of_ble_eq_true rfl, Nat.le_of_ble_eq_true rfl⟩ ⟨Nat.le_refl _, Nat.le_refl _⟩ (fun H locs hN => ?_)
                obtain rfl := Option.some.inj h
                exact n_iret hC hN dX7_count_125
              · have h := if_f h s6
                by_cases s7 : p1 = 7
                · have h := if_t h s7
                  refine lv_tableIn (off := 125) (tgt := 126) hx hb dX7_count_1 (by rw [s7]; decide) (by rw [s7]; decide) (by rw [s7]; rfl) (by decide) ?_
                  refine lv_aload_n hx hb dX7_count_126 rfl (lv_at hl 0 rfl) ?_
                  refine gt_X7_now hC hN 0 rfl rfl dX7_count_127 ?_
                  obtain ⟨r_9, hr_9, h⟩ := bi_e h
                  refine n_callVl (ws' := cat [wX7 E adc ads adr adn adh adb adk adq, wX5 E ads s_letters s_size, wX4 E adr adt r_awaited r_priority r_name, wX3 E adt t_switches t_hosts t_renewing t_priorities t_names t_wants t_blocks t_upTo t_clashedTo t_zoneSets t_places t_notices t_news, wX3 E adn n_switches n_hosts n_renewing n_priorities n_names n_wants n_blocks n_upTo n_clashedTo n_zoneSets n_places n_notices n_news, wX2 E adh eh h_nets h_oldest h_size, wX0 E adb eb b_nets b_kept, wX1 E adk k_size k_mentioned k_seen k_unseen, wX6 E adq q_codes q_views q_size]) hC hN (tX3_view l E adn n_switches n_hosts n_renewing n_priorities n_names n_wants n_blocks n_upTo n_clashedTo n_zoneSets n_places n_notices n_news r_9 hr_9) cy_X3_view mML_X7_189 mIM_X3_view mSE_X3_view rfl rfl (k := 0) rfl (cat_perm [wX7 E adc ads adr adn adh adb adk adq, wX5 E ads s_letters s_size, wX4 E adr adt r_awaited r_priority r_name, wX3 E adt t_switches t_hosts t_renewing t_priorities t_names t_wants t_blocks t_upTo t_clashedTo t_zoneSets t_places t_notices t_news, wX3 E adn n_switches n_hosts n_renewing n_priorities n_names n_wants n_blocks n_upTo n_clashedTo n_zoneSets n_places n_notices n_news, wX2 E adh eh h_nets h_oldest h_size, wX0 E adb eb b_nets b_kept, wX1 E adk k_size k_mentioned k_seen k_unseen, wX6 E adq q_codes q_views q_size] 9 rfl [4] [0, 1, 2, 3, 5, 6, 7, 8] (by decide)) (cat_perm [wX7 E adc ads adr adn adh adb adk adq, wX5 E ads s_letters s_size, wX4 E adr adt r_awaited r_priority r_name, wX3 E adt t_switches t_hosts t_renewing t_priorities t_names t_wants t_blocks t_upTo t_clashedTo t_zoneSets t_places t_notices t_news, wX3 E adn n_switches n_hosts n_renewing n_priorities n_names n_wants n_blocks n_upTo n_clashedTo n_zoneSets n_places n_notices n_news, wX2 E adh eh h_nets h_oldest h_size, wX0 E adb eb b_nets b_kept, wX1 E adk k_size k_mentioned k_seen k_unseen, wX6 E adq q_codes q_views q_size] 9 rfl [4] [0, 1, 2, 3, 5, 6, 7, 8] (by decide)) rfl rfl hl.1 rfl (Nat.le_of_ble_eq_true rfl) dX7_count_130 ⟨Nat.le_of_ble_eq_true rfl, Nat.le_of_ble_eq_true rfl⟩ ⟨Nat.le_refl _, Nat.le_refl _⟩ (fun H locs hN => ?_)
                  obtain ⟨r_10, hr_10, h⟩ := bi_e h
                  refine n_callSi (ws' := cat [wX7 E adc ads adr adn adh adb adk adq, wX5 E ads s_letters s_size, wX4 E adr adt r_awaited r_priority r_name, wX3 E adt t_switches t_hosts t_renewing t_priorities t_names t_wants t_blocks t_upTo t_clashedTo t_zoneSets t_places t_notices t_news, wX3 E adn n_switches n_hosts n_renewing n_priorities n_names n_wants n_blocks n_upTo n_clashedTo n_zoneSets n_places n_notices n_news, wX2 E adh eh h_nets h_oldest h_size, wX0 E adb eb b_nets b_kept, wX1 E adk k_size k_mentioned k_seen k_unseen, wX6 E adq q_codes q_views q_size]) hC hN (tX7_twosOf l E r_9 r_10 hr_10) cy_X7_twosOf mML_X7_247 mST_X7_twosOf (perm_nil _) (perm_nil _) rfl rfl hl.1 rfl (Nat.le_of_ble_eq_true rfl) dX7_count_133 ⟨Nat.le_of_ble_eq_true rfl, Nat.le_of_ble_eq_true rfl⟩ ⟨Nat.le_refl _, Nat.le_refl _⟩ (fun H locs hN => ?_)
                  obtain rfl := Option.some.inj h
                  exact n_iret hC hN dX7_count_136
                · have h := if_f h s7
                  by_cases s8 : p1 = 8
                  · have h := if_t h s8
                    refine lv_tableIn (off := 136) (tgt := 137) hx hb dX7_count_1 (by rw [s8]; decide) (by rw [s8]; decide) (by rw [s8]; rfl) (by decide) ?_
                    refine lv_aload_n hx hb dX7_count_137 rfl (lv_at hl 0 rfl) ?_
                    refine gt_X7_clues hC hN 0 rfl rfl dX7_count_138 ?_
                    obtain ⟨r_11, hr_11, h⟩ := bi_e h
                    refine n_callVi (ws' := cat [wX7 E adc ads adr adn adh adb adk adq, wX5 E ads s_letters s_size, wX4 E adr adt r_awaited r_priority r_name, wX3 E adt t_switches t_hosts t_renewing t_priorities t_names t_wants t_blocks t_upTo t_clashedTo t_zoneSets t_places t_notices t_news, wX3 E adn n_switches n_hosts n_renewing n_priorities n_names n_wants n_blocks n_upTo n_clashedTo n_zoneSets n_places n_notices n_news, wX2 E adh eh h_nets h_oldest h_size, wX0 E adb eb b_nets b_kept, wX1 E adk k_size k_mentioned k_seen k_unseen, wX6 E adq q_codes q_views q_size]) hC hN (tX1_size l E adk k_size k_mentioned k_seen k_unseen r_11 hr_11) cy_X1_size mML_X7_223 mIM_X1_size mSE_X1_size rfl rfl (k := 0) rfl (cat_perm [wX7 E adc ads adr adn adh adb adk adq, wX5 E ads s_letters s_size, wX4 E adr adt r_awaited r_priority r_name, wX3 E adt t_switches t_hosts t_renewing t_priorities t_names t_wants t_blocks t_upTo t_clashedTo t_zoneSets t_places t_notices t_news, wX3 E adn n_switches n_hosts n_renewing n_priorities n_names n_wants n_blocks n_upTo n_clashedTo n_zoneSets n_places n_notices n_news, wX2 E adh eh h_nets h_oldest h_size, wX0 E adb eb b_nets b_kept, wX1 E adk k_size k_mentioned k_seen k_unseen, wX6 E adq q_codes q_views q_size] 9 rfl [7] [0, 1, 2, 3, 4, 5, 6, 8] (by decide)) (cat_perm [wX7 E adc ads adr adn adh adb adk adq, wX5 E ads s_letters s_size, wX4 E adr adt r_awaited r_priority r_name, wX3 E adt t_switches t_hosts t_renewing t_priorities t_names t_wants t_blocks t_upTo t_clashedTo t_zoneSets t_places t_notices t_news, wX3 E adn n_switches n_hosts n_renewing n_priorities n_names n_wants n_blocks n_upTo n_clashedTo n_zoneSets n_places n_notices n_news, wX2 E adh eh h_nets h_oldest h_size, wX0 E adb eb b_nets b_kept, wX1 E adk k_size k_mentioned k_seen k_unseen, wX6 E adq q_codes q_views q_size] 9 rfl [7] [0, 1, 2, 3, 4, 5, 6, 8] (by decide)) rfl rfl hl.1 rfl (Nat.le_of_ble_eq_true rfl) dX7_count_141 ⟨Nat.le_of_ble_eq_true rfl, Nat.le_of_ble_eq_true rfl⟩ ⟨Nat.le_refl _, Nat.le_refl _⟩ (fun H locs hN => ?_)
                    obtain rfl := Option.some.inj h
                    exact n_iret hC hN dX7_count_144
                  · have h := if_f h s8
                    by_cases s9 : p1 = 9
                    · have h := if_t h s9
                      refine lv_tableIn (off := 144) (tgt := 145) hx hb dX7_count_1 (by rw [s9]; decide) (by rw [s9]; decide) (by rw [s9]; rfl) (by decide) ?_
                      refine lv_aload_n hx hb dX7_count_145 rfl (lv_at hl 0 rfl) ?_
                      refine gt_X7_script hC hN 0 rfl rfl dX7_count_146 ?_
                      obtain ⟨r_12, hr_12, h⟩ := bi_e h
                      refine n_callVi (ws' := cat [wX7 E adc ads adr adn adh adb adk adq, wX5 E ads s_letters s_size, wX4 E adr adt r_awaited r_priority r_name, wX3 E adt t_switches t_hosts t_renewing t_priorities t_names t_wants t_blocks t_upTo t_clashedTo t_zoneSets t_places t_notices t_news, wX3 E adn n_switches n_hosts n_renewing n_priorities n_names n_wants n_blocks n_upTo n_clashedTo n_zoneSets n_places n_notices n_news, wX2 E adh eh h_nets h_oldest h_size, wX0 E adb eb b_nets b_kept, wX1 E adk k_size k_mentioned k_seen k_unseen, wX6 E adq q_codes q_views q_size]) hC hN (tX5_size l E ads s_letters s_size r_12 hr_12) cy_X5_size mML_X7_66 mIM_X5_size mSE_X5_size rfl rfl (k := 0) rfl (cat_perm [wX7 E adc ads adr adn adh adb adk adq, wX5 E ads s_letters s_size, wX4 E adr adt r_awaited r_priority r_name, wX3 E adt t_switches t_hosts t_renewing t_priorities t_names t_wants t_blocks t_upTo t_clashedTo t_zoneSets t_places t_notices t_news, wX3 E adn n_switches n_hosts n_renewing n_priorities n_names n_wants n_blocks n_upTo n_clashedTo n_zoneSets n_places n_notices n_news, wX2 E adh eh h_nets h_oldest h_size, wX0 E adb eb b_nets b_kept, wX1 E adk k_size k_mentioned k_seen k_unseen, wX6 E adq q_codes q_views q_size] 9 rfl [1] [0, 2, 3, 4, 5, 6, 7, 8] (by decide)) (cat_perm [wX7 E adc ads adr adn adh adb adk adq, wX5 E ads s_letters s_size, wX4 E adr adt r_awaited r_priority r_name, wX3 E adt t_switches t_hosts t_renewing t_priorities t_names t_wants t_blocks t_upTo t_clashedTo t_zoneSets t_places t_notices t_news, wX3 E adn n_switches n_hosts n_renewing n_priorities n_names n_wants n_blocks n_upTo n_clashedTo n_zoneSets n_places n_notices n_news, wX2 E adh eh h_nets h_oldest h_size, wX0 E adb eb b_nets b_kept, wX1 E adk k_size k_mentioned k_seen k_unseen, wX6 E adq q_codes q_views q_size] 9 rfl [1] [0, 2, 3, 4, 5, 6, 7, 8] (by decide)) rfl rfl hl.1 rfl (Nat.le_of_ble_eq_true rfl) dX7_count_149 ⟨Nat.le_of_ble_eq_true rfl, Nat.le_of_ble_eq_true rfl⟩ ⟨Nat.le_refl _, Nat.le_refl _⟩ (fun H locs hN => ?_)
                      obtain rfl := Option.some.inj h
                      exact n_iret hC hN dX7_count_152
                    · have h := if_f h s9
                      by_cases s10 : p1 = 10
                      · have h := if_t h s10
                        refine lv_tableIn (off := 152) (tgt := 153) hx hb dX7_count_1 (by rw [s10]; decide) (by rw [s10]; decide) (by rw [s10]; rfl) (by decide) ?_
                        refine lv_aload_n hx hb dX7_count_153 rfl (lv_at hl 0 rfl) ?_
                        refine gt_X7_history hC hN 0 rfl rfl dX7_count_154 ?_
                        obtain ⟨r_13, hr_13, h⟩ := bi_e h
                        refine n_callVi (ws' := cat [wX7 E adc ads adr adn adh adb adk adq, wX5 E ads s_letters s_size, wX4 E adr adt r_awaited r_priority r_name, wX3 E adt t_switches t_hosts t_renewing t_priorities t_names t_wants t_blocks t_upTo t_clashedTo t_zoneSets t_places t_notices t_news, wX3 E adn n_switches n_hosts n_renewing n_priorities n_names n_wants n_blocks n_upTo n_clashedTo n_zoneSets n_places n_notices n_news, wX2 E adh eh h_nets h_oldest h_size, wX0 E adb eb b_nets b_kept, wX1 E adk k_size k_mentioned k_seen k_unseen, wX6 E adq q_codes q_views q_size]) hC hN (tX2_size l E adh eh h_nets h_oldest h_size r_13 hr_13) cy_X2_size mML_X7_167 mIM_X2_size mSE_X2_size rfl rfl (k := 0) rfl (cat_perm [wX7 E adc ads adr adn adh adb adk adq, wX5 E ads s_letters s_size, wX4 E adr adt r_awaited r_priority r_name, wX3 E adt t_switches t_hosts t_renewing t_priorities t_names t_wants t_blocks t_upTo t_clashedTo t_zoneSets t_places t_notices t_news, wX3 E adn n_switches n_hosts n_renewing n_priorities n_names n_wants n_blocks n_upTo n_clashedTo n_zoneSets n_places n_notices n_news, wX2 E adh eh h_nets h_oldest h_size, wX0 E adb eb b_nets b_kept, wX1 E adk k_size k_mentioned k_seen k_unseen, wX6 E adq q_codes q_views q_size] 9 rfl [5] [0, 1, 2, 3, 4, 6, 7, 8] (by decide)) (cat_perm [wX7 E adc ads adr adn adh adb adk adq, wX5 E ads s_letters s_size, wX4 E adr adt r_awaited r_priority r_name, wX3 E adt t_switches t_hosts t_renewing t_priorities t_names t_wants t_blocks t_upTo t_clashedTo t_zoneSets t_places t_notices t_news, wX3 E adn n_switches n_hosts n_renewing n_priorities n_names n_wants n_blocks n_upTo n_clashedTo n_zoneSets n_places n_notices n_news, wX2 E adh eh h_nets h_oldest h_size, wX0 E adb eb b_nets b_kept, wX1 E adk k_size k_mentioned k_seen k_unseen, wX6 E adq q_codes q_views q_size] 9 rfl [5] [0, 1, 2, 3, 4, 6, 7, 8] (by decide)) rfl rfl hl.1 rfl (Nat.le_of_ble_eq_true rfl) dX7_count_157 ⟨Nat.le_of_ble_eq_true rfl, Nat.le_of_ble_eq_true rfl⟩ ⟨Nat.le_refl _, Nat.le_refl _⟩ (fun H locs hN => ?_)
                        obtain rfl := Option.some.inj h
                        exact n_iret hC hN dX7_count_160
                      · have h := if_f h s10
                        have u0 : p1.toInt ≠ 0 := i_ne s0
                        have u1 : p1.toInt ≠ 1 := i_ne s1
                        have u2 : p1.toInt ≠ 2 := i_ne s2
                        have u3 : p1.toInt ≠ 3 := i_ne s3
                        have u4 : p1.toInt ≠ 4 := i_ne s4
                        have u5 : p1.toInt ≠ 5 := i_ne s5
                        have u6 : p1.toInt ≠ 6 := i_ne s6
                        have u7 : p1.toInt ≠ 7 := i_ne s7
                        have u8 : p1.toInt ≠ 8 := i_ne s8
                        have u9 : p1.toInt ≠ 9 := i_ne s9
                        have u10 : p1.toInt ≠ 10 := i_ne s10
                        refine lv_tableOut (tgt := 161) hx hb dX7_count_1 (by omega) (by decide) ?_
                        refine lv_iconst (v := -1) hx hb dX7_count_161 rfl ?_
                        obtain rfl := Option.some.inj h
                        exact n_iret hC hN dX7_count_162
set_option maxHeartbeats 4000000 in
set_option maxRecDepth 100000 in
theorem tX8_in (l : Launch) (E : EV) (p1 : Int32) (p2 : Int32) (p3 : Int32) (z : Int32) (h : fX8_in p1 p2 p3 = some z) : Cn l E yX8_in cX8_in 3 (some .boolean) 0 0 [.int p1, .int p2, .int p3] ([]) ([]) (some (.int z)) := by
  refine Cn.ofW (by decide +kernel) (Nat.le_of_ble_eq_true rfl) ?_
  intro p e s m args below meth c ls hC hN hl
  have hl : lv_has ls 3 [(0, .int p1), (1, .int p2), (2, .int p3)] := hl
  have hx := hC.1
  have hb := hC.2.1
  unfold fX8_in at h
  refine lv_iload_n hx hb dX8_in_0 rfl (lv_at hl 0 rfl) ?_
  refine lv_iload_n hx hb dX8_in_1 rfl (lv_at hl 1 rfl) ?_
  refine lv_icmp_lt (tgt := 14) hx hb dX8_in_2 (by decide) (fun c1 => ?_) (fun c1 => ?_)
  · have h := if_t h c1
    refine lv_iconst (v := 0) hx hb dX8_in_14 rfl ?_
    obtain rfl := Option.some.inj h
    exact n_zret hC hN (Or.inl rfl) dX8_in_15
  · have h := if_f h c1
    refine lv_iload_n hx hb dX8_in_5 rfl (lv_at hl 0 rfl) ?_
    refine lv_iload_n hx hb dX8_in_6 rfl (lv_at hl 2 rfl) ?_
    refine lv_icmp_gt (tgt := 14) hx hb dX8_in_7 (by decide) (fun c2 => ?_) (fun c2 => ?_)
    · have h := if_t h c2
      refine lv_iconst (v := 0) hx hb dX8_in_14 rfl ?_
      obtain rfl := Option.some.inj h
      exact n_zret hC hN (Or.inl rfl) dX8_in_15
    · have h := if_f h c2
      refine lv_iconst (v := 1) hx hb dX8_in_10 rfl ?_
      refine lv_goto (tgt := 15) hx hb dX8_in_11 (by decide) ?_
      obtain rfl := Option.some.inj h
      exact n_zret hC hN (Or.inr rfl) dX8_in_15
set_option maxHeartbeats 4000000 in
set_option maxRecDepth 100000 in
theorem tX8_has (l : Launch) (E : EV) (p1 : Int32) (p2 : Int32) (z : Int32) (h : fX8_has p1 p2 = some z) : Cn l E yX8_has cX8_has 2 (some .boolean) 0 0 [.int p1, .int p2] ([]) ([]) (some (.int z)) := by
  refine Cn.ofW (by decide +kernel) (Nat.le_of_ble_eq_true rfl) ?_
  intro p e s m args below meth c ls hC hN hl
  have hl : lv_has ls 2 [(0, .int p1), (1, .int p2)] := hl
  have hx := hC.1
  have hb := hC.2.1
  unfold fX8_has at h
  refine lv_iload_n hx hb dX8_has_0 rfl (lv_at hl 0 rfl) ?_
  refine lv_iload_n hx hb dX8_has_1 rfl (lv_at hl 1 rfl) ?_
  refine lv_ishr hx hb dX8_has_2 ?_
  refine lv_iconst (v := 1) hx hb dX8_has_3 rfl ?_
  refine lv_iand hx hb dX8_has_4 ?_
  refine lv_iconst (v := 1) hx hb dX8_has_5 rfl ?_
  refine lv_icmp_ne (tgt := 13) hx hb dX8_has_6 (by decide) (fun c1 => ?_) (fun c1 => ?_)
  · have h := if_f h c1
    refine lv_iconst (v := 0) hx hb dX8_has_13 rfl ?_
    obtain rfl := Option.some.inj h
    exact n_zret hC hN (Or.inl rfl) dX8_has_14
  · have h := if_t h c1
    refine lv_iconst (v := 1) hx hb dX8_has_9 rfl ?_
    refine lv_goto (tgt := 14) hx hb dX8_has_10 (by decide) ?_
    obtain rfl := Option.some.inj h
    exact n_zret hC hN (Or.inr rfl) dX8_has_14
set_option maxHeartbeats 4000000 in
set_option maxRecDepth 100000 in
theorem tX8_ones (l : Launch) (E : EV) (p1 : Int32) (z : Int32) (h : fX8_ones p1 = some z) : Cn l E yX8_ones cX8_ones 3 (some .int) 0 0 [.int p1] ([]) ([]) (some (.int z)) := by
  refine Cn.ofW (by decide +kernel) (Nat.le_of_ble_eq_true rfl) ?_
  intro p e s m args below meth c ls hC hN hl
  obtain ⟨z0, hz0⟩ : ∃ y, y = z := ⟨_, rfl⟩
  rw [← hz0] at h ⊢
  clear hz0
  have hl : lv_has ls 3 [(0, .int p1)] := hl
  have hx := hC.1
  have hb := hC.2.1
  unfold fX8_ones at h
  refine lv_iconst (v := 0) hx hb dX8_ones_0 rfl ?_
  refine lv_istore_n (lv' := [(1, .int 0), (0, .int p1)]) hx hb dX8_ones_1 rfl hl (by decide) rfl (fun ls hl => ?_)
  refine lv_iconst (v := 0) hx hb dX8_ones_2 rfl ?_
  refine lv_istore_n (lv' := [(2, .int 0), (1, .int 0), (0, .int p1)]) hx hb dX8_ones_3 rfl hl (by decide) rfl (fun ls hl => ?_)
  have L1 : ∀ (fu : Nat) (v1_1 : Int32) (v2_2 : Int32) (z : Int32 × Int32) (H : Heap) (locs : List Loc) (ls : Array Slot), Nw E s (AD ([])) ([]) H locs → lv_has ls 3 [(0, .int p1), (1, .int v1_1), (2, .int v2_2)] → fX8_ones_L1 p1 fu v1_1 v2_2 = some z → (∀ (H : Heap) (locs : List Loc) (ls : Array Slot), Nw E s (AD ([])) ([]) H locs → lv_has ls 3 [(0, .int p1), (1, .int z.1), (2, .int z.2)] → WN p l e 0 0 s m args below meth c E ([]) (some (.int z0)) ([]) H locs (F0 m 24 ls [])) → WN p l e 0 0 s m args below meth c E ([]) (some (.int z0)) ([]) H locs (F0 m 4 ls []) := by
    intro fu
    induction fu with
    | zero =>
      intro v1_1 v2_2 z H locs ls hN hl h K
      cases (show (none : Option (Int32 × Int32)) = some z from h)
    | succ fu ih =>
      intro v1_1 v2_2 z H locs ls hN hl h K
      rw [fX8_ones_L1.eq_2] at h
      refine lv_iload_n hx hb dX8_ones_4 rfl (lv_at hl 2 rfl) ?_
      refine lv_bipush (v := 8) hx hb dX8_ones_5 (by decide) ?_
      refine lv_icmp_ge (tgt := 24) hx hb dX8_ones_7 (by decide) (fun c3 => ?_) (fun c3 => ?_)
      · have h := if_t h c3
        obtain rfl := Option.some.inj h
        exact K _ _ _ hN (lv_sub hl [0, 1, 2] rfl)
      · have h := if_f h c3
        refine lv_iload_n hx hb dX8_ones_10 rfl (lv_at hl 1 rfl) ?_
        refine lv_iload_n hx hb dX8_ones_11 rfl (lv_at hl 0 rfl) ?_
        refine lv_iload_n hx hb dX8_ones_12 rfl (lv_at hl 2 rfl) ?_
        refine lv_ishr hx hb dX8_ones_13 ?_
        refine lv_iconst (v := 1) hx hb dX8_ones_14 rfl ?_
        refine lv_iand hx hb dX8_ones_15 ?_
        refine lv_iadd hx hb dX8_ones_16 ?_
        refine lv_topi (fun v1_4 ev1_4 => ?_)
        have h := bd_e h v1_4 ev1_4
        refine lv_istore_n (lv' := [(1, .int v1_4), (0, .int p1), (2, .int v2_2)]) hx hb dX8_ones_17 rfl hl (by decide) rfl (fun ls hl => ?_)
        obtain ⟨v2_5, ev2_5⟩ : ∃ y : Int32, y = v2_2 + 1 := ⟨_, rfl⟩
        have h := bd_e h v2_5 ev2_5
        refine lv_iinc (v := v2_5) (lv' := [(2, .int v2_5), (1, .int v1_4), (0, .int p1)]) hx hb dX8_ones_18 hl (k := 2) rfl (by rw [ev2_5]; rfl) (by decide) rfl (fun ls hl => ?_)
        refine lv_goto (tgt := 4) hx hb dX8_ones_21 (by decide) ?_
        exact ih v1_4 v2_5 z _ _ _ hN (lv_sub hl [2, 1, 0] rfl) h K
  obtain ⟨z_6, hz_6, h⟩ := bi_e h
  refine L1 500 0 0 z_6 _ _ _ hN (lv_sub hl [2, 1, 0] rfl) hz_6 (fun H locs ls hN hl => ?_)
  refine lv_iload_n hx hb dX8_ones_24 rfl (lv_at hl 1 rfl) ?_
  obtain rfl := Option.some.inj h
  exact n_iret hC hN dX8_ones_25
set_option maxHeartbeats 4000000 in
set_option maxRecDepth 100000 in
theorem tX8_bring (l : Launch) (E : EV) (qf nf : Nat) (qg ng : Nat) (f_ : Nat → Int32) (g_ : Nat → Int32) (p2 : Int32) (p4 : Int32) (z : Nat → Int32) (h : fX8_bring nf ng f_ g_ p2 p4 = some z) : Cn l E yX8_bring cX8_bring 5 none 0 0 [.ref qf, .int p2, .ref qg, .int p4] (cat [[(qf, .inl (E.2 0, nf, .inl f_))], [(qg, .inl (E.2 0, ng, .inl g_))]]) (cat [[(qf, .inl (E.2 0, nf, .inl f_))], [(qg, .inl (E.2 0, ng, .inl z))]]) (none) := by
  refine Cn.ofW (by decide +kernel) (Nat.le_of_ble_eq_true rfl) ?_
  intro p e s m args below meth c ls hC hN hl
  obtain ⟨z0, hz0⟩ : ∃ y, y = z := ⟨_, rfl⟩
  rw [← hz0] at h ⊢
  clear hz0
  have hl : lv_has ls 5 [(0, .ref qf), (1, .int p2), (2, .ref qg), (3, .int p4)] := hl
  have hx := hC.1
  have hb := hC.2.1
  unfold fX8_bring at h
  refine lv_iconst (v := 0) hx hb dX8_bring_0 rfl ?_
  refine lv_istore (lv' := [(4, .int 0), (0, .ref qf), (1, .int p2), (2, .ref qg), (3, .int p4)]) hx hb dX8_bring_1 hl (by decide) rfl (fun ls hl => ?_)
  have L1 : ∀ (fu : Nat) (v4_1 : Int32) (g__2 : Nat → Int32) (z : Int32 × (Nat → Int32)) (H : Heap) (locs : List Loc) (ls : Array Slot), Nw E s (AD (cat [[(qf, .inl (E.2 0, nf, .inl f_))], [(qg, .inl (E.2 0, ng, .inl g_))]])) (cat [[(qf, .inl (E.2 0, nf, .inl f_))], [(qg, .inl (E.2 0, ng, .inl g__2))]]) H locs → lv_has ls 5 [(0, .ref qf), (1, .int p2), (2, .ref qg), (3, .int p4), (4, .int v4_1)] → fX8_bring_L1 nf ng f_ p2 p4 fu v4_1 g__2 = some z → (∀ (H : Heap) (locs : List Loc) (ls : Array Slot), Nw E s (AD (cat [[(qf, .inl (E.2 0, nf, .inl f_))], [(qg, .inl (E.2 0, ng, .inl g_))]])) (cat [[(qf, .inl (E.2 0, nf, .inl f_))], [(qg, .inl (E.2 0, ng, .inl z.2))]]) H locs → lv_has ls 5 [(0, .ref qf), (1, .int p2), (2, .ref qg), (3, .int p4), (4, .int z.1)] → WN p l e 0 0 s m args below meth c E (cat [[(qf, .inl (E.2 0, nf, .inl f_))], [(qg, .inl (E.2 0, ng, .inl g_))]]) (none) (cat [[(qf, .inl (E.2 0, nf, .inl f_))], [(qg, .inl (E.2 0, ng, .inl z0))]]) H locs (F0 m 28 ls [])) → WN p l e 0 0 s m args below meth c E (cat [[(qf, .inl (E.2 0, nf, .inl f_))], [(qg, .inl (E.2 0, ng, .inl g_))]]) (none) (cat [[(qf, .inl (E.2 0, nf, .inl f_))], [(qg, .inl (E.2 0, ng, .inl z0))]]) H locs (F0 m 3 ls []) := by
    intro fu
    induction fu with
    | zero =>
      intro v4_1 g__2 z H locs ls hN hl h K
      cases (show (none : Option (Int32 × (Nat → Int32))) = some z from h)
    | succ fu ih =>
      intro v4_1 g__2 z H locs ls hN hl h K
      rw [fX8_bring_L1.eq_2] at h
      refine lv_iload hx hb dX8_bring_3 (lv_at hl 4 rfl) ?_
      refine lv_bipush (v := 87) hx hb dX8_bring_5 (by decide) ?_
      refine lv_icmp_ge (tgt := 28) hx hb dX8_bring_7 (by decide) (fun c3 => ?_) (fun c3 => ?_)
      · have h := if_t h c3
        obtain rfl := Option.some.inj h
        exact K _ _ _ hN (lv_sub hl [0, 1, 2, 3, 4] rfl)
      · have h := if_f h c3
        refine lv_aload_n hx hb dX8_bring_10 rfl (lv_at hl 2 rfl) ?_
        refine lv_iload_n hx hb dX8_bring_11 rfl (lv_at hl 3 rfl) ?_
        refine lv_iload hx hb dX8_bring_12 (lv_at hl 4 rfl) ?_
        refine lv_iadd hx hb dX8_bring_14 ?_
        refine lv_aload_n hx hb dX8_bring_15 rfl (lv_at hl 0 rfl) ?_
        refine lv_iload_n hx hb dX8_bring_16 rfl (lv_at hl 1 rfl) ?_
        refine lv_iload hx hb dX8_bring_17 (lv_at hl 4 rfl) ?_
        refine lv_iadd hx hb dX8_bring_19 ?_
        have g := inB_vp (gd_c h)
        have h := gd_e h
        refine n_iald hC hN 0 rfl g dX8_bring_20 ?_
        have g := inB_vp (gd_c h)
        have h := gd_e h
        obtain ⟨g__4, eg__4⟩ : ∃ y : Nat → Int32, y = upd g__2 (p4 + v4_1).toNatClampNeg (f_ (p2 + v4_1).toNatClampNeg) := ⟨_, rfl⟩
        have h := bd_e h g__4 eg__4
        refine n_iast hC hN 1 rfl g eg__4 (ws' := cat [[(qf, .inl (E.2 0, nf, .inl f_))], [(qg, .inl (E.2 0, ng, .inl g__4))]]) rfl dX8_bring_21 (fun H locs hN => ?_)
        obtain ⟨v4_5, ev4_5⟩ : ∃ y : Int32, y = v4_1 + 1 := ⟨_, rfl⟩
        have h := bd_e h v4_5 ev4_5
        refine lv_iinc (v := v4_5) (lv' := [(4, .int v4_5), (0, .ref qf), (1, .int p2), (2, .ref qg), (3, .int p4)]) hx hb dX8_bring_22 hl (k := 4) rfl (by rw [ev4_5]; rfl) (by decide) rfl (fun ls hl => ?_)
        refine lv_goto (tgt := 3) hx hb dX8_bring_25 (by decide) ?_
        exact ih v4_5 g__4 z _ _ _ hN (lv_sub hl [1, 2, 3, 4, 0] rfl) h K
  obtain ⟨z_6, hz_6, h⟩ := bi_e h
  refine L1 500 0 g_ z_6 _ _ _ hN (lv_sub hl [1, 2, 3, 4, 0] rfl) hz_6 (fun H locs ls hN hl => ?_)
  obtain rfl := Option.some.inj h
  exact n_vret hC hN dX8_bring_28
set_option maxHeartbeats 4000000 in
set_option maxRecDepth 100000 in
theorem tX8_note (l : Launch) (E : EV) (adc : Nat → Nat) (c_now : Nat → Int32) (c_read : Nat → Int32) (c_past : Nat → Int32) (c_deeds : Int32) (c_images : Nat → Int32) (c_isKept : Nat → Int32) (c_text : Nat → Int32) (c_letters : Int32) (c_at : Int32) (c_token : Int32) (c_tokenAt : Int32) (c_value : Int32) (c_facts : Nat → Int32) (c_seen : Int32) (c_seenAhead : Nat → Int32) (c_weakLink : Int32) (c_weakTwos : Int32) (c_which : Nat → Int32) (c_views : Nat → Int32) (c_whichMany : Int32) (z : (Nat → Int32) × Int32) (h : fX8_note c_now c_past c_deeds = some z) : Cn l E yX8_note cX8_note 2 none 1 24 [.ref (adc 0)] (wX8 E adc c_now c_read c_past c_deeds c_images c_isKept c_text c_letters c_at c_token c_tokenAt c_value c_facts c_seen c_seenAhead c_weakLink c_weakTwos c_which c_views c_whichMany) (wX8 E adc c_now c_read z.1 z.2 c_images c_isKept c_text c_letters c_at c_token c_tokenAt c_value c_facts c_seen c_seenAhead c_weakLink c_weakTwos c_which c_views c_whichMany) (none) := by
  refine Cn.ofW (by decide +kernel) (Nat.le_of_ble_eq_true rfl) ?_
  intro p e s m args below meth c ls hC hN hl
  obtain ⟨z0, hz0⟩ : ∃ y, y = z := ⟨_, rfl⟩
  rw [← hz0] at h ⊢
  clear hz0
  have hl : lv_has ls 2 [(0, .ref (adc 0))] := hl
  have hx := hC.1
  have hb := hC.2.1
  unfold fX8_note at h
  refine lv_aload_n hx hb dX8_note_0 rfl (lv_at hl 0 rfl) ?_
  refine gt_X8_deeds hC hN 0 rfl rfl dX8_note_1 ?_
  refine lv_iconst (v := 5) hx hb dX8_note_4 rfl ?_
  refine lv_icmp_ne (tgt := 48) hx hb dX8_note_5 (by decide) (fun c1 => ?_) (fun c1 => ?_)
  · have h := if_f h c1
    refine lv_aload_n hx hb dX8_note_48 rfl (lv_at hl 0 rfl) ?_
    refine gt_X8_now hC hN 0 rfl rfl dX8_note_49 ?_
    refine lv_iconst (v := 0) hx hb dX8_note_52 rfl ?_
    refine lv_aload_n hx hb dX8_note_53 rfl (lv_at hl 0 rfl) ?_
    refine gt_X8_past hC hN 0 rfl rfl dX8_note_54 ?_
    refine lv_bipush (v := 87) hx hb dX8_note_57 (by decide) ?_
    refine lv_aload_n hx hb dX8_note_59 rfl (lv_at hl 0 rfl) ?_
    refine gt_X8_deeds hC hN 0 rfl rfl dX8_note_60 ?_
    refine lv_imul hx hb dX8_note_63 ?_
    obtain ⟨z_2, hz_2, h⟩ := bi_e h
    refine n_callSv (ws' := wX8 E adc c_now c_read z_2 c_deeds c_images c_isKept c_text c_letters c_at c_token c_tokenAt c_value c_facts c_seen c_seenAhead c_weakLink c_weakTwos c_which c_views c_whichMany) hC hN (tX8_bring l E (adc 1) 87 (adc 3) 435 c_now c_past 0 (87 * c_deeds) z_2 hz_2) cy_X8_bring mML_X8_45 mST_X8_bring (pl_perm (wX8 E adc c_now c_read c_past c_deeds c_images c_isKept c_text c_letters c_at c_token c_tokenAt c_value c_facts c_seen c_seenAhead c_weakLink c_weakTwos c_which c_views c_whichMany) 11 rfl [1, 3] [0, 2, 4, 5, 6, 7, 8, 9, 10] (by decide)) (pl_perm (wX8 E adc c_now c_read z_2 c_deeds c_images c_isKept c_text c_letters c_at c_token c_tokenAt c_value c_facts c_seen c_seenAhead c_weakLink c_weakTwos c_which c_views c_whichMany) 11 rfl [1, 3] [0, 2, 4, 5, 6, 7, 8, 9, 10] (by decide)) rfl rfl hl.1 rfl (Nat.le_of_ble_eq_true rfl) dX8_note_64 ⟨Nat.le_of_ble_eq_true rfl, Nat.le_of_ble_eq_true rfl⟩ ⟨Nat.le_refl _, Nat.le_refl _⟩ (fun H locs hN => ?_)
    refine lv_aload_n hx hb dX8_note_67 rfl (lv_at hl 0 rfl) ?_
    refine lv_dup hx hb dX8_note_68 rfl ?_
    refine gt_X8_deeds hC hN 0 rfl rfl dX8_note_69 ?_
    refine lv_iconst (v := 1) hx hb dX8_note_72 rfl ?_
    refine lv_iadd hx hb dX8_note_73 ?_
    refine lv_topi (fun c_deeds_3 ec_deeds_3 => ?_)
    have h := bd_e h c_deeds_3 ec_deeds_3
    refine pt_X8_deeds hC hN 0 rfl (Nat.le_of_ble_eq_true rfl) (ws' := wX8 E adc c_now c_read z_2 c_deeds_3 c_images c_isKept c_text c_letters c_at c_token c_tokenAt c_value c_facts c_seen c_seenAhead c_weakLink c_weakTwos c_which c_views c_whichMany) rfl dX8_note_74 (fun H locs hN => ?_)
    obtain rfl := Option.some.inj h
    exact n_vret hC hN dX8_note_77
  · have h := if_t h c1
    refine lv_iconst (v := 0) hx hb dX8_note_8 rfl ?_
    refine lv_istore_n (lv' := [(1, .int 0), (0, .ref (adc 0))]) hx hb dX8_note_9 rfl hl (by decide) rfl (fun ls hl => ?_)
    have L1 : ∀ (fu : Nat) (v1_4 : Int32) (c_past_5 : Nat → Int32) (z : Int32 × (Nat → Int32)) (H : Heap) (locs : List Loc) (ls : Array Slot), Nw E s (AD (wX8 E adc c_now c_read c_past c_deeds c_images c_isKept c_text c_letters c_at c_token c_tokenAt c_value c_facts c_seen c_seenAhead c_weakLink c_weakTwos c_which c_views c_whichMany)) (wX8 E adc c_now c_read c_past_5 c_deeds c_images c_isKept c_text c_letters c_at c_token c_tokenAt c_value c_facts c_seen c_seenAhead c_weakLink c_weakTwos c_which c_views c_whichMany) H locs → lv_has ls 2 [(0, .ref (adc 0)), (1, .int v1_4)] → fX8_note_L1 fu v1_4 c_past_5 = some z → (∀ (H : Heap) (locs : List Loc) (ls : Array Slot), Nw E s (AD (wX8 E adc c_now c_read c_past c_deeds c_images c_isKept c_text c_letters c_at c_token c_tokenAt c_value c_facts c_seen c_seenAhead c_weakLink c_weakTwos c_which c_views c_whichMany)) (wX8 E adc c_now c_read z.2 c_deeds c_images c_isKept c_text c_letters c_at c_token c_tokenAt c_value c_facts c_seen c_seenAhead c_weakLink c_weakTwos c_which c_views c_whichMany) H locs → lv_has ls 2 [(0, .ref (adc 0)), (1, .int z.1)] → WN p l e 1 24 s m args below meth c E (wX8 E adc c_now c_read c_past c_deeds c_images c_isKept c_text c_letters c_at c_token c_tokenAt c_value c_facts c_seen c_seenAhead c_weakLink c_weakTwos c_which c_views c_whichMany) (none) (wX8 E adc c_now c_read z0.1 z0.2 c_images c_isKept c_text c_letters c_at c_token c_tokenAt c_value c_facts c_seen c_seenAhead c_weakLink c_weakTwos c_which c_views c_whichMany) H locs (F0 m 38 ls [])) → WN p l e 1 24 s m args below meth c E (wX8 E adc c_now c_read c_past c_deeds c_images c_isKept c_text c_letters c_at c_token c_tokenAt c_value c_facts c_seen c_seenAhead c_weakLink c_weakTwos c_which c_views c_whichMany) (none) (wX8 E adc c_now c_read z0.1 z0.2 c_images c_isKept c_text c_letters c_at c_token c_tokenAt c_value c_facts c_seen c_seenAhead c_weakLink c_weakTwos c_which c_views c_whichMany) H locs (F0 m 10 ls []) := by
      intro fu
      induction fu with
      | zero =>
        intro v1_4 c_past_5 z H locs ls hN hl h K
        cases (show (none : Option (Int32 × (Nat → Int32))) = some z from h)
      | succ fu ih =>
        intro v1_4 c_past_5 z H locs ls hN hl h K
        rw [fX8_note_L1.eq_2] at h
        refine lv_iload_n hx hb dX8_note_10 rfl (lv_at hl 1 rfl) ?_
        refine lv_sipush (v := 348) hx hb dX8_note_11 (by decide) ?_
        refine lv_icmp_ge (tgt := 38) hx hb dX8_note_14 (by decide) (fun c6 => ?_) (fun c6 => ?_)
        · have h := if_t h c6
          obtain rfl := Option.some.inj h
          exact K _ _ _ hN (lv_sub hl [0, 1] rfl)
        · have h := if_f h c6
          refine lv_aload_n hx hb dX8_note_17 rfl (lv_at hl 0 rfl) ?_
          refine gt_X8_past hC hN 0 rfl rfl dX8_note_18 ?_
          refine lv_iload_n hx hb dX8_note_21 rfl (lv_at hl 1 rfl) ?_
          refine lv_aload_n hx hb dX8_note_22 rfl (lv_at hl 0 rfl) ?_
          refine gt_X8_past hC hN 0 rfl rfl dX8_note_23 ?_
          refine lv_iload_n hx hb dX8_note_26 rfl (lv_at hl 1 rfl) ?_
          refine lv_bipush (v := 87) hx hb dX8_note_27 (by decide) ?_
          refine lv_iadd hx hb dX8_note_29 ?_
          have g := inB_vp (gd_c h)
          have h := gd_e h
          refine n_iald hC hN 3 rfl g dX8_note_30 ?_
          have g := inB_vp (gd_c h)
          have h := gd_e h
          obtain ⟨c_past_7, ec_past_7⟩ : ∃ y : Nat → Int32, y = upd c_past_5 v1_4.toNatClampNeg (c_past_5 (v1_4 + 87).toNatClampNeg) := ⟨_, rfl⟩
          have h := bd_e h c_past_7 ec_past_7
          refine n_iast hC hN 3 rfl g ec_past_7 (ws' := wX8 E adc c_now c_read c_past_7 c_deeds c_images c_isKept c_text c_letters c_at c_token c_tokenAt c_value c_facts c_seen c_seenAhead c_weakLink c_weakTwos c_which c_views c_whichMany) rfl dX8_note_31 (fun H locs hN => ?_)
          obtain ⟨v1_8, ev1_8⟩ : ∃ y : Int32, y = v1_4 + 1 := ⟨_, rfl⟩
          have h := bd_e h v1_8 ev1_8
          refine lv_iinc (v := v1_8) (lv' := [(1, .int v1_8), (0, .ref (adc 0))]) hx hb dX8_note_32 hl (k := 1) rfl (by rw [ev1_8]; rfl) (by decide) rfl (fun ls hl => ?_)
          refine lv_goto (tgt := 10) hx hb dX8_note_35 (by decide) ?_
          exact ih v1_8 c_past_7 z _ _ _ hN (lv_sub hl [1, 0] rfl) h K
    obtain ⟨z_9, hz_9, h⟩ := bi_e h
    refine L1 500 0 c_past z_9 _ _ _ hN (lv_sub hl [1, 0] rfl) hz_9 (fun H locs ls hN hl => ?_)
    refine lv_aload_n hx hb dX8_note_38 rfl (lv_at hl 0 rfl) ?_
    refine lv_dup hx hb dX8_note_39 rfl ?_
    refine gt_X8_deeds hC hN 0 rfl rfl dX8_note_40 ?_
    refine lv_iconst (v := 1) hx hb dX8_note_43 rfl ?_
    refine lv_isub hx hb dX8_note_44 ?_
    refine lv_topi (fun c_deeds_10 ec_deeds_10 => ?_)
    have h := bd_e h c_deeds_10 ec_deeds_10
    refine pt_X8_deeds hC hN 0 rfl (Nat.le_of_ble_eq_true rfl) (ws' := wX8 E adc c_now c_read z_9.2 c_deeds_10 c_images c_isKept c_text c_letters c_at c_token c_tokenAt c_value c_facts c_seen c_seenAhead c_weakLink c_weakTwos c_which c_views c_whichMany) rfl dX8_note_45 (fun H locs hN => ?_)
    refine lv_aload_n hx hb dX8_note_48 rfl (lv_at hl 0 rfl) ?_
    refine gt_X8_now hC hN 0 rfl rfl dX8_note_49 ?_
    refine lv_iconst (v := 0) hx hb dX8_note_52 rfl ?_
    refine lv_aload_n hx hb dX8_note_53 rfl (lv_at hl 0 rfl) ?_
    refine gt_X8_past hC hN 0 rfl rfl dX8_note_54 ?_
    refine lv_bipush (v := 87) hx hb dX8_note_57 (by decide) ?_
    refine lv_aload_n hx hb dX8_note_59 rfl (lv_at hl 0 rfl) ?_
    refine gt_X8_deeds hC hN 0 rfl rfl dX8_note_60 ?_
    refine lv_imul hx hb dX8_note_63 ?_
    obtain ⟨z_11, hz_11, h⟩ := bi_e h
    refine n_callSv (ws' := wX8 E adc c_now c_read z_11 c_deeds_10 c_images c_isKept c_text c_letters c_at c_token c_tokenAt c_value c_facts c_seen c_seenAhead c_weakLink c_weakTwos c_which c_views c_whichMany) hC hN (tX8_bring l E (adc 1) 87 (adc 3) 435 c_now z_9.2 0 (87 * c_deeds_10) z_11 hz_11) cy_X8_bring mML_X8_45 mST_X8_bring (pl_perm (wX8 E adc c_now c_read z_9.2 c_deeds_10 c_images c_isKept c_text c_letters c_at c_token c_tokenAt c_value c_facts c_seen c_seenAhead c_weakLink c_weakTwos c_which c_views c_whichMany) 11 rfl [1, 3] [0, 2, 4, 5, 6, 7, 8, 9, 10] (by decide)) (pl_perm (wX8 E adc c_now c_read z_11 c_deeds_10 c_images c_isKept c_text c_letters c_at c_token c_tokenAt c_value c_facts c_seen c_seenAhead c_weakLink c_weakTwos c_which c_views c_whichMany) 11 rfl [1, 3] [0, 2, 4, 5, 6, 7, 8, 9, 10] (by decide)) rfl rfl hl.1 rfl (Nat.le_of_ble_eq_true rfl) dX8_note_64 ⟨Nat.le_of_ble_eq_true rfl, Nat.le_of_ble_eq_true rfl⟩ ⟨Nat.le_refl _, Nat.le_refl _⟩ (fun H locs hN => ?_)
    refine lv_aload_n hx hb dX8_note_67 rfl (lv_at hl 0 rfl) ?_
    refine lv_dup hx hb dX8_note_68 rfl ?_
    refine gt_X8_deeds hC hN 0 rfl rfl dX8_note_69 ?_
    refine lv_iconst (v := 1) hx hb dX8_note_72 rfl ?_
    refine lv_iadd hx hb dX8_note_73 ?_
    refine lv_topi (fun c_deeds_12 ec_deeds_12 => ?_)
    have h := bd_e h c_deeds_12 ec_deeds_12
    refine pt_X8_deeds hC hN 0 rfl (Nat.le_of_ble_eq_true rfl) (ws' := wX8 E adc c_now c_read z_11 c_deeds_12 c_images c_isKept c_text c_letters c_at c_token c_tokenAt c_value c_facts c_seen c_seenAhead c_weakLink c_weakTwos c_which c_views c_whichMany) rfl dX8_note_74 (fun H locs hN => ?_)
    obtain rfl := Option.some.inj h
    exact n_vret hC hN dX8_note_77
set_option maxHeartbeats 4000000 in
set_option maxRecDepth 100000 in
theorem tX8_isFigure (l : Launch) (E : EV) (adc : Nat → Nat) (c_now : Nat → Int32) (c_read : Nat → Int32) (c_past : Nat → Int32) (c_deeds : Int32) (c_images : Nat → Int32) (c_isKept : Nat → Int32) (c_text : Nat → Int32) (c_letters : Int32) (c_at : Int32) (c_token : Int32) (c_tokenAt : Int32) (c_value : Int32) (c_facts : Nat → Int32) (c_seen : Int32) (c_seenAhead : Nat → Int32) (c_weakLink : Int32) (c_weakTwos : Int32) (c_which : Nat → Int32) (c_views : Nat → Int32) (c_whichMany : Int32) (z : Int32) (h : fX8_isFigure c_text c_letters c_at = some z) : Cn l E yX8_isFigure cX8_isFigure 1 (some .boolean) 1 22 [.ref (adc 0)] (wX8 E adc c_now c_read c_past c_deeds c_images c_isKept c_text c_letters c_at c_token c_tokenAt c_value c_facts c_seen c_seenAhead c_weakLink c_weakTwos c_which c_views c_whichMany) (wX8 E adc c_now c_read c_past c_deeds c_images c_isKept c_text c_letters c_at c_token c_tokenAt c_value c_facts c_seen c_seenAhead c_weakLink c_weakTwos c_which c_views c_whichMany) (some (.int z)) := by
  refine Cn.ofW (by decide +kernel) (Nat.le_of_ble_eq_true rfl) ?_
  intro p e s m args below meth c ls hC hN hl
  have hl : lv_has ls 1 [(0, .ref (adc 0))] := hl
  have hx := hC.1
  have hb := hC.2.1
  unfold fX8_isFigure at h
  refine lv_aload_n hx hb dX8_isFigure_0 rfl (lv_at hl 0 rfl) ?_
  refine gt_X8_at hC hN 0 rfl rfl dX8_isFigure_1 ?_
  refine lv_aload_n hx hb dX8_isFigure_4 rfl (lv_at hl 0 rfl) ?_
  refine gt_X8_letters hC hN 0 rfl rfl dX8_isFigure_5 ?_
  refine lv_icmp_ge (tgt := 34) hx hb dX8_isFigure_8 (by decide) (fun c1 => ?_) (fun c1 => ?_)
  · have h := if_t h c1
    refine lv_iconst (v := 0) hx hb dX8_isFigure_34 rfl ?_
    obtain rfl := Option.some.inj h
    exact n_zret hC hN (Or.inl rfl) dX8_isFigure_35
  · have h := if_f h c1
    refine lv_aload_n hx hb dX8_isFigure_11 rfl (lv_at hl 0 rfl) ?_
    refine gt_X8_text hC hN 0 rfl rfl dX8_isFigure_12 ?_
    refine lv_aload_n hx hb dX8_isFigure_15 rfl (lv_at hl 0 rfl) ?_
    refine gt_X8_at hC hN 0 rfl rfl dX8_isFigure_16 ?_
    have g := inB_vp (gd_c h)
    have h := gd_e h
    refine n_iald hC hN 6 rfl g dX8_isFigure_19 ?_
    refine lv_bipush (v := 48) hx hb dX8_isFigure_20 (by decide) ?_
    refine lv_bipush (v := 57) hx hb dX8_isFigure_22 (by decide) ?_
    obtain ⟨r_2, hr_2, h⟩ := bi_e h
    refine n_callSi (ws' := wX8 E adc c_now c_read c_past c_deeds c_images c_isKept c_text c_letters c_at c_token c_tokenAt c_value c_facts c_seen c_seenAhead c_weakLink c_weakTwos c_which c_views c_whichMany) hC hN (tX8_in l E (c_text c_at.toNatClampNeg) 48 57 r_2 hr_2) cy_X8_in mML_X8_55 mST_X8_in (perm_nil _) (perm_nil _) rfl rfl hl.1 rfl (Nat.le_of_ble_eq_true rfl) dX8_isFigure_24 ⟨Nat.le_of_ble_eq_true rfl, Nat.le_of_ble_eq_true rfl⟩ ⟨Nat.le_refl _, Nat.le_refl _⟩ (fun H locs hN => ?_)
    refine lv_if_eq (tgt := 34) hx hb dX8_isFigure_27 (by decide) (fun c3 => ?_) (fun c3 => ?_)
    · have h := if_t h c3
      refine lv_iconst (v := 0) hx hb dX8_isFigure_34 rfl ?_
      obtain rfl := Option.some.inj h
      exact n_zret hC hN (Or.inl rfl) dX8_isFigure_35
    · have h := if_f h c3
      refine lv_iconst (v := 1) hx hb dX8_isFigure_30 rfl ?_
      refine lv_goto (tgt := 35) hx hb dX8_isFigure_31 (by decide) ?_
      obtain rfl := Option.some.inj h
      exact n_zret hC hN (Or.inr rfl) dX8_isFigure_35
set_option maxHeartbeats 4000000 in
set_option maxRecDepth 100000 in
theorem tX8_next (l : Launch) (E : EV) (adc : Nat → Nat) (c_now : Nat → Int32) (c_read : Nat → Int32) (c_past : Nat → Int32) (c_deeds : Int32) (c_images : Nat → Int32) (c_isKept : Nat → Int32) (c_text : Nat → Int32) (c_letters : Int32) (c_at : Int32) (c_token : Int32) (c_tokenAt : Int32) (c_value : Int32) (c_facts : Nat → Int32) (c_seen : Int32) (c_seenAhead : Nat → Int32) (c_weakLink : Int32) (c_weakTwos : Int32) (c_which : Nat → Int32) (c_views : Nat → Int32) (c_whichMany : Int32) (z : Int32 × Int32 × Int32 × Int32) (h : fX8_next c_text c_letters c_at c_value = some z) : Cn l E yX8_next cX8_next 2 none 2 42 [.ref (adc 0)] (wX8 E adc c_now c_read c_past c_deeds c_images c_isKept c_text c_letters c_at c_token c_tokenAt c_value c_facts c_seen c_seenAhead c_weakLink c_weakTwos c_which c_views c_whichMany) (wX8 E adc c_now c_read c_past c_deeds c_images c_isKept c_text c_letters z.1 z.2.1 z.2.2.1 z.2.2.2 c_facts c_seen c_seenAhead c_weakLink c_weakTwos c_which c_views c_whichMany) (none) := by
  refine Cn.ofW (by decide +kernel) (Nat.le_of_ble_eq_true rfl) ?_
  intro p e s m args below meth c ls hC hN hl
  obtain ⟨z0, hz0⟩ : ∃ y, y = z := ⟨_, rfl⟩
  rw [← hz0] at h ⊢
  clear hz0
  have hl : lv_has ls 2 [(0, .ref (adc 0))] := hl
  have hx := hC.1
  have hb := hC.2.1
  unfold fX8_next at h
  have L1 : ∀ (fu : Nat) (c_at_1 : Int32) (z : Int32) (H : Heap) (locs : List Loc) (ls : Array Slot), Nw E s (AD (wX8 E adc c_now c_read c_past c_deeds c_images c_isKept c_text c_letters c_at c_token c_tokenAt c_value c_facts c_seen c_seenAhead c_weakLink c_weakTwos c_which c_views c_whichMany)) (wX8 E adc c_now c_read c_past c_deeds c_images c_isKept c_text c_letters c_at_1 c_token c_tokenAt c_value c_facts c_seen c_seenAhead c_weakLink c_weakTwos c_which c_views c_whichMany) H locs → lv_has ls 2 [(0, .ref (adc 0))] → fX8_next_L1 c_text c_letters fu c_at_1 = some z → (∀ (H : Heap) (locs : List Loc) (ls : Array Slot), Nw E s (AD (wX8 E adc c_now c_read c_past c_deeds c_images c_isKept c_text c_letters c_at c_token c_tokenAt c_value c_facts c_seen c_seenAhead c_weakLink c_weakTwos c_which c_views c_whichMany)) (wX8 E adc c_now c_read c_past c_deeds c_images c_isKept c_text c_letters z c_token c_tokenAt c_value c_facts c_seen c_seenAhead c_weakLink c_weakTwos c_which c_views c_whichMany) H locs → lv_has ls 2 [(0, .ref (adc 0))] → WN p l e 2 42 s m args below meth c E (wX8 E adc c_now c_read c_past c_deeds c_images c_isKept c_text c_letters c_at c_token c_tokenAt c_value c_facts c_seen c_seenAhead c_weakLink c_weakTwos c_which c_views c_whichMany) (none) (wX8 E adc c_now c_read c_past c_deeds c_images c_isKept c_text c_letters z0.1 z0.2.1 z0.2.2.1 z0.2.2.2 c_facts c_seen c_seenAhead c_weakLink c_weakTwos c_which c_views c_whichMany) H locs (F0 m 38 ls [])) → WN p l e 2 42 s m args below meth c E (wX8 E adc c_now c_read c_past c_deeds c_images c_isKept c_text c_letters c_at c_token c_tokenAt c_value c_facts c_seen c_seenAhead c_weakLink c_weakTwos c_which c_views c_whichMany) (none) (wX8 E adc c_now c_read c_past c_deeds c_images c_isKept c_text c_letters z0.1 z0.2.1 z0.2.2.1 z0.2.2.2 c_facts c_seen c_seenAhead c_weakLink c_weakTwos c_which c_views c_whichMany) H locs (F0 m 0 ls []) := by
    intro fu
    induction fu with
    | zero =>
      intro c_at_1 z H locs ls hN hl h K
      cases (show (none : Option (Int32)) = some z from h)
    | succ fu ih =>
      intro c_at_1 z H locs ls hN hl h K
      rw [fX8_next_L1.eq_2] at h
      refine lv_aload_n hx hb dX8_next_0 rfl (lv_at hl 0 rfl) ?_
      refine gt_X8_at hC hN 0 rfl rfl dX8_next_1 ?_
      refine lv_aload_n hx hb dX8_next_4 rfl (lv_at hl 0 rfl) ?_
      refine gt_X8_letters hC hN 0 rfl rfl dX8_next_5 ?_
      refine lv_icmp_ge (tgt := 38) hx hb dX8_next_8 (by decide) (fun c2 => ?_) (fun c2 => ?_)
      · have h := if_t h c2
        obtain rfl := Option.some.inj h
        exact K _ _ _ hN (lv_sub hl [0] rfl)
      · have h := if_f h c2
        refine lv_aload_n hx hb dX8_next_11 rfl (lv_at hl 0 rfl) ?_
        refine gt_X8_text hC hN 0 rfl rfl dX8_next_12 ?_
        refine lv_aload_n hx hb dX8_next_15 rfl (lv_at hl 0 rfl) ?_
        refine gt_X8_at hC hN 0 rfl rfl dX8_next_16 ?_
        have g := inB_vp (gd_c h)
        have h := gd_e h
        refine n_iald hC hN 6 rfl g dX8_next_19 ?_
        refine lv_bipush (v := 32) hx hb dX8_next_20 (by decide) ?_
        refine lv_icmp_ne (tgt := 38) hx hb dX8_next_22 (by decide) (fun c3 => ?_) (fun c3 => ?_)
        · have h := if_f h c3
          obtain rfl := Option.some.inj h
          exact K _ _ _ hN (lv_sub hl [0] rfl)
        · have h := if_t h c3
          refine lv_aload_n hx hb dX8_next_25 rfl (lv_at hl 0 rfl) ?_
          refine lv_dup hx hb dX8_next_26 rfl ?_
          refine gt_X8_at hC hN 0 rfl rfl dX8_next_27 ?_
          refine lv_iconst (v := 1) hx hb dX8_next_30 rfl ?_
          refine lv_iadd hx hb dX8_next_31 ?_
          refine lv_topi (fun c_at_4 ec_at_4 => ?_)
          have h := bd_e h c_at_4 ec_at_4
          refine pt_X8_at hC hN 0 rfl (Nat.le_of_ble_eq_true rfl) (ws' := wX8 E adc c_now c_read c_past c_deeds c_images c_isKept c_text c_letters c_at_4 c_token c_tokenAt c_value c_facts c_seen c_seenAhead c_weakLink c_weakTwos c_which c_views c_whichMany) rfl dX8_next_32 (fun H locs hN => ?_)
          refine lv_goto (tgt := 0) hx hb dX8_next_35 (by decide) ?_
          exact ih c_at_4 z _ _ _ hN (lv_sub hl [0] rfl) h K
  obtain ⟨c_at_5, hc_at_5, h⟩ := bi_e h
  refine L1 500 c_at c_at_5 _ _ _ hN (lv_sub hl [0] rfl) hc_at_5 (fun H locs ls hN hl => ?_)
  refine lv_aload_n hx hb dX8_next_38 rfl (lv_at hl 0 rfl) ?_
  refine lv_aload_n hx hb dX8_next_39 rfl (lv_at hl 0 rfl) ?_
  refine gt_X8_at hC hN 0 rfl rfl dX8_next_40 ?_
  refine pt_X8_tokenAt hC hN 0 rfl (Nat.le_of_ble_eq_true rfl) (ws' := wX8 E adc c_now c_read c_past c_deeds c_images c_isKept c_text c_letters c_at_5 c_token c_at_5 c_value c_facts c_seen c_seenAhead c_weakLink c_weakTwos c_which c_views c_whichMany) rfl dX8_next_43 (fun H locs hN => ?_)
  refine lv_aload_n hx hb dX8_next_46 rfl (lv_at hl 0 rfl) ?_
  refine gt_X8_at hC hN 0 rfl rfl dX8_next_47 ?_
  refine lv_aload_n hx hb dX8_next_50 rfl (lv_at hl 0 rfl) ?_
  refine gt_X8_letters hC hN 0 rfl rfl dX8_next_51 ?_
  refine lv_icmp_ne (tgt := 65) hx hb dX8_next_54 (by decide) (fun c6 => ?_) (fun c6 => ?_)
  · have h := if_f h c6
    refine lv_aload_n hx hb dX8_next_65 rfl (lv_at hl 0 rfl) ?_
    obtain ⟨r_7, hr_7, h⟩ := bi_e h
    refine n_callVi (ws' := wX8 E adc c_now c_read c_past c_deeds c_images c_isKept c_text c_letters c_at_5 c_token c_at_5 c_value c_facts c_seen c_seenAhead c_weakLink c_weakTwos c_which c_views c_whichMany) hC hN (tX8_isFigure l E adc c_now c_read c_past c_deeds c_images c_isKept c_text c_letters c_at_5 c_token c_at_5 c_value c_facts c_seen c_seenAhead c_weakLink c_weakTwos c_which c_views c_whichMany r_7 hr_7) cy_X8_isFigure mML_X8_65 mIM_X8_isFigure mSE_X8_isFigure rfl rfl (k := 0) rfl (perm_self _) (perm_self _) rfl rfl hl.1 rfl (Nat.le_of_ble_eq_true rfl) dX8_next_66 ⟨Nat.le_of_ble_eq_true rfl, Nat.le_of_ble_eq_true rfl⟩ ⟨Nat.le_refl _, Nat.le_refl _⟩ (fun H locs hN => ?_)
    refine lv_if_ne (tgt := 128) hx hb dX8_next_69 (by decide) (fun c8 => ?_) (fun c8 => ?_)
    · have h := if_f h c8
      refine lv_aload_n hx hb dX8_next_128 rfl (lv_at hl 0 rfl) ?_
      refine lv_iconst (v := 0) hx hb dX8_next_129 rfl ?_
      refine pt_X8_value hC hN 0 rfl (Nat.le_of_ble_eq_true rfl) (ws' := wX8 E adc c_now c_read c_past c_deeds c_images c_isKept c_text c_letters c_at_5 c_token c_at_5 0 c_facts c_seen c_seenAhead c_weakLink c_weakTwos c_which c_views c_whichMany) rfl dX8_next_130 (fun H locs hN => ?_)
      have L2 : ∀ (fu : Nat) (c_at_9 : Int32) (c_value_10 : Int32) (z : Int32 × Int32) (H : Heap) (locs : List Loc) (ls : Array Slot), Nw E s (AD (wX8 E adc c_now c_read c_past c_deeds c_images c_isKept c_text c_letters c_at c_token c_tokenAt c_value c_facts c_seen c_seenAhead c_weakLink c_weakTwos c_which c_views c_whichMany)) (wX8 E adc c_now c_read c_past c_deeds c_images c_isKept c_text c_letters c_at_9 c_token c_at_5 c_value_10 c_facts c_seen c_seenAhead c_weakLink c_weakTwos c_which c_views c_whichMany) H locs → lv_has ls 2 [(0, .ref (adc 0))] → fX8_next_L2 c_text c_letters fu c_at_9 c_value_10 = some z → (∀ (H : Heap) (locs : List Loc) (ls : Array Slot), Nw E s (AD (wX8 E adc c_now c_read c_past c_deeds c_images c_isKept c_text c_letters c_at c_token c_tokenAt c_value c_facts c_seen c_seenAhead c_weakLink c_weakTwos c_which c_views c_whichMany)) (wX8 E adc c_now c_read c_past c_deeds c_images c_isKept c_text c_letters z.1 c_token c_at_5 z.2 c_facts c_seen c_seenAhead c_weakLink c_weakTwos c_which c_views c_whichMany) H locs → lv_has ls 2 [(0, .ref (adc 0))] → WN p l e 2 42 s m args below meth c E (wX8 E adc c_now c_read c_past c_deeds c_images c_isKept c_text c_letters c_at c_token c_tokenAt c_value c_facts c_seen c_seenAhead c_weakLink c_weakTwos c_which c_views c_whichMany) (none) (wX8 E adc c_now c_read c_past c_deeds c_images c_isKept c_text c_letters z0.1 z0.2.1 z0.2.2.1 z0.2.2.2 c_facts c_seen c_seenAhead c_weakLink c_weakTwos c_which c_views c_whichMany) H locs (F0 m 193 ls [])) → WN p l e 2 42 s m args below meth c E (wX8 E adc c_now c_read c_past c_deeds c_images c_isKept c_text c_letters c_at c_token c_tokenAt c_value c_facts c_seen c_seenAhead c_weakLink c_weakTwos c_which c_views c_whichMany) (none) (wX8 E adc c_now c_read c_past c_deeds c_images c_isKept c_text c_letters z0.1 z0.2.1 z0.2.2.1 z0.2.2.2 c_facts c_seen c_seenAhead c_weakLink c_weakTwos c_which c_views c_whichMany) H locs (F0 m 133 ls []) := by
        intro fu
        induction fu with
        | zero =>
          intro c_at_9 c_value_10 z H locs ls hN hl h K
          cases (show (none : Option (Int32 × Int32)) = some z from h)
        | succ fu ih =>
          intro c_at_9 c_value_10 z H locs ls hN hl h K
          rw [fX8_next_L2.eq_2] at h
          refine lv_aload_n hx hb dX8_next_133 rfl (lv_at hl 0 rfl) ?_
          obtain ⟨r_11, hr_11, h⟩ := bi_e h
          refine n_callVi (ws' := wX8 E adc c_now c_read c_past c_deeds c_images c_isKept c_text c_letters c_at_9 c_token c_at_5 c_value_10 c_facts c_seen c_seenAhead c_weakLink c_weakTwos c_which c_views c_whichMany) hC hN (tX8_isFigure l E adc c_now c_read c_past c_deeds c_images c_isKept c_text c_letters c_at_9 c_token c_at_5 c_value_10 c_facts c_seen c_seenAhead c_weakLink c_weakTwos c_which c_views c_whichMany r_11 hr_11) cy_X8_isFigure mML_X8_65 mIM_X8_isFigure mSE_X8_isFigure rfl rfl (k := 0) rfl (perm_self _) (perm_self _) rfl rfl hl.1 rfl (Nat.le_of_ble_eq_true rfl) dX8_next_134 ⟨Nat.le_of_ble_eq_true rfl, Nat.le_of_ble_eq_true rfl⟩ ⟨Nat.le_refl _, Nat.le_refl _⟩ (fun H locs hN => ?_)
          refine lv_if_eq (tgt := 193) hx hb dX8_next_137 (by decide) (fun c12 => ?_) (fun c12 => ?_)
          · have h := if_t h c12
            obtain rfl := Option.some.inj h
            exact K _ _ _ hN (lv_sub hl [0] rfl)
          · have h := if_f h c12
            refine lv_aload_n hx hb dX8_next_140 rfl (lv_at hl 0 rfl) ?_
            refine lv_aload_n hx hb dX8_next_141 rfl (lv_at hl 0 rfl) ?_
            refine gt_X8_value hC hN 0 rfl rfl dX8_next_142 ?_
            refine lv_bipush (v := 99) hx hb dX8_next_145 (by decide) ?_
            refine lv_icmp_le (tgt := 157) hx hb dX8_next_147 (by decide) (fun c13 => ?_) (fun c13 => ?_)
            · have h := if_t h c13
              refine lv_bipush (v := 10) hx hb dX8_next_157 (by decide) ?_
              refine lv_aload_n hx hb dX8_next_159 rfl (lv_at hl 0 rfl) ?_
              refine gt_X8_value hC hN 0 rfl rfl dX8_next_160 ?_
              refine lv_imul hx hb dX8_next_163 ?_
              refine lv_aload_n hx hb dX8_next_164 rfl (lv_at hl 0 rfl) ?_
              refine gt_X8_text hC hN 0 rfl rfl dX8_next_165 ?_
              refine lv_aload_n hx hb dX8_next_168 rfl (lv_at hl 0 rfl) ?_
              refine gt_X8_at hC hN 0 rfl rfl dX8_next_169 ?_
              have g := inB_vp (gd_c h)
              have h := gd_e h
              refine n_iald hC hN 6 rfl g dX8_next_172 ?_
              refine lv_iadd hx hb dX8_next_173 ?_
              refine lv_bipush (v := 48) hx hb dX8_next_174 (by decide) ?_
              refine lv_isub hx hb dX8_next_176 ?_
              refine lv_topi (fun c_value_14 ec_value_14 => ?_)
              have h := bd_e h c_value_14 ec_value_14
              refine pt_X8_value hC hN 0 rfl (Nat.le_of_ble_eq_true rfl) (ws' := wX8 E adc c_now c_read c_past c_deeds c_images c_isKept c_text c_letters c_at_9 c_token c_at_5 c_value_14 c_facts c_seen c_seenAhead c_weakLink c_weakTwos c_which c_views c_whichMany) rfl dX8_next_177 (fun H locs hN => ?_)
              refine lv_aload_n hx hb dX8_next_180 rfl (lv_at hl 0 rfl) ?_
              refine lv_dup hx hb dX8_next_181 rfl ?_
              refine gt_X8_at hC hN 0 rfl rfl dX8_next_182 ?_
              refine lv_iconst (v := 1) hx hb dX8_next_185 rfl ?_
              refine lv_iadd hx hb dX8_next_186 ?_
              refine lv_topi (fun c_at_15 ec_at_15 => ?_)
              have h := bd_e h c_at_15 ec_at_15
              refine pt_X8_at hC hN 0 rfl (Nat.le_of_ble_eq_true rfl) (ws' := wX8 E adc c_now c_read c_past c_deeds c_images c_isKept c_text c_letters c_at_15 c_token c_at_5 c_value_14 c_facts c_seen c_seenAhead c_weakLink c_weakTwos c_which c_views c_whichMany) rfl dX8_next_187 (fun H locs hN => ?_)
              refine lv_goto (tgt := 133) hx hb dX8_next_190 (by decide) ?_
              exact ih c_at_15 c_value_14 z _ _ _ hN (lv_sub hl [0] rfl) h K
            · have h := if_f h c13
              refine lv_aload_n hx hb dX8_next_150 rfl (lv_at hl 0 rfl) ?_
              refine gt_X8_value hC hN 0 rfl rfl dX8_next_151 ?_
              refine lv_goto (tgt := 177) hx hb dX8_next_154 (by decide) ?_
              refine pt_X8_value hC hN 0 rfl (Nat.le_of_ble_eq_true rfl) (ws' := wX8 E adc c_now c_read c_past c_deeds c_images c_isKept c_text c_letters c_at_9 c_token c_at_5 c_value_10 c_facts c_seen c_seenAhead c_weakLink c_weakTwos c_which c_views c_whichMany) rfl dX8_next_177 (fun H locs hN => ?_)
              refine lv_aload_n hx hb dX8_next_180 rfl (lv_at hl 0 rfl) ?_
              refine lv_dup hx hb dX8_next_181 rfl ?_
              refine gt_X8_at hC hN 0 rfl rfl dX8_next_182 ?_
              refine lv_iconst (v := 1) hx hb dX8_next_185 rfl ?_
              refine lv_iadd hx hb dX8_next_186 ?_
              refine lv_topi (fun c_at_16 ec_at_16 => ?_)
              have h := bd_e h c_at_16 ec_at_16
              refine pt_X8_at hC hN 0 rfl (Nat.le_of_ble_eq_true rfl) (ws' := wX8 E adc c_now c_read c_past c_deeds c_images c_isKept c_text c_letters c_at_16 c_token c_at_5 c_value_10 c_facts c_seen c_seenAhead c_weakLink c_weakTwos c_which c_views c_whichMany) rfl dX8_next_187 (fun H locs hN => ?_)
              refine lv_goto (tgt := 133) hx hb dX8_next_190 (by decide) ?_
              exact ih c_at_16 c_value_10 z _ _ _ hN (lv_sub hl [0] rfl) h K
      obtain ⟨z_17, hz_17, h⟩ := bi_e h
      refine L2 500 c_at_5 0 z_17 _ _ _ hN (lv_sub hl [0] rfl) hz_17 (fun H locs ls hN hl => ?_)
      refine lv_aload_n hx hb dX8_next_193 rfl (lv_at hl 0 rfl) ?_
      refine lv_aload_n hx hb dX8_next_194 rfl (lv_at hl 0 rfl) ?_
      refine gt_X8_value hC hN 0 rfl rfl dX8_next_195 ?_
      refine lv_bipush (v := 99) hx hb dX8_next_198 (by decide) ?_
      refine lv_icmp_gt (tgt := 230) hx hb dX8_next_200 (by decide) (fun c18 => ?_) (fun c18 => ?_)
      · have h := if_t h c18
        refine lv_sipush (v := 1002) hx hb dX8_next_230 (by decide) ?_
        refine lv_goto (tgt := 239) hx hb dX8_next_233 (by decide) ?_
        refine pt_X8_token hC hN 0 rfl (Nat.le_of_ble_eq_true rfl) (ws' := wX8 E adc c_now c_read c_past c_deeds c_images c_isKept c_text c_letters z_17.1 1002 c_at_5 z_17.2 c_facts c_seen c_seenAhead c_weakLink c_weakTwos c_which c_views c_whichMany) rfl dX8_next_239 (fun H locs hN => ?_)
        obtain rfl := Option.some.inj h
        exact n_vret hC hN dX8_next_242
      · have h := if_f h c18
        refine lv_aload_n hx hb dX8_next_203 rfl (lv_at hl 0 rfl) ?_
        refine gt_X8_text hC hN 0 rfl rfl dX8_next_204 ?_
        refine lv_aload_n hx hb dX8_next_207 rfl (lv_at hl 0 rfl) ?_
        refine gt_X8_tokenAt hC hN 0 rfl rfl dX8_next_208 ?_
        have g := inB_vp (gd_c h)
        have h := gd_e h
        refine n_iald hC hN 6 rfl g dX8_next_211 ?_
        refine lv_bipush (v := 48) hx hb dX8_next_212 (by decide) ?_
        refine lv_icmp_ne (tgt := 236) hx hb dX8_next_214 (by decide) (fun c19 => ?_) (fun c19 => ?_)
        · have h := if_f h c19
          refine lv_sipush (v := 1001) hx hb dX8_next_236 (by decide) ?_
          refine pt_X8_token hC hN 0 rfl (Nat.le_of_ble_eq_true rfl) (ws' := wX8 E adc c_now c_read c_past c_deeds c_images c_isKept c_text c_letters z_17.1 1001 c_at_5 z_17.2 c_facts c_seen c_seenAhead c_weakLink c_weakTwos c_which c_views c_whichMany) rfl dX8_next_239 (fun H locs hN => ?_)
          obtain rfl := Option.some.inj h
          exact n_vret hC hN dX8_next_242
        · have h := if_t h c19
          refine lv_aload_n hx hb dX8_next_217 rfl (lv_at hl 0 rfl) ?_
          refine gt_X8_at hC hN 0 rfl rfl dX8_next_218 ?_
          refine lv_aload_n hx hb dX8_next_221 rfl (lv_at hl 0 rfl) ?_
          refine gt_X8_tokenAt hC hN 0 rfl rfl dX8_next_222 ?_
          refine lv_iconst (v := 1) hx hb dX8_next_225 rfl ?_
          refine lv_iadd hx hb dX8_next_226 ?_
          refine lv_icmp_le (tgt := 236) hx hb dX8_next_227 (by decide) (fun c20 => ?_) (fun c20 => ?_)
          · have h := if_t h c20
            refine lv_sipush (v := 1001) hx hb dX8_next_236 (by decide) ?_
            refine pt_X8_token hC hN 0 rfl (Nat.le_of_ble_eq_true rfl) (ws' := wX8 E adc c_now c_read c_past c_deeds c_images c_isKept c_text c_letters z_17.1 1001 c_at_5 z_17.2 c_facts c_seen c_seenAhead c_weakLink c_weakTwos c_which c_views c_whichMany) rfl dX8_next_239 (fun H locs hN => ?_)
            obtain rfl := Option.some.inj h
            exact n_vret hC hN dX8_next_242
          · have h := if_f h c20
            refine lv_sipush (v := 1002) hx hb dX8_next_230 (by decide) ?_
            refine lv_goto (tgt := 239) hx hb dX8_next_233 (by decide) ?_
            refine pt_X8_token hC hN 0 rfl (Nat.le_of_ble_eq_true rfl) (ws' := wX8 E adc c_now c_read c_past c_deeds c_images c_isKept c_text c_letters z_17.1 1002 c_at_5 z_17.2 c_facts c_seen c_seenAhead c_weakLink c_weakTwos c_which c_views c_whichMany) rfl dX8_next_239 (fun H locs hN => ?_)
            obtain rfl := Option.some.inj h
            exact n_vret hC hN dX8_next_242
    · have h := if_t h c8
      refine lv_aload_n hx hb dX8_next_72 rfl (lv_at hl 0 rfl) ?_
      refine gt_X8_text hC hN 0 rfl rfl dX8_next_73 ?_
      refine lv_aload_n hx hb dX8_next_76 rfl (lv_at hl 0 rfl) ?_
      refine gt_X8_at hC hN 0 rfl rfl dX8_next_77 ?_
      have g := inB_vp (gd_c h)
      have h := gd_e h
      refine n_iald hC hN 6 rfl g dX8_next_80 ?_
      refine lv_topi (fun v1_21 ev1_21 => ?_)
      have h := bd_e h v1_21 ev1_21
      refine lv_istore_n (lv' := [(1, .int v1_21), (0, .ref (adc 0))]) hx hb dX8_next_81 rfl hl (by decide) rfl (fun ls hl => ?_)
      refine lv_aload_n hx hb dX8_next_82 rfl (lv_at hl 1 rfl) ?_
      refine lv_iload_n hx hb dX8_next_83 rfl (lv_at hl 0 rfl) ?_
      refine lv_bipush (v := 115) hx hb dX8_next_84 (by decide) ?_
      refine lv_icmp_eq (tgt := 107) hx hb dX8_next_86 (by decide) (fun c22 => ?_) (fun c22 => ?_)
      · have h := if_t h c22
        refine lv_iload_n hx hb dX8_next_107 rfl (lv_at hl 0 rfl) ?_
        refine lv_goto (tgt := 114) hx hb dX8_next_108 (by decide) ?_
        refine pt_X8_token hC hN 0 rfl (Nat.le_of_ble_eq_true rfl) (ws' := wX8 E adc c_now c_read c_past c_deeds c_images c_isKept c_text c_letters c_at_5 v1_21 c_at_5 c_value c_facts c_seen c_seenAhead c_weakLink c_weakTwos c_which c_views c_whichMany) rfl dX8_next_114 (fun H locs hN => ?_)
        refine lv_aload_n hx hb dX8_next_117 rfl (lv_at hl 1 rfl) ?_
        refine lv_dup hx hb dX8_next_118 rfl ?_
        refine gt_X8_at hC hN 0 rfl rfl dX8_next_119 ?_
        refine lv_iconst (v := 1) hx hb dX8_next_122 rfl ?_
        refine lv_iadd hx hb dX8_next_123 ?_
        refine lv_topi (fun c_at_23 ec_at_23 => ?_)
        have h := bd_e h c_at_23 ec_at_23
        refine pt_X8_at hC hN 0 rfl (Nat.le_of_ble_eq_true rfl) (ws' := wX8 E adc c_now c_read c_past c_deeds c_images c_isKept c_text c_letters c_at_23 v1_21 c_at_5 c_value c_facts c_seen c_seenAhead c_weakLink c_weakTwos c_which c_views c_whichMany) rfl dX8_next_124 (fun H locs hN => ?_)
        obtain rfl := Option.some.inj h
        exact n_vret hC hN dX8_next_127
      · have h := if_f h c22
        refine lv_iload_n hx hb dX8_next_89 rfl (lv_at hl 0 rfl) ?_
        refine lv_bipush (v := 104) hx hb dX8_next_90 (by decide) ?_
        refine lv_icmp_eq (tgt := 107) hx hb dX8_next_92 (by decide) (fun c24 => ?_) (fun c24 => ?_)
        · have h := if_t h c24
          refine lv_iload_n hx hb dX8_next_107 rfl (lv_at hl 0 rfl) ?_
          refine lv_goto (tgt := 114) hx hb dX8_next_108 (by decide) ?_
          refine pt_X8_token hC hN 0 rfl (Nat.le_of_ble_eq_true rfl) (ws' := wX8 E adc c_now c_read c_past c_deeds c_images c_isKept c_text c_letters c_at_5 v1_21 c_at_5 c_value c_facts c_seen c_seenAhead c_weakLink c_weakTwos c_which c_views c_whichMany) rfl dX8_next_114 (fun H locs hN => ?_)
          refine lv_aload_n hx hb dX8_next_117 rfl (lv_at hl 1 rfl) ?_
          refine lv_dup hx hb dX8_next_118 rfl ?_
          refine gt_X8_at hC hN 0 rfl rfl dX8_next_119 ?_
          refine lv_iconst (v := 1) hx hb dX8_next_122 rfl ?_
          refine lv_iadd hx hb dX8_next_123 ?_
          refine lv_topi (fun c_at_25 ec_at_25 => ?_)
          have h := bd_e h c_at_25 ec_at_25
          refine pt_X8_at hC hN 0 rfl (Nat.le_of_ble_eq_true rfl) (ws' := wX8 E adc c_now c_read c_past c_deeds c_images c_isKept c_text c_letters c_at_25 v1_21 c_at_5 c_value c_facts c_seen c_seenAhead c_weakLink c_weakTwos c_which c_views c_whichMany) rfl dX8_next_124 (fun H locs hN => ?_)
          obtain rfl := Option.some.inj h
          exact n_vret hC hN dX8_next_127
        · have h := if_f h c24
          refine lv_iload_n hx hb dX8_next_95 rfl (lv_at hl 0 rfl) ?_
          refine lv_bipush (v := 45) hx hb dX8_next_96 (by decide) ?_
          refine lv_icmp_eq (tgt := 107) hx hb dX8_next_98 (by decide) (fun c26 => ?_) (fun c26 => ?_)
          · have h := if_t h c26
            refine lv_iload_n hx hb dX8_next_107 rfl (lv_at hl 0 rfl) ?_
            refine lv_goto (tgt := 114) hx hb dX8_next_108 (by decide) ?_
            refine pt_X8_token hC hN 0 rfl (Nat.le_of_ble_eq_true rfl) (ws' := wX8 E adc c_now c_read c_past c_deeds c_images c_isKept c_text c_letters c_at_5 v1_21 c_at_5 c_value c_facts c_seen c_seenAhead c_weakLink c_weakTwos c_which c_views c_whichMany) rfl dX8_next_114 (fun H locs hN => ?_)
            refine lv_aload_n hx hb dX8_next_117 rfl (lv_at hl 1 rfl) ?_
            refine lv_dup hx hb dX8_next_118 rfl ?_
            refine gt_X8_at hC hN 0 rfl rfl dX8_next_119 ?_
            refine lv_iconst (v := 1) hx hb dX8_next_122 rfl ?_
            refine lv_iadd hx hb dX8_next_123 ?_
            refine lv_topi (fun c_at_27 ec_at_27 => ?_)
            have h := bd_e h c_at_27 ec_at_27
            refine pt_X8_at hC hN 0 rfl (Nat.le_of_ble_eq_true rfl) (ws' := wX8 E adc c_now c_read c_past c_deeds c_images c_isKept c_text c_letters c_at_27 v1_21 c_at_5 c_value c_facts c_seen c_seenAhead c_weakLink c_weakTwos c_which c_views c_whichMany) rfl dX8_next_124 (fun H locs hN => ?_)
            obtain rfl := Option.some.inj h
            exact n_vret hC hN dX8_next_127
          · have h := if_f h c26
            refine lv_iload_n hx hb dX8_next_101 rfl (lv_at hl 0 rfl) ?_
            refine lv_bipush (v := 59) hx hb dX8_next_102 (by decide) ?_
            refine lv_icmp_ne (tgt := 111) hx hb dX8_next_104 (by decide) (fun c28 => ?_) (fun c28 => ?_)
            · have h := if_f h c28
              refine lv_sipush (v := 1002) hx hb dX8_next_111 (by decide) ?_
              refine pt_X8_token hC hN 0 rfl (Nat.le_of_ble_eq_true rfl) (ws' := wX8 E adc c_now c_read c_past c_deeds c_images c_isKept c_text c_letters c_at_5 1002 c_at_5 c_value c_facts c_seen c_seenAhead c_weakLink c_weakTwos c_which c_views c_whichMany) rfl dX8_next_114 (fun H locs hN => ?_)
              refine lv_aload_n hx hb dX8_next_117 rfl (lv_at hl 1 rfl) ?_
              refine lv_dup hx hb dX8_next_118 rfl ?_
              refine gt_X8_at hC hN 0 rfl rfl dX8_next_119 ?_
              refine lv_iconst (v := 1) hx hb dX8_next_122 rfl ?_
              refine lv_iadd hx hb dX8_next_123 ?_
              refine lv_topi (fun c_at_29 ec_at_29 => ?_)
              have h := bd_e h c_at_29 ec_at_29
              refine pt_X8_at hC hN 0 rfl (Nat.le_of_ble_eq_true rfl) (ws' := wX8 E adc c_now c_read c_past c_deeds c_images c_isKept c_text c_letters c_at_29 1002 c_at_5 c_value c_facts c_seen c_seenAhead c_weakLink c_weakTwos c_which c_views c_whichMany) rfl dX8_next_124 (fun H locs hN => ?_)
              obtain rfl := Option.some.inj h
              exact n_vret hC hN dX8_next_127
            · have h := if_t h c28
              refine lv_iload_n hx hb dX8_next_107 rfl (lv_at hl 0 rfl) ?_
              refine lv_goto (tgt := 114) hx hb dX8_next_108 (by decide) ?_
              refine pt_X8_token hC hN 0 rfl (Nat.le_of_ble_eq_true rfl) (ws' := wX8 E adc c_now c_read c_past c_deeds c_images c_isKept c_text c_letters c_at_5 v1_21 c_at_5 c_value c_facts c_seen c_seenAhead c_weakLink c_weakTwos c_which c_views c_whichMany) rfl dX8_next_114 (fun H locs hN => ?_)
              refine lv_aload_n hx hb dX8_next_117 rfl (lv_at hl 1 rfl) ?_
              refine lv_dup hx hb dX8_next_118 rfl ?_
              refine gt_X8_at hC hN 0 rfl rfl dX8_next_119 ?_
              refine lv_iconst (v := 1) hx hb dX8_next_122 rfl ?_
              refine lv_iadd hx hb dX8_next_123 ?_
              refine lv_topi (fun c_at_30 ec_at_30 => ?_)
              have h := bd_e h c_at_30 ec_at_30
              refine pt_X8_at hC hN 0 rfl (Nat.le_of_ble_eq_true rfl) (ws' := wX8 E adc c_now c_read c_past c_deeds c_images c_isKept c_text c_letters c_at_30 v1_21 c_at_5 c_value c_facts c_seen c_seenAhead c_weakLink c_weakTwos c_which c_views c_whichMany) rfl dX8_next_124 (fun H locs hN => ?_)
              obtain rfl := Option.some.inj h
              exact n_vret hC hN dX8_next_127
  · have h := if_t h c6
    refine lv_aload_n hx hb dX8_next_57 rfl (lv_at hl 0 rfl) ?_
    refine lv_sipush (v := 1000) hx hb dX8_next_58 (by decide) ?_
    refine pt_X8_token hC hN 0 rfl (Nat.le_of_ble_eq_true rfl) (ws' := wX8 E adc c_now c_read c_past c_deeds c_images c_isKept c_text c_letters c_at_5 1000 c_at_5 c_value c_facts c_seen c_seenAhead c_weakLink c_weakTwos c_which c_views c_whichMany) rfl dX8_next_61 (fun H locs hN => ?_)
    obtain rfl := Option.some.inj h
    exact n_vret hC hN dX8_next_64
set_option maxHeartbeats 4000000 in
set_option maxRecDepth 100000 in
theorem tX8_isNumber (l : Launch) (E : EV) (adc : Nat → Nat) (c_now : Nat → Int32) (c_read : Nat → Int32) (c_past : Nat → Int32) (c_deeds : Int32) (c_images : Nat → Int32) (c_isKept : Nat → Int32) (c_text : Nat → Int32) (c_letters : Int32) (c_at : Int32) (c_token : Int32) (c_tokenAt : Int32) (c_value : Int32) (c_facts : Nat → Int32) (c_seen : Int32) (c_seenAhead : Nat → Int32) (c_weakLink : Int32) (c_weakTwos : Int32) (c_which : Nat → Int32) (c_views : Nat → Int32) (c_whichMany : Int32) (p1 : Int32) (p2 : Int32) (z : Int32) (h : fX8_isNumber c_token c_value p1 p2 = some z) : Cn l E yX8_isNumber cX8_isNumber 3 (some .boolean) 1 22 [.ref (adc 0), .int p1, .int p2] (wX8 E adc c_now c_read c_past c_deeds c_images c_isKept c_text c_letters c_at c_token c_tokenAt c_value c_facts c_seen c_seenAhead c_weakLink c_weakTwos c_which c_views c_whichMany) (wX8 E adc c_now c_read c_past c_deeds c_images c_isKept c_text c_letters c_at c_token c_tokenAt c_value c_facts c_seen c_seenAhead c_weakLink c_weakTwos c_which c_views c_whichMany) (some (.int z)) := by
  refine Cn.ofW (by decide +kernel) (Nat.le_of_ble_eq_true rfl) ?_
  intro p e s m args below meth c ls hC hN hl
  have hl : lv_has ls 3 [(0, .ref (adc 0)), (1, .int p1), (2, .int p2)] := hl
  have hx := hC.1
  have hb := hC.2.1
  unfold fX8_isNumber at h
  refine lv_aload_n hx hb dX8_isNumber_0 rfl (lv_at hl 0 rfl) ?_
  refine gt_X8_token hC hN 0 rfl rfl dX8_isNumber_1 ?_
  refine lv_sipush (v := 1001) hx hb dX8_isNumber_4 (by decide) ?_
  refine lv_icmp_ne (tgt := 26) hx hb dX8_isNumber_7 (by decide) (fun c1 => ?_) (fun c1 => ?_)
  · have h := if_f h c1
    refine lv_iconst (v := 0) hx hb dX8_isNumber_26 rfl ?_
    obtain rfl := Option.some.inj h
    exact n_zret hC hN (Or.inl rfl) dX8_isNumber_27
  · have h := if_t h c1
    refine lv_aload_n hx hb dX8_isNumber_10 rfl (lv_at hl 0 rfl) ?_
    refine gt_X8_value hC hN 0 rfl rfl dX8_isNumber_11 ?_
    refine lv_iload_n hx hb dX8_isNumber_14 rfl (lv_at hl 1 rfl) ?_
    refine lv_iload_n hx hb dX8_isNumber_15 rfl (lv_at hl 2 rfl) ?_
    obtain ⟨r_2, hr_2, h⟩ := bi_e h
    refine n_callSi (ws' := wX8 E adc c_now c_read c_past c_deeds c_images c_isKept c_text c_letters c_at c_token c_tokenAt c_value c_facts c_seen c_seenAhead c_weakLink c_weakTwos c_which c_views c_whichMany) hC hN (tX8_in l E c_value p1 p2 r_2 hr_2) cy_X8_in mML_X8_55 mST_X8_in (perm_nil _) (perm_nil _) rfl rfl hl.1 rfl (Nat.le_of_ble_eq_true rfl) dX8_isNumber_16 ⟨Nat.le_of_ble_eq_true rfl, Nat.le_of_ble_eq_true rfl⟩ ⟨Nat.le_refl _, Nat.le_refl _⟩ (fun H locs hN => ?_)
    refine lv_if_eq (tgt := 26) hx hb dX8_isNumber_19 (by decide) (fun c3 => ?_) (fun c3 => ?_)
    · have h := if_t h c3
      refine lv_iconst (v := 0) hx hb dX8_isNumber_26 rfl ?_
      obtain rfl := Option.some.inj h
      exact n_zret hC hN (Or.inl rfl) dX8_isNumber_27
    · have h := if_f h c3
      refine lv_iconst (v := 1) hx hb dX8_isNumber_22 rfl ?_
      refine lv_goto (tgt := 27) hx hb dX8_isNumber_23 (by decide) ?_
      obtain rfl := Option.some.inj h
      exact n_zret hC hN (Or.inr rfl) dX8_isNumber_27
set_option maxHeartbeats 4000000 in
set_option maxRecDepth 100000 in
theorem tX8_isNamed (l : Launch) (E : EV) (adc : Nat → Nat) (c_now : Nat → Int32) (c_read : Nat → Int32) (c_past : Nat → Int32) (c_deeds : Int32) (c_images : Nat → Int32) (c_isKept : Nat → Int32) (c_text : Nat → Int32) (c_letters : Int32) (c_at : Int32) (c_token : Int32) (c_tokenAt : Int32) (c_value : Int32) (c_facts : Nat → Int32) (c_seen : Int32) (c_seenAhead : Nat → Int32) (c_weakLink : Int32) (c_weakTwos : Int32) (c_which : Nat → Int32) (c_views : Nat → Int32) (c_whichMany : Int32) (p1 : Int32) (z : Int32) (h : fX8_isNamed c_read p1 = some z) : Cn l E yX8_isNamed cX8_isNamed 4 (some .boolean) 0 0 [.ref (adc 0), .int p1] (wX8 E adc c_now c_read c_past c_deeds c_images c_isKept c_text c_letters c_at c_token c_tokenAt c_value c_facts c_seen c_seenAhead c_weakLink c_weakTwos c_which c_views c_whichMany) (wX8 E adc c_now c_read c_past c_deeds c_images c_isKept c_text c_letters c_at c_token c_tokenAt c_value c_facts c_seen c_seenAhead c_weakLink c_weakTwos c_which c_views c_whichMany) (some (.int z)) := by
  refine Cn.ofW (by decide +kernel) (Nat.le_of_ble_eq_true rfl) ?_
  intro p e s m args below meth c ls hC hN hl
  obtain ⟨z0, hz0⟩ : ∃ y, y = z := ⟨_, rfl⟩
  rw [← hz0] at h ⊢
  clear hz0
  have hl : lv_has ls 4 [(0, .ref (adc 0)), (1, .int p1)] := hl
  have hx := hC.1
  have hb := hC.2.1
  unfold fX8_isNamed at h
  refine lv_iconst (v := 0) hx hb dX8_isNamed_0 rfl ?_
  refine lv_istore_n (lv' := [(2, .int 0), (0, .ref (adc 0)), (1, .int p1)]) hx hb dX8_isNamed_1 rfl hl (by decide) rfl (fun ls hl => ?_)
  refine lv_iconst (v := 0) hx hb dX8_isNamed_2 rfl ?_
  refine lv_istore_n (lv' := [(3, .int 0), (2, .int 0), (0, .ref (adc 0)), (1, .int p1)]) hx hb dX8_isNamed_3 rfl hl (by decide) rfl (fun ls hl => ?_)
  have L1 : ∀ (fu : Nat) (v2_1 : Int32) (v3_2 : Int32) (z : Int32 × Int32) (H : Heap) (locs : List Loc) (ls : Array Slot), Nw E s (AD (wX8 E adc c_now c_read c_past c_deeds c_images c_isKept c_text c_letters c_at c_token c_tokenAt c_value c_facts c_seen c_seenAhead c_weakLink c_weakTwos c_which c_views c_whichMany)) (wX8 E adc c_now c_read c_past c_deeds c_images c_isKept c_text c_letters c_at c_token c_tokenAt c_value c_facts c_seen c_seenAhead c_weakLink c_weakTwos c_which c_views c_whichMany) H locs → lv_has ls 4 [(0, .ref (adc 0)), (1, .int p1), (2, .int v2_1), (3, .int v3_2)] → fX8_isNamed_L1 c_read p1 fu v2_1 v3_2 = some z → (∀ (H : Heap) (locs : List Loc) (ls : Array Slot), Nw E s (AD (wX8 E adc c_now c_read c_past c_deeds c_images c_isKept c_text c_letters c_at c_token c_tokenAt c_value c_facts c_seen c_seenAhead c_weakLink c_weakTwos c_which c_views c_whichMany)) (wX8 E adc c_now c_read c_past c_deeds c_images c_isKept c_text c_letters c_at c_token c_tokenAt c_value c_facts c_seen c_seenAhead c_weakLink c_weakTwos c_which c_views c_whichMany) H locs → lv_has ls 4 [(0, .ref (adc 0)), (1, .int p1), (2, .int z.1), (3, .int z.2)] → WN p l e 0 0 s m args below meth c E (wX8 E adc c_now c_read c_past c_deeds c_images c_isKept c_text c_letters c_at c_token c_tokenAt c_value c_facts c_seen c_seenAhead c_weakLink c_weakTwos c_which c_views c_whichMany) (some (.int z0)) (wX8 E adc c_now c_read c_past c_deeds c_images c_isKept c_text c_letters c_at c_token c_tokenAt c_value c_facts c_seen c_seenAhead c_weakLink c_weakTwos c_which c_views c_whichMany) H locs (F0 m 46 ls [])) → WN p l e 0 0 s m args below meth c E (wX8 E adc c_now c_read c_past c_deeds c_images c_isKept c_text c_letters c_at c_token c_tokenAt c_value c_facts c_seen c_seenAhead c_weakLink c_weakTwos c_which c_views c_whichMany) (some (.int z0)) (wX8 E adc c_now c_read c_past c_deeds c_images c_isKept c_text c_letters c_at c_token c_tokenAt c_value c_facts c_seen c_seenAhead c_weakLink c_weakTwos c_which c_views c_whichMany) H locs (F0 m 4 ls []) := by
    intro fu
    induction fu with
    | zero =>
      intro v2_1 v3_2 z H locs ls hN hl h K
      cases (show (none : Option (Int32 × Int32)) = some z from h)
    | succ fu ih =>
      intro v2_1 v3_2 z H locs ls hN hl h K
      rw [fX8_isNamed_L1.eq_2] at h
      refine lv_iload_n hx hb dX8_isNamed_4 rfl (lv_at hl 3 rfl) ?_
      refine lv_aload_n hx hb dX8_isNamed_5 rfl (lv_at hl 0 rfl) ?_
      refine gt_X8_read hC hN 0 rfl rfl dX8_isNamed_6 ?_
      refine lv_iconst (v := 0) hx hb dX8_isNamed_9 rfl ?_
      have g := inB_vp (gd_c h)
      have h := gd_e h
      refine n_iald hC hN 2 rfl g dX8_isNamed_10 ?_
      refine lv_icmp_ge (tgt := 46) hx hb dX8_isNamed_11 (by decide) (fun c3 => ?_) (fun c3 => ?_)
      · have h := if_t h c3
        obtain rfl := Option.some.inj h
        exact K _ _ _ hN (lv_sub hl [0, 1, 2, 3] rfl)
      · have h := if_f h c3
        refine lv_iload_n hx hb dX8_isNamed_14 rfl (lv_at hl 2 rfl) ?_
        refine lv_if_ne (tgt := 34) hx hb dX8_isNamed_15 (by decide) (fun c4 => ?_) (fun c4 => ?_)
        · have h := if_f h c4
          refine lv_iconst (v := 1) hx hb dX8_isNamed_34 rfl ?_
          refine lv_goto (tgt := 39) hx hb dX8_isNamed_35 (by decide) ?_
          refine lv_istore_n (lv' := [(2, .int 1), (0, .ref (adc 0)), (1, .int p1), (3, .int v3_2)]) hx hb dX8_isNamed_39 rfl hl (by decide) rfl (fun ls hl => ?_)
          obtain ⟨v3_5, ev3_5⟩ : ∃ y : Int32, y = v3_2 + 1 := ⟨_, rfl⟩
          have h := bd_e h v3_5 ev3_5
          refine lv_iinc (v := v3_5) (lv' := [(3, .int v3_5), (2, .int 1), (0, .ref (adc 0)), (1, .int p1)]) hx hb dX8_isNamed_40 hl (k := 3) rfl (by rw [ev3_5]; rfl) (by decide) rfl (fun ls hl => ?_)
          refine lv_goto (tgt := 4) hx hb dX8_isNamed_43 (by decide) ?_
          exact ih 1 v3_5 z _ _ _ hN (lv_sub hl [2, 3, 1, 0] rfl) h K
        · have h := if_t h c4
          refine lv_aload_n hx hb dX8_isNamed_18 rfl (lv_at hl 0 rfl) ?_
          refine gt_X8_read hC hN 0 rfl rfl dX8_isNamed_19 ?_
          refine lv_iconst (v := 3) hx hb dX8_isNamed_22 rfl ?_
          refine lv_iconst (v := 4) hx hb dX8_isNamed_23 rfl ?_
          refine lv_iload_n hx hb dX8_isNamed_24 rfl (lv_at hl 3 rfl) ?_
          refine lv_imul hx hb dX8_isNamed_25 ?_
          refine lv_iadd hx hb dX8_isNamed_26 ?_
          refine lv_iconst (v := 1) hx hb dX8_isNamed_27 rfl ?_
          refine lv_iadd hx hb dX8_isNamed_28 ?_
          have g := inB_vp (gd_c h)
          have h := gd_e h
          refine n_iald hC hN 2 rfl g dX8_isNamed_29 ?_
          refine lv_iload_n hx hb dX8_isNamed_30 rfl (lv_at hl 1 rfl) ?_
          refine lv_icmp_ne (tgt := 38) hx hb dX8_isNamed_31 (by decide) (fun c6 => ?_) (fun c6 => ?_)
          · have h := if_f h c6
            refine lv_iconst (v := 0) hx hb dX8_isNamed_38 rfl ?_
            refine lv_istore_n (lv' := [(2, .int 0), (0, .ref (adc 0)), (1, .int p1), (3, .int v3_2)]) hx hb dX8_isNamed_39 rfl hl (by decide) rfl (fun ls hl => ?_)
            obtain ⟨v3_7, ev3_7⟩ : ∃ y : Int32, y = v3_2 + 1 := ⟨_, rfl⟩
            have h := bd_e h v3_7 ev3_7
            refine lv_iinc (v := v3_7) (lv' := [(3, .int v3_7), (2, .int 0), (0, .ref (adc 0)), (1, .int p1)]) hx hb dX8_isNamed_40 hl (k := 3) rfl (by rw [ev3_7]; rfl) (by decide) rfl (fun ls hl => ?_)
            refine lv_goto (tgt := 4) hx hb dX8_isNamed_43 (by decide) ?_
            exact ih 0 v3_7 z _ _ _ hN (lv_sub hl [2, 3, 1, 0] rfl) h K
          · have h := if_t h c6
            refine lv_iconst (v := 1) hx hb dX8_isNamed_34 rfl ?_
            refine lv_goto (tgt := 39) hx hb dX8_isNamed_35 (by decide) ?_
            refine lv_istore_n (lv' := [(2, .int 1), (0, .ref (adc 0)), (1, .int p1), (3, .int v3_2)]) hx hb dX8_isNamed_39 rfl hl (by decide) rfl (fun ls hl => ?_)
            obtain ⟨v3_8, ev3_8⟩ : ∃ y : Int32, y = v3_2 + 1 := ⟨_, rfl⟩
            have h := bd_e h v3_8 ev3_8
            refine lv_iinc (v := v3_8) (lv' := [(3, .int v3_8), (2, .int 1), (0, .ref (adc 0)), (1, .int p1)]) hx hb dX8_isNamed_40 hl (k := 3) rfl (by rw [ev3_8]; rfl) (by decide) rfl (fun ls hl => ?_)
            refine lv_goto (tgt := 4) hx hb dX8_isNamed_43 (by decide) ?_
            exact ih 1 v3_8 z _ _ _ hN (lv_sub hl [2, 3, 1, 0] rfl) h K
  obtain ⟨z_9, hz_9, h⟩ := bi_e h
  refine L1 500 0 0 z_9 _ _ _ hN (lv_sub hl [2, 3, 1, 0] rfl) hz_9 (fun H locs ls hN hl => ?_)
  refine lv_iload_n hx hb dX8_isNamed_46 rfl (lv_at hl 2 rfl) ?_
  have gB := gd_c h
  have h := gd_e h
  obtain rfl := Option.some.inj h
  exact n_zret hC hN gB dX8_isNamed_47
set_option maxHeartbeats 4000000 in
set_option maxRecDepth 100000 in
theorem tX8_readSwitch (l : Launch) (E : EV) (adc : Nat → Nat) (c_now : Nat → Int32) (c_read : Nat → Int32) (c_past : Nat → Int32) (c_deeds : Int32) (c_images : Nat → Int32) (c_isKept : Nat → Int32) (c_text : Nat → Int32) (c_letters : Int32) (c_at : Int32) (c_token : Int32) (c_tokenAt : Int32) (c_value : Int32) (c_facts : Nat → Int32) (c_seen : Int32) (c_seenAhead : Nat → Int32) (c_weakLink : Int32) (c_weakTwos : Int32) (c_which : Nat → Int32) (c_views : Nat → Int32) (c_whichMany : Int32) (z : Int32 × (Nat → Int32) × Int32 × Int32 × Int32 × Int32) (h : fX8_readSwitch c_read c_text c_letters c_at c_token c_tokenAt c_value = some z) : Cn l E yX8_readSwitch cX8_readSwitch 2 (some .boolean) 3 63 [.ref (adc 0)] (wX8 E adc c_now c_read c_past c_deeds c_images c_isKept c_text c_letters c_at c_token c_tokenAt c_value c_facts c_seen c_seenAhead c_weakLink c_weakTwos c_which c_views c_whichMany) (wX8 E adc c_now z.2.1 c_past c_deeds c_images c_isKept c_text c_letters z.2.2.1 z.2.2.2.1 z.2.2.2.2.1 z.2.2.2.2.2 c_facts c_seen c_seenAhead c_weakLink c_weakTwos c_which c_views c_whichMany) (some (.int z.1)) := by
  refine Cn.ofW (by decide +kernel) (Nat.le_of_ble_eq_true rfl) ?_
  intro p e s m args below meth c ls hC hN hl
  have hl : lv_has ls 2 [(0, .ref (adc 0))] := hl
  have hx := hC.1
  have hb := hC.2.1
  unfold fX8_readSwitch at h
  refine lv_aload_n hx hb dX8_readSwitch_0 rfl (lv_at hl 0 rfl) ?_
  refine gt_X8_read hC hN 0 rfl rfl dX8_readSwitch_1 ?_
  refine lv_iconst (v := 0) hx hb dX8_readSwitch_4 rfl ?_
  have g := inB_vp (gd_c h)
  have h := gd_e h
  refine n_iald hC hN 2 rfl g dX8_readSwitch_5 ?_
  refine lv_bipush (v := 6) hx hb dX8_readSwitch_6 (by decide) ?_
  refine lv_icmp_eq (tgt := 20) hx hb dX8_readSwitch_8 (by decide) (fun c1 => ?_) (fun c1 => ?_)
  · have h := if_t h c1
    refine lv_iconst (v := 0) hx hb dX8_readSwitch_20 rfl ?_
    obtain rfl := Option.some.inj h
    exact n_zret hC hN (Or.inl rfl) dX8_readSwitch_21
  · have h := if_f h c1
    refine lv_aload_n hx hb dX8_readSwitch_11 rfl (lv_at hl 0 rfl) ?_
    refine gt_X8_read hC hN 0 rfl rfl dX8_readSwitch_12 ?_
    refine lv_iconst (v := 1) hx hb dX8_readSwitch_15 rfl ?_
    have g := inB_vp (gd_c h)
    have h := gd_e h
    refine n_iald hC hN 2 rfl g dX8_readSwitch_16 ?_
    refine lv_if_le (tgt := 22) hx hb dX8_readSwitch_17 (by decide) (fun c2 => ?_) (fun c2 => ?_)
    · have h := if_t h c2
      refine lv_iconst (v := 3) hx hb dX8_readSwitch_22 rfl ?_
      refine lv_iconst (v := 4) hx hb dX8_readSwitch_23 rfl ?_
      refine lv_aload_n hx hb dX8_readSwitch_24 rfl (lv_at hl 0 rfl) ?_
      refine gt_X8_read hC hN 0 rfl rfl dX8_readSwitch_25 ?_
      refine lv_iconst (v := 0) hx hb dX8_readSwitch_28 rfl ?_
      have g := inB_vp (gd_c h)
      have h := gd_e h
      refine n_iald hC hN 2 rfl g dX8_readSwitch_29 ?_
      refine lv_imul hx hb dX8_readSwitch_30 ?_
      refine lv_iadd hx hb dX8_readSwitch_31 ?_
      refine lv_topi (fun v1_3 ev1_3 => ?_)
      have h := bd_e h v1_3 ev1_3
      refine lv_istore_n (lv' := [(1, .int v1_3), (0, .ref (adc 0))]) hx hb dX8_readSwitch_32 rfl hl (by decide) rfl (fun ls hl => ?_)
      refine lv_aload_n hx hb dX8_readSwitch_33 rfl (lv_at hl 1 rfl) ?_
      obtain ⟨z_4, hz_4, h⟩ := bi_e h
      refine n_callVv (ws' := wX8 E adc c_now c_read c_past c_deeds c_images c_isKept c_text c_letters z_4.1 z_4.2.1 z_4.2.2.1 z_4.2.2.2 c_facts c_seen c_seenAhead c_weakLink c_weakTwos c_which c_views c_whichMany) hC hN (tX8_next l E adc c_now c_read c_past c_deeds c_images c_isKept c_text c_letters c_at c_token c_tokenAt c_value c_facts c_seen c_seenAhead c_weakLink c_weakTwos c_which c_views c_whichMany z_4 hz_4) cy_X8_next mML_X8_72 mIM_X8_next mSE_X8_next rfl rfl (k := 0) rfl (perm_self _) (perm_self _) rfl rfl hl.1 rfl (Nat.le_of_ble_eq_true rfl) dX8_readSwitch_34 ⟨Nat.le_of_ble_eq_true rfl, Nat.le_of_ble_eq_true rfl⟩ ⟨Nat.le_refl _, Nat.le_refl _⟩ (fun H locs hN => ?_)
      refine lv_aload_n hx hb dX8_readSwitch_37 rfl (lv_at hl 1 rfl) ?_
      refine lv_iconst (v := 1) hx hb dX8_readSwitch_38 rfl ?_
      refine lv_bipush (v := 9) hx hb dX8_readSwitch_39 (by decide) ?_
      obtain ⟨r_5, hr_5, h⟩ := bi_e h
      refine n_callVi (ws' := wX8 E adc c_now c_read c_past c_deeds c_images c_isKept c_text c_letters z_4.1 z_4.2.1 z_4.2.2.1 z_4.2.2.2 c_facts c_seen c_seenAhead c_weakLink c_weakTwos c_which c_views c_whichMany) hC hN (tX8_isNumber l E adc c_now c_read c_past c_deeds c_images c_isKept c_text c_letters z_4.1 z_4.2.1 z_4.2.2.1 z_4.2.2.2 c_facts c_seen c_seenAhead c_weakLink c_weakTwos c_which c_views c_whichMany 1 9 r_5 hr_5) cy_X8_isNumber mML_X8_75 mIM_X8_isNumber mSE_X8_isNumber rfl rfl (k := 0) rfl (perm_self _) (perm_self _) rfl rfl hl.1 rfl (Nat.le_of_ble_eq_true rfl) dX8_readSwitch_41 ⟨Nat.le_of_ble_eq_true rfl, Nat.le_of_ble_eq_true rfl⟩ ⟨Nat.le_refl _, Nat.le_refl _⟩ (fun H locs hN => ?_)
      refine lv_if_ne (tgt := 49) hx hb dX8_readSwitch_44 (by decide) (fun c6 => ?_) (fun c6 => ?_)
      · have h := if_f h c6
        refine lv_aload_n hx hb dX8_readSwitch_49 rfl (lv_at hl 1 rfl) ?_
        refine gt_X8_read hC hN 0 rfl rfl dX8_readSwitch_50 ?_
        refine lv_iload_n hx hb dX8_readSwitch_53 rfl (lv_at hl 0 rfl) ?_
        refine lv_iconst (v := 0) hx hb dX8_readSwitch_54 rfl ?_
        refine lv_iadd hx hb dX8_readSwitch_55 ?_
        refine lv_aload_n hx hb dX8_readSwitch_56 rfl (lv_at hl 1 rfl) ?_
        refine gt_X8_value hC hN 0 rfl rfl dX8_readSwitch_57 ?_
        have g := inB_vp (gd_c h)
        have h := gd_e h
        obtain ⟨c_read_7, ec_read_7⟩ : ∃ y : Nat → Int32, y = upd c_read (v1_3 + 0).toNatClampNeg z_4.2.2.2 := ⟨_, rfl⟩
        have h := bd_e h c_read_7 ec_read_7
        refine n_iast hC hN 2 rfl g ec_read_7 (ws' := wX8 E adc c_now c_read_7 c_past c_deeds c_images c_isKept c_text c_letters z_4.1 z_4.2.1 z_4.2.2.1 z_4.2.2.2 c_facts c_seen c_seenAhead c_weakLink c_weakTwos c_which c_views c_whichMany) rfl dX8_readSwitch_60 (fun H locs hN => ?_)
        refine lv_aload_n hx hb dX8_readSwitch_61 rfl (lv_at hl 1 rfl) ?_
        obtain ⟨z_8, hz_8, h⟩ := bi_e h
        refine n_callVv (ws' := wX8 E adc c_now c_read_7 c_past c_deeds c_images c_isKept c_text c_letters z_8.1 z_8.2.1 z_8.2.2.1 z_8.2.2.2 c_facts c_seen c_seenAhead c_weakLink c_weakTwos c_which c_views c_whichMany) hC hN (tX8_next l E adc c_now c_read_7 c_past c_deeds c_images c_isKept c_text c_letters z_4.1 z_4.2.1 z_4.2.2.1 z_4.2.2.2 c_facts c_seen c_seenAhead c_weakLink c_weakTwos c_which c_views c_whichMany z_8 hz_8) cy_X8_next mML_X8_72 mIM_X8_next mSE_X8_next rfl rfl (k := 0) rfl (perm_self _) (perm_self _) rfl rfl hl.1 rfl (Nat.le_of_ble_eq_true rfl) dX8_readSwitch_62 ⟨Nat.le_of_ble_eq_true rfl, Nat.le_of_ble_eq_true rfl⟩ ⟨Nat.le_refl _, Nat.le_refl _⟩ (fun H locs hN => ?_)
        refine lv_aload_n hx hb dX8_readSwitch_65 rfl (lv_at hl 1 rfl) ?_
        refine lv_iconst (v := 0) hx hb dX8_readSwitch_66 rfl ?_
        refine lv_bipush (v := 99) hx hb dX8_readSwitch_67 (by decide) ?_
        obtain ⟨r_9, hr_9, h⟩ := bi_e h
        refine n_callVi (ws' := wX8 E adc c_now c_read_7 c_past c_deeds c_images c_isKept c_text c_letters z_8.1 z_8.2.1 z_8.2.2.1 z_8.2.2.2 c_facts c_seen c_seenAhead c_weakLink c_weakTwos c_which c_views c_whichMany) hC hN (tX8_isNumber l E adc c_now c_read_7 c_past c_deeds c_images c_isKept c_text c_letters z_8.1 z_8.2.1 z_8.2.2.1 z_8.2.2.2 c_facts c_seen c_seenAhead c_weakLink c_weakTwos c_which c_views c_whichMany 0 99 r_9 hr_9) cy_X8_isNumber mML_X8_75 mIM_X8_isNumber mSE_X8_isNumber rfl rfl (k := 0) rfl (perm_self _) (perm_self _) rfl rfl hl.1 rfl (Nat.le_of_ble_eq_true rfl) dX8_readSwitch_69 ⟨Nat.le_of_ble_eq_true rfl, Nat.le_of_ble_eq_true rfl⟩ ⟨Nat.le_refl _, Nat.le_refl _⟩ (fun H locs hN => ?_)
        refine lv_if_eq (tgt := 86) hx hb dX8_readSwitch_72 (by decide) (fun c10 => ?_) (fun c10 => ?_)
        · have h := if_t h c10
          refine lv_iconst (v := 0) hx hb dX8_readSwitch_86 rfl ?_
          obtain rfl := Option.some.inj h
          exact n_zret hC hN (Or.inl rfl) dX8_readSwitch_87
        · have h := if_f h c10
          refine lv_aload_n hx hb dX8_readSwitch_75 rfl (lv_at hl 1 rfl) ?_
          refine lv_aload_n hx hb dX8_readSwitch_76 rfl (lv_at hl 1 rfl) ?_
          refine gt_X8_value hC hN 0 rfl rfl dX8_readSwitch_77 ?_
          obtain ⟨r_11, hr_11, h⟩ := bi_e h
          refine n_callVi (ws' := wX8 E adc c_now c_read_7 c_past c_deeds c_images c_isKept c_text c_letters z_8.1 z_8.2.1 z_8.2.2.1 z_8.2.2.2 c_facts c_seen c_seenAhead c_weakLink c_weakTwos c_which c_views c_whichMany) hC hN (tX8_isNamed l E adc c_now c_read_7 c_past c_deeds c_images c_isKept c_text c_letters z_8.1 z_8.2.1 z_8.2.2.1 z_8.2.2.2 c_facts c_seen c_seenAhead c_weakLink c_weakTwos c_which c_views c_whichMany z_8.2.2.2 r_11 hr_11) cy_X8_isNamed mML_X8_79 mIM_X8_isNamed mSE_X8_isNamed rfl rfl (k := 0) rfl (perm_self _) (perm_self _) rfl rfl hl.1 rfl (Nat.le_of_ble_eq_true rfl) dX8_readSwitch_80 ⟨Nat.le_of_ble_eq_true rfl, Nat.le_of_ble_eq_true rfl⟩ ⟨Nat.le_refl _, Nat.le_refl _⟩ (fun H locs hN => ?_)
          refine lv_if_eq (tgt := 88) hx hb dX8_readSwitch_83 (by decide) (fun c12 => ?_) (fun c12 => ?_)
          · have h := if_t h c12
            refine lv_aload_n hx hb dX8_readSwitch_88 rfl (lv_at hl 1 rfl) ?_
            refine gt_X8_read hC hN 0 rfl rfl dX8_readSwitch_89 ?_
            refine lv_iload_n hx hb dX8_readSwitch_92 rfl (lv_at hl 0 rfl) ?_
            refine lv_iconst (v := 1) hx hb dX8_readSwitch_93 rfl ?_
            refine lv_iadd hx hb dX8_readSwitch_94 ?_
            refine lv_aload_n hx hb dX8_readSwitch_95 rfl (lv_at hl 1 rfl) ?_
            refine gt_X8_value hC hN 0 rfl rfl dX8_readSwitch_96 ?_
            have g := inB_vp (gd_c h)
            have h := gd_e h
            obtain ⟨c_read_13, ec_read_13⟩ : ∃ y : Nat → Int32, y = upd c_read_7 (v1_3 + 1).toNatClampNeg z_8.2.2.2 := ⟨_, rfl⟩
            have h := bd_e h c_read_13 ec_read_13
            refine n_iast hC hN 2 rfl g ec_read_13 (ws' := wX8 E adc c_now c_read_13 c_past c_deeds c_images c_isKept c_text c_letters z_8.1 z_8.2.1 z_8.2.2.1 z_8.2.2.2 c_facts c_seen c_seenAhead c_weakLink c_weakTwos c_which c_views c_whichMany) rfl dX8_readSwitch_99 (fun H locs hN => ?_)
            refine lv_aload_n hx hb dX8_readSwitch_100 rfl (lv_at hl 1 rfl) ?_
            obtain ⟨z_14, hz_14, h⟩ := bi_e h
            refine n_callVv (ws' := wX8 E adc c_now c_read_13 c_past c_deeds c_images c_isKept c_text c_letters z_14.1 z_14.2.1 z_14.2.2.1 z_14.2.2.2 c_facts c_seen c_seenAhead c_weakLink c_weakTwos c_which c_views c_whichMany) hC hN (tX8_next l E adc c_now c_read_13 c_past c_deeds c_images c_isKept c_text c_letters z_8.1 z_8.2.1 z_8.2.2.1 z_8.2.2.2 c_facts c_seen c_seenAhead c_weakLink c_weakTwos c_which c_views c_whichMany z_14 hz_14) cy_X8_next mML_X8_72 mIM_X8_next mSE_X8_next rfl rfl (k := 0) rfl (perm_self _) (perm_self _) rfl rfl hl.1 rfl (Nat.le_of_ble_eq_true rfl) dX8_readSwitch_101 ⟨Nat.le_of_ble_eq_true rfl, Nat.le_of_ble_eq_true rfl⟩ ⟨Nat.le_refl _, Nat.le_refl _⟩ (fun H locs hN => ?_)
            refine lv_aload_n hx hb dX8_readSwitch_104 rfl (lv_at hl 1 rfl) ?_
            refine lv_iconst (v := 0) hx hb dX8_readSwitch_105 rfl ?_
            refine lv_bipush (v := 8) hx hb dX8_readSwitch_106 (by decide) ?_
            obtain ⟨r_15, hr_15, h⟩ := bi_e h
            refine n_callVi (ws' := wX8 E adc c_now c_read_13 c_past c_deeds c_images c_isKept c_text c_letters z_14.1 z_14.2.1 z_14.2.2.1 z_14.2.2.2 c_facts c_seen c_seenAhead c_weakLink c_weakTwos c_which c_views c_whichMany) hC hN (tX8_isNumber l E adc c_now c_read_13 c_past c_deeds c_images c_isKept c_text c_letters z_14.1 z_14.2.1 z_14.2.2.1 z_14.2.2.2 c_facts c_seen c_seenAhead c_weakLink c_weakTwos c_which c_views c_whichMany 0 8 r_15 hr_15) cy_X8_isNumber mML_X8_75 mIM_X8_isNumber mSE_X8_isNumber rfl rfl (k := 0) rfl (perm_self _) (perm_self _) rfl rfl hl.1 rfl (Nat.le_of_ble_eq_true rfl) dX8_readSwitch_108 ⟨Nat.le_of_ble_eq_true rfl, Nat.le_of_ble_eq_true rfl⟩ ⟨Nat.le_refl _, Nat.le_refl _⟩ (fun H locs hN => ?_)
            refine lv_if_ne (tgt := 116) hx hb dX8_readSwitch_111 (by decide) (fun c16 => ?_) (fun c16 => ?_)
            · have h := if_f h c16
              refine lv_aload_n hx hb dX8_readSwitch_116 rfl (lv_at hl 1 rfl) ?_
              refine gt_X8_read hC hN 0 rfl rfl dX8_readSwitch_117 ?_
              refine lv_iload_n hx hb dX8_readSwitch_120 rfl (lv_at hl 0 rfl) ?_
              refine lv_iconst (v := 2) hx hb dX8_readSwitch_121 rfl ?_
              refine lv_iadd hx hb dX8_readSwitch_122 ?_
              refine lv_aload_n hx hb dX8_readSwitch_123 rfl (lv_at hl 1 rfl) ?_
              refine gt_X8_value hC hN 0 rfl rfl dX8_readSwitch_124 ?_
              have g := inB_vp (gd_c h)
              have h := gd_e h
              obtain ⟨c_read_17, ec_read_17⟩ : ∃ y : Nat → Int32, y = upd c_read_13 (v1_3 + 2).toNatClampNeg z_14.2.2.2 := ⟨_, rfl⟩
              have h := bd_e h c_read_17 ec_read_17
              refine n_iast hC hN 2 rfl g ec_read_17 (ws' := wX8 E adc c_now c_read_17 c_past c_deeds c_images c_isKept c_text c_letters z_14.1 z_14.2.1 z_14.2.2.1 z_14.2.2.2 c_facts c_seen c_seenAhead c_weakLink c_weakTwos c_which c_views c_whichMany) rfl dX8_readSwitch_127 (fun H locs hN => ?_)
              refine lv_aload_n hx hb dX8_readSwitch_128 rfl (lv_at hl 1 rfl) ?_
              refine gt_X8_read hC hN 0 rfl rfl dX8_readSwitch_129 ?_
              refine lv_iload_n hx hb dX8_readSwitch_132 rfl (lv_at hl 0 rfl) ?_
              refine lv_iconst (v := 3) hx hb dX8_readSwitch_133 rfl ?_
              refine lv_iadd hx hb dX8_readSwitch_134 ?_
              refine lv_aload_n hx hb dX8_readSwitch_135 rfl (lv_at hl 1 rfl) ?_
              refine gt_X8_value hC hN 0 rfl rfl dX8_readSwitch_136 ?_
              refine lv_if_ne (tgt := 146) hx hb dX8_readSwitch_139 (by decide) (fun c18 => ?_) (fun c18 => ?_)
              · have h := if_f h c18
                refine lv_aload_n hx hb dX8_readSwitch_146 rfl (lv_at hl 1 rfl) ?_
                refine gt_X8_value hC hN 0 rfl rfl dX8_readSwitch_147 ?_
                have g := inB_vp (gd_c h)
                have h := gd_e h
                obtain ⟨c_read_19, ec_read_19⟩ : ∃ y : Nat → Int32, y = upd c_read_17 (v1_3 + 3).toNatClampNeg z_14.2.2.2 := ⟨_, rfl⟩
                have h := bd_e h c_read_19 ec_read_19
                refine n_iast hC hN 2 rfl g ec_read_19 (ws' := wX8 E adc c_now c_read_19 c_past c_deeds c_images c_isKept c_text c_letters z_14.1 z_14.2.1 z_14.2.2.1 z_14.2.2.2 c_facts c_seen c_seenAhead c_weakLink c_weakTwos c_which c_views c_whichMany) rfl dX8_readSwitch_150 (fun H locs hN => ?_)
                refine lv_aload_n hx hb dX8_readSwitch_151 rfl (lv_at hl 1 rfl) ?_
                refine gt_X8_read hC hN 0 rfl rfl dX8_readSwitch_152 ?_
                refine lv_iconst (v := 0) hx hb dX8_readSwitch_155 rfl ?_
                refine lv_dup2_11 hx hb dX8_readSwitch_156 rfl rfl ?_
                have g := inB_vp (gd_c h)
                have h := gd_e h
                refine n_iald hC hN 2 rfl g dX8_readSwitch_157 ?_
                refine lv_iconst (v := 1) hx hb dX8_readSwitch_158 rfl ?_
                refine lv_iadd hx hb dX8_readSwitch_159 ?_
                have g := inB_vp (gd_c h)
                have h := gd_e h
                obtain ⟨c_read_20, ec_read_20⟩ : ∃ y : Nat → Int32, y = upd c_read_19 (0 : Int32).toNatClampNeg ((c_read_19 (0 : Int32).toNatClampNeg) + 1) := ⟨_, rfl⟩
                have h := bd_e h c_read_20 ec_read_20
                refine n_iast hC hN 2 rfl g ec_read_20 (ws' := wX8 E adc c_now c_read_20 c_past c_deeds c_images c_isKept c_text c_letters z_14.1 z_14.2.1 z_14.2.2.1 z_14.2.2.2 c_facts c_seen c_seenAhead c_weakLink c_weakTwos c_which c_views c_whichMany) rfl dX8_readSwitch_160 (fun H locs hN => ?_)
                refine lv_aload_n hx hb dX8_readSwitch_161 rfl (lv_at hl 1 rfl) ?_
                obtain ⟨z_21, hz_21, h⟩ := bi_e h
                refine n_callVv (ws' := wX8 E adc c_now c_read_20 c_past c_deeds c_images c_isKept c_text c_letters z_21.1 z_21.2.1 z_21.2.2.1 z_21.2.2.2 c_facts c_seen c_seenAhead c_weakLink c_weakTwos c_which c_views c_whichMany) hC hN (tX8_next l E adc c_now c_read_20 c_past c_deeds c_images c_isKept c_text c_letters z_14.1 z_14.2.1 z_14.2.2.1 z_14.2.2.2 c_facts c_seen c_seenAhead c_weakLink c_weakTwos c_which c_views c_whichMany z_21 hz_21) cy_X8_next mML_X8_72 mIM_X8_next mSE_X8_next rfl rfl (k := 0) rfl (perm_self _) (perm_self _) rfl rfl hl.1 rfl (Nat.le_of_ble_eq_true rfl) dX8_readSwitch_162 ⟨Nat.le_of_ble_eq_true rfl, Nat.le_of_ble_eq_true rfl⟩ ⟨Nat.le_refl _, Nat.le_refl _⟩ (fun H locs hN => ?_)
                refine lv_aload_n hx hb dX8_readSwitch_165 rfl (lv_at hl 1 rfl) ?_
                refine gt_X8_token hC hN 0 rfl rfl dX8_readSwitch_166 ?_
                refine lv_bipush (v := 59) hx hb dX8_readSwitch_169 (by decide) ?_
                refine lv_icmp_ne (tgt := 178) hx hb dX8_readSwitch_171 (by decide) (fun c22 => ?_) (fun c22 => ?_)
                · have h := if_f h c22
                  refine lv_iconst (v := 0) hx hb dX8_readSwitch_178 rfl ?_
                  obtain rfl := Option.some.inj h
                  exact n_zret hC hN (Or.inl rfl) dX8_readSwitch_179
                · have h := if_t h c22
                  refine lv_iconst (v := 1) hx hb dX8_readSwitch_174 rfl ?_
                  refine lv_goto (tgt := 179) hx hb dX8_readSwitch_175 (by decide) ?_
                  obtain rfl := Option.some.inj h
                  exact n_zret hC hN (Or.inr rfl) dX8_readSwitch_179
              · have h := if_t h c18
                refine lv_iconst (v := 1) hx hb dX8_readSwitch_142 rfl ?_
                refine lv_goto (tgt := 150) hx hb dX8_readSwitch_143 (by decide) ?_
                have g := inB_vp (gd_c h)
                have h := gd_e h
                obtain ⟨c_read_23, ec_read_23⟩ : ∃ y : Nat → Int32, y = upd c_read_17 (v1_3 + 3).toNatClampNeg 1 := ⟨_, rfl⟩
                have h := bd_e h c_read_23 ec_read_23
                refine n_iast hC hN 2 rfl g ec_read_23 (ws' := wX8 E adc c_now c_read_23 c_past c_deeds c_images c_isKept c_text c_letters z_14.1 z_14.2.1 z_14.2.2.1 z_14.2.2.2 c_facts c_seen c_seenAhead c_weakLink c_weakTwos c_which c_views c_whichMany) rfl dX8_readSwitch_150 (fun H locs hN => ?_)
                refine lv_aload_n hx hb dX8_readSwitch_151 rfl (lv_at hl 1 rfl) ?_
                refine gt_X8_read hC hN 0 rfl rfl dX8_readSwitch_152 ?_
                refine lv_iconst (v := 0) hx hb dX8_readSwitch_155 rfl ?_
                refine lv_dup2_11 hx hb dX8_readSwitch_156 rfl rfl ?_
                have g := inB_vp (gd_c h)
                have h := gd_e h
                refine n_iald hC hN 2 rfl g dX8_readSwitch_157 ?_
                refine lv_iconst (v := 1) hx hb dX8_readSwitch_158 rfl ?_
                refine lv_iadd hx hb dX8_readSwitch_159 ?_
                have g := inB_vp (gd_c h)
                have h := gd_e h
                obtain ⟨c_read_24, ec_read_24⟩ : ∃ y : Nat → Int32, y = upd c_read_23 (0 : Int32).toNatClampNeg ((c_read_23 (0 : Int32).toNatClampNeg) + 1) := ⟨_, rfl⟩
                have h := bd_e h c_read_24 ec_read_24
                refine n_iast hC hN 2 rfl g ec_read_24 (ws' := wX8 E adc c_now c_read_24 c_past c_deeds c_images c_isKept c_text c_letters z_14.1 z_14.2.1 z_14.2.2.1 z_14.2.2.2 c_facts c_seen c_seenAhead c_weakLink c_weakTwos c_which c_views c_whichMany) rfl dX8_readSwitch_160 (fun H locs hN => ?_)
                refine lv_aload_n hx hb dX8_readSwitch_161 rfl (lv_at hl 1 rfl) ?_
                obtain ⟨z_25, hz_25, h⟩ := bi_e h
                refine n_callVv (ws' := wX8 E adc c_now c_read_24 c_past c_deeds c_images c_isKept c_text c_letters z_25.1 z_25.2.1 z_25.2.2.1 z_25.2.2.2 c_facts c_seen c_seenAhead c_weakLink c_weakTwos c_which c_views c_whichMany) hC hN (tX8_next l E adc c_now c_read_24 c_past c_deeds c_images c_isKept c_text c_letters z_14.1 z_14.2.1 z_14.2.2.1 z_14.2.2.2 c_facts c_seen c_seenAhead c_weakLink c_weakTwos c_which c_views c_whichMany z_25 hz_25) cy_X8_next mML_X8_72 mIM_X8_next mSE_X8_next rfl rfl (k := 0) rfl (perm_self _) (perm_self _) rfl rfl hl.1 rfl (Nat.le_of_ble_eq_true rfl) dX8_readSwitch_162 ⟨Nat.le_of_ble_eq_true rfl, Nat.le_of_ble_eq_true rfl⟩ ⟨Nat.le_refl _, Nat.le_refl _⟩ (fun H locs hN => ?_)
                refine lv_aload_n hx hb dX8_readSwitch_165 rfl (lv_at hl 1 rfl) ?_
                refine gt_X8_token hC hN 0 rfl rfl dX8_readSwitch_166 ?_
                refine lv_bipush (v := 59) hx hb dX8_readSwitch_169 (by decide) ?_
                refine lv_icmp_ne (tgt := 178) hx hb dX8_readSwitch_171 (by decide) (fun c26 => ?_) (fun c26 => ?_)
                · have h := if_f h c26
                  refine lv_iconst (v := 0) hx hb dX8_readSwitch_178 rfl ?_
                  obtain rfl := Option.some.inj h
                  exact n_zret hC hN (Or.inl rfl) dX8_readSwitch_179
                · have h := if_t h c26
                  refine lv_iconst (v := 1) hx hb dX8_readSwitch_174 rfl ?_
                  refine lv_goto (tgt := 179) hx hb dX8_readSwitch_175 (by decide) ?_
                  obtain rfl := Option.some.inj h
                  exact n_zret hC hN (Or.inr rfl) dX8_readSwitch_179
            · have h := if_t h c16
              refine lv_iconst (v := 0) hx hb dX8_readSwitch_114 rfl ?_
              obtain rfl := Option.some.inj h
              exact n_zret hC hN (Or.inl rfl) dX8_readSwitch_115
          · have h := if_f h c12
            refine lv_iconst (v := 0) hx hb dX8_readSwitch_86 rfl ?_
            obtain rfl := Option.some.inj h
            exact n_zret hC hN (Or.inl rfl) dX8_readSwitch_87
      · have h := if_t h c6
        refine lv_iconst (v := 0) hx hb dX8_readSwitch_47 rfl ?_
        obtain rfl := Option.some.inj h
        exact n_zret hC hN (Or.inl rfl) dX8_readSwitch_48
    · have h := if_f h c2
      refine lv_iconst (v := 0) hx hb dX8_readSwitch_20 rfl ?_
      obtain rfl := Option.some.inj h
      exact n_zret hC hN (Or.inl rfl) dX8_readSwitch_21
set_option maxHeartbeats 4000000 in
set_option maxRecDepth 100000 in
theorem tX8_readHost (l : Launch) (E : EV) (adc : Nat → Nat) (c_now : Nat → Int32) (c_read : Nat → Int32) (c_past : Nat → Int32) (c_deeds : Int32) (c_images : Nat → Int32) (c_isKept : Nat → Int32) (c_text : Nat → Int32) (c_letters : Int32) (c_at : Int32) (c_token : Int32) (c_tokenAt : Int32) (c_value : Int32) (c_facts : Nat → Int32) (c_seen : Int32) (c_seenAhead : Nat → Int32) (c_weakLink : Int32) (c_weakTwos : Int32) (c_which : Nat → Int32) (c_views : Nat → Int32) (c_whichMany : Int32) (z : Int32 × (Nat → Int32) × Int32 × Int32 × Int32 × Int32) (h : fX8_readHost c_read c_text c_letters c_at c_token c_tokenAt c_value = some z) : Cn l E yX8_readHost cX8_readHost 1 (some .boolean) 3 63 [.ref (adc 0)] (wX8 E adc c_now c_read c_past c_deeds c_images c_isKept c_text c_letters c_at c_token c_tokenAt c_value c_facts c_seen c_seenAhead c_weakLink c_weakTwos c_which c_views c_whichMany) (wX8 E adc c_now z.2.1 c_past c_deeds c_images c_isKept c_text c_letters z.2.2.1 z.2.2.2.1 z.2.2.2.2.1 z.2.2.2.2.2 c_facts c_seen c_seenAhead c_weakLink c_weakTwos c_which c_views c_whichMany) (some (.int z.1)) := by
  refine Cn.ofW (by decide +kernel) (Nat.le_of_ble_eq_true rfl) ?_
  intro p e s m args below meth c ls hC hN hl
  have hl : lv_has ls 1 [(0, .ref (adc 0))] := hl
  have hx := hC.1
  have hb := hC.2.1
  unfold fX8_readHost at h
  refine lv_aload_n hx hb dX8_readHost_0 rfl (lv_at hl 0 rfl) ?_
  refine gt_X8_read hC hN 0 rfl rfl dX8_readHost_1 ?_
  refine lv_iconst (v := 1) hx hb dX8_readHost_4 rfl ?_
  have g := inB_vp (gd_c h)
  have h := gd_e h
  refine n_iald hC hN 2 rfl g dX8_readHost_5 ?_
  refine lv_bipush (v := 8) hx hb dX8_readHost_6 (by decide) ?_
  refine lv_icmp_eq (tgt := 20) hx hb dX8_readHost_8 (by decide) (fun c1 => ?_) (fun c1 => ?_)
  · have h := if_t h c1
    refine lv_iconst (v := 0) hx hb dX8_readHost_20 rfl ?_
    obtain rfl := Option.some.inj h
    exact n_zret hC hN (Or.inl rfl) dX8_readHost_21
  · have h := if_f h c1
    refine lv_aload_n hx hb dX8_readHost_11 rfl (lv_at hl 0 rfl) ?_
    refine gt_X8_read hC hN 0 rfl rfl dX8_readHost_12 ?_
    refine lv_iconst (v := 0) hx hb dX8_readHost_15 rfl ?_
    have g := inB_vp (gd_c h)
    have h := gd_e h
    refine n_iald hC hN 2 rfl g dX8_readHost_16 ?_
    refine lv_if_ne (tgt := 22) hx hb dX8_readHost_17 (by decide) (fun c2 => ?_) (fun c2 => ?_)
    · have h := if_f h c2
      refine lv_aload_n hx hb dX8_readHost_22 rfl (lv_at hl 0 rfl) ?_
      obtain ⟨z_3, hz_3, h⟩ := bi_e h
      refine n_callVv (ws' := wX8 E adc c_now c_read c_past c_deeds c_images c_isKept c_text c_letters z_3.1 z_3.2.1 z_3.2.2.1 z_3.2.2.2 c_facts c_seen c_seenAhead c_weakLink c_weakTwos c_which c_views c_whichMany) hC hN (tX8_next l E adc c_now c_read c_past c_deeds c_images c_isKept c_text c_letters c_at c_token c_tokenAt c_value c_facts c_seen c_seenAhead c_weakLink c_weakTwos c_which c_views c_whichMany z_3 hz_3) cy_X8_next mML_X8_72 mIM_X8_next mSE_X8_next rfl rfl (k := 0) rfl (perm_self _) (perm_self _) rfl rfl hl.1 rfl (Nat.le_of_ble_eq_true rfl) dX8_readHost_23 ⟨Nat.le_of_ble_eq_true rfl, Nat.le_of_ble_eq_true rfl⟩ ⟨Nat.le_refl _, Nat.le_refl _⟩ (fun H locs hN => ?_)
      refine lv_aload_n hx hb dX8_readHost_26 rfl (lv_at hl 0 rfl) ?_
      refine gt_X8_token hC hN 0 rfl rfl dX8_readHost_27 ?_
      refine lv_bipush (v := 45) hx hb dX8_readHost_30 (by decide) ?_
      refine lv_icmp_eq (tgt := 53) hx hb dX8_readHost_32 (by decide) (fun c4 => ?_) (fun c4 => ?_)
      · have h := if_t h c4
        refine lv_aload_n hx hb dX8_readHost_53 rfl (lv_at hl 0 rfl) ?_
        refine gt_X8_read hC hN 0 rfl rfl dX8_readHost_54 ?_
        refine lv_bipush (v := 27) hx hb dX8_readHost_57 (by decide) ?_
        refine lv_aload_n hx hb dX8_readHost_59 rfl (lv_at hl 0 rfl) ?_
        refine gt_X8_read hC hN 0 rfl rfl dX8_readHost_60 ?_
        refine lv_iconst (v := 1) hx hb dX8_readHost_63 rfl ?_
        have g := inB_vp (gd_c h)
        have h := gd_e h
        refine n_iald hC hN 2 rfl g dX8_readHost_64 ?_
        refine lv_iadd hx hb dX8_readHost_65 ?_
        refine lv_aload_n hx hb dX8_readHost_66 rfl (lv_at hl 0 rfl) ?_
        refine gt_X8_token hC hN 0 rfl rfl dX8_readHost_67 ?_
        refine lv_bipush (v := 45) hx hb dX8_readHost_70 (by decide) ?_
        refine lv_icmp_ne (tgt := 80) hx hb dX8_readHost_72 (by decide) (fun c5 => ?_) (fun c5 => ?_)
        · have h := if_f h c5
          refine lv_aload_n hx hb dX8_readHost_80 rfl (lv_at hl 0 rfl) ?_
          refine gt_X8_value hC hN 0 rfl rfl dX8_readHost_81 ?_
          have g := inB_vp (gd_c h)
          have h := gd_e h
          obtain ⟨c_read_6, ec_read_6⟩ : ∃ y : Nat → Int32, y = upd c_read (27 + (c_read (1 : Int32).toNatClampNeg)).toNatClampNeg z_3.2.2.2 := ⟨_, rfl⟩
          have h := bd_e h c_read_6 ec_read_6
          refine n_iast hC hN 2 rfl g ec_read_6 (ws' := wX8 E adc c_now c_read_6 c_past c_deeds c_images c_isKept c_text c_letters z_3.1 z_3.2.1 z_3.2.2.1 z_3.2.2.2 c_facts c_seen c_seenAhead c_weakLink c_weakTwos c_which c_views c_whichMany) rfl dX8_readHost_84 (fun H locs hN => ?_)
          refine lv_aload_n hx hb dX8_readHost_85 rfl (lv_at hl 0 rfl) ?_
          refine gt_X8_read hC hN 0 rfl rfl dX8_readHost_86 ?_
          refine lv_iconst (v := 1) hx hb dX8_readHost_89 rfl ?_
          refine lv_dup2_11 hx hb dX8_readHost_90 rfl rfl ?_
          have g := inB_vp (gd_c h)
          have h := gd_e h
          refine n_iald hC hN 2 rfl g dX8_readHost_91 ?_
          refine lv_iconst (v := 1) hx hb dX8_readHost_92 rfl ?_
          refine lv_iadd hx hb dX8_readHost_93 ?_
          have g := inB_vp (gd_c h)
          have h := gd_e h
          obtain ⟨c_read_7, ec_read_7⟩ : ∃ y : Nat → Int32, y = upd c_read_6 (1 : Int32).toNatClampNeg ((c_read_6 (1 : Int32).toNatClampNeg) + 1) := ⟨_, rfl⟩
          have h := bd_e h c_read_7 ec_read_7
          refine n_iast hC hN 2 rfl g ec_read_7 (ws' := wX8 E adc c_now c_read_7 c_past c_deeds c_images c_isKept c_text c_letters z_3.1 z_3.2.1 z_3.2.2.1 z_3.2.2.2 c_facts c_seen c_seenAhead c_weakLink c_weakTwos c_which c_views c_whichMany) rfl dX8_readHost_94 (fun H locs hN => ?_)
          refine lv_aload_n hx hb dX8_readHost_95 rfl (lv_at hl 0 rfl) ?_
          obtain ⟨z_8, hz_8, h⟩ := bi_e h
          refine n_callVv (ws' := wX8 E adc c_now c_read_7 c_past c_deeds c_images c_isKept c_text c_letters z_8.1 z_8.2.1 z_8.2.2.1 z_8.2.2.2 c_facts c_seen c_seenAhead c_weakLink c_weakTwos c_which c_views c_whichMany) hC hN (tX8_next l E adc c_now c_read_7 c_past c_deeds c_images c_isKept c_text c_letters z_3.1 z_3.2.1 z_3.2.2.1 z_3.2.2.2 c_facts c_seen c_seenAhead c_weakLink c_weakTwos c_which c_views c_whichMany z_8 hz_8) cy_X8_next mML_X8_72 mIM_X8_next mSE_X8_next rfl rfl (k := 0) rfl (perm_self _) (perm_self _) rfl rfl hl.1 rfl (Nat.le_of_ble_eq_true rfl) dX8_readHost_96 ⟨Nat.le_of_ble_eq_true rfl, Nat.le_of_ble_eq_true rfl⟩ ⟨Nat.le_refl _, Nat.le_refl _⟩ (fun H locs hN => ?_)
          refine lv_aload_n hx hb dX8_readHost_99 rfl (lv_at hl 0 rfl) ?_
          refine gt_X8_token hC hN 0 rfl rfl dX8_readHost_100 ?_
          refine lv_bipush (v := 59) hx hb dX8_readHost_103 (by decide) ?_
          refine lv_icmp_ne (tgt := 112) hx hb dX8_readHost_105 (by decide) (fun c9 => ?_) (fun c9 => ?_)
          · have h := if_f h c9
            refine lv_iconst (v := 0) hx hb dX8_readHost_112 rfl ?_
            obtain rfl := Option.some.inj h
            exact n_zret hC hN (Or.inl rfl) dX8_readHost_113
          · have h := if_t h c9
            refine lv_iconst (v := 1) hx hb dX8_readHost_108 rfl ?_
            refine lv_goto (tgt := 113) hx hb dX8_readHost_109 (by decide) ?_
            obtain rfl := Option.some.inj h
            exact n_zret hC hN (Or.inr rfl) dX8_readHost_113
        · have h := if_t h c5
          refine lv_bipush (v := -9) hx hb dX8_readHost_75 (by decide) ?_
          refine lv_goto (tgt := 84) hx hb dX8_readHost_77 (by decide) ?_
          have g := inB_vp (gd_c h)
          have h := gd_e h
          obtain ⟨c_read_10, ec_read_10⟩ : ∃ y : Nat → Int32, y = upd c_read (27 + (c_read (1 : Int32).toNatClampNeg)).toNatClampNeg (-9) := ⟨_, rfl⟩
          have h := bd_e h c_read_10 ec_read_10
          refine n_iast hC hN 2 rfl g ec_read_10 (ws' := wX8 E adc c_now c_read_10 c_past c_deeds c_images c_isKept c_text c_letters z_3.1 z_3.2.1 z_3.2.2.1 z_3.2.2.2 c_facts c_seen c_seenAhead c_weakLink c_weakTwos c_which c_views c_whichMany) rfl dX8_readHost_84 (fun H locs hN => ?_)
          refine lv_aload_n hx hb dX8_readHost_85 rfl (lv_at hl 0 rfl) ?_
          refine gt_X8_read hC hN 0 rfl rfl dX8_readHost_86 ?_
          refine lv_iconst (v := 1) hx hb dX8_readHost_89 rfl ?_
          refine lv_dup2_11 hx hb dX8_readHost_90 rfl rfl ?_
          have g := inB_vp (gd_c h)
          have h := gd_e h
          refine n_iald hC hN 2 rfl g dX8_readHost_91 ?_
          refine lv_iconst (v := 1) hx hb dX8_readHost_92 rfl ?_
          refine lv_iadd hx hb dX8_readHost_93 ?_
          have g := inB_vp (gd_c h)
          have h := gd_e h
          obtain ⟨c_read_11, ec_read_11⟩ : ∃ y : Nat → Int32, y = upd c_read_10 (1 : Int32).toNatClampNeg ((c_read_10 (1 : Int32).toNatClampNeg) + 1) := ⟨_, rfl⟩
          have h := bd_e h c_read_11 ec_read_11
          refine n_iast hC hN 2 rfl g ec_read_11 (ws' := wX8 E adc c_now c_read_11 c_past c_deeds c_images c_isKept c_text c_letters z_3.1 z_3.2.1 z_3.2.2.1 z_3.2.2.2 c_facts c_seen c_seenAhead c_weakLink c_weakTwos c_which c_views c_whichMany) rfl dX8_readHost_94 (fun H locs hN => ?_)
          refine lv_aload_n hx hb dX8_readHost_95 rfl (lv_at hl 0 rfl) ?_
          obtain ⟨z_12, hz_12, h⟩ := bi_e h
          refine n_callVv (ws' := wX8 E adc c_now c_read_11 c_past c_deeds c_images c_isKept c_text c_letters z_12.1 z_12.2.1 z_12.2.2.1 z_12.2.2.2 c_facts c_seen c_seenAhead c_weakLink c_weakTwos c_which c_views c_whichMany) hC hN (tX8_next l E adc c_now c_read_11 c_past c_deeds c_images c_isKept c_text c_letters z_3.1 z_3.2.1 z_3.2.2.1 z_3.2.2.2 c_facts c_seen c_seenAhead c_weakLink c_weakTwos c_which c_views c_whichMany z_12 hz_12) cy_X8_next mML_X8_72 mIM_X8_next mSE_X8_next rfl rfl (k := 0) rfl (perm_self _) (perm_self _) rfl rfl hl.1 rfl (Nat.le_of_ble_eq_true rfl) dX8_readHost_96 ⟨Nat.le_of_ble_eq_true rfl, Nat.le_of_ble_eq_true rfl⟩ ⟨Nat.le_refl _, Nat.le_refl _⟩ (fun H locs hN => ?_)
          refine lv_aload_n hx hb dX8_readHost_99 rfl (lv_at hl 0 rfl) ?_
          refine gt_X8_token hC hN 0 rfl rfl dX8_readHost_100 ?_
          refine lv_bipush (v := 59) hx hb dX8_readHost_103 (by decide) ?_
          refine lv_icmp_ne (tgt := 112) hx hb dX8_readHost_105 (by decide) (fun c13 => ?_) (fun c13 => ?_)
          · have h := if_f h c13
            refine lv_iconst (v := 0) hx hb dX8_readHost_112 rfl ?_
            obtain rfl := Option.some.inj h
            exact n_zret hC hN (Or.inl rfl) dX8_readHost_113
          · have h := if_t h c13
            refine lv_iconst (v := 1) hx hb dX8_readHost_108 rfl ?_
            refine lv_goto (tgt := 113) hx hb dX8_readHost_109 (by decide) ?_
            obtain rfl := Option.some.inj h
            exact n_zret hC hN (Or.inr rfl) dX8_readHost_113
      · have h := if_f h c4
        refine lv_aload_n hx hb dX8_readHost_35 rfl (lv_at hl 0 rfl) ?_
        refine lv_iconst (v := 0) hx hb dX8_readHost_36 rfl ?_
        refine lv_aload_n hx hb dX8_readHost_37 rfl (lv_at hl 0 rfl) ?_
        refine gt_X8_read hC hN 0 rfl rfl dX8_readHost_38 ?_
        refine lv_iconst (v := 0) hx hb dX8_readHost_41 rfl ?_
        have g := inB_vp (gd_c h)
        have h := gd_e h
        refine n_iald hC hN 2 rfl g dX8_readHost_42 ?_
        refine lv_iconst (v := 1) hx hb dX8_readHost_43 rfl ?_
        refine lv_isub hx hb dX8_readHost_44 ?_
        obtain ⟨r_14, hr_14, h⟩ := bi_e h
        refine n_callVi (ws' := wX8 E adc c_now c_read c_past c_deeds c_images c_isKept c_text c_letters z_3.1 z_3.2.1 z_3.2.2.1 z_3.2.2.2 c_facts c_seen c_seenAhead c_weakLink c_weakTwos c_which c_views c_whichMany) hC hN (tX8_isNumber l E adc c_now c_read c_past c_deeds c_images c_isKept c_text c_letters z_3.1 z_3.2.1 z_3.2.2.1 z_3.2.2.2 c_facts c_seen c_seenAhead c_weakLink c_weakTwos c_which c_views c_whichMany 0 ((c_read (0 : Int32).toNatClampNeg) - 1) r_14 hr_14) cy_X8_isNumber mML_X8_75 mIM_X8_isNumber mSE_X8_isNumber rfl rfl (k := 0) rfl (perm_self _) (perm_self _) rfl rfl hl.1 rfl (Nat.le_of_ble_eq_true rfl) dX8_readHost_45 ⟨Nat.le_of_ble_eq_true rfl, Nat.le_of_ble_eq_true rfl⟩ ⟨Nat.le_refl _, Nat.le_refl _⟩ (fun H locs hN => ?_)
        refine lv_if_ne (tgt := 53) hx hb dX8_readHost_48 (by decide) (fun c15 => ?_) (fun c15 => ?_)
        · have h := if_f h c15
          refine lv_aload_n hx hb dX8_readHost_53 rfl (lv_at hl 0 rfl) ?_
          refine gt_X8_read hC hN 0 rfl rfl dX8_readHost_54 ?_
          refine lv_bipush (v := 27) hx hb dX8_readHost_57 (by decide) ?_
          refine lv_aload_n hx hb dX8_readHost_59 rfl (lv_at hl 0 rfl) ?_
          refine gt_X8_read hC hN 0 rfl rfl dX8_readHost_60 ?_
          refine lv_iconst (v := 1) hx hb dX8_readHost_63 rfl ?_
          have g := inB_vp (gd_c h)
          have h := gd_e h
          refine n_iald hC hN 2 rfl g dX8_readHost_64 ?_
          refine lv_iadd hx hb dX8_readHost_65 ?_
          refine lv_aload_n hx hb dX8_readHost_66 rfl (lv_at hl 0 rfl) ?_
          refine gt_X8_token hC hN 0 rfl rfl dX8_readHost_67 ?_
          refine lv_bipush (v := 45) hx hb dX8_readHost_70 (by decide) ?_
          refine lv_icmp_ne (tgt := 80) hx hb dX8_readHost_72 (by decide) (fun c16 => ?_) (fun c16 => ?_)
          · have h := if_f h c16
            refine lv_aload_n hx hb dX8_readHost_80 rfl (lv_at hl 0 rfl) ?_
            refine gt_X8_value hC hN 0 rfl rfl dX8_readHost_81 ?_
            have g := inB_vp (gd_c h)
            have h := gd_e h
            obtain ⟨c_read_17, ec_read_17⟩ : ∃ y : Nat → Int32, y = upd c_read (27 + (c_read (1 : Int32).toNatClampNeg)).toNatClampNeg z_3.2.2.2 := ⟨_, rfl⟩
            have h := bd_e h c_read_17 ec_read_17
            refine n_iast hC hN 2 rfl g ec_read_17 (ws' := wX8 E adc c_now c_read_17 c_past c_deeds c_images c_isKept c_text c_letters z_3.1 z_3.2.1 z_3.2.2.1 z_3.2.2.2 c_facts c_seen c_seenAhead c_weakLink c_weakTwos c_which c_views c_whichMany) rfl dX8_readHost_84 (fun H locs hN => ?_)
            refine lv_aload_n hx hb dX8_readHost_85 rfl (lv_at hl 0 rfl) ?_
            refine gt_X8_read hC hN 0 rfl rfl dX8_readHost_86 ?_
            refine lv_iconst (v := 1) hx hb dX8_readHost_89 rfl ?_
            refine lv_dup2_11 hx hb dX8_readHost_90 rfl rfl ?_
            have g := inB_vp (gd_c h)
            have h := gd_e h
            refine n_iald hC hN 2 rfl g dX8_readHost_91 ?_
            refine lv_iconst (v := 1) hx hb dX8_readHost_92 rfl ?_
            refine lv_iadd hx hb dX8_readHost_93 ?_
            have g := inB_vp (gd_c h)
            have h := gd_e h
            obtain ⟨c_read_18, ec_read_18⟩ : ∃ y : Nat → Int32, y = upd c_read_17 (1 : Int32).toNatClampNeg ((c_read_17 (1 : Int32).toNatClampNeg) + 1) := ⟨_, rfl⟩
            have h := bd_e h c_read_18 ec_read_18
            refine n_iast hC hN 2 rfl g ec_read_18 (ws' := wX8 E adc c_now c_read_18 c_past c_deeds c_images c_isKept c_text c_letters z_3.1 z_3.2.1 z_3.2.2.1 z_3.2.2.2 c_facts c_seen c_seenAhead c_weakLink c_weakTwos c_which c_views c_whichMany) rfl dX8_readHost_94 (fun H locs hN => ?_)
            refine lv_aload_n hx hb dX8_readHost_95 rfl (lv_at hl 0 rfl) ?_
            obtain ⟨z_19, hz_19, h⟩ := bi_e h
            refine n_callVv (ws' := wX8 E adc c_now c_read_18 c_past c_deeds c_images c_isKept c_text c_letters z_19.1 z_19.2.1 z_19.2.2.1 z_19.2.2.2 c_facts c_seen c_seenAhead c_weakLink c_weakTwos c_which c_views c_whichMany) hC hN (tX8_next l E adc c_now c_read_18 c_past c_deeds c_images c_isKept c_text c_letters z_3.1 z_3.2.1 z_3.2.2.1 z_3.2.2.2 c_facts c_seen c_seenAhead c_weakLink c_weakTwos c_which c_views c_whichMany z_19 hz_19) cy_X8_next mML_X8_72 mIM_X8_next mSE_X8_next rfl rfl (k := 0) rfl (perm_self _) (perm_self _) rfl rfl hl.1 rfl (Nat.le_of_ble_eq_true rfl) dX8_readHost_96 ⟨Nat.le_of_ble_eq_true rfl, Nat.le_of_ble_eq_true rfl⟩ ⟨Nat.le_refl _, Nat.le_refl _⟩ (fun H locs hN => ?_)
            refine lv_aload_n hx hb dX8_readHost_99 rfl (lv_at hl 0 rfl) ?_
            refine gt_X8_token hC hN 0 rfl rfl dX8_readHost_100 ?_
            refine lv_bipush (v := 59) hx hb dX8_readHost_103 (by decide) ?_
            refine lv_icmp_ne (tgt := 112) hx hb dX8_readHost_105 (by decide) (fun c20 => ?_) (fun c20 => ?_)
            · have h := if_f h c20
              refine lv_iconst (v := 0) hx hb dX8_readHost_112 rfl ?_
              obtain rfl := Option.some.inj h
              exact n_zret hC hN (Or.inl rfl) dX8_readHost_113
            · have h := if_t h c20
              refine lv_iconst (v := 1) hx hb dX8_readHost_108 rfl ?_
              refine lv_goto (tgt := 113) hx hb dX8_readHost_109 (by decide) ?_
              obtain rfl := Option.some.inj h
              exact n_zret hC hN (Or.inr rfl) dX8_readHost_113
          · have h := if_t h c16
            refine lv_bipush (v := -9) hx hb dX8_readHost_75 (by decide) ?_
            refine lv_goto (tgt := 84) hx hb dX8_readHost_77 (by decide) ?_
            have g := inB_vp (gd_c h)
            have h := gd_e h
            obtain ⟨c_read_21, ec_read_21⟩ : ∃ y : Nat → Int32, y = upd c_read (27 + (c_read (1 : Int32).toNatClampNeg)).toNatClampNeg (-9) := ⟨_, rfl⟩
            have h := bd_e h c_read_21 ec_read_21
            refine n_iast hC hN 2 rfl g ec_read_21 (ws' := wX8 E adc c_now c_read_21 c_past c_deeds c_images c_isKept c_text c_letters z_3.1 z_3.2.1 z_3.2.2.1 z_3.2.2.2 c_facts c_seen c_seenAhead c_weakLink c_weakTwos c_which c_views c_whichMany) rfl dX8_readHost_84 (fun H locs hN => ?_)
            refine lv_aload_n hx hb dX8_readHost_85 rfl (lv_at hl 0 rfl) ?_
            refine gt_X8_read hC hN 0 rfl rfl dX8_readHost_86 ?_
            refine lv_iconst (v := 1) hx hb dX8_readHost_89 rfl ?_
            refine lv_dup2_11 hx hb dX8_readHost_90 rfl rfl ?_
            have g := inB_vp (gd_c h)
            have h := gd_e h
            refine n_iald hC hN 2 rfl g dX8_readHost_91 ?_
            refine lv_iconst (v := 1) hx hb dX8_readHost_92 rfl ?_
            refine lv_iadd hx hb dX8_readHost_93 ?_
            have g := inB_vp (gd_c h)
            have h := gd_e h
            obtain ⟨c_read_22, ec_read_22⟩ : ∃ y : Nat → Int32, y = upd c_read_21 (1 : Int32).toNatClampNeg ((c_read_21 (1 : Int32).toNatClampNeg) + 1) := ⟨_, rfl⟩
            have h := bd_e h c_read_22 ec_read_22
            refine n_iast hC hN 2 rfl g ec_read_22 (ws' := wX8 E adc c_now c_read_22 c_past c_deeds c_images c_isKept c_text c_letters z_3.1 z_3.2.1 z_3.2.2.1 z_3.2.2.2 c_facts c_seen c_seenAhead c_weakLink c_weakTwos c_which c_views c_whichMany) rfl dX8_readHost_94 (fun H locs hN => ?_)
            refine lv_aload_n hx hb dX8_readHost_95 rfl (lv_at hl 0 rfl) ?_
            obtain ⟨z_23, hz_23, h⟩ := bi_e h
            refine n_callVv (ws' := wX8 E adc c_now c_read_22 c_past c_deeds c_images c_isKept c_text c_letters z_23.1 z_23.2.1 z_23.2.2.1 z_23.2.2.2 c_facts c_seen c_seenAhead c_weakLink c_weakTwos c_which c_views c_whichMany) hC hN (tX8_next l E adc c_now c_read_22 c_past c_deeds c_images c_isKept c_text c_letters z_3.1 z_3.2.1 z_3.2.2.1 z_3.2.2.2 c_facts c_seen c_seenAhead c_weakLink c_weakTwos c_which c_views c_whichMany z_23 hz_23) cy_X8_next mML_X8_72 mIM_X8_next mSE_X8_next rfl rfl (k := 0) rfl (perm_self _) (perm_self _) rfl rfl hl.1 rfl (Nat.le_of_ble_eq_true rfl) dX8_readHost_96 ⟨Nat.le_of_ble_eq_true rfl, Nat.le_of_ble_eq_true rfl⟩ ⟨Nat.le_refl _, Nat.le_refl _⟩ (fun H locs hN => ?_)
            refine lv_aload_n hx hb dX8_readHost_99 rfl (lv_at hl 0 rfl) ?_
            refine gt_X8_token hC hN 0 rfl rfl dX8_readHost_100 ?_
            refine lv_bipush (v := 59) hx hb dX8_readHost_103 (by decide) ?_
            refine lv_icmp_ne (tgt := 112) hx hb dX8_readHost_105 (by decide) (fun c24 => ?_) (fun c24 => ?_)
            · have h := if_f h c24
              refine lv_iconst (v := 0) hx hb dX8_readHost_112 rfl ?_
              obtain rfl := Option.some.inj h
              exact n_zret hC hN (Or.inl rfl) dX8_readHost_113
            · have h := if_t h c24
              refine lv_iconst (v := 1) hx hb dX8_readHost_108 rfl ?_
              refine lv_goto (tgt := 113) hx hb dX8_readHost_109 (by decide) ?_
              obtain rfl := Option.some.inj h
              exact n_zret hC hN (Or.inr rfl) dX8_readHost_113
        · have h := if_t h c15
          refine lv_iconst (v := 0) hx hb dX8_readHost_51 rfl ?_
          obtain rfl := Option.some.inj h
          exact n_zret hC hN (Or.inl rfl) dX8_readHost_52
    · have h := if_t h c2
      refine lv_iconst (v := 0) hx hb dX8_readHost_20 rfl ?_
      obtain rfl := Option.some.inj h
      exact n_zret hC hN (Or.inl rfl) dX8_readHost_21
set_option maxHeartbeats 4000000 in
set_option maxRecDepth 100000 in
theorem tX8_readText (l : Launch) (E : EV) (adc : Nat → Nat) (c_now : Nat → Int32) (c_read : Nat → Int32) (c_past : Nat → Int32) (c_deeds : Int32) (c_images : Nat → Int32) (c_isKept : Nat → Int32) (c_text : Nat → Int32) (c_letters : Int32) (c_at : Int32) (c_token : Int32) (c_tokenAt : Int32) (c_value : Int32) (c_facts : Nat → Int32) (c_seen : Int32) (c_seenAhead : Nat → Int32) (c_weakLink : Int32) (c_weakTwos : Int32) (c_which : Nat → Int32) (c_views : Nat → Int32) (c_whichMany : Int32) (z : Int32 × (Nat → Int32) × Int32 × Int32 × Int32 × Int32) (h : fX8_readText c_read c_text c_letters c_value = some z) : Cn l E yX8_readText cX8_readText 2 (some .int) 4 84 [.ref (adc 0)] (wX8 E adc c_now c_read c_past c_deeds c_images c_isKept c_text c_letters c_at c_token c_tokenAt c_value c_facts c_seen c_seenAhead c_weakLink c_weakTwos c_which c_views c_whichMany) (wX8 E adc c_now z.2.1 c_past c_deeds c_images c_isKept c_text c_letters z.2.2.1 z.2.2.2.1 z.2.2.2.2.1 z.2.2.2.2.2 c_facts c_seen c_seenAhead c_weakLink c_weakTwos c_which c_views c_whichMany) (some (.int z.1)) := by
  refine Cn.ofW (by decide +kernel) (Nat.le_of_ble_eq_true rfl) ?_
  intro p e s m args below meth c ls hC hN hl
  obtain ⟨z0, hz0⟩ : ∃ y, y = z := ⟨_, rfl⟩
  rw [← hz0] at h ⊢
  clear hz0
  have hl : lv_has ls 2 [(0, .ref (adc 0))] := hl
  have hx := hC.1
  have hb := hC.2.1
  unfold fX8_readText at h
  refine lv_iconst (v := 0) hx hb dX8_readText_0 rfl ?_
  refine lv_istore_n (lv' := [(1, .int 0), (0, .ref (adc 0))]) hx hb dX8_readText_1 rfl hl (by decide) rfl (fun ls hl => ?_)
  have L1 : ∀ (fu : Nat) (v1_1 : Int32) (c_read_2 : Nat → Int32) (z : Int32 × (Nat → Int32)) (H : Heap) (locs : List Loc) (ls : Array Slot), Nw E s (AD (wX8 E adc c_now c_read c_past c_deeds c_images c_isKept c_text c_letters c_at c_token c_tokenAt c_value c_facts c_seen c_seenAhead c_weakLink c_weakTwos c_which c_views c_whichMany)) (wX8 E adc c_now c_read_2 c_past c_deeds c_images c_isKept c_text c_letters c_at c_token c_tokenAt c_value c_facts c_seen c_seenAhead c_weakLink c_weakTwos c_which c_views c_whichMany) H locs → lv_has ls 2 [(0, .ref (adc 0)), (1, .int v1_1)] → fX8_readText_L1 fu v1_1 c_read_2 = some z → (∀ (H : Heap) (locs : List Loc) (ls : Array Slot), Nw E s (AD (wX8 E adc c_now c_read c_past c_deeds c_images c_isKept c_text c_letters c_at c_token c_tokenAt c_value c_facts c_seen c_seenAhead c_weakLink c_weakTwos c_which c_views c_whichMany)) (wX8 E adc c_now z.2 c_past c_deeds c_images c_isKept c_text c_letters c_at c_token c_tokenAt c_value c_facts c_seen c_seenAhead c_weakLink c_weakTwos c_which c_views c_whichMany) H locs → lv_has ls 2 [(0, .ref (adc 0)), (1, .int z.1)] → WN p l e 4 84 s m args below meth c E (wX8 E adc c_now c_read c_past c_deeds c_images c_isKept c_text c_letters c_at c_token c_tokenAt c_value c_facts c_seen c_seenAhead c_weakLink c_weakTwos c_which c_views c_whichMany) (some (.int z0.1)) (wX8 E adc c_now z0.2.1 c_past c_deeds c_images c_isKept c_text c_letters z0.2.2.1 z0.2.2.2.1 z0.2.2.2.2.1 z0.2.2.2.2.2 c_facts c_seen c_seenAhead c_weakLink c_weakTwos c_which c_views c_whichMany) H locs (F0 m 38 ls [])) → WN p l e 4 84 s m args below meth c E (wX8 E adc c_now c_read c_past c_deeds c_images c_isKept c_text c_letters c_at c_token c_tokenAt c_value c_facts c_seen c_seenAhead c_weakLink c_weakTwos c_which c_views c_whichMany) (some (.int z0.1)) (wX8 E adc c_now z0.2.1 c_past c_deeds c_images c_isKept c_text c_letters z0.2.2.1 z0.2.2.2.1 z0.2.2.2.2.1 z0.2.2.2.2.2 c_facts c_seen c_seenAhead c_weakLink c_weakTwos c_which c_views c_whichMany) H locs (F0 m 2 ls []) := by
    intro fu
    induction fu with
    | zero =>
      intro v1_1 c_read_2 z H locs ls hN hl h K
      cases (show (none : Option (Int32 × (Nat → Int32))) = some z from h)
    | succ fu ih =>
      intro v1_1 c_read_2 z H locs ls hN hl h K
      rw [fX8_readText_L1.eq_2] at h
      refine lv_iload_n hx hb dX8_readText_2 rfl (lv_at hl 1 rfl) ?_
      refine lv_bipush (v := 87) hx hb dX8_readText_3 (by decide) ?_
      refine lv_icmp_ge (tgt := 38) hx hb dX8_readText_5 (by decide) (fun c3 => ?_) (fun c3 => ?_)
      · have h := if_t h c3
        obtain rfl := Option.some.inj h
        exact K _ _ _ hN (lv_sub hl [0, 1] rfl)
      · have h := if_f h c3
        refine lv_aload_n hx hb dX8_readText_8 rfl (lv_at hl 0 rfl) ?_
        refine gt_X8_read hC hN 0 rfl rfl dX8_readText_9 ?_
        refine lv_iload_n hx hb dX8_readText_12 rfl (lv_at hl 1 rfl) ?_
        refine lv_iload_n hx hb dX8_readText_13 rfl (lv_at hl 1 rfl) ?_
        refine lv_bipush (v := 27) hx hb dX8_readText_14 (by decide) ?_
        refine lv_icmp_lt (tgt := 30) hx hb dX8_readText_16 (by decide) (fun c4 => ?_) (fun c4 => ?_)
        · have h := if_t h c4
          refine lv_iconst (v := 0) hx hb dX8_readText_30 rfl ?_
          have g := inB_vp (gd_c h)
          have h := gd_e h
          obtain ⟨c_read_5, ec_read_5⟩ : ∃ y : Nat → Int32, y = upd c_read_2 v1_1.toNatClampNeg 0 := ⟨_, rfl⟩
          have h := bd_e h c_read_5 ec_read_5
          refine n_iast hC hN 2 rfl g ec_read_5 (ws' := wX8 E adc c_now c_read_5 c_past c_deeds c_images c_isKept c_text c_letters c_at c_token c_tokenAt c_value c_facts c_seen c_seenAhead c_weakLink c_weakTwos c_which c_views c_whichMany) rfl dX8_readText_31 (fun H locs hN => ?_)
          obtain ⟨v1_6, ev1_6⟩ : ∃ y : Int32, y = v1_1 + 1 := ⟨_, rfl⟩
          have h := bd_e h v1_6 ev1_6
          refine lv_iinc (v := v1_6) (lv' := [(1, .int v1_6), (0, .ref (adc 0))]) hx hb dX8_readText_32 hl (k := 1) rfl (by rw [ev1_6]; rfl) (by decide) rfl (fun ls hl => ?_)
          refine lv_goto (tgt := 2) hx hb dX8_readText_35 (by decide) ?_
          exact ih v1_6 c_read_5 z _ _ _ hN (lv_sub hl [1, 0] rfl) h K
        · have h := if_f h c4
          refine lv_iload_n hx hb dX8_readText_19 rfl (lv_at hl 1 rfl) ?_
          refine lv_bipush (v := 35) hx hb dX8_readText_20 (by decide) ?_
          refine lv_icmp_ge (tgt := 30) hx hb dX8_readText_22 (by decide) (fun c7 => ?_) (fun c7 => ?_)
          · have h := if_t h c7
            refine lv_iconst (v := 0) hx hb dX8_readText_30 rfl ?_
            have g := inB_vp (gd_c h)
            have h := gd_e h
            obtain ⟨c_read_8, ec_read_8⟩ : ∃ y : Nat → Int32, y = upd c_read_2 v1_1.toNatClampNeg 0 := ⟨_, rfl⟩
            have h := bd_e h c_read_8 ec_read_8
            refine n_iast hC hN 2 rfl g ec_read_8 (ws' := wX8 E adc c_now c_read_8 c_past c_deeds c_images c_isKept c_text c_letters c_at c_token c_tokenAt c_value c_facts c_seen c_seenAhead c_weakLink c_weakTwos c_which c_views c_whichMany) rfl dX8_readText_31 (fun H locs hN => ?_)
            obtain ⟨v1_9, ev1_9⟩ : ∃ y : Int32, y = v1_1 + 1 := ⟨_, rfl⟩
            have h := bd_e h v1_9 ev1_9
            refine lv_iinc (v := v1_9) (lv' := [(1, .int v1_9), (0, .ref (adc 0))]) hx hb dX8_readText_32 hl (k := 1) rfl (by rw [ev1_9]; rfl) (by decide) rfl (fun ls hl => ?_)
            refine lv_goto (tgt := 2) hx hb dX8_readText_35 (by decide) ?_
            exact ih v1_9 c_read_8 z _ _ _ hN (lv_sub hl [1, 0] rfl) h K
          · have h := if_f h c7
            refine lv_bipush (v := -9) hx hb dX8_readText_25 (by decide) ?_
            refine lv_goto (tgt := 31) hx hb dX8_readText_27 (by decide) ?_
            have g := inB_vp (gd_c h)
            have h := gd_e h
            obtain ⟨c_read_10, ec_read_10⟩ : ∃ y : Nat → Int32, y = upd c_read_2 v1_1.toNatClampNeg (-9) := ⟨_, rfl⟩
            have h := bd_e h c_read_10 ec_read_10
            refine n_iast hC hN 2 rfl g ec_read_10 (ws' := wX8 E adc c_now c_read_10 c_past c_deeds c_images c_isKept c_text c_letters c_at c_token c_tokenAt c_value c_facts c_seen c_seenAhead c_weakLink c_weakTwos c_which c_views c_whichMany) rfl dX8_readText_31 (fun H locs hN => ?_)
            obtain ⟨v1_11, ev1_11⟩ : ∃ y : Int32, y = v1_1 + 1 := ⟨_, rfl⟩
            have h := bd_e h v1_11 ev1_11
            refine lv_iinc (v := v1_11) (lv' := [(1, .int v1_11), (0, .ref (adc 0))]) hx hb dX8_readText_32 hl (k := 1) rfl (by rw [ev1_11]; rfl) (by decide) rfl (fun ls hl => ?_)
            refine lv_goto (tgt := 2) hx hb dX8_readText_35 (by decide) ?_
            exact ih v1_11 c_read_10 z _ _ _ hN (lv_sub hl [1, 0] rfl) h K
  obtain ⟨z_12, hz_12, h⟩ := bi_e h
  refine L1 500 0 c_read z_12 _ _ _ hN (lv_sub hl [1, 0] rfl) hz_12 (fun H locs ls hN hl => ?_)
  refine lv_aload_n hx hb dX8_readText_38 rfl (lv_at hl 0 rfl) ?_
  refine lv_iconst (v := 0) hx hb dX8_readText_39 rfl ?_
  refine pt_X8_at hC hN 0 rfl (Nat.le_of_ble_eq_true rfl) (ws' := wX8 E adc c_now z_12.2 c_past c_deeds c_images c_isKept c_text c_letters 0 c_token c_tokenAt c_value c_facts c_seen c_seenAhead c_weakLink c_weakTwos c_which c_views c_whichMany) rfl dX8_readText_40 (fun H locs hN => ?_)
  refine lv_aload_n hx hb dX8_readText_43 rfl (lv_at hl 0 rfl) ?_
  obtain ⟨z_13, hz_13, h⟩ := bi_e h
  refine n_callVv (ws' := wX8 E adc c_now z_12.2 c_past c_deeds c_images c_isKept c_text c_letters z_13.1 z_13.2.1 z_13.2.2.1 z_13.2.2.2 c_facts c_seen c_seenAhead c_weakLink c_weakTwos c_which c_views c_whichMany) hC hN (tX8_next l E adc c_now z_12.2 c_past c_deeds c_images c_isKept c_text c_letters 0 c_token c_tokenAt c_value c_facts c_seen c_seenAhead c_weakLink c_weakTwos c_which c_views c_whichMany z_13 hz_13) cy_X8_next mML_X8_72 mIM_X8_next mSE_X8_next rfl rfl (k := 0) rfl (perm_self _) (perm_self _) rfl rfl hl.1 rfl (Nat.le_of_ble_eq_true rfl) dX8_readText_44 ⟨Nat.le_of_ble_eq_true rfl, Nat.le_of_ble_eq_true rfl⟩ ⟨Nat.le_refl _, Nat.le_refl _⟩ (fun H locs hN => ?_)
  have L2 : ∀ (fu : Nat) (v1_14 : Int32) (c_read_15 : Nat → Int32) (c_at_16 : Int32) (c_token_17 : Int32) (c_tokenAt_18 : Int32) (c_value_19 : Int32) (z : (Int32 × (Nat → Int32) × Int32 × Int32 × Int32 × Int32) ⊕ (Int32 × (Nat → Int32) × Int32 × Int32 × Int32 × Int32)) (H : Heap) (locs : List Loc) (ls : Array Slot), Nw E s (AD (wX8 E adc c_now c_read c_past c_deeds c_images c_isKept c_text c_letters c_at c_token c_tokenAt c_value c_facts c_seen c_seenAhead c_weakLink c_weakTwos c_which c_views c_whichMany)) (wX8 E adc c_now c_read_15 c_past c_deeds c_images c_isKept c_text c_letters c_at_16 c_token_17 c_tokenAt_18 c_value_19 c_facts c_seen c_seenAhead c_weakLink c_weakTwos c_which c_views c_whichMany) H locs → lv_has ls 2 [(0, .ref (adc 0)), (1, .int v1_14)] → fX8_readText_L2 c_text c_letters fu v1_14 c_read_15 c_at_16 c_token_17 c_tokenAt_18 c_value_19 = some z → (∀ y : Int32 × (Nat → Int32) × Int32 × Int32 × Int32 × Int32, z = Sum.inl y → some y = some z0) → (∀ y : Int32 × (Nat → Int32) × Int32 × Int32 × Int32 × Int32, z = Sum.inr y → ∀ (H : Heap) (locs : List Loc) (ls : Array Slot), Nw E s (AD (wX8 E adc c_now c_read c_past c_deeds c_images c_isKept c_text c_letters c_at c_token c_tokenAt c_value c_facts c_seen c_seenAhead c_weakLink c_weakTwos c_which c_views c_whichMany)) (wX8 E adc c_now y.2.1 c_past c_deeds c_images c_isKept c_text c_letters y.2.2.1 y.2.2.2.1 y.2.2.2.2.1 y.2.2.2.2.2 c_facts c_seen c_seenAhead c_weakLink c_weakTwos c_which c_views c_whichMany) H locs → lv_has ls 2 [(0, .ref (adc 0)), (1, .int y.1)] → WN p l e 4 84 s m args below meth c E (wX8 E adc c_now c_read c_past c_deeds c_images c_isKept c_text c_letters c_at c_token c_tokenAt c_value c_facts c_seen c_seenAhead c_weakLink c_weakTwos c_which c_views c_whichMany) (some (.int z0.1)) (wX8 E adc c_now z0.2.1 c_past c_deeds c_images c_isKept c_text c_letters z0.2.2.1 z0.2.2.2.1 z0.2.2.2.2.1 z0.2.2.2.2.2 c_facts c_seen c_seenAhead c_weakLink c_weakTwos c_which c_views c_whichMany) H locs (F0 m 111 ls [])) → WN p l e 4 84 s m args below meth c E (wX8 E adc c_now c_read c_past c_deeds c_images c_isKept c_text c_letters c_at c_token c_tokenAt c_value c_facts c_seen c_seenAhead c_weakLink c_weakTwos c_which c_views c_whichMany) (some (.int z0.1)) (wX8 E adc c_now z0.2.1 c_past c_deeds c_images c_isKept c_text c_letters z0.2.2.1 z0.2.2.2.1 z0.2.2.2.2.1 z0.2.2.2.2.2 c_facts c_seen c_seenAhead c_weakLink c_weakTwos c_which c_views c_whichMany) H locs (F0 m 47 ls []) := by
    intro fu
    induction fu with
    | zero =>
      intro v1_14 c_read_15 c_at_16 c_token_17 c_tokenAt_18 c_value_19 z H locs ls hN hl h K1 K
      cases (show (none : Option ((Int32 × (Nat → Int32) × Int32 × Int32 × Int32 × Int32) ⊕ (Int32 × (Nat → Int32) × Int32 × Int32 × Int32 × Int32))) = some z from h)
    | succ fu ih =>
      intro v1_14 c_read_15 c_at_16 c_token_17 c_tokenAt_18 c_value_19 z H locs ls hN hl h K1 K
      rw [fX8_readText_L2.eq_2] at h
      refine lv_aload_n hx hb dX8_readText_47 rfl (lv_at hl 0 rfl) ?_
      refine gt_X8_token hC hN 0 rfl rfl dX8_readText_48 ?_
      refine lv_sipush (v := 1000) hx hb dX8_readText_51 (by decide) ?_
      refine lv_icmp_eq (tgt := 111) hx hb dX8_readText_54 (by decide) (fun c20 => ?_) (fun c20 => ?_)
      · have h := if_t h c20
        exact K _ (Option.some.inj h).symm _ _ _ hN (lv_sub hl [0, 1] rfl)
      · have h := if_f h c20
        refine lv_aload_n hx hb dX8_readText_57 rfl (lv_at hl 0 rfl) ?_
        refine gt_X8_token hC hN 0 rfl rfl dX8_readText_58 ?_
        refine lv_bipush (v := 115) hx hb dX8_readText_61 (by decide) ?_
        refine lv_icmp_ne (tgt := 73) hx hb dX8_readText_63 (by decide) (fun c21 => ?_) (fun c21 => ?_)
        · have h := if_f h c21
          refine lv_aload_n hx hb dX8_readText_73 rfl (lv_at hl 0 rfl) ?_
          refine gt_X8_token hC hN 0 rfl rfl dX8_readText_74 ?_
          refine lv_bipush (v := 104) hx hb dX8_readText_77 (by decide) ?_
          refine lv_icmp_ne (tgt := 93) hx hb dX8_readText_79 (by decide) (fun c22 => ?_) (fun c22 => ?_)
          · have h := if_f h c22
            refine lv_iconst (v := 0) hx hb dX8_readText_93 rfl ?_
            refine lv_istore_n (lv' := [(1, .int 0), (0, .ref (adc 0))]) hx hb dX8_readText_94 rfl hl (by decide) rfl (fun ls hl => ?_)
            refine lv_iload_n hx hb dX8_readText_95 rfl (lv_at hl 0 rfl) ?_
            refine lv_if_ne (tgt := 104) hx hb dX8_readText_96 (by decide) (fun c23 => ?_) (fun c23 => ?_)
            · exact absurd c23 (by decide)
            · refine lv_aload_n hx hb dX8_readText_99 rfl (lv_at hl 1 rfl) ?_
              refine gt_X8_tokenAt hC hN 0 rfl rfl dX8_readText_100 ?_
              have h := K1 _ (Option.some.inj h).symm
              obtain rfl := Option.some.inj h
              exact n_iret hC hN dX8_readText_103
          · have h := if_t h c22
            refine lv_aload_n hx hb dX8_readText_82 rfl (lv_at hl 0 rfl) ?_
            obtain ⟨z_24, hz_24, h⟩ := bi_e h
            refine n_callVi (ws' := wX8 E adc c_now z_24.2.1 c_past c_deeds c_images c_isKept c_text c_letters z_24.2.2.1 z_24.2.2.2.1 z_24.2.2.2.2.1 z_24.2.2.2.2.2 c_facts c_seen c_seenAhead c_weakLink c_weakTwos c_which c_views c_whichMany) hC hN (tX8_readHost l E adc c_now c_read_15 c_past c_deeds c_images c_isKept c_text c_letters c_at_16 c_token_17 c_tokenAt_18 c_value_19 c_facts c_seen c_seenAhead c_weakLink c_weakTwos c_which c_views c_whichMany z_24 hz_24) cy_X8_readHost mML_X8_86 mIM_X8_readHost mSE_X8_readHost rfl rfl (k := 0) rfl (perm_self _) (perm_self _) rfl rfl hl.1 rfl (Nat.le_of_ble_eq_true rfl) dX8_readText_83 ⟨Nat.le_of_ble_eq_true rfl, Nat.le_of_ble_eq_true rfl⟩ ⟨Nat.le_refl _, Nat.le_refl _⟩ (fun H locs hN => ?_)
            refine lv_if_eq (tgt := 93) hx hb dX8_readText_86 (by decide) (fun c25 => ?_) (fun c25 => ?_)
            · have h := if_t h c25
              refine lv_iconst (v := 0) hx hb dX8_readText_93 rfl ?_
              refine lv_istore_n (lv' := [(1, .int 0), (0, .ref (adc 0))]) hx hb dX8_readText_94 rfl hl (by decide) rfl (fun ls hl => ?_)
              refine lv_iload_n hx hb dX8_readText_95 rfl (lv_at hl 0 rfl) ?_
              refine lv_if_ne (tgt := 104) hx hb dX8_readText_96 (by decide) (fun c26 => ?_) (fun c26 => ?_)
              · exact absurd c26 (by decide)
              · refine lv_aload_n hx hb dX8_readText_99 rfl (lv_at hl 1 rfl) ?_
                refine gt_X8_tokenAt hC hN 0 rfl rfl dX8_readText_100 ?_
                have h := K1 _ (Option.some.inj h).symm
                obtain rfl := Option.some.inj h
                exact n_iret hC hN dX8_readText_103
            · have h := if_f h c25
              refine lv_iconst (v := 1) hx hb dX8_readText_89 rfl ?_
              refine lv_goto (tgt := 94) hx hb dX8_readText_90 (by decide) ?_
              refine lv_istore_n (lv' := [(1, .int 1), (0, .ref (adc 0))]) hx hb dX8_readText_94 rfl hl (by decide) rfl (fun ls hl => ?_)
              refine lv_iload_n hx hb dX8_readText_95 rfl (lv_at hl 0 rfl) ?_
              refine lv_if_ne (tgt := 104) hx hb dX8_readText_96 (by decide) (fun c27 => ?_) (fun c27 => ?_)
              · refine lv_aload_n hx hb dX8_readText_104 rfl (lv_at hl 1 rfl) ?_
                obtain ⟨z_28, hz_28, h⟩ := bi_e h
                refine n_callVv (ws' := wX8 E adc c_now z_24.2.1 c_past c_deeds c_images c_isKept c_text c_letters z_28.1 z_28.2.1 z_28.2.2.1 z_28.2.2.2 c_facts c_seen c_seenAhead c_weakLink c_weakTwos c_which c_views c_whichMany) hC hN (tX8_next l E adc c_now z_24.2.1 c_past c_deeds c_images c_isKept c_text c_letters z_24.2.2.1 z_24.2.2.2.1 z_24.2.2.2.2.1 z_24.2.2.2.2.2 c_facts c_seen c_seenAhead c_weakLink c_weakTwos c_which c_views c_whichMany z_28 hz_28) cy_X8_next mML_X8_72 mIM_X8_next mSE_X8_next rfl rfl (k := 0) rfl (perm_self _) (perm_self _) rfl rfl hl.1 rfl (Nat.le_of_ble_eq_true rfl) dX8_readText_105 ⟨Nat.le_of_ble_eq_true rfl, Nat.le_of_ble_eq_true rfl⟩ ⟨Nat.le_refl _, Nat.le_refl _⟩ (fun H locs hN => ?_)
                refine lv_goto (tgt := 47) hx hb dX8_readText_108 (by decide) ?_
                exact ih 1 z_24.2.1 z_28.1 z_28.2.1 z_28.2.2.1 z_28.2.2.2 z _ _ _ hN (lv_sub hl [1, 0] rfl) h K1 K
              · exact absurd c27 (by decide)
        · have h := if_t h c21
          refine lv_aload_n hx hb dX8_readText_66 rfl (lv_at hl 0 rfl) ?_
          obtain ⟨z_29, hz_29, h⟩ := bi_e h
          refine n_callVi (ws' := wX8 E adc c_now z_29.2.1 c_past c_deeds c_images c_isKept c_text c_letters z_29.2.2.1 z_29.2.2.2.1 z_29.2.2.2.2.1 z_29.2.2.2.2.2 c_facts c_seen c_seenAhead c_weakLink c_weakTwos c_which c_views c_whichMany) hC hN (tX8_readSwitch l E adc c_now c_read_15 c_past c_deeds c_images c_isKept c_text c_letters c_at_16 c_token_17 c_tokenAt_18 c_value_19 c_facts c_seen c_seenAhead c_weakLink c_weakTwos c_which c_views c_whichMany z_29 hz_29) cy_X8_readSwitch mML_X8_83 mIM_X8_readSwitch mSE_X8_readSwitch rfl rfl (k := 0) rfl (perm_self _) (perm_self _) rfl rfl hl.1 rfl (Nat.le_of_ble_eq_true rfl) dX8_readText_67 ⟨Nat.le_of_ble_eq_true rfl, Nat.le_of_ble_eq_true rfl⟩ ⟨Nat.le_refl _, Nat.le_refl _⟩ (fun H locs hN => ?_)
          refine lv_goto (tgt := 94) hx hb dX8_readText_70 (by decide) ?_
          refine lv_istore_n (lv' := [(1, .int z_29.1), (0, .ref (adc 0))]) hx hb dX8_readText_94 rfl hl (by decide) rfl (fun ls hl => ?_)
          refine lv_iload_n hx hb dX8_readText_95 rfl (lv_at hl 0 rfl) ?_
          refine lv_if_ne (tgt := 104) hx hb dX8_readText_96 (by decide) (fun c30 => ?_) (fun c30 => ?_)
          · have h := if_f h c30
            refine lv_aload_n hx hb dX8_readText_104 rfl (lv_at hl 1 rfl) ?_
            obtain ⟨z_31, hz_31, h⟩ := bi_e h
            refine n_callVv (ws' := wX8 E adc c_now z_29.2.1 c_past c_deeds c_images c_isKept c_text c_letters z_31.1 z_31.2.1 z_31.2.2.1 z_31.2.2.2 c_facts c_seen c_seenAhead c_weakLink c_weakTwos c_which c_views c_whichMany) hC hN (tX8_next l E adc c_now z_29.2.1 c_past c_deeds c_images c_isKept c_text c_letters z_29.2.2.1 z_29.2.2.2.1 z_29.2.2.2.2.1 z_29.2.2.2.2.2 c_facts c_seen c_seenAhead c_weakLink c_weakTwos c_which c_views c_whichMany z_31 hz_31) cy_X8_next mML_X8_72 mIM_X8_next mSE_X8_next rfl rfl (k := 0) rfl (perm_self _) (perm_self _) rfl rfl hl.1 rfl (Nat.le_of_ble_eq_true rfl) dX8_readText_105 ⟨Nat.le_of_ble_eq_true rfl, Nat.le_of_ble_eq_true rfl⟩ ⟨Nat.le_refl _, Nat.le_refl _⟩ (fun H locs hN => ?_)
            refine lv_goto (tgt := 47) hx hb dX8_readText_108 (by decide) ?_
            exact ih z_29.1 z_29.2.1 z_31.1 z_31.2.1 z_31.2.2.1 z_31.2.2.2 z _ _ _ hN (lv_sub hl [1, 0] rfl) h K1 K
          · have h := if_t h c30
            refine lv_aload_n hx hb dX8_readText_99 rfl (lv_at hl 1 rfl) ?_
            refine gt_X8_tokenAt hC hN 0 rfl rfl dX8_readText_100 ?_
            have h := K1 _ (Option.some.inj h).symm
            obtain rfl := Option.some.inj h
            exact n_iret hC hN dX8_readText_103
  obtain ⟨z_32, hz_32, h⟩ := bi_e h
  refine L2 500 z_12.1 z_12.2 z_13.1 z_13.2.1 z_13.2.2.1 z_13.2.2.2 z_32 _ _ _ hN (lv_sub hl [0, 1] rfl) hz_32 (fun y ey => by rw [ey] at h; exact h) (fun y_33 ey H locs ls hN hl => ?_)
  rw [ey] at h
  have h := sum_r h
  refine lv_aload_n hx hb dX8_readText_111 rfl (lv_at hl 0 rfl) ?_
  refine gt_X8_read hC hN 0 rfl rfl dX8_readText_112 ?_
  refine lv_iconst (v := 0) hx hb dX8_readText_115 rfl ?_
  have g := inB_vp (gd_c h)
  have h := gd_e h
  refine n_iald hC hN 2 rfl g dX8_readText_116 ?_
  refine lv_if_ne (tgt := 127) hx hb dX8_readText_117 (by decide) (fun c34 => ?_) (fun c34 => ?_)
  · have h := if_f h c34
    refine lv_bipush (v := -9) hx hb dX8_readText_127 (by decide) ?_
    obtain rfl := Option.some.inj h
    exact n_iret hC hN dX8_readText_129
  · have h := if_t h c34
    refine lv_aload_n hx hb dX8_readText_120 rfl (lv_at hl 0 rfl) ?_
    refine gt_X8_letters hC hN 0 rfl rfl dX8_readText_121 ?_
    refine lv_goto (tgt := 129) hx hb dX8_readText_124 (by decide) ?_
    obtain rfl := Option.some.inj h
    exact n_iret hC hN dX8_readText_129
set_option maxHeartbeats 4000000 in
set_option maxRecDepth 100000 in
theorem tX8_type (l : Launch) (E : EV) (adc : Nat → Nat) (c_now : Nat → Int32) (c_read : Nat → Int32) (c_past : Nat → Int32) (c_deeds : Int32) (c_images : Nat → Int32) (c_isKept : Nat → Int32) (c_text : Nat → Int32) (c_letters : Int32) (c_at : Int32) (c_token : Int32) (c_tokenAt : Int32) (c_value : Int32) (c_facts : Nat → Int32) (c_seen : Int32) (c_seenAhead : Nat → Int32) (c_weakLink : Int32) (c_weakTwos : Int32) (c_which : Nat → Int32) (c_views : Nat → Int32) (c_whichMany : Int32) (p1 : Int32) (z : Int32 × (Nat → Int32) × Int32) (h : fX8_type c_text c_letters p1 = some z) : Cn l E yX8_type cX8_type 2 (some .int) 1 22 [.ref (adc 0), .int p1] (wX8 E adc c_now c_read c_past c_deeds c_images c_isKept c_text c_letters c_at c_token c_tokenAt c_value c_facts c_seen c_seenAhead c_weakLink c_weakTwos c_which c_views c_whichMany) (wX8 E adc c_now c_read c_past c_deeds c_images c_isKept z.2.1 z.2.2 c_at c_token c_tokenAt c_value c_facts c_seen c_seenAhead c_weakLink c_weakTwos c_which c_views c_whichMany) (some (.int z.1)) := by
  refine Cn.ofW (by decide +kernel) (Nat.le_of_ble_eq_true rfl) ?_
  intro p e s m args below meth c ls hC hN hl
  have hl : lv_has ls 2 [(0, .ref (adc 0)), (1, .int p1)] := hl
  have hx := hC.1
  have hb := hC.2.1
  unfold fX8_type at h
  refine lv_iload_n hx hb dX8_type_0 rfl (lv_at hl 1 rfl) ?_
  refine lv_iconst (v := 0) hx hb dX8_type_1 rfl ?_
  refine lv_sipush (v := 255) hx hb dX8_type_2 (by decide) ?_
  obtain ⟨r_1, hr_1, h⟩ := bi_e h
  refine n_callSi (ws' := wX8 E adc c_now c_read c_past c_deeds c_images c_isKept c_text c_letters c_at c_token c_tokenAt c_value c_facts c_seen c_seenAhead c_weakLink c_weakTwos c_which c_views c_whichMany) hC hN (tX8_in l E p1 0 255 r_1 hr_1) cy_X8_in mML_X8_55 mST_X8_in (perm_nil _) (perm_nil _) rfl rfl hl.1 rfl (Nat.le_of_ble_eq_true rfl) dX8_type_5 ⟨Nat.le_of_ble_eq_true rfl, Nat.le_of_ble_eq_true rfl⟩ ⟨Nat.le_refl _, Nat.le_refl _⟩ (fun H locs hN => ?_)
  refine lv_if_ne (tgt := 13) hx hb dX8_type_8 (by decide) (fun c2 => ?_) (fun c2 => ?_)
  · have h := if_f h c2
    refine lv_aload_n hx hb dX8_type_13 rfl (lv_at hl 0 rfl) ?_
    refine gt_X8_letters hC hN 0 rfl rfl dX8_type_14 ?_
    refine lv_bipush (v := 100) hx hb dX8_type_17 (by decide) ?_
    refine lv_icmp_ne (tgt := 25) hx hb dX8_type_19 (by decide) (fun c3 => ?_) (fun c3 => ?_)
    · have h := if_f h c3
      refine lv_aload_n hx hb dX8_type_25 rfl (lv_at hl 0 rfl) ?_
      refine gt_X8_text hC hN 0 rfl rfl dX8_type_26 ?_
      refine lv_aload_n hx hb dX8_type_29 rfl (lv_at hl 0 rfl) ?_
      refine gt_X8_letters hC hN 0 rfl rfl dX8_type_30 ?_
      refine lv_iload_n hx hb dX8_type_33 rfl (lv_at hl 1 rfl) ?_
      have g := inB_vp (gd_c h)
      have h := gd_e h
      obtain ⟨c_text_4, ec_text_4⟩ : ∃ y : Nat → Int32, y = upd c_text c_letters.toNatClampNeg p1 := ⟨_, rfl⟩
      have h := bd_e h c_text_4 ec_text_4
      refine n_iast hC hN 6 rfl g ec_text_4 (ws' := wX8 E adc c_now c_read c_past c_deeds c_images c_isKept c_text_4 c_letters c_at c_token c_tokenAt c_value c_facts c_seen c_seenAhead c_weakLink c_weakTwos c_which c_views c_whichMany) rfl dX8_type_34 (fun H locs hN => ?_)
      refine lv_aload_n hx hb dX8_type_35 rfl (lv_at hl 0 rfl) ?_
      refine lv_dup hx hb dX8_type_36 rfl ?_
      refine gt_X8_letters hC hN 0 rfl rfl dX8_type_37 ?_
      refine lv_iconst (v := 1) hx hb dX8_type_40 rfl ?_
      refine lv_iadd hx hb dX8_type_41 ?_
      refine lv_topi (fun c_letters_5 ec_letters_5 => ?_)
      have h := bd_e h c_letters_5 ec_letters_5
      refine pt_X8_letters hC hN 0 rfl (Nat.le_of_ble_eq_true rfl) (ws' := wX8 E adc c_now c_read c_past c_deeds c_images c_isKept c_text_4 c_letters_5 c_at c_token c_tokenAt c_value c_facts c_seen c_seenAhead c_weakLink c_weakTwos c_which c_views c_whichMany) rfl dX8_type_42 (fun H locs hN => ?_)
      refine lv_aload_n hx hb dX8_type_45 rfl (lv_at hl 0 rfl) ?_
      refine gt_X8_letters hC hN 0 rfl rfl dX8_type_46 ?_
      obtain rfl := Option.some.inj h
      exact n_iret hC hN dX8_type_49
    · have h := if_t h c3
      refine lv_bipush (v := -3) hx hb dX8_type_22 (by decide) ?_
      obtain rfl := Option.some.inj h
      exact n_iret hC hN dX8_type_24
  · have h := if_t h c2
    refine lv_iconst (v := -1) hx hb dX8_type_11 rfl ?_
    obtain rfl := Option.some.inj h
    exact n_iret hC hN dX8_type_12
set_option maxHeartbeats 4000000 in
set_option maxRecDepth 100000 in
theorem tX8_clear (l : Launch) (E : EV) (adc : Nat → Nat) (c_now : Nat → Int32) (c_read : Nat → Int32) (c_past : Nat → Int32) (c_deeds : Int32) (c_images : Nat → Int32) (c_isKept : Nat → Int32) (c_text : Nat → Int32) (c_letters : Int32) (c_at : Int32) (c_token : Int32) (c_tokenAt : Int32) (c_value : Int32) (c_facts : Nat → Int32) (c_seen : Int32) (c_seenAhead : Nat → Int32) (c_weakLink : Int32) (c_weakTwos : Int32) (c_which : Nat → Int32) (c_views : Nat → Int32) (c_whichMany : Int32) (z : Int32 × Int32) (h : fX8_clear c_letters = some z) : Cn l E yX8_clear cX8_clear 2 (some .int) 0 0 [.ref (adc 0)] (wX8 E adc c_now c_read c_past c_deeds c_images c_isKept c_text c_letters c_at c_token c_tokenAt c_value c_facts c_seen c_seenAhead c_weakLink c_weakTwos c_which c_views c_whichMany) (wX8 E adc c_now c_read c_past c_deeds c_images c_isKept c_text z.2 c_at c_token c_tokenAt c_value c_facts c_seen c_seenAhead c_weakLink c_weakTwos c_which c_views c_whichMany) (some (.int z.1)) := by
  refine Cn.ofW (by decide +kernel) (Nat.le_of_ble_eq_true rfl) ?_
  intro p e s m args below meth c ls hC hN hl
  have hl : lv_has ls 2 [(0, .ref (adc 0))] := hl
  have hx := hC.1
  have hb := hC.2.1
  unfold fX8_clear at h
  refine lv_aload_n hx hb dX8_clear_0 rfl (lv_at hl 0 rfl) ?_
  refine gt_X8_letters hC hN 0 rfl rfl dX8_clear_1 ?_
  refine lv_istore_n (lv' := [(1, .int c_letters), (0, .ref (adc 0))]) hx hb dX8_clear_4 rfl hl (by decide) rfl (fun ls hl => ?_)
  refine lv_aload_n hx hb dX8_clear_5 rfl (lv_at hl 1 rfl) ?_
  refine lv_iconst (v := 0) hx hb dX8_clear_6 rfl ?_
  refine pt_X8_letters hC hN 0 rfl (Nat.le_of_ble_eq_true rfl) (ws' := wX8 E adc c_now c_read c_past c_deeds c_images c_isKept c_text 0 c_at c_token c_tokenAt c_value c_facts c_seen c_seenAhead c_weakLink c_weakTwos c_which c_views c_whichMany) rfl dX8_clear_7 (fun H locs hN => ?_)
  refine lv_iload_n hx hb dX8_clear_10 rfl (lv_at hl 0 rfl) ?_
  obtain rfl := Option.some.inj h
  exact n_iret hC hN dX8_clear_11
set_option maxHeartbeats 4000000 in
set_option maxRecDepth 100000 in
theorem tX8_tells (l : Launch) (E : EV) (adc : Nat → Nat) (c_now : Nat → Int32) (c_read : Nat → Int32) (c_past : Nat → Int32) (c_deeds : Int32) (c_images : Nat → Int32) (c_isKept : Nat → Int32) (c_text : Nat → Int32) (c_letters : Int32) (c_at : Int32) (c_token : Int32) (c_tokenAt : Int32) (c_value : Int32) (c_facts : Nat → Int32) (c_seen : Int32) (c_seenAhead : Nat → Int32) (c_weakLink : Int32) (c_weakTwos : Int32) (c_which : Nat → Int32) (c_views : Nat → Int32) (c_whichMany : Int32) (z : Int32 × (Nat → Int32) × (Nat → Int32) × (Nat → Int32) × Int32 × (Nat → Int32) × Int32 × Int32 × Int32 × Int32 × Int32 × Int32) (h : fX8_tells c_now c_read c_past c_deeds c_isKept c_text c_letters c_value c_seen = some z) : Cn l E yX8_tells cX8_tells 2 (some .int) 5 105 [.ref (adc 0)] (wX8 E adc c_now c_read c_past c_deeds c_images c_isKept c_text c_letters c_at c_token c_tokenAt c_value c_facts c_seen c_seenAhead c_weakLink c_weakTwos c_which c_views c_whichMany) (wX8 E adc z.2.1 z.2.2.1 z.2.2.2.1 z.2.2.2.2.1 c_images z.2.2.2.2.2.1 c_text z.2.2.2.2.2.2.1 z.2.2.2.2.2.2.2.1 z.2.2.2.2.2.2.2.2.1 z.2.2.2.2.2.2.2.2.2.1 z.2.2.2.2.2.2.2.2.2.2.1 c_facts z.2.2.2.2.2.2.2.2.2.2.2 c_seenAhead c_weakLink c_weakTwos c_which c_views c_whichMany) (some (.int z.1)) := by
  refine Cn.ofW (by decide +kernel) (Nat.le_of_ble_eq_true rfl) ?_
  intro p e s m args below meth c ls hC hN hl
  have hl : lv_has ls 2 [(0, .ref (adc 0))] := hl
  have hx := hC.1
  have hb := hC.2.1
  unfold fX8_tells at h
  refine lv_aload_n hx hb dX8_tells_0 rfl (lv_at hl 0 rfl) ?_
  obtain ⟨z_1, hz_1, h⟩ := bi_e h
  refine n_callVi (ws' := wX8 E adc c_now z_1.2.1 c_past c_deeds c_images c_isKept c_text c_letters z_1.2.2.1 z_1.2.2.2.1 z_1.2.2.2.2.1 z_1.2.2.2.2.2 c_facts c_seen c_seenAhead c_weakLink c_weakTwos c_which c_views c_whichMany) hC hN (tX8_readText l E adc c_now c_read c_past c_deeds c_images c_isKept c_text c_letters c_at c_token c_tokenAt c_value c_facts c_seen c_seenAhead c_weakLink c_weakTwos c_which c_views c_whichMany z_1 hz_1) cy_X8_readText mML_X8_89 mIM_X8_readText mSE_X8_readText rfl rfl (k := 0) rfl (perm_self _) (perm_self _) rfl rfl hl.1 rfl (Nat.le_of_ble_eq_true rfl) dX8_tells_1 ⟨Nat.le_of_ble_eq_true rfl, Nat.le_of_ble_eq_true rfl⟩ ⟨Nat.le_refl _, Nat.le_refl _⟩ (fun H locs hN => ?_)
  refine lv_istore_n (lv' := [(1, .int z_1.1), (0, .ref (adc 0))]) hx hb dX8_tells_4 rfl hl (by decide) rfl (fun ls hl => ?_)
  refine lv_iload_n hx hb dX8_tells_5 rfl (lv_at hl 0 rfl) ?_
  refine lv_bipush (v := -9) hx hb dX8_tells_6 (by decide) ?_
  refine lv_icmp_eq (tgt := 16) hx hb dX8_tells_8 (by decide) (fun c2 => ?_) (fun c2 => ?_)
  · have h := if_t h c2
    refine lv_aload_n hx hb dX8_tells_16 rfl (lv_at hl 1 rfl) ?_
    obtain ⟨z_3, hz_3, h⟩ := bi_e h
    refine n_callVv (ws' := wX8 E adc c_now z_1.2.1 z_3.1 z_3.2 c_images c_isKept c_text c_letters z_1.2.2.1 z_1.2.2.2.1 z_1.2.2.2.2.1 z_1.2.2.2.2.2 c_facts c_seen c_seenAhead c_weakLink c_weakTwos c_which c_views c_whichMany) hC hN (tX8_note l E adc c_now z_1.2.1 c_past c_deeds c_images c_isKept c_text c_letters z_1.2.2.1 z_1.2.2.2.1 z_1.2.2.2.2.1 z_1.2.2.2.2.2 c_facts c_seen c_seenAhead c_weakLink c_weakTwos c_which c_views c_whichMany z_3 hz_3) cy_X8_note mML_X8_93 mIM_X8_note mSE_X8_note rfl rfl (k := 0) rfl (perm_self _) (perm_self _) rfl rfl hl.1 rfl (Nat.le_of_ble_eq_true rfl) dX8_tells_17 ⟨Nat.le_of_ble_eq_true rfl, Nat.le_of_ble_eq_true rfl⟩ ⟨Nat.le_refl _, Nat.le_refl _⟩ (fun H locs hN => ?_)
    refine lv_aload_n hx hb dX8_tells_20 rfl (lv_at hl 1 rfl) ?_
    refine gt_X8_read hC hN 0 rfl rfl dX8_tells_21 ?_
    refine lv_iconst (v := 0) hx hb dX8_tells_24 rfl ?_
    refine lv_aload_n hx hb dX8_tells_25 rfl (lv_at hl 1 rfl) ?_
    refine gt_X8_now hC hN 0 rfl rfl dX8_tells_26 ?_
    refine lv_iconst (v := 0) hx hb dX8_tells_29 rfl ?_
    obtain ⟨z_4, hz_4, h⟩ := bi_e h
    refine n_callSv (ws' := wX8 E adc z_4 z_1.2.1 z_3.1 z_3.2 c_images c_isKept c_text c_letters z_1.2.2.1 z_1.2.2.2.1 z_1.2.2.2.2.1 z_1.2.2.2.2.2 c_facts c_seen c_seenAhead c_weakLink c_weakTwos c_which c_views c_whichMany) hC hN (tX8_bring l E (adc 2) 87 (adc 1) 87 z_1.2.1 c_now 0 0 z_4 hz_4) cy_X8_bring mML_X8_45 mST_X8_bring (pl_perm (wX8 E adc c_now z_1.2.1 z_3.1 z_3.2 c_images c_isKept c_text c_letters z_1.2.2.1 z_1.2.2.2.1 z_1.2.2.2.2.1 z_1.2.2.2.2.2 c_facts c_seen c_seenAhead c_weakLink c_weakTwos c_which c_views c_whichMany) 11 rfl [2, 1] [0, 3, 4, 5, 6, 7, 8, 9, 10] (by decide)) (pl_perm (wX8 E adc z_4 z_1.2.1 z_3.1 z_3.2 c_images c_isKept c_text c_letters z_1.2.2.1 z_1.2.2.2.1 z_1.2.2.2.2.1 z_1.2.2.2.2.2 c_facts c_seen c_seenAhead c_weakLink c_weakTwos c_which c_views c_whichMany) 11 rfl [2, 1] [0, 3, 4, 5, 6, 7, 8, 9, 10] (by decide)) rfl rfl hl.1 rfl (Nat.le_of_ble_eq_true rfl) dX8_tells_30 ⟨Nat.le_of_ble_eq_true rfl, Nat.le_of_ble_eq_true rfl⟩ ⟨Nat.le_refl _, Nat.le_refl _⟩ (fun H locs hN => ?_)
    refine lv_aload_n hx hb dX8_tells_33 rfl (lv_at hl 1 rfl) ?_
    refine lv_iconst (v := 0) hx hb dX8_tells_34 rfl ?_
    refine pt_X8_letters hC hN 0 rfl (Nat.le_of_ble_eq_true rfl) (ws' := wX8 E adc z_4 z_1.2.1 z_3.1 z_3.2 c_images c_isKept c_text 0 z_1.2.2.1 z_1.2.2.2.1 z_1.2.2.2.2.1 z_1.2.2.2.2.2 c_facts c_seen c_seenAhead c_weakLink c_weakTwos c_which c_views c_whichMany) rfl dX8_tells_35 (fun H locs hN => ?_)
    refine lv_aload_n hx hb dX8_tells_38 rfl (lv_at hl 1 rfl) ?_
    refine lv_iconst (v := 0) hx hb dX8_tells_39 rfl ?_
    refine pt_X8_seen hC hN 0 rfl (Nat.le_of_ble_eq_true rfl) (ws' := wX8 E adc z_4 z_1.2.1 z_3.1 z_3.2 c_images c_isKept c_text 0 z_1.2.2.1 z_1.2.2.2.1 z_1.2.2.2.2.1 z_1.2.2.2.2.2 c_facts 0 c_seenAhead c_weakLink c_weakTwos c_which c_views c_whichMany) rfl dX8_tells_40 (fun H locs hN => ?_)
    refine lv_aload_n hx hb dX8_tells_43 rfl (lv_at hl 1 rfl) ?_
    refine gt_X8_isKept hC hN 0 rfl rfl dX8_tells_44 ?_
    refine lv_iconst (v := 0) hx hb dX8_tells_47 rfl ?_
    refine lv_iconst (v := 0) hx hb dX8_tells_48 rfl ?_
    have g := inB_vp (gd_c h)
    have h := gd_e h
    obtain ⟨c_isKept_5, ec_isKept_5⟩ : ∃ y : Nat → Int32, y = upd c_isKept (0 : Int32).toNatClampNeg 0 := ⟨_, rfl⟩
    have h := bd_e h c_isKept_5 ec_isKept_5
    refine n_zast hC hN 5 rfl g ec_isKept_5 (ws' := wX8 E adc z_4 z_1.2.1 z_3.1 z_3.2 c_images c_isKept_5 c_text 0 z_1.2.2.1 z_1.2.2.2.1 z_1.2.2.2.2.1 z_1.2.2.2.2.2 c_facts 0 c_seenAhead c_weakLink c_weakTwos c_which c_views c_whichMany) rfl dX8_tells_49 (fun H locs hN => ?_)
    refine lv_aload_n hx hb dX8_tells_50 rfl (lv_at hl 1 rfl) ?_
    refine gt_X8_isKept hC hN 0 rfl rfl dX8_tells_51 ?_
    refine lv_iconst (v := 1) hx hb dX8_tells_54 rfl ?_
    refine lv_iconst (v := 0) hx hb dX8_tells_55 rfl ?_
    have g := inB_vp (gd_c h)
    have h := gd_e h
    obtain ⟨c_isKept_6, ec_isKept_6⟩ : ∃ y : Nat → Int32, y = upd c_isKept_5 (1 : Int32).toNatClampNeg 0 := ⟨_, rfl⟩
    have h := bd_e h c_isKept_6 ec_isKept_6
    refine n_zast hC hN 5 rfl g ec_isKept_6 (ws' := wX8 E adc z_4 z_1.2.1 z_3.1 z_3.2 c_images c_isKept_6 c_text 0 z_1.2.2.1 z_1.2.2.2.1 z_1.2.2.2.2.1 z_1.2.2.2.2.2 c_facts 0 c_seenAhead c_weakLink c_weakTwos c_which c_views c_whichMany) rfl dX8_tells_56 (fun H locs hN => ?_)
    refine lv_aload_n hx hb dX8_tells_57 rfl (lv_at hl 1 rfl) ?_
    refine gt_X8_now hC hN 0 rfl rfl dX8_tells_58 ?_
    refine lv_iconst (v := 0) hx hb dX8_tells_61 rfl ?_
    have g := inB_vp (gd_c h)
    have h := gd_e h
    refine n_iald hC hN 1 rfl g dX8_tells_62 ?_
    refine lv_aload_n hx hb dX8_tells_63 rfl (lv_at hl 1 rfl) ?_
    refine gt_X8_now hC hN 0 rfl rfl dX8_tells_64 ?_
    refine lv_iconst (v := 1) hx hb dX8_tells_67 rfl ?_
    have g := inB_vp (gd_c h)
    have h := gd_e h
    refine n_iald hC hN 1 rfl g dX8_tells_68 ?_
    refine lv_iadd hx hb dX8_tells_69 ?_
    obtain rfl := Option.some.inj h
    exact n_iret hC hN dX8_tells_70
  · have h := if_f h c2
    refine lv_bipush (v := -10) hx hb dX8_tells_11 (by decide) ?_
    refine lv_iload_n hx hb dX8_tells_13 rfl (lv_at hl 0 rfl) ?_
    refine lv_isub hx hb dX8_tells_14 ?_
    obtain rfl := Option.some.inj h
    exact n_iret hC hN dX8_tells_15
set_option maxHeartbeats 4000000 in
set_option maxRecDepth 100000 in
theorem tX8_isSwitch (l : Launch) (E : EV) (adc : Nat → Nat) (c_now : Nat → Int32) (c_read : Nat → Int32) (c_past : Nat → Int32) (c_deeds : Int32) (c_images : Nat → Int32) (c_isKept : Nat → Int32) (c_text : Nat → Int32) (c_letters : Int32) (c_at : Int32) (c_token : Int32) (c_tokenAt : Int32) (c_value : Int32) (c_facts : Nat → Int32) (c_seen : Int32) (c_seenAhead : Nat → Int32) (c_weakLink : Int32) (c_weakTwos : Int32) (c_which : Nat → Int32) (c_views : Nat → Int32) (c_whichMany : Int32) (p1 : Int32) (z : Int32) (h : fX8_isSwitch c_now p1 = some z) : Cn l E yX8_isSwitch cX8_isSwitch 2 (some .boolean) 1 22 [.ref (adc 0), .int p1] (wX8 E adc c_now c_read c_past c_deeds c_images c_isKept c_text c_letters c_at c_token c_tokenAt c_value c_facts c_seen c_seenAhead c_weakLink c_weakTwos c_which c_views c_whichMany) (wX8 E adc c_now c_read c_past c_deeds c_images c_isKept c_text c_letters c_at c_token c_tokenAt c_value c_facts c_seen c_seenAhead c_weakLink c_weakTwos c_which c_views c_whichMany) (some (.int z)) := by
  refine Cn.ofW (by decide +kernel) (Nat.le_of_ble_eq_true rfl) ?_
  intro p e s m args below meth c ls hC hN hl
  have hl : lv_has ls 2 [(0, .ref (adc 0)), (1, .int p1)] := hl
  have hx := hC.1
  have hb := hC.2.1
  unfold fX8_isSwitch at h
  refine lv_iload_n hx hb dX8_isSwitch_0 rfl (lv_at hl 1 rfl) ?_
  refine lv_iconst (v := 0) hx hb dX8_isSwitch_1 rfl ?_
  refine lv_aload_n hx hb dX8_isSwitch_2 rfl (lv_at hl 0 rfl) ?_
  refine gt_X8_now hC hN 0 rfl rfl dX8_isSwitch_3 ?_
  refine lv_iconst (v := 0) hx hb dX8_isSwitch_6 rfl ?_
  have g := inB_vp (gd_c h)
  have h := gd_e h
  refine n_iald hC hN 1 rfl g dX8_isSwitch_7 ?_
  refine lv_iconst (v := 1) hx hb dX8_isSwitch_8 rfl ?_
  refine lv_isub hx hb dX8_isSwitch_9 ?_
  obtain ⟨r_1, hr_1, h⟩ := bi_e h
  refine n_callSi (ws' := wX8 E adc c_now c_read c_past c_deeds c_images c_isKept c_text c_letters c_at c_token c_tokenAt c_value c_facts c_seen c_seenAhead c_weakLink c_weakTwos c_which c_views c_whichMany) hC hN (tX8_in l E p1 0 ((c_now (0 : Int32).toNatClampNeg) - 1) r_1 hr_1) cy_X8_in mML_X8_55 mST_X8_in (perm_nil _) (perm_nil _) rfl rfl hl.1 rfl (Nat.le_of_ble_eq_true rfl) dX8_isSwitch_10 ⟨Nat.le_of_ble_eq_true rfl, Nat.le_of_ble_eq_true rfl⟩ ⟨Nat.le_refl _, Nat.le_refl _⟩ (fun H locs hN => ?_)
  have gB := gd_c h
  have h := gd_e h
  obtain rfl := Option.some.inj h
  exact n_zret hC hN gB dX8_isSwitch_13
