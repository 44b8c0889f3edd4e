/-! the calls that only read -/
theorem lit_cases {x : Int32} {m : Nat} (hm : m < 2 ^ 31) (h0 : 0 ≤ x) (h1 : x ≤ nI m) : ∃ w, w ≤ m ∧ x = nI w := by
  rw [fa_le, show (0 : Int32).toInt = 0 from by decide] at h0
  rw [fa_le, nI_toInt hm] at h1
  exact toNI h0 h1
theorem not_lit {x y : Int32} {m w : Nat} (hm : m < 2 ^ 31) (hw : w ≤ m) (hy : y = nI w) (h : x < 0 ∨ nI m < x) : ¬ x = y := by
  intro e
  subst e
  subst hy
  rcases h with h | h
  · exact nI_pos (by omega) h
  · rw [nI_ltI (by omega) (by omega)] at h; omega
theorem X8_hostsAt {n k : Nat} {f : Nat → Int32} (hn : n ≤ 6) (hk : k ≤ 8) (h1 : f 1 = nI k) (hP : RwP f n k) {a : Nat} (ha : a < n) : ∃ M, fX8_hostsAt f (nI a) = some M ∧ ∀ i, bt M i = (decide (i < k) && (!decide (f (27 + i) = -9) && bt (b1 a) (pn f i))) := by
  obtain ⟨w', e1, e2⟩ := cle k (fun fu (w : Int32) i => fX8_hostsAt_L1 f (nI a) fu w (nI i)) (fun w h => if f (27 + h) = nI a then w ||| b1 h else w) (fun w => (w, nI k)) (fun w m => ∀ i, bt w i = (decide (i < m) && decide (f (27 + i) = nI a)))
    (by intro fu s _
        show fX8_hostsAt_L1 f (nI a) (fu + 1) s (nI k) = _
        rw [fX8_hostsAt_L1.eq_2, gd_t (by decide), z1N, h1, if_pos (nI_le (Nat.le_refl k) (by omega))])
    (by intro fu s i hi hs
        show fX8_hostsAt_L1 f (nI a) (fu + 1) s (nI i) = fX8_hostsAt_L1 f (nI a) fu _ (nI (i + 1)) ∧ _
        rw [fX8_hostsAt_L1.eq_2, gd_t (by decide), z1N, h1, if_neg (nI_ge hi (by omega)), l27, nI_add, gd_t (inB_nI (by omega) (by decide)), nI_N (by omega)]
        by_cases hq : f (27 + i) = nI a
        · rw [if_pos hq, bd_eq, bd_eq, nI_1, if_pos hq]
          refine ⟨rfl, fun x => ?_⟩
          rw [b_or, hs x, b_b1 (by omega)]
          rcases Nat.lt_trichotomy x i with h | h | h
          · rw [decide_eq_true h, decide_eq_true (by omega : x < i + 1), decide_eq_false (by omega : ¬ x = i), Bool.or_false]
          · subst h; rw [decide_eq_true hq, decide_eq_true (by omega : x < x + 1), decide_eq_true rfl]; simp
          · rw [decide_eq_false (by omega : ¬ x < i), decide_eq_false (by omega : ¬ x < i + 1), decide_eq_false (by omega : ¬ x = i)]; rfl
        · rw [if_neg hq, bd_eq, bd_eq, nI_1, if_neg hq, orz]
          refine ⟨rfl, fun x => ?_⟩
          rw [hs x]
          rcases Nat.lt_trichotomy x i with h | h | h
          · rw [decide_eq_true h, decide_eq_true (by omega : x < i + 1)]
          · subst h; rw [decide_eq_false hq, Bool.and_false, Bool.and_false]
          · rw [decide_eq_false (by omega : ¬ x < i), decide_eq_false (by omega : ¬ x < i + 1)])
    0 500 (by omega) (fun i => by rw [b_0, decide_eq_false (by omega : ¬ i < 0)]; rfl)
  have e1 : fX8_hostsAt_L1 f (nI a) 500 0 0 = _ := e1
  refine ⟨w', ?_, fun i => ?_⟩
  · unfold fX8_hostsAt
    rw [e1, bs]
  · rw [e2 i]
    by_cases hi : i < k
    · rw [decide_eq_true hi, Bool.true_and, Bool.true_and]
      rcases hP i hi with e | ⟨c, hc, e⟩
      · rw [e, decide_eq_true rfl, decide_eq_false (fun h => nm9 (by omega) h.symm)]; rfl
      · have p1 : pn f i = c := by unfold pn; rw [e, nI_N (by omega)]
        rw [p1, e, decide_eq_false (nm9 (by omega)), b_b1 (by omega), Bool.not_false, Bool.true_and]
        by_cases hca : c = a
        · subst hca; rw [decide_eq_true rfl, decide_eq_true rfl]
        · rw [decide_eq_false hca, decide_eq_false (fun h => hca (nI_inj (by omega) (by omega) h))]
    · rw [decide_eq_false hi, Bool.false_and, Bool.false_and]
theorem op_device {sw hw re : Int32} {pr na wa bl up cl zo pl no ne : Nat → Int32} {now : Nat → Int32} (hN : NR (sw, hw, re, pr, na, wa, bl, up, cl, zo, pl, no, ne) now) (p1 p2 : Int32) :
    ∃ r, fX7_device sw hw pr na wa bl up pl p1 p2 = some r ∧ fX8_device now p1 p2 = some r := by
  obtain ⟨m, k, hI, hR⟩ := id hN
  obtain ⟨⟨h0, h1, hm, hk, h2⟩, hD, hNm, hP, ⟨uB, uS, uI, uZ⟩, ⟨cB, cS, cI, cZ⟩, hZ, hU⟩ := id hI
  obtain ⟨r1, r2, r3, r4, r5, r6, r7, r8, r9, r10, r11, r12, r13⟩ := id hR
  obtain rfl : sw = nI m := r1
  obtain rfl : hw = nI k := r2
  have r3 : re = now 2 := r3
  have r4 : ∀ a, a < m → pr a = now (3 + 4 * a) := r4
  have r5 : ∀ a, a < m → na a = now (4 + 4 * a) := r5
  have r6 : ∀ a, a < m → wa a = now (5 + 4 * a) := r6
  have r7 : ∀ a, a < m → bl a = now (6 + 4 * a) := r7
  have r8 : ∀ a, a < m → up a = now (35 + a) := r8
  have r9 : ∀ a, a < m → cl a = now (41 + a) := r9
  have r10 : ∀ a, a < m → ∀ z, z < 4 → zo (4 * a + z) = now (47 + 4 * a + z) := r10
  have r11 : ∀ h, h < k → pl h = now (27 + h) := r11
  have r12 : ∀ h, h < k → no h = now (71 + h) := r12
  have r13 : ∀ h, h < k → ne h = now (79 + h) := r13
  unfold fX7_device fX8_device
  rcases sw2 hm h0 p1 with ⟨e1, e2, a, ha, rfl⟩ | ⟨e1, e2, -⟩
  · rw [e1, e2, bs, bs, if10, if10]
    rcases in_cases p2 0 7 with ⟨e3, b1', b2'⟩ | ⟨e3, hb⟩
    · rw [e3, bs, if10]
      obtain ⟨w, hw', rfl⟩ := lit_cases (m := 7) (by omega) b1' b2'
      clear b1' b2' e3
      rcases (by omega : w = 0 ∨ w = 1 ∨ w = 2 ∨ w = 3 ∨ w = 4 ∨ w = 5 ∨ w = 6 ∨ w = 7) with rfl | rfl | rfl | rfl | rfl | rfl | rfl | rfl
      · rw [show nI 0 = 0 from rfl, if_pos (show (0 : Int32) = 0 from rfl)]
        have o := X8_of (f := now) (a := a) (w := 0) (by omega) (by omega)
        rw [show nI 0 = 0 from rfl, show 3 + 4 * a + 0 = 3 + 4 * a by omega] at o
        rw [if_neg (show ¬ (0 : Int32) = 4 from by decide), if_neg (show ¬ (0 : Int32) = 5 from by decide), if_neg (show ¬ (0 : Int32) = 6 from by decide), if_neg (show ¬ (0 : Int32) = 7 from by decide), X3_priorityOf hm ha, bs, o, bs, r4 a ha]
        exact ⟨_, rfl, rfl⟩
      · rw [show nI 1 = 1 from rfl, if_neg (show ¬ (1 : Int32) = 0 from by decide), if_pos (show (1 : Int32) = 1 from rfl)]
        have o := X8_of (f := now) (a := a) (w := 1) (by omega) (by omega)
        rw [show nI 1 = 1 from rfl, show 3 + 4 * a + 1 = 4 + 4 * a by omega] at o
        rw [if_neg (show ¬ (1 : Int32) = 4 from by decide), if_neg (show ¬ (1 : Int32) = 5 from by decide), if_neg (show ¬ (1 : Int32) = 6 from by decide), if_neg (show ¬ (1 : Int32) = 7 from by decide), X3_nameOf hm ha, bs, o, bs, r5 a ha]
        exact ⟨_, rfl, rfl⟩
      · rw [show nI 2 = 2 from rfl, if_neg (show ¬ (2 : Int32) = 0 from by decide), if_neg (show ¬ (2 : Int32) = 1 from by decide), if_pos (show (2 : Int32) = 2 from rfl)]
        have o := X8_of (f := now) (a := a) (w := 2) (by omega) (by omega)
        rw [show nI 2 = 2 from rfl, show 3 + 4 * a + 2 = 5 + 4 * a by omega] at o
        rw [if_neg (show ¬ (2 : Int32) = 4 from by decide), if_neg (show ¬ (2 : Int32) = 5 from by decide), if_neg (show ¬ (2 : Int32) = 6 from by decide), if_neg (show ¬ (2 : Int32) = 7 from by decide), X3_wantOf hm ha, bs, o, bs, r6 a ha]
        exact ⟨_, rfl, rfl⟩
      · rw [show nI 3 = 3 from rfl, if_neg (show ¬ (3 : Int32) = 0 from by decide), if_neg (show ¬ (3 : Int32) = 1 from by decide), if_neg (show ¬ (3 : Int32) = 2 from by decide), if_pos (show (3 : Int32) = 3 from rfl)]
        have o := X8_of (f := now) (a := a) (w := 3) (by omega) (by omega)
        rw [show nI 3 = 3 from rfl, show 3 + 4 * a + 3 = 6 + 4 * a by omega] at o
        rw [if_neg (show ¬ (3 : Int32) = 4 from by decide), if_neg (show ¬ (3 : Int32) = 5 from by decide), if_neg (show ¬ (3 : Int32) = 6 from by decide), if_neg (show ¬ (3 : Int32) = 7 from by decide), X3_blockOf hm ha, bs, o, bs, r7 a ha]
        exact ⟨_, rfl, rfl⟩
      · rw [show nI 4 = 4 from rfl, if_neg (show ¬ (4 : Int32) = 0 from by decide), if_neg (show ¬ (4 : Int32) = 1 from by decide), if_neg (show ¬ (4 : Int32) = 2 from by decide), if_neg (show ¬ (4 : Int32) = 3 from by decide), if_pos (show (4 : Int32) = 4 from rfl)]
        rw [if_pos (show (4 : Int32) = 4 from rfl), X3_fabricOf hm uB r8 ha, bs, X3_principalOf hm r4 r5, bs, X8_fabricOf hm h0 ha, bs, X8_principalOf hm h0 hD, bs]
        exact ⟨_, rfl, rfl⟩
      · rw [show nI 5 = 5 from rfl, if_neg (show ¬ (5 : Int32) = 0 from by decide), if_neg (show ¬ (5 : Int32) = 1 from by decide), if_neg (show ¬ (5 : Int32) = 2 from by decide), if_neg (show ¬ (5 : Int32) = 3 from by decide), if_neg (show ¬ (5 : Int32) = 4 from by decide), if_pos (show (5 : Int32) = 5 from rfl)]
        rw [if_neg (show ¬ (5 : Int32) = 4 from by decide), if_pos (show (5 : Int32) = 5 from rfl), X3_farOf hm uB uS r4 r5 r8 ha, bs, X8_farOf hm h0 hD uB uS ha, bs]
        exact ⟨_, rfl, rfl⟩
      · rw [show nI 6 = 6 from rfl, if_neg (show ¬ (6 : Int32) = 0 from by decide), if_neg (show ¬ (6 : Int32) = 1 from by decide), if_neg (show ¬ (6 : Int32) = 2 from by decide), if_neg (show ¬ (6 : Int32) = 3 from by decide), if_neg (show ¬ (6 : Int32) = 4 from by decide), if_neg (show ¬ (6 : Int32) = 5 from by decide), if_pos (show (6 : Int32) = 6 from rfl)]
        rw [if_neg (show ¬ (6 : Int32) = 4 from by decide), if_neg (show ¬ (6 : Int32) = 5 from by decide), if_pos (show (6 : Int32) = 6 from rfl), X3_fabricOf hm uB r8 ha, bs, X8_fabricOf hm h0 ha, bs]
        exact ⟨_, rfl, rfl⟩
      · rw [show nI 7 = 7 from rfl, if_neg (show ¬ (7 : Int32) = 0 from by decide), if_neg (show ¬ (7 : Int32) = 1 from by decide), if_neg (show ¬ (7 : Int32) = 2 from by decide), if_neg (show ¬ (7 : Int32) = 3 from by decide), if_neg (show ¬ (7 : Int32) = 4 from by decide), if_neg (show ¬ (7 : Int32) = 5 from by decide), if_neg (show ¬ (7 : Int32) = 6 from by decide), if_pos (show (7 : Int32) = 7 from rfl)]
        obtain ⟨M, m1, m2⟩ := X3_hostsAt hm hk hP r11 (b1 a)
        have m1 : fX3_hostsAt (nI k) pl (1 <<< (nI a &&& 31)) = some M := m1
        obtain ⟨M', m3, m4⟩ := X8_hostsAt hm hk h1 hP ha
        obtain rfl : M = M' := b_ext (fun i _ => (m2 i).trans (m4 i).symm)
        rw [if_neg (show ¬ (7 : Int32) = 4 from by decide), if_neg (show ¬ (7 : Int32) = 5 from by decide), if_neg (show ¬ (7 : Int32) = 6 from by decide), if_pos (show (7 : Int32) = 7 from rfl), m1, bs, m3, bs]
        exact ⟨_, rfl, rfl⟩
    · rw [e3, bs, if00]
      refine ⟨-1, ?_, rfl⟩
      rw [if_neg (show ¬ p2 = 0 from not_lit (m := 7) (w := 0) (by omega) (by omega) rfl hb), if_neg (show ¬ p2 = 1 from not_lit (m := 7) (w := 1) (by omega) (by omega) rfl hb), if_neg (show ¬ p2 = 2 from not_lit (m := 7) (w := 2) (by omega) (by omega) rfl hb), if_neg (show ¬ p2 = 3 from not_lit (m := 7) (w := 3) (by omega) (by omega) rfl hb), if_neg (show ¬ p2 = 4 from not_lit (m := 7) (w := 4) (by omega) (by omega) rfl hb), if_neg (show ¬ p2 = 5 from not_lit (m := 7) (w := 5) (by omega) (by omega) rfl hb), if_neg (show ¬ p2 = 6 from not_lit (m := 7) (w := 6) (by omega) (by omega) rfl hb), if_neg (show ¬ p2 = 7 from not_lit (m := 7) (w := 7) (by omega) (by omega) rfl hb)]
  · rw [e1, e2, bs, bs, if00, if00]
    exact ⟨_, rfl, rfl⟩
theorem op_link {sw hw re : Int32} {pr na wa bl up cl zo pl no ne : Nat → Int32} {now : Nat → Int32} (hN : NR (sw, hw, re, pr, na, wa, bl, up, cl, zo, pl, no, ne) now) (p1 p2 : Int32) :
    ∃ r, fX7_link sw up cl p1 p2 = some r ∧ fX8_link now p1 p2 = some r := by
  obtain ⟨m, k, hI, hR⟩ := id hN
  obtain ⟨⟨h0, h1, hm, hk, h2⟩, hD, hNm, hP, ⟨uB, uS, uI, uZ⟩, ⟨cB, cS, cI, cZ⟩, hZ, hU⟩ := id hI
  obtain ⟨r1, r2, r3, r4, r5, r6, r7, r8, r9, r10, r11, r12, r13⟩ := id hR
  obtain rfl : sw = nI m := r1
  obtain rfl : hw = nI k := r2
  have r3 : re = now 2 := r3
  have r4 : ∀ a, a < m → pr a = now (3 + 4 * a) := r4
  have r5 : ∀ a, a < m → na a = now (4 + 4 * a) := r5
  have r6 : ∀ a, a < m → wa a = now (5 + 4 * a) := r6
  have r7 : ∀ a, a < m → bl a = now (6 + 4 * a) := r7
  have r8 : ∀ a, a < m → up a = now (35 + a) := r8
  have r9 : ∀ a, a < m → cl a = now (41 + a) := r9
  have r10 : ∀ a, a < m → ∀ z, z < 4 → zo (4 * a + z) = now (47 + 4 * a + z) := r10
  have r11 : ∀ h, h < k → pl h = now (27 + h) := r11
  have r12 : ∀ h, h < k → no h = now (71 + h) := r12
  have r13 : ∀ h, h < k → ne h = now (79 + h) := r13
  unfold fX7_link fX8_link
  rcases two_cases (by omega : m < 2 ^ 30) h0 p1 p2 with ⟨e1, e2, a, b, ha, hb, hab, rfl, rfl⟩ | ⟨e1, e2⟩
  · have g41 : inB (41 + nI a) 87 = true := by rw [l41, nI_add]; exact inB_nI (by omega) (by decide)
    have n41 : (41 + nI a).toNatClampNeg = 41 + a := by rw [l41, nI_add, nI_N (by omega)]
    rw [e1, e2, bs, bs, if10, if10, X3_linkState hm ha hb hab, bs, X8_isUp (by omega) (by omega), bs, gd_t g41, n41, X8_has (by omega), bs, r8 a ha, r9 a ha]
    refine ⟨_, rfl, ?_⟩
    cases bt (now (35 + a)) b
    · cases bt (now (41 + a)) b <;> rfl
    · rfl
  · rw [e1, e2, bs, bs, if00, if00]
    exact ⟨_, rfl, rfl⟩
theorem op_zone {sw hw re : Int32} {pr na wa bl up cl zo pl no ne : Nat → Int32} {now : Nat → Int32} (hN : NR (sw, hw, re, pr, na, wa, bl, up, cl, zo, pl, no, ne) now) (p1 p2 : Int32) :
    ∃ r, fX7_zone sw zo p1 p2 = some r ∧ fX8_zone now p1 p2 = some r := by
  obtain ⟨m, k, hI, hR⟩ := id hN
  obtain ⟨⟨h0, h1, hm, hk, h2⟩, hD, hNm, hP, ⟨uB, uS, uI, uZ⟩, ⟨cB, cS, cI, cZ⟩, hZ, hU⟩ := id hI
  obtain ⟨r1, r2, r3, r4, r5, r6, r7, r8, r9, r10, r11, r12, r13⟩ := id hR
  obtain rfl : sw = nI m := r1
  obtain rfl : hw = nI k := r2
  have r3 : re = now 2 := r3
  have r4 : ∀ a, a < m → pr a = now (3 + 4 * a) := r4
  have r5 : ∀ a, a < m → na a = now (4 + 4 * a) := r5
  have r6 : ∀ a, a < m → wa a = now (5 + 4 * a) := r6
  have r7 : ∀ a, a < m → bl a = now (6 + 4 * a) := r7
  have r8 : ∀ a, a < m → up a = now (35 + a) := r8
  have r9 : ∀ a, a < m → cl a = now (41 + a) := r9
  have r10 : ∀ a, a < m → ∀ z, z < 4 → zo (4 * a + z) = now (47 + 4 * a + z) := r10
  have r11 : ∀ h, h < k → pl h = now (27 + h) := r11
  have r12 : ∀ h, h < k → no h = now (71 + h) := r12
  have r13 : ∀ h, h < k → ne h = now (79 + h) := r13
  unfold fX7_zone fX8_zone
  rcases sw2 hm h0 p1 with ⟨e1, e2, a, ha, rfl⟩ | ⟨e1, e2, -⟩
  · rw [e1, e2, bs, bs, if10, if10]
    rcases in_cases p2 0 3 with ⟨e3, b1', b2'⟩ | ⟨e3, hb⟩
    · obtain ⟨z, hz, rfl⟩ := lit_cases (m := 3) (by omega) b1' b2'
      rw [e3, bs, if10, if_neg (ge_nlt b1'), l4, if_pos (nI_lt (by omega) (by decide)), X3_zoneSet hm ha (by omega), bs, X8_zoneOf (by omega) (by omega), bs, r10 a ha z (by omega)]
      exact ⟨_, rfl, rfl⟩
    · rw [e3, bs, if00]
      refine ⟨-1, ?_, rfl⟩
      by_cases h3 : p2 < 0
      · rw [if_pos h3]
      · rw [if_neg h3, if_neg (fun h4 => by
          have h5 := hb.resolve_left h3
          rw [fa_lt, show (4 : Int32).toInt = 4 from by decide] at h4
          rw [fa_lt, show (3 : Int32).toInt = 3 from by decide] at h5
          omega)]
  · rw [e1, e2, bs, bs, if00, if00]
    exact ⟨_, rfl, rfl⟩
theorem op_host {sw hw re : Int32} {pr na wa bl up cl zo pl no ne : Nat → Int32} {now : Nat → Int32} (hN : NR (sw, hw, re, pr, na, wa, bl, up, cl, zo, pl, no, ne) now) (p1 p2 : Int32) :
    ∃ r, fX7_host sw hw up zo pl no ne p1 p2 = some r ∧ fX8_host now p1 p2 = some r := by
  obtain ⟨m, k, hI, hR⟩ := id hN
  obtain ⟨⟨h0, h1, hm, hk, h2⟩, hD, hNm, hP, ⟨uB, uS, uI, uZ⟩, ⟨cB, cS, cI, cZ⟩, hZ, hU⟩ := id hI
  obtain ⟨r1, r2, r3, r4, r5, r6, r7, r8, r9, r10, r11, r12, r13⟩ := id hR
  obtain rfl : sw = nI m := r1
  obtain rfl : hw = nI k := r2
  have r3 : re = now 2 := r3
  have r4 : ∀ a, a < m → pr a = now (3 + 4 * a) := r4
  have r5 : ∀ a, a < m → na a = now (4 + 4 * a) := r5
  have r6 : ∀ a, a < m → wa a = now (5 + 4 * a) := r6
  have r7 : ∀ a, a < m → bl a = now (6 + 4 * a) := r7
  have r8 : ∀ a, a < m → up a = now (35 + a) := r8
  have r9 : ∀ a, a < m → cl a = now (41 + a) := r9
  have r10 : ∀ a, a < m → ∀ z, z < 4 → zo (4 * a + z) = now (47 + 4 * a + z) := r10
  have r11 : ∀ h, h < k → pl h = now (27 + h) := r11
  have r12 : ∀ h, h < k → no h = now (71 + h) := r12
  have r13 : ∀ h, h < k → ne h = now (79 + h) := r13
  unfold fX7_host fX8_host
  rcases ho2 hk h1 p1 with ⟨e1, e2, i, hi, rfl⟩ | ⟨e1, e2, -⟩
  · rw [e1, e2, bs, bs, if10, if10]
    rcases in_cases p2 0 3 with ⟨e3, b1', b2'⟩ | ⟨e3, hb⟩
    · rw [e3, bs, if10]
      obtain ⟨w, hw', rfl⟩ := lit_cases (m := 3) (by omega) b1' b2'
      clear b1' b2' e3
      rcases (by omega : w = 0 ∨ w = 1 ∨ w = 2 ∨ w = 3) with rfl | rfl | rfl | rfl
      · rw [show nI 0 = 0 from rfl, if_pos (show (0 : Int32) = 0 from rfl), X3_placeOf hk hi, bs, l27, nI_add, gd_t (inB_nI (by omega) (by decide)), nI_N (by omega), r11 i hi]
        exact ⟨_, rfl, rfl⟩
      · obtain ⟨V, v1, v2⟩ := X3_view hm hk uB uS hP hU r8 r10 r11
        have rw1 := row_eq hk (rowV_srow hk v2 (sa := srow m k now) (fun _ _ => rfl)) hi
        rw [show nI 1 = 1 from rfl, if_neg (show ¬ (1 : Int32) = 0 from by decide), if_pos (show (1 : Int32) = 1 from rfl), v1, bs, rw1, bs, X8_seesOf hm hk h0 h1 hP hi, bs]
        exact ⟨_, rfl, rfl⟩
      · rw [show nI 2 = 2 from rfl, if_neg (show ¬ (2 : Int32) = 0 from by decide), if_neg (show ¬ (2 : Int32) = 1 from by decide), if_pos (show (2 : Int32) = 2 from rfl), X3_noticesOf hk hi, bs, l71, nI_add, gd_t (inB_nI (by omega) (by decide)), nI_N (by omega), r12 i hi]
        exact ⟨_, rfl, rfl⟩
      · rw [show nI 3 = 3 from rfl, if_neg (show ¬ (3 : Int32) = 0 from by decide), if_neg (show ¬ (3 : Int32) = 1 from by decide), if_neg (show ¬ (3 : Int32) = 2 from by decide), if_pos (show (3 : Int32) = 3 from rfl), X3_newsOf hk hi, bs, l79, nI_add, gd_t (inB_nI (by omega) (by decide)), nI_N (by omega), r13 i hi]
        exact ⟨_, rfl, rfl⟩
    · rw [e3, bs, if00]
      refine ⟨-1, ?_, rfl⟩
      rw [if_neg (show ¬ p2 = 0 from not_lit (m := 3) (w := 0) (by omega) (by omega) rfl hb), if_neg (show ¬ p2 = 1 from not_lit (m := 3) (w := 1) (by omega) (by omega) rfl hb), if_neg (show ¬ p2 = 2 from not_lit (m := 3) (w := 2) (by omega) (by omega) rfl hb), if_neg (show ¬ p2 = 3 from not_lit (m := 3) (w := 3) (by omega) (by omega) rfl hb)]
  · rw [e1, e2, bs, bs, if00, if00]
    exact ⟨_, rfl, rfl⟩
theorem op_would {sw hw re : Int32} {pr na wa bl up cl zo pl no ne : Nat → Int32} {now : Nat → Int32} (hN : NR (sw, hw, re, pr, na, wa, bl, up, cl, zo, pl, no, ne) now) (p1 p2 : Int32) :
    ∃ r, fX7_would sw re bl up cl zo p1 p2 = some r ∧ fX8_would now p1 p2 = some r := by
  obtain ⟨m, k, hI, hR⟩ := id hN
  obtain ⟨⟨h0, h1, hm, hk, h2⟩, hD, hNm, hP, ⟨uB, uS, uI, uZ⟩, ⟨cB, cS, cI, cZ⟩, hZ, hU⟩ := id hI
  obtain ⟨r1, r2, r3, r4, r5, r6, r7, r8, r9, r10, r11, r12, r13⟩ := id hR
  obtain rfl : sw = nI m := r1
  obtain rfl : hw = nI k := r2
  have r3 : re = now 2 := r3
  have r4 : ∀ a, a < m → pr a = now (3 + 4 * a) := r4
  have r5 : ∀ a, a < m → na a = now (4 + 4 * a) := r5
  have r6 : ∀ a, a < m → wa a = now (5 + 4 * a) := r6
  have r7 : ∀ a, a < m → bl a = now (6 + 4 * a) := r7
  have r8 : ∀ a, a < m → up a = now (35 + a) := r8
  have r9 : ∀ a, a < m → cl a = now (41 + a) := r9
  have r10 : ∀ a, a < m → ∀ z, z < 4 → zo (4 * a + z) = now (47 + 4 * a + z) := r10
  have r11 : ∀ h, h < k → pl h = now (27 + h) := r11
  have r12 : ∀ h, h < k → no h = now (71 + h) := r12
  have r13 : ∀ h, h < k → ne h = now (79 + h) := r13
  unfold fX7_would fX8_would
  rcases two_cases (by omega : m < 2 ^ 30) h0 p1 p2 with ⟨e1, e2, a, b, ha, hb, hab, rfl, rfl⟩ | ⟨e1, e2⟩
  · rw [e1, e2, bs, bs, if10, if10, X3_isUp hm ha hb hab, bs, X8_isUp (by omega) (by omega), bs, r8 a ha, X3_outcomeOf hm uB r3 h2 r7 r8 r10 ha hb, bs, X8_wouldBe hm h0 h2 ha hb, bs]
    cases bt (now (35 + a)) b
    · exact ⟨_, rfl, rfl⟩
    · exact ⟨_, rfl, rfl⟩
  · rw [e1, e2, bs, bs, if00, if00]
    exact ⟨_, rfl, rfl⟩
/-! counts -/
theorem small6 {x : Int32} (h : ∀ i, bt x i = true → i < 6) : ∃ j, j < 64 ∧ x = nI j := by
  have hlt : x.toBitVec.toNat < 2 ^ 6 := by
    apply Nat.lt_pow_two_of_testBit
    intro i hi
    cases hb : x.toBitVec.toNat.testBit i
    · rfl
    · have := h i hb; omega
  refine ⟨x.toBitVec.toNat, hlt, ?_⟩
  apply Int32.toBitVec_inj.mp
  show x.toBitVec = BitVec.ofNat 32 _
  rw [BitVec.ofNat_toNat, BitVec.setWidth_eq]
theorem bitCount6 : ∀ j, j < 64 → fJ6_bitCount_0f7a4 (nI j) = some (nI (cnt8 (nI j))) := by decide +kernel
theorem bitCountI {x : Int32} (h : ∀ i, bt x i = true → i < 6) : fJ6_bitCount_0f7a4 x = some (nI (cnt8 x)) := by
  obtain ⟨j, hj, rfl⟩ := small6 h
  exact bitCount6 j hj
theorem X3_linkTotal {n : Nat} (hn : n ≤ 6) {up cl u : Nat → Int32} (hB : Bd n u) {p : Int32} (hp : ∀ a, a < n → (if p = 1 then up a else cl a) = u a) : fX3_linkTotal (nI n) up cl p = some (nI (fb_sm (fun a => cnt8 (u a)) n) / 2) := by
  obtain ⟨w', e1, e2⟩ := cle n (fun fu (w : Int32) i => fX3_linkTotal_L1 (nI n) up cl p fu w (nI i)) (fun w a => w + nI (cnt8 (u a))) (fun w => (w, nI n)) (fun w i => w = nI (fb_sm (fun a => cnt8 (u a)) i))
    (by intro fu s _
        show fX3_linkTotal_L1 (nI n) up cl p (fu + 1) s (nI n) = _
        rw [fX3_linkTotal_L1.eq_2, if_pos (nI_le (Nat.le_refl n) (by omega))])
    (by intro fu s i hi hs
        show fX3_linkTotal_L1 (nI n) up cl p (fu + 1) s (nI i) = fX3_linkTotal_L1 (nI n) up cl p fu _ (nI (i + 1)) ∧ _
        have hb := bitCountI (x := u i) (fun j hj => by have := hB i hi j hj; omega)
        have hq := hp i hi
        rw [fX3_linkTotal_L1.eq_2, if_neg (nI_ge hi (by omega)), gd_t (inB_nI (by omega) (by decide)), gd_t (inB_nI (by omega) (by decide)), nI_N (by omega)]
        by_cases h1 : p = 1
        · rw [if_pos h1] at hq
          rw [if_pos h1, hq, hb, bs, bd_eq, bd_eq, nI_1]
          refine ⟨rfl, ?_⟩
          show s + nI _ = _
          rw [hs, nI_add, fb_sm_succ]
        · rw [if_neg h1] at hq
          rw [if_neg h1, hq, hb, bs, bd_eq, bd_eq, nI_1]
          refine ⟨rfl, ?_⟩
          show s + nI _ = _
          rw [hs, nI_add, fb_sm_succ])
    0 500 (by omega) rfl
  have e1 : fX3_linkTotal_L1 (nI n) up cl p 500 0 0 = _ := e1
  unfold fX3_linkTotal
  rw [e1, bs, e2]
theorem X8_sum1 {f : Nat → Int32} {s : Nat} (hs : s + 6 ≤ 87) : fX8_sumOf f (nI s) 6 1 = some (nI (fb_sm (fun a => cnt8 (f (s + a))) 6)) := by
  obtain ⟨w', e1, e2⟩ := cle 6 (fun fu (w : Int32) i => fX8_sumOf_L1 f (nI s) 6 1 fu w (nI i)) (fun w a => w + nI (cnt8 (f (s + a)))) (fun w => (w, nI 6)) (fun w i => w = nI (fb_sm (fun a => cnt8 (f (s + a))) i))
    (by intro fu w _
        show fX8_sumOf_L1 f (nI s) 6 1 (fu + 1) w (nI 6) = _
        rw [fX8_sumOf_L1.eq_2, if_pos (by decide)])
    (by intro fu w i hi hw
        show fX8_sumOf_L1 f (nI s) 6 1 (fu + 1) w (nI i) = fX8_sumOf_L1 f (nI s) 6 1 fu _ (nI (i + 1)) ∧ _
        rw [fX8_sumOf_L1.eq_2, l6, if_neg (nI_ge hi (by decide)), if10, nI_add, gd_t (inB_nI (by omega) (by decide)), nI_N (by omega), X8_ones, bs, bd_eq, bd_eq, nI_1]
        refine ⟨rfl, ?_⟩
        show w + nI _ = _
        rw [hw, nI_add, fb_sm_succ])
    0 500 (by omega) rfl
  have e1 : fX8_sumOf_L1 f (nI s) 6 1 500 0 0 = _ := e1
  unfold fX8_sumOf
  rw [e1, bs, e2]
theorem sm_rest {u : Nat → Int32} {n : Nat} (hn : n ≤ 6) (h : ∀ a, n ≤ a → a < 6 → u a = 0) : fb_sm (fun a => cnt8 (u a)) 6 = fb_sm (fun a => cnt8 (u a)) n := by
  obtain ⟨d, hd⟩ : ∃ d, 6 = n + d := ⟨6 - n, by omega⟩
  rw [hd, fb_sm_split]
  have : fb_sm (fun k => cnt8 (u (n + k))) d = fb_sm (fun _ => 0) d := fb_sm_cong (fun k hk => by
    rw [h (n + k) (by omega) (by omega)]; rfl)
  rw [this, fb_sm_const]
  omega
theorem notices_both {k : Nat} (hk : k ≤ 8) {f no : Nat → Int32} (hno : ∀ h, h < k → no h = f (71 + h)) : ∃ r, fX3_noticeTotal (nI k) no = some r ∧ fX8_sumOf f 71 (nI k) 0 = some r := by
  have hA := cl1 k (fun fu (w : Int32) i => fX3_noticeTotal_L1 (nI k) no fu w (nI i)) (fun w h => w + f (71 + h)) (fun w => (w, nI k))
    (by intro fu s
        show fX3_noticeTotal_L1 (nI k) no (fu + 1) s (nI k) = _
        rw [fX3_noticeTotal_L1.eq_2, if_pos (nI_le (Nat.le_refl k) (by omega))])
    (by intro fu s i hi
        show fX3_noticeTotal_L1 (nI k) no (fu + 1) s (nI i) = fX3_noticeTotal_L1 (nI k) no fu _ (nI (i + 1))
        rw [fX3_noticeTotal_L1.eq_2, if_neg (nI_ge hi (by omega)), gd_t (inB_nI (by omega) (by decide)), bd_eq, bd_eq, nI_1, nI_N (by omega), hno i hi])
    0 500 (by omega)
  have hB := cl1 k (fun fu (w : Int32) i => fX8_sumOf_L1 f 71 (nI k) 0 fu w (nI i)) (fun w h => w + f (71 + h)) (fun w => (w, nI k))
    (by intro fu s
        show fX8_sumOf_L1 f 71 (nI k) 0 (fu + 1) s (nI k) = _
        rw [fX8_sumOf_L1.eq_2, if_pos (nI_le (Nat.le_refl k) (by omega))])
    (by intro fu s i hi
        show fX8_sumOf_L1 f 71 (nI k) 0 (fu + 1) s (nI i) = fX8_sumOf_L1 f 71 (nI k) 0 fu _ (nI (i + 1))
        rw [fX8_sumOf_L1.eq_2, if_neg (nI_ge hi (by omega)), if00, l71, nI_add, gd_t (inB_nI (by omega) (by decide)), bd_eq, bd_eq, nI_1, nI_N (by omega)])
    0 500 (by omega)
  have hA : fX3_noticeTotal_L1 (nI k) no 500 0 0 = _ := hA
  have hB : fX8_sumOf_L1 f 71 (nI k) 0 500 0 0 = _ := hB
  generalize (List.range k).foldl (fun w h => w + f (71 + h)) 0 = r at hA hB
  refine ⟨r, ?_, ?_⟩
  · unfold fX3_noticeTotal
    rw [hA, bs]
  · unfold fX8_sumOf
    rw [hB, bs]
/-- how many a view tells -/
theorem sm_view {n k : Nat} (hk : k ≤ 8) {f : Nat → Int32} {V : Int64} (hV : IsV n k f V) : fb_sm (fun g => pop8 (byt V.toBitVec.toNat g)) 8 = twoT n k f := by
  obtain ⟨d, hd⟩ : ∃ d, 8 = k + d := ⟨8 - k, by omega⟩
  have e : fb_sm (fun g => pop8 (byt V.toBitVec.toNat g)) 8 = fb_sm (fun g => fb_ct (fun i => bL V (8 * g + i)) 8) 8 := fb_sm_cong (fun g hg => pop_row V hg)
  rw [e]
  have e2 : fb_sm (fun g => fb_ct (fun i => bL V (8 * g + i)) 8) (k + d) = fb_sm (fun g => fb_ct (fun i => bL V (8 * g + i)) 8) k := by
    rw [fb_sm_split]
    have : fb_sm (fun j => fb_ct (fun i => bL V (8 * (k + j) + i)) 8) d = fb_sm (fun _ => 0) d := fb_sm_cong (fun j hj => by
      rw [fb_ct_zero]
      intro i hi
      rw [hV (k + j) i (by omega) hi, decide_eq_false (by omega : ¬ k + j < k), Bool.false_and])
    rw [this, fb_sm_const]
    omega
  rw [← hd] at e2
  rw [e2]
  unfold twoT
  refine fb_sm_cong (fun g hg => ?_)
  unfold cnt8
  refine fb_ct_cong (fun i hi => ?_)
  rw [hV g i (by omega) hi, bt_srow hk, decide_eq_true hg, Bool.true_and]
theorem X7_twosOf {n k : Nat} (hk : k ≤ 8) {f : Nat → Int32} {V : Int64} (hV : IsV n k f V) : fX7_twosOf V = some (nI (twoT n k f / 2)) := by
  unfold fX7_twosOf
  have := twoT_le n k f hk
  rw [bitCountL, sm_view hk hV, bs, l2, pk_div (by omega) (by decide) (by decide)]
/-! the text, what was seen -/
def RS (L7 : Nat → Int32) (s7 : Int32) (t8 : Nat → Int32) (n8 : Int32) : Prop := ∃ L, L ≤ 100 ∧ s7 = nI L ∧ n8 = nI L ∧ (∀ i, i < L → L7 i = t8 i) ∧ ∀ i, i < L → ∃ c, c < 256 ∧ t8 i = nI c
def RC (size ment : Int32) (seen unseen : Int64) (facts : Nat → Int32) (sn : Int32) : Prop := ∃ m, m ≤ 6 ∧ size = nI m ∧ sn = nI m ∧ (∀ j, j < m → ∃ g h b, g < 8 ∧ h < 8 ∧ g ≠ h ∧ facts (3 * j) = nI g ∧ facts (3 * j + 1) = nI h ∧ facts (3 * j + 2) = bi b) ∧
  (∀ i, i < 32 → (bt ment i = true ↔ ∃ j, j < m ∧ (facts (3 * j) = nI i ∨ facts (3 * j + 1) = nI i))) ∧
  (∀ g h, g < 8 → h < 8 → (bL seen (8 * g + h) = true ↔ ∃ j, j < m ∧ facts (3 * j) = nI g ∧ facts (3 * j + 1) = nI h ∧ facts (3 * j + 2) = 1)) ∧
  (∀ g h, g < 8 → h < 8 → (bL unseen (8 * g + h) = true ↔ ∃ j, j < m ∧ facts (3 * j) = nI g ∧ facts (3 * j + 1) = nI h ∧ facts (3 * j + 2) = 0))
theorem op_count {sw hw re : Int32} {pr na wa bl up cl zo pl no ne : Nat → Int32} {now : Nat → Int32} {hn : Nat → NetT} {ho hs deeds : Int32} {past : Nat → Int32} {L7 : Nat → Int32} {s7 : Int32} {t8 : Nat → Int32} {n8 size ment : Int32} {seen unseen : Int64} {facts : Nat → Int32} {sn : Int32} (hN : NR (sw, hw, re, pr, na, wa, bl, up, cl, zo, pl, no, ne) now) (hH : HR hn ho hs past deeds) (hS : RS L7 s7 t8 n8) (hC : RC size ment seen unseen facts sn) (p1 : Int32) :
    ∃ r, fX7_count s7 sw hw re up cl zo pl no hs size p1 = some r ∧ fX8_count now deeds n8 sn p1 = some r := by
  obtain ⟨m, k, hI, hR⟩ := id hN
  obtain ⟨⟨h0, h1, hm, hk, h2⟩, hD, hNm, hP, ⟨uB, uS, uI, uZ⟩, ⟨cB, cS, cI, cZ⟩, hZ, hU⟩ := id hI
  obtain ⟨r1, r2, r3, r4, r5, r6, r7, r8, r9, r10, r11, r12, r13⟩ := id hR
  obtain rfl : sw = nI m := r1
  obtain rfl : hw = nI k := r2
  have r3 : re = now 2 := r3
  have r4 : ∀ a, a < m → pr a = now (3 + 4 * a) := r4
  have r5 : ∀ a, a < m → na a = now (4 + 4 * a) := r5
  have r6 : ∀ a, a < m → wa a = now (5 + 4 * a) := r6
  have r7 : ∀ a, a < m → bl a = now (6 + 4 * a) := r7
  have r8 : ∀ a, a < m → up a = now (35 + a) := r8
  have r9 : ∀ a, a < m → cl a = now (41 + a) := r9
  have r10 : ∀ a, a < m → ∀ z, z < 4 → zo (4 * a + z) = now (47 + 4 * a + z) := r10
  have r11 : ∀ h, h < k → pl h = now (27 + h) := r11
  have r12 : ∀ h, h < k → no h = now (71 + h) := r12
  have r13 : ∀ h, h < k → ne h = now (79 + h) := r13
  obtain ⟨o, d, -, -, -, hd1, hd2, -⟩ := hH
  obtain ⟨L, -, hs1, hs2, -⟩ := hS
  obtain ⟨q, -, hc1, hc2, -⟩ := hC
  obtain ⟨V, v1, v2⟩ := X3_view hm hk uB uS hP hU r8 r10 r11
  obtain ⟨rn, n1, n2⟩ := notices_both hk r12
  have l3' := X3_linkTotal hm (up := up) (cl := cl) (u := UPr now) uB (p := 1) (fun a ha => by rw [if_pos rfl]; exact r8 a ha)
  have l4' := X3_linkTotal hm (up := up) (cl := cl) (u := CLr now) cB (p := 2) (fun a ha => by rw [if_neg (by decide)]; exact r9 a ha)
  have s3' := X8_sum1 (f := now) (s := 35) (by omega)
  have s4' := X8_sum1 (f := now) (s := 41) (by omega)
  rw [sm_rest hm (u := UPr now) uZ] at s3'
  rw [sm_rest hm (u := CLr now) cZ] at s4'
  have s3' : fX8_sumOf now 35 6 1 = _ := s3'
  have s4' : fX8_sumOf now 41 6 1 = _ := s4'
  have hre : fX3_isRenewing re = some (now 2) := by
    unfold fX3_isRenewing
    rw [r3, gd_t h2]
  unfold fX7_count fX8_count fX3_switchTotal fX3_hostTotal fX1_size fX5_size fX2_size
  rw [X3_fabricTotal hm uB uS r8, X8_fabrics hm h0, l3', l4', s3', s4', hre, n1, v1]
  have gc0 : ∀ t : Option Int32, gd (inB 0 87 = true) t = t := fun t => gd_t (by decide)
  have gc1 : ∀ t : Option Int32, gd (inB 1 87 = true) t = t := fun t => gd_t (by decide)
  have gc2 : ∀ t : Option Int32, gd (inB 2 87 = true) t = t := fun t => gd_t (by decide)
  simp only [bs, X7_twosOf hk v2, X8_twos hm hk h0 h1 hP, gc0, gc1, gc2, z0N, z1N, z2N, h0, h1, n2]
  by_cases c0 : p1 = 0
  · rw [if_pos c0, if_pos c0]; exact ⟨_, rfl, rfl⟩
  by_cases c1 : p1 = 1
  · rw [if_neg c0, if_pos c1, if_neg c0, if_pos c1]; exact ⟨_, rfl, rfl⟩
  by_cases c2 : p1 = 2
  · rw [if_neg c0, if_neg c1, if_pos c2, if_neg c0, if_neg c1, if_pos c2]; exact ⟨_, rfl, rfl⟩
  by_cases c3 : p1 = 3
  · rw [if_neg c0, if_neg c1, if_neg c2, if_pos c3, if_neg c0, if_neg c1, if_neg c2, if_pos c3]; exact ⟨_, rfl, rfl⟩
  by_cases c4 : p1 = 4
  · rw [if_neg c0, if_neg c1, if_neg c2, if_neg c3, if_pos c4, if_neg c0, if_neg c1, if_neg c2, if_neg c3, if_pos c4]; exact ⟨_, rfl, rfl⟩
  rw [if_neg c0, if_neg c1, if_neg c2, if_neg c3, if_neg c4, if_neg c0, if_neg c1, if_neg c2, if_neg c3, if_neg c4]
  by_cases c5 : p1 = 5
  · rw [if_pos c5, if_pos c5]
    rcases h2 with h2 | h2
    · rw [h2]; exact ⟨_, rfl, rfl⟩
    · rw [h2]; exact ⟨_, rfl, rfl⟩
  rw [if_neg c5, if_neg c5]
  by_cases c6 : p1 = 6
  · rw [if_pos c6, if_pos c6]; exact ⟨_, rfl, rfl⟩
  rw [if_neg c6, if_neg c6]
  by_cases c7 : p1 = 7
  · rw [if_pos c7, if_pos c7]; exact ⟨_, rfl, rfl⟩
  rw [if_neg c7, if_neg c7]
  by_cases c8 : p1 = 8
  · rw [if_pos c8, if_pos c8, hc1, hc2]; exact ⟨_, rfl, rfl⟩
  rw [if_neg c8, if_neg c8]
  by_cases c9 : p1 = 9
  · rw [if_pos c9, if_pos c9, hs1, hs2]; exact ⟨_, rfl, rfl⟩
  rw [if_neg c9, if_neg c9]
  by_cases c10 : p1 = 10
  · rw [if_pos c10, if_pos c10, hd1, hd2]; exact ⟨_, rfl, rfl⟩
  rw [if_neg c10, if_neg c10]
  exact ⟨_, rfl, rfl⟩
theorem op_type {L7 : Nat → Int32} {s7 : Int32} {t8 : Nat → Int32} {n8 : Int32} (hS : RS L7 s7 t8 n8) (p1 : Int32) :
    ∃ z7 z8, fX7_type L7 s7 p1 = some z7 ∧ fX8_type t8 n8 p1 = some z8 ∧ z7.1 = z8.1 ∧ RS z7.2.1 z7.2.2 z8.2.1 z8.2.2 := by
  obtain ⟨L, hL, rfl, rfl, e1, e2⟩ := id hS
  unfold fX7_type fX8_type
  rcases in_cases p1 0 255 with ⟨e3, b1', b2'⟩ | ⟨e3, hb⟩
  · obtain ⟨c, hc, rfl⟩ := lit_cases (m := 255) (by omega) b1' b2'
    rw [e3, bs, if10, if_neg (ge_nlt b1'), if_pos b2']
    unfold fX5_add fX5_size
    by_cases hq : L = 100
    · subst hq
      rw [if_pos (show nI 100 = 100 from rfl), if_neg (by decide), bs, if_pos rfl]
      exact ⟨_, _, rfl, rfl, rfl, hS⟩
    · rw [if_neg (show ¬ nI L = 100 from fun e => hq (nI_inj (by omega) (by decide) e)), l100, if_pos (nI_lt (by omega) (by decide)), gd_t (inB_nI (by omega) (by decide)), gd_t (inB_nI (by omega) (by decide)), bd_eq, bd_eq, bd_eq, bd_eq, bs, nI_1, nI_N (by omega), if_neg (show ¬ (1 : Int32) = 0 from by decide), bs]
      have hRS : RS (upd L7 L (nI c)) (nI (L + 1)) (upd t8 L (nI c)) (nI (L + 1)) := by
        refine ⟨L + 1, by omega, rfl, rfl, fun i hi => ?_, fun i hi => ?_⟩
        · by_cases h : i = L
          · subst h; rw [pk_us, pk_us]
          · rw [pk_un h, pk_un h]; exact e1 i (by omega)
        · by_cases h : i = L
          · subst h; rw [pk_us]; exact ⟨c, by omega, rfl⟩
          · rw [pk_un h]; exact e2 i (by omega)
      exact ⟨_, _, rfl, rfl, rfl, hRS⟩
  · rw [e3, bs, if00]
    refine ⟨((-1), L7, nI L), _, ?_, rfl, rfl, hS⟩
    by_cases h3 : p1 < 0
    · rw [if_pos h3]
    · rw [if_neg h3, if_neg (lt_nle (hb.resolve_left h3))]
theorem op_clear {L7 : Nat → Int32} {s7 : Int32} {t8 : Nat → Int32} {n8 : Int32} (hS : RS L7 s7 t8 n8) :
    ∃ z7 z8, fX7_clear s7 = some z7 ∧ fX8_clear n8 = some z8 ∧ z7.1 = z8.1 ∧ RS L7 z7.2 t8 z8.2 := by
  obtain ⟨L, hL, rfl, rfl, e1, e2⟩ := id hS
  exact ⟨_, _, rfl, rfl, rfl, 0, by omega, rfl, rfl, fun i hi => by omega, fun i hi => by omega⟩
theorem RC_add {m : Nat} {ment : Int32} {seen unseen : Int64} {facts : Nat → Int32} (hC : RC (nI m) ment seen unseen facts (nI m)) (hm : m < 6) {g h : Nat} (hg : g < 8) (hh : h < 8) (hgh : g ≠ h) (b : Bool) :
    RC (nI (m + 1)) (ment ||| (b1 g ||| b1 h)) (if b then seen ||| vb g h else seen) (if b then unseen else unseen ||| vb g h) (upd (upd (upd facts (3 * m) (nI g)) (3 * m + 1) (nI h)) (3 * m + 2) (bi b)) (nI (m + 1)) := by
  obtain ⟨m', hm', e1, -, c1, c2, c3, c4⟩ := hC
  obtain rfl : m = m' := nI_inj (by omega) (by omega) e1
  generalize hF : upd (upd (upd facts (3 * m) (nI g)) (3 * m + 1) (nI h)) (3 * m + 2) (bi b) = F
  have f0 : F (3 * m) = nI g := by rw [← hF, pk_un (by omega), pk_un (by omega), pk_us]
  have f1 : F (3 * m + 1) = nI h := by rw [← hF, pk_un (by omega), pk_us]
  have f2 : F (3 * m + 2) = bi b := by rw [← hF, pk_us]
  have fo : ∀ x, x < 3 * m → F x = facts x := fun x hx => by rw [← hF, pk_un (by omega), pk_un (by omega), pk_un (by omega)]
  have step : ∀ (P : Int32 → Int32 → Int32 → Prop), (∃ j, j < m + 1 ∧ P (F (3 * j)) (F (3 * j + 1)) (F (3 * j + 2))) ↔ (∃ j, j < m ∧ P (facts (3 * j)) (facts (3 * j + 1)) (facts (3 * j + 2))) ∨ P (nI g) (nI h) (bi b) := by
    intro P
    constructor
    · rintro ⟨j, hj, hp⟩
      by_cases hq : j = m
      · subst hq; rw [f0, f1, f2] at hp; exact Or.inr hp
      · rw [fo _ (by omega), fo _ (by omega), fo _ (by omega)] at hp
        exact Or.inl ⟨j, by omega, hp⟩
    · rintro (⟨j, hj, hp⟩ | hp)
      · refine ⟨j, by omega, ?_⟩
        rw [fo _ (by omega), fo _ (by omega), fo _ (by omega)]; exact hp
      · refine ⟨m, by omega, ?_⟩
        rw [f0, f1, f2]; exact hp
  refine ⟨m + 1, by omega, rfl, rfl, fun j hj => ?_, fun i hi => ?_, fun x y hx hy => ?_, fun x y hx hy => ?_⟩
  · by_cases hq : j = m
    · subst hq; exact ⟨g, h, b, hg, hh, hgh, f0, f1, f2⟩
    · rw [fo _ (by omega), fo _ (by omega), fo _ (by omega)]
      exact c1 j (by omega)
  · rw [step (fun u v _ => u = nI i ∨ v = nI i), b_or, b_or, Bool.or_eq_true, Bool.or_eq_true, c2 i hi, b_b1 (by omega), b_b1 (by omega), decide_eq_true_iff, decide_eq_true_iff, nI_eq (by omega) (by omega), nI_eq (by omega) (by omega)]
    constructor
    · rintro (h1 | h1 | h1)
      · exact Or.inl h1
      · exact Or.inr (Or.inl h1.symm)
      · exact Or.inr (Or.inr h1.symm)
    · rintro (h1 | h1 | h1)
      · exact Or.inl h1
      · exact Or.inr (Or.inl h1.symm)
      · exact Or.inr (Or.inr h1.symm)
  · rw [step (fun u v w => u = nI x ∧ v = nI y ∧ w = 1), nI_eq (by omega) (by omega), nI_eq (by omega) (by omega), bi_1, ← c3 x y hx hy]
    cases b
    · rw [if_neg (by decide)]
      exact ⟨Or.inl, fun h1 => h1.elim id (fun h2 => by cases h2.2.2)⟩
    · rw [if_pos rfl, L_or, Bool.or_eq_true, L_vb hg hh (by omega), decide_eq_true_iff]
      constructor
      · rintro (h1 | h1)
        · exact Or.inl h1
        · exact Or.inr ⟨by omega, by omega, rfl⟩
      · rintro (h1 | ⟨h1, h2, -⟩)
        · exact Or.inl h1
        · exact Or.inr (by omega)
  · rw [step (fun u v w => u = nI x ∧ v = nI y ∧ w = 0), nI_eq (by omega) (by omega), nI_eq (by omega) (by omega), bi_0, ← c4 x y hx hy]
    cases b
    · rw [if_neg (by decide), L_or, Bool.or_eq_true, L_vb hg hh (by omega), decide_eq_true_iff]
      constructor
      · rintro (h1 | h1)
        · exact Or.inl h1
        · exact Or.inr ⟨by omega, by omega, rfl⟩
      · rintro (h1 | ⟨h1, h2, -⟩)
        · exact Or.inl h1
        · exact Or.inr (by omega)
    · rw [if_pos rfl]
      exact ⟨Or.inl, fun h1 => h1.elim id (fun h2 => by cases h2.2.2)⟩
theorem X1_add {m : Nat} {ment : Int32} {seen unseen : Int64} (hm : m < 6) (g h : Nat) (b : Bool) : fX1_add (nI m) ment seen unseen (nI g) (nI h) (bi b) = some (1, nI (m + 1), ment ||| (b1 g ||| b1 h), (if b then seen ||| vb g h else seen), if b then unseen else unseen ||| vb g h) := by
  unfold fX1_add
  rw [l6, if_pos (nI_lt hm (by decide)), X7_viewBit, bs, bs, bd_eq, bd_eq, bd_eq, bd_eq, bd_eq, bd_eq, nI_1]
  cases b <;> rfl
theorem op_sees {size ment : Int32} {seen unseen : Int64} {facts : Nat → Int32} {sn : Int32} (hC : RC size ment seen unseen facts sn) (p1 p2 p3 : Int32) :
    ∃ z7 z8, fX7_sees size ment seen unseen p1 p2 p3 = some z7 ∧ fX8_sees facts sn p1 p2 p3 = some z8 ∧ z7.1 = z8.1 ∧ RC z7.2.1 z7.2.2.1 z7.2.2.2.1 z7.2.2.2.2 z8.2.1 z8.2.2 := by
  obtain ⟨m, hm, rfl, rfl, hrest⟩ := id hC
  unfold fX7_sees fX8_sees
  have out8 : ∀ x : Int32, (x < 0 ∨ 7 < x) → ¬ x < 0 → 8 ≤ x := fun x hb h3 => by
    have h5 := hb.resolve_left h3
    rw [fa_lt, show (7 : Int32).toInt = 7 from by decide] at h5
    rw [fa_le, show (8 : Int32).toInt = 8 from by decide]
    omega
  have bad : ∀ x : Int32, (x < 0 ∨ 7 < x) → ∀ t : Option (Int32 × Int32 × Int32 × Int64 × Int64), (if x < 0 then some ((-1), nI m, ment, seen, unseen) else if 8 ≤ x then some ((-1), nI m, ment, seen, unseen) else t) = some ((-1), nI m, ment, seen, unseen) := fun x hb t => by
    by_cases h3 : x < 0
    · rw [if_pos h3]
    · rw [if_neg h3, if_pos (out8 x hb h3)]
  rcases in_cases p1 0 7 with ⟨e1, b1', b2'⟩ | ⟨e1, hb⟩
  · obtain ⟨g, hg, rfl⟩ := lit_cases (m := 7) (by omega) b1' b2'
    rw [e1, bs, if10, if_neg (ge_nlt b1'), l8, if_neg (nI_ge (by omega) (by decide))]
    rcases in_cases p2 0 7 with ⟨e2, b3', b4'⟩ | ⟨e2, hb⟩
    · obtain ⟨h, hh, rfl⟩ := lit_cases (m := 7) (by omega) b3' b4'
      rw [e2, bs, if10, if_neg (ge_nlt b3'), if_neg (nI_ge (by omega) (by decide))]
      by_cases hgh : nI g = nI h
      · rw [if_pos hgh, if_pos hgh]
        exact ⟨_, _, rfl, rfl, rfl, hC⟩
      · rw [if_neg hgh, if_neg hgh]
        have hgh' : g ≠ h := fun e => hgh (by rw [e])
        rcases in_cases p3 0 1 with ⟨e3, b5', b6'⟩ | ⟨e3, hb⟩
        · obtain ⟨b, rfl⟩ : ∃ b, p3 = bi b := by
            obtain ⟨w, hw, rfl⟩ := lit_cases (m := 1) (by omega) b5' b6'
            rcases (by omega : w = 0 ∨ w = 1) with rfl | rfl
            · exact ⟨false, rfl⟩
            · exact ⟨true, rfl⟩
          rw [e3, bs, if10, if_neg (ge_nlt b5'), if_pos b6']
          have sel : ∀ {α : Type} (F : Int32 → Option α), (if bi b = 1 then F 1 else F 0) = F (bi b) := fun F => by cases b <;> rfl
          rw [sel (fun v => (fX1_add (nI m) ment seen unseen (nI g) (nI h) v).bind fun z => if z.1 = 0 then some ((-3), z.2.1, z.2.2.1, z.2.2.2.1, z.2.2.2.2) else (fX1_size z.2.1).bind fun r => some (r, z.2.1, z.2.2.1, z.2.2.2.1, z.2.2.2.2))]
          by_cases h6 : m = 6
          · subst h6
            rw [if_pos (show nI 6 = 6 from rfl)]
            have ha : fX1_add (nI 6) ment seen unseen (nI g) (nI h) (bi b) = some (0, nI 6, ment, seen, unseen) := by
              unfold fX1_add
              rw [if_neg (by decide)]
            rw [ha, bs, if_pos rfl]
            exact ⟨_, _, rfl, rfl, rfl, hC⟩
          · rw [if_neg (show ¬ nI m = 6 from fun e => h6 (nI_inj (by omega) (by decide) e)), X1_add (by omega), bs, if_neg (show ¬ (1 : Int32) = 0 from by decide), l3, pk_mul, l1, nI_add, l2, nI_add, gd_t (inB_nI (by omega) (by decide)), bd_eq, gd_t (inB_nI (by omega) (by decide)), bd_eq, gd_t (inB_nI (by omega) (by decide)), bd_eq, bd_eq, nI_N (by omega), nI_N (by omega), nI_N (by omega), nI_add]
            have hRC := RC_add hC (by omega) (by omega : g < 8) (by omega : h < 8) hgh' b
            exact ⟨_, _, rfl, rfl, rfl, hRC⟩
        · rw [e3, bs, if00]
          refine ⟨((-1), nI m, ment, seen, unseen), _, ?_, rfl, rfl, hC⟩
          by_cases h3 : p3 < 0
          · rw [if_pos h3]
          · rw [if_neg h3, if_neg (lt_nle (hb.resolve_left h3))]
    · rw [e2, bs, if00]
      exact ⟨_, _, bad p2 hb _, rfl, rfl, hC⟩
  · rw [e1, bs, if00]
    exact ⟨_, _, bad p1 hb _, rfl, rfl, hC⟩
theorem op_forget {size ment : Int32} {seen unseen : Int64} {facts : Nat → Int32} {sn : Int32} (hC : RC size ment seen unseen facts sn) :
    ∃ z7 z8, fX7_forget size = some z7 ∧ fX8_forget sn = some z8 ∧ z7.1 = z8.1 ∧ RC z7.2.1 z7.2.2.1 z7.2.2.2.1 z7.2.2.2.2 facts z8.2 := by
  obtain ⟨m, hm, rfl, rfl, -⟩ := id hC
  refine ⟨_, _, rfl, rfl, rfl, 0, by omega, rfl, rfl, fun i hi => by omega, fun i _ => ?_, fun g h _ _ => ?_, fun g h _ _ => ?_⟩
  · rw [b_0]; simp
  · rw [L_0]; simp
  · rw [L_0]; simp
