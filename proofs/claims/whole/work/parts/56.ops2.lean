/-! cuts, moves, zones -/
theorem see_cg2 {n k : Nat} {f g : Nat → Int32} (hn : n ≤ 6) (hP : RwP f n k) (h27 : ∀ h, h < k → g (27 + h) = f (27 + h)) (h35 : ∀ a, a < n → g (35 + a) = f (35 + a)) (h47 : ∀ a, a < 6 → ∀ z, z < 4 → g (47 + 4 * a + z) = f (47 + 4 * a + z)) {x y : Nat} (hx : x < k) (hy : y < k) : see n g x y = see n f x y := by
  have hp := pn_lt hn hP hx
  unfold see
  rw [h27 x hx, h27 y hy, fab_cg (u := UPr g) (v := UPr f) (fun a ha => h35 a ha), show pn g x = pn f x from by unfold pn; rw [h27 x hx], show pn g y = pn f y from by unfold pn; rw [h27 y hy], inone_cg (fun z hz => h47 _ hp z hz)]
theorem IsV_cg {n k : Nat} {f g : Nat → Int32} (hn : n ≤ 6) (hP : RwP f n k) (h27 : ∀ h, h < k → g (27 + h) = f (27 + h)) (h35 : ∀ a, a < n → g (35 + a) = f (35 + a)) (h47 : ∀ a, a < 6 → ∀ z, z < 4 → g (47 + 4 * a + z) = f (47 + 4 * a + z)) {V : Int64} (h : IsV n k f V) : IsV n k g V := by
  intro x y hx hy
  rw [h x y hx hy]
  by_cases h1 : x < k
  · by_cases h2 : y < k
    · rw [see_cg2 hn hP h27 h35 h47 h1 h2]
    · rw [decide_eq_false h2, Bool.false_and, Bool.false_and]
  · rw [decide_eq_false h1, Bool.false_and, Bool.false_and]
theorem low_cg {n : Nat} {u v : Nat → Int32} (h : ∀ a, a < n → u a = v a) (a : Nat) : low n u a = low n v a := by unfold low; rw [fab_cg h]
theorem fabs_cg {n : Nat} {u v : Nat → Int32} (h : ∀ a, a < n → u a = v a) : fabs n u = fabs n v := fb_ct_cong (fun a _ => low_cg h a)
/-- fewer links join fewer -/
theorem Cnn.mono {n : Nat} {u v : Nat → Int32} (hn : n ≤ 6) (hu : Bd n u) (h : ∀ c, c < n → ∀ i, bt (v c) i = true → bt (u c) i = true) {a b : Nat} (ha : a < n) (hc : Cnn n v a b) : Cnn n u a b :=
  Cnn.least (T := fun x => Cnn n u a x) (by omega) (Cnn.rf hn ha) (fun c d hcn hT hd => hT.step hn hu ha (h c hcn d hd)) hc
theorem RwL_link {n : Nat} (hn : n ≤ 6) {f g : Nat → Int32} {a b : Nat} (ha : a < n) (hb : b < n) (hab : a ≠ b) {u : Bool} (h : ∀ d, d < 6 → ∀ i, i < 32 → bt (g d) i = if (d = a ∧ i = b) ∨ (d = b ∧ i = a) then u else bt (f d) i) (hL : RwL f n) : RwL g n := by
  obtain ⟨h1, h2, h3, h4⟩ := hL
  have lt32 : ∀ {x : Int32} {i : Nat}, bt x i = true → i < 32 := fun {x i} hx => by
    rcases Nat.lt_or_ge i 32 with q | q
    · exact q
    · rw [b_big q] at hx; cases hx
  refine ⟨fun d hd i hi => ?_, fun c d hc hd hi => ?_, fun d hd => ?_, fun d hd h6 => ?_⟩
  · have hi32 := lt32 hi
    rw [h d (by omega) i hi32] at hi
    by_cases hq : (d = a ∧ i = b) ∨ (d = b ∧ i = a)
    · omega
    · rw [if_neg hq] at hi; exact h1 d hd i hi
  · rw [h c (by omega) d (by omega)] at hi
    rw [h d (by omega) c (by omega)]
    by_cases hq : (c = a ∧ d = b) ∨ (c = b ∧ d = a)
    · rw [if_pos hq] at hi; rw [if_pos (by omega)]; exact hi
    · rw [if_neg hq] at hi; rw [if_neg (by omega)]; exact h2 c d hc hd hi
  · rw [h d (by omega) d (by omega), if_neg (by omega)]; exact h3 d hd
  · rw [b_eq0]
    intro i hi
    rw [h d h6 i hi, if_neg (by omega), h4 d hd h6, b_0]
theorem op_cuts {sw hw re : Int32} {pr na wa bl up cl zo pl no ne : Nat → Int32} {now sa : Nat → Int32} {hn : Nat → NetT} {ho hs deeds : Int32} {past : Nat → Int32} (hN : NR (sw, hw, re, pr, na, wa, bl, up, cl, zo, pl, no, ne) now) (hH : HR hn ho hs past deeds) (p1 p2 : Int32) :
    ∃ z7 z8, fX7_cuts sw hw re pr na wa bl up cl zo pl no ne hn ho hs p1 p2 = some z7 ∧ fX8_cuts now past deeds sa p1 p2 = some z8 ∧ z7.1 = z8.1 ∧
      NR (sw, hw, re, pr, na, wa, bl, z7.2.1, z7.2.2.1, zo, pl, z7.2.2.2.1, z7.2.2.2.2.1) z8.2.1 ∧ HR z7.2.2.2.2.2.1 z7.2.2.2.2.2.2.1 z7.2.2.2.2.2.2.2 z8.2.2.1 z8.2.2.2.1 := by
  obtain ⟨m, k, hI, hR⟩ := id hN
  obtain ⟨⟨h0, h1, hm, hk, h2⟩, hD, hNm, hP, ⟨uB, uS, uI, uZ⟩, ⟨cB, cS, cI, cZ⟩, hZ, hU⟩ := id hI
  obtain ⟨r1, r2, r3, r4, r5, r6, r7, r8, r9, r10, r11, r12, r13⟩ := id hR
  obtain rfl : sw = nI m := r1
  obtain rfl : hw = nI k := r2
  have r3 : re = now 2 := r3
  have r4 : ∀ a, a < m → pr a = now (3 + 4 * a) := r4
  have r5 : ∀ a, a < m → na a = now (4 + 4 * a) := r5
  have r6 : ∀ a, a < m → wa a = now (5 + 4 * a) := r6
  have r7 : ∀ a, a < m → bl a = now (6 + 4 * a) := r7
  have r8 : ∀ a, a < m → up a = now (35 + a) := r8
  have r9 : ∀ a, a < m → cl a = now (41 + a) := r9
  have r10 : ∀ a, a < m → ∀ z, z < 4 → zo (4 * a + z) = now (47 + 4 * a + z) := r10
  have r11 : ∀ h, h < k → pl h = now (27 + h) := r11
  have r12 : ∀ h, h < k → no h = now (71 + h) := r12
  have r13 : ∀ h, h < k → ne h = now (79 + h) := r13
  unfold fX7_cuts fX8_cuts
  rcases two_cases (by omega : m < 2 ^ 30) h0 p1 p2 with ⟨e1, e2, a, b, ha, hb, hab, rfl, rfl⟩ | ⟨e1, e2⟩
  · rw [e1, e2, bs, bs, if10, if10, X3_linkState hm ha hb hab, bs, X8_isUp (by omega) (by omega), bs, r8 a ha, r9 a ha]
    have g41 : inB (41 + nI a) 87 = true := by rw [l41, nI_add]; exact inB_nI (by omega) (by decide)
    have n41 : (41 + nI a).toNatClampNeg = 41 + a := by rw [l41, nI_add, nI_N (by omega)]
    rw [gd_t g41, n41, X8_has (by omega), bs]
    by_cases hz : bt (now (35 + a)) b = false ∧ bt (now (41 + a)) b = false
    · rw [hz.1, hz.2, ifb_f, ifb_f]
      exact ⟨_, _, rfl, rfl, rfl, hN, hH⟩
    · obtain ⟨nn, oo, ss, pp, dd, q1, q2, q3⟩ := remember_both hH hN
      have q1 : fX2_remember hn ho hs (nI m) (nI k) re pr na wa bl up cl zo pl no ne = some (nn, oo, ss) := q1
      obtain ⟨V0, v1, v2⟩ := X3_view hm hk uB uS hP hU r8 r10 r11
      have rv : fX7_rememberView (nI m) (nI k) re pr na wa bl up cl zo pl no ne hn ho hs = some (V0, nn, oo, ss) := by
        unfold fX7_rememberView
        rw [q1, bs, v1, bs]
      obtain ⟨sb, s1, s2⟩ := X8_looks hm hk h0 h1 hP sa
      have hsv := rowV_srow hk v2 s2
      obtain ⟨up', cl', g, l1', l2', l3', l4', l5', l6', l7'⟩ := link_both hm r8 r9 ha hb hab (u := false) (c := false) (by decide)
      have l1' : fX3_setLink (nI m) up cl (nI a) (nI b) 0 = some (up', cl') := l1'
      have l2' : fX8_putLink now (nI a) (nI b) 0 0 = some g := l2'
      have hg : ∀ x, x < 35 ∨ 47 ≤ x → g x = now x := fun x hx => l7' x (by omega) (by omega) (by omega) (by omega)
      have hU' : RwU g m := by
        intro x y hx hc z hz
        have hc' : Cnn m (UPr now) x y := Cnn.mono hm uB (fun c hc i hi => by
          have hi32 : i < 32 := by
            rcases Nat.lt_or_ge i 32 with q | q
            · exact q
            · rw [b_big q] at hi; cases hi
          have hi' : bt (g (35 + c)) i = true := hi
          rw [l5' c (by omega) i hi32] at hi'
          by_cases hq : (c = a ∧ i = b) ∨ (c = b ∧ i = a)
          · rw [if_pos hq] at hi'; cases hi'
          · rw [if_neg hq] at hi'; exact hi') hx hc
        have hy := hc'.bd hm uB hx
        rw [hg _ (by omega), hg _ (by omega)]
        exact hU x y hx hc' z hz
      have hLu := RwL_link hm (f := UPr now) (g := UPr g) ha hb hab l5' ⟨uB, uS, uI, uZ⟩
      have hLc := RwL_link hm (f := CLr now) (g := CLr g) ha hb hab l6' ⟨cB, cS, cI, cZ⟩
      have hIg : Inv g m k := Inv_lnk hg hLu hLc hU' hI
      have hRg := RN_lnk hm hk hR hg l3' l4'
      obtain ⟨no', ne', g2, t1, t2, t3, t4, t5⟩ := notice_both (up := up') (zo := zo) (pl := pl) (no := no) (ne := ne) hm hk hIg.1.1 hIg.1.2.1 hLu.1 hLu.2.1 hIg.2.2.2.1 hU' l3' (fun a ha z hz => by rw [hg _ (by omega)]; exact r10 a ha z hz) (fun h hh => by rw [hg _ (by omega)]; exact r11 h hh) (fun h hh => by rw [hg _ (by omega)]; exact r12 h hh) (fun h hh => by rw [hg _ (by omega)]; exact r13 h hh) hsv
      have hI2 : Inv g2 m k := Inv_71 t5 hIg
      have f1 := X3_fabricTotal hm hLu.1 hLu.2.1 l3'
      have f2 := X8_fabrics hm hI2.1.1
      rw [fabs_cg (u := UPr g2) (v := UPr g) (fun a ha => t5 (35 + a) (by omega))] at f2
      have hNR : NR (nI m, nI k, re, pr, na, wa, bl, up', cl', zo, pl, no', ne') g2 := ⟨m, k, hI2, RN_new hm hk hRg t5 t3 t4⟩
      rw [rv, bs, l1', bs, t1, bs, f1, bs, q2, bs, s1, bs, l2', bs, t2, bs, f2, bs]
      refine ⟨(nI (fabs m (UPr g)), up', cl', no', ne', nn, oo, ss), (nI (fabs m (UPr g)), g2, pp, dd, sb), ?_, ?_, rfl, hNR, q3⟩
      · rw [if_neg]
        intro e
        cases h1 : bt (now (35 + a)) b
        · cases h2 : bt (now (41 + a)) b
          · exact hz ⟨h1, h2⟩
          · rw [h1, h2] at e; exact absurd e (by decide)
        · rw [h1, if_pos rfl] at e; exact absurd e (by decide)
      · cases h1 : bt (now (35 + a)) b
        · rw [ifb_f]
          cases h2 : bt (now (41 + a)) b
          · exact absurd ⟨h1, h2⟩ hz
          · rw [ifb_t]
        · rw [ifb_t]
  · rw [e1, e2, bs, bs, if00, if00]
    exact ⟨_, _, rfl, rfl, rfl, hN, hH⟩
theorem op_moves {sw hw re : Int32} {pr na wa bl up cl zo pl no ne : Nat → Int32} {now sa : Nat → Int32} {hn : Nat → NetT} {ho hs deeds : Int32} {past : Nat → Int32} (hN : NR (sw, hw, re, pr, na, wa, bl, up, cl, zo, pl, no, ne) now) (hH : HR hn ho hs past deeds) (p1 p2 : Int32) :
    ∃ z7 z8, fX7_moves sw hw re pr na wa bl up cl zo pl no ne hn ho hs p1 p2 = some z7 ∧ fX8_moves now past deeds sa p1 p2 = some z8 ∧ z7.1 = z8.1 ∧
      NR (sw, hw, re, pr, na, wa, bl, up, cl, zo, z7.2.1, z7.2.2.1, z7.2.2.2.1) z8.2.1 ∧ HR z7.2.2.2.2.1 z7.2.2.2.2.2.1 z7.2.2.2.2.2.2 z8.2.2.1 z8.2.2.2.1 := by
  obtain ⟨m, k, hI, hR⟩ := id hN
  obtain ⟨⟨h0, h1, hm, hk, h2⟩, hD, hNm, hP, ⟨uB, uS, uI, uZ⟩, ⟨cB, cS, cI, cZ⟩, hZ, hU⟩ := id hI
  obtain ⟨r1, r2, r3, r4, r5, r6, r7, r8, r9, r10, r11, r12, r13⟩ := id hR
  obtain rfl : sw = nI m := r1
  obtain rfl : hw = nI k := r2
  have r3 : re = now 2 := r3
  have r4 : ∀ a, a < m → pr a = now (3 + 4 * a) := r4
  have r5 : ∀ a, a < m → na a = now (4 + 4 * a) := r5
  have r6 : ∀ a, a < m → wa a = now (5 + 4 * a) := r6
  have r7 : ∀ a, a < m → bl a = now (6 + 4 * a) := r7
  have r8 : ∀ a, a < m → up a = now (35 + a) := r8
  have r9 : ∀ a, a < m → cl a = now (41 + a) := r9
  have r10 : ∀ a, a < m → ∀ z, z < 4 → zo (4 * a + z) = now (47 + 4 * a + z) := r10
  have r11 : ∀ h, h < k → pl h = now (27 + h) := r11
  have r12 : ∀ h, h < k → no h = now (71 + h) := r12
  have r13 : ∀ h, h < k → ne h = now (79 + h) := r13
  unfold fX7_moves fX8_moves
  rcases ho2 hk h1 p1 with ⟨e1, e2, i, hi, rfl⟩ | ⟨e1, e2, -⟩
  · have g27 : inB (27 + nI i) 87 = true := by rw [l27, nI_add]; exact inB_nI (by omega) (by decide)
    have n27 : (27 + nI i).toNatClampNeg = 27 + i := by rw [l27, nI_add, nI_N (by omega)]
    have main : (p2 = -9 ∨ ∃ a, a < m ∧ p2 = nI a) → ∃ z7 z8, (if now (27 + i) = p2 then some ((-2), pl, no, ne, hn, ho, hs) else
          (fX7_rememberView (nI m) (nI k) re pr na wa bl up cl zo pl no ne hn ho hs).bind fun z_6 => (fX3_setPlace (nI k) pl (nI i) p2).bind fun z_7 => (fX3_noticeSince (nI m) (nI k) up zo z_7 no ne z_6.1).bind fun z_8 => some (now (27 + i), z_7, z_8.1, z_8.2, z_6.2.1, z_6.2.2.1, z_6.2.2.2)) = some z7 ∧
        (if now (27 + i) = p2 then some ((-2), now, past, deeds, sa) else (fX8_note now past deeds).bind fun z_6 => (fX8_looks now sa).bind fun z_7 => (fX8_tellNews (upd now (27 + i) p2) z_7).bind fun z_9 => some (now (27 + i), z_9, z_6.1, z_6.2, z_7)) = some z8 ∧ z7.1 = z8.1 ∧
        NR (nI m, nI k, re, pr, na, wa, bl, up, cl, zo, z7.2.1, z7.2.2.1, z7.2.2.2.1) z8.2.1 ∧ HR z7.2.2.2.2.1 z7.2.2.2.2.2.1 z7.2.2.2.2.2.2 z8.2.2.1 z8.2.2.2.1 := by
      intro hp2
      by_cases hq : now (27 + i) = p2
      · rw [if_pos hq, if_pos hq]
        exact ⟨_, _, rfl, rfl, rfl, hN, hH⟩
      · rw [if_neg hq, if_neg hq]
        obtain ⟨nn, oo, ss, pp, dd, q1, q2, q3⟩ := remember_both hH hN
        have q1 : fX2_remember hn ho hs (nI m) (nI k) re pr na wa bl up cl zo pl no ne = some (nn, oo, ss) := q1
        obtain ⟨V0, v1, v2⟩ := X3_view hm hk uB uS hP hU r8 r10 r11
        have rv : fX7_rememberView (nI m) (nI k) re pr na wa bl up cl zo pl no ne hn ho hs = some (V0, nn, oo, ss) := by
          unfold fX7_rememberView
          rw [q1, bs, v1, bs]
        obtain ⟨sb, s1, s2⟩ := X8_looks hm hk h0 h1 hP sa
        have hsv := rowV_srow hk v2 s2
        have hg : ∀ x, x < 27 ∨ 35 ≤ x → upd now (27 + i) p2 x = now x := fun x hx => pk_un (by omega)
        have hP' : RwP (upd now (27 + i) p2) m k := by
          intro h hh
          by_cases hx : h = i
          · subst hx; rw [pk_us]; exact hp2
          · rw [pk_un (by omega)]; exact hP h hh
        have hIg : Inv (upd now (27 + i) p2) m k := Inv_plc hg hP' hI
        have hpl' : ∀ h, h < k → upd pl i p2 h = upd now (27 + i) p2 (27 + h) := by
          intro h hh
          by_cases hx : h = i
          · subst hx; rw [pk_us, pk_us]
          · rw [pk_un hx, pk_un (by omega)]; exact r11 h hh
        have hRg := RN_plc hm hR hg hpl'
        obtain ⟨no', ne', g2, t1, t2, t3, t4, t5⟩ := notice_both (up := up) (zo := zo) (pl := upd pl i p2) (no := no) (ne := ne) hm hk hIg.1.1 hIg.1.2.1 hIg.2.2.2.2.1.1 hIg.2.2.2.2.1.2.1 hP' hIg.2.2.2.2.2.2.2 (fun a ha => by rw [hg _ (by omega)]; exact r8 a ha) (fun a ha z hz => by rw [hg _ (by omega)]; exact r10 a ha z hz) hpl' (fun h hh => by rw [hg _ (by omega)]; exact r12 h hh) (fun h hh => by rw [hg _ (by omega)]; exact r13 h hh) hsv
        have hNR : NR (nI m, nI k, re, pr, na, wa, bl, up, cl, zo, upd pl i p2, no', ne') g2 := ⟨m, k, Inv_71 t5 hIg, RN_new hm hk hRg t5 t3 t4⟩
        rw [rv, bs, X3_setPlace hk hi, bs, t1, bs, q2, bs, s1, bs, t2, bs]
        exact ⟨_, _, rfl, rfl, rfl, hNR, q3⟩
    have gd27 : ∀ {β : Type} (t : Option β), gd (inB (27 + nI i) 87 = true) t = t := fun t => gd_t g27
    rw [e1, e2, bs, bs, if10, if10, X3_placeOf hk hi, r11 i hi]
    simp only [gd27, n27, bd_eq, bs]
    by_cases h9 : p2 = -9
    · rw [if_pos h9, if_pos h9]
      exact main (Or.inl h9)
    · rw [if_neg h9, if_neg h9]
      rcases sw2 hm h0 p2 with ⟨e3, e4, hsw⟩ | ⟨e3, e4, -⟩
      · rw [e3, e4, bs, bs, if10, if10]
        exact main (Or.inr hsw)
      · rw [e3, e4, bs, bs, if00, if00]
        exact ⟨_, _, rfl, rfl, rfl, hN, hH⟩
  · rw [e1, e2, bs, bs, if00, if00]
    exact ⟨_, _, rfl, rfl, rfl, hN, hH⟩
theorem bt_nI (j i : Nat) : bt (nI j) i = (decide (i < 32) && j.testBit i) := by
  unfold bt
  show (BitVec.ofNat 32 j).getLsbD i = _
  rw [BitVec.getLsbD_ofNat]
theorem b1m : ∀ k, k < 9 → b1 k - 1 = nI (2 ^ k - 1) := by decide +kernel
theorem bits_le {k : Nat} (hk : k ≤ 8) {x : Int32} (h0 : 0 ≤ x) (h1 : x ≤ b1 k - 1) : ∀ i, bt x i = true → i < k := by
  have hpw : 2 ^ k ≤ 256 := Nat.pow_le_pow_right (by omega) hk (n := 2)
  have hpp : 0 < 2 ^ k := Nat.two_pow_pos k
  rw [b1m k (by omega), fa_le, nI_toInt (by omega)] at h1
  rw [fa_le, show (0 : Int32).toInt = 0 from by decide] at h0
  obtain ⟨j, hj, rfl⟩ := toNI h0 (m := 2 ^ k - 1) (by omega)
  intro i hi
  rw [bt_nI, Bool.and_eq_true] at hi
  rcases Nat.lt_or_ge i k with q | q
  · exact q
  · rw [Nat.testBit_lt_two_pow (Nat.lt_of_lt_of_le (by omega : j < 2 ^ k) (Nat.pow_le_pow_right (by omega) q))] at hi
    cases hi.2
theorem op_zones {sw hw re : Int32} {pr na wa bl up cl zo pl no ne : Nat → Int32} {now sa : Nat → Int32} {hn : Nat → NetT} {ho hs deeds : Int32} {past : Nat → Int32} (hN : NR (sw, hw, re, pr, na, wa, bl, up, cl, zo, pl, no, ne) now) (hH : HR hn ho hs past deeds) (p1 p2 p3 : Int32) :
    ∃ z7 z8, fX7_zones sw hw re pr na wa bl up cl zo pl no ne hn ho hs p1 p2 p3 = some z7 ∧ fX8_zones now past deeds sa p1 p2 p3 = some z8 ∧ z7.1 = z8.1 ∧
      NR (sw, hw, re, pr, na, wa, bl, up, cl, z7.2.1, pl, z7.2.2.1, z7.2.2.2.1) z8.2.1 ∧ HR z7.2.2.2.2.1 z7.2.2.2.2.2.1 z7.2.2.2.2.2.2 z8.2.2.1 z8.2.2.2.1 := by
  obtain ⟨m, k, hI, hR⟩ := id hN
  obtain ⟨⟨h0, h1, hm, hk, h2⟩, hD, hNm, hP, ⟨uB, uS, uI, uZ⟩, ⟨cB, cS, cI, cZ⟩, hZ, hU⟩ := id hI
  obtain ⟨r1, r2, r3, r4, r5, r6, r7, r8, r9, r10, r11, r12, r13⟩ := id hR
  obtain rfl : sw = nI m := r1
  obtain rfl : hw = nI k := r2
  have r3 : re = now 2 := r3
  have r4 : ∀ a, a < m → pr a = now (3 + 4 * a) := r4
  have r5 : ∀ a, a < m → na a = now (4 + 4 * a) := r5
  have r6 : ∀ a, a < m → wa a = now (5 + 4 * a) := r6
  have r7 : ∀ a, a < m → bl a = now (6 + 4 * a) := r7
  have r8 : ∀ a, a < m → up a = now (35 + a) := r8
  have r9 : ∀ a, a < m → cl a = now (41 + a) := r9
  have r10 : ∀ a, a < m → ∀ z, z < 4 → zo (4 * a + z) = now (47 + 4 * a + z) := r10
  have r11 : ∀ h, h < k → pl h = now (27 + h) := r11
  have r12 : ∀ h, h < k → no h = now (71 + h) := r12
  have r13 : ∀ h, h < k → ne h = now (79 + h) := r13
  unfold fX7_zones fX8_zones
  rcases sw2 hm h0 p1 with ⟨e1, e2, a, ha, rfl⟩ | ⟨e1, e2, -⟩
  · rw [e1, e2, bs, bs, if10, if10]
    rcases in_cases p2 0 3 with ⟨e3, b1', b2'⟩ | ⟨e3, hb⟩
    · obtain ⟨z, hz, rfl⟩ : ∃ z, z < 4 ∧ p2 = nI z := by
        rw [fa_le, show (0 : Int32).toInt = 0 from by decide] at b1'
        rw [fa_le, show (3 : Int32).toInt = 3 from by decide] at b2'
        obtain ⟨j, hj, e⟩ := toNI b1' (m := 3) b2'
        exact ⟨j, by omega, e⟩
      rw [e3, bs, if10, gd_t (by decide), z1N, h1, if_neg (ge_nlt b1'), l4, if_neg (nI_ge hz (by decide))]
      rw [show fX3_everyHost (nI k) = some (b1 k - 1) from rfl, bs, show ((1 : Int32) <<< (nI k &&& 31)) = b1 k from rfl]
      rcases in_cases p3 0 (b1 k - 1) with ⟨e4, b3', b4'⟩ | ⟨e4, hb⟩
      · rw [e4, bs, if10, if_neg (ge_nlt b3'), if_pos b4', X3_zoneSet hm ha hz, bs, X8_zoneOf (by omega) hz, bs, r10 a ha z hz]
        by_cases hq : now (47 + 4 * a + z) = p3
        · rw [if_pos hq, if_pos hq]
          exact ⟨_, _, rfl, rfl, rfl, hN, hH⟩
        · rw [if_neg hq, if_neg hq]
          obtain ⟨nn, oo, ss, pp, dd, q1, q2, q3⟩ := remember_both hH hN
          have q1 : fX2_remember hn ho hs (nI m) (nI k) re pr na wa bl up cl zo pl no ne = some (nn, oo, ss) := q1
          obtain ⟨V0, v1, v2⟩ := X3_view hm hk uB uS hP hU r8 r10 r11
          have rv : fX7_rememberView (nI m) (nI k) re pr na wa bl up cl zo pl no ne hn ho hs = some (V0, nn, oo, ss) := by
            unfold fX7_rememberView
            rw [q1, bs, v1, bs]
          obtain ⟨sb, s1, s2⟩ := X8_looks hm hk h0 h1 hP sa
          have hsv := rowV_srow hk v2 s2
          obtain ⟨zo', g, w1, w2, w3, w4, w5⟩ := zone_both hm h0 r10 (fab m (UPr now) a) hz p3
          have w2 : fX8_zoned now (fab m (fun a => now (35 + a)) a) (nI z) p3 = some g := w2
          have hbits := bits_le hk b3' b4'
          have hZ' : RwZ g m k := by
            intro x hx y hy i hi
            rw [w4 x hx y hy] at hi
            by_cases hc : y = z ∧ bt (fab m (UPr now) a) x = true
            · rw [if_pos hc] at hi; exact hbits i hi
            · rw [if_neg hc] at hi; exact hZ x hx y hy i hi
          have ecn : ∀ c, c < m → UPr g c = UPr now c := fun c hc => w5 (35 + c) (by omega)
          have hU' : RwU g m := by
            intro x y hx hc w hw'
            have hc' : Cnn m (UPr now) x y := (Cnn_cg ecn).mp hc
            have hy := hc'.bd hm uB hx
            rw [w4 x hx w hw', w4 y hy w hw', hU x y hx hc' w hw']
            have hiff : bt (fab m (UPr now) a) x = true ↔ bt (fab m (UPr now) a) y = true :=
              ⟨fun h => Cnn.tr hm uB ha (show Cnn m (UPr now) a x from h) hc', fun h => Cnn.tr hm uB ha (show Cnn m (UPr now) a y from h) (hc'.sy hm uB uS hx)⟩
            by_cases hh : w = z ∧ bt (fab m (UPr now) a) x = true
            · rw [if_pos hh, if_pos ⟨hh.1, hiff.mp hh.2⟩]
            · rw [if_neg hh, if_neg (fun h => hh ⟨h.1, hiff.mpr h.2⟩)]
          have hIg : Inv g m k := Inv_zon w5 hZ' hU' hI
          have hRg := RN_zon hm hk hR w5 w3
          obtain ⟨no', ne', g2, t1, t2, t3, t4, t5⟩ := notice_both (up := up) (zo := zo') (pl := pl) (no := no) (ne := ne) hm hk hIg.1.1 hIg.1.2.1 hIg.2.2.2.2.1.1 hIg.2.2.2.2.1.2.1 hIg.2.2.2.1 hU' (fun a ha => by rw [w5 _ (by omega)]; exact r8 a ha) w3 (fun h hh => by rw [w5 _ (by omega)]; exact r11 h hh) (fun h hh => by rw [w5 _ (by omega)]; exact r12 h hh) (fun h hh => by rw [w5 _ (by omega)]; exact r13 h hh) hsv
          have hNR : NR (nI m, nI k, re, pr, na, wa, bl, up, cl, zo', pl, no', ne') g2 := ⟨m, k, Inv_71 t5 hIg, RN_new hm hk hRg t5 t3 t4⟩
          rw [rv, bs, X3_fabricOf hm uB r8 ha, bs, w1, bs, t1, bs, q2, bs, s1, bs, X8_fabricOf hm h0 ha, bs, w2, bs, t2, bs]
          exact ⟨_, _, rfl, rfl, rfl, hNR, q3⟩
      · rw [e4, bs, if00]
        refine ⟨((-1), zo, no, ne, hn, ho, hs), _, ?_, rfl, rfl, hN, hH⟩
        by_cases h3 : p3 < 0
        · rw [if_pos h3]
        · rw [if_neg h3, if_neg (lt_nle (hb.resolve_left h3))]
    · rw [e3, bs, if00]
      refine ⟨((-1), zo, no, ne, hn, ho, hs), _, ?_, rfl, rfl, hN, hH⟩
      by_cases h3 : p2 < 0
      · rw [if_pos h3]
      · rw [if_neg h3, if_pos (by
          have h5 := hb.resolve_left h3
          rw [fa_lt, show (3 : Int32).toInt = 3 from by decide] at h5
          rw [fa_le, show (4 : Int32).toInt = 4 from by decide]
          omega)]
  · rw [e1, e2, bs, bs, if00, if00]
    exact ⟨_, _, rfl, rfl, rfl, hN, hH⟩
