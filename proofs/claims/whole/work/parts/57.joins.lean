/-! joins -/
theorem RwL_cg {n : Nat} (hn : n ≤ 6) {u v : Nat → Int32} (h : ∀ a, a < 6 → v a = u a) (hL : RwL u n) : RwL v n := by
  obtain ⟨h1, h2, h3, h4⟩ := hL
  refine ⟨fun a ha i hi => ?_, fun a b ha hb hi => ?_, fun a ha => ?_, fun a ha h6 => ?_⟩
  · rw [h a (by omega)] at hi; exact h1 a ha i hi
  · rw [h a (by omega)] at hi; rw [h b (by omega)]; exact h2 a b ha hb hi
  · rw [h a (by omega)]; exact h3 a ha
  · rw [h a h6]; exact h4 a ha h6
theorem Inv_lz {f g : Nat → Int32} {n k : Nat} (h : ∀ x, x < 35 ∨ 71 ≤ x → g x = f x) (hu : RwL (UPr g) n) (hc : RwL (CLr g) n) (hZ : RwZ g n k) (hU : RwU g n) (hI : Inv f n k) : Inv g n k := by
  obtain ⟨⟨h0, h1, hn, hk, h2⟩, hD, hN, hP, -, -, -, -⟩ := hI
  refine ⟨⟨by rw [h 0 (by omega)]; exact h0, by rw [h 1 (by omega)]; exact h1, hn, hk, by rw [h 2 (by omega)]; exact h2⟩, fun a ha => ?_, fun a b ha hb e => ?_, fun i hi => ?_, hu, hc, hZ, hU⟩
  · rw [h _ (by omega), h _ (by omega), h _ (by omega), h _ (by omega)]; exact hD a ha
  · rw [h _ (by omega), h _ (by omega)] at e; exact hN a b ha hb e
  · rw [h _ (by omega)]; exact hP i hi
theorem share_both {n : Nat} (hn : n ≤ 6) {f zo : Nat → Int32} (h0 : f 0 = nI n) (hz0 : ∀ a, a < n → ∀ z, z < 4 → zo (4 * a + z) = f (47 + 4 * a + z)) {a b : Nat} (ha : a < n) (hb : b < n) (S : Int32) :
    ∃ zo' g, fX3_shareZones_L1 (nI n) (nI a) (nI b) S 500 0 zo = some (nI 4, zo') ∧ fX8_joins_L1 (nI a) (nI b) S 500 0 f = some (nI 4, g) ∧ (∀ c, c < n → ∀ y, y < 4 → zo' (4 * c + y) = g (47 + 4 * c + y)) ∧
      (∀ c, c < n → ∀ y, y < 4 → g (47 + 4 * c + y) = if bt S c = true then f (47 + 4 * a + y) ||| f (47 + 4 * b + y) else f (47 + 4 * c + y)) ∧ (∀ x, x < 47 ∨ 71 ≤ x → g x = f x) := by
  have key : ∀ (j i fu fu' : Nat) (zz gg : Nat → Int32), i + j = 4 → j < fu → j < fu' → (∀ c, c < n → ∀ y, y < 4 → zz (4 * c + y) = gg (47 + 4 * c + y)) →
      (∀ c, c < n → ∀ y, y < 4 → gg (47 + 4 * c + y) = if bt S c = true ∧ y < i then f (47 + 4 * a + y) ||| f (47 + 4 * b + y) else f (47 + 4 * c + y)) → (∀ x, x < 47 ∨ 71 ≤ x → gg x = f x) →
      ∃ zo' g, fX3_shareZones_L1 (nI n) (nI a) (nI b) S fu (nI i) zz = some (nI 4, zo') ∧ fX8_joins_L1 (nI a) (nI b) S fu' (nI i) gg = some (nI 4, g) ∧ (∀ c, c < n → ∀ y, y < 4 → zo' (4 * c + y) = g (47 + 4 * c + y)) ∧
      (∀ c, c < n → ∀ y, y < 4 → g (47 + 4 * c + y) = if bt S c = true then f (47 + 4 * a + y) ||| f (47 + 4 * b + y) else f (47 + 4 * c + y)) ∧ (∀ x, x < 47 ∨ 71 ≤ x → g x = f x) := by
    intro j
    induction j with
    | zero =>
      intro i fu fu' zz gg hi hf hf' q1 q2 q3
      obtain ⟨q, rfl⟩ : ∃ q, fu = q + 1 := ⟨fu - 1, by omega⟩
      obtain ⟨q', rfl⟩ : ∃ q', fu' = q' + 1 := ⟨fu' - 1, by omega⟩
      have : i = 4 := by omega
      subst this
      refine ⟨zz, gg, ?_, ?_, q1, fun c hc y hy => ?_, q3⟩
      · rw [fX3_shareZones_L1.eq_2, if_pos (by decide)]
      · rw [fX8_joins_L1.eq_2, if_pos (by decide)]
      · rw [q2 c hc y hy]
        by_cases hq : bt S c = true
        · rw [if_pos hq, if_pos ⟨hq, hy⟩]
        · rw [if_neg hq, if_neg (fun h => hq h.1)]
    | succ j ih =>
      intro i fu fu' zz gg hi hf hf' q1 q2 q3
      obtain ⟨q, rfl⟩ : ∃ q, fu = q + 1 := ⟨fu - 1, by omega⟩
      obtain ⟨q', rfl⟩ : ∃ q', fu' = q' + 1 := ⟨fu' - 1, by omega⟩
      have hi4 : i < 4 := by omega
      obtain ⟨z', g', w1, w2, w3, w4, w5⟩ := zone_both hn (by rw [q3 0 (by omega)]; exact h0) q1 S hi4 (f (47 + 4 * a + i) ||| f (47 + 4 * b + i))
      have va : gg (47 + 4 * a + i) = f (47 + 4 * a + i) := by rw [q2 a ha i hi4, if_neg (by omega)]
      have vb : gg (47 + 4 * b + i) = f (47 + 4 * b + i) := by rw [q2 b hb i hi4, if_neg (by omega)]
      rw [fX3_shareZones_L1.eq_2, fX8_joins_L1.eq_2, l4, if_neg (nI_ge hi4 (by decide)), if_neg (nI_ge hi4 (by decide)), X3_zoneSet hn ha hi4, bs, X3_zoneSet hn hb hi4, bs, X8_zoneOf (by omega) hi4, bs, X8_zoneOf (by omega) hi4, bs, q1 a ha i hi4, q1 b hb i hi4, va, vb, w1, bs, w2, bs, bd_eq, bd_eq, nI_1]
      refine ih (i + 1) q q' z' g' (by omega) (by omega) (by omega) w3 (fun c hc y hy => ?_) (fun x hx => (w5 x hx).trans (q3 x hx))
      rw [w4 c hc y hy, q2 c hc y hy]
      by_cases hq : bt S c = true
      · rcases Nat.lt_trichotomy y i with h | h | h
        · rw [if_neg (by omega), if_pos ⟨hq, h⟩, if_pos ⟨hq, by omega⟩]
        · subst h; rw [if_pos ⟨rfl, hq⟩, if_pos ⟨hq, by omega⟩]
        · rw [if_neg (by omega), if_neg (by omega), if_neg (by omega)]
      · rw [if_neg (fun h => hq h.2), if_neg (fun h => hq h.1), if_neg (fun h => hq h.1)]
  exact key 4 0 500 500 zo f (by omega) (by omega) (by omega) hz0 (fun c _ y _ => by rw [if_neg (by omega)]) (fun _ _ => rfl)
theorem outc_cases (n : Nat) (f : Nat → Int32) (a b : Nat) : (outc n f a b = 0 ∧ Cnn n (UPr f) a b) ∨ (outc n f a b = 1) ∨ (outc n f a b = 2) ∨ (3 ≤ outc n f a b ∧ outc n f a b ≤ 5) := by
  unfold outc
  by_cases h : bt (fab n (UPr f) a) b = true
  · left; rw [if_pos h]; exact ⟨rfl, h⟩
  · rw [if_neg h]
    right
    split
    · split
      · right; right; omega
      · left; rfl
    · split
      · right; right; omega
      · split
        · right; left; rfl
        · right; right; omega
theorem xor_self (x : Int32) : x ^^^ x = 0 := b_ext (fun i _ => by rw [b_xor, b_0]; simp)
theorem op_joins {sw hw re : Int32} {pr na wa bl up cl zo pl no ne : Nat → Int32} {now sa : Nat → Int32} {hn : Nat → NetT} {ho hs deeds : Int32} {past : Nat → Int32} (hN : NR (sw, hw, re, pr, na, wa, bl, up, cl, zo, pl, no, ne) now) (hH : HR hn ho hs past deeds) (p1 p2 : Int32) :
    ∃ z7 z8, fX7_joins sw hw re pr na wa bl up cl zo pl no ne hn ho hs p1 p2 = some z7 ∧ fX8_joins now past deeds sa p1 p2 = some z8 ∧ z7.1 = z8.1 ∧
      NR (sw, hw, re, pr, na, wa, z7.2.1, z7.2.2.1, z7.2.2.2.1, z7.2.2.2.2.1, pl, z7.2.2.2.2.2.1, z7.2.2.2.2.2.2.1) z8.2.1 ∧ HR z7.2.2.2.2.2.2.2.1 z7.2.2.2.2.2.2.2.2.1 z7.2.2.2.2.2.2.2.2.2 z8.2.2.1 z8.2.2.2.1 := by
  obtain ⟨m, k, hI, hR⟩ := id hN
  obtain ⟨⟨h0, h1, hm, hk, h2⟩, hD, hNm, hP, ⟨uB, uS, uI, uZ⟩, ⟨cB, cS, cI, cZ⟩, hZ, hU⟩ := id hI
  obtain ⟨r1, r2, r3, r4, r5, r6, r7, r8, r9, r10, r11, r12, r13⟩ := id hR
  obtain rfl : sw = nI m := r1
  obtain rfl : hw = nI k := r2
  have r3 : re = now 2 := r3
  have r4 : ∀ a, a < m → pr a = now (3 + 4 * a) := r4
  have r5 : ∀ a, a < m → na a = now (4 + 4 * a) := r5
  have r6 : ∀ a, a < m → wa a = now (5 + 4 * a) := r6
  have r7 : ∀ a, a < m → bl a = now (6 + 4 * a) := r7
  have r8 : ∀ a, a < m → up a = now (35 + a) := r8
  have r9 : ∀ a, a < m → cl a = now (41 + a) := r9
  have r10 : ∀ a, a < m → ∀ z, z < 4 → zo (4 * a + z) = now (47 + 4 * a + z) := r10
  have r11 : ∀ h, h < k → pl h = now (27 + h) := r11
  have r12 : ∀ h, h < k → no h = now (71 + h) := r12
  have r13 : ∀ h, h < k → ne h = now (79 + h) := r13
  unfold fX7_joins fX8_joins
  rcases two_cases (by omega : m < 2 ^ 30) h0 p1 p2 with ⟨e1, e2, a, b, ha, hb, hab, rfl, rfl⟩ | ⟨e1, e2⟩
  · rw [e1, e2, bs, bs, if10, if10, X3_isUp hm ha hb hab, bs, X8_isUp (by omega) (by omega), bs, r8 a ha]
    cases hup : bt (now (35 + a)) b
    · rw [ifb_f, ifb_f]
      obtain ⟨nn, oo, ss, pp, dd, q1, q2, q3⟩ := remember_both hH hN
      have q1 : fX2_remember hn ho hs (nI m) (nI k) re pr na wa bl up cl zo pl no ne = some (nn, oo, ss) := q1
      obtain ⟨V0, v1, v2⟩ := X3_view hm hk uB uS hP hU r8 r10 r11
      have rv : fX7_rememberView (nI m) (nI k) re pr na wa bl up cl zo pl no ne hn ho hs = some (V0, nn, oo, ss) := by
        unfold fX7_rememberView
        rw [q1, bs, v1, bs]
      obtain ⟨sb, s1, s2⟩ := X8_looks hm hk h0 h1 hP sa
      have hsv := rowV_srow hk v2 s2
      rw [rv, bs, q2, bs, X8_wouldBe hm h0 h2 ha hb, bs]
      have hoc := X3_outcomeOf hm uB r3 h2 r7 r8 r10 ha hb
      by_cases ho3 : outc m now a b ≤ 2
      · obtain ⟨up', cl', g, l1', l2', l3', l4', l5', l6', l7'⟩ := link_both hm r8 r9 ha hb hab (u := true) (c := false) (by decide)
        have l1' : fX3_setLink (nI m) up cl (nI a) (nI b) 1 = some (up', cl') := l1'
        have l2' : fX8_putLink now (nI a) (nI b) 1 0 = some g := l2'
        have hg : ∀ x, x < 35 ∨ 47 ≤ x → g x = now x := fun x hx => l7' x (by omega) (by omega) (by omega) (by omega)
        have hLu := RwL_link hm (f := UPr now) (g := UPr g) ha hb hab l5' ⟨uB, uS, uI, uZ⟩
        have hLc := RwL_link hm (f := CLr now) (g := CLr g) ha hb hab l6' ⟨cB, cS, cI, cZ⟩
        have hRg := RN_lnk hm hk hR hg l3' l4'
        have hg0 : g 0 = nI m := by rw [hg 0 (by omega)]; exact h0
        -- a link of g
        have hlk : ∀ c, c < m → ∀ d, bt (UPr g c) d = true → (c = a ∧ d = b) ∨ (c = b ∧ d = a) ∨ bt (UPr now c) d = true := by
          intro c hc d hd
          have hdm := hLu.1 c hc d hd
          have hd' : bt (g (35 + c)) d = true := hd
          rw [l5' c (by omega) d (by omega)] at hd'
          by_cases hq : (c = a ∧ d = b) ∨ (c = b ∧ d = a)
          · rcases hq with hq | hq
            · exact Or.inl hq
            · exact Or.inr (Or.inl hq)
          · rw [if_neg hq] at hd'; exact Or.inr (Or.inr hd')
        rw [if_pos (show nI (outc m now a b) ≤ 2 from by rw [l2, nI_leI (by omega) (by omega)]; exact ho3), s1, bs, l2', bs]
        unfold fX3_join
        rw [hoc, bs, if_pos (show nI (outc m now a b) < 3 from by rw [l3, nI_ltI (by omega) (by omega)]; omega), l1', bs]
        rcases outc_cases m now a b with ⟨ho, hcab⟩ | hrest
        · -- already joined
          have hU' : RwU g m := by
            intro x y hx hc z hz
            have hc' : Cnn m (UPr now) x y := Cnn.least (T := fun y => Cnn m (UPr now) x y) (by omega) (Cnn.rf hm hx) (fun c d hcm hT hd => by
              rcases hlk c hcm d hd with ⟨rfl, rfl⟩ | ⟨rfl, rfl⟩ | h
              · exact Cnn.tr hm uB hx hT hcab
              · exact Cnn.tr hm uB hx hT (hcab.sy hm uB uS ha)
              · exact hT.step hm uB hx h) hc
            have hy := hc'.bd hm uB hx
            rw [hg _ (by omega), hg _ (by omega)]
            exact hU x y hx hc' z hz
          have hIg : Inv g m k := Inv_lnk hg hLu hLc hU' hI
          obtain ⟨no', ne', g2, t1, t2, t3, t4, t5⟩ := notice_both (up := up') (zo := zo) (pl := pl) (no := no) (ne := ne) hm hk hIg.1.1 hIg.1.2.1 hLu.1 hLu.2.1 hIg.2.2.2.1 hU' l3' (fun a ha z hz => by rw [hg _ (by omega)]; exact r10 a ha z hz) (fun h hh => by rw [hg _ (by omega)]; exact r11 h hh) (fun h hh => by rw [hg _ (by omega)]; exact r12 h hh) (fun h hh => by rw [hg _ (by omega)]; exact r13 h hh) hsv
          have hNR : NR (nI m, nI k, re, pr, na, wa, bl, up', cl', zo, pl, no', ne') g2 := ⟨m, k, Inv_71 t5 hIg, RN_new hm hk hRg t5 t3 t4⟩
          rw [ho, if_pos (show nI 0 = 0 from rfl), if_neg (show ¬ nI 0 = 2 from by decide), bs, t1, bs, if_neg (show ¬ (1 : Int32) = 0 from by decide), if_pos (show nI 0 ≤ 0 from by decide), t2, bs]
          exact ⟨_, _, rfl, rfl, rfl, hNR, q3⟩
        · -- two become one
          have hcg : Cnn m (UPr g) a b := (Cnn.rf hm ha).step hm hLu.1 ha (show bt (g (35 + a)) b = true from by rw [l5' a (by omega) b (by omega), if_pos (Or.inl ⟨rfl, rfl⟩)])
          obtain ⟨zo', g3, w1, w2, w3, w4, w5⟩ := share_both hm hg0 (zo := zo) (fun a ha z hz => by rw [hg _ (by omega)]; exact r10 a ha z hz) ha hb (fab m (UPr g) a)
          have ecn : ∀ c, c < m → UPr g3 c = UPr g c := fun c hc => w5 (35 + c) (by omega)
          have hLu3 : RwL (UPr g3) m := RwL_cg hm (fun c hc => w5 (35 + c) (by omega)) hLu
          have hLc3 : RwL (CLr g3) m := RwL_cg hm (fun c hc => w5 (41 + c) (by omega)) hLc
          have hg3 : ∀ x, x < 35 ∨ 71 ≤ x → g3 x = now x := fun x hx => (w5 x (by omega)).trans (hg x (by omega))
          have hZ3 : RwZ g3 m k := by
            intro x hx y hy i hi
            rw [w4 x hx y hy] at hi
            by_cases hc : bt (fab m (UPr g) a) x = true
            · rw [if_pos hc, b_or, Bool.or_eq_true, hg _ (by omega), hg _ (by omega)] at hi
              rcases hi with hi | hi
              · exact hZ a ha y hy i hi
              · exact hZ b hb y hy i hi
            · rw [if_neg hc, hg _ (by omega)] at hi; exact hZ x hx y hy i hi
          have hU3 : RwU g3 m := by
            intro x y hx hc z hz
            have hc' : Cnn m (UPr g) x y := (Cnn_cg ecn).mp hc
            have hy := hc'.bd hm hLu.1 hx
            rw [w4 x hx z hz, w4 y hy z hz]
            by_cases hx1 : bt (fab m (UPr g) a) x = true
            · have hy1 : bt (fab m (UPr g) a) y = true := Cnn.tr hm hLu.1 ha (show Cnn m (UPr g) a x from hx1) hc'
              rw [if_pos hx1, if_pos hy1]
            · have hT : Cnn m (UPr now) x y ∧ ¬ Cnn m (UPr g) a y := Cnn.least (T := fun y => Cnn m (UPr now) x y ∧ ¬ Cnn m (UPr g) a y) (by omega) ⟨Cnn.rf hm hx, hx1⟩ (fun c d hcm hT hd => by
                have hdm := hLu.1 c hcm d hd
                rcases hlk c hcm d hd with ⟨rfl, rfl⟩ | ⟨rfl, rfl⟩ | h
                · exact absurd (Cnn.rf hm ha) hT.2
                · exact absurd hcg hT.2
                · exact ⟨hT.1.step hm uB hx h, fun hd2 => hT.2 (hd2.step hm hLu.1 ha (hLu.2.1 c d hcm hdm hd))⟩) hc'
              rw [if_neg hx1, if_neg (show ¬ bt (fab m (UPr g) a) y = true from hT.2), hg _ (by omega), hg _ (by omega)]
              exact hU x y hx hT.1 z hz
          have hI3 : Inv g3 m k := Inv_lz hg3 hLu3 hLc3 hZ3 hU3 hI
          have hR3 := RN_zon hm hk hRg w5 w3
          have hsh : fX3_shareZones (nI m) up' zo (nI a) (nI b) = some zo' := by
            unfold fX3_shareZones
            rw [X3_fabricOf hm hLu.1 l3' ha, bs, w1, bs]
          have w2 : fX8_joins_L1 (nI a) (nI b) (fab m (fun c => g (35 + c)) a) 500 0 g = some (nI 4, g3) := w2
          have hup3 : ∀ c, c < m → up' c = g3 (35 + c) := fun c hc => (l3' c hc).trans (w5 (35 + c) (by omega)).symm
          rcases hrest with ho | ho | ho
          · obtain ⟨no', ne', g2, t1, t2, t3, t4, t5⟩ := notice_both (up := up') (zo := zo') (pl := pl) (no := no) (ne := ne) hm hk hI3.1.1 hI3.1.2.1 hLu3.1 hLu3.2.1 hI3.2.2.2.1 hU3 hup3 w3 (fun h hh => by rw [hg3 _ (by omega)]; exact r11 h hh) (fun h hh => by rw [hg3 _ (by omega)]; exact r12 h hh) (fun h hh => by rw [hg3 _ (by omega)]; exact r13 h hh) hsv
            have hNR : NR (nI m, nI k, re, pr, na, wa, bl, up', cl', zo', pl, no', ne') g2 := ⟨m, k, Inv_71 t5 hI3, RN_new hm hk hR3 t5 t3 t4⟩
            rw [ho, if_neg (show ¬ nI 1 = 0 from by decide), hsh, bs, if_neg (show ¬ nI 1 = 2 from by decide), bs, t1, bs, if_neg (show ¬ (1 : Int32) = 0 from by decide), if_neg (show ¬ nI 1 ≤ 0 from by decide), X8_fabricOf hm hg0 ha, bs, w2, bs, if_neg (show ¬ nI 1 = 2 from by decide), t2, bs]
            exact ⟨_, _, rfl, rfl, rfl, hNR, q3⟩
          · have hpr3 : ∀ c, c < m → pr c = g3 (3 + 4 * c) := fun c hc => by rw [hg3 _ (by omega)]; exact r4 c hc
            have hna3 : ∀ c, c < m → na c = g3 (4 + 4 * c) := fun c hc => by rw [hg3 _ (by omega)]; exact r5 c hc
            have hwa3 : ∀ c, c < m → wa c = g3 (5 + 4 * c) := fun c hc => by rw [hg3 _ (by omega)]; exact r6 c hc
            have hbl3 : ∀ c, c < m → bl c = g3 (6 + 4 * c) := fun c hc => by rw [hg3 _ (by omega)]; exact r7 c hc
            obtain ⟨cc, bl', g4, d1, d2, d3, d4, d5⟩ := handOut_both hI3 hpr3 hna3 hwa3 hbl3 hup3 ha
            rw [fab_cg ecn] at d1 d2
            have d2 : fX8_handOut g3 (fab m (fun c => g (35 + c)) a) = some (cc, g4) := d2
            have hg4 : ∀ x, x < 3 ∨ 27 ≤ x → g4 x = g3 x := fun x hx => d4 x (fun s hs => by omega)
            have hI4 : Inv g4 m k := Inv_dev hg4 (d4.D hI3.2.1 d5) (fun c d hc hd e => by
              rw [d4.na, d4.na] at e; exact hI3.2.2.1 c d hc hd e) hI3
            have hR4 := RN_dev hR3 hg4 (pr' := pr) (na' := na) (wa' := wa) (bl' := bl') (fun c hc => by rw [d4.pr]; exact hpr3 c hc) (fun c hc => by rw [d4.na]; exact hna3 c hc) (fun c hc => by rw [d4.wa]; exact hwa3 c hc) d3
            obtain ⟨no', ne', g2, t1, t2, t3, t4, t5⟩ := notice_both (up := up') (zo := zo') (pl := pl) (no := no) (ne := ne) hm hk hI4.1.1 hI4.1.2.1 hI4.2.2.2.2.1.1 hI4.2.2.2.2.1.2.1 hI4.2.2.2.1 hI4.2.2.2.2.2.2.2 hR4.2.2.2.2.2.2.2.1 hR4.2.2.2.2.2.2.2.2.2.1 hR4.2.2.2.2.2.2.2.2.2.2.1 hR4.2.2.2.2.2.2.2.2.2.2.2.1 hR4.2.2.2.2.2.2.2.2.2.2.2.2 hsv
            have hNR : NR (nI m, nI k, re, pr, na, wa, bl', up', cl', zo', pl, no', ne') g2 := ⟨m, k, Inv_71 t5 hI4, RN_new hm hk hR4 t5 t3 t4⟩
            rw [ho, if_neg (show ¬ nI 2 = 0 from by decide), hsh, bs, if_pos (show nI 2 = 2 from rfl), X3_fabricOf hm hLu.1 l3' ha, bs, d1, bs, bs, t1, bs, if_neg (show ¬ (1 : Int32) = 0 from by decide), if_neg (show ¬ nI 2 ≤ 0 from by decide), X8_fabricOf hm hg0 ha, bs, w2, bs, if_pos (show nI 2 = 2 from rfl), d2, bs, t2, bs]
            exact ⟨_, _, rfl, rfl, rfl, hNR, q3⟩
          · omega
      · -- they clash
        have hle5 : outc m now a b ≤ 5 := by rcases outc_cases m now a b with ⟨h, -⟩ | h | h | h <;> omega
        obtain ⟨up', cl', g, l1', l2', l3', l4', l5', l6', l7'⟩ := link_both hm r8 r9 ha hb hab (u := false) (c := true) (by decide)
        have l1' : fX3_setLink (nI m) up cl (nI a) (nI b) 2 = some (up', cl') := l1'
        have l2' : fX8_putLink now (nI a) (nI b) 0 1 = some g := l2'
        have hg : ∀ x, x < 35 ∨ 47 ≤ x → g x = now x := fun x hx => l7' x (by omega) (by omega) (by omega) (by omega)
        have hLu := RwL_link hm (f := UPr now) (g := UPr g) ha hb hab l5' ⟨uB, uS, uI, uZ⟩
        have hLc := RwL_link hm (f := CLr now) (g := CLr g) ha hb hab l6' ⟨cB, cS, cI, cZ⟩
        have hRg := RN_lnk hm hk hR hg l3' l4'
        have hba : bt (now (35 + b)) a = false := by
          cases h : bt (now (35 + b)) a
          · rfl
          · have := uS b a hb ha h
            rw [show bt (now (35 + a)) b = true from this] at hup; cases hup
        have hsame : ∀ c, c < m → UPr g c = UPr now c := by
          intro c hc
          refine b_ext (fun i hi => ?_)
          show bt (g (35 + c)) i = bt (now (35 + c)) i
          rw [l5' c (by omega) i hi]
          by_cases hq : (c = a ∧ i = b) ∨ (c = b ∧ i = a)
          · rw [if_pos hq]
            rcases hq with ⟨rfl, rfl⟩ | ⟨rfl, rfl⟩
            · exact hup.symm
            · exact hba.symm
          · rw [if_neg hq]
        have hU' : RwU g m := by
          intro x y hx hc z hz
          have hc' : Cnn m (UPr now) x y := (Cnn_cg hsame).mp hc
          have hy := hc'.bd hm uB hx
          rw [hg _ (by omega), hg _ (by omega)]
          exact hU x y hx hc' z hz
        have hIg : Inv g m k := Inv_lnk hg hLu hLc hU' hI
        have hV : IsV m k g V0 := IsV_cg hm hP (fun h hh => hg _ (by omega)) hsame (fun a ha z hz => hg _ (by omega)) v2
        have hsv2 : RowV k V0 (srow m k g) := rowV_srow hk hV (fun _ _ => rfl)
        obtain ⟨no', ne', g2, t1, t2, t3, t4, t5⟩ := notice_both (up := up') (zo := zo) (pl := pl) (no := no) (ne := ne) hm hk hIg.1.1 hIg.1.2.1 hLu.1 hLu.2.1 hIg.2.2.2.1 hU' l3' (fun a ha z hz => by rw [hg _ (by omega)]; exact r10 a ha z hz) (fun h hh => by rw [hg _ (by omega)]; exact r11 h hh) (fun h hh => by rw [hg _ (by omega)]; exact r12 h hh) (fun h hh => by rw [hg _ (by omega)]; exact r13 h hh) hsv2
        obtain ⟨g2', t2', -, u1, u2⟩ := X8_tellNews hm hk hIg.1.1 hIg.1.2.1 hIg.2.2.2.1 (srow m k g)
        rw [t2] at t2'
        obtain rfl : g2 = g2' := Option.some.inj t2'
        have hNR : NR (nI m, nI k, re, pr, na, wa, bl, up', cl', zo, pl, no', ne') g := ⟨m, k, hIg, RN_new hm hk hRg (fun _ _ => rfl) (fun h hh => by rw [t3 h hh, u1 h hh, if_pos (xor_self _)]) (fun h hh => by rw [t4 h hh, u2 h hh, if_pos (xor_self _)])⟩
        unfold fX3_join
        rw [hoc, bs, if_neg (show ¬ nI (outc m now a b) < 3 from by rw [l3, nI_ltI (by omega) (by omega)]; omega), l1', bs, bs, t1, bs, if_pos rfl, if_neg (show ¬ nI (outc m now a b) ≤ 2 from by rw [l2, nI_leI (by omega) (by omega)]; exact ho3), l2', bs]
        exact ⟨_, _, rfl, rfl, rfl, hNR, q3⟩
    · rw [ifb_t, ifb_t]
      exact ⟨_, _, rfl, rfl, rfl, hN, hH⟩
  · rw [e1, e2, bs, bs, if00, if00]
    exact ⟨_, _, rfl, rfl, rfl, hN, hH⟩
