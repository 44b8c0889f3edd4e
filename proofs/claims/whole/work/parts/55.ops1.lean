/-! how a row stays as it must be; the calls that need least -/
theorem Inv_dev {f g : Nat → Int32} {n k : Nat} (h : ∀ x, x < 3 ∨ 27 ≤ x → g x = f x) (hD : RwD g n) (hN : RwN g n) (hI : Inv f n k) : Inv g n k := by
  obtain ⟨⟨h0, h1, hn, hk, h2⟩, -, -, hP, hu, hc, hZ, hU⟩ := hI
  have eu : UPr g = UPr f := funext (fun a => h (35 + a) (by omega))
  have ec : CLr g = CLr f := funext (fun a => h (41 + a) (by omega))
  refine ⟨⟨by rw [h 0 (by omega)]; exact h0, by rw [h 1 (by omega)]; exact h1, hn, hk, by rw [h 2 (by omega)]; exact h2⟩, hD, hN, fun i hi => ?_, by rw [eu]; exact hu, by rw [ec]; exact hc, fun a ha z hz i hi => ?_, fun a b ha hc z hz => ?_⟩
  · rw [h _ (by omega)]; exact hP i hi
  · rw [h _ (by omega)] at hi; exact hZ a ha z hz i hi
  · rw [eu] at hc
    rw [h _ (by omega), h _ (by omega)]; exact hU a b ha hc z hz
theorem Inv_plc {f g : Nat → Int32} {n k : Nat} (h : ∀ x, x < 27 ∨ 35 ≤ x → g x = f x) (hP : RwP g n k) (hI : Inv f n k) : Inv g n k := by
  obtain ⟨⟨h0, h1, hn, hk, h2⟩, hD, hN, -, hu, hc, hZ, hU⟩ := hI
  have eu : UPr g = UPr f := funext (fun a => h (35 + a) (by omega))
  have ec : CLr g = CLr f := funext (fun a => h (41 + a) (by omega))
  refine ⟨⟨by rw [h 0 (by omega)]; exact h0, by rw [h 1 (by omega)]; exact h1, hn, hk, by rw [h 2 (by omega)]; exact h2⟩, fun a ha => ?_, fun a b ha hb e => ?_, hP, by rw [eu]; exact hu, by rw [ec]; exact hc, fun a ha z hz i hi => ?_, fun a b ha hc z hz => ?_⟩
  · rw [h _ (by omega), h _ (by omega), h _ (by omega), h _ (by omega)]; exact hD a ha
  · rw [h _ (by omega), h _ (by omega)] at e; exact hN a b ha hb e
  · rw [h _ (by omega)] at hi; exact hZ a ha z hz i hi
  · rw [eu] at hc
    rw [h _ (by omega), h _ (by omega)]; exact hU a b ha hc z hz
theorem Inv_lnk {f g : Nat → Int32} {n k : Nat} (h : ∀ x, x < 35 ∨ 47 ≤ x → g x = f x) (hu : RwL (UPr g) n) (hc : RwL (CLr g) n) (hU : RwU g n) (hI : Inv f n k) : Inv g n k := by
  obtain ⟨⟨h0, h1, hn, hk, h2⟩, hD, hN, hP, -, -, hZ, -⟩ := hI
  refine ⟨⟨by rw [h 0 (by omega)]; exact h0, by rw [h 1 (by omega)]; exact h1, hn, hk, by rw [h 2 (by omega)]; exact h2⟩, fun a ha => ?_, fun a b ha hb e => ?_, fun i hi => ?_, hu, hc, fun a ha z hz i hi => ?_, hU⟩
  · rw [h _ (by omega), h _ (by omega), h _ (by omega), h _ (by omega)]; exact hD a ha
  · rw [h _ (by omega), h _ (by omega)] at e; exact hN a b ha hb e
  · rw [h _ (by omega)]; exact hP i hi
  · rw [h _ (by omega)] at hi; exact hZ a ha z hz i hi
theorem Inv_zon {f g : Nat → Int32} {n k : Nat} (h : ∀ x, x < 47 ∨ 71 ≤ x → g x = f x) (hZ : RwZ g n k) (hU : RwU g n) (hI : Inv f n k) : Inv g n k := by
  obtain ⟨⟨h0, h1, hn, hk, h2⟩, hD, hN, hP, ⟨u1, u2, u3, u4⟩, ⟨c1, c2, c3, c4⟩, -, -⟩ := hI
  have eu : ∀ a, a < 6 → UPr g a = UPr f a := fun a ha => h (35 + a) (by omega)
  have ec : ∀ a, a < 6 → CLr g a = CLr f a := fun a ha => h (41 + a) (by omega)
  refine ⟨⟨by rw [h 0 (by omega)]; exact h0, by rw [h 1 (by omega)]; exact h1, hn, hk, by rw [h 2 (by omega)]; exact h2⟩, fun a ha => ?_, fun a b ha hb e => ?_, fun i hi => ?_, ⟨fun a ha i hi => ?_, fun a b ha hb e => ?_, fun a ha => ?_, fun a ha h6 => ?_⟩, ⟨fun a ha i hi => ?_, fun a b ha hb e => ?_, fun a ha => ?_, fun a ha h6 => ?_⟩, hZ, hU⟩
  · rw [h _ (by omega), h _ (by omega), h _ (by omega), h _ (by omega)]; exact hD a ha
  · rw [h _ (by omega), h _ (by omega)] at e; exact hN a b ha hb e
  · rw [h _ (by omega)]; exact hP i hi
  · rw [eu a (by omega)] at hi; exact u1 a ha i hi
  · rw [eu a (by omega)] at e; rw [eu b (by omega)]; exact u2 a b ha hb e
  · rw [eu a (by omega)]; exact u3 a ha
  · rw [eu a h6]; exact u4 a ha h6
  · rw [ec a (by omega)] at hi; exact c1 a ha i hi
  · rw [ec a (by omega)] at e; rw [ec b (by omega)]; exact c2 a b ha hb e
  · rw [ec a (by omega)]; exact c3 a ha
  · rw [ec a h6]; exact c4 a ha h6
theorem Inv_71 {f g : Nat → Int32} {n k : Nat} (h : ∀ x, x < 71 → g x = f x) (hI : Inv f n k) : Inv g n k := by
  have h1 : Inv (fun x => if x < 71 then g x else f x) n k := by
    have e : (fun x => if x < 71 then g x else f x) = f := funext (fun x => by
      by_cases hx : x < 71
      · rw [if_pos hx]; exact h x hx
      · rw [if_neg hx])
    rw [e]; exact hI
  have hn := hI.1.2.2.1
  have hk := hI.1.2.2.2.1
  refine Inv_zon (f := fun x => if x < 47 then g x else if x < 71 then f x else g x) (g := g) (fun x hx => ?_) ?_ ?_ ?_
  · rcases hx with hx | hx
    · show g x = if x < 47 then g x else _
      rw [if_pos hx]
    · show g x = if x < 47 then g x else if x < 71 then f x else g x
      rw [if_neg (by omega), if_neg (by omega)]
  · intro a ha z hz i hi
    rw [h _ (by omega)] at hi
    exact hI.2.2.2.2.2.2.1 a ha z hz i hi
  · intro a b ha hc z hz
    have hc' : Cnn n (UPr f) a b := (Cnn_cg (fun a ha => h (35 + a) (by omega))).mp hc
    have hb := hc'.bd hn hI.2.2.2.2.1.1 ha
    rw [h _ (by omega), h _ (by omega)]
    exact hI.2.2.2.2.2.2.2 a b ha hc' z hz
  · obtain ⟨⟨h0, h1, hn, hk, h2⟩, hD, hN, hP, ⟨u1, u2, u3, u4⟩, ⟨c1, c2, c3, c4⟩, hZ, hU⟩ := hI
    have e47 : ∀ x, x < 71 → (fun x => if x < 47 then g x else if x < 71 then f x else g x) x = f x := fun x hx => by
      show (if x < 47 then g x else if x < 71 then f x else g x) = f x
      by_cases h4 : x < 47
      · rw [if_pos h4]; exact h x hx
      · rw [if_neg h4, if_pos hx]
    generalize (fun x => if x < 47 then g x else if x < 71 then f x else g x) = w at e47 ⊢
    have eu : ∀ a, a < 6 → UPr w a = UPr f a := fun a ha => e47 (35 + a) (by omega)
    have ec : ∀ a, a < 6 → CLr w a = CLr f a := fun a ha => e47 (41 + a) (by omega)
    refine ⟨⟨by rw [e47 0 (by omega)]; exact h0, by rw [e47 1 (by omega)]; exact h1, hn, hk, by rw [e47 2 (by omega)]; exact h2⟩, fun a ha => ?_, fun a b ha hb e => ?_, fun i hi => ?_, ⟨fun a ha i hi => ?_, fun a b ha hb e => ?_, fun a ha => ?_, fun a ha h6 => ?_⟩, ⟨fun a ha i hi => ?_, fun a b ha hb e => ?_, fun a ha => ?_, fun a ha h6 => ?_⟩, fun a ha z hz i hi => ?_, fun a b ha hc z hz => ?_⟩
    · rw [e47 _ (by omega), e47 _ (by omega), e47 _ (by omega), e47 _ (by omega)]; exact hD a ha
    · rw [e47 _ (by omega), e47 _ (by omega)] at e; exact hN a b ha hb e
    · rw [e47 _ (by omega)]; exact hP i hi
    · rw [eu a (by omega)] at hi; exact u1 a ha i hi
    · rw [eu a (by omega)] at e; rw [eu b (by omega)]; exact u2 a b ha hb e
    · rw [eu a (by omega)]; exact u3 a ha
    · rw [eu a h6]; exact u4 a ha h6
    · rw [ec a (by omega)] at hi; exact c1 a ha i hi
    · rw [ec a (by omega)] at e; rw [ec b (by omega)]; exact c2 a b ha hb e
    · rw [ec a (by omega)]; exact c3 a ha
    · rw [ec a h6]; exact c4 a ha h6
    · rw [e47 _ (by omega)] at hi; exact hZ a ha z hz i hi
    · have hc' : Cnn n (UPr f) a b := (Cnn_cg (fun a ha => eu a (by omega))).mp hc
      have hb := hc'.bd hn u1 ha
      rw [e47 _ (by omega), e47 _ (by omega)]
      exact hU a b ha hc' z hz
/-- the number of a switch, or none -/
theorem sw2 {n : Nat} {f : Nat → Int32} (hn : n ≤ 6) (h0 : f 0 = nI n) (x : Int32) : (fX3_hasSwitch (nI n) x = some 1 ∧ fX8_isSwitch f x = some 1 ∧ ∃ a, a < n ∧ x = nI a) ∨ (fX3_hasSwitch (nI n) x = some 0 ∧ fX8_isSwitch f x = some 0 ∧ ¬ ∃ a, a < n ∧ x = nI a) := by
  rw [X8_isSwitch (by omega) h0]
  rcases sw_cases (by omega : n < 2 ^ 31) x with ⟨h1, h2⟩ | ⟨h1, h2⟩
  · exact Or.inl ⟨h1, h1, h2⟩
  · exact Or.inr ⟨h1, h1, h2⟩
theorem ho2 {k : Nat} {f : Nat → Int32} (hk : k ≤ 8) (h0 : f 1 = nI k) (x : Int32) : (fX3_hasHost (nI k) x = some 1 ∧ fX8_isHost f x = some 1 ∧ ∃ a, a < k ∧ x = nI a) ∨ (fX3_hasHost (nI k) x = some 0 ∧ fX8_isHost f x = some 0 ∧ ¬ ∃ a, a < k ∧ x = nI a) := by
  rw [X8_isHost (by omega) h0, X3_hasHost]
  rcases sw_cases (by omega : k < 2 ^ 31) x with ⟨h1, h2⟩ | ⟨h1, h2⟩
  · exact Or.inl ⟨h1, h1, h2⟩
  · exact Or.inr ⟨h1, h1, h2⟩
theorem in_cases (x a b : Int32) : (fX8_in x a b = some 1 ∧ a ≤ x ∧ x ≤ b) ∨ (fX8_in x a b = some 0 ∧ (x < a ∨ b < x)) := by
  unfold fX8_in
  by_cases h1 : x < a
  · right; rw [if_pos h1]; exact ⟨rfl, Or.inl h1⟩
  · by_cases h2 : b < x
    · right; rw [if_neg h1, if_pos h2]; exact ⟨rfl, Or.inr h2⟩
    · left; rw [if_neg h1, if_neg h2]; exact ⟨rfl, fa_of_nlt h1, fa_of_nlt h2⟩
theorem ge_nlt {x y : Int32} (h : x ≤ y) : ¬ y < x := by rw [fa_lt]; rw [fa_le] at h; omega
theorem lt_nle {x y : Int32} (h : x < y) : ¬ y ≤ x := by rw [fa_le]; rw [fa_lt] at h; omega
theorem RN_dev {sw hw re : Int32} {pr na wa bl up cl zo pl no ne : Nat → Int32} {f g pr' na' wa' bl' : Nat → Int32} {n k : Nat} (hR : RN (sw, hw, re, pr, na, wa, bl, up, cl, zo, pl, no, ne) f n k) (h : ∀ x, x < 3 ∨ 27 ≤ x → g x = f x) (h4 : ∀ a, a < n → pr' a = g (3 + 4 * a)) (h5 : ∀ a, a < n → na' a = g (4 + 4 * a)) (h6 : ∀ a, a < n → wa' a = g (5 + 4 * a)) (h7 : ∀ a, a < n → bl' a = g (6 + 4 * a)) : RN (sw, hw, re, pr', na', wa', bl', up, cl, zo, pl, no, ne) g n k := by
  obtain ⟨r1, r2, r3, r4, r5, r6, r7, r8, r9, r10, r11, r12, r13⟩ := hR
  exact ⟨r1, r2, by rw [h 2 (by omega)]; exact r3, h4, h5, h6, h7, fun a ha => by rw [h _ (by omega)]; exact r8 a ha, fun a ha => by rw [h _ (by omega)]; exact r9 a ha, fun a ha z hz => by rw [h _ (by omega)]; exact r10 a ha z hz, fun a ha => by rw [h _ (by omega)]; exact r11 a ha, fun a ha => by rw [h _ (by omega)]; exact r12 a ha, fun a ha => by rw [h _ (by omega)]; exact r13 a ha⟩
theorem RN_plc {sw hw re : Int32} {pr na wa bl up cl zo pl no ne : Nat → Int32} {f g pl' : Nat → Int32} {n k : Nat} (hn : n ≤ 6) (hR : RN (sw, hw, re, pr, na, wa, bl, up, cl, zo, pl, no, ne) f n k) (h : ∀ x, x < 27 ∨ 35 ≤ x → g x = f x) (h4 : ∀ a, a < k → pl' a = g (27 + a)) : RN (sw, hw, re, pr, na, wa, bl, up, cl, zo, pl', no, ne) g n k := by
  obtain ⟨r1, r2, r3, r4, r5, r6, r7, r8, r9, r10, r11, r12, r13⟩ := hR
  exact ⟨r1, r2, by rw [h 2 (by omega)]; exact r3, fun a ha => by rw [h _ (by omega)]; exact r4 a ha, fun a ha => by rw [h _ (by omega)]; exact r5 a ha, fun a ha => by rw [h _ (by omega)]; exact r6 a ha, fun a ha => by rw [h _ (by omega)]; exact r7 a ha, fun a ha => by rw [h _ (by omega)]; exact r8 a ha, fun a ha => by rw [h _ (by omega)]; exact r9 a ha, fun a ha z hz => by rw [h _ (by omega)]; exact r10 a ha z hz, h4, fun a ha => by rw [h _ (by omega)]; exact r12 a ha, fun a ha => by rw [h _ (by omega)]; exact r13 a ha⟩
theorem RN_lnk {sw hw re : Int32} {pr na wa bl up cl zo pl no ne : Nat → Int32} {f g up' cl' : Nat → Int32} {n k : Nat} (hn : n ≤ 6) (hk : k ≤ 8) (hR : RN (sw, hw, re, pr, na, wa, bl, up, cl, zo, pl, no, ne) f n k) (h : ∀ x, x < 35 ∨ 47 ≤ x → g x = f x) (h4 : ∀ a, a < n → up' a = g (35 + a)) (h5 : ∀ a, a < n → cl' a = g (41 + a)) : RN (sw, hw, re, pr, na, wa, bl, up', cl', zo, pl, no, ne) g n k := by
  obtain ⟨r1, r2, r3, r4, r5, r6, r7, r8, r9, r10, r11, r12, r13⟩ := hR
  exact ⟨r1, r2, by rw [h 2 (by omega)]; exact r3, fun a ha => by rw [h _ (by omega)]; exact r4 a ha, fun a ha => by rw [h _ (by omega)]; exact r5 a ha, fun a ha => by rw [h _ (by omega)]; exact r6 a ha, fun a ha => by rw [h _ (by omega)]; exact r7 a ha, h4, h5, fun a ha z hz => by rw [h _ (by omega)]; exact r10 a ha z hz, fun a ha => by rw [h _ (by omega)]; exact r11 a ha, fun a ha => by rw [h _ (by omega)]; exact r12 a ha, fun a ha => by rw [h _ (by omega)]; exact r13 a ha⟩
theorem RN_zon {sw hw re : Int32} {pr na wa bl up cl zo pl no ne : Nat → Int32} {f g zo' : Nat → Int32} {n k : Nat} (hn : n ≤ 6) (hk : k ≤ 8) (hR : RN (sw, hw, re, pr, na, wa, bl, up, cl, zo, pl, no, ne) f n k) (h : ∀ x, x < 47 ∨ 71 ≤ x → g x = f x) (h4 : ∀ a, a < n → ∀ z, z < 4 → zo' (4 * a + z) = g (47 + 4 * a + z)) : RN (sw, hw, re, pr, na, wa, bl, up, cl, zo', pl, no, ne) g n k := by
  obtain ⟨r1, r2, r3, r4, r5, r6, r7, r8, r9, r10, r11, r12, r13⟩ := hR
  exact ⟨r1, r2, by rw [h 2 (by omega)]; exact r3, fun a ha => by rw [h _ (by omega)]; exact r4 a ha, fun a ha => by rw [h _ (by omega)]; exact r5 a ha, fun a ha => by rw [h _ (by omega)]; exact r6 a ha, fun a ha => by rw [h _ (by omega)]; exact r7 a ha, fun a ha => by rw [h _ (by omega)]; exact r8 a ha, fun a ha => by rw [h _ (by omega)]; exact r9 a ha, h4, fun a ha => by rw [h _ (by omega)]; exact r11 a ha, fun a ha => by rw [h _ (by omega)]; exact r12 a ha, fun a ha => by rw [h _ (by omega)]; exact r13 a ha⟩
theorem RN_new {sw hw re : Int32} {pr na wa bl up cl zo pl no ne : Nat → Int32} {f g no' ne' : Nat → Int32} {n k : Nat} (hn : n ≤ 6) (hk : k ≤ 8) (hR : RN (sw, hw, re, pr, na, wa, bl, up, cl, zo, pl, no, ne) f n k) (h : ∀ x, x < 71 → g x = f x) (h4 : ∀ a, a < k → no' a = g (71 + a)) (h5 : ∀ a, a < k → ne' a = g (79 + a)) : RN (sw, hw, re, pr, na, wa, bl, up, cl, zo, pl, no', ne') g n k := by
  obtain ⟨r1, r2, r3, r4, r5, r6, r7, r8, r9, r10, r11, r12, r13⟩ := hR
  exact ⟨r1, r2, by rw [h 2 (by omega)]; exact r3, fun a ha => by rw [h _ (by omega)]; exact r4 a ha, fun a ha => by rw [h _ (by omega)]; exact r5 a ha, fun a ha => by rw [h _ (by omega)]; exact r6 a ha, fun a ha => by rw [h _ (by omega)]; exact r7 a ha, fun a ha => by rw [h _ (by omega)]; exact r8 a ha, fun a ha => by rw [h _ (by omega)]; exact r9 a ha, fun a ha z hz => by rw [h _ (by omega)]; exact r10 a ha z hz, fun a ha => by rw [h _ (by omega)]; exact r11 a ha, h4, h5⟩
theorem op_ranks {sw hw re : Int32} {pr na wa bl up cl zo pl no ne : Nat → Int32} {now : Nat → Int32} {hn : Nat → NetT} {ho hs deeds : Int32} {past : Nat → Int32} (hN : NR (sw, hw, re, pr, na, wa, bl, up, cl, zo, pl, no, ne) now) (hH : HR hn ho hs past deeds) (p1 p2 : Int32) :
    ∃ z7 z8, fX7_ranks sw hw re pr na wa bl up cl zo pl no ne hn ho hs p1 p2 = some z7 ∧ fX8_ranks now past deeds p1 p2 = some z8 ∧ z7.1 = z8.1 ∧
      NR (sw, hw, re, z7.2.1, na, wa, bl, up, cl, zo, pl, no, ne) z8.2.1 ∧ HR z7.2.2.1 z7.2.2.2.1 z7.2.2.2.2 z8.2.2.1 z8.2.2.2 := by
  obtain ⟨m, k, hI, hR⟩ := id hN
  obtain ⟨⟨h0, h1, hm, hk, h2⟩, hD, hNm, hP, ⟨uB, uS, uI, uZ⟩, ⟨cB, cS, cI, cZ⟩, hZ, hU⟩ := id hI
  obtain ⟨r1, r2, r3, r4, r5, r6, r7, r8, r9, r10, r11, r12, r13⟩ := id hR
  obtain rfl : sw = nI m := r1
  obtain rfl : hw = nI k := r2
  have r3 : re = now 2 := r3
  have r4 : ∀ a, a < m → pr a = now (3 + 4 * a) := r4
  have r5 : ∀ a, a < m → na a = now (4 + 4 * a) := r5
  have r6 : ∀ a, a < m → wa a = now (5 + 4 * a) := r6
  have r7 : ∀ a, a < m → bl a = now (6 + 4 * a) := r7
  have r8 : ∀ a, a < m → up a = now (35 + a) := r8
  have r9 : ∀ a, a < m → cl a = now (41 + a) := r9
  have r10 : ∀ a, a < m → ∀ z, z < 4 → zo (4 * a + z) = now (47 + 4 * a + z) := r10
  have r11 : ∀ h, h < k → pl h = now (27 + h) := r11
  have r12 : ∀ h, h < k → no h = now (71 + h) := r12
  have r13 : ∀ h, h < k → ne h = now (79 + h) := r13
  unfold fX7_ranks fX8_ranks
  rcases sw2 hm h0 p1 with ⟨e1, e2, a, ha, rfl⟩ | ⟨e1, e2, -⟩
  · rw [e1, e2, bs, bs, if10, if10]
    rcases in_cases p2 1 9 with ⟨e3, b1', b2'⟩ | ⟨e3, hb⟩
    · have o := X8_of (f := now) (a := a) (w := 0) (by omega) (by omega)
      rw [e3, bs, if10, if_neg (ge_nlt b1'), if_pos b2', X3_priorityOf hm ha, bs, l0, o, bs, r4 a ha]
      by_cases hq : now (3 + 4 * a) = p2
      · rw [if_pos hq, if_pos (show now (3 + 4 * a + 0) = p2 from hq)]
        exact ⟨_, _, rfl, rfl, rfl, hN, hH⟩
      · rw [if_neg hq, if_neg (show ¬ now (3 + 4 * a + 0) = p2 from hq)]
        obtain ⟨nn, oo, ss, pp, dd, q1, q2, q3⟩ := remember_both hH hN
        have q1 : fX2_remember hn ho hs (nI m) (nI k) re pr na wa bl up cl zo pl no ne = some (nn, oo, ss) := q1
        rw [q1, q2, bs, bs, X3_setPriority hm ha, bs, l3, l4, pk_mul, nI_add, nI_add, gd_t (inB_nI (by omega) (by decide)), bd_eq, nI_N (by omega), Nat.add_zero]
        have hNR : NR (nI m, nI k, re, upd pr a p2, na, wa, bl, up, cl, zo, pl, no, ne) (upd now (3 + 4 * a) p2) := by
          refine ⟨m, k, Inv_dev (f := now) (fun x hx => pk_un (by omega)) (fun c hc => ?_) (fun c d hc hd e => ?_) hI, RN_dev hR (fun x hx => pk_un (by omega)) (fun c hc => ?_) (fun c hc => ?_) (fun c hc => ?_) (fun c hc => ?_)⟩
          · rw [pk_un (by omega : 4 + 4 * c ≠ 3 + 4 * a), pk_un (by omega : 5 + 4 * c ≠ 3 + 4 * a), pk_un (by omega : 6 + 4 * c ≠ 3 + 4 * a)]
            refine ⟨?_, (hD c hc).2⟩
            by_cases hca : c = a
            · subst hca
              rw [pk_us]
              rw [fa_le] at b1' b2'
              exact ⟨b1', b2'⟩
            · rw [pk_un (by omega)]; exact (hD c hc).1
          · rw [pk_un (by omega), pk_un (by omega)] at e; exact hNm c d hc hd e
          · by_cases hca : c = a
            · subst hca; rw [pk_us, pk_us]
            · rw [pk_un hca, pk_un (by omega)]; exact r4 c hc
          · rw [pk_un (by omega)]; exact r5 c hc
          · rw [pk_un (by omega)]; exact r6 c hc
          · rw [pk_un (by omega)]; exact r7 c hc
        exact ⟨_, _, rfl, rfl, rfl, hNR, q3⟩
    · rw [e3, bs, if00]
      refine ⟨((-1), pr, hn, ho, hs), _, ?_, rfl, rfl, hN, hH⟩
      by_cases h3 : p2 < 1
      · rw [if_pos h3]
      · rw [if_neg h3, if_neg (lt_nle (hb.resolve_left h3))]
  · rw [e1, e2, bs, bs, if00, if00]
    exact ⟨_, _, rfl, rfl, rfl, hN, hH⟩
theorem op_renews {sw hw re : Int32} {pr na wa bl up cl zo pl no ne : Nat → Int32} {now : Nat → Int32} {hn : Nat → NetT} {ho hs deeds : Int32} {past : Nat → Int32} (hN : NR (sw, hw, re, pr, na, wa, bl, up, cl, zo, pl, no, ne) now) (hH : HR hn ho hs past deeds) (p1 : Int32) :
    ∃ z7 z8, fX7_renews sw hw re pr na wa bl up cl zo pl no ne hn ho hs p1 = some z7 ∧ fX8_renews now past deeds p1 = some z8 ∧ z7.1 = z8.1 ∧
      NR (sw, hw, re, pr, na, wa, z7.2.1, up, cl, zo, pl, no, ne) z8.2.1 ∧ HR z7.2.2.1 z7.2.2.2.1 z7.2.2.2.2 z8.2.2.1 z8.2.2.2 := by
  obtain ⟨m, k, hI, hR⟩ := id hN
  obtain ⟨⟨h0, h1, hm, hk, h2⟩, hD, hNm, hP, ⟨uB, uS, uI, uZ⟩, ⟨cB, cS, cI, cZ⟩, hZ, hU⟩ := id hI
  obtain ⟨r1, r2, r3, r4, r5, r6, r7, r8, r9, r10, r11, r12, r13⟩ := id hR
  obtain rfl : sw = nI m := r1
  obtain rfl : hw = nI k := r2
  have r3 : re = now 2 := r3
  have r4 : ∀ a, a < m → pr a = now (3 + 4 * a) := r4
  have r5 : ∀ a, a < m → na a = now (4 + 4 * a) := r5
  have r6 : ∀ a, a < m → wa a = now (5 + 4 * a) := r6
  have r7 : ∀ a, a < m → bl a = now (6 + 4 * a) := r7
  have r8 : ∀ a, a < m → up a = now (35 + a) := r8
  have r9 : ∀ a, a < m → cl a = now (41 + a) := r9
  have r10 : ∀ a, a < m → ∀ z, z < 4 → zo (4 * a + z) = now (47 + 4 * a + z) := r10
  have r11 : ∀ h, h < k → pl h = now (27 + h) := r11
  have r12 : ∀ h, h < k → no h = now (71 + h) := r12
  have r13 : ∀ h, h < k → ne h = now (79 + h) := r13
  unfold fX7_renews fX8_renews
  rcases sw2 hm h0 p1 with ⟨e1, e2, a, ha, rfl⟩ | ⟨e1, e2, -⟩
  · rw [e1, e2, bs, bs, if10, if10]
    obtain ⟨nn, oo, ss, pp, dd, q1, q2, q3⟩ := remember_both hH hN
    have q1 : fX2_remember hn ho hs (nI m) (nI k) re pr na wa bl up cl zo pl no ne = some (nn, oo, ss) := q1
    obtain ⟨c, bl', g, g1, g2, g3, g4, g5⟩ := handOut_both hI r4 r5 r6 r7 r8 ha
    have g2 : fX8_handOut now (fab m (fun a => now (35 + a)) a) = some (c, g) := g2
    rw [q1, q2, bs, bs, X3_fabricOf hm uB r8 ha, bs, X8_fabricOf hm h0 ha, bs, g1, bs, g2, bs]
    have hg : ∀ x, x < 3 ∨ 27 ≤ x → g x = now x := fun x hx => g4 x (fun s hs => by omega)
    have hNR : NR (nI m, nI k, re, pr, na, wa, bl', up, cl, zo, pl, no, ne) g := by
      refine ⟨m, k, Inv_dev hg (g4.D hD g5) (fun c d hc hd e => ?_) hI, RN_dev hR hg (fun c hc => ?_) (fun c hc => ?_) (fun c hc => ?_) g3⟩
      · rw [g4.na, g4.na] at e; exact hNm c d hc hd e
      · rw [g4.pr]; exact r4 c hc
      · rw [g4.na]; exact r5 c hc
      · rw [g4.wa]; exact r6 c hc
    exact ⟨_, _, rfl, rfl, rfl, hNR, q3⟩
  · rw [e1, e2, bs, bs, if00, if00]
    exact ⟨_, _, rfl, rfl, rfl, hN, hH⟩
theorem RN_re {sw hw re : Int32} {pr na wa bl up cl zo pl no ne : Nat → Int32} {f g : Nat → Int32} {re' : Int32} {n k : Nat} (hn : n ≤ 6) (hk : k ≤ 8) (hR : RN (sw, hw, re, pr, na, wa, bl, up, cl, zo, pl, no, ne) f n k) (h : ∀ x, x ≠ 2 → g x = f x) (h4 : re' = g 2) : RN (sw, hw, re', pr, na, wa, bl, up, cl, zo, pl, no, ne) g n k := by
  obtain ⟨r1, r2, r3, r4, r5, r6, r7, r8, r9, r10, r11, r12, r13⟩ := hR
  exact ⟨r1, r2, h4, fun a ha => by rw [h _ (by omega)]; exact r4 a ha, fun a ha => by rw [h _ (by omega)]; exact r5 a ha, fun a ha => by rw [h _ (by omega)]; exact r6 a ha, fun a ha => by rw [h _ (by omega)]; exact r7 a ha, fun a ha => by rw [h _ (by omega)]; exact r8 a ha, fun a ha => by rw [h _ (by omega)]; exact r9 a ha, fun a ha z hz => by rw [h _ (by omega)]; exact r10 a ha z hz, fun a ha => by rw [h _ (by omega)]; exact r11 a ha, fun a ha => by rw [h _ (by omega)]; exact r12 a ha, fun a ha => by rw [h _ (by omega)]; exact r13 a ha⟩
theorem Inv_re {f g : Nat → Int32} {n k : Nat} (h : ∀ x, x ≠ 2 → g x = f x) (h2 : g 2 = 0 ∨ g 2 = 1) (hI : Inv f n k) : Inv g n k := by
  obtain ⟨⟨h0, h1, hn, hk, -⟩, hD, hN, hP, hu, hc, hZ, hU⟩ := hI
  have eu : UPr g = UPr f := funext (fun a => h (35 + a) (by omega))
  have ec : CLr g = CLr f := funext (fun a => h (41 + a) (by omega))
  refine ⟨⟨by rw [h 0 (by omega)]; exact h0, by rw [h 1 (by omega)]; exact h1, hn, hk, h2⟩, fun a ha => ?_, fun a b ha hb e => ?_, fun i hi => ?_, by rw [eu]; exact hu, by rw [ec]; exact hc, fun a ha z hz i hi => ?_, fun a b ha hc z hz => ?_⟩
  · rw [h _ (by omega), h _ (by omega), h _ (by omega), h _ (by omega)]; exact hD a ha
  · rw [h _ (by omega), h _ (by omega)] at e; exact hN a b ha hb e
  · rw [h _ (by omega)]; exact hP i hi
  · rw [h _ (by omega)] at hi; exact hZ a ha z hz i hi
  · rw [eu] at hc
    rw [h _ (by omega), h _ (by omega)]; exact hU a b ha hc z hz
theorem op_allows {sw hw re : Int32} {pr na wa bl up cl zo pl no ne : Nat → Int32} {now : Nat → Int32} {hn : Nat → NetT} {ho hs deeds : Int32} {past : Nat → Int32} (hN : NR (sw, hw, re, pr, na, wa, bl, up, cl, zo, pl, no, ne) now) (hH : HR hn ho hs past deeds) (p1 : Int32) :
    ∃ z7 z8, fX7_allows sw hw re pr na wa bl up cl zo pl no ne hn ho hs p1 = some z7 ∧ fX8_allows now past deeds p1 = some z8 ∧ z7.1 = z8.1 ∧
      NR (sw, hw, z7.2.1, pr, na, wa, bl, up, cl, zo, pl, no, ne) z8.2.1 ∧ HR z7.2.2.1 z7.2.2.2.1 z7.2.2.2.2 z8.2.2.1 z8.2.2.2 := by
  obtain ⟨m, k, hI, hR⟩ := id hN
  obtain ⟨⟨h0, h1, hm, hk, h2⟩, hD, hNm, hP, ⟨uB, uS, uI, uZ⟩, ⟨cB, cS, cI, cZ⟩, hZ, hU⟩ := id hI
  obtain ⟨r1, r2, r3, r4, r5, r6, r7, r8, r9, r10, r11, r12, r13⟩ := id hR
  obtain rfl : sw = nI m := r1
  obtain rfl : hw = nI k := r2
  have r3 : re = now 2 := r3
  have r4 : ∀ a, a < m → pr a = now (3 + 4 * a) := r4
  have r5 : ∀ a, a < m → na a = now (4 + 4 * a) := r5
  have r6 : ∀ a, a < m → wa a = now (5 + 4 * a) := r6
  have r7 : ∀ a, a < m → bl a = now (6 + 4 * a) := r7
  have r8 : ∀ a, a < m → up a = now (35 + a) := r8
  have r9 : ∀ a, a < m → cl a = now (41 + a) := r9
  have r10 : ∀ a, a < m → ∀ z, z < 4 → zo (4 * a + z) = now (47 + 4 * a + z) := r10
  have r11 : ∀ h, h < k → pl h = now (27 + h) := r11
  have r12 : ∀ h, h < k → no h = now (71 + h) := r12
  have r13 : ∀ h, h < k → ne h = now (79 + h) := r13
  unfold fX7_allows fX8_allows
  rcases in_cases p1 0 1 with ⟨e3, b1', b2'⟩ | ⟨e3, hb⟩
  · have hp : p1 = 0 ∨ p1 = 1 := by
      rw [fa_le, show (0 : Int32).toInt = 0 from by decide] at b1'
      rw [fa_le, show (1 : Int32).toInt = 1 from by decide] at b2'
      rcases (by omega : p1.toInt = 0 ∨ p1.toInt = 1) with h | h
      · left; rw [fa_eq]; exact h
      · right; rw [fa_eq]; exact h
    have hir : fX3_isRenewing re = some (now 2) := by
      unfold fX3_isRenewing
      rw [r3, gd_t h2]
    obtain ⟨nn, oo, ss, pp, dd, q1, q2, q3⟩ := remember_both hH hN
    have q1 : fX2_remember hn ho hs (nI m) (nI k) re pr na wa bl up cl zo pl no ne = some (nn, oo, ss) := q1
    rw [e3, bs, if10, gd_t (by decide), z2N, if_neg (ge_nlt b1'), if_pos b2', hir, bs, q1, q2, bs, bs, gd_t (by decide), bd_eq]
    have fin : ∀ v : Int32, v = 0 ∨ v = 1 → NR (nI m, nI k, v, pr, na, wa, bl, up, cl, zo, pl, no, ne) (upd now 2 v) := fun v hv =>
      ⟨m, k, Inv_re (f := now) (fun x hx => pk_un hx) (by rw [pk_us]; exact hv) hI, RN_re hm hk hR (fun x hx => pk_un hx) (by rw [pk_us])⟩
    rcases hp with rfl | rfl
    · rw [if_neg (show ¬ (0 : Int32) = 1 by decide)]
      by_cases hq : now 2 = 0
      · rw [if_pos hq, if_pos hq]
        exact ⟨_, _, rfl, rfl, rfl, hN, hH⟩
      · rw [if_neg hq, if_neg hq]
        exact ⟨_, _, rfl, rfl, rfl, fin 0 (Or.inl rfl), q3⟩
    · rw [if_pos (show (1 : Int32) = 1 from rfl)]
      by_cases hq : now 2 = 1
      · rw [if_pos hq, if_pos hq]
        exact ⟨_, _, rfl, rfl, rfl, hN, hH⟩
      · rw [if_neg hq, if_neg hq]
        exact ⟨_, _, rfl, rfl, rfl, fin 1 (Or.inr rfl), q3⟩
  · rw [e3, bs, if00]
    refine ⟨((-1), re, hn, ho, hs), _, ?_, rfl, rfl, hN, hH⟩
    by_cases h3 : p1 < 0
    · rw [if_pos h3]
    · rw [if_neg h3, if_neg (lt_nle (hb.resolve_left h3))]
theorem op_undo {sw hw re : Int32} {pr na wa bl up cl zo pl no ne : Nat → Int32} {now : Nat → Int32} {hn : Nat → NetT} {ho hs deeds : Int32} {past : Nat → Int32} (hN : NR (sw, hw, re, pr, na, wa, bl, up, cl, zo, pl, no, ne) now) (hH : HR hn ho hs past deeds) :
    ∃ z7 z8, fX7_undo sw hw re pr na wa bl up cl zo pl no ne hn ho hs = some z7 ∧ fX8_undo now past deeds = some z8 ∧ z7.1 = z8.1 ∧
      NR (z7.2.1, z7.2.2.1, z7.2.2.2.1, z7.2.2.2.2.1, z7.2.2.2.2.2.1, z7.2.2.2.2.2.2.1, z7.2.2.2.2.2.2.2.1, z7.2.2.2.2.2.2.2.2.1, z7.2.2.2.2.2.2.2.2.2.1, z7.2.2.2.2.2.2.2.2.2.2.1, z7.2.2.2.2.2.2.2.2.2.2.2.1, z7.2.2.2.2.2.2.2.2.2.2.2.2.1, z7.2.2.2.2.2.2.2.2.2.2.2.2.2.1) z8.2.1 ∧ HR hn ho z7.2.2.2.2.2.2.2.2.2.2.2.2.2.2 past z8.2.2 := by
  unfold fX7_undo fX8_undo fX2_size
  have hsd : hs = deeds := by
    obtain ⟨o, d, -, -, -, h1, h2, -⟩ := hH
    rw [h1, h2]
  rw [bs]
  by_cases hz : deeds = 0
  · rw [if_pos hz, if_pos (by rw [hsd]; exact hz)]
    exact ⟨_, _, rfl, rfl, rfl, hN, hH⟩
  · rw [if_neg hz, if_neg (by rw [hsd]; exact hz)]
    obtain ⟨t', g, s', e1, e2, e3, e4, e5⟩ := restore_both hH hz (sw, hw, re, pr, na, wa, bl, up, cl, zo, pl, no, ne) now
    have e1 : fX2_restoreTo hn ho hs sw hw re pr na wa bl up cl zo pl no ne = some (s', t') := e1
    rw [e1, bs, bs, e2, bd_eq, e3, bs]
    exact ⟨_, _, rfl, rfl, rfl, e4, e5⟩
theorem op_keep {sw hw re : Int32} {pr na wa bl up cl zo pl no ne : Nat → Int32} {now images isK : Nat → Int32} {bn : Nat → NetT} {bk : Int32} (hN : NR (sw, hw, re, pr, na, wa, bl, up, cl, zo, pl, no, ne) now) (hA : AR bn bk images isK) (p1 : Int32) :
    ∃ z7 z8, fX7_keep sw hw re pr na wa bl up cl zo pl no ne bn bk p1 = some z7 ∧ fX8_keep now images isK p1 = some z8 ∧ z7.1 = z8.1 ∧ AR z7.2.1 z7.2.2 z8.2.1 z8.2.2 := by
  obtain ⟨m, k, hI, hR⟩ := id hN
  obtain ⟨⟨h0, h1, hm, hk, h2⟩, hD, hNm, hP, ⟨uB, uS, uI, uZ⟩, ⟨cB, cS, cI, cZ⟩, hZ, hU⟩ := id hI
  obtain ⟨r1, r2, r3, r4, r5, r6, r7, r8, r9, r10, r11, r12, r13⟩ := id hR
  obtain rfl : sw = nI m := r1
  obtain rfl : hw = nI k := r2
  have r3 : re = now 2 := r3
  have r4 : ∀ a, a < m → pr a = now (3 + 4 * a) := r4
  have r5 : ∀ a, a < m → na a = now (4 + 4 * a) := r5
  have r6 : ∀ a, a < m → wa a = now (5 + 4 * a) := r6
  have r7 : ∀ a, a < m → bl a = now (6 + 4 * a) := r7
  have r8 : ∀ a, a < m → up a = now (35 + a) := r8
  have r9 : ∀ a, a < m → cl a = now (41 + a) := r9
  have r10 : ∀ a, a < m → ∀ z, z < 4 → zo (4 * a + z) = now (47 + 4 * a + z) := r10
  have r11 : ∀ h, h < k → pl h = now (27 + h) := r11
  have r12 : ∀ h, h < k → no h = now (71 + h) := r12
  have r13 : ∀ h, h < k → ne h = now (79 + h) := r13
  unfold fX7_keep fX8_keep
  rcases in_cases p1 0 1 with ⟨e3, b1', b2'⟩ | ⟨e3, hb⟩
  · obtain ⟨i, hi, rfl⟩ : ∃ i, i < 2 ∧ p1 = nI i := by
      rw [fa_le, show (0 : Int32).toInt = 0 from by decide] at b1'
      rw [fa_le, show (1 : Int32).toInt = 1 from by decide] at b2'
      obtain ⟨j, hj, e⟩ := toNI b1' (m := 1) b2'
      exact ⟨j, by omega, e⟩
    obtain ⟨n', k', i', q1, q2, q3⟩ := store_both hA hN hi
    have q1 : fX0_store bn bk (nI m) (nI k) re pr na wa bl up cl zo pl no ne (nI i) = some (n', k') := q1
    rw [e3, bs, if10, if_neg (ge_nlt b1'), l2, if_pos (nI_lt hi (by decide)), q1, q2, bs, bs, gd_t (inB_nI hi (by decide)), bd_eq, nI_N (by omega), X3_fabricTotal hm uB uS r8, X8_fabrics hm h0, bs, bs]
    exact ⟨_, _, rfl, rfl, rfl, q3⟩
  · rw [e3, bs, if00]
    refine ⟨((-1), bn, bk), _, ?_, rfl, rfl, hA⟩
    by_cases h3 : p1 < 0
    · rw [if_pos h3]
    · rw [if_neg h3, if_neg (fun h4 => by
        have h5 := hb.resolve_left h3
        rw [fa_lt, show (2 : Int32).toInt = 2 from by decide] at h4
        rw [fa_lt, show (1 : Int32).toInt = 1 from by decide] at h5
        omega)]
theorem op_back {sw hw re : Int32} {pr na wa bl up cl zo pl no ne : Nat → Int32} {now images isK : Nat → Int32} {bn : Nat → NetT} {bk : Int32} {hn : Nat → NetT} {ho hs deeds : Int32} {past : Nat → Int32} (hN : NR (sw, hw, re, pr, na, wa, bl, up, cl, zo, pl, no, ne) now) (hH : HR hn ho hs past deeds) (hA : AR bn bk images isK) (p1 : Int32) :
    ∃ z7 z8, fX7_back sw hw re pr na wa bl up cl zo pl no ne hs bn bk p1 = some z7 ∧ fX8_back now deeds images isK p1 = some z8 ∧ z7.1 = z8.1 ∧
      NR (z7.2.1, z7.2.2.1, z7.2.2.2.1, z7.2.2.2.2.1, z7.2.2.2.2.2.1, z7.2.2.2.2.2.2.1, z7.2.2.2.2.2.2.2.1, z7.2.2.2.2.2.2.2.2.1, z7.2.2.2.2.2.2.2.2.2.1, z7.2.2.2.2.2.2.2.2.2.2.1, z7.2.2.2.2.2.2.2.2.2.2.2.1, z7.2.2.2.2.2.2.2.2.2.2.2.2.1, z7.2.2.2.2.2.2.2.2.2.2.2.2.2.1) z8.2.1 ∧ HR hn ho z7.2.2.2.2.2.2.2.2.2.2.2.2.2.2 past z8.2.2 := by
  unfold fX7_back fX8_back
  rcases in_cases p1 0 1 with ⟨e3, b1', b2'⟩ | ⟨e3, hb⟩
  · obtain ⟨i, hi, rfl⟩ : ∃ i, i < 2 ∧ p1 = nI i := by
      rw [fa_le, show (0 : Int32).toInt = 0 from by decide] at b1'
      rw [fa_le, show (1 : Int32).toInt = 1 from by decide] at b2'
      obtain ⟨j, hj, e⟩ := toNI b1' (m := 1) b2'
      exact ⟨j, by omega, e⟩
    rw [e3, bs, if10, if_neg (ge_nlt b1'), l2, if_pos (nI_lt hi (by decide)), X0_holds hi, bs, gd_t (inB_nI hi (by decide)), nI_N (by omega), (hA i hi).1]
    cases hb : bt bk i
    · rw [ifb_f, ifb_f]
      exact ⟨_, _, rfl, rfl, rfl, hN, hH⟩
    · rw [ifb_t, ifb_t]
      obtain ⟨t', g, e1, e2, e4⟩ := bring_image hA hi hb (sw, hw, re, pr, na, wa, bl, up, cl, zo, pl, no, ne) now
      have e1 : fX0_restoreTo bn bk sw hw re pr na wa bl up cl zo pl no ne (nI i) = some t' := e1
      obtain ⟨m, k, hI, hR⟩ := id e4
      have ft : fX3_fabricTotal t'.1 t'.2.2.2.2.2.2.2.1 = some (nI (fabs m (UPr g))) := by
        rw [hR.1]
        exact X3_fabricTotal hI.1.2.2.1 hI.2.2.2.2.1.1 hI.2.2.2.2.1.2.1 hR.2.2.2.2.2.2.2.1
      rw [e1, e2, bs, bs, ft, X8_fabrics hI.1.2.2.1 hI.1.1, bs]
      refine ⟨_, _, rfl, rfl, rfl, e4, ?_⟩
      obtain ⟨o, d, ho', -, h1, -⟩ := hH
      exact ⟨o, 0, ho', by omega, h1, rfl, rfl, fun i hi => by omega⟩
  · rw [e3, bs, if00]
    refine ⟨((-1), (sw, hw, re, pr, na, wa, bl, up, cl, zo, pl, no, ne).1, (sw, hw, re, pr, na, wa, bl, up, cl, zo, pl, no, ne).2.1, (sw, hw, re, pr, na, wa, bl, up, cl, zo, pl, no, ne).2.2.1, (sw, hw, re, pr, na, wa, bl, up, cl, zo, pl, no, ne).2.2.2.1, (sw, hw, re, pr, na, wa, bl, up, cl, zo, pl, no, ne).2.2.2.2.1, (sw, hw, re, pr, na, wa, bl, up, cl, zo, pl, no, ne).2.2.2.2.2.1, (sw, hw, re, pr, na, wa, bl, up, cl, zo, pl, no, ne).2.2.2.2.2.2.1, (sw, hw, re, pr, na, wa, bl, up, cl, zo, pl, no, ne).2.2.2.2.2.2.2.1, (sw, hw, re, pr, na, wa, bl, up, cl, zo, pl, no, ne).2.2.2.2.2.2.2.2.1, (sw, hw, re, pr, na, wa, bl, up, cl, zo, pl, no, ne).2.2.2.2.2.2.2.2.2.1, (sw, hw, re, pr, na, wa, bl, up, cl, zo, pl, no, ne).2.2.2.2.2.2.2.2.2.2.1, (sw, hw, re, pr, na, wa, bl, up, cl, zo, pl, no, ne).2.2.2.2.2.2.2.2.2.2.2.1, (sw, hw, re, pr, na, wa, bl, up, cl, zo, pl, no, ne).2.2.2.2.2.2.2.2.2.2.2.2, hs), _, ?_, rfl, rfl, hN, hH⟩
    by_cases h3 : p1 < 0
    · rw [if_pos h3]
    · rw [if_neg h3, if_neg (fun h4 => by
        have h5 := hb.resolve_left h3
        rw [fa_lt, show (2 : Int32).toInt = 2 from by decide] at h4
        rw [fa_lt, show (1 : Int32).toInt = 1 from by decide] at h5
        omega)]
