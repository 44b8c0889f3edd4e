/-! copies: nets and rows; what can be undone; images -/
theorem Inv_cg {f g : Nat → Int32} {n k : Nat} (h : ∀ x, x < 87 → g x = f x) (hI : Inv f n k) : Inv g n k := by
  obtain ⟨⟨h0, h1, hn, hk, h2⟩, hD, hN, hP, ⟨u1, u2, u3, u4⟩, ⟨c1, c2, c3, c4⟩, hZ, hU⟩ := hI
  have eu : ∀ a, a < n → UPr g a = UPr f a := fun a ha => h (35 + a) (by omega)
  have ec : ∀ a, a < n → CLr g a = CLr f a := fun a ha => h (41 + a) (by omega)
  refine ⟨⟨by rw [h 0 (by omega)]; exact h0, by rw [h 1 (by omega)]; exact h1, hn, hk, by rw [h 2 (by omega)]; exact h2⟩, fun a ha => ?_, fun a b ha hb e => ?_, fun i hi => ?_, ⟨fun a ha i hi => ?_, fun a b ha hb e => ?_, fun a ha => ?_, fun a ha h6 => ?_⟩, ⟨fun a ha i hi => ?_, fun a b ha hb e => ?_, fun a ha => ?_, fun a ha h6 => ?_⟩, fun a ha z hz i hi => ?_, fun a b ha hc z hz => ?_⟩
  · rw [h _ (by omega), h _ (by omega), h _ (by omega), h _ (by omega)]; exact hD a ha
  · rw [h _ (by omega), h _ (by omega)] at e; exact hN a b ha hb e
  · rw [h _ (by omega)]; exact hP i hi
  · rw [eu a ha] at hi; exact u1 a ha i hi
  · rw [eu a ha] at e; rw [eu b hb]; exact u2 a b ha hb e
  · rw [eu a ha]; exact u3 a ha
  · exact (h (35 + a) (by omega)).trans (u4 a ha h6)
  · rw [ec a ha] at hi; exact c1 a ha i hi
  · rw [ec a ha] at e; rw [ec b hb]; exact c2 a b ha hb e
  · rw [ec a ha]; exact c3 a ha
  · exact (h (41 + a) (by omega)).trans (c4 a ha h6)
  · rw [h _ (by omega)] at hi; exact hZ a ha z hz i hi
  · have hc' : Cnn n (UPr f) a b := (Cnn_cg eu).mp hc
    have hb := hc'.bd hn u1 ha
    rw [h _ (by omega), h _ (by omega)]
    exact hU a b ha hc' z hz
theorem RN_cg {t : NetT} {f g : Nat → Int32} {n k : Nat} (hn : n ≤ 6) (hk : k ≤ 8) (h : ∀ x, x < 87 → g x = f x) (hR : RN t f n k) : RN t g n k := by
  obtain ⟨r1, r2, r3, r4, r5, r6, r7, r8, r9, r10, r11, r12, r13⟩ := hR
  refine ⟨r1, r2, by rw [h 2 (by omega)]; exact r3, fun a ha => ?_, fun a ha => ?_, fun a ha => ?_, fun a ha => ?_, fun a ha => ?_, fun a ha => ?_, fun a ha z hz => ?_, fun a ha => ?_, fun a ha => ?_, fun a ha => ?_⟩
  · rw [h _ (by omega)]; exact r4 a ha
  · rw [h _ (by omega)]; exact r5 a ha
  · rw [h _ (by omega)]; exact r6 a ha
  · rw [h _ (by omega)]; exact r7 a ha
  · rw [h _ (by omega)]; exact r8 a ha
  · rw [h _ (by omega)]; exact r9 a ha
  · rw [h _ (by omega)]; exact r10 a ha z hz
  · rw [h _ (by omega)]; exact r11 a ha
  · rw [h _ (by omega)]; exact r12 a ha
  · rw [h _ (by omega)]; exact r13 a ha
theorem X3_copyRow {m : Nat} (hm : m < 400) (d c : Nat → Int32) : ∃ c', fX3_copyRow m m d c = some c' ∧ ∀ x, x < m → c' x = d x := by
  obtain ⟨w', e1, e2⟩ := cle m (fun fu (w : Nat → Int32) i => fX3_copyRow_L1 m m d fu (nI i) w) (fun w i => upd w i (d i)) (fun w => (nI m, w)) (fun w i => ∀ x, x < i → w x = d x)
    (by intro fu s _
        show fX3_copyRow_L1 m m d (fu + 1) (nI m) s = _
        rw [fX3_copyRow_L1.eq_2, if_pos (show Int32.ofNat m ≤ nI m from nI_le (Nat.le_refl m) (by omega))])
    (by intro fu s i hi hs
        show fX3_copyRow_L1 m m d (fu + 1) (nI i) s = fX3_copyRow_L1 m m d fu (nI (i + 1)) _ ∧ _
        rw [fX3_copyRow_L1.eq_2, if_neg (show ¬ Int32.ofNat m ≤ nI i from nI_ge hi (by omega)), if_neg (show ¬ Int32.ofNat m ≤ nI i from nI_ge hi (by omega)), gd_t (inB_nI hi (by omega)), gd_t (inB_nI hi (by omega)), bd_eq, bd_eq, nI_1, nI_N (by omega)]
        refine ⟨rfl, fun x hx => ?_⟩
        by_cases hq : x = i
        · subst hq; rw [pk_us]
        · rw [pk_un hq]; exact hs x (by omega))
    c 500 (by omega) (fun x hx => by omega)
  have e1 : fX3_copyRow_L1 m m d 500 0 c = _ := e1
  refine ⟨w', ?_, e2⟩
  unfold fX3_copyRow
  rw [e1, bs]
theorem X3_copyFrom (c1 c2 c3 c4 c5 c6 c7 c8 c9 c10 : Nat → Int32) (d : NetT) (hre : d.2.2.1 = 0 ∨ d.2.2.1 = 1) :
    ∃ t : NetT, fX3_copyFrom c1 c2 c3 c4 c5 c6 c7 c8 c9 c10 d.1 d.2.1 d.2.2.1 d.2.2.2.1 d.2.2.2.2.1 d.2.2.2.2.2.1 d.2.2.2.2.2.2.1 d.2.2.2.2.2.2.2.1 d.2.2.2.2.2.2.2.2.1 d.2.2.2.2.2.2.2.2.2.1 d.2.2.2.2.2.2.2.2.2.2.1 d.2.2.2.2.2.2.2.2.2.2.2.1 d.2.2.2.2.2.2.2.2.2.2.2.2 = some t ∧ t.2.2.1 = d.2.2.1 ∧ ∀ f n k, n ≤ 6 → k ≤ 8 → RN d f n k → RN t f n k := by
  obtain ⟨z1, e1, q1⟩ := X3_copyRow (m := 6) (by decide) d.2.2.2.1 c1
  obtain ⟨z2, e2, q2⟩ := X3_copyRow (m := 6) (by decide) d.2.2.2.2.1 c2
  obtain ⟨z3, e3, q3⟩ := X3_copyRow (m := 6) (by decide) d.2.2.2.2.2.1 c3
  obtain ⟨z4, e4, q4⟩ := X3_copyRow (m := 6) (by decide) d.2.2.2.2.2.2.1 c4
  obtain ⟨z5, e5, q5⟩ := X3_copyRow (m := 6) (by decide) d.2.2.2.2.2.2.2.1 c5
  obtain ⟨z6, e6, q6⟩ := X3_copyRow (m := 6) (by decide) d.2.2.2.2.2.2.2.2.1 c6
  obtain ⟨z7, e7, q7⟩ := X3_copyRow (m := 24) (by decide) d.2.2.2.2.2.2.2.2.2.1 c7
  obtain ⟨z8, e8, q8⟩ := X3_copyRow (m := 8) (by decide) d.2.2.2.2.2.2.2.2.2.2.1 c8
  obtain ⟨z9, e9, q9⟩ := X3_copyRow (m := 8) (by decide) d.2.2.2.2.2.2.2.2.2.2.2.1 c9
  obtain ⟨z10, e10, q10⟩ := X3_copyRow (m := 8) (by decide) d.2.2.2.2.2.2.2.2.2.2.2.2 c10
  refine ⟨(d.1, d.2.1, d.2.2.1, z1, z2, z3, z4, z5, z6, z7, z8, z9, z10), ?_, rfl, ?_⟩
  · unfold fX3_copyFrom
    rw [gd_t hre, e1, bs, e2, bs, e3, bs, e4, bs, e5, bs, e6, bs, e7, bs, e8, bs, e9, bs, e10, bs]
  · intro f n k hn hk hR
    obtain ⟨r1, r2, r3, r4, r5, r6, r7, r8, r9, r10, r11, r12, r13⟩ := hR
    exact ⟨r1, r2, r3, fun a ha => (q1 a (by omega)).trans (r4 a ha), fun a ha => (q2 a (by omega)).trans (r5 a ha), fun a ha => (q3 a (by omega)).trans (r6 a ha), fun a ha => (q4 a (by omega)).trans (r7 a ha), fun a ha => (q5 a (by omega)).trans (r8 a ha), fun a ha => (q6 a (by omega)).trans (r9 a ha), fun a ha z hz => (q7 _ (by omega)).trans (r10 a ha z hz), fun a ha => (q8 a (by omega)).trans (r11 a ha), fun a ha => (q9 a (by omega)).trans (r12 a ha), fun a ha => (q10 a (by omega)).trans (r13 a ha)⟩
theorem X8_bring {nf ng i j : Nat} (hi : i + 87 ≤ nf) (hj : j + 87 ≤ ng) (hf : nf < 1000) (hg : ng < 1000) (src dst : Nat → Int32) : ∃ g, fX8_bring nf ng src dst (nI i) (nI j) = some g ∧ (∀ x, x < 87 → g (j + x) = src (i + x)) ∧ ∀ y, y < j ∨ j + 87 ≤ y → g y = dst y := by
  obtain ⟨w', e1, e2, e3⟩ := cle 87 (fun fu (w : Nat → Int32) m => fX8_bring_L1 nf ng src (nI i) (nI j) fu (nI m) w) (fun w m => upd w (j + m) (src (i + m))) (fun w => (nI 87, w)) (fun w m => (∀ x, x < m → w (j + x) = src (i + x)) ∧ ∀ y, y < j ∨ j + 87 ≤ y → w y = dst y)
    (by intro fu s _
        show fX8_bring_L1 nf ng src (nI i) (nI j) (fu + 1) (nI 87) s = _
        rw [fX8_bring_L1.eq_2, if_pos (by decide)])
    (by intro fu s m hm hs
        show fX8_bring_L1 nf ng src (nI i) (nI j) (fu + 1) (nI m) s = fX8_bring_L1 nf ng src (nI i) (nI j) fu (nI (m + 1)) _ ∧ _
        rw [fX8_bring_L1.eq_2, l87, if_neg (nI_ge hm (by decide)), nI_add, nI_add, gd_t (inB_nI (by omega) (by omega)), gd_t (inB_nI (by omega) (by omega)), bd_eq, bd_eq, nI_1, nI_N (by omega), nI_N (by omega)]
        refine ⟨rfl, fun x hx => ?_, fun y hy => ?_⟩
        · by_cases hq : x = m
          · subst hq; rw [pk_us]
          · rw [pk_un (by omega)]; exact hs.1 x (by omega)
        · rw [pk_un (by omega)]; exact hs.2 y hy)
    dst 500 (by omega) ⟨fun x hx => by omega, fun _ _ => rfl⟩
  have e1 : fX8_bring_L1 nf ng src (nI i) (nI j) 500 0 dst = _ := e1
  refine ⟨w', ?_, e2, e3⟩
  unfold fX8_bring
  rw [e1, bs]
/-- a row among rows -/
abbrev sl8 (p : Nat → Int32) (i : Nat) : Nat → Int32 := fun x => p (87 * i + x)
/-- a net and a row that tell the same, and are as they must be -/
def NR (t : NetT) (f : Nat → Int32) : Prop := ∃ n k, Inv f n k ∧ RN t f n k
theorem NR_cg {t : NetT} {f g : Nat → Int32} (h : ∀ x, x < 87 → g x = f x) (hR : NR t f) : NR t g := by
  obtain ⟨n, k, hI, hR⟩ := hR
  exact ⟨n, k, Inv_cg h hI, RN_cg hI.1.2.2.1 hI.1.2.2.2.1 h hR⟩
theorem NR.re {t : NetT} {f : Nat → Int32} (h : NR t f) : t.2.2.1 = 0 ∨ t.2.2.1 = 1 := by
  obtain ⟨n, k, hI, hR⟩ := h
  rw [hR.2.2.1]
  exact hI.1.2.2.2.2
/-- what can be undone -/
def HR (nets : Nat → NetT) (oldest size : Int32) (past : Nat → Int32) (deeds : Int32) : Prop := ∃ o d, o < 5 ∧ d ≤ 5 ∧ oldest = nI o ∧ size = nI d ∧ deeds = nI d ∧ ∀ i, i < d → NR (nets ((o + i) % 5)) (sl8 past i)
theorem rem5 {a : Nat} (ha : a < 1000) : nI a - nI a / 5 * 5 = nI (a % 5) := pk_rem (by omega) (by decide) (by decide)
theorem note_shift (past : Nat → Int32) : ∃ g, fX8_note_L1 500 0 past = some (nI 348, g) ∧ ∀ x, x < 348 → g x = past (x + 87) := by
  obtain ⟨w', e1, e2, -⟩ := cle 348 (fun fu (w : Nat → Int32) m => fX8_note_L1 fu (nI m) w) (fun w m => upd w m (past (m + 87))) (fun w => (nI 348, w)) (fun w m => (∀ x, x < m → w x = past (x + 87)) ∧ ∀ x, m ≤ x → w x = past x)
    (by intro fu s _
        show fX8_note_L1 (fu + 1) (nI 348) s = _
        rw [fX8_note_L1.eq_2, if_pos (by decide)])
    (by intro fu s m hm hs
        show fX8_note_L1 (fu + 1) (nI m) s = fX8_note_L1 fu (nI (m + 1)) _ ∧ _
        rw [fX8_note_L1.eq_2, show (348 : Int32) = nI 348 from rfl, if_neg (nI_ge hm (by decide)), l87, nI_add, gd_t (inB_nI (by omega) (by omega)), gd_t (inB_nI (by omega) (by omega)), bd_eq, bd_eq, nI_1, nI_N (by omega), nI_N (by omega), hs.2 (m + 87) (by omega)]
        refine ⟨rfl, fun x hx => ?_, fun y hy => ?_⟩
        · by_cases hq : x = m
          · subst hq; rw [pk_us]
          · rw [pk_un (by omega)]; exact hs.1 x (by omega)
        · rw [pk_un (by omega)]; exact hs.2 y (by omega))
    past 500 (by omega) ⟨fun x hx => by omega, fun _ _ => rfl⟩
  exact ⟨w', e1, e2⟩
theorem remember_both {nets : Nat → NetT} {oldest size deeds : Int32} {past : Nat → Int32} (hH : HR nets oldest size past deeds) {t : NetT} {f : Nat → Int32} (ht : NR t f) :
    ∃ nets' oldest' size' past' deeds', fX2_remember nets oldest size t.1 t.2.1 t.2.2.1 t.2.2.2.1 t.2.2.2.2.1 t.2.2.2.2.2.1 t.2.2.2.2.2.2.1 t.2.2.2.2.2.2.2.1 t.2.2.2.2.2.2.2.2.1 t.2.2.2.2.2.2.2.2.2.1 t.2.2.2.2.2.2.2.2.2.2.1 t.2.2.2.2.2.2.2.2.2.2.2.1 t.2.2.2.2.2.2.2.2.2.2.2.2 = some (nets', oldest', size') ∧ fX8_note f past deeds = some (past', deeds') ∧ HR nets' oldest' size' past' deeds' := by
  obtain ⟨o, d, ho, hd, rfl, rfl, rfl, hN⟩ := hH
  obtain ⟨n, k, hI, hR⟩ := id ht
  have hn := hI.1.2.2.1
  have hk := hI.1.2.2.2.1
  by_cases h5 : d = 5
  · subst h5
    obtain ⟨p1, e1, q1⟩ := note_shift past
    obtain ⟨p2, e2, q2, q3⟩ := X8_bring (nf := 87) (ng := 435) (i := 0) (j := 348) (by omega) (by omega) (by omega) (by omega) f p1
    have e2 : fX8_bring 87 435 f p1 0 (87 * nI 4) = some p2 := e2
    have hix : ((o + 1) % 5 + 4) % 5 = o := by omega
    obtain ⟨t', e3, -, q4⟩ := X3_copyFrom (nets o).2.2.2.1 (nets o).2.2.2.2.1 (nets o).2.2.2.2.2.1 (nets o).2.2.2.2.2.2.1 (nets o).2.2.2.2.2.2.2.1 (nets o).2.2.2.2.2.2.2.2.1 (nets o).2.2.2.2.2.2.2.2.2.1 (nets o).2.2.2.2.2.2.2.2.2.2.1 (nets o).2.2.2.2.2.2.2.2.2.2.2.1 (nets o).2.2.2.2.2.2.2.2.2.2.2.2 t ht.re
    refine ⟨updN nets o t', nI ((o + 1) % 5), nI 5, p2, nI 5, ?_, ?_, (o + 1) % 5, 5, by omega, by omega, rfl, rfl, rfl, fun i hi => ?_⟩
    · unfold fX2_remember
      rw [if_pos (show nI 5 = 5 from rfl), bd_eq, nI_1, rem5 (by omega), show nI 5 - 1 = nI 4 from rfl, bd_eq, nI_add, rem5 (by omega), hix, gd_t (inB_nI ho (by decide)), nI_N (by omega), e3, bs, bd_eq, bd_eq]
      rfl
    · unfold fX8_note
      rw [if_pos (show nI 5 = 5 from rfl), e1, bs, show nI 5 - 1 = nI 4 from rfl, bd_eq, e2, bs, bd_eq]
      rfl
    · by_cases hq : i = 4
      · subst hq
        rw [hix, updN_s]
        refine ⟨n, k, Inv_cg (f := f) (fun x hx => ?_) hI, RN_cg hn hk (f := f) (fun x hx => ?_) (q4 f n k hn hk hR)⟩
        · exact (q2 x hx).trans (by rw [Nat.zero_add])
        · exact (q2 x hx).trans (by rw [Nat.zero_add])
      · have hne : ((o + 1) % 5 + i) % 5 ≠ o := by omega
        rw [updN_n _ _ hne, show ((o + 1) % 5 + i) % 5 = (o + (i + 1)) % 5 by omega]
        refine NR_cg (fun x hx => ?_) (hN (i + 1) (by omega))
        show p2 (87 * i + x) = past (87 * (i + 1) + x)
        rw [q3 (87 * i + x) (by omega), q1 (87 * i + x) (by omega)]
        exact congrArg past (by omega)
  · have h5' : ¬ nI d = 5 := fun e => h5 (nI_inj (by omega) (by decide) e)
    obtain ⟨p2, e2, q2, q3⟩ := X8_bring (nf := 87) (ng := 435) (i := 0) (j := 87 * d) (by omega) (by omega) (by omega) (by omega) f past
    have e2 : fX8_bring 87 435 f past 0 (nI (87 * d)) = some p2 := e2
    obtain ⟨t', e3, -, q4⟩ := X3_copyFrom (nets ((o + d) % 5)).2.2.2.1 (nets ((o + d) % 5)).2.2.2.2.1 (nets ((o + d) % 5)).2.2.2.2.2.1 (nets ((o + d) % 5)).2.2.2.2.2.2.1 (nets ((o + d) % 5)).2.2.2.2.2.2.2.1 (nets ((o + d) % 5)).2.2.2.2.2.2.2.2.1 (nets ((o + d) % 5)).2.2.2.2.2.2.2.2.2.1 (nets ((o + d) % 5)).2.2.2.2.2.2.2.2.2.2.1 (nets ((o + d) % 5)).2.2.2.2.2.2.2.2.2.2.2.1 (nets ((o + d) % 5)).2.2.2.2.2.2.2.2.2.2.2.2 t ht.re
    refine ⟨updN nets ((o + d) % 5) t', nI o, nI (d + 1), p2, nI (d + 1), ?_, ?_, o, d + 1, ho, by omega, rfl, rfl, rfl, fun i hi => ?_⟩
    · unfold fX2_remember
      rw [if_neg h5', nI_add, rem5 (by omega), gd_t (inB_nI (by omega) (by decide)), nI_N (by omega), e3, bs, bd_eq, bd_eq, nI_1]
    · unfold fX8_note
      rw [if_neg h5', l87, pk_mul, e2, bs, bd_eq, nI_1]
    · by_cases hq : i = d
      · subst hq
        rw [updN_s]
        refine ⟨n, k, Inv_cg (f := f) (fun x hx => ?_) hI, RN_cg hn hk (f := f) (fun x hx => ?_) (q4 f n k hn hk hR)⟩
        · exact (q2 x hx).trans (by rw [Nat.zero_add])
        · exact (q2 x hx).trans (by rw [Nat.zero_add])
      · have hne : (o + i) % 5 ≠ (o + d) % 5 := by omega
        rw [updN_n _ _ hne]
        refine NR_cg (fun x hx => ?_) (hN i (by omega))
        show p2 (87 * i + x) = past (87 * i + x)
        rw [q3 _ (by omega)]
/-- images -/
def AR (nets : Nat → NetT) (kept : Int32) (images isK : Nat → Int32) : Prop := ∀ i, i < 2 → isK i = bi (bt kept i) ∧ (bt kept i = true → NR (nets i) (sl8 images i))
theorem restore_both {nets : Nat → NetT} {oldest size deeds : Int32} {past : Nat → Int32} (hH : HR nets oldest size past deeds) (h0 : ¬ deeds = 0) (t : NetT) (now : Nat → Int32) :
    ∃ (t' : NetT) (g : Nat → Int32) (s' : Int32), fX2_restoreTo nets oldest size t.1 t.2.1 t.2.2.1 t.2.2.2.1 t.2.2.2.2.1 t.2.2.2.2.2.1 t.2.2.2.2.2.2.1 t.2.2.2.2.2.2.2.1 t.2.2.2.2.2.2.2.2.1 t.2.2.2.2.2.2.2.2.2.1 t.2.2.2.2.2.2.2.2.2.2.1 t.2.2.2.2.2.2.2.2.2.2.2.1 t.2.2.2.2.2.2.2.2.2.2.2.2 = some (s', t') ∧ deeds - 1 = s' ∧ fX8_bring 435 87 past now (87 * s') 0 = some g ∧ NR t' g ∧ HR nets oldest s' past s' := by
  obtain ⟨o, d, ho, hd, rfl, rfl, rfl, hN⟩ := hH
  have hd0 : 0 < d := by
    rcases Nat.eq_zero_or_pos d with h | h
    · subst h; exact absurd rfl h0
    · exact h
  obtain ⟨e, rfl⟩ : ∃ e, d = e + 1 := ⟨d - 1, by omega⟩
  obtain ⟨n, k, hI, hR⟩ := id (hN e (by omega))
  have hn := hI.1.2.2.1
  have hk := hI.1.2.2.2.1
  obtain ⟨g, e2, q2, q3⟩ := X8_bring (nf := 435) (ng := 87) (i := 87 * e) (j := 0) (by omega) (by omega) (by omega) (by omega) past now
  have e2 : fX8_bring 435 87 past now (nI (87 * e)) 0 = some g := e2
  obtain ⟨t', e3, -, q4⟩ := X3_copyFrom t.2.2.2.1 t.2.2.2.2.1 t.2.2.2.2.2.1 t.2.2.2.2.2.2.1 t.2.2.2.2.2.2.2.1 t.2.2.2.2.2.2.2.2.1 t.2.2.2.2.2.2.2.2.2.1 t.2.2.2.2.2.2.2.2.2.2.1 t.2.2.2.2.2.2.2.2.2.2.2.1 t.2.2.2.2.2.2.2.2.2.2.2.2 (nets ((o + e) % 5)) (hN e (by omega)).re
  have hg : ∀ x, x < 87 → g x = sl8 past e x := fun x hx => by have := q2 x hx; rw [Nat.zero_add] at this; exact this
  refine ⟨t', g, nI e, ?_, nI_pred e, ?_, ⟨n, k, Inv_cg hg hI, RN_cg hn hk hg (q4 _ n k hn hk hR)⟩, o, e, ho, by omega, rfl, rfl, rfl, fun i hi => hN i (by omega)⟩
  · unfold fX2_restoreTo
    rw [if_neg (nI_nle (by omega) (by omega)), bd_eq, nI_pred, nI_add, rem5 (by omega), gd_t (inB_nI (by omega) (by decide)), nI_N (by omega), e3, bs]
  · rw [l87, pk_mul]; exact e2
theorem store_both {nets : Nat → NetT} {kept : Int32} {images isK : Nat → Int32} (hA : AR nets kept images isK) {t : NetT} {f : Nat → Int32} (ht : NR t f) {i : Nat} (hi : i < 2) :
    ∃ nets' kept' images', fX0_store nets kept t.1 t.2.1 t.2.2.1 t.2.2.2.1 t.2.2.2.2.1 t.2.2.2.2.2.1 t.2.2.2.2.2.2.1 t.2.2.2.2.2.2.2.1 t.2.2.2.2.2.2.2.2.1 t.2.2.2.2.2.2.2.2.2.1 t.2.2.2.2.2.2.2.2.2.2.1 t.2.2.2.2.2.2.2.2.2.2.2.1 t.2.2.2.2.2.2.2.2.2.2.2.2 (nI i) = some (nets', kept') ∧ fX8_bring 87 174 f images 0 (87 * nI i) = some images' ∧ AR nets' kept' images' (upd isK i 1) := by
  obtain ⟨n, k, hI, hR⟩ := id ht
  have hn := hI.1.2.2.1
  have hk := hI.1.2.2.2.1
  obtain ⟨g, e2, q2, q3⟩ := X8_bring (nf := 87) (ng := 174) (i := 0) (j := 87 * i) (by omega) (by omega) (by omega) (by omega) f images
  have e2 : fX8_bring 87 174 f images 0 (nI (87 * i)) = some g := e2
  obtain ⟨t', e3, -, q4⟩ := X3_copyFrom (nets i).2.2.2.1 (nets i).2.2.2.2.1 (nets i).2.2.2.2.2.1 (nets i).2.2.2.2.2.2.1 (nets i).2.2.2.2.2.2.2.1 (nets i).2.2.2.2.2.2.2.2.1 (nets i).2.2.2.2.2.2.2.2.2.1 (nets i).2.2.2.2.2.2.2.2.2.2.1 (nets i).2.2.2.2.2.2.2.2.2.2.2.1 (nets i).2.2.2.2.2.2.2.2.2.2.2.2 t ht.re
  refine ⟨updN nets i t', kept ||| b1 i, g, ?_, ?_, fun j hj => ?_⟩
  · unfold fX0_store
    rw [if_neg (nI_pos (by omega)), l2, if_neg (nI_ge hi (by decide)), gd_t (inB_nI hi (by decide)), nI_N (by omega), e3, bs, bd_eq, bd_eq]
    rfl
  · rw [l87, pk_mul]; exact e2
  · by_cases hq : j = i
    · subst hq
      have hb : bt (kept ||| b1 j) j = true := by rw [b_or, b1_at (by omega), Bool.or_true]
      rw [pk_us, updN_s, hb]
      refine ⟨rfl, fun _ => ⟨n, k, Inv_cg (f := f) (fun x hx => ?_) hI, RN_cg hn hk (f := f) (fun x hx => ?_) (q4 f n k hn hk hR)⟩⟩
      · exact (q2 x hx).trans (by rw [Nat.zero_add])
      · exact (q2 x hx).trans (by rw [Nat.zero_add])
    · obtain ⟨a1, a2⟩ := hA j hj
      have hb : bt (kept ||| b1 i) j = bt kept j := by rw [b_or, b_b1 (by omega), decide_eq_false hq, Bool.or_false]
      rw [pk_un hq, updN_n _ _ hq, hb]
      refine ⟨a1, fun h => NR_cg (fun x hx => ?_) (a2 h)⟩
      show g (87 * j + x) = images (87 * j + x)
      rw [q3 _ (by omega)]
theorem X0_holds {kept : Int32} {i : Nat} (hi : i < 2) : fX0_holds kept (nI i) = some (bi (bt kept i)) := by
  unfold fX0_holds
  rw [if_neg (nI_pos (by omega)), l2, if_neg (nI_ge hi (by decide)), X7_has (by omega), bs]
  cases bt kept i <;> rfl
theorem bring_image {nets : Nat → NetT} {kept : Int32} {images isK : Nat → Int32} (hA : AR nets kept images isK) {i : Nat} (hi : i < 2) (hb : bt kept i = true) (t : NetT) (now : Nat → Int32) :
    ∃ (t' : NetT) (g : Nat → Int32), fX0_restoreTo nets kept t.1 t.2.1 t.2.2.1 t.2.2.2.1 t.2.2.2.2.1 t.2.2.2.2.2.1 t.2.2.2.2.2.2.1 t.2.2.2.2.2.2.2.1 t.2.2.2.2.2.2.2.2.1 t.2.2.2.2.2.2.2.2.2.1 t.2.2.2.2.2.2.2.2.2.2.1 t.2.2.2.2.2.2.2.2.2.2.2.1 t.2.2.2.2.2.2.2.2.2.2.2.2 (nI i) = some t' ∧ fX8_bring 174 87 images now (87 * nI i) 0 = some g ∧ NR t' g := by
  have hN := (hA i hi).2 hb
  obtain ⟨n, k, hI, hR⟩ := id hN
  have hn := hI.1.2.2.1
  have hk := hI.1.2.2.2.1
  obtain ⟨g, e2, q2, q3⟩ := X8_bring (nf := 174) (ng := 87) (i := 87 * i) (j := 0) (by omega) (by omega) (by omega) (by omega) images now
  have e2 : fX8_bring 174 87 images now (nI (87 * i)) 0 = some g := e2
  obtain ⟨t', e3, -, q4⟩ := X3_copyFrom t.2.2.2.1 t.2.2.2.2.1 t.2.2.2.2.2.1 t.2.2.2.2.2.2.1 t.2.2.2.2.2.2.2.1 t.2.2.2.2.2.2.2.2.1 t.2.2.2.2.2.2.2.2.2.1 t.2.2.2.2.2.2.2.2.2.2.1 t.2.2.2.2.2.2.2.2.2.2.2.1 t.2.2.2.2.2.2.2.2.2.2.2.2 (nets i) hN.re
  have hg : ∀ x, x < 87 → g x = sl8 images i x := fun x hx => by have := q2 x hx; rw [Nat.zero_add] at this; exact this
  refine ⟨t', g, ?_, ?_, n, k, Inv_cg hg hI, RN_cg hn hk hg (q4 _ n k hn hk hR)⟩
  · unfold fX0_restoreTo
    rw [X0_holds hi, hb, bs, ifb_t, gd_t (inB_nI hi (by decide)), nI_N (by omega), e3, bs]
  · rw [l87, pk_mul]; exact e2
