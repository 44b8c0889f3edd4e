/-! who sees whom, as the reference tells it -/
/-- all zones of a -/
def zall (f : Nat → Int32) (a : Nat) : Int32 := (List.range 4).foldl (fun w z => w ||| f (47 + 4 * a + z)) 0
theorem bt_zall (f : Nat → Int32) (a i : Nat) : bt (zall f a) i = true ↔ ∃ z, z < 4 ∧ bt (f (47 + 4 * a + z)) i = true := by
  have := fold_inv (fun w z => w ||| f (47 + 4 * a + z)) (fun w m => bt w i = true ↔ ∃ z, z < m ∧ bt (f (47 + 4 * a + z)) i = true) 4 0
    (by rw [b_0]; simp)
    (by intro w m hm ih
        rw [b_or, Bool.or_eq_true, ih]
        constructor
        · rintro (⟨z, h1, h2⟩ | h)
          · exact ⟨z, by omega, h2⟩
          · exact ⟨m, by omega, h⟩
        · rintro ⟨z, h1, h2⟩
          rcases Nat.lt_or_ge z m with h | h
          · exact Or.inl ⟨z, h, h2⟩
          · have : z = m := by omega
            subst this
            exact Or.inr h2)
  exact this
def inz (f : Nat → Int32) (a g h : Nat) : Bool := (List.range 4).any (fun z => bt (f (47 + 4 * a + z)) g && bt (f (47 + 4 * a + z)) h)
/-- in one zone, or there is none -/
def inone (f : Nat → Int32) (a g h : Nat) : Bool := decide (zall f a = 0) || inz f a g h
theorem inz_iff {f : Nat → Int32} {a g h : Nat} : inz f a g h = true ↔ ∃ z, z < 4 ∧ bt (f (47 + 4 * a + z)) g = true ∧ bt (f (47 + 4 * a + z)) h = true := by
  unfold inz
  rw [List.any_eq_true]
  constructor
  · rintro ⟨z, h1, h2⟩
    rw [Bool.and_eq_true] at h2
    exact ⟨z, List.mem_range.mp h1, h2⟩
  · rintro ⟨z, h1, h2⟩
    exact ⟨z, List.mem_range.mpr h1, by rw [Bool.and_eq_true]; exact h2⟩
theorem X8_zonesOf {f : Nat → Int32} {a : Nat} (ha : a < 6) : fX8_zonesOf f (nI a) = some (zall f a) := by
  unfold fX8_zonesOf
  have h := cl1 4 (fun fu w i => fX8_zonesOf_L1 f (nI a) fu w (nI i)) (fun w z => w ||| f (47 + 4 * a + z)) (fun w => (w, nI 4))
    (by intro fu s
        show fX8_zonesOf_L1 f (nI a) (fu + 1) s (nI 4) = _
        rw [fX8_zonesOf_L1.eq_2, if_pos (by decide)])
    (by intro fu s i hi
        show fX8_zonesOf_L1 f (nI a) (fu + 1) s (nI i) = fX8_zonesOf_L1 f (nI a) fu _ (nI (i + 1))
        rw [fX8_zonesOf_L1.eq_2, l4, if_neg (nI_ge hi (by decide)), X8_zoneOf ha hi, bs, bd_eq, bd_eq, nI_1])
    0 500 (by omega)
  have h : fX8_zonesOf_L1 f (nI a) 500 0 0 = _ := h
  rw [h, bs]
  rfl
theorem X8_one1 {f : Nat → Int32} {a g h : Nat} (ha : a < 6) (hg : g < 32) (hh : h < 32) (b : Bool) : fX8_areInOne_L1 f (nI a) (nI g) (nI h) 500 (bi b) 0 = some (bi (b || inz f a g h), nI 4) := by
  have h := cl1 4 (fun fu (w : Bool) i => fX8_areInOne_L1 f (nI a) (nI g) (nI h) fu (bi w) (nI i)) (fun w z => w || (bt (f (47 + 4 * a + z)) g && bt (f (47 + 4 * a + z)) h)) (fun w => (bi w, nI 4))
    (by intro fu s
        show fX8_areInOne_L1 f (nI a) (nI g) (nI h) (fu + 1) (bi s) (nI 4) = _
        rw [fX8_areInOne_L1.eq_2, if_pos (by decide)])
    (by intro fu s i hi
        show fX8_areInOne_L1 f (nI a) (nI g) (nI h) (fu + 1) (bi s) (nI i) = fX8_areInOne_L1 f (nI a) (nI g) (nI h) fu (bi _) (nI (i + 1))
        rw [fX8_areInOne_L1.eq_2, l4, if_neg (nI_ge hi (by decide))]
        cases s
        · rw [ifb_f, X8_zoneOf ha hi, bs, X8_has hg, bs, bs, X8_has hh, bs, Bool.false_or]
          cases bt (f (47 + 4 * a + i)) g
          · rw [ifb_f, bd_eq, nI_1]; rfl
          · rw [ifb_t]
            cases bt (f (47 + 4 * a + i)) h
            · rw [ifb_f, bd_eq, nI_1]; rfl
            · rw [ifb_t, bd_eq, nI_1]; rfl
        · rw [ifb_t, bd_eq, nI_1]; rfl)
    b 500 (by omega)
  have h : fX8_areInOne_L1 f (nI a) (nI g) (nI _) 500 (bi b) 0 = _ := h
  rw [h, fold_or]
  rfl
theorem X8_one2 {f : Nat → Int32} {a g h : Nat} (ha : a < 6) (hg : g < 32) (hh : h < 32) (b : Bool) : fX8_areInOne_L2 f (nI a) (nI g) (nI h) 500 (bi b) 0 = some (bi (b || inz f a g h), nI 4) := by
  have h := cl1 4 (fun fu (w : Bool) i => fX8_areInOne_L2 f (nI a) (nI g) (nI h) fu (bi w) (nI i)) (fun w z => w || (bt (f (47 + 4 * a + z)) g && bt (f (47 + 4 * a + z)) h)) (fun w => (bi w, nI 4))
    (by intro fu s
        show fX8_areInOne_L2 f (nI a) (nI g) (nI h) (fu + 1) (bi s) (nI 4) = _
        rw [fX8_areInOne_L2.eq_2, if_pos (by decide)])
    (by intro fu s i hi
        show fX8_areInOne_L2 f (nI a) (nI g) (nI h) (fu + 1) (bi s) (nI i) = fX8_areInOne_L2 f (nI a) (nI g) (nI h) fu (bi _) (nI (i + 1))
        rw [fX8_areInOne_L2.eq_2, l4, if_neg (nI_ge hi (by decide))]
        cases s
        · rw [ifb_f, X8_zoneOf ha hi, bs, X8_has hg, bs, bs, X8_has hh, bs, Bool.false_or]
          cases bt (f (47 + 4 * a + i)) g
          · rw [ifb_f, bd_eq, nI_1]; rfl
          · rw [ifb_t]
            cases bt (f (47 + 4 * a + i)) h
            · rw [ifb_f, bd_eq, nI_1]; rfl
            · rw [ifb_t, bd_eq, nI_1]; rfl
        · rw [ifb_t, bd_eq, nI_1]; rfl)
    b 500 (by omega)
  have h : fX8_areInOne_L2 f (nI a) (nI g) (nI _) 500 (bi b) 0 = _ := h
  rw [h, fold_or]
  rfl
theorem X8_areInOne {f : Nat → Int32} {a g h : Nat} (ha : a < 6) (hg : g < 32) (hh : h < 32) : fX8_areInOne f (nI a) (nI g) (nI h) = some (bi (inone f a g h)) := by
  unfold fX8_areInOne inone
  rw [X8_zonesOf ha, bs]
  by_cases hz : zall f a = 0
  · have e := X8_one2 (f := f) ha hg hh true
    rw [bi_t] at e
    rw [if_pos hz, decide_eq_true hz, e, bs, gd_t (bi_or _)]
  · have e := X8_one1 (f := f) ha hg hh false
    rw [bi_f] at e
    rw [if_neg hz, decide_eq_false hz, e, bs, gd_t (bi_or _)]
/-- the place of a host, where it is at one -/
abbrev pn (f : Nat → Int32) (h : Nat) : Nat := (f (27 + h)).toNatClampNeg
def see (n : Nat) (f : Nat → Int32) (g h : Nat) : Bool := !decide (g = h) && (!decide (f (27 + g) = -9) && (!decide (f (27 + h) = -9) && (bt (fab n (UPr f) (pn f g)) (pn f h) && inone f (pn f g) g h)))
theorem see_iff {n k : Nat} {f : Nat → Int32} (hP : RwP f n k) (hn : n ≤ 6) {g h : Nat} (hg : g < k) (hh : h < k) : see n f g h = true ↔ g ≠ h ∧ ∃ a b, a < n ∧ b < n ∧ f (27 + g) = nI a ∧ f (27 + h) = nI b ∧ Cnn n (UPr f) a b ∧ inone f a g h = true := by
  unfold see
  simp only [Bool.and_eq_true, Bool.not_eq_true', decide_eq_false_iff_not]
  constructor
  · rintro ⟨h1, h2, h3, h4, h5⟩
    rcases hP g hg with e | ⟨a, ha, e⟩
    · exact absurd e h2
    · rcases hP h hh with e2 | ⟨b, hb, e2⟩
      · exact absurd e2 h3
      · have p1 : pn f g = a := by unfold pn; rw [e, nI_N (by omega)]
        have p2 : pn f h = b := by unfold pn; rw [e2, nI_N (by omega)]
        rw [p1, p2] at h4
        rw [p1] at h5
        exact ⟨h1, a, b, ha, hb, e, e2, h4, h5⟩
  · rintro ⟨h1, a, b, ha, hb, e, e2, h4, h5⟩
    have p1 : pn f g = a := by unfold pn; rw [e, nI_N (by omega)]
    have p2 : pn f h = b := by unfold pn; rw [e2, nI_N (by omega)]
    rw [p1, p2]
    exact ⟨h1, by rw [e]; exact nm9 (by omega), by rw [e2]; exact nm9 (by omega), h4, h5⟩
theorem X8_doesSee {n k : Nat} {f : Nat → Int32} (hn : n ≤ 6) (hk : k ≤ 8) (h0 : f 0 = nI n) (hP : RwP f n k) {g h : Nat} (hg : g < k) (hh : h < k) : fX8_doesSee f (nI g) (nI h) = some (bi (see n f g h)) := by
  unfold fX8_doesSee
  rw [l27, nI_add, nI_add, gd_t (inB_nI (by omega) (by decide)), bd_eq, gd_t (inB_nI (by omega) (by decide)), bd_eq, nI_N (by omega), nI_N (by omega)]
  unfold see
  by_cases h1 : g = h
  · rw [if_pos (by rw [h1]), decide_eq_true h1]; rfl
  · rw [if_neg (fun e => h1 (nI_inj (by omega) (by omega) e)), decide_eq_false h1]
    rcases hP g hg with e | ⟨a, ha, e⟩
    · rw [if_pos e, decide_eq_true e]; rfl
    · rcases hP h hh with e2 | ⟨b, hb, e2⟩
      · rw [e, if_neg (nm9 (by omega)), if_pos e2, decide_eq_true e2]; simp; rfl
      · have p1 : pn f g = a := by unfold pn; rw [e, nI_N (by omega)]
        have p2 : pn f h = b := by unfold pn; rw [e2, nI_N (by omega)]
        rw [p1, p2, e, e2, if_neg (nm9 (by omega)), if_neg (nm9 (by omega)), decide_eq_false (nm9 (by omega)), decide_eq_false (nm9 (by omega)), X8_fabricOf hn h0 ha, bs, X8_has (by omega), bs]
        show (if bi (bt (fab n (UPr f) a) b) = 0 then _ else _) = _
        cases bt (fab n (UPr f) a) b
        · rfl
        · rw [ifb_t, X8_areInOne (by omega) (by omega) (by omega), bs]
          cases inone f a g h <;> rfl
/-- whom g sees, as bits -/
def srow (n k : Nat) (f : Nat → Int32) (g : Nat) : Int32 := (List.range k).foldl (fun w h => if see n f g h then w ||| b1 h else w) 0
theorem bt_srow {n k : Nat} (hk : k ≤ 8) {f : Nat → Int32} {g : Nat} (i : Nat) : bt (srow n k f g) i = (decide (i < k) && see n f g i) := by
  have := fold_inv (fun w h => if see n f g h then w ||| b1 h else w) (fun w m => bt w i = (decide (i < m) && see n f g i)) k 0
    (by rw [b_0]; simp)
    (by intro w m hm ih
        by_cases hs : see n f g m = true
        · rw [if_pos hs, b_or, ih, b_b1 (by omega)]
          rcases Nat.lt_trichotomy i m with h | h | h
          · rw [decide_eq_true h, decide_eq_true (by omega : i < m + 1), decide_eq_false (by omega : ¬ i = m)]; simp
          · subst h; rw [hs]; simp
          · rw [decide_eq_false (by omega : ¬ i < m), decide_eq_false (by omega : ¬ i < m + 1), decide_eq_false (by omega : ¬ i = m)]; rfl
        · rw [if_neg hs, ih]
          rcases Nat.lt_trichotomy i m with h | h | h
          · rw [decide_eq_true h, decide_eq_true (by omega : i < m + 1)]
          · subst h
            have : see n f g i = false := by
              cases h2 : see n f g i
              · rfl
              · exact absurd h2 hs
            rw [this]; simp
          · rw [decide_eq_false (by omega : ¬ i < m), decide_eq_false (by omega : ¬ i < m + 1)])
  exact this
theorem X8_seesOf {n k : Nat} {f : Nat → Int32} (hn : n ≤ 6) (hk : k ≤ 8) (h0 : f 0 = nI n) (h1 : f 1 = nI k) (hP : RwP f n k) {g : Nat} (hg : g < k) : fX8_seesOf f (nI g) = some (srow n k f g) := by
  unfold fX8_seesOf
  have h := cl1 k (fun fu w i => fX8_seesOf_L1 f (nI g) fu w (nI i)) (fun w h => if see n f g h then w ||| b1 h else w) (fun w => (w, nI k))
    (by intro fu s
        show fX8_seesOf_L1 f (nI g) (fu + 1) s (nI k) = _
        rw [fX8_seesOf_L1.eq_2, gd_t (by decide), z1N, h1, if_pos (nI_le (Nat.le_refl k) (by omega))])
    (by intro fu s i hi
        show fX8_seesOf_L1 f (nI g) (fu + 1) s (nI i) = fX8_seesOf_L1 f (nI g) fu _ (nI (i + 1))
        rw [fX8_seesOf_L1.eq_2, gd_t (by decide), z1N, h1, if_neg (nI_ge hi (by omega)), X8_doesSee hn hk h0 hP hg hi, bs]
        cases see n f g i
        · rw [ifb_f, bd_eq, bd_eq, nI_1, orz]; rfl
        · rw [ifb_t, bd_eq, bd_eq, nI_1]; rfl)
    0 500 (by omega)
  have h : fX8_seesOf_L1 f (nI g) 500 0 0 = _ := h
  rw [h, bs]
  rfl
/-- a row of eight bits, counted -/
def cnt8 (x : Int32) : Nat := fb_ct (fun i => bt x i) 8
theorem X8_ones (x : Int32) : fX8_ones x = some (nI (cnt8 x)) := by
  unfold fX8_ones
  have h := cl0 8 (fun fu (w : Int32) i => fX8_ones_L1 x fu w (nI i)) (fun w i => w + bi (bt x i)) (fun w => (w, nI 8)) (fun w i => w = nI (fb_ct (fun i => bt x i) i))
    (by intro fu s _
        show fX8_ones_L1 x (fu + 1) s (nI 8) = _
        rw [fX8_ones_L1.eq_2, if_pos (by decide)])
    (by intro fu s i hi hs
        show fX8_ones_L1 x (fu + 1) s (nI i) = fX8_ones_L1 x fu _ (nI (i + 1)) ∧ _
        rw [fX8_ones_L1.eq_2, l8, if_neg (nI_ge hi (by decide)), bit_at (by omega), bd_eq, bd_eq, nI_1]
        refine ⟨rfl, ?_⟩
        show s + bi (bt x i) = _
        rw [fb_ct_succ, hs]
        cases bt x i
        · rw [bi_f, addz]; rfl
        · rw [bi_t, nI_1]; rfl)
    0 500 (by omega) rfl
  obtain ⟨h1, h2⟩ := h
  have h1 : fX8_ones_L1 x 500 0 0 = _ := h1
  rw [h1, bs, h2]
  rfl
/-- how many see, twice -/
def twoT (n k : Nat) (f : Nat → Int32) : Nat := fb_sm (fun g => cnt8 (srow n k f g)) k
theorem twoT_le (n k : Nat) (f : Nat → Int32) (hk : k ≤ 8) : twoT n k f ≤ 64 := by
  have := fb_sm_bound (f := fun g => cnt8 (srow n k f g)) (c := 8) (n := k) (fun g _ => fb_ct_le _ 8)
  unfold twoT
  omega
theorem X8_twos {n k : Nat} {f : Nat → Int32} (hn : n ≤ 6) (hk : k ≤ 8) (h0 : f 0 = nI n) (h1 : f 1 = nI k) (hP : RwP f n k) : fX8_twos f = some (nI (twoT n k f / 2)) := by
  unfold fX8_twos
  have h := cl0 k (fun fu (w : Int32) i => fX8_twos_L1 f fu w (nI i)) (fun w g => w + nI (cnt8 (srow n k f g))) (fun w => (w, nI k)) (fun w i => w = nI (fb_sm (fun g => cnt8 (srow n k f g)) i))
    (by intro fu s _
        show fX8_twos_L1 f (fu + 1) s (nI k) = _
        rw [fX8_twos_L1.eq_2, gd_t (by decide), z1N, h1, if_pos (nI_le (Nat.le_refl k) (by omega))])
    (by intro fu s i hi hs
        show fX8_twos_L1 f (fu + 1) s (nI i) = fX8_twos_L1 f fu _ (nI (i + 1)) ∧ _
        rw [fX8_twos_L1.eq_2, gd_t (by decide), z1N, h1, if_neg (nI_ge hi (by omega)), X8_seesOf hn hk h0 h1 hP hi, bs, X8_ones, bs, bd_eq, bd_eq, nI_1]
        refine ⟨rfl, ?_⟩
        show s + nI _ = _
        rw [hs, nI_add, fb_sm_succ])
    0 500 (by omega) rfl
  obtain ⟨e1, e2⟩ := h
  have e1 : fX8_twos_L1 f 500 0 0 = _ := e1
  have := twoT_le n k f hk
  unfold twoT at this ⊢
  rw [e1, bs, e2]
  show some (nI _ / nI 2) = _
  rw [pk_div (by omega) (by decide) (by decide)]
