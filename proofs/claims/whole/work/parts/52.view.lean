/-! who sees whom, as the class tells it -/
theorem X3_hostsAt {n k : Nat} (hn : n ≤ 6) (hk : k ≤ 8) {f pl : Nat → Int32} (hP : RwP f n k) (hpl : ∀ h, h < k → pl h = f (27 + h)) (S : Int32) : ∃ M, fX3_hostsAt (nI k) pl S = some M ∧ ∀ i, bt M i = (decide (i < k) && (!decide (f (27 + i) = -9) && bt S (pn f i))) := by
  obtain ⟨w', h1, h2⟩ := cle k (fun fu (w : Int32) i => fX3_hostsAt_L1 (nI k) pl S fu w (nI i)) (fun w h => if !decide (f (27 + h) = -9) && bt S (pn f h) then w ||| b1 h else w) (fun w => (w, nI k)) (fun w m => ∀ i, bt w i = (decide (i < m) && (!decide (f (27 + i) = -9) && bt S (pn f i))))
    (by intro fu s _
        show fX3_hostsAt_L1 (nI k) pl S (fu + 1) s (nI k) = _
        rw [fX3_hostsAt_L1.eq_2, if_pos (nI_le (Nat.le_refl k) (by omega))])
    (by intro fu s i hi hs
        show fX3_hostsAt_L1 (nI k) pl S (fu + 1) s (nI i) = fX3_hostsAt_L1 (nI k) pl S fu _ (nI (i + 1)) ∧ _
        have hno : (!decide (f (27 + i) = -9) && bt S (pn f i)) = false → ∀ x, bt s x = (decide (x < i + 1) && (!decide (f (27 + x) = -9) && bt S (pn f x))) := by
          intro hq x
          rw [hs x]
          rcases Nat.lt_trichotomy x i with h | h | h
          · rw [decide_eq_true h, decide_eq_true (by omega : x < i + 1)]
          · subst h; rw [hq]; simp
          · rw [decide_eq_false (by omega : ¬ x < i), decide_eq_false (by omega : ¬ x < i + 1)]
        rw [fX3_hostsAt_L1.eq_2, if_neg (nI_ge hi (by omega)), gd_t (inB_nI (by omega) (by decide)), gd_t (inB_nI (by omega) (by decide)), nI_N (by omega), hpl i hi]
        rcases hP i hi with e | ⟨a, ha, e⟩
        · have hq : (!decide (f (27 + i) = -9) && bt S (pn f i)) = false := by rw [decide_eq_true e]; rfl
          rw [if_pos e, bd_eq, nI_1, hq, if_neg (by decide)]
          exact ⟨rfl, hno hq⟩
        · have p1 : pn f i = a := by unfold pn; rw [e, nI_N (by omega)]
          have hq : (!decide (f (27 + i) = -9) && bt S (pn f i)) = bt S a := by rw [p1, e, decide_eq_false (nm9 (by omega))]; rfl
          rw [e, if_neg (nm9 (by omega)), X7_has (by omega), bs]
          cases hb : bt S a
          · rw [ifb_f, bd_eq, nI_1]
            have hq2 := hq.trans hb
            refine ⟨?_, ?_⟩
            · rw [← e, hq2, if_neg (by decide)]
            · rw [← e, hq2, if_neg (by decide)]
              exact hno hq2
          · rw [ifb_t, bd_eq, bd_eq, nI_1]
            have hq2 := hq.trans hb
            refine ⟨?_, ?_⟩
            · rw [← e, hq2, if_pos rfl]; rfl
            · intro x
              rw [← e, hq2, if_pos rfl, b_or, hs x, b_b1 (by omega)]
              rcases Nat.lt_trichotomy x i with h | h | h
              · rw [decide_eq_true h, decide_eq_true (by omega : x < i + 1), decide_eq_false (by omega : ¬ x = i)]; simp
              · subst h; rw [hq2]; simp
              · rw [decide_eq_false (by omega : ¬ x < i), decide_eq_false (by omega : ¬ x < i + 1), decide_eq_false (by omega : ¬ x = i)]; rfl)
    0 500 (by omega) (fun i => by rw [b_0]; simp)
  have h1 : fX3_hostsAt_L1 (nI k) pl S 500 0 0 = _ := h1
  refine ⟨w', ?_, h2⟩
  unfold fX3_hostsAt
  rw [h1, bs]
theorem X3_zonesEmpty {n : Nat} (hn : n ≤ 6) {f zo : Nat → Int32} (hz0 : ∀ a, a < n → ∀ z, z < 4 → zo (4 * a + z) = f (47 + 4 * a + z)) {a : Nat} (ha : a < n) : fX3_zonesEmpty (nI n) zo (nI a) = some (bi (decide (zall f a = 0))) := by
  unfold fX3_zonesEmpty
  have h := cl1 4 (fun fu w i => fX3_zonesEmpty_L1 (nI n) zo (nI a) fu w (nI i)) (fun w z => w ||| f (47 + 4 * a + z)) (fun w => (w, nI 4))
    (by intro fu s
        show fX3_zonesEmpty_L1 (nI n) zo (nI a) (fu + 1) s (nI 4) = _
        rw [fX3_zonesEmpty_L1.eq_2, if_pos (by decide)])
    (by intro fu s i hi
        show fX3_zonesEmpty_L1 (nI n) zo (nI a) (fu + 1) s (nI i) = fX3_zonesEmpty_L1 (nI n) zo (nI a) fu _ (nI (i + 1))
        rw [fX3_zonesEmpty_L1.eq_2, l4, if_neg (nI_ge hi (by decide)), X3_zoneSet hn ha hi, bs, bd_eq, bd_eq, nI_1, hz0 a ha i hi])
    0 500 (by omega)
  have h : fX3_zonesEmpty_L1 (nI n) zo (nI a) 500 0 0 = _ := h
  rw [h, bs]
  show (if zall f a = 0 then some 1 else some 0) = _
  by_cases hq : zall f a = 0
  · rw [if_pos hq, decide_eq_true hq]; rfl
  · rw [if_neg hq, decide_eq_false hq]; rfl
theorem X3_sharingZone {n : Nat} (hn : n ≤ 6) {f zo : Nat → Int32} (hz0 : ∀ a, a < n → ∀ z, z < 4 → zo (4 * a + z) = f (47 + 4 * a + z)) {a g : Nat} (ha : a < n) (hg : g < 32) : ∃ X, fX3_sharingZone (nI n) zo (nI a) (nI g) = some X ∧ ∀ i, bt X i = inz f a g i := by
  obtain ⟨w', h1, h2⟩ := cle 4 (fun fu (w : Int32) i => fX3_sharingZone_L1 (nI n) zo (nI a) (nI g) fu w (nI i)) (fun w z => if bt (f (47 + 4 * a + z)) g then w ||| f (47 + 4 * a + z) else w) (fun w => (w, nI 4)) (fun w m => ∀ i, bt w i = true ↔ ∃ z, z < m ∧ bt (f (47 + 4 * a + z)) g = true ∧ bt (f (47 + 4 * a + z)) i = true)
    (by intro fu s _
        show fX3_sharingZone_L1 (nI n) zo (nI a) (nI g) (fu + 1) s (nI 4) = _
        rw [fX3_sharingZone_L1.eq_2, if_pos (by decide)])
    (by intro fu s m hm hs
        show fX3_sharingZone_L1 (nI n) zo (nI a) (nI g) (fu + 1) s (nI m) = fX3_sharingZone_L1 (nI n) zo (nI a) (nI g) fu _ (nI (m + 1)) ∧ _
        rw [fX3_sharingZone_L1.eq_2, l4, if_neg (nI_ge hm (by decide)), X3_zoneSet hn ha hm, bs, X7_has hg, bs, bs, hz0 a ha m hm]
        cases hb : bt (f (47 + 4 * a + m)) g
        · rw [ifb_f, bd_eq, nI_1, if_neg (by decide)]
          refine ⟨rfl, fun i => ?_⟩
          rw [hs i]
          constructor
          · rintro ⟨z, h1, h2⟩
            exact ⟨z, by omega, h2⟩
          · rintro ⟨z, h1, h2, h3⟩
            rcases Nat.lt_or_ge z m with h | h
            · exact ⟨z, h, h2, h3⟩
            · have : z = m := by omega
              subst this
              rw [hb] at h2; cases h2
        · rw [ifb_t, bd_eq, bd_eq, nI_1, if_pos rfl]
          refine ⟨rfl, fun i => ?_⟩
          rw [b_or, Bool.or_eq_true, hs i]
          constructor
          · rintro (⟨z, h1, h2⟩ | h)
            · exact ⟨z, by omega, h2⟩
            · exact ⟨m, by omega, hb, h⟩
          · rintro ⟨z, h1, h2, h3⟩
            rcases Nat.lt_or_ge z m with h | h
            · exact Or.inl ⟨z, h, h2, h3⟩
            · have : z = m := by omega
              subst this
              exact Or.inr h3)
    0 500 (by omega) (fun i => by rw [b_0]; simp)
  have h1 : fX3_sharingZone_L1 (nI n) zo (nI a) (nI g) 500 0 0 = _ := h1
  refine ⟨w', ?_, fun i => ?_⟩
  · unfold fX3_sharingZone
    rw [h1, bs]
  · rw [Bool.eq_iff_iff, inz_iff]
    exact h2 i
theorem L_row {x : Int32} (hx : ∀ i, bt x i = true → i < 8) {g g' h' : Nat} (hg : g < 8) (hg' : g' < 8) (hh' : h' < 8) : bL (lshl x.toInt64 (nI (8 * g))) (8 * g' + h') = (decide (g' = g) && bt x h') := by
  have h31 : bt x 31 = false := by
    cases h : bt x 31
    · rfl
    · have := hx 31 h; omega
  rw [L_shl _ (by omega) _ (by omega)]
  rcases Nat.lt_trichotomy g' g with h | h | h
  · rw [decide_eq_false (by omega : ¬ 8 * g ≤ 8 * g' + h'), decide_eq_false (by omega : ¬ g' = g)]; rfl
  · subst h
    rw [decide_eq_true (by omega : 8 * g' ≤ 8 * g' + h'), decide_eq_true rfl, show 8 * g' + h' - 8 * g' = h' by omega, L_ext32 h31 (by omega)]
  · rw [decide_eq_false (by omega : ¬ g' = g), L_ext32 h31 (by omega)]
    cases h2 : bt x (8 * g' + h' - 8 * g)
    · simp
    · have := hx _ h2; omega
theorem X3_viewWithin {n k : Nat} (hn : n ≤ 6) (hk : k ≤ 8) {f zo : Nat → Int32} (hz0 : ∀ a, a < n → ∀ z, z < 4 → zo (4 * a + z) = f (47 + 4 * a + z)) {a : Nat} (ha : a < n) {M : Int32} (hM : ∀ i, bt M i = true → i < k) :
    ∃ V, fX3_viewWithin (nI n) (nI k) zo (nI a) M = some V ∧ ∀ g h, g < 8 → h < 8 → bL V (8 * g + h) = (bt M g && (bt M h && (!decide (h = g) && inone f a g h))) := by
  obtain ⟨w', h1, h2⟩ := cle k (fun fu (w : Int64) i => fX3_viewWithin_L1 (nI n) (nI k) zo (nI a) M (bi (decide (zall f a = 0))) fu w (nI i))
    (fun w i => if bt M i then w ||| lshl (((if zall f a = 0 then M else M &&& (Classical.choose (X3_sharingZone hn hz0 ha (show i % 8 < 32 by omega)))) &&& (b1 i ^^^ (-1))).toInt64) (nI (8 * i)) else w) (fun w => (w, nI k))
    (fun w m => ∀ g h, g < 8 → h < 8 → bL w (8 * g + h) = (decide (g < m) && (bt M g && (bt M h && (!decide (h = g) && inone f a g h)))))
    (by intro fu s _
        show fX3_viewWithin_L1 (nI n) (nI k) zo (nI a) M _ (fu + 1) s (nI k) = _
        rw [fX3_viewWithin_L1.eq_2, if_pos (nI_le (Nat.le_refl k) (by omega))])
    (by intro fu s i hi hs
        show fX3_viewWithin_L1 (nI n) (nI k) zo (nI a) M _ (fu + 1) s (nI i) = fX3_viewWithin_L1 (nI n) (nI k) zo (nI a) M _ fu _ (nI (i + 1)) ∧ _
        rw [fX3_viewWithin_L1.eq_2, if_neg (nI_ge hi (by omega)), X7_has (by omega), bs]
        cases hb : bt M i
        · rw [ifb_f, bd_eq, nI_1, if_neg (by decide)]
          refine ⟨rfl, fun g h hg hh => ?_⟩
          rw [hs g h hg hh]
          rcases Nat.lt_trichotomy g i with q | q | q
          · rw [decide_eq_true q, decide_eq_true (by omega : g < i + 1)]
          · subst q; rw [hb]; simp
          · rw [decide_eq_false (by omega : ¬ g < i), decide_eq_false (by omega : ¬ g < i + 1)]
        · rw [ifb_t, if_pos rfl]
          obtain ⟨c1, c2⟩ := Classical.choose_spec (X3_sharingZone hn hz0 ha (show i % 8 < 32 by omega))
          generalize Classical.choose (X3_sharingZone hn hz0 ha (show i % 8 < 32 by omega)) = X at c1 c2 ⊢
          rw [show i % 8 = i by omega] at c1 c2
          have key : ∀ Y : Int32, (∀ j, bt Y j = true → bt M j = true) → (∀ j, j < 8 → bt Y j = (bt M j && inone f a i j)) → ∀ g h, g < 8 → h < 8 → bL (s ||| lshl ((Y &&& (b1 i ^^^ (-1))).toInt64) (nI (8 * i))) (8 * g + h) = (decide (g < i + 1) && (bt M g && (bt M h && (!decide (h = g) && inone f a g h)))) := by
            intro Y hY hY2 g h hg hh
            rw [L_or, hs g h hg hh, L_row (fun j hj => by
              rw [b_and, Bool.and_eq_true] at hj
              have := hM j (hY j hj.1)
              omega) (by omega) hg hh, b_and, b_not (by omega), b_b1 (by omega), hY2 h hh]
            rcases Nat.lt_trichotomy g i with q | q | q
            · rw [decide_eq_true q, decide_eq_true (by omega : g < i + 1), decide_eq_false (by omega : ¬ g = i)]; simp
            · subst q
              rw [hb]
              simp
              cases bt M h <;> cases inone f a g h <;> simp
            · rw [decide_eq_false (by omega : ¬ g < i), decide_eq_false (by omega : ¬ g < i + 1), decide_eq_false (by omega : ¬ g = i)]; rfl
          by_cases hz : zall f a = 0
          · rw [decide_eq_true hz, if_neg (by decide), bd_eq, bd_eq, nI_1, if_pos hz, l8, pk_mul]
            exact ⟨rfl, key M (fun j h => h) (fun j _ => by unfold inone; rw [decide_eq_true hz]; simp)⟩
          · rw [decide_eq_false hz, ifb_f, c1, bs, bd_eq, bd_eq, bd_eq, nI_1, if_neg hz, l8, pk_mul]
            exact ⟨rfl, key (M &&& X) (fun j h => by rw [b_and, Bool.and_eq_true] at h; exact h.1) (fun j _ => by rw [b_and, c2 j]; unfold inone; rw [decide_eq_false hz]; simp)⟩)
    0 500 (by omega) (fun g h _ _ => by rw [L_0]; simp)
  have h1 : fX3_viewWithin_L1 (nI n) (nI k) zo (nI a) M (bi (decide (zall f a = 0))) 500 0 0 = _ := h1
  refine ⟨w', ?_, fun g h hg hh => ?_⟩
  · unfold fX3_viewWithin
    rw [X3_zonesEmpty hn hz0 ha, bs, h1, bs]
  · rw [h2 g h hg hh]
    cases hb : bt M g
    · simp
    · rw [decide_eq_true (hM g hb)]; simp
/-- V tells who sees whom -/
def IsV (n k : Nat) (f : Nat → Int32) (V : Int64) : Prop := ∀ g h, g < 8 → h < 8 → bL V (8 * g + h) = (decide (g < k) && (decide (h < k) && see n f g h))
theorem inone_eq {n : Nat} {f : Nat → Int32} (hU : RwU f n) {a b : Nat} (ha : a < n) (h : Cnn n (UPr f) a b) (g h' : Nat) : inone f a g h' = inone f b g h' := by
  have hz := hU a b ha h
  have e1 : zall f a = zall f b := by
    refine b_ext (fun i _ => ?_)
    rw [Bool.eq_iff_iff, bt_zall, bt_zall]
    constructor
    · rintro ⟨z, hz1, hz2⟩
      exact ⟨z, hz1, by rw [← hz z hz1]; exact hz2⟩
    · rintro ⟨z, hz1, hz2⟩
      exact ⟨z, hz1, by rw [hz z hz1]; exact hz2⟩
  have e2 : inz f a g h' = inz f b g h' := by
    rw [Bool.eq_iff_iff, inz_iff, inz_iff]
    constructor
    · rintro ⟨z, hz1, hz2⟩
      exact ⟨z, hz1, by rw [← hz z hz1]; exact hz2⟩
    · rintro ⟨z, hz1, hz2⟩
      exact ⟨z, hz1, by rw [hz z hz1]; exact hz2⟩
  unfold inone
  rw [e1, e2]
theorem X3_view {n k : Nat} {f up zo pl : Nat → Int32} (hn : n ≤ 6) (hk : k ≤ 8) (hB : Bd n (UPr f)) (hS : Sy n (UPr f)) (hP : RwP f n k) (hU : RwU f n) (hu : ∀ a, a < n → up a = f (35 + a)) (hz0 : ∀ a, a < n → ∀ z, z < 4 → zo (4 * a + z) = f (47 + 4 * a + z)) (hpl : ∀ h, h < k → pl h = f (27 + h)) :
    ∃ V, fX3_view (nI n) (nI k) up zo pl = some V ∧ IsV n k f V := by
  -- the invariant, and the loop by hand
  have key : ∀ (j i : Nat) (V : Int64) (m : Int32) (fu : Nat), i + j = n → j < fu → (∀ x, bt m x = true ↔ ∃ c, c < i ∧ Cnn n (UPr f) c x) →
      (∀ g h, g < 8 → h < 8 → (bL V (8 * g + h) = true ↔ g < k ∧ h < k ∧ g ≠ h ∧ ∃ a b, a < n ∧ b < n ∧ f (27 + g) = nI a ∧ f (27 + h) = nI b ∧ ∃ c, c < i ∧ Cnn n (UPr f) c a ∧ Cnn n (UPr f) c b ∧ inone f c g h = true)) →
      ∃ V' m', fX3_view_L1 (nI n) (nI k) up zo pl fu V m (nI i) = some (V', m', nI n) ∧
        ∀ g h, g < 8 → h < 8 → (bL V' (8 * g + h) = true ↔ g < k ∧ h < k ∧ g ≠ h ∧ ∃ a b, a < n ∧ b < n ∧ f (27 + g) = nI a ∧ f (27 + h) = nI b ∧ ∃ c, c < n ∧ Cnn n (UPr f) c a ∧ Cnn n (UPr f) c b ∧ inone f c g h = true) := by
    intro j
    induction j with
    | zero =>
      intro i V m fu hi hf hm hV
      obtain ⟨q, rfl⟩ : ∃ q, fu = q + 1 := ⟨fu - 1, by omega⟩
      have : i = n := by omega
      subst this
      exact ⟨V, m, by rw [fX3_view_L1.eq_2, if_pos (nI_le (Nat.le_refl i) (by omega))], hV⟩
    | succ j ih =>
      intro i V m fu hi hf hm hV
      obtain ⟨q, rfl⟩ : ∃ q, fu = q + 1 := ⟨fu - 1, by omega⟩
      have hin : i < n := by omega
      rw [fX3_view_L1.eq_2, if_neg (nI_ge hin (by omega)), X7_has (by omega), bs]
      cases hb : bt m i
      · obtain ⟨M, e1, hM⟩ := X3_hostsAt hn hk hP hpl (fab n (UPr f) i)
        have hMk : ∀ x, bt M x = true → x < k := fun x hx => by
          rw [hM, Bool.and_eq_true, decide_eq_true_iff] at hx
          exact hx.1
        obtain ⟨W, e2, hW⟩ := X3_viewWithin hn hk hz0 hin hMk
        rw [ifb_f, X3_fabricOf hn hB hu hin, bs, bd_eq, e1, bs, e2, bs, bd_eq, bd_eq, nI_1]
        refine ih (i + 1) (V ||| W) (m ||| fab n (UPr f) i) q (by omega) (by omega) (fun x => ?_) (fun g h hg hh => ?_)
        · rw [b_or, Bool.or_eq_true, hm x]
          constructor
          · rintro (⟨c, hc, h1⟩ | h1)
            · exact ⟨c, by omega, h1⟩
            · exact ⟨i, by omega, h1⟩
          · rintro ⟨c, hc, h1⟩
            rcases Nat.lt_or_ge c i with h2 | h2
            · exact Or.inl ⟨c, h2, h1⟩
            · have : c = i := by omega
              subst this
              exact Or.inr h1
        · rw [L_or, Bool.or_eq_true, hV g h hg hh, hW g h hg hh]
          have hMi : ∀ x, x < k → (bt M x = true ↔ ∃ a, a < n ∧ f (27 + x) = nI a ∧ Cnn n (UPr f) i a) := by
            intro x hx
            rw [hM, decide_eq_true hx, Bool.true_and, Bool.and_eq_true, Bool.not_eq_true', decide_eq_false_iff_not]
            rcases hP x hx with e | ⟨a, ha, e⟩
            · constructor
              · rintro ⟨h1, -⟩; exact absurd e h1
              · rintro ⟨a, ha, h1, -⟩
                rw [e] at h1
                exact absurd h1.symm (nm9 (by omega))
            · have p1 : pn f x = a := by unfold pn; rw [e, nI_N (by omega)]
              rw [p1]
              constructor
              · rintro ⟨-, h1⟩; exact ⟨a, ha, e, h1⟩
              · rintro ⟨a', ha', h1, h2⟩
                rw [e] at h1
                have := nI_inj (by omega) (by omega) h1
                subst this
                exact ⟨by rw [e]; exact nm9 (by omega), h2⟩
          constructor
          · rintro (⟨h1, h2, h3, a, b, ha, hb', ea, eb, c, hc, h4⟩ | h1)
            · exact ⟨h1, h2, h3, a, b, ha, hb', ea, eb, c, by omega, h4⟩
            · simp only [Bool.and_eq_true, Bool.not_eq_true', decide_eq_false_iff_not] at h1
              obtain ⟨h1, h2, h3, h4⟩ := h1
              have hgk := hMk g h1
              have hhk := hMk h h2
              obtain ⟨a, ha, ea, ca⟩ := (hMi g hgk).mp h1
              obtain ⟨b, hb', eb, cb⟩ := (hMi h hhk).mp h2
              exact ⟨hgk, hhk, fun e => h3 e.symm, a, b, ha, hb', ea, eb, i, by omega, ca, cb, h4⟩
          · rintro ⟨h1, h2, h3, a, b, ha, hb', ea, eb, c, hc, ca, cb, h4⟩
            rcases Nat.lt_or_ge c i with h5 | h5
            · exact Or.inl ⟨h1, h2, h3, a, b, ha, hb', ea, eb, c, h5, ca, cb, h4⟩
            · have : c = i := by omega
              subst this
              right
              simp only [Bool.and_eq_true, Bool.not_eq_true', decide_eq_false_iff_not]
              exact ⟨(hMi g h1).mpr ⟨a, ha, ea, ca⟩, (hMi h h2).mpr ⟨b, hb', eb, cb⟩, fun e => h3 e.symm, h4⟩
      · rw [ifb_t, bd_eq, nI_1]
        obtain ⟨d, hd, hdi⟩ := (hm i).mp hb
        refine ih (i + 1) V m q (by omega) (by omega) (fun x => ?_) (fun g h hg hh => ?_)
        · rw [hm x]
          constructor
          · rintro ⟨c, hc, h1⟩; exact ⟨c, by omega, h1⟩
          · rintro ⟨c, hc, h1⟩
            rcases Nat.lt_or_ge c i with h2 | h2
            · exact ⟨c, h2, h1⟩
            · have : c = i := by omega
              subst this
              exact ⟨d, hd, Cnn.tr hn hB (by omega) hdi h1⟩
        · rw [hV g h hg hh]
          constructor
          · rintro ⟨h1, h2, h3, a, b, ha, hb', ea, eb, c, hc, h4⟩
            exact ⟨h1, h2, h3, a, b, ha, hb', ea, eb, c, by omega, h4⟩
          · rintro ⟨h1, h2, h3, a, b, ha, hb', ea, eb, c, hc, ca, cb, h4⟩
            rcases Nat.lt_or_ge c i with h5 | h5
            · exact ⟨h1, h2, h3, a, b, ha, hb', ea, eb, c, h5, ca, cb, h4⟩
            · have : c = i := by omega
              subst this
              exact ⟨h1, h2, h3, a, b, ha, hb', ea, eb, d, hd, Cnn.tr hn hB (by omega) hdi ca, Cnn.tr hn hB (by omega) hdi cb, by rw [inone_eq hU (by omega) hdi]; exact h4⟩
  obtain ⟨V, m', e, hV⟩ := key n 0 0 0 500 (by omega) (by omega) (fun x => by rw [b_0]; simp) (fun g h _ _ => by rw [L_0]; simp)
  have e : fX3_view_L1 (nI n) (nI k) up zo pl 500 0 0 0 = _ := e
  refine ⟨V, ?_, fun g h hg hh => ?_⟩
  · unfold fX3_view
    rw [e, bs]
  · rw [Bool.eq_iff_iff, hV g h hg hh]
    simp only [Bool.and_eq_true, decide_eq_true_iff]
    constructor
    · rintro ⟨h1, h2, h3, a, b, ha, hb, ea, eb, c, hc, ca, cb, h4⟩
      refine ⟨h1, h2, (see_iff hP hn h1 h2).mpr ⟨h3, a, b, ha, hb, ea, eb, ?_, ?_⟩⟩
      · exact Cnn.tr hn hB ha (Cnn.sy hn hB hS hc ca) cb
      · rw [← inone_eq hU hc ca]; exact h4
    · rintro ⟨h1, h2, h3⟩
      obtain ⟨h4, a, b, ha, hb, ea, eb, hab, h5⟩ := (see_iff hP hn h1 h2).mp h3
      exact ⟨h1, h2, h4, a, b, ha, hb, ea, eb, a, ha, Cnn.rf hn ha, hab, h5⟩
