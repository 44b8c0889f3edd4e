/-! blocks are handed out: both ways choose the same switch and the same block -/
def amin (S : Int32) (r : Nat → Int32) (b : Option Nat) (a : Nat) : Option Nat := if bt S a then (match b with | none => some a | some c => if r c ≤ r a then some c else some a) else b
def am (n : Nat) (S : Int32) (r : Nat → Int32) : Option Nat := (List.range n).foldl (amin S r) none
theorem amin_ok {S : Int32} {r : Nat → Int32} {b : Option Nat} {i n : Nat} (hi : i < n) (h : ∀ c, b = some c → c < n ∧ bt S c = true) : ∀ c, amin S r b i = some c → c < n ∧ bt S c = true := by
  intro c hc
  unfold amin at hc
  by_cases hb : bt S i = true
  · rw [if_pos hb] at hc
    cases b with
    | none => cases hc; exact ⟨hi, hb⟩
    | some d =>
      simp only at hc
      split at hc
      · cases hc; exact h _ rfl
      · cases hc; exact ⟨hi, hb⟩
  · rw [if_neg hb] at hc
    exact h c hc
theorem am_spec {n : Nat} {S : Int32} {r : Nat → Int32} {a : Nat} (ha : a < n) (h : bt S a = true) : ∃ s, am n S r = some s ∧ s < n ∧ bt S s = true ∧ ∀ x, x < n → bt S x = true → r s ≤ r x := by
  have key := fold_inv (amin S r) (fun b i => (∀ c, b = some c → c < n ∧ bt S c = true ∧ ∀ x, x < i → bt S x = true → r c ≤ r x) ∧ (b = none → ∀ x, x < i → bt S x = false)) n none
    ⟨fun c h => (by cases h), fun _ x hx => (by omega)⟩
    (fun b i hi hb => by
      obtain ⟨h1, h2⟩ := hb
      unfold amin
      by_cases hq : bt S i = true
      · rw [if_pos hq]
        cases b with
        | none =>
          refine ⟨fun c hc => ?_, fun hc => by cases hc⟩
          cases hc
          refine ⟨hi, hq, fun x hx hxb => ?_⟩
          rcases Nat.lt_or_ge x i with h3 | h3
          · rw [h2 rfl x h3] at hxb; cases hxb
          · have : x = i := by omega
            subst this
            rw [fa_le]; omega
        | some d =>
          obtain ⟨d1, d2, d3⟩ := h1 d rfl
          simp only
          by_cases hr : r d ≤ r i
          · rw [if_pos hr]
            refine ⟨fun c hc => ?_, fun hc => by cases hc⟩
            cases hc
            refine ⟨d1, d2, fun x hx hxb => ?_⟩
            rcases Nat.lt_or_ge x i with h3 | h3
            · exact d3 x h3 hxb
            · have : x = i := by omega
              subst this
              exact hr
          · rw [if_neg hr]
            refine ⟨fun c hc => ?_, fun hc => by cases hc⟩
            cases hc
            refine ⟨hi, hq, fun x hx hxb => ?_⟩
            rcases Nat.lt_or_ge x i with h3 | h3
            · have h4 := d3 x h3 hxb
              rw [fa_le] at h4 hr ⊢
              omega
            · have : x = i := by omega
              subst this
              rw [fa_le]; omega
      · rw [if_neg hq]
        refine ⟨fun c hc => ?_, fun hc x hx => ?_⟩
        · obtain ⟨c1, c2, c3⟩ := h1 c hc
          refine ⟨c1, c2, fun x hx hxb => ?_⟩
          rcases Nat.lt_or_ge x i with h3 | h3
          · exact c3 x h3 hxb
          · have : x = i := by omega
            subst this
            exact absurd hxb hq
        · rcases Nat.lt_or_ge x i with h3 | h3
          · exact h2 hc x h3
          · have : x = i := by omega
            subst this
            cases h4 : bt S x
            · rfl
            · exact absurd h4 hq)
  show ∃ s, (List.range n).foldl (amin S r) none = some s ∧ _
  generalize (List.range n).foldl (amin S r) none = b at key
  cases b with
  | none => rw [key.2 rfl a ha] at h; cases h
  | some c => exact ⟨c, rfl, key.1 c rfl⟩
theorem X3_lowestNameOf {n : Nat} (hn : n ≤ 6) {na r : Nat → Int32} (hm : ∀ a, a < n → na a = r a) (S : Int32) : fX3_lowestNameOf (nI n) na S = some (eo (am n S r)) := by
  unfold fX3_lowestNameOf
  have h := cl0 n (fun fu (w : Option Nat) i => fX3_lowestNameOf_L1 (nI n) na S fu (eo w) (nI i)) (amin S r) (fun w => (eo w, nI n)) (fun w _ => ∀ c, w = some c → c < n ∧ bt S c = true)
    (by intro fu s _
        show fX3_lowestNameOf_L1 (nI n) na S (fu + 1) (eo s) (nI n) = _
        rw [fX3_lowestNameOf_L1.eq_2, if_pos (nI_le (Nat.le_refl n) (by omega))])
    (by intro fu s i hi hs
        show fX3_lowestNameOf_L1 (nI n) na S (fu + 1) (eo s) (nI i) = fX3_lowestNameOf_L1 (nI n) na S fu (eo _) (nI (i + 1)) ∧ _
        refine ⟨?_, amin_ok hi hs⟩
        rw [fX3_lowestNameOf_L1.eq_2, if_neg (nI_ge hi (by omega)), X7_has (by omega), bs]
        unfold amin
        cases hb : bt S i
        · rw [ifb_f, bd_eq, nI_1, if_neg (by decide)]
        · rw [ifb_t, if_pos rfl]
          cases s with
          | none =>
            rw [show eo none = -9 from rfl, if_pos rfl, bd_eq, nI_1]
            rfl
          | some c =>
            obtain ⟨hc, -⟩ := hs c rfl
            rw [show eo (some c) = nI c from rfl, if_neg (nm9 (by omega)), gd_t (inB_nI (by omega) (by decide)), X3_nameOf hn hc, bs, nI_N (by omega), hm c hc, hm i hi]
            by_cases hr : r c ≤ r i
            · rw [if_pos hr, bd_eq, nI_1]
              simp only [hr, if_true]
              rfl
            · rw [if_neg hr, bd_eq, nI_1]
              simp only [hr, if_false]
              rfl)
    none 500 (by omega) (fun c h => by cases h)
  have h1 : fX3_lowestNameOf_L1 (nI n) na S 500 (-9) 0 = _ := h.1
  rw [h1, bs]
  rfl
theorem X8_hand_L2 {n : Nat} (hn : n ≤ 6) {g : Nat → Int32} (h0 : g 0 = nI n) (hD : RwD g n) (hb : Bd n (UPr g)) (hs : Sy n (UPr g)) (S : Int32) : fX8_handOut_L2 S g 500 (-9) 0 = some (eo (am n S (fun a => 100 * nI (far n g a) + g (4 + 4 * a))), nI n) := by
  have h := cl0 n (fun fu (w : Option Nat) i => fX8_handOut_L2 S g fu (eo w) (nI i)) (amin S (fun a => 100 * nI (far n g a) + g (4 + 4 * a))) (fun w => (eo w, nI n)) (fun w _ => ∀ c, w = some c → c < n ∧ bt S c = true)
    (by intro fu s _
        show fX8_handOut_L2 S g (fu + 1) (eo s) (nI n) = _
        rw [fX8_handOut_L2.eq_2, gd_t (by decide), z0N, h0, if_pos (nI_le (Nat.le_refl n) (by omega))])
    (by intro fu s i hi hw
        show fX8_handOut_L2 S g (fu + 1) (eo s) (nI i) = fX8_handOut_L2 S g fu (eo _) (nI (i + 1)) ∧ _
        refine ⟨?_, amin_ok hi hw⟩
        rw [fX8_handOut_L2.eq_2, gd_t (by decide), z0N, h0, if_neg (nI_ge hi (by omega)), X8_has (by omega), bs]
        unfold amin
        cases hq : bt S i
        · rw [ifb_f, bd_eq, nI_1, if_neg (by decide)]
        · have o1 := X8_of (f := g) (a := i) (w := 1) (by omega) (by omega)
          rw [ifb_t, if_pos rfl, X8_farOf hn h0 hD hb hs hi, bs, l1, o1, bs, bd_eq, show 3 + 4 * i + 1 = 4 + 4 * i by omega]
          cases s with
          | none =>
            rw [show eo none = -9 from rfl, if_pos rfl, bd_eq, nI_add]
            rfl
          | some c =>
            obtain ⟨hc, -⟩ := hw c rfl
            have o3 := X8_of (f := g) (a := c) (w := 1) (by omega) (by omega)
            rw [show eo (some c) = nI c from rfl, if_neg (nm9 (by omega)), X8_farOf hn h0 hD hb hs hc, bs, o3, bs, show 3 + 4 * c + 1 = 4 + 4 * c by omega]
            by_cases hr : 100 * nI (far n g c) + g (4 + 4 * c) ≤ 100 * nI (far n g i) + g (4 + 4 * i)
            · rw [if_pos hr, bd_eq, nI_add]
              simp only [hr, if_true]
              rfl
            · rw [if_neg hr, bd_eq, nI_add]
              simp only [hr, if_false]
              rfl)
    none 500 (by omega) (fun c h => by cases h)
  exact h.1
/-- the least free block -/
def fre (G : Int32) : Nat := 1 + fa_first (fun j => !bt G (1 + j)) 8
theorem fre_no {G : Int32} {j : Nat} (h1 : 1 ≤ j) (h : j < fre G) : bt G j = true := by
  have := fa_first_no (fun j => !bt G (1 + j)) 8 (j - 1) (by unfold fre at h; omega)
  simp only [show 1 + (j - 1) = j by omega] at this
  simpa using this
theorem fre_yes {G : Int32} (h : fre G < 9) : bt G (fre G) = false := by
  have := fa_first_yes (fun j => !bt G (1 + j)) 8 (by unfold fre at h; omega)
  unfold fre
  simpa using this
theorem fre_pos (G : Int32) : 1 ≤ fre G := by unfold fre; omega
theorem fre_le {G : Int32} {t : Nat} (ht : t ≤ 5) (h : fb_ct (fun i => bt G i) 9 ≤ t) : fre G ≤ 6 := by
  rcases Nat.lt_or_ge 6 (fre G) with h1 | h1
  · exfalso
    have h2 : fb_ct (fun i => decide (1 ≤ i) && decide (i ≤ 6)) 9 ≤ fb_ct (fun i => bt G i) 9 := fb_ct_sub (fun k _ hk => by
      simp only [Bool.and_eq_true, decide_eq_true_iff] at hk
      exact fre_no hk.1 (by omega))
    have h3 : fb_ct (fun i => decide (1 ≤ i) && decide (i ≤ 6)) 9 = 6 := by decide
    omega
  · exact h1
theorem X3_bf1 {G : Int32} (h : fre G ≤ 6) : fX3_blockFor_L1 G 500 1 = some (nI (fre G)) := by
  have hp := fre_pos G
  have h2 : ∀ fu j, 1 ≤ j → j < fre G → fX3_blockFor_L1 G (fu + 1) (nI j) = fX3_blockFor_L1 G fu (nI (j + 1)) := by
    intro fu j h1 hj
    rw [fX3_blockFor_L1.eq_2, l8, if_neg (nI_ge (by omega) (by decide)), X7_has (by omega), bs, fre_no h1 hj, ifb_t, bd_eq, nI_1]
  have h3 := sl (fre G - 1) (fun fu j => fX3_blockFor_L1 G fu (nI (j + 1))) (nI (fre G))
    (by intro fu
        show fX3_blockFor_L1 G (fu + 1) (nI (fre G - 1 + 1)) = _
        rw [show fre G - 1 + 1 = fre G by omega, fX3_blockFor_L1.eq_2, l8, if_neg (nI_ge (by omega) (by decide)), X7_has (by omega), bs, fre_yes (by omega), ifb_f])
    (fun fu j hj => h2 fu (j + 1) (by omega) (by omega)) (fre G - 1) 0 500 (by omega) (by omega)
  exact h3
theorem X3_bf2 {G : Int32} (h : fre G ≤ 6) : fX3_blockFor_L2 G 500 1 = some (nI (fre G)) := by
  have hp := fre_pos G
  have h2 : ∀ fu j, 1 ≤ j → j < fre G → fX3_blockFor_L2 G (fu + 1) (nI j) = fX3_blockFor_L2 G fu (nI (j + 1)) := by
    intro fu j h1 hj
    rw [fX3_blockFor_L2.eq_2, l8, if_neg (nI_ge (by omega) (by decide)), X7_has (by omega), bs, fre_no h1 hj, ifb_t, bd_eq, nI_1]
  have h3 := sl (fre G - 1) (fun fu j => fX3_blockFor_L2 G fu (nI (j + 1))) (nI (fre G))
    (by intro fu
        show fX3_blockFor_L2 G (fu + 1) (nI (fre G - 1 + 1)) = _
        rw [show fre G - 1 + 1 = fre G by omega, fX3_blockFor_L2.eq_2, l8, if_neg (nI_ge (by omega) (by decide)), X7_has (by omega), bs, fre_yes (by omega), ifb_f])
    (fun fu j hj => h2 fu (j + 1) (by omega) (by omega)) (fre G - 1) 0 500 (by omega) (by omega)
  exact h3
theorem X8_bf3 {G : Int32} (h : fre G ≤ 6) : fX8_handOut_L3 G 500 1 = some (nI (fre G)) := by
  have hp := fre_pos G
  have h2 : ∀ fu j, 1 ≤ j → j < fre G → fX8_handOut_L3 G (fu + 1) (nI j) = fX8_handOut_L3 G fu (nI (j + 1)) := by
    intro fu j h1 hj
    rw [fX8_handOut_L3.eq_2, X8_has (by omega), bs, fre_no h1 hj, ifb_t, bd_eq, nI_1]
  have h3 := sl (fre G - 1) (fun fu j => fX8_handOut_L3 G fu (nI (j + 1))) (nI (fre G))
    (by intro fu
        show fX8_handOut_L3 G (fu + 1) (nI (fre G - 1 + 1)) = _
        rw [show fre G - 1 + 1 = fre G by omega, fX8_handOut_L3.eq_2, X8_has (by omega), bs, fre_yes (by omega), ifb_f])
    (fun fu j hj => h2 fu (j + 1) (by omega) (by omega)) (fre G - 1) 0 500 (by omega) (by omega)
  exact h3
theorem X8_bf4 {G : Int32} (h : fre G ≤ 6) : fX8_handOut_L4 G 500 1 = some (nI (fre G)) := by
  have hp := fre_pos G
  have h2 : ∀ fu j, 1 ≤ j → j < fre G → fX8_handOut_L4 G (fu + 1) (nI j) = fX8_handOut_L4 G fu (nI (j + 1)) := by
    intro fu j h1 hj
    rw [fX8_handOut_L4.eq_2, X8_has (by omega), bs, fre_no h1 hj, ifb_t, bd_eq, nI_1]
  have h3 := sl (fre G - 1) (fun fu j => fX8_handOut_L4 G fu (nI (j + 1))) (nI (fre G))
    (by intro fu
        show fX8_handOut_L4 G (fu + 1) (nI (fre G - 1 + 1)) = _
        rw [show fre G - 1 + 1 = fre G by omega, fX8_handOut_L4.eq_2, X8_has (by omega), bs, fre_yes (by omega), ifb_f])
    (fun fu j hj => h2 fu (j + 1) (by omega) (by omega)) (fre G - 1) 0 500 (by omega) (by omega)
  exact h3
/-- the block that a switch gets -/
def nbl (w : Nat) (G : Int32) : Nat := if w = 0 then fre G else if bt G w then fre G else w
theorem nbl_in {w : Nat} (hw : w ≤ 8) {G : Int32} (h : fre G ≤ 6) : 1 ≤ nbl w G ∧ nbl w G ≤ 8 := by
  have hp := fre_pos G
  unfold nbl
  split
  · omega
  · split
    · omega
    · omega
theorem X3_blockFor {n : Nat} (hn : n ≤ 6) {wa : Nat → Int32} {s w : Nat} (hs : s < n) (hw : w ≤ 8) (e : wa s = nI w) {G : Int32} (h : fre G ≤ 6) : fX3_blockFor (nI n) wa (nI s) G = some (nI (nbl w G)) := by
  unfold fX3_blockFor nbl
  rw [X3_wantOf hn hs, bs, e]
  by_cases h0 : w = 0
  · rw [if_pos (by subst h0; decide), X3_bf1 h, bs, if_pos h0]
  · rw [if_neg (nI_nle (by omega) (by omega)), X7_has (by omega), bs, if_neg h0]
    cases hb : bt G w
    · rw [ifb_f, if_neg (by decide)]
    · rw [ifb_t, X3_bf2 h, bs, if_pos rfl]
