/-! the principal, and how far a switch is from it -/
def ahead (f : Nat → Int32) (a c : Nat) : Bool := decide (f (3 + 4 * a) < f (3 + 4 * c)) || (decide (f (3 + 4 * a) = f (3 + 4 * c)) && decide (f (4 + 4 * a) < f (4 + 4 * c)))
def prs (f : Nat → Int32) (S : Int32) (b : Option Nat) (a : Nat) : Option Nat := if bt S a then (match b with | none => some a | some c => if ahead f a c then some a else some c) else b
def prin (n : Nat) (f : Nat → Int32) (S : Int32) : Option Nat := (List.range n).foldl (prs f S) none
/-- a choice as an int -/
def eo (b : Option Nat) : Int32 := match b with | none => -9 | some a => nI a
theorem prs_ok {f : Nat → Int32} {S : Int32} {b : Option Nat} {i n : Nat} (hi : i < n) (h : ∀ c, b = some c → c < n ∧ bt S c = true) : ∀ c, prs f S b i = some c → c < n ∧ bt S c = true := by
  intro c hc
  unfold prs at hc
  by_cases hb : bt S i = true
  · rw [if_pos hb] at hc
    cases b with
    | none => cases hc; exact ⟨hi, hb⟩
    | some d =>
      simp only at hc
      split at hc
      · cases hc; exact ⟨hi, hb⟩
      · cases hc; exact h _ rfl
  · rw [if_neg hb] at hc
    exact h c hc
theorem prin_in {n : Nat} {f : Nat → Int32} {S : Int32} : ∀ c, prin n f S = some c → c < n ∧ bt S c = true :=
  fold_inv (prs f S) (fun b _ => ∀ c, b = some c → c < n ∧ bt S c = true) n none (fun c h => by cases h) (fun b i hi hb => prs_ok hi hb)
theorem prin_some {n : Nat} {f : Nat → Int32} {S : Int32} {a : Nat} (ha : a < n) (h : bt S a = true) : ∃ c, prin n f S = some c := by
  have := fold_inv (prs f S) (fun b i => a < i → ∃ c, b = some c) n none (fun h => by omega) (fun b i hi hb hai => by
    unfold prs
    by_cases hq : bt S i = true
    · rw [if_pos hq]
      cases b with
      | none => exact ⟨i, rfl⟩
      | some d =>
        simp only
        split
        · exact ⟨_, rfl⟩
        · exact ⟨_, rfl⟩
    · rw [if_neg hq]
      have : a ≠ i := fun e => by subst e; exact hq h
      exact hb (by omega))
  exact this ha
theorem X3_goesAhead {n : Nat} (hn : n ≤ 6) {f pr na : Nat → Int32} (hp : ∀ a, a < n → pr a = f (3 + 4 * a)) (hm : ∀ a, a < n → na a = f (4 + 4 * a)) {a c : Nat} (ha : a < n) (hc : c < n) : fX3_goesAhead (nI n) pr na (nI a) (nI c) = some (bi (ahead f a c)) := by
  unfold fX3_goesAhead ahead
  rw [X3_priorityOf hn ha, X3_priorityOf hn hc, bs, bs, X3_nameOf hn ha, X3_nameOf hn hc, bs, bs, bs, bs, hp a ha, hp c hc, hm a ha, hm c hc]
  by_cases h1 : f (3 + 4 * a) = f (3 + 4 * c)
  · rw [if_pos h1, decide_eq_true h1, decide_eq_false (by rw [h1, fa_lt]; omega)]
    by_cases h2 : f (4 + 4 * c) ≤ f (4 + 4 * a)
    · rw [if_pos h2, decide_eq_false (by rw [fa_lt]; rw [fa_le] at h2; omega)]; rfl
    · rw [if_neg h2, decide_eq_true (fa_of_nle h2)]; rfl
  · rw [if_neg h1, decide_eq_false h1]
    by_cases h2 : f (3 + 4 * c) ≤ f (3 + 4 * a)
    · rw [if_pos h2, decide_eq_false (by rw [fa_lt]; rw [fa_le] at h2; omega)]; rfl
    · rw [if_neg h2, decide_eq_true (fa_of_nle h2)]; rfl
theorem X3_principalOf {n : Nat} (hn : n ≤ 6) {f pr na : Nat → Int32} (hp : ∀ a, a < n → pr a = f (3 + 4 * a)) (hm : ∀ a, a < n → na a = f (4 + 4 * a)) (S : Int32) : fX3_principalOf (nI n) pr na S = some (eo (prin n f S)) := by
  unfold fX3_principalOf
  have h := cl0 n (fun fu (w : Option Nat) i => fX3_principalOf_L1 (nI n) pr na S fu (eo w) (nI i)) (prs f S) (fun w => (eo w, nI n)) (fun w _ => ∀ c, w = some c → c < n ∧ bt S c = true)
    (by intro fu s _
        show fX3_principalOf_L1 (nI n) pr na S (fu + 1) (eo s) (nI n) = _
        rw [fX3_principalOf_L1.eq_2, if_pos (nI_le (Nat.le_refl n) (by omega))])
    (by intro fu s i hi hs
        show fX3_principalOf_L1 (nI n) pr na S (fu + 1) (eo s) (nI i) = fX3_principalOf_L1 (nI n) pr na S fu (eo _) (nI (i + 1)) ∧ _
        refine ⟨?_, prs_ok hi hs⟩
        rw [fX3_principalOf_L1.eq_2, if_neg (nI_ge hi (by omega)), X7_has (by omega), bs]
        unfold prs
        cases hb : bt S i
        · rw [ifb_f, bd_eq, nI_1, if_neg (by decide)]
        · rw [ifb_t, if_pos rfl]
          cases s with
          | none =>
            rw [show eo none = -9 from rfl, if_pos rfl, bd_eq, nI_1]
            rfl
          | some c =>
            obtain ⟨hc, -⟩ := hs c rfl
            rw [show eo (some c) = nI c from rfl, if_neg (nm9 (by omega)), X3_goesAhead hn hp hm hi hc, bs]
            cases hah : ahead f i c
            · rw [ifb_f, bd_eq, nI_1]
              simp only [hah]
              rfl
            · rw [ifb_t, bd_eq, nI_1]
              simp only [hah]
              rfl)
    none 500 (by omega) (fun c h => by cases h)
  have h1 : fX3_principalOf_L1 (nI n) pr na S 500 (-9) 0 = _ := h.1
  rw [h1, bs]
  rfl
theorem toNI {x : Int32} (h : 0 ≤ x.toInt) {m : Nat} (hm : x.toInt ≤ m) : ∃ j, j ≤ m ∧ x = nI j := by
  have : ¬ x < 0 := by
    rw [fa_lt, show (0 : Int32).toInt = 0 from by decide]; omega
  obtain ⟨j, hj, rfl⟩ := nI_of this
  rw [nI_toInt hj] at hm
  exact ⟨j, by omega, rfl⟩
theorem l100 : (100 : Int32) = nI 100 := rfl
theorem rank_ahead {f : Nat → Int32} {n : Nat} (hD : RwD f n) {a c : Nat} (ha : a < n) (hc : c < n) : ((100 * f (3 + 4 * c)) + f (4 + 4 * c)) ≤ ((100 * f (3 + 4 * a)) + f (4 + 4 * a)) ↔ ahead f a c = false := by
  obtain ⟨⟨a1, a2⟩, ⟨a3, a4⟩, -⟩ := hD a ha
  obtain ⟨⟨c1, c2⟩, ⟨c3, c4⟩, -⟩ := hD c hc
  obtain ⟨p, hp, ep⟩ := toNI (by omega : 0 ≤ (f (3 + 4 * a)).toInt) (m := 9) (by omega)
  obtain ⟨q, hq, eq⟩ := toNI a3 (m := 99) (by omega)
  obtain ⟨r, hr, er⟩ := toNI (by omega : 0 ≤ (f (3 + 4 * c)).toInt) (m := 9) (by omega)
  obtain ⟨t, ht, et⟩ := toNI c3 (m := 99) (by omega)
  unfold ahead
  rw [ep, eq, er, et, l100, pk_mul, pk_mul, nI_add, nI_add, nI_leI (by omega) (by omega), Bool.or_eq_false_iff, Bool.and_eq_false_iff, decide_eq_false_iff_not, decide_eq_false_iff_not, decide_eq_false_iff_not, nI_ltI (by omega) (by omega), nI_ltI (by omega) (by omega), nI_eq (by omega) (by omega)]
  omega
theorem X8_principalOf {n : Nat} (hn : n ≤ 6) {f : Nat → Int32} (h0 : f 0 = nI n) (hD : RwD f n) (S : Int32) : fX8_principalOf f S = some (eo (prin n f S)) := by
  unfold fX8_principalOf
  have h := cl0 n (fun fu (w : Option Nat) i => fX8_principalOf_L1 f S fu (eo w) (nI i)) (prs f S) (fun w => (eo w, nI n)) (fun w _ => ∀ c, w = some c → c < n ∧ bt S c = true)
    (by intro fu s _
        show fX8_principalOf_L1 f S (fu + 1) (eo s) (nI n) = _
        rw [fX8_principalOf_L1.eq_2, gd_t (by decide), z0N, h0, if_pos (nI_le (Nat.le_refl n) (by omega))])
    (by intro fu s i hi hs
        show fX8_principalOf_L1 f S (fu + 1) (eo s) (nI i) = fX8_principalOf_L1 f S fu (eo _) (nI (i + 1)) ∧ _
        refine ⟨?_, prs_ok hi hs⟩
        rw [fX8_principalOf_L1.eq_2, gd_t (by decide), z0N, h0, if_neg (nI_ge hi (by omega)), X8_has (by omega), bs]
        unfold prs
        cases hb : bt S i
        · rw [ifb_f, bd_eq, nI_1, if_neg (by decide)]
        · have o0 := X8_of (f := f) (a := i) (w := 0) (by omega) (by omega)
          have o1 := X8_of (f := f) (a := i) (w := 1) (by omega) (by omega)
          rw [ifb_t, if_pos rfl, l0, o0, bs, l1, o1, bs, bd_eq]
          cases s with
          | none =>
            rw [show eo none = -9 from rfl, if_pos rfl, bd_eq, nI_add]
            rfl
          | some c =>
            obtain ⟨hc, -⟩ := hs c rfl
            have o2 := X8_of (f := f) (a := c) (w := 0) (by omega) (by omega)
            have o3 := X8_of (f := f) (a := c) (w := 1) (by omega) (by omega)
            rw [show eo (some c) = nI c from rfl, if_neg (nm9 (by omega)), o2, bs, o3, bs]
            rw [show 3 + 4 * c + 0 = 3 + 4 * c from rfl, show 3 + 4 * i + 0 = 3 + 4 * i from rfl, show 3 + 4 * c + 1 = 4 + 4 * c by omega, show 3 + 4 * i + 1 = 4 + 4 * i by omega]
            cases hah : ahead f i c
            · rw [if_pos ((rank_ahead hD hi hc).mpr hah), bd_eq, nI_add]
              simp only [hah]
              rfl
            · rw [if_neg (fun e => by rw [(rank_ahead hD hi hc).mp e] at hah; cases hah), bd_eq, nI_add]
              simp only [hah]
              rfl)
    none 500 (by omega) (fun c h => by cases h)
  have h1 : fX8_principalOf_L1 f S 500 (-9) 0 = _ := h.1
  rw [h1, bs]
  rfl
/-- a search that ends at d -/
theorem sl {β : Type} (d : Nat) (L : Nat → Nat → Option β) (r : β) (h0 : ∀ fu, L (fu + 1) d = some r) (h1 : ∀ fu j, j < d → L (fu + 1) j = L fu (j + 1)) : ∀ m j fu, j + m = d → m < fu → L fu j = some r := by
  intro m
  induction m with
  | zero =>
    intro j fu hj hf
    obtain ⟨q, rfl⟩ : ∃ q, fu = q + 1 := ⟨fu - 1, by omega⟩
    have : j = d := by omega
    subst this
    exact h0 q
  | succ m ih =>
    intro j fu hj hf
    obtain ⟨q, rfl⟩ : ∃ q, fu = q + 1 := ⟨fu - 1, by omega⟩
    rw [h1 q j (by omega)]
    exact ih (j + 1) q (by omega) (by omega)
/-- how many rounds from p to a -/
def dst (n : Nat) (u : Nat → Int32) (p a : Nat) : Nat := fa_first (fun j => bt (itr n u j (b1 p)) a) 6
theorem dst_lt {n : Nat} {u : Nat → Int32} (hn : n ≤ 6) (hu : Bd n u) {p a : Nat} (hp : p < n) (h : Cnn n u p a) : dst n u p a < n := by
  have h1 : bt (itr n u (n - 1) (b1 p)) a = true := by
    rw [fab_n1 hn hu hp (by omega)]
    exact h
  rcases Nat.lt_or_ge (n - 1) (dst n u p a) with h2 | h2
  · have := fa_first_no (fun j => bt (itr n u j (b1 p)) a) 6 (n - 1) h2
    simp only [h1] at this
    cases this
  · omega
theorem dst_yes {n : Nat} {u : Nat → Int32} (hn : n ≤ 6) (hu : Bd n u) {p a : Nat} (hp : p < n) (h : Cnn n u p a) : bt (itr n u (dst n u p a) (b1 p)) a = true :=
  fa_first_yes (fun j => bt (itr n u j (b1 p)) a) 6 (by have := dst_lt hn hu hp h; unfold dst at this; omega)
theorem dst_no {n : Nat} {u : Nat → Int32} {p a j : Nat} (h : j < dst n u p a) : bt (itr n u j (b1 p)) a = false := fa_first_no (fun j => bt (itr n u j (b1 p)) a) 6 j h
theorem dst_le {n : Nat} {u : Nat → Int32} {p a j : Nat} (h : bt (itr n u j (b1 p)) a = true) : dst n u p a ≤ j := by
  rcases Nat.lt_or_ge j (dst n u p a) with h2 | h2
  · rw [dst_no h2] at h; cases h
  · exact h2
def far (n : Nat) (f : Nat → Int32) (a : Nat) : Nat := match prin n f (fab n (UPr f) a) with | none => 0 | some p => dst n (UPr f) p a
/-- the principal of a's fabric -/
theorem prin_of {n : Nat} {f : Nat → Int32} (hn : n ≤ 6) (hu : Bd n (UPr f)) (hs : Sy n (UPr f)) {a : Nat} (ha : a < n) : ∃ p, prin n f (fab n (UPr f) a) = some p ∧ p < n ∧ Cnn n (UPr f) p a := by
  obtain ⟨p, hp⟩ := prin_some (f := f) ha (Cnn.rf hn ha : bt (fab n (UPr f) a) a = true)
  obtain ⟨h1, h2⟩ := prin_in p hp
  exact ⟨p, hp, h1, Cnn.sy hn hu hs ha h2⟩
theorem X3_farOf {n : Nat} (hn : n ≤ 6) {f pr na up : Nat → Int32} (hb : Bd n (UPr f)) (hs : Sy n (UPr f)) (hp : ∀ a, a < n → pr a = f (3 + 4 * a)) (hm : ∀ a, a < n → na a = f (4 + 4 * a)) (hu : ∀ a, a < n → up a = f (35 + a)) {a : Nat} (ha : a < n) : fX3_farOf (nI n) pr na up (nI a) = some (nI (far n f a)) := by
  unfold fX3_farOf far
  obtain ⟨p, e, hpn, hc⟩ := prin_of hn hb hs ha
  rw [X3_fabricOf hn hb hu ha, bs, X3_principalOf hn hp hm, bs, e, bd_eq]
  have hlt := dst_lt hn hb hpn hc
  have h := sl (dst n (UPr f) p a) (fun fu j => fX3_farOf_L1 (nI n) up (nI a) fu (itr n (UPr f) j (b1 p)) (nI j)) (itr n (UPr f) (dst n (UPr f) p a) (b1 p), nI (dst n (UPr f) p a))
    (by intro fu
        show fX3_farOf_L1 (nI n) up (nI a) (fu + 1) _ _ = _
        rw [fX3_farOf_L1.eq_2, if_neg (nI_ge hlt (by omega)), X7_has (by omega), bs, dst_yes hn hb hpn hc, ifb_t])
    (by intro fu j hj
        show fX3_farOf_L1 (nI n) up (nI a) (fu + 1) _ _ = fX3_farOf_L1 (nI n) up (nI a) fu _ _
        rw [fX3_farOf_L1.eq_2, if_neg (nI_ge (by omega) (by omega)), X7_has (by omega), bs, dst_no hj, ifb_f, X3_spread hn hu, bs, bd_eq, nI_1]
        rfl)
    (dst n (UPr f) p a) 0 500 (by omega) (by omega)
  have h : fX3_farOf_L1 (nI n) up (nI a) 500 (1 <<< (eo (some p) &&& 31)) 0 = _ := h
  rw [h, bs]
theorem X8_farOf {n : Nat} (hn : n ≤ 6) {f : Nat → Int32} (h0 : f 0 = nI n) (hD : RwD f n) (hb : Bd n (UPr f)) (hs : Sy n (UPr f)) {a : Nat} (ha : a < n) : fX8_farOf f (nI a) = some (nI (far n f a)) := by
  unfold fX8_farOf far
  obtain ⟨p, e, hpn, hc⟩ := prin_of hn hb hs ha
  have e : prin n f (fab n (fun a => f (35 + a)) a) = some p := e
  rw [X8_fabricOf hn h0 ha, bs, X8_principalOf hn h0 hD, bs, e, bd_eq]
  have hlt := dst_lt hn hb hpn hc
  have h := sl (dst n (UPr f) p a) (fun fu j => fX8_farOf_L1 f (nI a) fu (itr n (UPr f) j (b1 p)) (nI j)) (itr n (UPr f) (dst n (UPr f) p a) (b1 p), nI (dst n (UPr f) p a))
    (by intro fu
        show fX8_farOf_L1 f (nI a) (fu + 1) _ _ = _
        rw [fX8_farOf_L1.eq_2, X8_has (by omega), bs, dst_yes hn hb hpn hc, ifb_t])
    (by intro fu j hj
        show fX8_farOf_L1 f (nI a) (fu + 1) _ _ = fX8_farOf_L1 f (nI a) fu _ _
        rw [fX8_farOf_L1.eq_2, X8_has (by omega), bs, dst_no hj, ifb_f, X8_besides hn h0, bs, bd_eq, nI_1]
        rfl)
    (dst n (UPr f) p a) 0 500 (by omega) (by omega)
  have h : fX8_farOf_L1 f (nI a) 500 (1 <<< (eo (some p) &&& 31)) 0 = _ := h
  rw [h, bs]
