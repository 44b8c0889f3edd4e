/-! the words of a text -/
abbrev ch (t : Nat → Int32) (i : Nat) : Nat := (t i).toNatClampNeg
def Tx (t : Nat → Int32) (L : Nat) : Prop := L ≤ 100 ∧ ∀ i, i < L → t i = nI (ch t i) ∧ ch t i < 256
/-- blanks passed -/
def sk (t : Nat → Int32) (L p : Nat) : Nat := p + fa_first (fun j => !decide (ch t (p + j) = 32)) (L - p)
theorem sk_ge (t : Nat → Int32) (L p : Nat) : p ≤ sk t L p := by unfold sk; omega
theorem sk_le {t : Nat → Int32} {L p : Nat} (hp : p ≤ L) : sk t L p ≤ L := by
  have := fa_first_le (fun j => !decide (ch t (p + j) = 32)) (L - p)
  unfold sk
  omega
theorem sk_no {t : Nat → Int32} {L p j : Nat} (h : p + j < sk t L p) : ch t (p + j) = 32 := by
  have := fa_first_no (fun j => !decide (ch t (p + j) = 32)) (L - p) j (by unfold sk at h; omega)
  simpa using this
theorem sk_yes {t : Nat → Int32} {L p : Nat} (h : sk t L p < L) : ¬ ch t (sk t L p) = 32 := by
  have := fa_first_yes (fun j => !decide (ch t (p + j) = 32)) (L - p) (by unfold sk at h; omega)
  simpa [sk] using this
theorem sk_at {t : Nat → Int32} {L p : Nat} (h : sk t L p < L) : sk t L (sk t L p) = sk t L p := by
  have h1 := sk_yes h
  rcases Nat.lt_or_ge (sk t L p) (sk t L (sk t L p)) with q | q
  · exact absurd (sk_no (j := 0) q) h1
  · have := sk_ge t L (sk t L p)
    omega
def fg (t : Nat → Int32) (p : Nat) : Bool := decide (48 ≤ ch t p) && decide (ch t p ≤ 57)
/-- figures passed -/
def fe (t : Nat → Int32) (L p : Nat) : Nat := p + fa_first (fun j => !fg t (p + j)) (L - p)
theorem fe_ge (t : Nat → Int32) (L p : Nat) : p ≤ fe t L p := by unfold fe; omega
theorem fe_le {t : Nat → Int32} {L p : Nat} (hp : p ≤ L) : fe t L p ≤ L := by
  have := fa_first_le (fun j => !fg t (p + j)) (L - p)
  unfold fe
  omega
theorem fe_no {t : Nat → Int32} {L p j : Nat} (h : p + j < fe t L p) : fg t (p + j) = true := by
  have := fa_first_no (fun j => !fg t (p + j)) (L - p) j (by unfold fe at h; omega)
  simpa using this
theorem fe_yes {t : Nat → Int32} {L p : Nat} (h : fe t L p < L) : fg t (fe t L p) = false := by
  have := fa_first_yes (fun j => !fg t (p + j)) (L - p) (by unfold fe at h; omega)
  simpa [fe] using this
theorem fe_unq {t : Nat → Int32} {L p e : Nat} (h1 : p ≤ e) (h2 : e ≤ L) (h3 : ∀ q, p ≤ q → q < e → fg t q = true) (h4 : e < L → fg t e = false) : fe t L p = e := by
  rcases Nat.lt_trichotomy (fe t L p) e with h | h | h
  · have := fe_yes (t := t) (L := L) (p := p) (by omega)
    rw [h3 _ (fe_ge t L p) h] at this
    cases this
  · exact h
  · have h5 := fe_le (t := t) (L := L) (p := p) (by omega)
    have := fe_no (t := t) (L := L) (p := p) (j := e - p) (by omega)
    rw [show p + (e - p) = e by omega, h4 (by omega)] at this
    cases this
/-- where the word at p ends -/
def te (t : Nat → Int32) (L p : Nat) : Nat := if fg t p then fe t L (p + 1) else p + 1
theorem te_gt (t : Nat → Int32) (L p : Nat) : p < te t L p := by
  unfold te
  have := fe_ge t L (p + 1)
  split <;> omega
theorem te_le {t : Nat → Int32} {L p : Nat} (h : p < L) : te t L p ≤ L := by
  unfold te
  have := fe_le (t := t) (L := L) (p := p + 1) (by omega)
  split <;> omega
theorem te_fe {t : Nat → Int32} {L p : Nat} (hp : p < L) (h : fg t p = true) : fe t L p = te t L p := by
  have h1 := te_gt t L p
  have h2 := te_le (t := t) hp
  have e : te t L p = fe t L (p + 1) := by unfold te; rw [if_pos h]
  refine fe_unq (by omega) h2 (fun q hq hq2 => ?_) (fun hl => ?_)
  · rcases Nat.lt_or_ge p q with h3 | h3
    · rw [e] at hq2
      have := fe_no (t := t) (L := L) (p := p + 1) (j := q - (p + 1)) (by omega)
      rw [show p + 1 + (q - (p + 1)) = q by omega] at this
      exact this
    · have : q = p := by omega
      subst this
      exact h
  · rw [e] at hl ⊢
    exact fe_yes hl
theorem X5_letterAt {L7 t : Nat → Int32} {L : Nat} (hT : Tx t L) (h7 : ∀ i, i < L → L7 i = t i) {p : Nat} (hp : p < L) : fX5_letterAt L7 (nI L) (nI p) = some (nI (ch t p)) := by
  obtain ⟨hL, hc⟩ := hT
  unfold fX5_letterAt
  rw [if_neg (nI_pos (by omega)), if_neg (nI_ge hp (by omega)), gd_t (inB_nI (by omega) (by decide)), nI_N (by omega), h7 p hp, ← (hc p hp).1]
theorem l32 : (32 : Int32) = nI 32 := rfl
theorem l48 : (48 : Int32) = nI 48 := rfl
theorem l57 : (57 : Int32) = nI 57 := rfl
theorem l99 : (99 : Int32) = nI 99 := rfl
theorem X5_isFigure {L7 t : Nat → Int32} {L : Nat} (hT : Tx t L) (h7 : ∀ i, i < L → L7 i = t i) {p : Nat} (hp : p < L) : fX5_isFigure L7 (nI L) (nI p) = some (bi (fg t p)) := by
  have hc := (hT.2 p hp).2
  unfold fX5_isFigure fg
  rw [X5_letterAt hT h7 hp, bs, bs, l48, l57]
  by_cases h1 : ch t p < 48
  · rw [if_pos (nI_lt h1 (by decide)), decide_eq_false (by omega)]; rfl
  · rw [if_neg (nI_nlt (by omega) (by omega)), decide_eq_true (by omega)]
    by_cases h2 : 57 < ch t p
    · rw [if_pos (nI_lt h2 (by omega)), decide_eq_false (by omega)]; rfl
    · rw [if_neg (nI_nlt (by omega) (by omega)), decide_eq_true (by omega)]; rfl
theorem X8_isFigure {t : Nat → Int32} {L : Nat} (hT : Tx t L) {p : Nat} (hp : p < L) : fX8_isFigure t (nI L) (nI p) = some (bi (fg t p)) := by
  obtain ⟨hL, hc⟩ := hT
  obtain ⟨hc1, hc2⟩ := hc p hp
  unfold fX8_isFigure fg
  rw [if_neg (nI_ge hp (by omega)), gd_t (inB_nI (by omega) (by decide)), nI_N (by omega), hc1, X8_in, bs, l48, l57]
  rw [show decide (nI 48 ≤ nI (ch t p)) = decide (48 ≤ ch t p) from decide_eq_decide.mpr (nI_leI (by omega) (by omega)), show decide (nI (ch t p) ≤ nI 57) = decide (ch t p ≤ 57) from decide_eq_decide.mpr (nI_leI (by omega) (by omega))]
  cases (decide (48 ≤ ch t p) && decide (ch t p ≤ 57)) <;> rfl
theorem X8_isFigure_end {t : Nat → Int32} {L : Nat} (hL : L ≤ 100) : fX8_isFigure t (nI L) (nI L) = some 0 := by
  unfold fX8_isFigure
  rw [if_pos (nI_le (Nat.le_refl L) (by omega))]
theorem X5_skipBlanks {L7 t : Nat → Int32} {L : Nat} (hT : Tx t L) (h7 : ∀ i, i < L → L7 i = t i) {p : Nat} (hp : p ≤ L) : fX5_skipBlanks L7 (nI L) (nI p) = some (nI (sk t L p)) := by
  have hL := hT.1
  have hle := sk_le (t := t) hp
  have hge := sk_ge t L p
  have h := sl (sk t L p - p) (fun fu j => fX5_skipBlanks_L1 L7 (nI L) fu (nI (p + j))) (nI (sk t L p))
    (by intro fu
        show fX5_skipBlanks_L1 L7 (nI L) (fu + 1) (nI (p + (sk t L p - p))) = _
        rw [show p + (sk t L p - p) = sk t L p by omega, fX5_skipBlanks_L1.eq_2]
        by_cases hq : sk t L p = L
        · rw [hq, if_pos (nI_le (Nat.le_refl L) (by omega))]
        · have hlt : sk t L p < L := by omega
          have hc := (hT.2 _ hlt).2
          rw [if_neg (nI_ge hlt (by omega)), X5_letterAt hT h7 hlt, bs, l32, if_neg (fun e => sk_yes hlt (nI_inj (by omega) (by decide) e))])
    (by intro fu j hj
        show fX5_skipBlanks_L1 L7 (nI L) (fu + 1) (nI (p + j)) = fX5_skipBlanks_L1 L7 (nI L) fu (nI (p + (j + 1)))
        have hlt : p + j < L := by omega
        rw [fX5_skipBlanks_L1.eq_2, if_neg (nI_ge hlt (by omega)), X5_letterAt hT h7 hlt, bs, l32, if_pos (by rw [sk_no (show p + j < sk t L p by omega)]), bd_eq, nI_1]
        rfl)
    (sk t L p - p) 0 500 (by omega) (by omega)
  have h : fX5_skipBlanks_L1 L7 (nI L) 500 (nI p) = _ := h
  unfold fX5_skipBlanks
  rw [h, bs]
theorem X8_skip {t : Nat → Int32} {L : Nat} (hT : Tx t L) {p : Nat} (hp : p ≤ L) : fX8_next_L1 t (nI L) 500 (nI p) = some (nI (sk t L p)) := by
  have hL := hT.1
  have hle := sk_le (t := t) hp
  have hge := sk_ge t L p
  have h := sl (sk t L p - p) (fun fu j => fX8_next_L1 t (nI L) fu (nI (p + j))) (nI (sk t L p))
    (by intro fu
        show fX8_next_L1 t (nI L) (fu + 1) (nI (p + (sk t L p - p))) = _
        rw [show p + (sk t L p - p) = sk t L p by omega, fX8_next_L1.eq_2]
        by_cases hq : sk t L p = L
        · rw [hq, if_pos (nI_le (Nat.le_refl L) (by omega))]
        · have hlt : sk t L p < L := by omega
          obtain ⟨hc1, hc2⟩ := hT.2 _ hlt
          rw [if_neg (nI_ge hlt (by omega)), gd_t (inB_nI (by omega) (by decide)), nI_N (by omega), if_neg (fun e => sk_yes hlt (by
            have e2 := hc1.symm.trans e
            exact nI_inj (by omega) (by decide) e2))])
    (by intro fu j hj
        show fX8_next_L1 t (nI L) (fu + 1) (nI (p + j)) = fX8_next_L1 t (nI L) fu (nI (p + (j + 1)))
        have hlt : p + j < L := by omega
        rw [fX8_next_L1.eq_2, if_neg (nI_ge hlt (by omega)), gd_t (inB_nI (by omega) (by decide)), nI_N (by omega), if_pos (by rw [(hT.2 _ hlt).1, sk_no (show p + j < sk t L p by omega)]; rfl), bd_eq, nI_1]
        rfl)
    (sk t L p - p) 0 500 (by omega) (by omega)
  exact h
theorem X5_tokenEnd {L7 t : Nat → Int32} {L : Nat} (hT : Tx t L) (h7 : ∀ i, i < L → L7 i = t i) {p : Nat} (hp : p < L) : fX5_tokenEnd L7 (nI L) (nI p) = some (nI (te t L p)) := by
  have hL := hT.1
  have hle := fe_le (t := t) (L := L) (p := p + 1) (by omega)
  have hge := fe_ge t L (p + 1)
  have h := sl (fe t L (p + 1) - (p + 1)) (fun fu j => fX5_tokenEnd_L1 L7 (nI L) fu (nI (p + 1 + j))) (nI (fe t L (p + 1)))
    (by intro fu
        show fX5_tokenEnd_L1 L7 (nI L) (fu + 1) (nI (p + 1 + (fe t L (p + 1) - (p + 1)))) = _
        rw [show p + 1 + (fe t L (p + 1) - (p + 1)) = fe t L (p + 1) by omega, fX5_tokenEnd_L1.eq_2]
        by_cases hq : fe t L (p + 1) = L
        · rw [hq, if_pos (nI_le (Nat.le_refl L) (by omega))]
        · have hlt : fe t L (p + 1) < L := by omega
          rw [if_neg (nI_ge hlt (by omega)), X5_isFigure hT h7 hlt, bs, fe_yes hlt, ifb_f])
    (by intro fu j hj
        show fX5_tokenEnd_L1 L7 (nI L) (fu + 1) (nI (p + 1 + j)) = fX5_tokenEnd_L1 L7 (nI L) fu (nI (p + 1 + (j + 1)))
        have hlt : p + 1 + j < L := by omega
        rw [fX5_tokenEnd_L1.eq_2, if_neg (nI_ge hlt (by omega)), X5_isFigure hT h7 hlt, bs, fe_no (show p + 1 + j < fe t L (p + 1) by omega), ifb_t, bd_eq, nI_1]
        rfl)
    (fe t L (p + 1) - (p + 1)) 0 500 (by omega) (by omega)
  have h : fX5_tokenEnd_L1 L7 (nI L) 500 (nI (p + 1)) = _ := h
  unfold fX5_tokenEnd te
  rw [bd_eq, nI_1, X5_isFigure hT h7 hp, bs, h, bs]
  cases fg t p
  · rw [ifb_f, if_neg (by decide)]
  · rw [ifb_t, if_pos rfl]
/-- a number's value -/
def vl (t : Nat → Int32) (p : Nat) : Nat → Nat
  | 0 => 0
  | j + 1 => if vl t p j ≤ 99 then 10 * vl t p j + (ch t (p + j) - 48) else vl t p j
theorem fg_d {t : Nat → Int32} {p : Nat} (h : fg t p = true) : 48 ≤ ch t p ∧ ch t p ≤ 57 := by
  unfold fg at h
  rw [Bool.and_eq_true, decide_eq_true_iff, decide_eq_true_iff] at h
  exact h
theorem vl_le {t : Nat → Int32} {L p : Nat} : ∀ j, p + j ≤ fe t L p → vl t p j ≤ 999 := by
  intro j
  induction j with
  | zero => intro _; exact Nat.zero_le _
  | succ j ih =>
    intro hj
    have h1 := ih (by omega)
    have h2 := fg_d (fe_no (t := t) (L := L) (p := p) (j := j) (by omega))
    rw [vl]
    split <;> omega
theorem X8_value {t : Nat → Int32} {L : Nat} (hT : Tx t L) {p : Nat} (hp : p ≤ L) : fX8_next_L2 t (nI L) 500 (nI p) 0 = some (nI (fe t L p), nI (vl t p (fe t L p - p))) := by
  have hL := hT.1
  have hle := fe_le (t := t) hp
  have hge := fe_ge t L p
  have hb : ∀ j, p + j ≤ fe t L p → vl t p j ≤ 999 := vl_le
  have h := sl (fe t L p - p) (fun fu j => if p + j ≤ fe t L p then fX8_next_L2 t (nI L) fu (nI (p + j)) (nI (vl t p j)) else none) (nI (fe t L p), nI (vl t p (fe t L p - p)))
    (by intro fu
        show (if p + (fe t L p - p) ≤ fe t L p then fX8_next_L2 t (nI L) (fu + 1) (nI (p + (fe t L p - p))) (nI (vl t p (fe t L p - p))) else none) = _
        rw [if_pos (by omega), show p + (fe t L p - p) = fe t L p by omega, fX8_next_L2.eq_2]
        by_cases hq : fe t L p = L
        · rw [hq, X8_isFigure_end hL, bs, if_pos rfl]
        · have hlt : fe t L p < L := by omega
          rw [X8_isFigure hT hlt, bs, fe_yes hlt, ifb_f])
    (by intro fu j hj
        show (if p + j ≤ fe t L p then fX8_next_L2 t (nI L) (fu + 1) (nI (p + j)) (nI (vl t p j)) else none) = (if p + (j + 1) ≤ fe t L p then fX8_next_L2 t (nI L) fu (nI (p + (j + 1))) (nI (vl t p (j + 1))) else none)
        have hlt : p + j < L := by omega
        have hf := fe_no (t := t) (L := L) (p := p) (j := j) (by omega)
        have hd := fg_d hf
        have hv := hb j (by omega)
        obtain ⟨hc1, hc2⟩ := hT.2 _ hlt
        rw [if_pos (by omega), if_pos (by omega), fX8_next_L2.eq_2, X8_isFigure hT hlt, bs, hf, ifb_t, l99, vl]
        by_cases hq : vl t p j ≤ 99
        · rw [if_pos (nI_le hq (by decide)), gd_t (inB_nI (by omega) (by decide)), nI_N (by omega), hc1, bd_eq, bd_eq, nI_1, l10, pk_mul, nI_add, l48, pk_sub (by omega), if_pos hq]
          exact congrArg (fun z => fX8_next_L2 t (nI L) fu (nI (p + j + 1)) (nI z)) (by omega)
        · rw [if_neg (nI_ge (by omega) (by omega)), bd_eq, nI_1, if_neg hq]
          rfl)
    (fe t L p - p) 0 500 (by omega) (by omega)
  have h : (if p + 0 ≤ fe t L p then fX8_next_L2 t (nI L) 500 (nI (p + 0)) (nI (vl t p 0)) else none) = _ := h
  rw [if_pos (by omega)] at h
  exact h
theorem vl_big {t : Nat → Int32} {p : Nat} (h : 49 ≤ ch t p) : ∀ j, 3 ≤ j → 99 < vl t p j := by
  intro j
  induction j with
  | zero => intro h; omega
  | succ j ih =>
    intro hj
    rcases Nat.lt_or_ge j 3 with q | q
    · have : j = 2 := by omega
      subst this
      have e1 : vl t p 1 = ch t p - 48 := by
        show (if (0 : Nat) ≤ 99 then 10 * 0 + (ch t (p + 0) - 48) else 0) = _
        rw [if_pos (by omega), Nat.add_zero]
        omega
      have e2 : 10 ≤ vl t p 2 := by
        show 10 ≤ (if vl t p 1 ≤ 99 then 10 * vl t p 1 + _ else vl t p 1)
        rw [e1]
        split <;> omega
      show 99 < (if vl t p 2 ≤ 99 then 10 * vl t p 2 + _ else vl t p 2)
      split <;> omega
    · have := ih q
      rw [vl, if_neg (by omega)]
      exact this
/-- the number at p, or none -/
def nm (t : Nat → Int32) (L p : Nat) : Option Nat := if fg t p then (if te t L p = p + 1 then some (ch t p - 48) else if te t L p = p + 2 ∧ ¬ ch t p = 48 then some (10 * (ch t p - 48) + (ch t (p + 1) - 48)) else none) else none
def no1 (o : Option Nat) : Int32 := match o with | none => -1 | some n => nI n
theorem nm_lt {t : Nat → Int32} {L p n : Nat} (hp : p < L) (h : nm t L p = some n) : n < 100 := by
  unfold nm at h
  split at h
  · rename_i hf
    have hd := fg_d hf
    split at h
    · cases h; omega
    · split at h
      · rename_i h2
        have := fe_no (t := t) (L := L) (p := p) (j := 1) (by rw [te_fe hp hf]; omega)
        have := fg_d this
        cases h
        omega
      · cases h
  · cases h
theorem X5_numberAt {L7 t : Nat → Int32} {L : Nat} (hT : Tx t L) (h7 : ∀ i, i < L → L7 i = t i) {p : Nat} (hp : p < L) : fX5_numberAt L7 (nI L) (nI p) (nI (te t L p)) = some (no1 (nm t L p)) := by
  have hL := hT.1
  have hgt := te_gt t L p
  have hle := te_le (t := t) hp
  have hc := (hT.2 p hp).2
  unfold fX5_numberAt nm
  rw [X5_isFigure hT h7 hp, bs, X5_letterAt hT h7 hp, bs, pk_sub (by omega), bd_eq]
  cases hf : fg t p
  · rw [ifb_f, if_neg (by decide)]; rfl
  · have hd := fg_d hf
    rw [ifb_t, if_pos rfl, l2, l48, pk_sub hd.1]
    by_cases h1 : te t L p = p + 1
    · rw [if_pos (nI_le (by omega) (by decide)), if_pos (show nI (te t L p - p) = 1 from by rw [h1, show p + 1 - p = 1 by omega]; rfl), if_pos h1]; rfl
    · rw [if_neg h1]
      by_cases h2 : te t L p = p + 2
      · have hlt : p + 1 < L := by omega
        have hf2 := fg_d (fe_no (t := t) (L := L) (p := p) (j := 1) (by rw [te_fe hp hf]; omega))
        have hc2 := (hT.2 _ hlt).2
        rw [if_pos (nI_le (by omega) (by decide)), if_neg (show ¬ nI (te t L p - p) = 1 from fun e => by
          have := nI_inj (b := 1) (by omega) (by decide) e
          omega), nI_1, X5_letterAt hT h7 hlt, bs, l10, pk_mul, nI_add, pk_sub (by omega)]
        by_cases h3 : ch t p = 48
        · rw [if_pos (show nI (ch t p - 48) = 0 from by rw [h3]; rfl), if_neg (fun h => h.2 h3)]; rfl
        · rw [if_neg (show ¬ nI (ch t p - 48) = 0 from nI_ne0 (by omega) (by omega)), if_pos ⟨h2, h3⟩]
          exact congrArg (fun z => some (nI z)) (by omega)
      · rw [if_neg (nI_ge (by omega) (by omega)), if_neg (fun h => h2 h.1)]; rfl
/-- the word at p as the reference names it -/
def tok (t : Nat → Int32) (L p : Nat) : Int32 := if fg t p then (if (nm t L p).isSome then 1001 else 1002) else if ch t p = 115 then 115 else if ch t p = 104 then 104 else if ch t p = 45 then 45 else if ch t p = 59 then 59 else 1002
theorem X8_next_end {t : Nat → Int32} {L : Nat} (hT : Tx t L) {p : Nat} (hp : p ≤ L) (h : sk t L p = L) (v : Int32) : fX8_next t (nI L) (nI p) v = some (nI L, 1000, nI L, v) := by
  unfold fX8_next
  rw [X8_skip hT hp, bs, h, if_pos rfl]
theorem X8_next {t : Nat → Int32} {L : Nat} (hT : Tx t L) {a p : Nat} (ha : a ≤ L) (hs : sk t L a = p) (hp : p < L) (v : Int32) : ∃ v', fX8_next t (nI L) (nI a) v = some (nI (te t L p), tok t L p, nI p, v') ∧ ∀ n, nm t L p = some n → v' = nI n := by
  have hL := hT.1
  have hgt := te_gt t L p
  have hle := te_le (t := t) hp
  obtain ⟨hc1, hc2⟩ := hT.2 p hp
  unfold fX8_next
  rw [X8_skip hT ha, bs, hs, if_neg (fun e => by have := nI_inj (by omega) (by omega) e; omega), X8_isFigure hT hp, bs]
  have gp : ∀ {β : Type} (x : Option β), gd (inB (nI p) 100 = true) x = x := fun x => gd_t (inB_nI (by omega) (by decide))
  have np : (nI p).toNatClampNeg = p := nI_N (by omega)
  simp only [gp, np, hc1]
  cases hf : fg t p
  · rw [ifb_f, bd_eq, nI_1]
    have hnm : nm t L p = none := by unfold nm; rw [hf]; rfl
    have hte : te t L p = p + 1 := by unfold te; rw [hf]; rfl
    refine ⟨v, ?_, fun n h => by rw [hnm] at h; cases h⟩
    unfold tok
    rw [hf, hte, if_neg (show ¬ false = true from by decide)]
    have eqn : ∀ x : Nat, x < 256 → (nI (ch t p) = nI x ↔ ch t p = x) := fun x hx => nI_eq (by omega) (by omega)
    by_cases q1 : ch t p = 115
    · rw [if_pos (show nI (ch t p) = 115 from by rw [q1]; rfl), if_pos q1, bd_eq, q1]; rfl
    · rw [if_neg (show ¬ nI (ch t p) = 115 from fun e => q1 ((eqn 115 (by omega)).mp e)), if_neg q1]
      by_cases q2 : ch t p = 104
      · rw [if_pos (show nI (ch t p) = 104 from by rw [q2]; rfl), if_pos q2, bd_eq, q2]; rfl
      · rw [if_neg (show ¬ nI (ch t p) = 104 from fun e => q2 ((eqn 104 (by omega)).mp e)), if_neg q2]
        by_cases q3 : ch t p = 45
        · rw [if_pos (show nI (ch t p) = 45 from by rw [q3]; rfl), if_pos q3, bd_eq, q3]; rfl
        · rw [if_neg (show ¬ nI (ch t p) = 45 from fun e => q3 ((eqn 45 (by omega)).mp e)), if_neg q3]
          by_cases q4 : ch t p = 59
          · rw [if_pos (show nI (ch t p) = 59 from by rw [q4]; rfl), if_pos q4, bd_eq, q4]; rfl
          · rw [if_neg (show ¬ nI (ch t p) = 59 from fun e => q4 ((eqn 59 (by omega)).mp e)), if_neg q4, bd_eq]
  · have hd := fg_d hf
    have hfe := te_fe hp hf
    rw [ifb_t, X8_value hT (by omega : p ≤ L), bs, hfe]
    have e1 : vl t p 1 = ch t p - 48 := by
      show (if (0 : Nat) ≤ 99 then 10 * 0 + (ch t (p + 0) - 48) else 0) = _
      rw [if_pos (by omega), Nat.add_zero]
      omega
    refine ⟨nI (vl t p (te t L p - p)), ?_, fun n h => ?_⟩
    · unfold tok nm
      rw [hf, if_pos (show true = true from rfl), if_pos (show true = true from rfl), l99]
      by_cases h1 : te t L p = p + 1
      · rw [h1, show p + 1 - p = 1 by omega, e1, if_neg (nI_nlt (by omega) (by omega)), nI_1, if_pos (nI_le (Nat.le_refl _) (by omega)), if_pos (show p + 1 = p + 1 from rfl)]
        split <;> rfl
      · rw [if_neg h1]
        by_cases h48 : ch t p = 48
        · rw [if_neg (show ¬ (te t L p = p + 2 ∧ ¬ ch t p = 48) from fun h => h.2 h48), h48, if_pos (show nI 48 = 48 from rfl), nI_1, if_neg (nI_ge (by omega) (by omega))]
          split <;> rfl
        · rw [if_neg (show ¬ nI (ch t p) = 48 from fun e => h48 (nI_inj (b := 48) (by omega) (by decide) e))]
          by_cases h2 : te t L p = p + 2
          · have hf2 := fg_d (fe_no (t := t) (L := L) (p := p) (j := 1) (by rw [hfe]; omega))
            have e2 : vl t p 2 = 10 * (ch t p - 48) + (ch t (p + 1) - 48) := by
              show (if vl t p 1 ≤ 99 then 10 * vl t p 1 + (ch t (p + 1) - 48) else vl t p 1) = _
              rw [e1, if_pos (by omega)]
            rw [h2, show p + 2 - p = 2 by omega, e2, if_neg (nI_nlt (by omega) (by omega)), if_pos (show p + 2 = p + 2 ∧ ¬ ch t p = 48 from ⟨rfl, h48⟩)]
            all_goals rfl
          · have hb := vl_big (t := t) (p := p) (by omega) (te t L p - p) (by omega)
            have hv9 := vl_le (t := t) (L := L) (p := p) (te t L p - p) (by rw [hfe]; omega)
            rw [if_pos (nI_lt hb (by omega)), if_neg (show ¬ (te t L p = p + 2 ∧ ¬ ch t p = 48) from fun h => h2 h.1)]
            all_goals rfl
    · unfold nm at h
      rw [hf, if_pos (show true = true from rfl)] at h
      by_cases h1 : te t L p = p + 1
      · rw [if_pos h1] at h
        cases h
        rw [h1, show p + 1 - p = 1 by omega, e1]
      · rw [if_neg h1] at h
        by_cases h2 : te t L p = p + 2 ∧ ¬ ch t p = 48
        · rw [if_pos h2] at h
          cases h
          have e2 : vl t p 2 = 10 * (ch t p - 48) + (ch t (p + 1) - 48) := by
            show (if vl t p 1 ≤ 99 then 10 * vl t p 1 + (ch t (p + 1) - 48) else vl t p 1) = _
            rw [e1, if_pos (by omega)]
          rw [h2.1, show p + 2 - p = 2 by omega, e2]
        · rw [if_neg h2] at h; cases h
