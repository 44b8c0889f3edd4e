/-! base of the pure rows -/
/-- a Boolean as an int -/
def bi (b : Bool) : Int32 := if b then 1 else 0
theorem bi_t : bi true = 1 := rfl
theorem bi_f : bi false = 0 := rfl
theorem bi_0 {b : Bool} : bi b = 0 ↔ b = false := by cases b <;> decide
theorem bi_1 {b : Bool} : bi b = 1 ↔ b = true := by cases b <;> decide
theorem bi_or (b : Bool) : bi b = 0 ∨ bi b = 1 := by cases b <;> decide
theorem ifb_f {α : Type} (x y : α) : (if bi false = 0 then x else y) = x := rfl
theorem ifb_t {α : Type} (x y : α) : (if bi true = 0 then x else y) = y := rfl
theorem if10 {α : Type} (x y : α) : (if (1 : Int32) = 0 then x else y) = y := rfl
theorem if00 {α : Type} (x y : α) : (if (0 : Int32) = 0 then x else y) = x := rfl
theorem bd_eq {α β : Type} (a : α) (k : α → Option β) : bd a k = k a := rfl
theorem gd_t {β : Type} {c : Prop} [Decidable c] {t : Option β} (h : c) : gd c t = t := by unfold gd; rw [if_pos h]
theorem bs {α β : Type} (a : α) (k : α → Option β) : (some a).bind k = k a := rfl
theorem inB_nI {i n : Nat} (h : i < n) (hn : n < 2 ^ 31) : inB (nI i) n = true := by
  rw [inB_iff, nI_toInt (by omega)]
  omega
theorem nI_N {n : Nat} (h : n < 2 ^ 31) : (nI n).toNatClampNeg = n := nI_clamp h
theorem nI_inj {a b : Nat} (ha : a < 2 ^ 31) (hb : b < 2 ^ 31) (h : nI a = nI b) : a = b := (nI_eq ha hb).mp h
theorem l0 : (0 : Int32) = nI 0 := rfl
theorem l1 : (1 : Int32) = nI 1 := rfl
theorem l2 : (2 : Int32) = nI 2 := rfl
theorem l3 : (3 : Int32) = nI 3 := rfl
theorem l4 : (4 : Int32) = nI 4 := rfl
theorem l5 : (5 : Int32) = nI 5 := rfl
theorem l6 : (6 : Int32) = nI 6 := rfl
theorem l8 : (8 : Int32) = nI 8 := rfl
theorem l9 : (9 : Int32) = nI 9 := rfl
theorem l10 : (10 : Int32) = nI 10 := rfl
theorem l15 : (15 : Int32) = nI 15 := rfl
theorem l27 : (27 : Int32) = nI 27 := rfl
theorem l35 : (35 : Int32) = nI 35 := rfl
theorem l41 : (41 : Int32) = nI 41 := rfl
theorem l47 : (47 : Int32) = nI 47 := rfl
theorem l71 : (71 : Int32) = nI 71 := rfl
theorem l79 : (79 : Int32) = nI 79 := rfl
theorem l87 : (87 : Int32) = nI 87 := rfl
theorem nm9 {n : Nat} (h : n < 2 ^ 31) : ¬ nI n = -9 := by
  intro e
  have := congrArg Int32.toInt e
  rw [nI_toInt h] at this
  have h2 : (-9 : Int32).toInt = -9 := by decide
  rw [h2] at this
  omega
theorem b_1 (i : Nat) : bt 1 i = decide (i = 0) := by
  rcases Nat.lt_or_ge i 32 with h | h
  · exact (by decide +kernel : ∀ i, i < 32 → bt 1 i = decide (i = 0)) i h
  · rw [b_big h, decide_eq_false (by omega)]
/-- one bit -/
def b1 (k : Nat) : Int32 := 1 <<< (nI k &&& 31)
theorem b_b1 {k : Nat} (hk : k < 32) (i : Nat) : bt (b1 k) i = decide (i = k) := by
  rcases Nat.lt_or_ge i 32 with h | h
  · rw [b1, b_shl k hk 1 h, b_1]
    rcases Nat.lt_trichotomy i k with h1 | h1 | h1
    · rw [decide_eq_false (by omega), decide_eq_false (by omega : ¬ i = k)]; rfl
    · subst h1; simp
    · rw [decide_eq_false (by omega : ¬ i - k = 0), decide_eq_false (by omega : ¬ i = k)]; simp
  · rw [b_big h, decide_eq_false (by omega)]
theorem b_not {x : Int32} {i : Nat} (h : i < 32) : bt (x ^^^ (-1)) i = !bt x i := by rw [b_xor, b_m1 i h]; simp
theorem b_and0 {x y : Int32} : x &&& y = 0 ↔ ∀ i, i < 32 → ¬ (bt x i = true ∧ bt y i = true) := by
  constructor
  · intro h i hi h2
    have := congrArg (fun z => bt z i) h
    simp only [b_and, h2.1, h2.2, b_0] at this
    exact absurd this (by decide)
  · intro h
    refine b_ext (fun i hi => ?_)
    rw [b_and, b_0]
    have := h i hi
    cases h1 : bt x i <;> cases h2 : bt y i <;> simp_all
theorem b_eq0 {x : Int32} : x = 0 ↔ ∀ i, i < 32 → bt x i = false := by
  constructor
  · intro h i hi; rw [h, b_0]
  · intro h; exact b_ext (fun i hi => by rw [h i hi, b_0])
theorem bit_at {x : Int32} {k : Nat} (hk : k < 32) : (x >>> (nI k &&& 31)) &&& 1 = bi (bt x k) := by
  refine b_ext (fun i hi => ?_)
  rw [b_and, b_1, b_sshr k hk x hi]
  rcases Nat.eq_zero_or_pos i with h | h
  · subst h
    rw [if_pos (by omega)]
    cases h2 : bt x (k + 0) <;> (rw [Nat.add_zero] at h2; simp [h2, bi, b_0, b_1])
  · rw [decide_eq_false (by omega), Bool.and_false]
    cases bt x k <;> simp [bi, b_0, b_1] <;> omega
theorem X7_has {x : Int32} {k : Nat} (hk : k < 32) : fX7_has x (nI k) = some (bi (bt x k)) := by
  unfold fX7_has
  rw [bit_at hk]
  cases bt x k <;> rfl
theorem X8_has {x : Int32} {k : Nat} (hk : k < 32) : fX8_has x (nI k) = some (bi (bt x k)) := by
  unfold fX8_has
  rw [bit_at hk]
  cases bt x k <;> rfl
theorem X8_in (x a b : Int32) : fX8_in x a b = some (bi (decide (a ≤ x) && decide (x ≤ b))) := by
  unfold fX8_in
  by_cases h1 : x < a
  · rw [if_pos h1, decide_eq_false (by rw [fa_le]; rw [fa_lt] at h1; omega)]; rfl
  · rw [if_neg h1, decide_eq_true (fa_of_nlt h1)]
    by_cases h2 : b < x
    · rw [if_pos h2, decide_eq_false (by rw [fa_le]; rw [fa_lt] at h2; omega)]; rfl
    · rw [if_neg h2, decide_eq_true (fa_of_nlt h2)]; rfl
/-- counting loops -/
theorem cl {σ β : Type} (n : Nat) (L : Nat → σ → Nat → Option β) (step : σ → Nat → σ) (out : σ → β) (P : σ → Nat → Prop)
    (h0 : ∀ fu s, P s n → L (fu + 1) s n = some (out s))
    (h1 : ∀ fu s i, i < n → P s i → L (fu + 1) s i = L fu (step s i) (i + 1) ∧ P (step s i) (i + 1)) :
    ∀ (j i : Nat) (s : σ) (fu : Nat), i + j = n → j < fu → P s i → L fu s i = some (out ((List.range' i j).foldl step s)) ∧ P ((List.range' i j).foldl step s) n := by
  intro j
  induction j with
  | zero =>
    intro i s fu hi hf hp
    obtain ⟨m, rfl⟩ : ∃ m, fu = m + 1 := ⟨fu - 1, by omega⟩
    have : i = n := by omega
    subst this
    exact ⟨h0 m s hp, hp⟩
  | succ j ih =>
    intro i s fu hi hf hp
    obtain ⟨m, rfl⟩ : ∃ m, fu = m + 1 := ⟨fu - 1, by omega⟩
    obtain ⟨e, hp2⟩ := h1 m s i (by omega) hp
    rw [e, List.range'_succ, List.foldl_cons]
    exact ih (i + 1) (step s i) m (by omega) (by omega) hp2
theorem cl0 {σ β : Type} (n : Nat) (L : Nat → σ → Nat → Option β) (step : σ → Nat → σ) (out : σ → β) (P : σ → Nat → Prop)
    (h0 : ∀ fu s, P s n → L (fu + 1) s n = some (out s))
    (h1 : ∀ fu s i, i < n → P s i → L (fu + 1) s i = L fu (step s i) (i + 1) ∧ P (step s i) (i + 1)) (s : σ) (fu : Nat) (hf : n < fu) (hp : P s 0) :
    L fu s 0 = some (out ((List.range n).foldl step s)) ∧ P ((List.range n).foldl step s) n := by
  have := cl n L step out P h0 h1 n 0 s fu (by omega) hf hp
  rw [← List.range_eq_range'] at this
  exact this
theorem cle {σ β : Type} (n : Nat) (L : Nat → σ → Nat → Option β) (step : σ → Nat → σ) (out : σ → β) (P : σ → Nat → Prop)
    (h0 : ∀ fu s, P s n → L (fu + 1) s n = some (out s))
    (h1 : ∀ fu s i, i < n → P s i → L (fu + 1) s i = L fu (step s i) (i + 1) ∧ P (step s i) (i + 1)) (s : σ) (fu : Nat) (hf : n < fu) (hp : P s 0) :
    ∃ w, L fu s 0 = some (out w) ∧ P w n := ⟨_, cl0 n L step out P h0 h1 s fu hf hp⟩
/-- a counting loop without an invariant -/
theorem cl1 {σ β : Type} (n : Nat) (L : Nat → σ → Nat → Option β) (step : σ → Nat → σ) (out : σ → β)
    (h0 : ∀ fu s, L (fu + 1) s n = some (out s)) (h1 : ∀ fu s i, i < n → L (fu + 1) s i = L fu (step s i) (i + 1)) (s : σ) (fu : Nat) (hf : n < fu) :
    L fu s 0 = some (out ((List.range n).foldl step s)) :=
  (cl0 n L step out (fun _ _ => True) (fun fu s _ => h0 fu s) (fun fu s i hi _ => ⟨h1 fu s i hi, trivial⟩) s fu hf trivial).1
/-- what holds of a fold over a range -/
theorem fold_inv {σ : Type} (step : σ → Nat → σ) (P : σ → Nat → Prop) (n : Nat) (s : σ) (h0 : P s 0) (h1 : ∀ s i, i < n → P s i → P (step s i) (i + 1)) : P ((List.range n).foldl step s) n := by
  induction n with
  | zero => exact h0
  | succ n ih =>
    rw [List.range_succ, List.foldl_append, List.foldl_cons, List.foldl_nil]
    exact h1 _ n (by omega) (ih (fun s i hi hp => h1 s i (by omega) hp))
theorem hasSw {n : Nat} (hn : n < 2 ^ 31) (x : Int32) : fX3_hasSwitch (nI n) x = some (bi (decide (0 ≤ x.toInt) && decide (x.toInt < n))) := by
  unfold fX3_hasSwitch
  by_cases h1 : x < 0
  · rw [if_pos h1, decide_eq_false]; rfl
    rw [fa_lt] at h1
    have : (0 : Int32).toInt = 0 := by decide
    omega
  · rw [if_neg h1, decide_eq_true]
    · by_cases h2 : nI n ≤ x
      · rw [if_pos h2, decide_eq_false]; rfl
        rw [fa_le, nI_toInt hn] at h2
        omega
      · rw [if_neg h2, decide_eq_true]; rfl
        rw [fa_le, nI_toInt hn] at h2
        omega
    · rw [fa_lt] at h1
      have : (0 : Int32).toInt = 0 := by decide
      omega
theorem hasSw_nI {n a : Nat} (hn : n < 2 ^ 31) (h : a < n) : fX3_hasSwitch (nI n) (nI a) = some 1 := by
  rw [hasSw hn, nI_toInt (by omega)]
  have : (decide (0 ≤ (a : Int)) && decide ((a : Int) < n)) = true := by simp; omega
  rw [this]; rfl
theorem sw_cases {n : Nat} (hn : n < 2 ^ 31) (x : Int32) : (fX3_hasSwitch (nI n) x = some 1 ∧ ∃ a, a < n ∧ x = nI a) ∨ (fX3_hasSwitch (nI n) x = some 0 ∧ ¬ ∃ a, a < n ∧ x = nI a) := by
  rcases pk_ix x hn with h | h | ⟨j, hj, rfl⟩
  · right
    refine ⟨?_, ?_⟩
    · unfold fX3_hasSwitch; rw [if_pos h]
    · rintro ⟨a, ha, rfl⟩; exact nI_pos (by omega) h
  · right
    refine ⟨?_, ?_⟩
    · unfold fX3_hasSwitch
      rw [if_pos h]
      split <;> rfl
    · rintro ⟨a, ha, rfl⟩; exact nI_ge ha hn h
  · left
    exact ⟨hasSw_nI hn hj, j, hj, rfl⟩
