/-! what a row of the reference is, and how a net of the class tells the same -/
abbrev UPr (f : Nat → Int32) : Nat → Int32 := fun a => f (35 + a)
abbrev CLr (f : Nat → Int32) : Nat → Int32 := fun a => f (41 + a)
def Rw (f : Nat → Int32) (n k : Nat) : Prop := f 0 = nI n ∧ f 1 = nI k ∧ n ≤ 6 ∧ k ≤ 8 ∧ (f 2 = 0 ∨ f 2 = 1)
def RwD (f : Nat → Int32) (n : Nat) : Prop := ∀ a, a < n → (1 ≤ (f (3 + 4 * a)).toInt ∧ (f (3 + 4 * a)).toInt ≤ 9) ∧ (0 ≤ (f (4 + 4 * a)).toInt ∧ (f (4 + 4 * a)).toInt ≤ 99) ∧ (∃ w, w ≤ 8 ∧ f (5 + 4 * a) = nI w) ∧ ∃ b, 1 ≤ b ∧ b ≤ 8 ∧ f (6 + 4 * a) = nI b
def RwN (f : Nat → Int32) (n : Nat) : Prop := ∀ a b, a < n → b < n → f (4 + 4 * a) = f (4 + 4 * b) → a = b
def RwP (f : Nat → Int32) (n k : Nat) : Prop := ∀ h, h < k → f (27 + h) = -9 ∨ ∃ a, a < n ∧ f (27 + h) = nI a
def RwL (g : Nat → Int32) (n : Nat) : Prop := Bd n g ∧ Sy n g ∧ (∀ a, a < n → bt (g a) a = false) ∧ ∀ a, n ≤ a → a < 6 → g a = 0
def RwZ (f : Nat → Int32) (n k : Nat) : Prop := ∀ a, a < n → ∀ z, z < 4 → ∀ i, bt (f (47 + 4 * a + z)) i = true → i < k
def RwU (f : Nat → Int32) (n : Nat) : Prop := ∀ a b, a < n → Cnn n (UPr f) a b → ∀ z, z < 4 → f (47 + 4 * a + z) = f (47 + 4 * b + z)
/-- a row as it must be -/
def Inv (f : Nat → Int32) (n k : Nat) : Prop := Rw f n k ∧ RwD f n ∧ RwN f n ∧ RwP f n k ∧ RwL (UPr f) n ∧ RwL (CLr f) n ∧ RwZ f n k ∧ RwU f n
abbrev N_pr (t : NetT) : Nat → Int32 := t.2.2.2.1
abbrev N_na (t : NetT) : Nat → Int32 := t.2.2.2.2.1
abbrev N_wa (t : NetT) : Nat → Int32 := t.2.2.2.2.2.1
abbrev N_bl (t : NetT) : Nat → Int32 := t.2.2.2.2.2.2.1
abbrev N_up (t : NetT) : Nat → Int32 := t.2.2.2.2.2.2.2.1
abbrev N_cl (t : NetT) : Nat → Int32 := t.2.2.2.2.2.2.2.2.1
abbrev N_zo (t : NetT) : Nat → Int32 := t.2.2.2.2.2.2.2.2.2.1
abbrev N_pl (t : NetT) : Nat → Int32 := t.2.2.2.2.2.2.2.2.2.2.1
abbrev N_no (t : NetT) : Nat → Int32 := t.2.2.2.2.2.2.2.2.2.2.2.1
abbrev N_ne (t : NetT) : Nat → Int32 := t.2.2.2.2.2.2.2.2.2.2.2.2
/-- the net tells what the row tells -/
def RN (t : NetT) (f : Nat → Int32) (n k : Nat) : Prop := t.1 = nI n ∧ t.2.1 = nI k ∧ t.2.2.1 = f 2 ∧
  (∀ a, a < n → N_pr t a = f (3 + 4 * a)) ∧ (∀ a, a < n → N_na t a = f (4 + 4 * a)) ∧ (∀ a, a < n → N_wa t a = f (5 + 4 * a)) ∧ (∀ a, a < n → N_bl t a = f (6 + 4 * a)) ∧
  (∀ a, a < n → N_up t a = f (35 + a)) ∧ (∀ a, a < n → N_cl t a = f (41 + a)) ∧ (∀ a, a < n → ∀ z, z < 4 → N_zo t (4 * a + z) = f (47 + 4 * a + z)) ∧
  (∀ h, h < k → N_pl t h = f (27 + h)) ∧ (∀ h, h < k → N_no t h = f (71 + h)) ∧ ∀ h, h < k → N_ne t h = f (79 + h)
theorem z0N : (0 : Int32).toNatClampNeg = 0 := rfl
theorem z1N : (1 : Int32).toNatClampNeg = 1 := rfl
theorem z2N : (2 : Int32).toNatClampNeg = 2 := rfl
theorem m1_toInt {n : Nat} (h : n < 2 ^ 30) : (nI n - 1).toInt = (n : Int) - 1 := pk_sub_toInt h (by decide : 1 < 2 ^ 30)
theorem X8_inN {n : Nat} (hn : n < 2 ^ 30) (x : Int32) : fX8_in x 0 (nI n - 1) = fX3_hasSwitch (nI n) x := by
  rw [X8_in, hasSw (by omega)]
  congr 2
  rw [Bool.eq_iff_iff, Bool.and_eq_true, Bool.and_eq_true, decide_eq_true_iff, decide_eq_true_iff, decide_eq_true_iff, decide_eq_true_iff, fa_le, fa_le, m1_toInt hn, show (0 : Int32).toInt = 0 from by decide]
  omega
theorem X8_isSwitch {f : Nat → Int32} {n : Nat} (hn : n < 2 ^ 30) (h0 : f 0 = nI n) (x : Int32) : fX8_isSwitch f x = fX3_hasSwitch (nI n) x := by
  unfold fX8_isSwitch
  rw [gd_t (by decide), z0N, h0, X8_inN hn, hasSw (by omega), bs, gd_t (bi_or _)]
theorem X8_isHost {f : Nat → Int32} {k : Nat} (hk : k < 2 ^ 30) (h0 : f 1 = nI k) (x : Int32) : fX8_isHost f x = fX3_hasSwitch (nI k) x := by
  unfold fX8_isHost
  rw [gd_t (by decide), z1N, h0, X8_inN hk, hasSw (by omega), bs, gd_t (bi_or _)]
theorem X3_hasHost (k x : Int32) : fX3_hasHost k x = fX3_hasSwitch k x := rfl
theorem two_cases {n : Nat} (hn : n < 2 ^ 30) {f : Nat → Int32} (h0 : f 0 = nI n) (x y : Int32) :
    (fX3_hasTwo (nI n) x y = some 1 ∧ fX8_areTwo f x y = some 1 ∧ ∃ a b, a < n ∧ b < n ∧ a ≠ b ∧ x = nI a ∧ y = nI b) ∨ (fX3_hasTwo (nI n) x y = some 0 ∧ fX8_areTwo f x y = some 0) := by
  unfold fX3_hasTwo fX8_areTwo
  rw [X8_isSwitch hn h0, X8_isSwitch hn h0]
  rcases sw_cases (by omega : n < 2 ^ 31) x with ⟨hx, a, ha, rfl⟩ | ⟨hx, -⟩
  · rw [hx, bs, bs]
    rcases sw_cases (by omega : n < 2 ^ 31) y with ⟨hy, b, hb, rfl⟩ | ⟨hy, -⟩
    · rw [hy, bs, bs]
      simp only [if10]
      by_cases hab : nI a = nI b
      · right
        rw [if_pos hab]
        exact ⟨rfl, rfl⟩
      · left
        rw [if_neg hab]
        exact ⟨rfl, rfl, a, b, ha, hb, fun e => hab (by rw [e]), rfl, rfl⟩
    · right
      rw [hy, bs, bs]
      simp only [if10, if00]
      refine ⟨?_, rfl⟩
      split <;> rfl
  · right
    rw [hx, bs, bs]
    simp only [if00]
    refine ⟨?_, rfl⟩
    split <;> rfl
theorem hasTwo_nI {n a b : Nat} (hn : n < 2 ^ 31) (ha : a < n) (hb : b < n) (h : a ≠ b) : fX3_hasTwo (nI n) (nI a) (nI b) = some 1 := by
  unfold fX3_hasTwo
  rw [if_neg (fun e => h (nI_inj (by omega) (by omega) e)), hasSw_nI hn ha, bs, if_neg (by decide), hasSw_nI hn hb, bs, if_neg (by decide)]
theorem X8_of {f : Nat → Int32} {a w : Nat} (ha : a < 6) (hw : w < 4) : fX8_of f (nI a) (nI w) = some (f (3 + 4 * a + w)) := by
  unfold fX8_of
  rw [l3, l4, pk_mul, nI_add, nI_add, gd_t (inB_nI (by omega) (by decide)), nI_N (by omega)]
theorem X8_zoneOf {f : Nat → Int32} {a z : Nat} (ha : a < 6) (hz : z < 4) : fX8_zoneOf f (nI a) (nI z) = some (f (47 + 4 * a + z)) := by
  unfold fX8_zoneOf
  rw [l47, l4, pk_mul, nI_add, nI_add, gd_t (inB_nI (by omega) (by decide)), nI_N (by omega)]
theorem X8_isUp {f : Nat → Int32} {a b : Nat} (ha : a < 6) (hb : b < 32) : fX8_isUp f (nI a) (nI b) = some (bi (bt (f (35 + a)) b)) := by
  unfold fX8_isUp
  rw [l35, nI_add, gd_t (inB_nI (by omega) (by decide)), nI_N (by omega), X8_has hb, bs, gd_t (bi_or _)]
theorem X3_linkState {n : Nat} (hn : n ≤ 6) {up cl : Nat → Int32} {a b : Nat} (ha : a < n) (hb : b < n) (h : a ≠ b) : fX3_linkState (nI n) up cl (nI a) (nI b) = some (if bt (up a) b then 1 else if bt (cl a) b then 2 else 0) := by
  unfold fX3_linkState
  rw [hasTwo_nI (by omega) ha hb h, bs, if_neg (by decide), gd_t (inB_nI (by omega) (by decide)), gd_t (inB_nI (by omega) (by decide)), nI_N (by omega), X7_has (by omega), bs]
  cases bt (up a) b
  · rw [ifb_f, X7_has (by omega), bs]
    cases bt (cl a) b <;> rfl
  · rfl
theorem X3_isUp {n : Nat} (hn : n ≤ 6) {up cl : Nat → Int32} {a b : Nat} (ha : a < n) (hb : b < n) (h : a ≠ b) : fX3_isUp (nI n) up cl (nI a) (nI b) = some (bi (bt (up a) b)) := by
  unfold fX3_isUp
  rw [X3_linkState hn ha hb h, bs]
  cases bt (up a) b
  · cases bt (cl a) b <;> rfl
  · rfl
theorem X3_zoneSet {n : Nat} (hn : n ≤ 6) {zo : Nat → Int32} {a z : Nat} (ha : a < n) (hz : z < 4) : fX3_zoneSet (nI n) zo (nI a) (nI z) = some (zo (4 * a + z)) := by
  unfold fX3_zoneSet
  rw [if_neg (nI_pos (by omega)), if_neg (nI_ge ha (by omega)), if_neg (nI_pos (by omega)), l4, if_neg (nI_ge hz (by omega)), pk_mul, nI_add, gd_t (inB_nI (by omega) (by decide)), nI_N (by omega), Nat.mul_comm]
theorem X3_priorityOf {n : Nat} (hn : n ≤ 6) {g : Nat → Int32} {a : Nat} (ha : a < n) : fX3_priorityOf (nI n) g (nI a) = some (g a) := by
  unfold fX3_priorityOf
  rw [hasSw_nI (by omega) ha, bs, if_neg (by decide), gd_t (inB_nI (by omega) (by decide)), nI_N (by omega)]
theorem X3_nameOf {n : Nat} (hn : n ≤ 6) {g : Nat → Int32} {a : Nat} (ha : a < n) : fX3_nameOf (nI n) g (nI a) = some (g a) := X3_priorityOf hn ha
theorem X3_wantOf {n : Nat} (hn : n ≤ 6) {g : Nat → Int32} {a : Nat} (ha : a < n) : fX3_wantOf (nI n) g (nI a) = some (g a) := X3_priorityOf hn ha
theorem X3_blockOf {n : Nat} (hn : n ≤ 6) {g : Nat → Int32} {a : Nat} (ha : a < n) : fX3_blockOf (nI n) g (nI a) = some (g a) := X3_priorityOf hn ha
theorem X3_setPriority {n : Nat} (hn : n ≤ 6) {g : Nat → Int32} {a : Nat} (ha : a < n) (v : Int32) : fX3_setPriority (nI n) g (nI a) v = some (upd g a v) := by
  unfold fX3_setPriority
  rw [hasSw_nI (by omega) ha, bs, if_neg (by decide), gd_t (inB_nI (by omega) (by decide)), bd_eq, nI_N (by omega)]
theorem X3_setBlock {n : Nat} (hn : n ≤ 6) {g : Nat → Int32} {a : Nat} (ha : a < n) (v : Int32) : fX3_setBlock (nI n) g (nI a) v = some (upd g a v) := X3_setPriority hn ha v
theorem X3_placeOf {k : Nat} (hk : k ≤ 8) {g : Nat → Int32} {h : Nat} (hh : h < k) : fX3_placeOf (nI k) g (nI h) = some (g h) := by
  unfold fX3_placeOf
  rw [X3_hasHost, hasSw_nI (by omega) hh, bs, if_neg (by decide), gd_t (inB_nI (by omega) (by decide)), nI_N (by omega)]
theorem X3_noticesOf {k : Nat} (hk : k ≤ 8) {g : Nat → Int32} {h : Nat} (hh : h < k) : fX3_noticesOf (nI k) g (nI h) = some (g h) := by
  unfold fX3_noticesOf
  rw [X3_hasHost, hasSw_nI (by omega) hh, bs, if_neg (by decide), gd_t (inB_nI (by omega) (by decide)), nI_N (by omega)]
theorem X3_newsOf {k : Nat} (hk : k ≤ 8) {g : Nat → Int32} {h : Nat} (hh : h < k) : fX3_newsOf (nI k) g (nI h) = some (g h) := X3_noticesOf hk hh
theorem X3_setPlace {k : Nat} (hk : k ≤ 8) {g : Nat → Int32} {h : Nat} (hh : h < k) (v : Int32) : fX3_setPlace (nI k) g (nI h) v = some (upd g h v) := by
  unfold fX3_setPlace
  rw [X3_hasHost, hasSw_nI (by omega) hh, bs, if_neg (by decide), gd_t (inB_nI (by omega) (by decide)), bd_eq, nI_N (by omega)]
