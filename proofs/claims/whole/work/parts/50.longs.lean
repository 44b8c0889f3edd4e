/-! Int64 by its bits -/
def bL (x : Int64) (i : Nat) : Bool := x.toBitVec.getLsbD i
theorem L_ext {x y : Int64} (h : ∀ i, i < 64 → bL x i = bL y i) : x = y := Int64.toBitVec_inj.mp (BitVec.eq_of_getLsbD_eq (fun i hi => h i hi))
theorem L_or (x y : Int64) (i : Nat) : bL (x ||| y) i = (bL x i || bL y i) := by unfold bL; rw [Int64.toBitVec_or, BitVec.getLsbD_or]
theorem L_and (x y : Int64) (i : Nat) : bL (x &&& y) i = (bL x i && bL y i) := by unfold bL; rw [Int64.toBitVec_and, BitVec.getLsbD_and]
theorem L_xor (x y : Int64) (i : Nat) : bL (x ^^^ y) i = (bL x i ^^ bL y i) := by unfold bL; rw [Int64.toBitVec_xor, BitVec.getLsbD_xor]
theorem L_big {x : Int64} {i : Nat} (h : 64 ≤ i) : bL x i = false := BitVec.getLsbD_of_ge _ _ h
theorem L_0 (i : Nat) : bL 0 i = false := BitVec.getLsbD_zero
theorem L_m1 : ∀ i, i < 64 → bL (-1) i = true := by decide +kernel
theorem L_not {x : Int64} {i : Nat} (h : i < 64) : bL (x ^^^ (-1)) i = !bL x i := by rw [L_xor, L_m1 i h]; simp
theorem L_1 (i : Nat) : bL 1 i = decide (i = 0) := by
  rcases Nat.lt_or_ge i 64 with h | h
  · exact (by decide +kernel : ∀ i, i < 64 → bL 1 i = decide (i = 0)) i h
  · rw [L_big h, decide_eq_false (by omega)]
theorem L_s : ∀ n, n < 64 → (((nI n).toInt64 &&& 63).toBitVec.smod 64).toNat = n := by decide +kernel
theorem L_u : ∀ n, n < 64 → (((nI n).toInt64.toUInt64 &&& Int64.toUInt64 63).toBitVec % 64).toNat = n := by decide +kernel
theorem L_shl (n : Nat) (hn : n < 64) (x : Int64) {i : Nat} (hi : i < 64) : bL (lshl x (nI n)) i = (decide (n ≤ i) && bL x (i - n)) := by
  unfold bL lshl
  rw [Int64.toBitVec_shiftLeft]
  show (x.toBitVec <<< (((nI n).toInt64 &&& 63).toBitVec.smod 64).toNat).getLsbD i = _
  rw [L_s n hn, BitVec.getLsbD_shiftLeft]
  rcases Nat.lt_or_ge i n with h | h
  · simp [h, Nat.not_le.mpr h]
  · simp [hi, h, Nat.not_lt.mpr h]
theorem L_ushr (n : Nat) (hn : n < 64) (x : Int64) (i : Nat) : bL (lushr x (nI n)) i = bL x (n + i) := by
  unfold lushr
  show (x.toUInt64 >>> ((nI n).toInt64.toUInt64 &&& Int64.toUInt64 63)).toBitVec.getLsbD i = x.toUInt64.toBitVec.getLsbD (n + i)
  rw [UInt64.toBitVec_shiftRight]
  show (x.toUInt64.toBitVec >>> (((nI n).toInt64.toUInt64 &&& Int64.toUInt64 63).toBitVec % 64).toNat).getLsbD i = _
  rw [L_u n hn, BitVec.getLsbD_ushiftRight]
theorem L_low (x : Int64) {i : Nat} (hi : i < 32) : bt x.toInt32 i = bL x i := by
  unfold bt bL
  rw [Int64.toBitVec_toInt32, BitVec.getLsbD_signExtend]
  simp [hi, show i < 64 by omega]
theorem L_ext32 {x : Int32} (h : bt x 31 = false) {i : Nat} (hi : i < 64) : bL x.toInt64 i = bt x i := by
  unfold bt bL at *
  rw [Int32.toBitVec_toInt64, BitVec.getLsbD_signExtend, BitVec.msb_eq_getLsbD_last]
  rcases Nat.lt_or_ge i 32 with h1 | h1
  · simp [hi, h1]
  · rw [if_neg (by omega), show 32 - 1 = 31 from rfl, h, BitVec.getLsbD_of_ge _ _ h1]; simp
/-- one bit of a view -/
def vb (g h : Nat) : Int64 := lshl 1 (nI (8 * g + h))
theorem L_vb {g h : Nat} (hg : g < 8) (hh : h < 8) {i : Nat} (hi : i < 64) : bL (vb g h) i = decide (i = 8 * g + h) := by
  unfold vb
  rw [L_shl _ (by omega) _ hi, L_1]
  by_cases hq : i = 8 * g + h
  · subst hq; simp
  · rw [decide_eq_false hq]
    by_cases h2 : 8 * g + h ≤ i
    · rw [decide_eq_false (by omega : ¬ i - (8 * g + h) = 0)]; simp
    · rw [decide_eq_false h2]; simp
theorem X7_viewBit (g h : Nat) : fX7_viewBit (nI g) (nI h) = some (vb g h) := by
  unfold fX7_viewBit vb
  rw [l8, pk_mul, nI_add]
theorem lg_eq (x y : Int64) : lg_cmp x y = 0 ↔ x = y := by
  unfold lg_cmp
  constructor
  · intro h
    split at h
    · cases h
    · split at h
      · assumption
      · cases h
  · intro h
    subst h
    rw [if_neg (fun h => by rw [gt_iff_lt, fa_lt64] at h; omega), if_pos rfl]
/-- the row of a host -/
theorem X7_rowOf (V : Int64) {g : Nat} (hg : g < 8) : ∃ r, fX7_rowOf V (nI g) = some r ∧ ∀ i, i < 32 → bt r i = (decide (i < 8) && bL V (8 * g + i)) := by
  refine ⟨_, rfl, fun i hi => ?_⟩
  rw [b_and, b_255, l8, pk_mul, L_low _ hi, L_ushr _ (by omega), Bool.and_comm]
