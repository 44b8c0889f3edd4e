/-! zones, blocks, links -/
/-- zones put for a set of switches -/
theorem zone_both {n : Nat} (hn : n ≤ 6) {f zo : Nat → Int32} (h0 : f 0 = nI n) (hz0 : ∀ a, a < n → ∀ z, z < 4 → zo (4 * a + z) = f (47 + 4 * a + z)) (S : Int32) {z : Nat} (hz : z < 4) (v : Int32) :
    ∃ zo' g, fX3_setZone (nI n) zo S (nI z) v = some zo' ∧ fX8_zoned f S (nI z) v = some g ∧ (∀ a, a < n → ∀ y, y < 4 → zo' (4 * a + y) = g (47 + 4 * a + y)) ∧ (∀ a, a < n → ∀ y, y < 4 → g (47 + 4 * a + y) = if y = z ∧ bt S a = true then v else f (47 + 4 * a + y)) ∧ (∀ x, x < 47 ∨ 71 ≤ x → g x = f x) := by
  have hA := cl0 n (fun fu (w : Nat → Int32) i => fX3_setZone_L1 (nI n) S (nI z) v fu (nI i) w) (fun w a => if bt S a then upd w (4 * a + z) v else w) (fun w => (nI n, w))
    (fun w i => ∀ a, a < n → ∀ y, y < 4 → w (4 * a + y) = if (y = z ∧ bt S a = true) ∧ a < i then v else zo (4 * a + y))
    (by intro fu s _
        show fX3_setZone_L1 (nI n) S (nI z) v (fu + 1) (nI n) s = _
        rw [fX3_setZone_L1.eq_2, if_pos (nI_le (Nat.le_refl n) (by omega))])
    (by intro fu s i hi hs
        show fX3_setZone_L1 (nI n) S (nI z) v (fu + 1) (nI i) s = fX3_setZone_L1 (nI n) S (nI z) v fu (nI (i + 1)) _ ∧ _
        rw [fX3_setZone_L1.eq_2, if_neg (nI_ge hi (by omega)), X7_has (by omega), bs]
        cases hb : bt S i
        · rw [ifb_f, bd_eq, nI_1, if_neg (by decide)]
          refine ⟨rfl, fun a ha y hy => ?_⟩
          rw [hs a ha y hy]
          by_cases hai : a = i
          · subst hai
            rw [if_neg (by rw [hb]; simp), if_neg (by rw [hb]; simp)]
          · by_cases hq : (y = z ∧ bt S a = true) ∧ a < i
            · rw [if_pos hq, if_pos ⟨hq.1, by omega⟩]
            · rw [if_neg hq, if_neg (fun h => hq ⟨h.1, by omega⟩)]
        · rw [ifb_t, l4, pk_mul, nI_add, gd_t (inB_nI (by omega) (by decide)), bd_eq, bd_eq, nI_1, nI_N (by omega), if_pos rfl, Nat.mul_comm i 4]
          refine ⟨rfl, fun a ha y hy => ?_⟩
          by_cases hai : a = i ∧ y = z
          · obtain ⟨h1, h2⟩ := hai
            subst h1; subst h2
            rw [pk_us, if_pos ⟨⟨rfl, hb⟩, by omega⟩]
          · rw [pk_un (by omega), hs a ha y hy]
            by_cases hq : (y = z ∧ bt S a = true) ∧ a < i
            · rw [if_pos hq, if_pos ⟨hq.1, by omega⟩]
            · rw [if_neg hq, if_neg (fun h => hq ⟨h.1, by
                have : a ≠ i := fun e => hai ⟨e, h.1.1⟩
                omega⟩)])
    zo 500 (by omega) (fun a _ y _ => by rw [if_neg (by omega)])
  have hB := cl0 n (fun fu (w : Nat → Int32) i => fX8_zoned_L1 S (nI z) v fu (nI i) w) (fun w a => if bt S a then upd w (47 + 4 * a + z) v else w) (fun w => (nI n, w))
    (fun w i => (∀ a, a < n → ∀ y, y < 4 → w (47 + 4 * a + y) = if (y = z ∧ bt S a = true) ∧ a < i then v else f (47 + 4 * a + y)) ∧ ∀ x, x < 47 ∨ 71 ≤ x → w x = f x)
    (by intro fu s hs
        show fX8_zoned_L1 S (nI z) v (fu + 1) (nI n) s = _
        rw [fX8_zoned_L1.eq_2, gd_t (by decide), z0N, hs.2 0 (by omega), h0, if_pos (nI_le (Nat.le_refl n) (by omega))])
    (by intro fu s i hi hs
        show fX8_zoned_L1 S (nI z) v (fu + 1) (nI i) s = fX8_zoned_L1 S (nI z) v fu (nI (i + 1)) _ ∧ _
        rw [fX8_zoned_L1.eq_2, gd_t (by decide), z0N, hs.2 0 (by omega), h0, if_neg (nI_ge hi (by omega)), X8_has (by omega), bs]
        have ix : (47 + (4 * nI i)) + nI z = nI (47 + 4 * i + z) := by rw [l47, l4, pk_mul, nI_add, nI_add]
        cases hb : bt S i
        · rw [ifb_f, ix, gd_t (inB_nI (by omega) (by decide)), gd_t (inB_nI (by omega) (by decide)), bd_eq, bd_eq, nI_1, nI_N (by omega), fa_upd_same rfl, if_neg (by decide)]
          refine ⟨rfl, fun a ha y hy => ?_, hs.2⟩
          rw [hs.1 a ha y hy]
          by_cases hai : a = i
          · subst hai
            rw [if_neg (by rw [hb]; simp), if_neg (by rw [hb]; simp)]
          · by_cases hq : (y = z ∧ bt S a = true) ∧ a < i
            · rw [if_pos hq, if_pos ⟨hq.1, by omega⟩]
            · rw [if_neg hq, if_neg (fun h => hq ⟨h.1, by omega⟩)]
        · rw [ifb_t, ix, gd_t (inB_nI (by omega) (by decide)), bd_eq, bd_eq, nI_1, nI_N (by omega), if_pos rfl]
          refine ⟨rfl, fun a ha y hy => ?_, fun x hx => by rw [pk_un (by omega)]; exact hs.2 x hx⟩
          by_cases hai : a = i ∧ y = z
          · obtain ⟨h1, h2⟩ := hai
            subst h1; subst h2
            rw [pk_us, if_pos ⟨⟨rfl, hb⟩, by omega⟩]
          · rw [pk_un (by omega), hs.1 a ha y hy]
            by_cases hq : (y = z ∧ bt S a = true) ∧ a < i
            · rw [if_pos hq, if_pos ⟨hq.1, by omega⟩]
            · rw [if_neg hq, if_neg (fun h => hq ⟨h.1, by
                have : a ≠ i := fun e => hai ⟨e, h.1.1⟩
                omega⟩)])
    f 500 (by omega) ⟨fun a _ y _ => by rw [if_neg (by omega)], fun _ _ => rfl⟩
  obtain ⟨a1, a2⟩ := hA
  obtain ⟨b1', b2', b3'⟩ := hB
  have a1 : fX3_setZone_L1 (nI n) S (nI z) v 500 0 zo = _ := a1
  have b1' : fX8_zoned_L1 S (nI z) v 500 0 f = _ := b1'
  generalize (List.range n).foldl (fun w a => if bt S a = true then upd w (4 * a + z) v else w) zo = zo' at a1 a2
  generalize (List.range n).foldl (fun w a => if bt S a = true then upd w (47 + 4 * a + z) v else w) f = g at b1' b2' b3'
  refine ⟨zo', g, ?_, ?_, ?_, ?_, b3'⟩
  · unfold fX3_setZone
    rw [if_neg (nI_pos (by omega)), l4, if_pos (nI_lt hz (by decide)), a1, bs]
  · unfold fX8_zoned
    rw [b1', bs]
  · intro a ha y hy
    rw [a2 a ha y hy, b2' a ha y hy, hz0 a ha y hy]
  · intro a ha y hy
    rw [b2' a ha y hy]
    by_cases hq : y = z ∧ bt S a = true
    · rw [if_pos hq, if_pos ⟨hq, ha⟩]
    · rw [if_neg hq, if_neg (fun h => hq h.1)]
/-- do zones of a and b clash -/
def zc (f : Nat → Int32) (a b z : Nat) : Bool := !decide (f (47 + 4 * a + z) = 0) && (!decide (f (47 + 4 * b + z) = 0) && !decide (f (47 + 4 * a + z) = f (47 + 4 * b + z)))
def zcl (f : Nat → Int32) (a b : Nat) : Bool := (List.range 4).any (zc f a b)
theorem fold_or {α : Type} (c : α → Bool) (l : List α) (b : Bool) : l.foldl (fun b z => b || c z) b = (b || l.any c) := by
  induction l generalizing b with
  | nil => simp
  | cons x l ih => rw [List.foldl_cons, ih, List.any_cons, Bool.or_assoc]
theorem X3_zonesClash {n : Nat} (hn : n ≤ 6) {f zo : Nat → Int32} (hz0 : ∀ a, a < n → ∀ z, z < 4 → zo (4 * a + z) = f (47 + 4 * a + z)) {a b : Nat} (ha : a < n) (hb : b < n) : fX3_zonesClash (nI n) zo (nI a) (nI b) = some (bi (zcl f a b)) := by
  have key : ∀ (j i fu : Nat), i + j = 4 → j < fu → fX3_zonesClash_L1 (nI n) zo (nI a) (nI b) fu (nI i) = some (if (List.range' i j).any (zc f a b) then Sum.inl 1 else Sum.inr (nI 4)) := by
    intro j
    induction j with
    | zero =>
      intro i fu hi hf
      obtain ⟨q, rfl⟩ : ∃ q, fu = q + 1 := ⟨fu - 1, by omega⟩
      have : i = 4 := by omega
      subst this
      rw [fX3_zonesClash_L1.eq_2, if_pos (by decide)]
      rfl
    | succ j ih =>
      intro i fu hi hf
      obtain ⟨q, rfl⟩ : ∃ q, fu = q + 1 := ⟨fu - 1, by omega⟩
      rw [fX3_zonesClash_L1.eq_2, l4, if_neg (nI_ge (by omega) (by decide)), X3_zoneSet hn ha (by omega), bs, X3_zoneSet hn hb (by omega), bs, hz0 a ha i (by omega), hz0 b hb i (by omega), List.range'_succ, List.any_cons]
      have hih := ih (i + 1) q (by omega) (by omega)
      by_cases h1 : f (47 + 4 * a + i) = 0
      · rw [if_pos h1, bd_eq, nI_1, hih]
        have : zc f a b i = false := by unfold zc; rw [decide_eq_true h1]; rfl
        rw [this, Bool.false_or]
      · rw [if_neg h1]
        by_cases h2 : f (47 + 4 * b + i) = 0
        · rw [if_pos h2, bd_eq, nI_1, hih]
          have : zc f a b i = false := by unfold zc; rw [decide_eq_true h2]; simp
          rw [this, Bool.false_or]
        · rw [if_neg h2]
          by_cases h3 : f (47 + 4 * a + i) = f (47 + 4 * b + i)
          · rw [if_pos h3, bd_eq, nI_1, hih]
            have : zc f a b i = false := by unfold zc; rw [decide_eq_true h3]; simp
            rw [this, Bool.false_or]
          · rw [if_neg h3]
            have : zc f a b i = true := by unfold zc; rw [decide_eq_false h1, decide_eq_false h2, decide_eq_false h3]; rfl
            rw [this, Bool.true_or, if_pos rfl]
  have h := key 4 0 500 (by omega) (by omega)
  have h : fX3_zonesClash_L1 (nI n) zo (nI a) (nI b) 500 0 = _ := h
  unfold fX3_zonesClash zcl
  rw [h, bs, ← List.range_eq_range']
  cases (List.range 4).any (zc f a b) <;> rfl
theorem X8_doZonesClash {f : Nat → Int32} {a b : Nat} (ha : a < 6) (hb : b < 6) : fX8_doZonesClash f (nI a) (nI b) = some (bi (zcl f a b)) := by
  have h := cl1 4 (fun fu (w : Bool) i => fX8_doZonesClash_L1 f (nI a) (nI b) fu (bi w) (nI i)) (fun w z => w || zc f a b z) (fun w => (bi w, nI 4))
    (by intro fu s
        show fX8_doZonesClash_L1 f (nI a) (nI b) (fu + 1) (bi s) (nI 4) = _
        rw [fX8_doZonesClash_L1.eq_2, if_pos (by decide)])
    (by intro fu s i hi
        show fX8_doZonesClash_L1 f (nI a) (nI b) (fu + 1) (bi s) (nI i) = fX8_doZonesClash_L1 f (nI a) (nI b) fu (bi _) (nI (i + 1))
        rw [fX8_doZonesClash_L1.eq_2, l4, if_neg (nI_ge hi (by decide))]
        cases s
        · rw [ifb_f, X8_zoneOf ha hi, bs, X8_zoneOf hb hi, bs, bs, bs, Bool.false_or]
          unfold zc
          by_cases h1 : f (47 + 4 * a + i) = 0
          · rw [if_pos h1, decide_eq_true h1, bd_eq, nI_1]; rfl
          · rw [if_neg h1, decide_eq_false h1]
            by_cases h2 : f (47 + 4 * b + i) = 0
            · rw [if_pos h2, decide_eq_true h2, bd_eq, nI_1]; rfl
            · rw [if_neg h2, decide_eq_false h2]
              by_cases h3 : f (47 + 4 * a + i) = f (47 + 4 * b + i)
              · rw [if_pos h3, decide_eq_true h3, bd_eq, nI_1]; rfl
              · rw [if_neg h3, decide_eq_false h3, bd_eq, nI_1]; rfl
        · rw [ifb_t, bd_eq, nI_1]; rfl)
    false 500 (by omega)
  have h : fX8_doZonesClash_L1 f (nI a) (nI b) 500 0 0 = _ := h
  unfold fX8_doZonesClash zcl
  rw [h, bs, gd_t (bi_or _), fold_or, Bool.false_or]
/-- the blocks of a set of switches -/
def blk (n : Nat) (f : Nat → Int32) (S : Int32) : Int32 := (List.range n).foldl (fun w a => if bt S a then w ||| (1 <<< (f (6 + 4 * a) &&& 31)) else w) 0
theorem X3_blocksIn {n : Nat} (hn : n ≤ 6) {f bl : Nat → Int32} (hb : ∀ a, a < n → bl a = f (6 + 4 * a)) (S : Int32) : fX3_blocksIn (nI n) bl S = some (blk n f S) := by
  unfold fX3_blocksIn
  have h := cl1 n (fun fu w i => fX3_blocksIn_L1 (nI n) bl S fu w (nI i)) (fun w a => if bt S a then w ||| (1 <<< (f (6 + 4 * a) &&& 31)) else w) (fun w => (w, nI n))
    (by intro fu s
        show fX3_blocksIn_L1 (nI n) bl S (fu + 1) s (nI n) = _
        rw [fX3_blocksIn_L1.eq_2, if_pos (nI_le (Nat.le_refl n) (by omega))])
    (by intro fu s i hi
        show fX3_blocksIn_L1 (nI n) bl S (fu + 1) s (nI i) = fX3_blocksIn_L1 (nI n) bl S fu _ (nI (i + 1))
        rw [fX3_blocksIn_L1.eq_2, if_neg (nI_ge hi (by omega)), X7_has (by omega), bs]
        cases hq : bt S i
        · rw [ifb_f, bd_eq, nI_1]; rfl
        · rw [ifb_t, gd_t (inB_nI (by omega) (by decide)), bd_eq, bd_eq, nI_1, nI_N (by omega), hb i hi]; rfl)
    0 500 (by omega)
  have h : fX3_blocksIn_L1 (nI n) bl S 500 0 0 = _ := h
  rw [h, bs]
  rfl
theorem X8_blocksOf {n : Nat} (hn : n ≤ 6) {f : Nat → Int32} (h0 : f 0 = nI n) (S : Int32) : fX8_blocksOf f S = some (blk n f S) := by
  unfold fX8_blocksOf
  have h := cl1 n (fun fu w i => fX8_blocksOf_L1 f S fu w (nI i)) (fun w a => if bt S a then w ||| (1 <<< (f (6 + 4 * a) &&& 31)) else w) (fun w => (w, nI n))
    (by intro fu s
        show fX8_blocksOf_L1 f S (fu + 1) s (nI n) = _
        rw [fX8_blocksOf_L1.eq_2, gd_t (by decide), z0N, h0, if_pos (nI_le (Nat.le_refl n) (by omega))])
    (by intro fu s i hi
        show fX8_blocksOf_L1 f S (fu + 1) s (nI i) = fX8_blocksOf_L1 f S fu _ (nI (i + 1))
        rw [fX8_blocksOf_L1.eq_2, gd_t (by decide), z0N, h0, if_neg (nI_ge hi (by omega)), X8_has (by omega), bs]
        have o3 := X8_of (f := f) (a := i) (w := 3) (by omega) (by omega)
        rw [show 3 + 4 * i + 3 = 6 + 4 * i by omega] at o3
        cases hq : bt S i
        · rw [ifb_f, bd_eq, bd_eq, nI_1, orz]; rfl
        · rw [ifb_t, l3, o3, bs, bd_eq, bd_eq, nI_1]; rfl)
    0 500 (by omega)
  have h : fX8_blocksOf_L1 f S 500 0 0 = _ := h
  rw [h, bs]
  rfl
/-- what joining would be -/
def outc (n : Nat) (f : Nat → Int32) (a b : Nat) : Nat :=
  if bt (fab n (UPr f) a) b then 0 else if blk n f (fab n (UPr f) a) &&& blk n f (fab n (UPr f) b) = 0 then (if zcl f a b then 4 else 1) else if zcl f a b then 5 else if f 2 = 1 then 2 else 3
theorem X3_outcomeOf {n : Nat} (hn : n ≤ 6) {f bl up zo : Nat → Int32} {re : Int32} (hB : Bd n (UPr f)) (hre : re = f 2) (h2 : f 2 = 0 ∨ f 2 = 1) (hbl : ∀ a, a < n → bl a = f (6 + 4 * a)) (hu : ∀ a, a < n → up a = f (35 + a)) (hz0 : ∀ a, a < n → ∀ z, z < 4 → zo (4 * a + z) = f (47 + 4 * a + z)) {a b : Nat} (ha : a < n) (hb : b < n) :
    fX3_outcomeOf (nI n) re bl up zo (nI a) (nI b) = some (nI (outc n f a b)) := by
  unfold fX3_outcomeOf outc
  rw [X3_fabricOf hn hB hu ha, bs, X7_has (by omega), bs]
  cases bt (fab n (UPr f) a) b
  · rw [ifb_f, X3_blocksIn hn hbl, bs, X3_fabricOf hn hB hu hb, bs, X3_blocksIn hn hbl, bs, X3_zonesClash hn hz0 ha hb, bs, bs, hre]
    by_cases hq : blk n f (fab n (UPr f) a) &&& blk n f (fab n (UPr f) b) = 0
    · rw [if_pos hq, if_pos hq]
      cases zcl f a b <;> rfl
    · rw [if_neg hq, if_neg hq]
      cases zcl f a b
      · rw [ifb_f]
        rcases h2 with h2 | h2 <;> rw [h2] <;> rfl
      · rfl
  · rfl
theorem X8_wouldBe {n : Nat} (hn : n ≤ 6) {f : Nat → Int32} (h0 : f 0 = nI n) (h2 : f 2 = 0 ∨ f 2 = 1) {a b : Nat} (ha : a < n) (hb : b < n) : fX8_wouldBe f (nI a) (nI b) = some (nI (outc n f a b)) := by
  unfold fX8_wouldBe outc
  rw [X8_fabricOf hn h0 ha, bs, X8_has (by omega), bs]
  have hbc : fX8_doBlocksClash f (nI a) (nI b) = some (if blk n f (fab n (UPr f) a) &&& blk n f (fab n (UPr f) b) = 0 then 0 else 1) := by
    unfold fX8_doBlocksClash
    rw [X8_fabricOf hn h0 ha, bs, X8_blocksOf hn h0, bs, X8_fabricOf hn h0 hb, bs, X8_blocksOf hn h0, bs]
    split <;> rfl
  show (if bi (bt (fab n (UPr f) a) b) = 0 then _ else _) = _
  cases bt (fab n (UPr f) a) b
  · rw [ifb_f, X8_doZonesClash (by omega) (by omega), bs, hbc, bs]
    by_cases hq : blk n f (fab n (UPr f) a) &&& blk n f (fab n (UPr f) b) = 0
    · rw [if_pos hq, if_pos hq]
      cases zcl f a b <;> rfl
    · rw [if_neg hq, if_neg hq]
      cases zcl f a b
      · rw [ifb_f, if10, gd_t (by decide), z2N]
        rcases h2 with h2 | h2 <;> rw [h2] <;> rfl
      · rfl
  · rfl
/-- a bit set or not -/
def lk (x : Int32) (b : Nat) (on : Bool) : Int32 := if on then x ||| b1 b else x &&& (b1 b ^^^ (-1))
theorem bt_lk {x : Int32} {b : Nat} (hb : b < 32) {on : Bool} {i : Nat} (hi : i < 32) : bt (lk x b on) i = if i = b then on else bt x i := by
  unfold lk
  cases on
  · rw [if_neg (by decide), b_and, b_not hi, b_b1 hb]
    by_cases h : i = b
    · rw [if_pos h, decide_eq_true h]; simp
    · rw [if_neg h, decide_eq_false h]; simp
  · rw [if_pos rfl, b_or, b_b1 hb]
    by_cases h : i = b
    · rw [if_pos h, decide_eq_true h]; simp
    · rw [if_neg h, decide_eq_false h]; simp
theorem put_lk (x : Int32) {b : Nat} (hb : b < 32) (on : Bool) : (x &&& ((1 <<< (nI b &&& 31)) ^^^ (-1))) ||| (bi on <<< (nI b &&& 31)) = lk x b on := by
  refine b_ext (fun i hi => ?_)
  rw [bt_lk hb hi, b_or, b_and, b_not hi, show ((1 : Int32) <<< (nI b &&& 31)) = b1 b from rfl, b_b1 hb, b_shl b hb _ hi]
  cases on
  · rw [bi_f, b_0]
    by_cases h : i = b
    · rw [if_pos h, decide_eq_true h]; simp
    · rw [if_neg h, decide_eq_false h]; simp
  · rw [bi_t, b_1]
    by_cases h : i = b
    · subst h; simp
    · rw [if_neg h, decide_eq_false h]
      have : (decide (b ≤ i) && decide (i - b = 0)) = false := by simp; omega
      rw [this]; simp
/-- the link's state as a number: none 0, up 1, clashed 2 -/
def ls3 (u c : Bool) : Int32 := if u then 1 else if c then 2 else 0
theorem X3_setEnd {up cl : Nat → Int32} {a b : Nat} (ha : a < 6) {u c : Bool} (huc : ¬ (u = true ∧ c = true)) : fX3_setEnd up cl (nI a) (b1 b) (ls3 u c) = some (upd up a (lk (up a) b u), upd cl a (lk (cl a) b c)) := by
  unfold fX3_setEnd
  have e : ∀ t : Option ((Nat → Int32) × (Nat → Int32)), gd (inB (nI a) 6 = true) t = t := fun t => gd_t (inB_nI (by omega) (by decide))
  simp only [e, nI_N (show a < 2 ^ 31 by omega), bd_eq]
  cases u <;> cases c <;> first | rfl | exact absurd ⟨rfl, rfl⟩ huc
theorem upd_ne2 {f : Nat → Int32} {a b : Nat} {v : Int32} (h : a ≠ b) : upd f a v b = f b := pk_un (fun e => h e.symm)
theorem link_both {n : Nat} (hn : n ≤ 6) {f up cl : Nat → Int32} (hu : ∀ a, a < n → up a = f (35 + a)) (hc : ∀ a, a < n → cl a = f (41 + a)) {a b : Nat} (ha : a < n) (hb : b < n) (hab : a ≠ b) {u c : Bool} (huc : ¬ (u = true ∧ c = true)) :
    ∃ up' cl' g, fX3_setLink (nI n) up cl (nI a) (nI b) (ls3 u c) = some (up', cl') ∧ fX8_putLink f (nI a) (nI b) (bi u) (bi c) = some g ∧ (∀ d, d < n → up' d = g (35 + d)) ∧ (∀ d, d < n → cl' d = g (41 + d)) ∧
      (∀ d, d < 6 → ∀ i, i < 32 → bt (g (35 + d)) i = if (d = a ∧ i = b) ∨ (d = b ∧ i = a) then u else bt (f (35 + d)) i) ∧ (∀ d, d < 6 → ∀ i, i < 32 → bt (g (41 + d)) i = if (d = a ∧ i = b) ∨ (d = b ∧ i = a) then c else bt (f (41 + d)) i) ∧
      (∀ x, x ≠ 35 + a → x ≠ 35 + b → x ≠ 41 + a → x ≠ 41 + b → g x = f x) := by
  refine ⟨upd (upd up a (lk (up a) b u)) b (lk (up b) a u), upd (upd cl a (lk (cl a) b c)) b (lk (cl b) a c),
    upd (upd (upd (upd f (35 + a) (lk (f (35 + a)) b u)) (35 + b) (lk (f (35 + b)) a u)) (41 + a) (lk (f (41 + a)) b c)) (41 + b) (lk (f (41 + b)) a c), ?_, ?_, ?_, ?_, ?_, ?_, ?_⟩
  · unfold fX3_setLink
    rw [hasTwo_nI (by omega) ha hb hab, bs, if10, show ((1 : Int32) <<< (nI b &&& 31)) = b1 b from rfl, show ((1 : Int32) <<< (nI a &&& 31)) = b1 a from rfl, X3_setEnd (by omega) huc, bs, X3_setEnd (by omega) huc, bs]
    dsimp only
    rw [upd_ne2 hab, upd_ne2 hab]
  · unfold fX8_putLink
    rw [l35, l41, nI_add, nI_add, nI_add, nI_add, gd_t (inB_nI (by omega) (by decide)), gd_t (inB_nI (by omega) (by decide)), bd_eq, gd_t (inB_nI (by omega) (by decide)), gd_t (inB_nI (by omega) (by decide)), bd_eq, gd_t (inB_nI (by omega) (by decide)), gd_t (inB_nI (by omega) (by decide)), bd_eq, gd_t (inB_nI (by omega) (by decide)), gd_t (inB_nI (by omega) (by decide)), bd_eq,
      nI_N (by omega), nI_N (by omega), nI_N (by omega), nI_N (by omega), put_lk _ (by omega), upd_ne2 (by omega), put_lk _ (by omega), upd_ne2 (by omega), upd_ne2 (by omega), put_lk _ (by omega), upd_ne2 (by omega), upd_ne2 (by omega), upd_ne2 (by omega), put_lk _ (by omega)]
  · intro d hd
    by_cases h1 : d = b
    · subst h1
      rw [pk_us, upd_ne2 (by omega), upd_ne2 (by omega), pk_us, hu d hd]
    · by_cases h2 : d = a
      · subst h2
        rw [pk_un h1, pk_us, upd_ne2 (by omega), upd_ne2 (by omega), upd_ne2 (by omega), pk_us, hu d hd]
      · rw [pk_un h1, pk_un h2, upd_ne2 (by omega), upd_ne2 (by omega), upd_ne2 (by omega), upd_ne2 (by omega), hu d hd]
  · intro d hd
    by_cases h1 : d = b
    · subst h1
      rw [pk_us, pk_us, hc d hd]
    · by_cases h2 : d = a
      · subst h2
        rw [pk_un h1, pk_us, upd_ne2 (by omega), pk_us, hc d hd]
      · rw [pk_un h1, pk_un h2, upd_ne2 (by omega), upd_ne2 (by omega), upd_ne2 (by omega), upd_ne2 (by omega), hc d hd]
  · intro d hd i hi
    rw [upd_ne2 (by omega), upd_ne2 (by omega)]
    by_cases h1 : d = b
    · subst h1
      rw [pk_us, bt_lk (by omega) hi]
      by_cases h3 : i = a
      · rw [if_pos h3, if_pos (Or.inr ⟨rfl, h3⟩)]
      · rw [if_neg h3, if_neg (by omega)]
    · rw [pk_un (by omega)]
      by_cases h2 : d = a
      · subst h2
        rw [pk_us, bt_lk (by omega) hi]
        by_cases h3 : i = b
        · rw [if_pos h3, if_pos (Or.inl ⟨rfl, h3⟩)]
        · rw [if_neg h3, if_neg (by omega)]
      · rw [pk_un (by omega), if_neg (by omega)]
  · intro d hd i hi
    by_cases h1 : d = b
    · subst h1
      rw [pk_us, bt_lk (by omega) hi]
      by_cases h3 : i = a
      · rw [if_pos h3, if_pos (Or.inr ⟨rfl, h3⟩)]
      · rw [if_neg h3, if_neg (by omega)]
    · rw [pk_un (by omega)]
      by_cases h2 : d = a
      · subst h2
        rw [pk_us, bt_lk (by omega) hi]
        by_cases h3 : i = b
        · rw [if_pos h3, if_pos (Or.inl ⟨rfl, h3⟩)]
        · rw [if_neg h3, if_neg (by omega)]
      · rw [pk_un (by omega), upd_ne2 (by omega), upd_ne2 (by omega), if_neg (by omega)]
  · intro x h1 h2 h3 h4
    rw [pk_un h4, pk_un h3, pk_un h2, pk_un h1]
