/-! reading a text, both ways -/
abbrev T12 : Type := Int32 × Int32 × (Nat → Int32) × (Nat → Int32) × (Nat → Int32) × (Nat → Int32) × (Nat → Int32) × (Nat → Int32) × (Nat → Int32) × (Nat → Int32) × (Nat → Int32) × (Nat → Int32)
abbrev u_pr (u : T12) := u.2.2.1
abbrev u_na (u : T12) := u.2.2.2.1
abbrev u_wa (u : T12) := u.2.2.2.2.1
abbrev u_bl (u : T12) := u.2.2.2.2.2.1
abbrev u_up (u : T12) := u.2.2.2.2.2.2.1
abbrev u_cl (u : T12) := u.2.2.2.2.2.2.2.1
abbrev u_zo (u : T12) := u.2.2.2.2.2.2.2.2.1
abbrev u_pl (u : T12) := u.2.2.2.2.2.2.2.2.2.1
abbrev u_no (u : T12) := u.2.2.2.2.2.2.2.2.2.2.1
abbrev u_ne (u : T12) := u.2.2.2.2.2.2.2.2.2.2.2
def C7 (L7 : Nat → Int32) (L fu p v3 : Nat) (aw pri nam : Int32) (u : T12) := fX4_faultOf_L1 L7 (nI L) (0, 0, 0) fu (nI p) (nI v3) aw pri nam u.1 u.2.1 (u_pr u) (u_na u) (u_wa u) (u_bl u) (u_up u) (u_cl u) (u_zo u) (u_pl u) (u_no u) (u_ne u)
def tk7 (aw pri nam : Int32) (u : T12) (c n : Int32) := fX4_takes aw pri nam u.1 u.2.1 (u_pr u) (u_na u) (u_wa u) (u_bl u) (u_up u) (u_cl u) (u_zo u) (u_pl u) (u_no u) (u_ne u) c n
theorem l100' : (100 : Int32) = nI 100 := rfl
theorem c_end {L7 : Nat → Int32} {L fu p v3 : Nat} {aw pri nam : Int32} {u : T12} (hL : L ≤ 100) (hp : p = L) (hf : 0 < fu) : C7 L7 L fu p v3 aw pri nam u = some (Sum.inr (nI p, nI v3, aw, pri, nam, u)) := by
  obtain ⟨z, rfl⟩ : ∃ z, fu = z + 1 := ⟨fu - 1, by omega⟩
  unfold C7
  rw [fX4_faultOf_L1.eq_2]
  by_cases h : (100 : Int32) ≤ nI v3
  · rw [if_pos h]
  · rw [if_neg h]
    unfold fX5_size
    rw [bs, hp, if_pos (nI_le (Nat.le_refl L) (by omega))]
theorem c_step {L7 t : Nat → Int32} {L : Nat} (hT : Tx t L) (h7 : ∀ i, i < L → L7 i = t i) {fu p v3 : Nat} (hp : p < L) (hv : v3 ≤ p) (hfu : L - p < fu) {aw pri nam : Int32} {u : T12} {z : Int32 × Int32 × Int32 × Int32 × T12} (ht : tk7 aw pri nam u (nI (ch t p)) (no1 (nm t L p)) = some z) :
    (z.1 = 0 → ∃ y, C7 L7 L fu p v3 aw pri nam u = some (Sum.inl y) ∧ y.1 = nI p) ∧ (¬ z.1 = 0 → ∃ fu', C7 L7 L fu p v3 aw pri nam u = C7 L7 L fu' (sk t L (te t L p)) (v3 + 1) z.2.1 z.2.2.1 z.2.2.2.1 z.2.2.2.2 ∧ L - sk t L (te t L p) < fu' ∧ v3 + 1 ≤ sk t L (te t L p)) := by
  have hL := hT.1
  have hgt := te_gt t L p
  have hle := te_le (t := t) hp
  have hsg := sk_ge t L (te t L p)
  have hsl := sk_le (t := t) hle
  obtain ⟨q, rfl⟩ : ∃ q, fu = q + 1 := ⟨fu - 1, by omega⟩
  have ht : fX4_takes aw pri nam u.1 u.2.1 (u_pr u) (u_na u) (u_wa u) (u_bl u) (u_up u) (u_cl u) (u_zo u) (u_pl u) (u_no u) (u_ne u) (nI (ch t p)) (no1 (nm t L p)) = some z := ht
  have e : C7 L7 L (q + 1) p v3 aw pri nam u = if z.1 = 0 then some (Sum.inl (nI p, z.2.1, z.2.2.1, z.2.2.2.1, z.2.2.2.2.1, z.2.2.2.2.2.1, 0, z.2.2.2.2.2.2)) else C7 L7 L q (sk t L (te t L p)) (v3 + 1) z.2.1 z.2.2.1 z.2.2.2.1 z.2.2.2.2 := by
    unfold C7
    rw [fX4_faultOf_L1.eq_2, l100, if_neg (nI_ge (by omega) (by omega))]
    unfold fX5_size
    rw [bs, if_neg (nI_ge hp (by omega)), X5_tokenEnd hT h7 hp, bs, X5_letterAt hT h7 hp, bs, X5_numberAt hT h7 hp, bs, ht, bs, X5_skipBlanks hT h7 hle, bs, bd_eq, nI_1]
  refine ⟨fun h => ?_, fun h => ?_⟩
  · rw [e, if_pos h]
    exact ⟨_, rfl, rfl⟩
  · rw [e, if_neg h]
    exact ⟨q, rfl, by omega, by omega⟩
/-- the net under way and the row under way -/
def RT (u : T12) (f : Nat → Int32) (m k : Nat) : Prop := u.1 = nI m ∧ u.2.1 = nI k ∧ f 0 = nI m ∧ f 1 = nI k ∧ f 2 = 0 ∧ m ≤ 6 ∧ k ≤ 8 ∧ RwD f m ∧ RwN f m ∧ RwP f m k ∧ (∀ x, 35 ≤ x → x < 87 → f x = 0) ∧
  (∀ a, a < m → u_pr u a = f (3 + 4 * a) ∧ u_na u a = f (4 + 4 * a) ∧ u_wa u a = f (5 + 4 * a) ∧ u_bl u a = f (6 + 4 * a) ∧ u_up u a = 0 ∧ u_cl u a = 0 ∧ ∀ z, z < 4 → u_zo u (4 * a + z) = 0) ∧ ∀ h, h < k → u_pl u h = f (27 + h) ∧ u_no u h = 0 ∧ u_ne u h = 0
theorem RT_inv {u : T12} {f : Nat → Int32} {m k : Nat} (h : RT u f m k) : Inv f m k := by
  obtain ⟨-, -, h0, h1, h2, hm, hk, hD, hN, hP, hz, -⟩ := h
  have hu : ∀ a, a < 6 → f (35 + a) = 0 := fun a ha => hz _ (by omega) (by omega)
  have hc : ∀ a, a < 6 → f (41 + a) = 0 := fun a ha => hz _ (by omega) (by omega)
  refine ⟨⟨h0, h1, hm, hk, Or.inl h2⟩, hD, hN, hP, ⟨fun a ha i hi => ?_, fun a b ha hb hi => ?_, fun a ha => ?_, fun a ha h6 => hu a h6⟩, ⟨fun a ha i hi => ?_, fun a b ha hb hi => ?_, fun a ha => ?_, fun a ha h6 => hc a h6⟩, fun a ha z hz' i hi => ?_, fun a b ha hc' z hz' => ?_⟩
  · have hi : bt (f (35 + a)) i = true := hi
    rw [hu a (by omega), b_0] at hi; cases hi
  · have hi : bt (f (35 + a)) b = true := hi
    rw [hu a (by omega), b_0] at hi; cases hi
  · show bt (f (35 + a)) a = false
    rw [hu a (by omega), b_0]
  · have hi : bt (f (41 + a)) i = true := hi
    rw [hc a (by omega), b_0] at hi; cases hi
  · have hi : bt (f (41 + a)) b = true := hi
    rw [hc a (by omega), b_0] at hi; cases hi
  · show bt (f (41 + a)) a = false
    rw [hc a (by omega), b_0]
  · rw [hz _ (by omega) (by omega), b_0] at hi; cases hi
  · have hb : b < 6 := Cnn.least (T := fun x => x < 6) (by omega) (by omega) (fun c d hcm _ hd => by
      have hd : bt (f (35 + c)) d = true := hd
      rw [hu c (by omega), b_0] at hd; cases hd) hc'
    rw [hz _ (by omega) (by omega), hz _ (by omega) (by omega)]
theorem RT_rn {u : T12} {f : Nat → Int32} {m k : Nat} (h : RT u f m k) : RN (u.1, u.2.1, 0, u.2.2) f m k := by
  obtain ⟨e1, e2, h0, h1, h2, hm, hk, hD, hN, hP, hz, hs, hh⟩ := h
  refine ⟨e1, e2, h2.symm, fun a ha => (hs a ha).1, fun a ha => (hs a ha).2.1, fun a ha => (hs a ha).2.2.1, fun a ha => (hs a ha).2.2.2.1, fun a ha => ?_, fun a ha => ?_, fun a ha z hz' => ?_, fun a ha => (hh a ha).1, fun a ha => ?_, fun a ha => ?_⟩
  · rw [hz _ (by omega) (by omega)]; exact (hs a ha).2.2.2.2.1
  · rw [hz _ (by omega) (by omega)]; exact (hs a ha).2.2.2.2.2.1
  · rw [hz _ (by omega) (by omega)]; exact (hs a ha).2.2.2.2.2.2 z hz'
  · rw [hz _ (by omega) (by omega)]; exact (hh a ha).2.1
  · rw [hz _ (by omega) (by omega)]; exact (hh a ha).2.2
def inn (o : Option Nat) (lo hi : Nat) : Bool := match o with | some n => decide (lo ≤ n) && decide (n ≤ hi) | none => false
theorem X8_isNumber {t : Nat → Int32} {L p : Nat} (hp : p < L) {v : Int32} (hv : ∀ n, nm t L p = some n → v = nI n) {lo hi : Nat} (hlo : lo < 1000) (hhi : hi < 1000) : fX8_isNumber (tok t L p) v (nI lo) (nI hi) = some (bi (inn (nm t L p) lo hi)) := by
  unfold fX8_isNumber
  cases hn : nm t L p with
  | some n =>
    have hlt := nm_lt hp hn
    have hf : fg t p = true := by
      cases h : fg t p
      · unfold nm at hn; rw [h] at hn; cases hn
      · rfl
    have ht : tok t L p = 1001 := by unfold tok; rw [hf, hn]; rfl
    rw [ht, if_pos rfl, hv n hn, X8_in, bs]
    unfold inn
    rw [show decide (nI lo ≤ nI n) = decide (lo ≤ n) from decide_eq_decide.mpr (nI_leI (by omega) (by omega)), show decide (nI n ≤ nI hi) = decide (n ≤ hi) from decide_eq_decide.mpr (nI_leI (by omega) (by omega))]
    show _ = some (bi (decide (lo ≤ n) && decide (n ≤ hi)))
    cases (decide (lo ≤ n) && decide (n ≤ hi)) <;> rfl
  | none =>
    have ht : ¬ tok t L p = 1001 := by
      unfold tok
      rw [hn]
      cases fg t p
      · rw [if_neg (by decide)]
        split
        · decide
        · split
          · decide
          · split
            · decide
            · split <;> decide
      · rw [if_pos rfl]; decide
    rw [if_neg ht]
    rfl
theorem X8_isNumber_end (v lo hi : Int32) : fX8_isNumber 1000 v lo hi = some 0 := rfl
/-- what the word's first letter tells of it -/
theorem tok_s {t : Nat → Int32} {L p : Nat} {x : Nat} (hx : x = 115 ∨ x = 104 ∨ x = 45 ∨ x = 59) : tok t L p = nI x ↔ ch t p = x := by
  have hfx : ch t p = x → fg t p = false := by
    intro h
    unfold fg
    rw [h]
    rcases hx with rfl | rfl | rfl | rfl <;> rfl
  constructor
  · intro h
    unfold tok at h
    cases hf : fg t p
    · rw [hf, if_neg (by decide)] at h
      by_cases q1 : ch t p = 115
      · rw [if_pos q1] at h
        rcases hx with rfl | rfl | rfl | rfl
        · exact q1
        · exact absurd h (by decide)
        · exact absurd h (by decide)
        · exact absurd h (by decide)
      · rw [if_neg q1] at h
        by_cases q2 : ch t p = 104
        · rw [if_pos q2] at h
          rcases hx with rfl | rfl | rfl | rfl
          · exact absurd h (by decide)
          · exact q2
          · exact absurd h (by decide)
          · exact absurd h (by decide)
        · rw [if_neg q2] at h
          by_cases q3 : ch t p = 45
          · rw [if_pos q3] at h
            rcases hx with rfl | rfl | rfl | rfl
            · exact absurd h (by decide)
            · exact absurd h (by decide)
            · exact q3
            · exact absurd h (by decide)
          · rw [if_neg q3] at h
            by_cases q4 : ch t p = 59
            · rw [if_pos q4] at h
              rcases hx with rfl | rfl | rfl | rfl
              · exact absurd h (by decide)
              · exact absurd h (by decide)
              · exact absurd h (by decide)
              · exact q4
            · rw [if_neg q4] at h
              rcases hx with rfl | rfl | rfl | rfl <;> exact absurd h (by decide)
    · rw [hf, if_pos rfl] at h
      cases hs : (nm t L p).isSome
      · rw [hs, if_neg (by decide)] at h
        rcases hx with rfl | rfl | rfl | rfl <;> exact absurd h (by decide)
      · rw [hs, if_pos rfl] at h
        rcases hx with rfl | rfl | rfl | rfl <;> exact absurd h (by decide)
  · intro h
    unfold tok
    rw [hfx h, if_neg (by decide), h]
    rcases hx with rfl | rfl | rfl | rfl <;> rfl
theorem tok_ne (t : Nat → Int32) (L p : Nat) : ¬ tok t L p = 1000 := by
  unfold tok
  split
  · split <;> decide
  · split
    · decide
    · split
      · decide
      · split
        · decide
        · split <;> decide
theorem nI_ch {t : Nat → Int32} {L p x : Nat} (hT : Tx t L) (hp : p < L) (hx : x < 256) : nI (ch t p) = nI x ↔ ch t p = x := by
  have := (hT.2 p hp).2
  exact nI_eq (by omega) (by omega)
/-- is a name given -/
def nmd (f : Nat → Int32) (m : Nat) (v : Int32) : Bool := (List.range m).any (fun j => decide (f (4 + 4 * j) = v))
theorem nmd_iff {f : Nat → Int32} {m : Nat} {v : Int32} : nmd f m v = true ↔ ∃ j, j < m ∧ f (4 + 4 * j) = v := by
  unfold nmd
  rw [List.any_eq_true]
  constructor
  · rintro ⟨j, h1, h2⟩; exact ⟨j, List.mem_range.mp h1, by simpa using h2⟩
  · rintro ⟨j, h1, h2⟩; exact ⟨j, List.mem_range.mpr h1, by simpa using h2⟩
theorem X3_hasName {m : Nat} (hm : m ≤ 6) {na f : Nat → Int32} (hn : ∀ a, a < m → na a = f (4 + 4 * a)) (v : Int32) : fX3_hasName (nI m) na v = some (bi (nmd f m v)) := by
  have key : ∀ (j i fu : Nat), i + j = m → j < fu → fX3_hasName_L1 (nI m) na v fu (nI i) = some (if (List.range' i j).any (fun j => decide (f (4 + 4 * j) = v)) then Sum.inl 1 else Sum.inr (nI m)) := by
    intro j
    induction j with
    | zero =>
      intro i fu hi hf
      obtain ⟨q, rfl⟩ : ∃ q, fu = q + 1 := ⟨fu - 1, by omega⟩
      have : i = m := by omega
      subst this
      rw [fX3_hasName_L1.eq_2, if_pos (nI_le (Nat.le_refl i) (by omega))]
      rfl
    | succ j ih =>
      intro i fu hi hf
      obtain ⟨q, rfl⟩ : ∃ q, fu = q + 1 := ⟨fu - 1, by omega⟩
      rw [fX3_hasName_L1.eq_2, if_neg (nI_ge (by omega) (by omega)), gd_t (inB_nI (by omega) (by decide)), nI_N (by omega), hn i (by omega), List.range'_succ, List.any_cons]
      by_cases h : f (4 + 4 * i) = v
      · rw [if_pos h, decide_eq_true h, Bool.true_or, if_pos rfl]
      · rw [if_neg h, decide_eq_false h, Bool.false_or, bd_eq, nI_1, ih (i + 1) q (by omega) (by omega)]
  have h := key m 0 500 (by omega) (by omega)
  have h : fX3_hasName_L1 (nI m) na v 500 0 = _ := h
  unfold fX3_hasName nmd
  rw [h, bs, ← List.range_eq_range']
  cases (List.range m).any (fun j => decide (f (4 + 4 * j) = v)) <;> rfl
theorem X8_isNamed {m : Nat} (hm : m ≤ 6) {f : Nat → Int32} (h0 : f 0 = nI m) (v : Int32) : fX8_isNamed f v = some (bi (nmd f m v)) := by
  have h := cl1 m (fun fu (w : Bool) i => fX8_isNamed_L1 f v fu (bi w) (nI i)) (fun w j => w || decide (f (4 + 4 * j) = v)) (fun w => (bi w, nI m))
    (by intro fu s
        show fX8_isNamed_L1 f v (fu + 1) (bi s) (nI m) = _
        rw [fX8_isNamed_L1.eq_2, gd_t (by decide), z0N, h0, if_pos (nI_le (Nat.le_refl m) (by omega))])
    (by intro fu s i hi
        show fX8_isNamed_L1 f v (fu + 1) (bi s) (nI i) = fX8_isNamed_L1 f v fu (bi _) (nI (i + 1))
        rw [fX8_isNamed_L1.eq_2, gd_t (by decide), z0N, h0, if_neg (nI_ge hi (by omega))]
        cases s
        · have ix : (3 + 4 * nI i) + 1 = nI (4 + 4 * i) := by rw [l3, l4, pk_mul, nI_add, l1, nI_add]; exact congrArg nI (by omega)
          rw [ifb_f, ix, gd_t (inB_nI (by omega) (by decide)), nI_N (by omega), Bool.false_or]
          by_cases h : f (4 + 4 * i) = v
          · rw [if_pos h, decide_eq_true h, bd_eq, nI_1]; rfl
          · rw [if_neg h, decide_eq_false h, bd_eq, nI_1]; rfl
        · rw [ifb_t, bd_eq, nI_1]; rfl)
    false 500 (by omega)
  have h : fX8_isNamed_L1 f v 500 0 0 = _ := h
  unfold fX8_isNamed nmd
  rw [h, bs, gd_t (bi_or _), fold_or, Bool.false_or]
theorem zon4 {m : Nat} (hm : m < 6) (zo : Nat → Int32) : ∃ zo', fX3_addSwitch_L1 (nI m) 500 0 zo = some (nI 4, zo') ∧ fX3_addSwitch_L2 (nI m) 500 0 zo = some (nI 4, zo') ∧ (∀ z, z < 4 → zo' (4 * m + z) = 0) ∧ ∀ x, x < 4 * m → zo' x = zo x := by
  have ix : ∀ i, nI m * 4 + nI i = nI (4 * m + i) := fun i => by rw [l4, pk_mul, nI_add, Nat.mul_comm]
  have hA := cl0 4 (fun fu (w : Nat → Int32) i => fX3_addSwitch_L1 (nI m) fu (nI i) w) (fun w z => upd w (4 * m + z) 0) (fun w => (nI 4, w)) (fun w i => (∀ z, z < i → w (4 * m + z) = 0) ∧ ∀ x, x < 4 * m → w x = zo x)
    (by intro fu s _
        show fX3_addSwitch_L1 (nI m) (fu + 1) (nI 4) s = _
        rw [fX3_addSwitch_L1.eq_2, if_pos (by decide)])
    (by intro fu s i hi hs
        show fX3_addSwitch_L1 (nI m) (fu + 1) (nI i) s = fX3_addSwitch_L1 (nI m) fu (nI (i + 1)) _ ∧ _
        refine ⟨?_, fun z hz => ?_, fun x hx => by rw [pk_un (by omega)]; exact hs.2 x hx⟩
        · rw [fX3_addSwitch_L1.eq_2, ix, l4, if_neg (nI_ge hi (by decide)), gd_t (inB_nI (by omega) (by decide)), bd_eq, bd_eq, nI_1, nI_N (by omega)]
        · by_cases hq : z = i
          · subst hq; rw [pk_us]
          · rw [pk_un (by omega)]; exact hs.1 z (by omega))
    zo 500 (by omega) ⟨fun z hz => by omega, fun _ _ => rfl⟩
  have hB := cl1 4 (fun fu (w : Nat → Int32) i => fX3_addSwitch_L2 (nI m) fu (nI i) w) (fun w z => upd w (4 * m + z) 0) (fun w => (nI 4, w))
    (by intro fu s
        show fX3_addSwitch_L2 (nI m) (fu + 1) (nI 4) s = _
        rw [fX3_addSwitch_L2.eq_2, if_pos (by decide)])
    (by intro fu s i hi
        show fX3_addSwitch_L2 (nI m) (fu + 1) (nI i) s = fX3_addSwitch_L2 (nI m) fu (nI (i + 1)) _
        rw [fX3_addSwitch_L2.eq_2, ix, l4, if_neg (nI_ge hi (by decide)), gd_t (inB_nI (by omega) (by decide)), bd_eq, bd_eq, nI_1, nI_N (by omega)])
    zo 500 (by omega)
  have hA1 : fX3_addSwitch_L1 (nI m) 500 0 zo = _ := hA.1
  have hB1 : fX3_addSwitch_L2 (nI m) 500 0 zo = _ := hB
  exact ⟨_, hA1, hB1, hA.2.1, hA.2.2⟩
def bk (w : Nat) : Nat := if w = 0 then 1 else w
theorem X3_addSwitch {m w : Nat} (hm : m < 6) (hw : w < 1000) (pr na wa bl up cl zo : Nat → Int32) (p n : Int32) : ∃ zo', fX3_addSwitch (nI m) pr na wa bl up cl zo p n (nI w) = some (nI (m + 1), upd pr m p, upd na m n, upd wa m (nI w), upd bl m (nI (bk w)), upd up m 0, upd cl m 0, zo') ∧ (∀ z, z < 4 → zo' (4 * m + z) = 0) ∧ ∀ x, x < 4 * m → zo' x = zo x := by
  obtain ⟨zo', e1, e2, e3, e4⟩ := zon4 hm zo
  refine ⟨zo', ?_, e3, e4⟩
  have g6 : ∀ {β : Type} (x : Option β), gd (inB (nI m) 6 = true) x = x := fun x => gd_t (inB_nI hm (by decide))
  have n6 : (nI m).toNatClampNeg = m := nI_N (by omega)
  unfold fX3_addSwitch
  rw [l6, if_pos (nI_lt hm (by decide))]
  simp only [g6, n6, bd_eq, e1, e2, bs, nI_1]
  unfold bk
  by_cases h : w = 0
  · rw [if_pos (show nI w = 0 from by rw [h]; rfl), if_pos h]; rfl
  · rw [if_neg (nI_ne0 (by omega) (by omega)), if_neg h]
theorem X3_addHost {k : Nat} (hk : k < 8) (pl no ne : Nat → Int32) (v : Int32) : fX3_addHost (nI k) pl no ne v = some (nI (k + 1), upd pl k v, upd no k 0, upd ne k 0) := by
  have g8 : ∀ {β : Type} (x : Option β), gd (inB (nI k) 8 = true) x = x := fun x => gd_t (inB_nI hk (by decide))
  have n8 : (nI k).toNatClampNeg = k := nI_N (by omega)
  unfold fX3_addHost
  rw [l8, if_pos (nI_lt hk (by decide))]
  simp only [g8, n8, bd_eq, nI_1]
