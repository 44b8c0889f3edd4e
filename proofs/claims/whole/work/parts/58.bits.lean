/-! how many bits of a long, as Long.bitCount counts them -/
/-- a byte's function, byte by byte -/
def pkb (f : Nat → Nat) : Nat → Nat → Nat
  | 0, _ => 0
  | n + 1, x => 256 * pkb f n (x / 256) + f (x % 256)
def rpb (c : Nat) : Nat → Nat
  | 0 => 0
  | n + 1 => 256 * rpb c n + c
theorem and_256 {h l m c : Nat} (hl : l < 256) (hc : c < 256) : (256 * h + l) &&& (256 * m + c) = 256 * (h &&& m) + (l &&& c) := by
  have h2 : l &&& c < 256 := Nat.lt_of_le_of_lt Nat.and_le_left hl
  apply Nat.eq_of_testBit_eq
  intro j
  rw [Nat.testBit_and, show (256 : Nat) = 2 ^ 8 from rfl, Nat.testBit_two_pow_mul_add _ hl, Nat.testBit_two_pow_mul_add _ hc, Nat.testBit_two_pow_mul_add _ h2]
  split
  · rw [Nat.testBit_and]
  · rw [Nat.testBit_and]
theorem pkb_lt {f : Nat → Nat} (hf : ∀ b, b < 256 → f b < 256) : ∀ n x, pkb f n x < 256 ^ n := by
  intro n
  induction n with
  | zero => intro x; exact Nat.lt_of_lt_of_le Nat.zero_lt_one (Nat.le_refl _)
  | succ n ih =>
    intro x
    have h1 := ih (x / 256)
    have h2 := hf (x % 256) (by omega)
    rw [pkb, Nat.pow_succ]
    omega
theorem pkb_comp {f g : Nat → Nat} (hf : ∀ b, b < 256 → f b < 256) : ∀ n x, pkb g n (pkb f n x) = pkb (fun b => g (f b)) n x := by
  intro n
  induction n with
  | zero => intro x; rfl
  | succ n ih =>
    intro x
    have h2 := hf (x % 256) (by omega)
    show 256 * pkb g n ((256 * pkb f n (x / 256) + f (x % 256)) / 256) + g ((256 * pkb f n (x / 256) + f (x % 256)) % 256) = _
    rw [show (256 * pkb f n (x / 256) + f (x % 256)) / 256 = pkb f n (x / 256) by omega, show (256 * pkb f n (x / 256) + f (x % 256)) % 256 = f (x % 256) by omega, ih]
    rfl
theorem pkb_cong {f g : Nat → Nat} (h : ∀ b, b < 256 → f b = g b) : ∀ n x, pkb f n x = pkb g n x := by
  intro n
  induction n with
  | zero => intro x; rfl
  | succ n ih => intro x; rw [pkb, pkb, ih, h _ (by omega)]
def s1b (l : Nat) : Nat := l - ((l / 2) &&& 85)
def s2b (l : Nat) : Nat := (l &&& 51) + ((l / 4) &&& 51)
def s3b (l : Nat) : Nat := (l + l / 16) &&& 15
theorem s1b_lt : ∀ b, b < 256 → s1b b < 256 := by decide +kernel
theorem s2b_lt : ∀ b, b < 256 → s2b (s1b b) < 69 ∧ s2b (s1b b) % 16 < 5 := by decide +kernel
theorem h1b : ∀ j, j < 2 → ∀ l, l < 256 → (128 * j + l / 2) &&& 85 = (l / 2) &&& 85 := by decide +kernel
theorem h2b : ∀ j, j < 4 → ∀ l, l < 256 → (64 * j + l / 4) &&& 51 = (l / 4) &&& 51 := by decide +kernel
theorem s1_all : ∀ n x, x < 256 ^ n → x - ((x / 2) &&& rpb 85 n) = pkb s1b n x ∧ (x / 2) &&& rpb 85 n ≤ x := by
  intro n
  induction n with
  | zero =>
    intro x hx
    have : x = 0 := by simpa using hx
    subst this
    exact ⟨rfl, Nat.le_refl _⟩
  | succ n ih =>
    intro x hx
    rw [Nat.pow_succ] at hx
    obtain ⟨i1, i2⟩ := ih (x / 256) (by omega)
    have e : x / 2 = 256 * (x / 256 / 2) + (128 * (x / 256 % 2) + (x % 256) / 2) := by omega
    have h3 : (x % 256 / 2) &&& 85 ≤ x % 256 / 2 := Nat.and_le_left
    rw [rpb, e, and_256 (by omega) (by omega), h1b _ (by omega) _ (by omega), pkb, ← i1, s1b]
    omega
theorem s2_all : ∀ n x, x < 256 ^ n → (x &&& rpb 51 n) + ((x / 4) &&& rpb 51 n) = pkb s2b n x := by
  intro n
  induction n with
  | zero =>
    intro x hx
    have : x = 0 := by simpa using hx
    subst this
    rfl
  | succ n ih =>
    intro x hx
    rw [Nat.pow_succ] at hx
    have i1 := ih (x / 256) (by omega)
    have e : x / 4 = 256 * (x / 256 / 4) + (64 * (x / 256 % 4) + (x % 256) / 4) := by omega
    have e2 : x &&& (256 * rpb 51 n + 51) = 256 * (x / 256 &&& rpb 51 n) + (x % 256 &&& 51) := by
      rw [← and_256 (by omega) (by omega)]
      exact congrArg (fun y => y &&& (256 * rpb 51 n + 51)) (by omega)
    rw [rpb, e2, e, and_256 (by omega) (by omega), h2b _ (by omega) _ (by omega), pkb, ← i1, s2b]
    omega
/-- small nibbles -/
def Smn : Nat → Nat → Prop
  | 0, _ => True
  | n + 1, x => x % 256 < 69 ∧ x % 256 % 16 < 5 ∧ Smn n (x / 256)
theorem smn_pkb {f : Nat → Nat} (hf : ∀ b, b < 256 → f b < 69 ∧ f b % 16 < 5) : ∀ n x, Smn n (pkb f n x) := by
  intro n
  induction n with
  | zero => intro x; trivial
  | succ n ih =>
    intro x
    have h2 := hf (x % 256) (by omega)
    refine ⟨?_, ?_, ?_⟩
    · rw [pkb]; omega
    · rw [pkb]; omega
    · rw [pkb, show (256 * pkb f n (x / 256) + f (x % 256)) / 256 = pkb f n (x / 256) by omega]
      exact ih _
theorem and_15 (x : Nat) : x &&& 15 = x % 16 := Nat.and_two_pow_sub_one_eq_mod x 4
theorem s3_all : ∀ n x, x < 256 ^ n → Smn n x → (x + x / 16) &&& rpb 15 n = pkb s3b n x := by
  intro n
  induction n with
  | zero =>
    intro x hx _
    have : x = 0 := by simpa using hx
    subst this
    rfl
  | succ n ih =>
    intro x hx ⟨m1, m2, m3⟩
    rw [Nat.pow_succ] at hx
    have i1 := ih (x / 256) (by omega) m3
    have hlow : x / 256 % 16 < 5 := by
      cases n with
      | zero =>
        have : x / 256 = 0 := by simp at hx; omega
        omega
      | succ n => have := m3.2.1; omega
    have e : x + x / 16 = 256 * (x / 256 + x / 256 / 16) + (x % 256 + x % 256 / 16 + 16 * (x / 256 % 16)) := by omega
    rw [rpb, e, and_256 (by omega) (by omega), i1, pkb, s3b, and_15, and_15]
    omega
def pop8 (b : Nat) : Nat := fb_ct (fun i => b.testBit i) 8
theorem s_pop : ∀ b, b < 256 → s3b (s2b (s1b b)) = pop8 b := by decide +kernel
theorem pop8_le (b : Nat) : pop8 b ≤ 8 := fb_ct_le _ 8
theorem lN_of (x : Int64) : x = lN x.toBitVec.toNat := by
  apply Int64.toBitVec_inj.mp
  show x.toBitVec = BitVec.ofNat 64 _
  rw [BitVec.ofNat_toNat, BitVec.setWidth_eq]
theorem lN_ushr {a : Nat} (ha : a < 2 ^ 64) {k : Nat} (hk : k < 64) : lushr (lN a) (nI k) = lN (a / 2 ^ k) := by
  refine L_ext (fun i hi => ?_)
  rw [L_ushr k hk]
  show (BitVec.ofNat 64 a).getLsbD (k + i) = (BitVec.ofNat 64 (a / 2 ^ k)).getLsbD i
  rw [BitVec.getLsbD_ofNat, BitVec.getLsbD_ofNat, Nat.testBit_div_two_pow, decide_eq_true hi, Bool.true_and, Nat.add_comm]
  by_cases h : i + k < 64
  · rw [decide_eq_true h, Bool.true_and]
  · rw [decide_eq_false h, Bool.false_and, Nat.testBit_lt_two_pow (Nat.lt_of_lt_of_le ha (Nat.pow_le_pow_right (by omega) (by omega)))]
/-- the byte g of x -/
def byt (x g : Nat) : Nat := x / 256 ^ g % 256
theorem low7 (z : Int64) : z.toInt32 &&& 127 = nI (z.toBitVec.toNat % 128) := by
  refine b_ext (fun i hi => ?_)
  rw [b_and, L_low _ hi, bt_nI, decide_eq_true hi, Bool.true_and, show (127 : Int32) = nI 127 from rfl, bt_nI, decide_eq_true hi, Bool.true_and, show (128 : Nat) = 2 ^ 7 from rfl, Nat.testBit_mod_two_pow, show (127 : Nat) = 2 ^ 7 - 1 from rfl, Nat.testBit_two_pow_sub_one, Bool.and_comm]
  rfl
theorem lN_toNat {a : Nat} (ha : a < 2 ^ 64) : (lN a).toBitVec.toNat = a := by
  show (BitVec.ofNat 64 a).toNat = a
  rw [BitVec.toNat_ofNat, Nat.mod_eq_of_lt ha]
theorem ev8 (f : Nat → Nat) (X : Nat) : pkb f 8 X = f (byt X 0) + 256 * (f (byt X 1) + 256 * (f (byt X 2) + 256 * (f (byt X 3) + 256 * (f (byt X 4) + 256 * (f (byt X 5) + 256 * (f (byt X 6) + 256 * f (byt X 7))))))) := by
  have st : ∀ g, byt (X / 256 ^ g) 0 = byt X g := fun g => by unfold byt; rw [Nat.pow_zero, Nat.div_one]
  have nx : ∀ g, X / 256 ^ g / 256 = X / 256 ^ (g + 1) := fun g => by rw [Nat.div_div_eq_div_mul, Nat.pow_succ]
  have go : ∀ n g, pkb f (n + 1) (X / 256 ^ g) = f (byt X g) + 256 * pkb f n (X / 256 ^ (g + 1)) := fun n g => by
    rw [pkb, nx, Nat.add_comm]
    rfl
  have h0 : X / 256 ^ 0 = X := by rw [Nat.pow_zero, Nat.div_one]
  have h := go 7 0
  rw [h0] at h
  rw [h, go 6 1, go 5 2, go 4 3, go 3 4, go 2 5, go 1 6, go 0 7]
  rfl
theorem dvp {p q s : Nat} (h : p < s) : (p + s * q) / s = q := by rw [Nat.add_mul_div_left _ _ (by omega), Nat.div_eq_of_lt h, Nat.zero_add]
theorem fin_a {p0 p1 p2 q1 q2 q3 : Nat} (h1 : q1 = p1 + 256 * q2) (h2 : q2 = p2 + 256 * q3) : p0 + 256 * q1 + q1 = ((p0 + p1) + 256 * (p1 + p2)) + 65536 * (q2 + q3) := by omega
theorem fin_b {p2 p3 p4 q2 q3 q4 q5 : Nat} (h2 : q2 = p2 + 256 * q3) (h3 : q3 = p3 + 256 * q4) (h4 : q4 = p4 + 256 * q5) : q2 + q3 = ((p2 + p3) + 256 * (p3 + p4)) + 65536 * (q4 + q5) := by omega
theorem fin_c {l0 l2 l4 u v w : Nat} (hu : u = l2 + 65536 * v) (hv : v = l4 + 65536 * w) : l0 + 65536 * u + u = ((l0 + l2) + 65536 * (l2 + l4)) + 4294967296 * (v + w) := by omega
theorem fin_d {l0 l2 l4 v w : Nat} (hv : v = l4 + 65536 * w) : ((l0 + l2) + 65536 * (l2 + l4)) + 4294967296 * (v + w) + (v + w) = (l0 + l2 + l4 + w) + 128 * (512 * ((l2 + l4) + w) + 33554432 * (v + w)) := by omega
theorem fin_m {p0 p1 p2 p3 p4 p5 p6 p7 l0 l2 l4 w : Nat} (b0 : p0 ≤ 8) (b1 : p1 ≤ 8) (b2 : p2 ≤ 8) (b3 : p3 ≤ 8) (b4 : p4 ≤ 8) (b5 : p5 ≤ 8) (b6 : p6 ≤ 8) (b7 : p7 ≤ 8)
    (h0 : l0 = (p0 + p1) + 256 * (p1 + p2)) (h2 : l2 = (p2 + p3) + 256 * (p3 + p4)) (h4 : l4 = (p4 + p5) + 256 * (p5 + p6)) (hw : w = p6 + 256 * p7 + p7) : (l0 + l2 + l4 + w) % 128 = p0 + p1 + p2 + p3 + p4 + p5 + p6 + p7 := by omega
theorem dvq {x p q s : Nat} (hx : x = p + s * q) (h : p < s) : x / s = q := by subst hx; exact dvp h
theorem fin_z1 {l0 l2 l4 q2 q3 q4 q5 q6 p7 a b q1 : Nat} (ea : a / 2 ^ 8 = q1) (hb : b = a + q1) (eb : b = l0 + 65536 * (q2 + q3)) (eu : q2 + q3 = l2 + 65536 * (q4 + q5)) (ev : q4 + q5 = l4 + 65536 * (q6 + p7)) (s0 : l0 < 5000) (s2 : l2 < 5000) (s4 : l4 < 5000) (s6 : q6 + p7 < 5000) :
    ∃ c d, b = a + a / 2 ^ 8 ∧ c = b + b / 2 ^ 16 ∧ d = c + c / 2 ^ 32 ∧ d % 128 = (l0 + l2 + l4 + (q6 + p7)) % 128 ∧ a < 2 ^ 64 ∧ b < 2 ^ 64 ∧ c < 2 ^ 64 ∧ d < 2 ^ 64 := by
  obtain ⟨u, hu⟩ : ∃ u, u = q2 + q3 := ⟨_, rfl⟩
  obtain ⟨v, hv⟩ : ∃ v, v = q4 + q5 := ⟨_, rfl⟩
  obtain ⟨w, hw⟩ : ∃ w, w = q6 + p7 := ⟨_, rfl⟩
  rw [← hu] at eb eu
  rw [← hv] at eu ev
  rw [← hw] at ev s6 ⊢
  clear hu hv hw
  have eb2 : b / 65536 = u := dvq eb (by omega)
  obtain ⟨c, hc⟩ : ∃ c, c = b + u := ⟨_, rfl⟩
  have ec : c = ((l0 + l2) + 65536 * (l2 + l4)) + 4294967296 * (v + w) := by rw [hc, eb]; exact fin_c eu ev
  have ec2 : c / 4294967296 = v + w := dvq ec (by omega)
  obtain ⟨d, hd⟩ : ∃ d, d = c + (v + w) := ⟨_, rfl⟩
  have ed : d = (l0 + l2 + l4 + w) + 128 * (512 * ((l2 + l4) + w) + 33554432 * (v + w)) := by rw [hd, ec]; exact fin_d ev
  have vb : v < 400000000 := by omega
  have ub : u < 40000000000000 := by omega
  have bb : b < 4000000000000000000 := by omega
  have cb : c < 5000000000000000000 := by omega
  have db : d < 6000000000000000000 := by omega
  refine ⟨c, d, by rw [ea]; exact hb, ?_, ?_, ?_, ?_, ?_, ?_, ?_⟩
  · rw [show (2 : Nat) ^ 16 = 65536 from rfl, eb2]; exact hc
  · rw [show (2 : Nat) ^ 32 = 4294967296 from rfl, ec2]; exact hd
  · rw [ed, Nat.add_mul_mod_self_left]
  · exact Nat.lt_of_le_of_lt (by omega : a ≤ b) (Nat.lt_trans bb (by decide))
  · exact Nat.lt_trans bb (by decide)
  · exact Nat.lt_trans cb (by decide)
  · exact Nat.lt_trans db (by decide)
theorem fin8 {p0 p1 p2 p3 p4 p5 p6 p7 a q1 q2 q3 q4 q5 q6 : Nat} (b0 : p0 ≤ 8) (b1 : p1 ≤ 8) (b2 : p2 ≤ 8) (b3 : p3 ≤ 8) (b4 : p4 ≤ 8) (b5 : p5 ≤ 8) (b6 : p6 ≤ 8) (b7 : p7 ≤ 8) (ha : a = p0 + 256 * q1) (h1 : q1 = p1 + 256 * q2) (h2 : q2 = p2 + 256 * q3) (h3 : q3 = p3 + 256 * q4) (h4 : q4 = p4 + 256 * q5) (h5 : q5 = p5 + 256 * q6) (h6 : q6 = p6 + 256 * p7) :
    ∃ b c d, b = a + a / 2 ^ 8 ∧ c = b + b / 2 ^ 16 ∧ d = c + c / 2 ^ 32 ∧ d % 128 = p0 + p1 + p2 + p3 + p4 + p5 + p6 + p7 ∧ a < 2 ^ 64 ∧ b < 2 ^ 64 ∧ c < 2 ^ 64 ∧ d < 2 ^ 64 := by
  have ea : a / 2 ^ 8 = q1 := dvq (s := 2 ^ 8) ha (Nat.lt_of_le_of_lt b0 (by decide))
  have eb : a + q1 = ((p0 + p1) + 256 * (p1 + p2)) + 65536 * (q2 + q3) := (congrArg (· + q1) ha).trans (fin_a h1 h2)
  have eu := fin_b h2 h3 h4
  have ev : q4 + q5 = ((p4 + p5) + 256 * (p5 + p6)) + 65536 * (q6 + p7) := fin_b h4 h5 h6
  have hm := fin_m b0 b1 b2 b3 b4 b5 b6 b7 rfl rfl rfl (congrArg (· + p7) h6)
  have s6 : q6 + p7 < 5000 := by clear ha h1 h2 h3 h4 h5 ea eb eu ev hm; omega
  clear ha h1 h2 h3 h4 h5 h6
  have s0 : (p0 + p1) + 256 * (p1 + p2) < 5000 := by clear ea eb eu ev hm; omega
  have s2 : (p2 + p3) + 256 * (p3 + p4) < 5000 := by clear ea eb eu ev hm; omega
  have s4 : (p4 + p5) + 256 * (p5 + p6) < 5000 := by clear ea eb eu ev hm; omega
  obtain ⟨c, d, e1, e2, e3, e4, e5⟩ := fin_z1 ea rfl eb eu ev s0 s2 s4 s6
  exact ⟨_, c, d, e1, e2, e3, e4.trans hm, e5⟩
theorem bitCountL (x : Int64) : fJ13_bitCount_95d88 x = some (nI (fb_sm (fun g => pop8 (byt x.toBitVec.toNat g)) 8)) := by
  have hx : x.toBitVec.toNat < 2 ^ 64 := x.toBitVec.isLt
  have ex := lN_of x
  generalize x.toBitVec.toNat = X at hx ex
  subst ex
  have hp : (256 : Nat) ^ 8 = 2 ^ 64 := by decide
  have e1 := s1_all 8 X (by rw [hp]; exact hx)
  have v1 : lN X - ((lushr (lN X) 1) &&& 6148914691236517205) = lN (pkb s1b 8 X) := by
    rw [show (6148914691236517205 : Int64) = lN (rpb 85 8) from by decide +kernel, show (1 : Int32) = nI 1 from rfl, lN_ushr hx (by omega), fb_andL, lN_sub e1.2]
    exact congrArg lN e1.1
  have h1 : pkb s1b 8 X < 256 ^ 8 := pkb_lt s1b_lt 8 X
  have v2 : (lN (pkb s1b 8 X) &&& 3689348814741910323) + ((lushr (lN (pkb s1b 8 X)) 2) &&& 3689348814741910323) = lN (pkb (fun b => s2b (s1b b)) 8 X) := by
    have e := s2_all 8 _ h1
    rw [pkb_comp s1b_lt] at e
    rw [show (3689348814741910323 : Int64) = lN (rpb 51 8) from by decide +kernel, show (2 : Int32) = nI 2 from rfl, lN_ushr (by rw [← hp]; exact h1) (by omega), fb_andL, fb_andL, lN_add]
    exact congrArg lN e
  have hs2 : ∀ b, b < 256 → s2b (s1b b) < 256 := fun b hb => by have := (s2b_lt b hb).1; omega
  have h2 : pkb (fun b => s2b (s1b b)) 8 X < 256 ^ 8 := pkb_lt hs2 8 X
  have v3 : (lN (pkb (fun b => s2b (s1b b)) 8 X) + lushr (lN (pkb (fun b => s2b (s1b b)) 8 X)) 4) &&& 1085102592571150095 = lN (pkb pop8 8 X) := by
    have e := s3_all 8 _ h2 (smn_pkb s2b_lt 8 X)
    rw [pkb_comp hs2, pkb_cong s_pop] at e
    rw [show (1085102592571150095 : Int64) = lN (rpb 15 8) from by decide +kernel, show (4 : Int32) = nI 4 from rfl, lN_ushr (by rw [← hp]; exact h2) (by omega), lN_add, fb_andL]
    exact congrArg lN e
  obtain ⟨b, c, d, eb, ec, ed, es, ha, hb, hc, hd⟩ := fin8 (pop8_le (byt X 0)) (pop8_le (byt X 1)) (pop8_le (byt X 2)) (pop8_le (byt X 3)) (pop8_le (byt X 4)) (pop8_le (byt X 5)) (pop8_le (byt X 6)) (pop8_le (byt X 7)) (ev8 pop8 X) rfl rfl rfl rfl rfl rfl
  have w1 : lN (pkb pop8 8 X) + lushr (lN (pkb pop8 8 X)) 8 = lN b := by
    rw [show (8 : Int32) = nI 8 from rfl, lN_ushr (by omega) (by omega), lN_add, eb]
  have w2 : lN b + lushr (lN b) 16 = lN c := by
    rw [show (16 : Int32) = nI 16 from rfl, lN_ushr (by omega) (by omega), lN_add, ec]
  have w3 : lN c + lushr (lN c) 32 = lN d := by
    rw [show (32 : Int32) = nI 32 from rfl, lN_ushr (by omega) (by omega), lN_add, ed]
  have sm : fb_sm (fun g => pop8 (byt X g)) 8 = pop8 (byt X 0) + pop8 (byt X 1) + pop8 (byt X 2) + pop8 (byt X 3) + pop8 (byt X 4) + pop8 (byt X 5) + pop8 (byt X 6) + pop8 (byt X 7) := by
    rw [fb_sm_succ, fb_sm_succ, fb_sm_succ, fb_sm_succ, fb_sm_succ, fb_sm_succ, fb_sm_succ, fb_sm_succ, show fb_sm (fun g => pop8 (byt X g)) 0 = 0 from rfl, Nat.zero_add]
  unfold fJ13_bitCount_95d88
  rw [bd_eq, v1, bd_eq, v2, bd_eq, v3, bd_eq, w1, bd_eq, w2, bd_eq, w3, low7, lN_toNat hd, es, sm]
theorem pop_row (x : Int64) {g : Nat} (hg : g < 8) : pop8 (byt x.toBitVec.toNat g) = fb_ct (fun i => bL x (8 * g + i)) 8 := by
  unfold pop8
  refine fb_ct_cong (fun i hi => ?_)
  show (byt x.toBitVec.toNat g).testBit i = x.toBitVec.getLsbD (8 * g + i)
  unfold byt
  rw [show (256 : Nat) ^ g = 2 ^ (8 * g) from by rw [Nat.pow_mul], show (256 : Nat) = 2 ^ 8 from rfl, Nat.testBit_mod_two_pow, decide_eq_true hi, Bool.true_and, Nat.testBit_div_two_pow, BitVec.getLsbD, Nat.add_comm]
