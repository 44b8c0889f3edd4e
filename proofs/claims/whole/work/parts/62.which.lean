/-! weakest, which, ask -/
theorem op_weakest {sw hw re : Int32} {pr na wa bl up cl zo pl no ne : Nat → Int32} {now qc : Nat → Int32} {qv : Nat → Int64} {qs w1 w2 : Int32} (hN : NR (sw, hw, re, pr, na, wa, bl, up, cl, zo, pl, no, ne) now) (p1 : Int32) :
    ∃ z7 z8, fX7_weakest sw hw up cl zo pl qc qv qs p1 = some z7 ∧ fX8_weakest now w1 w2 p1 = some z8 ∧ z7.1 = z8.1 ∧ NR (sw, hw, re, pr, na, wa, bl, z7.2.1, z7.2.2.1, zo, pl, no, ne) z8.2.1 := by
  obtain ⟨m, k, hI, hR⟩ := id hN
  obtain ⟨⟨h0, h1, hm, hk, h2⟩, hD, hNm, hP, ⟨uB, uS, uI, uZ⟩, ⟨cB, cS, cI, cZ⟩, hZ, hU⟩ := id hI
  obtain ⟨r1, r2, r3, r4, r5, r6, r7, r8, r9, r10, r11, r12, r13⟩ := id hR
  obtain rfl : sw = nI m := r1
  obtain rfl : hw = nI k := r2
  have r3 : re = now 2 := r3
  have r4 : ∀ a, a < m → pr a = now (3 + 4 * a) := r4
  have r5 : ∀ a, a < m → na a = now (4 + 4 * a) := r5
  have r6 : ∀ a, a < m → wa a = now (5 + 4 * a) := r6
  have r7 : ∀ a, a < m → bl a = now (6 + 4 * a) := r7
  have r8 : ∀ a, a < m → up a = now (35 + a) := r8
  have r9 : ∀ a, a < m → cl a = now (41 + a) := r9
  have r10 : ∀ a, a < m → ∀ z, z < 4 → zo (4 * a + z) = now (47 + 4 * a + z) := r10
  have r11 : ∀ h, h < k → pl h = now (27 + h) := r11
  have r12 : ∀ h, h < k → no h = now (71 + h) := r12
  have r13 : ∀ h, h < k → ne h = now (79 + h) := r13
  unfold fX7_weakest fX8_weakest
  rcases in_cases p1 0 1 with ⟨e3, b1', b2'⟩ | ⟨e3, hb⟩
  · obtain ⟨codes', views', up', cl', f7, c1, c2, c3, c4, c5⟩ := cutEach hI r8 r9 r10 r11 qc qv
    obtain ⟨f8, d1, d2⟩ := findWeakest hI
    have hlen := ups_len hm (UPr now)
    have hI8 := QM_inv hI d2
    have hR8 := QM_RN hm hk hR c2 d2 c3 c4
    have hNR : NR (nI m, nI k, re, pr, na, wa, bl, up', cl', zo, pl, no, ne) f8 := ⟨m, k, hI8, hR8⟩
    rw [e3, bs, if10, if_neg (ge_nlt b1'), if_pos b2', c1, bs, d1, bs]
    unfold fX6_size
    rw [bs]
    generalize hP : ups m (UPr now) = P at *
    by_cases h0' : P.length = 0
    · have hnil : P = [] := List.eq_nil_of_length_eq_zero h0'
      subst hnil
      rw [if_pos (show nI ([] : List (Nat × Nat)).length = 0 from rfl)]
      by_cases hp : p1 = 0
      · rw [if_pos hp]; exact ⟨_, _, rfl, rfl, rfl, hNR⟩
      · rw [if_neg hp]; exact ⟨_, _, rfl, rfl, rfl, hNR⟩
    · rw [if_neg (nI_ne0 (by omega) (by omega))]
      have hI7 := QM_inv hI c2
      obtain ⟨V0, v1, v2⟩ := X3_view (up := up') (zo := zo) (pl := pl) hm hk hI7.2.2.2.2.1.1 hI7.2.2.2.2.1.2.1 hI7.2.2.2.1 hI7.2.2.2.2.2.2.2 c3 (fun a ha z hz => by rw [c2.1 _ (by omega)]; exact r10 a ha z hz) (fun h hh => by rw [c2.1 _ (by omega)]; exact r11 h hh)
      have hV0 : IsV m k now V0 := IsV_cg hm hI7.2.2.2.1 (fun h hh => (c2.1 _ (by omega)).symm) (fun c hc => (c2.2.1 c (by omega)).symm) (fun a ha z hz => (c2.1 _ (by omega)).symm) v2
      obtain ⟨r, q, x1, x2, x3, x4⟩ := dearest hI hlen (by omega) hV0 (fun i a b hi => (c5 i a b hi).2)
      have hlost := lostAt hI hlen hV0 (fun i a b hi => (c5 i a b hi).2) x3
      have hcode : fX6_codeAt codes' (nI P.length) (nI r) = some (nI (10 * q.1 + q.2)) := by
        unfold fX6_codeAt
        rw [if_neg (nI_pos (by omega)), if_neg (nI_ge x2 (by omega)), gd_t (inB_nI (by omega) (by decide)), nI_N (by omega), (c5 r q.1 q.2 x3).1]
      rw [v1, bs, x1, bs, hcode, bs, hlost, bs, x4]
      by_cases hp : p1 = 0
      · rw [if_pos hp, if_pos hp]; exact ⟨_, _, rfl, rfl, rfl, hNR⟩
      · rw [if_neg hp, if_neg hp]; exact ⟨_, _, rfl, rfl, rfl, hNR⟩
  · rw [e3, bs, if00]
    refine ⟨((-1), up, cl, qc, qv, qs), _, ?_, rfl, rfl, hN⟩
    by_cases h3 : p1 < 0
    · rw [if_pos h3]
    · rw [if_neg h3, if_neg (lt_nle (hb.resolve_left h3))]
/-- is a fact so -/
def so1 (k : Nat) (S : Nat → Nat → Bool) (facts : Nat → Int32) (j : Nat) : Bool := decide ((facts (3 * j)).toNatClampNeg < k) && (decide ((facts (3 * j + 1)).toNatClampNeg < k) && (S (facts (3 * j)).toNatClampNeg (facts (3 * j + 1)).toNatClampNeg == decide (facts (3 * j + 2) = 1)))
def so (k : Nat) (S : Nat → Nat → Bool) (facts : Nat → Int32) (n : Nat) : Bool := (List.range n).all (so1 k S facts)
theorem so_iff {k : Nat} {S : Nat → Nat → Bool} {facts : Nat → Int32} {n : Nat} : so k S facts n = true ↔ ∀ j, j < n → so1 k S facts j = true := by
  unfold so
  rw [List.all_eq_true]
  exact ⟨fun h j hj => h j (List.mem_range.mpr hj), fun h j hj => h j (List.mem_range.mp hj)⟩
theorem X1_fit {k : Nat} (hk : k ≤ 8) {size ment : Int32} {seen unseen : Int64} {facts : Nat → Int32} {n : Nat} (hC : RC size ment seen unseen facts (nI n)) (hn6 : n ≤ 6) {S : Nat → Nat → Bool} {V : Int64} (hV : IsS k S V) : fX1_fit ment seen unseen V (b1 k - 1) = some (bi (so k S facts n)) := by
  obtain ⟨n', hn', -, e, c1, c2, c3, c4⟩ := hC
  obtain rfl : n = n' := nI_inj (by omega) (by omega) e
  have A : (ment &&& ((b1 k - 1) ^^^ (-1)) = 0) ↔ ∀ j, j < n → (facts (3 * j)).toNatClampNeg < k ∧ (facts (3 * j + 1)).toNatClampNeg < k := by
    rw [b_and0]
    constructor
    · intro h j hj
      obtain ⟨g, x, b, hg, hx, -, e1, e2, -⟩ := c1 j hj
      rw [e1, e2, nI_N (by omega), nI_N (by omega)]
      have one : ∀ y, y < 8 → bt ment y = true → y < k := fun y hy hm => by
        rcases Nat.lt_or_ge y k with q | q
        · exact q
        · exfalso
          refine h y (by omega) ⟨hm, ?_⟩
          rw [b_not (by omega)]
          have hb : bt (b1 k - 1) y = false := by
            rcases Nat.lt_or_ge k 8 with q8 | q8
            · rw [b_low k q8 y (by omega), decide_eq_false (by omega)]
            · omega
          rw [hb]; rfl
      exact ⟨one g hg ((c2 g (by omega)).mpr ⟨j, hj, Or.inl e1⟩), one x hx ((c2 x (by omega)).mpr ⟨j, hj, Or.inr e2⟩)⟩
    · intro h i hi ⟨h1, h2⟩
      obtain ⟨j, hj, hfi⟩ := (c2 i hi).mp h1
      obtain ⟨p1, p2⟩ := h j hj
      have hik : i < k := by
        rcases hfi with e1 | e1
        · rw [e1, nI_N (by omega)] at p1; exact p1
        · rw [e1, nI_N (by omega)] at p2; exact p2
      rw [b_not hi, b1m k (by omega), bt_nI, decide_eq_true hi, Bool.true_and, Nat.testBit_two_pow_sub_one, decide_eq_true hik] at h2
      cases h2
  have B : (V &&& seen = seen) ↔ ∀ g h, g < 8 → h < 8 → bL seen (8 * g + h) = true → bL V (8 * g + h) = true := by
    constructor
    · intro e g h hg hh hs
      have := congrArg (fun z => bL z (8 * g + h)) e
      simp only [L_and, hs, Bool.and_true] at this
      exact this
    · intro h
      refine L_ext (fun i hi => ?_)
      rw [L_and]
      cases hs : bL seen i
      · rw [Bool.and_false]
      · have := h (i / 8) (i % 8) (by omega) (by omega)
        rw [show 8 * (i / 8) + i % 8 = i by omega] at this
        rw [this hs]; rfl
  have D : (V &&& unseen = 0) ↔ ∀ g h, g < 8 → h < 8 → bL unseen (8 * g + h) = true → bL V (8 * g + h) = false := by
    constructor
    · intro e g h hg hh hs
      have := congrArg (fun z => bL z (8 * g + h)) e
      simp only [L_and, hs, Bool.and_true, L_0] at this
      exact this
    · intro h
      refine L_ext (fun i hi => ?_)
      rw [L_and, L_0]
      cases hs : bL unseen i
      · rw [Bool.and_false]
      · have := h (i / 8) (i % 8) (by omega) (by omega)
        rw [show 8 * (i / 8) + i % 8 = i by omega] at this
        rw [this hs]; rfl
  have all : (ment &&& ((b1 k - 1) ^^^ (-1)) = 0 ∧ V &&& seen = seen ∧ V &&& unseen = 0) ↔ so k S facts n = true := by
    rw [A, B, D, so_iff]
    constructor
    · rintro ⟨h1, h2, h3⟩ j hj
      obtain ⟨g, x, b, hg, hx, -, e1, e2, e3⟩ := c1 j hj
      obtain ⟨p1, p2⟩ := h1 j hj
      unfold so1
      rw [decide_eq_true p1, decide_eq_true p2, e1, e2, e3, nI_N (by omega), nI_N (by omega), Bool.true_and, Bool.true_and]
      rw [e1, nI_N (by omega)] at p1
      rw [e2, nI_N (by omega)] at p2
      have hb := hV g x hg hx
      rw [decide_eq_true p1, decide_eq_true p2, Bool.true_and, Bool.true_and] at hb
      cases b
      · have := h3 g x hg hx ((c4 g x hg hx).mpr ⟨j, hj, e1, e2, e3⟩)
        rw [← hb, this]; rfl
      · have := h2 g x hg hx ((c3 g x hg hx).mpr ⟨j, hj, e1, e2, e3⟩)
        rw [← hb, this]; rfl
    · intro h
      have ex : ∀ j, j < n → ∀ g x, g < 8 → x < 8 → facts (3 * j) = nI g → facts (3 * j + 1) = nI x → (g < k ∧ x < k) ∧ bL V (8 * g + x) = decide (facts (3 * j + 2) = 1) := by
        intro j hj g x hg hx e1 e2
        have hj' := h j hj
        unfold so1 at hj'
        rw [e1, e2, nI_N (by omega), nI_N (by omega), Bool.and_eq_true, Bool.and_eq_true, decide_eq_true_iff, decide_eq_true_iff, beq_iff_eq] at hj'
        refine ⟨⟨hj'.1, hj'.2.1⟩, ?_⟩
        rw [hV g x hg hx, decide_eq_true hj'.1, decide_eq_true hj'.2.1, Bool.true_and, Bool.true_and]
        exact hj'.2.2
      refine ⟨fun j hj => ?_, fun g x hg hx hs => ?_, fun g x hg hx hs => ?_⟩
      · obtain ⟨g, x, b, hg, hx, -, e1, e2, e3⟩ := c1 j hj
        obtain ⟨⟨p1, p2⟩, -⟩ := ex j hj g x hg hx e1 e2
        rw [e1, e2, nI_N (by omega), nI_N (by omega)]
        exact ⟨p1, p2⟩
      · obtain ⟨j, hj, e1, e2, e3⟩ := (c3 g x hg hx).mp hs
        rw [(ex j hj g x hg hx e1 e2).2, decide_eq_true e3]
      · obtain ⟨j, hj, e1, e2, e3⟩ := (c4 g x hg hx).mp hs
        rw [(ex j hj g x hg hx e1 e2).2, e3, decide_eq_false (by decide)]
  unfold fX1_fit
  simp only [lg_eq]
  by_cases h1 : ment &&& ((b1 k - 1) ^^^ (-1)) = 0
  · rw [if_pos h1]
    by_cases h2 : V &&& seen = seen
    · rw [if_pos h2]
      by_cases h3 : V &&& unseen = 0
      · rw [if_pos h3, all.mp ⟨h1, h2, h3⟩]; rfl
      · rw [if_neg h3]
        cases hs : so k S facts n
        · rfl
        · exact absurd (all.mpr hs).2.2 h3
    · rw [if_neg h2]
      cases hs : so k S facts n
      · rfl
      · exact absurd (all.mpr hs).2.1 h2
  · rw [if_neg h1]
    cases hs : so k S facts n
    · rfl
    · exact absurd (all.mpr hs).1 h1
theorem so_succ (k : Nat) (S : Nat → Nat → Bool) (facts : Nat → Int32) (n : Nat) : so k S facts (n + 1) = (so k S facts n && so1 k S facts n) := by
  unfold so
  rw [List.range_succ, List.all_append, List.all_cons, List.all_nil, Bool.and_true]
theorem X8_isSo {size ment : Int32} {seen unseen : Int64} {facts : Nat → Int32} {n : Nat} (hC : RC size ment seen unseen facts (nI n)) (hn6 : n ≤ 6) {f : Nat → Int32} {m k : Nat} (hI : Inv f m k) : fX8_isSo f facts (nI n) = some (bi (so k (see m f) facts n)) := by
  obtain ⟨n', hn', -, e, c1, -⟩ := hC
  obtain rfl : n = n' := nI_inj (by omega) (by omega) e
  obtain ⟨⟨h0, h1, hm, hk, h2⟩, -, -, hP, -⟩ := id hI
  obtain ⟨w, e1, e2⟩ := cle n (fun fu (w : Bool) i => fX8_isSo_L1 f facts (nI n) fu (bi w) (nI i)) (fun w j => w && so1 k (see m f) facts j) (fun w => (bi w, nI n)) (fun w i => w = so k (see m f) facts i)
    (by intro fu s _
        show fX8_isSo_L1 f facts (nI n) (fu + 1) (bi s) (nI n) = _
        rw [fX8_isSo_L1.eq_2, if_pos (nI_le (Nat.le_refl n) (by omega))])
    (by intro fu s j hj hs
        show fX8_isSo_L1 f facts (nI n) (fu + 1) (bi s) (nI j) = fX8_isSo_L1 f facts (nI n) fu (bi _) (nI (j + 1)) ∧ _
        refine ⟨?_, by rw [so_succ, hs]⟩
        obtain ⟨g, x, b, hg, hx, -, f1, f2, f3⟩ := c1 j hj
        have j0 : 3 * nI j = nI (3 * j) := by rw [l3, pk_mul]
        have j1 : 3 * nI j + 1 = nI (3 * j + 1) := by rw [j0, l1, nI_add]
        have j2 : 3 * nI j + 2 = nI (3 * j + 2) := by rw [j0, l2, nI_add]
        have hso : so1 k (see m f) facts j = (decide (g < k) && (decide (x < k) && (see m f g x == b))) := by
          unfold so1
          rw [f1, f2, f3, nI_N (by omega), nI_N (by omega)]
          cases b <;> rfl
        rw [fX8_isSo_L1.eq_2, if_neg (nI_ge hj (by omega)), j2, j1, j0, gd_t (inB_nI (by omega) (by decide)), bd_eq, gd_t (inB_nI (by omega) (by decide)), bd_eq, nI_N (by omega), nI_N (by omega), nI_N (by omega), f1, f2, f3, hso, X8_isHost (by omega) h1, X8_isHost (by omega) h1, hasSw (by omega), hasSw (by omega), nI_toInt (by omega), nI_toInt (by omega)]
        cases s
        · rw [ifb_f, bd_eq, nI_1, Bool.false_and]; rfl
        · rw [ifb_t, bs, bs, Bool.true_and]
          by_cases hgk : g < k
          · have t1 : (decide (0 ≤ (g : Int)) && decide ((g : Int) < k)) = true := by simp; omega
            rw [t1, ifb_t, decide_eq_true hgk, Bool.true_and]
            by_cases hxk : x < k
            · have t2 : (decide (0 ≤ (x : Int)) && decide ((x : Int) < k)) = true := by simp; omega
              rw [t2, ifb_t, decide_eq_true hxk, Bool.true_and, X8_doesSee hm hk h0 hP hgk hxk, bs, gd_t (inB_nI (by omega) (by decide))]
              cases b
              · rw [if_neg (show ¬ bi false = 1 from by decide)]
                cases see m f g x
                · rw [if_pos (show bi false = 0 from rfl), bd_eq, nI_1]; rfl
                · rw [if_neg (show ¬ bi true = 0 from by decide), bd_eq, nI_1]; rfl
              · rw [if_pos (show bi true = 1 from rfl)]
                cases see m f g x
                · rw [if_neg (show ¬ bi false = 1 from by decide), bd_eq, nI_1]; rfl
                · rw [if_pos (show bi true = 1 from rfl), bd_eq, nI_1]; rfl
            · have t2 : (decide (0 ≤ (x : Int)) && decide ((x : Int) < k)) = false := by simp; omega
              rw [t2, ifb_f, decide_eq_false hxk, Bool.false_and, bd_eq, nI_1]; rfl
          · have t1 : (decide (0 ≤ (g : Int)) && decide ((g : Int) < k)) = false := by simp; omega
            rw [t1, ifb_f, decide_eq_false hgk, Bool.false_and, bd_eq, nI_1]; rfl)
    true 500 (by omega) rfl
  have e1 : fX8_isSo_L1 f facts (nI n) 500 1 0 = _ := e1
  unfold fX8_isSo
  rw [e1, bs, gd_t (bi_or _), e2]
