/-! links cut on trial -/
/-- who of k tells, summed -/
def tw (k : Nat) (S : Nat → Nat → Bool) : Nat := fb_sm (fun g => fb_ct (S g) k) k
theorem ct_lim {p : Nat → Bool} {k n : Nat} (hk : k ≤ n) : fb_ct (fun i => decide (i < k) && p i) n = fb_ct p k := by
  obtain ⟨d, rfl⟩ : ∃ d, n = k + d := ⟨n - k, by omega⟩
  rw [fb_ct_split]
  have e1 : fb_ct (fun i => decide (i < k) && p i) k = fb_ct p k := fb_ct_cong (fun i hi => by rw [decide_eq_true hi, Bool.true_and])
  have e2 : fb_ct (fun j => decide (k + j < k) && p (k + j)) d = 0 := fb_ct_zero.mpr (fun j _ => by rw [decide_eq_false (by omega), Bool.false_and])
  rw [e1, e2, Nat.add_zero]
theorem sm_lim {f : Nat → Nat} {k n : Nat} (hk : k ≤ n) (h : ∀ i, k ≤ i → i < n → f i = 0) : fb_sm f n = fb_sm f k := by
  obtain ⟨d, rfl⟩ : ∃ d, n = k + d := ⟨n - k, by omega⟩
  rw [fb_sm_split]
  have : fb_sm (fun j => f (k + j)) d = fb_sm (fun _ => 0) d := fb_sm_cong (fun j hj => h (k + j) (by omega) (by omega))
  rw [this, fb_sm_const]
  omega
theorem tw_cong {k : Nat} {S S' : Nat → Nat → Bool} (h : ∀ g x, g < k → x < k → S g x = S' g x) : tw k S = tw k S' := fb_sm_cong (fun g hg => fb_ct_cong (fun x hx => h g x hg hx))
theorem twoT_eq {n k : Nat} (hk : k ≤ 8) (f : Nat → Int32) : twoT n k f = tw k (see n f) := by
  unfold twoT tw
  refine fb_sm_cong (fun g _ => ?_)
  unfold cnt8
  rw [← ct_lim hk]
  exact fb_ct_cong (fun i _ => bt_srow hk i)
theorem tw_le {k : Nat} (hk : k ≤ 8) (S : Nat → Nat → Bool) : tw k S ≤ 64 := by
  have := fb_sm_bound (f := fun g => fb_ct (S g) k) (c := 8) (n := k) (fun g _ => by have := fb_ct_le (S g) k; omega)
  unfold tw
  omega
/-- V tells S -/
def IsS (k : Nat) (S : Nat → Nat → Bool) (V : Int64) : Prop := ∀ g h, g < 8 → h < 8 → bL V (8 * g + h) = (decide (g < k) && (decide (h < k) && S g h))
theorem sm_gen {k : Nat} (hk : k ≤ 8) {S : Nat → Nat → Bool} {V : Int64} (hV : IsS k S V) : fb_sm (fun g => pop8 (byt V.toBitVec.toNat g)) 8 = tw k S := by
  have e : fb_sm (fun g => pop8 (byt V.toBitVec.toNat g)) 8 = fb_sm (fun g => fb_ct (fun i => bL V (8 * g + i)) 8) 8 := fb_sm_cong (fun g hg => pop_row V hg)
  rw [e, sm_lim hk (fun g hg h8 => fb_ct_zero.mpr (fun i hi => by rw [hV g i h8 hi, decide_eq_false (by omega), Bool.false_and]))]
  refine fb_sm_cong (fun g hg => ?_)
  rw [← ct_lim hk]
  exact fb_ct_cong (fun i hi => by rw [hV g i (by omega) hi, decide_eq_true hg, Bool.true_and])
theorem twosOf_gen {k : Nat} (hk : k ≤ 8) {S : Nat → Nat → Bool} {V : Int64} (hV : IsS k S V) : fX7_twosOf V = some (nI (tw k S / 2)) := by
  unfold fX7_twosOf
  have := tw_le hk S
  rw [bitCountL, sm_gen hk hV, bs, l2, pk_div (by omega) (by decide) (by decide)]
theorem sm_col (S : Nat → Nat → Bool) (x : Nat) : ∀ n, fb_sm (fun g => if S g x then 1 else 0) n = fb_ct (fun g => S g x) n := by
  intro n
  induction n with
  | zero => rfl
  | succ n ih => rw [fb_sm_succ, fb_ct_succ, ih]
theorem tw_even {k : Nat} {S : Nat → Nat → Bool} (hs : ∀ g x, g < k → x < k → S g x = S x g) (hi : ∀ g, g < k → S g g = false) : ∃ e, tw k S = 2 * e := by
  have key : ∀ n, n ≤ k → ∃ e, fb_sm (fun g => fb_ct (S g) n) n = 2 * e := by
    intro n
    induction n with
    | zero => intro _; exact ⟨0, rfl⟩
    | succ n ih =>
      intro hn
      obtain ⟨e, he⟩ := ih (by omega)
      have h1 : fb_sm (fun g => fb_ct (S g) (n + 1)) n = fb_sm (fun g => fb_ct (S g) n) n + fb_ct (fun g => S g n) n := by
        rw [← sm_col, ← fb_sm_add]
        rfl
      have h2 : fb_ct (fun g => S g n) n = fb_ct (S n) n := fb_ct_cong (fun g hg => hs g n (by omega) (by omega))
      refine ⟨e + fb_ct (S n) n, ?_⟩
      rw [fb_sm_succ, h1, he, h2, fb_ct_succ, hi n (by omega), if_neg (by decide)]
      omega
  exact key k (Nat.le_refl k)
theorem tw_diff {k : Nat} {S T : Nat → Nat → Bool} (h : ∀ g x, g < k → x < k → T g x = true → S g x = true) : tw k S = tw k T + tw k (fun g x => S g x && !T g x) := by
  unfold tw
  rw [← fb_sm_add]
  refine fb_sm_cong (fun g hg => ?_)
  have e := fb_ct_or (p := T g) (q := fun x => S g x && !T g x) (n := k) (fun x _ hx => by
    have h1 := hx.1
    have h2 := hx.2
    simp only [h1] at h2
    simp at h2)
  rw [← e]
  refine fb_ct_cong (fun x hx => ?_)
  have := h g x hg hx
  cases hT : T g x
  · simp [hT]
  · rw [this hT]; rfl
theorem inz_sy (f : Nat → Int32) (a g h : Nat) : inz f a g h = inz f a h g := by
  unfold inz
  congr 1
  funext z
  rw [Bool.and_comm]
theorem see_sy {n k : Nat} {f : Nat → Int32} (hI : Inv f n k) {g h : Nat} (hg : g < k) (hh : h < k) : see n f g h = see n f h g := by
  obtain ⟨⟨-, -, hn, -, -⟩, -, -, hP, ⟨uB, uS, -, -⟩, -, -, hU⟩ := hI
  have one : ∀ x y, x < k → y < k → see n f x y = true → see n f y x = true := by
    intro x y hx hy hs
    obtain ⟨h1, a, b, ha, hb, ea, eb, hc, hi⟩ := (see_iff hP hn hx hy).mp hs
    refine (see_iff hP hn hy hx).mpr ⟨fun e => h1 e.symm, b, a, hb, ha, eb, ea, hc.sy hn uB uS ha, ?_⟩
    rw [← inone_eq hU ha hc]
    unfold inone at hi ⊢
    rw [inz_sy]; exact hi
  rw [Bool.eq_iff_iff]
  exact ⟨one g h hg hh, one h g hh hg⟩
theorem see_ir (n : Nat) (f : Nat → Int32) (g : Nat) : see n f g g = false := by unfold see; rw [decide_eq_true rfl]; rfl
/-- the row with the link a-b down -/
def cutr (f : Nat → Int32) (a b : Nat) : Nat → Int32 := upd (upd f (35 + a) (lk (f (35 + a)) b false)) (35 + b) (lk (f (35 + b)) a false)
theorem cutr_o {f : Nat → Int32} {a b x : Nat} (h1 : x ≠ 35 + a) (h2 : x ≠ 35 + b) : cutr f a b x = f x := by unfold cutr; rw [pk_un h2, pk_un h1]
theorem cutr_b {f : Nat → Int32} {a b : Nat} (ha : a < 32) (hb : b < 32) (hab : a ≠ b) {c i : Nat} (hi : i < 32) : bt (cutr f a b (35 + c)) i = if (c = a ∧ i = b) ∨ (c = b ∧ i = a) then false else bt (f (35 + c)) i := by
  unfold cutr
  by_cases h1 : c = b
  · subst h1
    rw [pk_us, bt_lk ha hi]
    by_cases h2 : i = a
    · rw [if_pos h2, if_pos (Or.inr ⟨rfl, h2⟩)]
    · rw [if_neg h2, if_neg (by omega)]
  · rw [pk_un (by omega)]
    by_cases h2 : c = a
    · subst h2
      rw [pk_us, bt_lk hb hi]
      by_cases h3 : i = b
      · rw [if_pos h3, if_pos (Or.inl ⟨rfl, h3⟩)]
      · rw [if_neg h3, if_neg (by omega)]
    · rw [pk_un (by omega), if_neg (by omega)]
def memp (l : List (Nat × Nat)) (c i : Nat) : Bool := l.any (fun p => (decide (p.1 = c) && decide (p.2 = i)) || (decide (p.1 = i) && decide (p.2 = c)))
theorem memp_app (l : List (Nat × Nat)) (a b c i : Nat) : memp (l ++ [(a, b)]) c i = (memp l c i || ((decide (a = c) && decide (b = i)) || (decide (a = i) && decide (b = c)))) := by
  unfold memp
  rw [List.any_append, List.any_cons, List.any_nil, Bool.or_false]
theorem memp_sy (l : List (Nat × Nat)) (c i : Nat) : memp l c i = memp l i c := by
  unfold memp
  congr 1
  funext p
  rw [Bool.or_comm]
/-- f is now, but links that were tried aren't clashed any more -/
def QM (now : Nat → Int32) (l : List (Nat × Nat)) (f : Nat → Int32) : Prop := (∀ x, x < 35 ∨ 47 ≤ x → f x = now x) ∧ (∀ c, c < 6 → f (35 + c) = now (35 + c)) ∧ ∀ c, c < 6 → ∀ i, i < 32 → bt (f (41 + c)) i = (bt (now (41 + c)) i && !memp l c i)
theorem QM_0 (now : Nat → Int32) : QM now [] now := ⟨fun _ _ => rfl, fun _ _ => rfl, fun c _ i _ => by unfold memp; simp⟩
theorem lt32 {x : Int32} {i : Nat} (h : bt x i = true) : i < 32 := by
  rcases Nat.lt_or_ge i 32 with q | q
  · exact q
  · rw [b_big q] at h; cases h
theorem QM_inv {now f : Nat → Int32} {l : List (Nat × Nat)} {m k : Nat} (hI : Inv now m k) (hQ : QM now l f) : Inv f m k := by
  obtain ⟨q1, q2, q3⟩ := hQ
  obtain ⟨⟨h0, h1, hm, hk, h2⟩, -, -, -, hu, ⟨cB, cS, cI, cZ⟩, -, hU⟩ := id hI
  refine Inv_lnk q1 (RwL_cg hm q2 hu) ⟨fun a ha i hi => ?_, fun a b ha hb hi => ?_, fun a ha => ?_, fun a ha h6 => ?_⟩ (fun a b ha hc z hz => ?_) hI
  · have hi' : bt (f (41 + a)) i = true := hi
    rw [q3 a (by omega) i (lt32 hi), Bool.and_eq_true] at hi'
    exact cB a ha i hi'.1
  · have hi' : bt (f (41 + a)) b = true := hi
    rw [q3 a (by omega) b (by omega), Bool.and_eq_true] at hi'
    show bt (f (41 + b)) a = true
    rw [q3 b (by omega) a (by omega), Bool.and_eq_true, memp_sy]
    exact ⟨cS a b ha hb hi'.1, hi'.2⟩
  · show bt (f (41 + a)) a = false
    rw [q3 a (by omega) a (by omega), show bt (now (41 + a)) a = false from cI a ha, Bool.false_and]
  · show f (41 + a) = 0
    rw [b_eq0]
    intro i hi
    rw [q3 a h6 i hi, show now (41 + a) = 0 from cZ a ha h6, b_0, Bool.false_and]
  · have hc' : Cnn m (UPr now) a b := (Cnn_cg (fun c hc => q2 c (by omega))).mp hc
    have hb := hc'.bd hm hu.1 ha
    rw [q1 _ (by omega), q1 _ (by omega)]
    exact hU a b ha hc' z hz
theorem trial {now f up cl : Nat → Int32} {m k : Nat} {l : List (Nat × Nat)} (hI : Inv now m k) (hQ : QM now l f) (hu : ∀ c, c < m → up c = f (35 + c)) (hc : ∀ c, c < m → cl c = f (41 + c)) {a b : Nat} (ha : a < m) (hb : b < m) (hab : a ≠ b) (hon : bt (now (35 + a)) b = true) :
    ∃ up1 cl1 g1 up2 cl2 g2, fX3_setLink (nI m) up cl (nI a) (nI b) 0 = some (up1, cl1) ∧ fX8_putLink f (nI a) (nI b) 0 0 = some g1 ∧ (∀ c, c < m → up1 c = g1 (35 + c)) ∧ fX3_setLink (nI m) up1 cl1 (nI a) (nI b) 1 = some (up2, cl2) ∧ fX8_putLink g1 (nI a) (nI b) 1 0 = some g2 ∧
      (∀ c, c < m → up2 c = g2 (35 + c)) ∧ (∀ c, c < m → cl2 c = g2 (41 + c)) ∧ QM now (l ++ [(a, b)]) g2 ∧ Inv g1 m k ∧ (∀ x, x < 35 ∨ 47 ≤ x → g1 x = now x) ∧ (∀ c, c < m → g1 (35 + c) = cutr now a b (35 + c)) := by
  have hIf := QM_inv hI hQ
  obtain ⟨q1, q2, q3⟩ := hQ
  obtain ⟨⟨h0, h1, hm, hk, h2⟩, -, -, -, hLu, hLc, -, hU⟩ := id hIf
  obtain ⟨up1, cl1, g1, a1, a2, a3, a4, a5, a6, a7⟩ := link_both hm hu hc ha hb hab (u := false) (c := false) (by decide)
  obtain ⟨up2, cl2, g2, b1', b2', b3', b4', b5', b6', b7'⟩ := link_both hm a3 a4 ha hb hab (u := true) (c := false) (by decide)
  have hg1 : ∀ x, x < 35 ∨ 47 ≤ x → g1 x = f x := fun x hx => a7 x (by omega) (by omega) (by omega) (by omega)
  have hg2 : ∀ x, x < 35 ∨ 47 ≤ x → g2 x = g1 x := fun x hx => b7' x (by omega) (by omega) (by omega) (by omega)
  have hba : bt (now (35 + b)) a = true := hI.2.2.2.2.1.2.1 a b ha hb hon
  refine ⟨up1, cl1, g1, up2, cl2, g2, a1, a2, a3, b1', b2', b3', b4', ⟨fun x hx => ?_, fun c hc => ?_, fun c hc i hi => ?_⟩, ?_, fun x hx => (hg1 x hx).trans (q1 x hx), fun c hc => ?_⟩
  · rw [hg2 x hx, hg1 x hx, q1 x hx]
  · refine b_ext (fun i hi => ?_)
    rw [b5' c hc i hi, a5 c hc i hi, ← q2 c hc]
    by_cases hq : (c = a ∧ i = b) ∨ (c = b ∧ i = a)
    · rw [if_pos hq]
      rcases hq with ⟨rfl, rfl⟩ | ⟨rfl, rfl⟩
      · rw [q2 c hc, hon]
      · rw [q2 c hc, hba]
    · rw [if_neg hq, if_neg hq]
  · rw [b6' c hc i hi, a6 c hc i hi, q3 c hc i hi, memp_app]
    by_cases hq : (c = a ∧ i = b) ∨ (c = b ∧ i = a)
    · rw [if_pos hq]
      have : ((decide (a = c) && decide (b = i)) || (decide (a = i) && decide (b = c))) = true := by
        rcases hq with ⟨rfl, rfl⟩ | ⟨rfl, rfl⟩ <;> simp
      rw [this]; simp
    · rw [if_neg hq, if_neg hq]
      have : ((decide (a = c) && decide (b = i)) || (decide (a = i) && decide (b = c))) = false := by
        rw [Bool.or_eq_false_iff, Bool.and_eq_false_iff, Bool.and_eq_false_iff]
        simp only [decide_eq_false_iff_not]
        omega
      rw [this, Bool.or_false]
  · refine Inv_lnk hg1 (RwL_link hm (f := UPr f) (g := UPr g1) ha hb hab a5 hLu) (RwL_link hm (f := CLr f) (g := CLr g1) ha hb hab a6 hLc) (fun x y hx hc z hz => ?_) hIf
    have hc' : Cnn m (UPr f) x y := Cnn.mono hm hLu.1 (fun c hc i hi => by
      have hi' : bt (g1 (35 + c)) i = true := hi
      rw [a5 c (by omega) i (lt32 hi)] at hi'
      by_cases hq : (c = a ∧ i = b) ∨ (c = b ∧ i = a)
      · rw [if_pos hq] at hi'; cases hi'
      · rw [if_neg hq] at hi'; exact hi') hx hc
    have hy := hc'.bd hm hLu.1 hx
    rw [hg1 _ (by omega), hg1 _ (by omega)]
    exact hU x y hx hc' z hz
  · refine b_ext (fun i hi => ?_)
    rw [a5 c (by omega) i hi, cutr_b (by omega) (by omega) hab hi, q2 c (by omega)]
theorem RwP_cut {now : Nat → Int32} {m k a b : Nat} (hk : k ≤ 8) (hP : RwP now m k) : RwP (cutr now a b) m k := fun h hh => by rw [cutr_o (by omega) (by omega)]; exact hP h hh
theorem see_cut {now g1 : Nat → Int32} {m k a b : Nat} (hm : m ≤ 6) (hk : k ≤ 8) (ha : a < m) (hb : b < m) (hP : RwP now m k) (h1 : ∀ x, x < 35 ∨ 47 ≤ x → g1 x = now x) (h2 : ∀ c, c < m → g1 (35 + c) = cutr now a b (35 + c)) {x y : Nat} (hx : x < k) (hy : y < k) : see m g1 x y = see m (cutr now a b) x y :=
  see_cg2 hm (RwP_cut hk hP) (fun h hh => by rw [cutr_o (by omega) (by omega)]; exact h1 _ (by omega)) h2 (fun c hc z hz => by rw [cutr_o (by omega) (by omega)]; exact h1 _ (by omega)) hx hy
theorem cut_less {now : Nat → Int32} {m k a b : Nat} (hI : Inv now m k) (ha : a < m) (hb : b < m) (hab : a ≠ b) {x y : Nat} (hx : x < k) (hy : y < k) (h : see m (cutr now a b) x y = true) : see m now x y = true := by
  obtain ⟨⟨h0, h1, hm, hk, h2⟩, -, -, hP, hLu, -, -, hU⟩ := id hI
  obtain ⟨h1, c, d, hc, hd, ec, ed, hcn, hin⟩ := (see_iff (RwP_cut hk hP) hm hx hy).mp h
  rw [cutr_o (by omega) (by omega)] at ec ed
  refine (see_iff hP hm hx hy).mpr ⟨h1, c, d, hc, hd, ec, ed, Cnn.mono hm hLu.1 (fun e he i hi => ?_) hc hcn, ?_⟩
  · have hi' : bt (cutr now a b (35 + e)) i = true := hi
    rw [cutr_b (by omega) (by omega) hab (lt32 hi)] at hi'
    by_cases hq : (e = a ∧ i = b) ∨ (e = b ∧ i = a)
    · rw [if_pos hq] at hi'; cases hi'
    · rw [if_neg hq] at hi'; exact hi'
  · rw [inone_cg (f := now) (fun z hz => cutr_o (by omega) (by omega))] at hin
    exact hin
/-- what a link's cut costs -/
def ls (m k : Nat) (now : Nat → Int32) (p : Nat × Nat) : Nat := tw k (fun g x => see m now g x && !see m (cutr now p.1 p.2) g x) / 2
theorem ls_le (m : Nat) {k : Nat} (hk : k ≤ 8) (now : Nat → Int32) (p : Nat × Nat) : ls m k now p ≤ 32 := by
  have := tw_le hk (fun g x => see m now g x && !see m (cutr now p.1 p.2) g x)
  unfold ls
  omega
theorem ls_sub {now g1 : Nat → Int32} {m k a b : Nat} (hI : Inv now m k) (hI1 : Inv g1 m k) (ha : a < m) (hb : b < m) (hab : a ≠ b) (h1 : ∀ x, x < 35 ∨ 47 ≤ x → g1 x = now x) (h2 : ∀ c, c < m → g1 (35 + c) = cutr now a b (35 + c)) :
    nI (twoT m k now / 2) - nI (twoT m k g1 / 2) = nI (ls m k now (a, b)) := by
  have hm := hI.1.2.2.1
  have hk := hI.1.2.2.2.1
  have e1 : tw k (see m g1) = tw k (see m (cutr now a b)) := tw_cong (fun g x hg hx => see_cut hm hk ha hb hI.2.2.2.1 h1 h2 hg hx)
  have e2 := tw_diff (k := k) (S := see m now) (T := see m (cutr now a b)) (fun g x hg hx h => cut_less hI ha hb hab hg hx h)
  obtain ⟨e, he⟩ := tw_even (k := k) (S := see m now) (fun g x hg hx => see_sy hI hg hx) (fun g _ => see_ir m now g)
  obtain ⟨e', he'⟩ := tw_even (k := k) (S := see m g1) (fun g x hg hx => see_sy hI1 hg hx) (fun g _ => see_ir m g1 g)
  rw [twoT_eq hk, twoT_eq hk, pk_sub (by omega)]
  refine congrArg nI ?_
  unfold ls
  show _ = tw k (fun g x => see m now g x && !see m (cutr now a b) g x) / 2
  omega
/-- the pairs that are joined by a link -/
def upr (u : Nat → Int32) (a b n : Nat) : List (Nat × Nat) := ((List.range' b n).filter (fun x => bt (u a) x)).map (fun x => (a, x))
def upa (m : Nat) (u : Nat → Int32) : Nat → List (Nat × Nat)
  | 0 => []
  | a + 1 => upa m u a ++ upr u a (a + 1) (m - (a + 1))
def ups (m : Nat) (u : Nat → Int32) : List (Nat × Nat) := upa m u m
theorem upr_len (u : Nat → Int32) (a b n : Nat) : (upr u a b n).length ≤ n := by
  unfold upr
  rw [List.length_map]
  have := List.length_filter_le (fun x => bt (u a) x) (List.range' b n)
  rw [List.length_range'] at this
  exact this
def t15 : Nat → Nat
  | 0 => 0
  | a + 1 => t15 a + (5 - a)
theorem upa_len {m : Nat} (hm : m ≤ 6) (u : Nat → Int32) : ∀ a, (upa m u a).length ≤ t15 a := by
  intro a
  induction a with
  | zero => exact Nat.le_refl 0
  | succ a ih =>
    rw [upa, List.length_append, t15]
    have := upr_len u a (a + 1) (m - (a + 1))
    omega
theorem t15_lt : ∀ a, a < 6 → ∀ b, b < 6 → a < b → t15 a + (b - (a + 1)) < 15 := by decide +kernel
theorem t15_6 : ∀ a, a ≤ 6 → t15 a ≤ 15 := by decide +kernel
theorem pairs_inv {σ β γ : Type} {m : Nat} (hm : m ≤ 6) (u : Nat → Int32) (Q : σ → List (Nat × Nat) → Prop) (L1 : Nat → σ → Nat → Option β) (L2 : Nat → Nat → σ → Nat → Option γ) (o1 : σ → β) (o2 : σ → γ)
    (h1e : ∀ fu s l, Q s l → L1 (fu + 1) s m = some (o1 s))
    (h1s : ∀ fu s l a s' l', a < m → Q s l → Q s' l' → L2 a 500 s (a + 1) = some (o2 s') → L1 (fu + 1) s a = L1 fu s' (a + 1))
    (h2e : ∀ a fu s l, Q s l → L2 a (fu + 1) s m = some (o2 s))
    (h2n : ∀ a b fu s l, a < b → b < m → Q s l → bt (u a) b = false → L2 a (fu + 1) s b = L2 a fu s (b + 1))
    (h2y : ∀ a b fu s l, a < b → b < m → Q s l → l.length < 15 → bt (u a) b = true → ∃ s', L2 a (fu + 1) s b = L2 a fu s' (b + 1) ∧ Q s' (l ++ [(a, b)]))
    (s : σ) (h0 : Q s []) : ∃ s', L1 500 s 0 = some (o1 s') ∧ Q s' (ups m u) := by
  have inner : ∀ (a : Nat), a < m → ∀ (j b fu : Nat) (s : σ) (l : List (Nat × Nat)), b + j = m → a < b → j < fu → Q s l → l.length ≤ t15 a + (b - (a + 1)) → ∃ s', L2 a fu s b = some (o2 s') ∧ Q s' (l ++ upr u a b j) := by
    intro a ha j
    induction j with
    | zero =>
      intro b fu s l hb hab hf hQ hl
      obtain ⟨q, rfl⟩ : ∃ q, fu = q + 1 := ⟨fu - 1, by omega⟩
      have : b = m := by omega
      subst this
      refine ⟨s, h2e a q s l hQ, ?_⟩
      show Q s (l ++ [])
      rw [List.append_nil]; exact hQ
    | succ j ih =>
      intro b fu s l hb hab hf hQ hl
      obtain ⟨q, rfl⟩ : ∃ q, fu = q + 1 := ⟨fu - 1, by omega⟩
      have hu : upr u a b (j + 1) = (if bt (u a) b then [(a, b)] else []) ++ upr u a (b + 1) j := by
        unfold upr
        rw [List.range'_succ, List.filter_cons]
        cases bt (u a) b <;> rfl
      rw [hu, ← List.append_assoc]
      cases hbt : bt (u a) b
      · rw [h2n a b q s l hab (by omega) hQ hbt, if_neg (by decide), List.append_nil]
        exact ih (b + 1) q s l (by omega) (by omega) (by omega) hQ (by omega)
      · have hl15 := t15_lt a (by omega) b (by omega) hab
        obtain ⟨s', e, hQ'⟩ := h2y a b q s l hab (by omega) hQ (by omega) hbt
        rw [e, if_pos rfl]
        refine ih (b + 1) q s' _ (by omega) (by omega) (by omega) hQ' ?_
        rw [List.length_append, List.length_singleton]
        omega
  have outer : ∀ (j a fu : Nat) (s : σ), a + j = m → j < fu → Q s (upa m u a) → ∃ s', L1 fu s a = some (o1 s') ∧ Q s' (ups m u) := by
    intro j
    induction j with
    | zero =>
      intro a fu s ha hf hQ
      obtain ⟨q, rfl⟩ : ∃ q, fu = q + 1 := ⟨fu - 1, by omega⟩
      have : a = m := by omega
      subst this
      exact ⟨s, h1e q s _ hQ, hQ⟩
    | succ j ih =>
      intro a fu s ha hf hQ
      obtain ⟨q, rfl⟩ : ∃ q, fu = q + 1 := ⟨fu - 1, by omega⟩
      obtain ⟨s', e, hQ'⟩ := inner a (by omega) (m - (a + 1)) (a + 1) 500 s _ (by omega) (by omega) (by omega) hQ (by have := upa_len hm u a; omega)
      rw [h1s q s _ a s' _ (by omega) hQ hQ' e]
      exact ih (a + 1) q s' (by omega) (by omega) hQ'
  exact outer m 0 500 s (by omega) (by omega) h0
theorem ups_len {m : Nat} (hm : m ≤ 6) (u : Nat → Int32) : (ups m u).length ≤ 15 := Nat.le_trans (upa_len hm u m) (t15_6 m hm)
theorem upr_mem {u : Nat → Int32} {a b n : Nat} {p : Nat × Nat} (h : p ∈ upr u a b n) : p.1 = a ∧ b ≤ p.2 ∧ p.2 < b + n ∧ bt (u p.1) p.2 = true := by
  unfold upr at h
  rw [List.mem_map] at h
  obtain ⟨x, hx, rfl⟩ := h
  rw [List.mem_filter, List.mem_range'_1] at hx
  exact ⟨rfl, hx.1.1, hx.1.2, hx.2⟩
theorem ups_mem {m : Nat} {u : Nat → Int32} {p : Nat × Nat} (h : p ∈ ups m u) : p.1 < p.2 ∧ p.2 < m ∧ bt (u p.1) p.2 = true := by
  have key : ∀ a, a ≤ m → p ∈ upa m u a → p.1 < p.2 ∧ p.2 < m ∧ bt (u p.1) p.2 = true := by
    intro a
    induction a with
    | zero => intro _ h; cases h
    | succ a ih =>
      intro ha h
      rw [upa, List.mem_append] at h
      rcases h with h | h
      · exact ih (by omega) h
      · obtain ⟨h1, h2, h3, h4⟩ := upr_mem h
        exact ⟨by omega, by omega, h4⟩
  exact key m (Nat.le_refl m) h
