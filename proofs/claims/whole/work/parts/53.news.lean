/-! news: looking ahead, and telling -/
theorem spr_cg {n : Nat} {u v : Nat → Int32} (h : ∀ a, a < n → u a = v a) (S : Int32) : spr n u S = spr n v S := by
  refine b_ext (fun i _ => ?_)
  rw [Bool.eq_iff_iff, bt_spr, bt_spr]
  constructor
  · rintro (h1 | ⟨a, h1, h2, h3⟩)
    · exact Or.inl h1
    · exact Or.inr ⟨a, h1, h2, by rw [← h a h1]; exact h3⟩
  · rintro (h1 | ⟨a, h1, h2, h3⟩)
    · exact Or.inl h1
    · exact Or.inr ⟨a, h1, h2, by rw [h a h1]; exact h3⟩
theorem itr_cg {n : Nat} {u v : Nat → Int32} (h : ∀ a, a < n → u a = v a) (j : Nat) (S : Int32) : itr n u j S = itr n v j S := by
  induction j with
  | zero => rfl
  | succ j ih => rw [itr, itr, ih, spr_cg h]
theorem fab_cg {n : Nat} {u v : Nat → Int32} (h : ∀ a, a < n → u a = v a) (a : Nat) : fab n u a = fab n v a := itr_cg h 6 _
theorem Cnn_cg {n : Nat} {u v : Nat → Int32} (h : ∀ a, a < n → u a = v a) {a b : Nat} : Cnn n u a b ↔ Cnn n v a b := by
  unfold Cnn
  rw [fab_cg h]
theorem zall_cg {f g : Nat → Int32} {a : Nat} (h : ∀ z, z < 4 → g (47 + 4 * a + z) = f (47 + 4 * a + z)) : zall g a = zall f a := by
  refine b_ext (fun i _ => ?_)
  rw [Bool.eq_iff_iff, bt_zall, bt_zall]
  constructor
  · rintro ⟨z, h1, h2⟩; exact ⟨z, h1, by rw [← h z h1]; exact h2⟩
  · rintro ⟨z, h1, h2⟩; exact ⟨z, h1, by rw [h z h1]; exact h2⟩
theorem inone_cg {f g : Nat → Int32} {a : Nat} (h : ∀ z, z < 4 → g (47 + 4 * a + z) = f (47 + 4 * a + z)) (x y : Nat) : inone g a x y = inone f a x y := by
  have e2 : inz g a x y = inz f a x y := by
    rw [Bool.eq_iff_iff, inz_iff, inz_iff]
    constructor
    · rintro ⟨z, h1, h2⟩; exact ⟨z, h1, by rw [← h z h1]; exact h2⟩
    · rintro ⟨z, h1, h2⟩; exact ⟨z, h1, by rw [h z h1]; exact h2⟩
  unfold inone
  rw [zall_cg h, e2]
theorem pn_lt {n k : Nat} {f : Nat → Int32} (hn : n ≤ 6) (hP : RwP f n k) {h : Nat} (hh : h < k) : pn f h < 6 := by
  unfold pn
  rcases hP h hh with e | ⟨a, ha, e⟩
  · rw [e]; decide
  · rw [e, nI_N (by omega)]; omega
theorem see_cg {n k : Nat} {f g : Nat → Int32} (hn : n ≤ 6) (hk : k ≤ 8) (hP : RwP f n k) (h : ∀ x, x < 71 → g x = f x) {x y : Nat} (hx : x < k) (hy : y < k) : see n g x y = see n f x y := by
  have hp := pn_lt hn hP hx
  unfold see
  rw [h (27 + x) (by omega), h (27 + y) (by omega), fab_cg (u := UPr g) (v := UPr f) (fun a ha => h (35 + a) (by omega)), show pn g x = pn f x from by unfold pn; rw [h (27 + x) (by omega)], show pn g y = pn f y from by unfold pn; rw [h (27 + y) (by omega)], inone_cg (fun z hz => h _ (by omega))]
theorem srow_cg {n k : Nat} {f g : Nat → Int32} (hn : n ≤ 6) (hk : k ≤ 8) (hP : RwP f n k) (h : ∀ x, x < 71 → g x = f x) {x : Nat} (hx : x < k) : srow n k g x = srow n k f x := by
  refine b_ext (fun i _ => ?_)
  rw [bt_srow hk, bt_srow hk]
  by_cases hi : i < k
  · rw [see_cg hn hk hP h hx hi]
  · rw [decide_eq_false hi, Bool.false_and, Bool.false_and]
theorem RwP_cg {n k : Nat} {f g : Nat → Int32} (hk : k ≤ 8) (h : ∀ x, x < 71 → g x = f x) (hP : RwP f n k) : RwP g n k := fun i hi => by rw [h _ (by omega)]; exact hP i hi
theorem X8_looks {n k : Nat} {f : Nat → Int32} (hn : n ≤ 6) (hk : k ≤ 8) (h0 : f 0 = nI n) (h1 : f 1 = nI k) (hP : RwP f n k) (sa : Nat → Int32) : ∃ sa', fX8_looks f sa = some sa' ∧ ∀ h, h < k → sa' h = srow n k f h := by
  obtain ⟨w', e1, e2⟩ := cle k (fun fu (w : Nat → Int32) i => fX8_looks_L1 f fu (nI i) w) (fun w h => upd w h (srow n k f h)) (fun w => (nI k, w)) (fun w m => ∀ h, h < m → w h = srow n k f h)
    (by intro fu s _
        show fX8_looks_L1 f (fu + 1) (nI k) s = _
        rw [fX8_looks_L1.eq_2, gd_t (by decide), z1N, h1, if_pos (nI_le (Nat.le_refl k) (by omega))])
    (by intro fu s i hi hs
        show fX8_looks_L1 f (fu + 1) (nI i) s = fX8_looks_L1 f fu (nI (i + 1)) _ ∧ _
        rw [fX8_looks_L1.eq_2, gd_t (by decide), z1N, h1, if_neg (nI_ge hi (by omega)), X8_seesOf hn hk h0 h1 hP hi, bs, gd_t (inB_nI (by omega) (by decide)), bd_eq, bd_eq, nI_1, nI_N (by omega)]
        refine ⟨rfl, fun h hh => ?_⟩
        by_cases hq : h = i
        · subst hq; rw [pk_us]
        · rw [pk_un hq]; exact hs h (by omega))
    sa 500 (by omega) (fun h hh => by omega)
  have e1 : fX8_looks_L1 f 500 0 sa = _ := e1
  refine ⟨w', ?_, e2⟩
  unfold fX8_looks
  rw [e1, bs]
theorem X8_tellNews {n k : Nat} {f : Nat → Int32} (hn : n ≤ 6) (hk : k ≤ 8) (h0 : f 0 = nI n) (h1 : f 1 = nI k) (hP : RwP f n k) (sa : Nat → Int32) :
    ∃ g, fX8_tellNews f sa = some g ∧ (∀ x, x < 71 → g x = f x) ∧ (∀ h, h < k → g (71 + h) = if sa h ^^^ srow n k f h = 0 then f (71 + h) else f (71 + h) + 1) ∧ (∀ h, h < k → g (79 + h) = if sa h ^^^ srow n k f h = 0 then f (79 + h) else sa h ^^^ srow n k f h) := by
  obtain ⟨w', e1, e2, e3, e4, -⟩ := cle k (fun fu (w : Nat → Int32) i => fX8_tellNews_L1 sa fu (nI i) w) (fun w h => if sa h ^^^ srow n k f h = 0 then w else upd (upd w (71 + h) (w (71 + h) + 1)) (79 + h) (sa h ^^^ srow n k f h)) (fun w => (nI k, w))
    (fun w m => (∀ x, x < 71 → w x = f x) ∧ (∀ h, h < m → w (71 + h) = if sa h ^^^ srow n k f h = 0 then f (71 + h) else f (71 + h) + 1) ∧ (∀ h, h < m → w (79 + h) = if sa h ^^^ srow n k f h = 0 then f (79 + h) else sa h ^^^ srow n k f h) ∧ ∀ h, m ≤ h → h < 8 → w (71 + h) = f (71 + h) ∧ w (79 + h) = f (79 + h))
    (by intro fu s hs
        show fX8_tellNews_L1 sa (fu + 1) (nI k) s = _
        rw [fX8_tellNews_L1.eq_2, gd_t (by decide), z1N, hs.1 1 (by omega), h1, if_pos (nI_le (Nat.le_refl k) (by omega))])
    (by intro fu s i hi hs
        obtain ⟨s1, s2, s3, s4⟩ := hs
        show fX8_tellNews_L1 sa (fu + 1) (nI i) s = fX8_tellNews_L1 sa fu (nI (i + 1)) _ ∧ _
        have g71 : inB (71 + nI i) 87 = true := by rw [l71, nI_add]; exact inB_nI (by omega) (by decide)
        have g79 : inB (79 + nI i) 87 = true := by rw [l79, nI_add]; exact inB_nI (by omega) (by decide)
        have n71 : (71 + nI i).toNatClampNeg = 71 + i := by rw [l71, nI_add, nI_N (by omega)]
        have n79 : (79 + nI i).toNatClampNeg = 79 + i := by rw [l79, nI_add, nI_N (by omega)]
        rw [fX8_tellNews_L1.eq_2, gd_t (by decide), z1N, s1 1 (by omega), h1, if_neg (nI_ge hi (by omega)), gd_t (inB_nI (by omega) (by decide)), X8_seesOf hn hk (by rw [s1 0 (by omega)]; exact h0) (by rw [s1 1 (by omega)]; exact h1) (RwP_cg hk s1 hP) hi, bs, srow_cg hn hk hP s1 hi, bd_eq, gd_t g71, nI_N (by omega)]
        by_cases hq : sa i ^^^ srow n k f i = 0
        · rw [if_pos hq, gd_t g71, bd_eq, if_pos hq, gd_t g79, gd_t g79, bd_eq, bd_eq, nI_1, n71, n79, addz, fa_upd_same rfl, fa_upd_same rfl, if_pos hq]
          refine ⟨rfl, s1, fun h hh => ?_, fun h hh => ?_, fun h hh h8 => s4 h (by omega) h8⟩
          · by_cases hx : h = i
            · subst hx; rw [if_pos hq]; exact (s4 h (by omega) (by omega)).1
            · exact s2 h (by omega)
          · by_cases hx : h = i
            · subst hx; rw [if_pos hq]; exact (s4 h (by omega) (by omega)).2
            · exact s3 h (by omega)
        · rw [if_neg hq, gd_t g71, bd_eq, if_neg hq, gd_t g79, bd_eq, bd_eq, nI_1, n71, n79, if_neg hq]
          refine ⟨rfl, fun x hx => by rw [pk_un (by omega), pk_un (by omega)]; exact s1 x hx, fun h hh => ?_, fun h hh => ?_, fun h hh h8 => ?_⟩
          · by_cases hx : h = i
            · subst hx; rw [pk_un (by omega), pk_us, if_neg hq, (s4 h (by omega) (by omega)).1]
            · rw [pk_un (by omega), pk_un (by omega)]; exact s2 h (by omega)
          · by_cases hx : h = i
            · subst hx; rw [pk_us, if_neg hq]
            · rw [pk_un (by omega), pk_un (by omega)]; exact s3 h (by omega)
          · rw [pk_un (by omega), pk_un (by omega), pk_un (by omega), pk_un (by omega)]
            exact s4 h (by omega) h8)
    f 500 (by omega) ⟨fun _ _ => rfl, fun h hh => by omega, fun h hh => by omega, fun _ _ _ => ⟨rfl, rfl⟩⟩
  have e1 : fX8_tellNews_L1 sa 500 0 f = _ := e1
  refine ⟨w', ?_, e2, e3, e4⟩
  unfold fX8_tellNews
  rw [e1, bs]
/-- the rows of a view -/
def RowV (k : Nat) (V : Int64) (sa : Nat → Int32) : Prop := ∀ h, h < k → ∀ i, i < 32 → bt (sa h) i = (decide (i < 8) && bL V (8 * h + i))
theorem rowV_srow {n k : Nat} (hk : k ≤ 8) {f : Nat → Int32} {V : Int64} (hV : IsV n k f V) {sa : Nat → Int32} (h : ∀ h, h < k → sa h = srow n k f h) : RowV k V sa := by
  intro x hx i hi
  rw [h x hx, bt_srow hk]
  by_cases h8 : i < 8
  · rw [hV x i (by omega) h8, decide_eq_true h8, decide_eq_true hx]; simp
  · rw [decide_eq_false h8, decide_eq_false (by omega : ¬ i < k)]; rfl
theorem row_eq {k : Nat} (hk : k ≤ 8) {V : Int64} {sa : Nat → Int32} (h : RowV k V sa) {x : Nat} (hx : x < k) : fX7_rowOf V (nI x) = some (sa x) := by
  obtain ⟨r, e, hr⟩ := X7_rowOf V (g := x) (by omega)
  rw [e, b_ext (fun i hi => (hr i hi).trans (h x hx i hi).symm)]
theorem notice_both {n k : Nat} {f up zo pl no ne : Nat → Int32} (hn : n ≤ 6) (hk : k ≤ 8) (h0 : f 0 = nI n) (h1 : f 1 = nI k) (hB : Bd n (UPr f)) (hS : Sy n (UPr f)) (hP : RwP f n k) (hU : RwU f n) (hu : ∀ a, a < n → up a = f (35 + a)) (hz0 : ∀ a, a < n → ∀ z, z < 4 → zo (4 * a + z) = f (47 + 4 * a + z)) (hpl : ∀ h, h < k → pl h = f (27 + h))
    (hno : ∀ h, h < k → no h = f (71 + h)) (hne : ∀ h, h < k → ne h = f (79 + h)) {V0 : Int64} {sa : Nat → Int32} (hsa : RowV k V0 sa) :
    ∃ no' ne' g, fX3_noticeSince (nI n) (nI k) up zo pl no ne V0 = some (no', ne') ∧ fX8_tellNews f sa = some g ∧ (∀ h, h < k → no' h = g (71 + h)) ∧ (∀ h, h < k → ne' h = g (79 + h)) ∧ (∀ x, x < 71 → g x = f x) := by
  obtain ⟨V, eV, hV⟩ := X3_view hn hk hB hS hP hU hu hz0 hpl
  obtain ⟨g, eg, g1, g2, g3⟩ := X8_tellNews hn hk h0 h1 hP sa
  have hd : RowV k (V0 ^^^ V) (fun h => sa h ^^^ srow n k f h) := by
    intro x hx i hi
    have hr := rowV_srow hk hV (sa := srow n k f) (fun _ _ => rfl) x hx i hi
    rw [b_xor, hsa x hx i hi, hr, L_xor]
    cases decide (i < 8) <;> simp
  obtain ⟨w, e1, e2, e3⟩ := cle k (fun fu (w : (Nat → Int32) × (Nat → Int32)) i => fX3_noticeSince_L1 (nI k) (V0 ^^^ V) fu (nI i) w.1 w.2) (fun w h => if sa h ^^^ srow n k f h = 0 then w else (upd w.1 h (w.1 h + 1), upd w.2 h (sa h ^^^ srow n k f h))) (fun w => (nI k, w.1, w.2))
    (fun w m => (∀ h, w.1 h = if h < m then (if sa h ^^^ srow n k f h = 0 then no h else no h + 1) else no h) ∧ ∀ h, w.2 h = if h < m then (if sa h ^^^ srow n k f h = 0 then ne h else sa h ^^^ srow n k f h) else ne h)
    (by intro fu s _
        show fX3_noticeSince_L1 (nI k) (V0 ^^^ V) (fu + 1) (nI k) s.1 s.2 = _
        rw [fX3_noticeSince_L1.eq_2, if_pos (nI_le (Nat.le_refl k) (by omega))])
    (by intro fu s i hi hs
        obtain ⟨s1, s2⟩ := hs
        show fX3_noticeSince_L1 (nI k) (V0 ^^^ V) (fu + 1) (nI i) s.1 s.2 = fX3_noticeSince_L1 (nI k) (V0 ^^^ V) fu (nI (i + 1)) _ _ ∧ _
        rw [fX3_noticeSince_L1.eq_2, if_neg (nI_ge hi (by omega)), row_eq hk hd hi, bs]
        by_cases hq : sa i ^^^ srow n k f i = 0
        · rw [if_pos hq, bd_eq, nI_1, if_pos hq]
          refine ⟨rfl, fun h => ?_, fun h => ?_⟩
          · rw [s1 h]
            by_cases hx : h = i
            · subst hx; rw [if_neg (show ¬ h < h by omega), if_pos (show h < h + 1 by omega), if_pos hq]
            · by_cases hy : h < i
              · rw [if_pos hy, if_pos (show h < i + 1 by omega)]
              · rw [if_neg hy, if_neg (show ¬ h < i + 1 by omega)]
          · rw [s2 h]
            by_cases hx : h = i
            · subst hx; rw [if_neg (show ¬ h < h by omega), if_pos (show h < h + 1 by omega), if_pos hq]
            · by_cases hy : h < i
              · rw [if_pos hy, if_pos (show h < i + 1 by omega)]
              · rw [if_neg hy, if_neg (show ¬ h < i + 1 by omega)]
        · rw [if_neg hq, gd_t (inB_nI (by omega) (by decide)), gd_t (inB_nI (by omega) (by decide)), bd_eq, gd_t (inB_nI (by omega) (by decide)), bd_eq, bd_eq, nI_1, nI_N (by omega), if_neg hq]
          refine ⟨rfl, fun h => ?_, fun h => ?_⟩
          · show upd s.1 i (s.1 i + 1) h = _
            by_cases hx : h = i
            · subst hx; rw [pk_us, s1 h, if_neg (show ¬ h < h by omega), if_pos (show h < h + 1 by omega), if_neg hq]
            · rw [pk_un hx, s1 h]
              by_cases hy : h < i
              · rw [if_pos hy, if_pos (show h < i + 1 by omega)]
              · rw [if_neg hy, if_neg (show ¬ h < i + 1 by omega)]
          · show upd s.2 i (sa i ^^^ srow n k f i) h = _
            by_cases hx : h = i
            · subst hx; rw [pk_us, if_pos (show h < h + 1 by omega), if_neg hq]
            · rw [pk_un hx, s2 h]
              by_cases hy : h < i
              · rw [if_pos hy, if_pos (show h < i + 1 by omega)]
              · rw [if_neg hy, if_neg (show ¬ h < i + 1 by omega)])
    (no, ne) 500 (by omega) ⟨fun h => by rw [if_neg (by omega)], fun h => by rw [if_neg (by omega)]⟩
  have e1 : fX3_noticeSince_L1 (nI k) (V0 ^^^ V) 500 0 no ne = _ := e1
  refine ⟨w.1, w.2, g, ?_, eg, fun h hh => ?_, fun h hh => ?_, g1⟩
  · unfold fX3_noticeSince
    rw [eV, bs, bd_eq, e1, bs]
  · rw [e2 h, g2 h hh, if_pos hh, hno h hh]
  · rw [e3 h, g3 h hh, if_pos hh, hne h hh]
