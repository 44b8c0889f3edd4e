/-! links as bits: one round more, all rounds, who is joined with whom -/
def spr (n : Nat) (u : Nat → Int32) (S : Int32) : Int32 := (List.range n).foldl (fun w a => if bt S a then w ||| u a else w) S
theorem bt_spr (n : Nat) (u : Nat → Int32) (S : Int32) (i : Nat) : bt (spr n u S) i = true ↔ bt S i = true ∨ ∃ a, a < n ∧ bt S a = true ∧ bt (u a) i = true := by
  have := fold_inv (fun w a => if bt S a then w ||| u a else w) (fun w m => bt w i = true ↔ bt S i = true ∨ ∃ a, a < m ∧ bt S a = true ∧ bt (u a) i = true) n S
    (by simp) (by
      intro w m hm ih
      by_cases hb : bt S m = true
      · rw [if_pos hb, b_or, Bool.or_eq_true, ih]
        constructor
        · rintro ((h | ⟨a, h1, h2⟩) | h)
          · exact Or.inl h
          · exact Or.inr ⟨a, by omega, h2⟩
          · exact Or.inr ⟨m, by omega, hb, h⟩
        · rintro (h | ⟨a, h1, h2, h3⟩)
          · exact Or.inl (Or.inl h)
          · rcases Nat.lt_or_ge a m with h | h
            · exact Or.inl (Or.inr ⟨a, h, h2, h3⟩)
            · have : a = m := by omega
              subst this
              exact Or.inr h3
      · rw [if_neg hb, ih]
        constructor
        · rintro (h | ⟨a, h1, h2⟩)
          · exact Or.inl h
          · exact Or.inr ⟨a, by omega, h2⟩
        · rintro (h | ⟨a, h1, h2, h3⟩)
          · exact Or.inl h
          · rcases Nat.lt_or_ge a m with h | h
            · exact Or.inr ⟨a, h, h2, h3⟩
            · have : a = m := by omega
              subst this
              exact absurd h2 hb)
  exact this
theorem X3_spread {n : Nat} {up u : Nat → Int32} (hn : n ≤ 6) (hu : ∀ a, a < n → up a = u a) (S : Int32) : fX3_spread (nI n) up S = some (spr n u S) := by
  unfold fX3_spread
  have h := cl1 n (fun fu w i => fX3_spread_L1 (nI n) up S fu w (nI i)) (fun w a => if bt S a then w ||| u a else w) (fun w => (w, nI n))
    (by intro fu s
        show fX3_spread_L1 (nI n) up S (fu + 1) s (nI n) = _
        rw [fX3_spread_L1.eq_2, if_pos (nI_le (Nat.le_refl n) (by omega))])
    (by intro fu s i hi
        show fX3_spread_L1 (nI n) up S (fu + 1) s (nI i) = fX3_spread_L1 (nI n) up S fu _ (nI (i + 1))
        rw [fX3_spread_L1.eq_2, if_neg (nI_ge hi (by omega)), X7_has (by omega), bs]
        cases hb : bt S i
        · rw [ifb_f, bd_eq, nI_1]; rfl
        · rw [ifb_t, gd_t (inB_nI (by omega) (by omega)), bd_eq, bd_eq, nI_1, nI_N (by omega), hu i hi]; rfl)
    S 500 (by omega)
  have h : fX3_spread_L1 (nI n) up S 500 S 0 = _ := h
  rw [h, bs]
  rfl
theorem X8_besides {n : Nat} {f : Nat → Int32} (hn : n ≤ 6) (h0 : f 0 = nI n) (S : Int32) : fX8_besides f S = some (spr n (fun a => f (35 + a)) S) := by
  unfold fX8_besides
  have h := cl1 n (fun fu w i => fX8_besides_L1 f S fu w (nI i)) (fun w a => if bt S a then w ||| f (35 + a) else w) (fun w => (w, nI n))
    (by intro fu s
        show fX8_besides_L1 f S (fu + 1) s (nI n) = _
        rw [fX8_besides_L1.eq_2, gd_t (by decide), show (0 : Int32).toNatClampNeg = 0 from rfl, h0, if_pos (nI_le (Nat.le_refl n) (by omega))])
    (by intro fu s i hi
        show fX8_besides_L1 f S (fu + 1) s (nI i) = fX8_besides_L1 f S fu _ (nI (i + 1))
        rw [fX8_besides_L1.eq_2, gd_t (by decide), show (0 : Int32).toNatClampNeg = 0 from rfl, h0, if_neg (nI_ge hi (by omega)), X8_has (by omega), bs]
        cases hb : bt S i
        · rw [ifb_f, bd_eq, bd_eq, nI_1, show s ||| 0 = s from b_ext (fun i _ => by rw [b_or, b_0, Bool.or_false])]; rfl
        · rw [ifb_t, l35, nI_add, gd_t (inB_nI (by omega) (by omega)), bd_eq, bd_eq, nI_1, nI_N (by omega)]; rfl)
    S 500 (by omega)
  have h : fX8_besides_L1 f S 500 S 0 = _ := h
  rw [h, bs]
  rfl
def itr (n : Nat) (u : Nat → Int32) : Nat → Int32 → Int32
  | 0, S => S
  | j + 1, S => spr n u (itr n u j S)
theorem itr_front (n : Nat) (u : Nat → Int32) (j : Nat) (S : Int32) : itr n u j (spr n u S) = itr n u (j + 1) S := by
  induction j with
  | zero => rfl
  | succ j ih => rw [itr, ih]; rfl
theorem fold_itr (n : Nat) (u : Nat → Int32) (l : List Nat) (S : Int32) : l.foldl (fun w _ => spr n u w) S = itr n u l.length S := by
  induction l generalizing S with
  | nil => rfl
  | cons a l ih => rw [List.foldl_cons, ih, itr_front, List.length_cons]
/-- the links' bits lie below n -/
def Bd (n : Nat) (u : Nat → Int32) : Prop := ∀ a, a < n → ∀ i, bt (u a) i = true → i < n
def Sy (n : Nat) (u : Nat → Int32) : Prop := ∀ a b, a < n → b < n → bt (u a) b = true → bt (u b) a = true
theorem itr_mono (n : Nat) (u : Nat → Int32) (S : Int32) {i : Nat} {j m : Nat} (hjm : j ≤ m) (h : bt (itr n u j S) i = true) : bt (itr n u m S) i = true := by
  induction m with
  | zero =>
    have : j = 0 := by omega
    subst this
    exact h
  | succ m ih =>
    rcases Nat.lt_or_ge j (m + 1) with h1 | h1
    · rw [itr, bt_spr]
      exact Or.inl (ih (by omega))
    · have : j = m + 1 := by omega
      subst this
      exact h
theorem itr_bd {n : Nat} {u : Nat → Int32} (hu : Bd n u) {S : Int32} (hS : ∀ i, bt S i = true → i < n) (j : Nat) : ∀ i, bt (itr n u j S) i = true → i < n := by
  induction j with
  | zero => exact hS
  | succ j ih =>
    intro i h
    rw [itr, bt_spr] at h
    rcases h with h | ⟨a, h1, -, h2⟩
    · exact ih i h
    · exact hu a h1 i h2
theorem itr_stay {n : Nat} {u : Nat → Int32} {S : Int32} {j : Nat} (h : itr n u (j + 1) S = itr n u j S) {m : Nat} (hm : j ≤ m) : itr n u m S = itr n u j S := by
  induction m with
  | zero =>
    have : j = 0 := by omega
    subst this
    rfl
  | succ m ih =>
    rcases Nat.lt_or_ge j (m + 1) with h1 | h1
    · rw [itr, ih (by omega)]
      exact h
    · have : j = m + 1 := by omega
      subst this
      rfl
theorem itr_end {n : Nat} {u : Nat → Int32} (hn : n ≤ 32) (hu : Bd n u) {S : Int32} (hS : ∀ i, bt S i = true → i < n) {a : Nat} (ha : bt S a = true) : ∃ j, j + 1 ≤ n ∧ itr n u (j + 1) S = itr n u j S := by
  by_cases hx : ∃ j, j + 1 ≤ n ∧ itr n u (j + 1) S = itr n u j S
  · exact hx
  · exfalso
    have key : ∀ j, j ≤ n → j + 1 ≤ fb_ct (fun i => bt (itr n u j S) i) n := by
      intro j
      induction j with
      | zero =>
        intro _
        exact fb_ct_pos.mpr ⟨a, hS a ha, ha⟩
      | succ j ih =>
        intro hj
        have h1 := ih (by omega)
        have hne : itr n u (j + 1) S ≠ itr n u j S := fun e => hx ⟨j, hj, e⟩
        obtain ⟨i, hi⟩ : ∃ i, ¬ (bt (itr n u (j + 1) S) i = bt (itr n u j S) i) := by
          by_cases hq : ∃ i, ¬ (bt (itr n u (j + 1) S) i = bt (itr n u j S) i)
          · exact hq
          · exact absurd (b_ext (fun i _ => by
              by_cases hz : bt (itr n u (j + 1) S) i = bt (itr n u j S) i
              · exact hz
              · exact absurd ⟨i, hz⟩ hq)) hne
        have hup : ∀ k, bt (itr n u j S) k = true → bt (itr n u (j + 1) S) k = true := fun k h => itr_mono n u S (by omega) h
        have hi1 : bt (itr n u (j + 1) S) i = true := by
          cases h2 : bt (itr n u (j + 1) S) i
          · exfalso
            apply hi
            rw [h2]
            cases h3 : bt (itr n u j S) i
            · rfl
            · rw [hup i h3] at h2; cases h2
          · rfl
        have hi0 : bt (itr n u j S) i = false := by
          cases h3 : bt (itr n u j S) i
          · rfl
          · exact absurd (hi1.trans h3.symm) hi
        have hin : i < n := itr_bd hu hS (j + 1) i hi1
        have h4 : fb_ct (fun k => if k = i then true else bt (itr n u j S) k) n + (if bt (itr n u j S) i then 1 else 0) = fb_ct (fun k => bt (itr n u j S) k) n + (if true then 1 else 0) := fb_ct_upd _ true hin
        rw [hi0, if_neg (by decide), if_pos rfl] at h4
        have h5 : fb_ct (fun k => if k = i then true else bt (itr n u j S) k) n ≤ fb_ct (fun k => bt (itr n u (j + 1) S) k) n := fb_ct_sub (fun k _ h => by
          by_cases hk : k = i
          · subst hk; exact hi1
          · rw [if_neg hk] at h
            exact hup k h)
        omega
    have := key n (Nat.le_refl n)
    have h2 := fb_ct_le (fun i => bt (itr n u n S) i) n
    omega
/-- the fabric of a switch -/
def fab (n : Nat) (u : Nat → Int32) (a : Nat) : Int32 := itr n u 6 (b1 a)
theorem b1_bd {n a : Nat} (hn : n ≤ 6) (ha : a < n) : ∀ i, bt (b1 a) i = true → i < n := by
  intro i h
  rw [b_b1 (by omega), decide_eq_true_iff] at h
  omega
theorem b1_at {a : Nat} (ha : a < 32) : bt (b1 a) a = true := by rw [b_b1 ha]; simp
theorem fab_n1 {n : Nat} {u : Nat → Int32} (hn : n ≤ 6) (hu : Bd n u) {a : Nat} (ha : a < n) {m : Nat} (hm : n ≤ m + 1) : itr n u m (b1 a) = fab n u a := by
  obtain ⟨j, hj, e⟩ := itr_end (by omega) hu (b1_bd hn ha) (b1_at (by omega : a < 32))
  rw [fab, itr_stay e (by omega : j ≤ m), itr_stay e (by omega : j ≤ 6)]
theorem fab_closed {n : Nat} {u : Nat → Int32} (hn : n ≤ 6) (hu : Bd n u) {a : Nat} (ha : a < n) : spr n u (fab n u a) = fab n u a := by
  have h := fab_n1 hn hu ha (m := 7) (by omega)
  exact h
/-- joined -/
def Cnn (n : Nat) (u : Nat → Int32) (a b : Nat) : Prop := bt (fab n u a) b = true
theorem Cnn.bd {n : Nat} {u : Nat → Int32} (hn : n ≤ 6) (hu : Bd n u) {a b : Nat} (ha : a < n) (h : Cnn n u a b) : b < n := itr_bd hu (b1_bd hn ha) 6 b h
theorem Cnn.rf {n : Nat} {u : Nat → Int32} (hn : n ≤ 6) {a : Nat} (ha : a < n) : Cnn n u a a := itr_mono n u (b1 a) (j := 0) (by omega) (b1_at (by omega))
theorem Cnn.step {n : Nat} {u : Nat → Int32} (hn : n ≤ 6) (hu : Bd n u) {a b c : Nat} (ha : a < n) (h : Cnn n u a b) (h2 : bt (u b) c = true) : Cnn n u a c := by
  unfold Cnn
  rw [← fab_closed hn hu ha, bt_spr]
  exact Or.inr ⟨b, h.bd hn hu ha, h, h2⟩
/-- a fabric is the least set with the switch that links don't leave -/
theorem Cnn.least {n : Nat} {u : Nat → Int32} {a : Nat} (ha : a < 32) {T : Nat → Prop} (h0 : T a) (h1 : ∀ c d, c < n → T c → bt (u c) d = true → T d) {b : Nat} (h : Cnn n u a b) : T b := by
  have key : ∀ j i, bt (itr n u j (b1 a)) i = true → T i := by
    intro j
    induction j with
    | zero =>
      intro i h
      rw [itr, b_b1 ha, decide_eq_true_iff] at h
      subst h
      exact h0
    | succ j ih =>
      intro i h
      rw [itr, bt_spr] at h
      rcases h with h | ⟨c, hc, h2, h3⟩
      · exact ih i h
      · exact h1 c i hc (ih c h2) h3
  exact key 6 b h
theorem Cnn.tr {n : Nat} {u : Nat → Int32} (hn : n ≤ 6) (hu : Bd n u) {a b c : Nat} (ha : a < n) (h : Cnn n u a b) (h2 : Cnn n u b c) : Cnn n u a c :=
  Cnn.least (T := fun x => Cnn n u a x) (by have := h.bd hn hu ha; omega) h (fun x y _ hx hy => hx.step hn hu ha hy) h2
theorem Cnn.sy {n : Nat} {u : Nat → Int32} (hn : n ≤ 6) (hu : Bd n u) (hs : Sy n u) {a b : Nat} (ha : a < n) (h : Cnn n u a b) : Cnn n u b a := by
  have := Cnn.least (T := fun x => x < n ∧ Cnn n u x a) (by omega : a < 32) ⟨ha, Cnn.rf hn ha⟩ (fun c d hc hT hd => by
    have hdn : d < n := hu c hc d hd
    refine ⟨hdn, Cnn.tr hn hu hdn (Cnn.step hn hu hdn (Cnn.rf hn hdn) (hs c d hc hdn hd)) hT.2⟩) h
  exact this.2
theorem Cnn.fab_eq {n : Nat} {u : Nat → Int32} (hn : n ≤ 6) (hu : Bd n u) (hs : Sy n u) {a b : Nat} (ha : a < n) (h : Cnn n u a b) : fab n u a = fab n u b := by
  have hb := h.bd hn hu ha
  refine b_ext (fun i _ => ?_)
  have h2 := h.sy hn hu hs ha
  cases h3 : bt (fab n u a) i
  · cases h4 : bt (fab n u b) i
    · rfl
    · have := Cnn.tr hn hu ha h (show Cnn n u b i from h4)
      rw [show bt (fab n u a) i = true from this] at h3
      cases h3
  · exact (show bt (fab n u b) i = true from Cnn.tr hn hu hb h2 (show Cnn n u a i from h3)).symm
theorem X3_fabricOf {n : Nat} {up u : Nat → Int32} (hn : n ≤ 6) (hb : Bd n u) (hu : ∀ a, a < n → up a = u a) {a : Nat} (ha : a < n) : fX3_fabricOf (nI n) up (nI a) = some (fab n u a) := by
  unfold fX3_fabricOf
  rw [bd_eq]
  have h := (cl n (fun fu w i => fX3_fabricOf_L1 (nI n) up fu w (nI i)) (fun w _ => spr n u w) (fun w => (w, nI n)) (fun _ _ => True)
    (by intro fu s _
        show fX3_fabricOf_L1 (nI n) up (fu + 1) s (nI n) = _
        rw [fX3_fabricOf_L1.eq_2, if_pos (nI_le (Nat.le_refl n) (by omega))])
    (by intro fu s i hi _
        show fX3_fabricOf_L1 (nI n) up (fu + 1) s (nI i) = fX3_fabricOf_L1 (nI n) up fu _ (nI (i + 1)) ∧ _
        rw [fX3_fabricOf_L1.eq_2, if_neg (nI_ge hi (by omega)), X3_spread hn hu, bs, bd_eq, nI_1]
        exact ⟨rfl, trivial⟩)
    (n - 1) 1 (b1 a) 500 (by omega) (by omega) trivial).1
  have h : fX3_fabricOf_L1 (nI n) up 500 (1 <<< (nI a &&& 31)) 1 = _ := h
  rw [h, bs, fold_itr, List.length_range', fab_n1 hn hb ha (by omega)]
theorem X8_fabricOf {n : Nat} {f : Nat → Int32} (hn : n ≤ 6) (h0 : f 0 = nI n) {a : Nat} (ha : a < n) : fX8_fabricOf f (nI a) = some (fab n (fun a => f (35 + a)) a) := by
  unfold fX8_fabricOf
  rw [bd_eq]
  have h := cl1 6 (fun fu w i => fX8_fabricOf_L1 f fu w (nI i)) (fun w _ => spr n (fun a => f (35 + a)) w) (fun w => (w, nI 6))
    (by intro fu s
        show fX8_fabricOf_L1 f (fu + 1) s (nI 6) = _
        rw [fX8_fabricOf_L1.eq_2, if_pos (by decide)])
    (by intro fu s i hi
        show fX8_fabricOf_L1 f (fu + 1) s (nI i) = fX8_fabricOf_L1 f fu _ (nI (i + 1))
        rw [fX8_fabricOf_L1.eq_2, l6, if_neg (nI_ge hi (by omega)), X8_besides hn h0, bs, bd_eq, nI_1])
    (b1 a) 500 (by omega)
  have h : fX8_fabricOf_L1 f 500 (1 <<< (nI a &&& 31)) 0 = _ := h
  rw [h, bs, fold_itr, List.length_range]
  rfl
