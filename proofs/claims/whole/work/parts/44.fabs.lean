/-! how many fabrics, the principal, how far -/
theorem orz (x : Int32) : x ||| 0 = x := b_ext (fun i _ => by rw [b_or, b_0, Bool.or_false])
theorem addz (x : Int32) : x + 0 = x := by rw [fa_eq]; simp
/-- bits below a -/
theorem b_low : ∀ a, a < 8 → ∀ i, i < 32 → bt (b1 a - 1) i = decide (i < a) := by decide +kernel
/-- a is the lowest of its fabric -/
def low (n : Nat) (u : Nat → Int32) (a : Nat) : Bool := (List.range a).all (fun b => !bt (fab n u a) b)
theorem low_iff {n : Nat} {u : Nat → Int32} {a : Nat} : low n u a = true ↔ ∀ b, b < a → bt (fab n u a) b = false := by
  unfold low
  rw [List.all_eq_true]
  constructor
  · intro h b hb
    have := h b (List.mem_range.mpr hb)
    simpa using this
  · intro h b hb
    rw [h b (List.mem_range.mp hb)]
    rfl
theorem X8_isLowest {n : Nat} {f : Nat → Int32} (hn : n ≤ 6) (h0 : f 0 = nI n) {a : Nat} (ha : a < n) : fX8_isLowest f (nI a) = some (bi (low n (UPr f) a)) := by
  unfold fX8_isLowest
  rw [X8_fabricOf hn h0 ha, bs]
  have e : ((fab n (fun a => f (35 + a)) a &&& ((1 <<< (nI a &&& 31)) - 1)) = 0) ↔ low n (UPr f) a = true := by
    rw [show ((1 : Int32) <<< (nI a &&& 31)) = b1 a from rfl, b_and0, low_iff]
    constructor
    · intro h b hb
      cases h2 : bt (fab n (UPr f) a) b
      · rfl
      · exact absurd ⟨h2, by rw [b_low a (by omega) b (by omega)]; exact decide_eq_true hb⟩ (h b (by omega))
    · intro h i hi ⟨h1, h2⟩
      rw [b_low a (by omega) i hi, decide_eq_true_iff] at h2
      have h3 := h i h2
      rw [show bt (fab n (UPr f) a) i = true from h1] at h3
      cases h3
  cases hl : low n (UPr f) a
  · rw [if_neg (by rw [e, hl]; decide)]; rfl
  · rw [if_pos (e.mpr hl)]; rfl
/-- how many fabrics -/
def fabs (n : Nat) (u : Nat → Int32) : Nat := fb_ct (low n u) n
theorem X8_fabrics {n : Nat} {f : Nat → Int32} (hn : n ≤ 6) (h0 : f 0 = nI n) : fX8_fabrics f = some (nI (fabs n (UPr f))) := by
  unfold fX8_fabrics
  have h := cl0 n (fun fu (w : Int32) i => fX8_fabrics_L1 f fu w (nI i)) (fun w a => if low n (UPr f) a then w + 1 else w) (fun w => (w, nI n)) (fun w i => w = nI (fb_ct (low n (UPr f)) i))
    (by intro fu s _
        show fX8_fabrics_L1 f (fu + 1) s (nI n) = _
        rw [fX8_fabrics_L1.eq_2, gd_t (by decide), z0N, h0, if_pos (nI_le (Nat.le_refl n) (by omega))])
    (by intro fu s i hi hs
        show fX8_fabrics_L1 f (fu + 1) s (nI i) = fX8_fabrics_L1 f fu _ (nI (i + 1)) ∧ _
        rw [fX8_fabrics_L1.eq_2, gd_t (by decide), z0N, h0, if_neg (nI_ge hi (by omega)), X8_isLowest hn h0 hi, bs, fb_ct_succ]
        cases hb : low n (UPr f) i
        · rw [ifb_f, bd_eq, bd_eq, nI_1, addz]
          exact ⟨rfl, hs⟩
        · rw [ifb_t, bd_eq, bd_eq, nI_1]
          exact ⟨rfl, by rw [if_pos rfl, hs, nI_1]; rfl⟩)
    0 500 (by omega) rfl
  obtain ⟨h1, h2⟩ := h
  have h1 : fX8_fabrics_L1 f 500 0 0 = _ := h1
  rw [h1, bs, h2]
  rfl
theorem X3_fabricTotal {n : Nat} {up u : Nat → Int32} (hn : n ≤ 6) (hb : Bd n u) (hs : Sy n u) (hu : ∀ a, a < n → up a = u a) : fX3_fabricTotal (nI n) up = some (nI (fabs n u)) := by
  unfold fX3_fabricTotal
  have h := cl0 n (fun fu (w : Int32 × Int32) i => fX3_fabricTotal_L1 (nI n) up fu w.1 w.2 (nI i)) (fun w a => if bt w.2 a then w else (w.1 + 1, w.2 ||| fab n u a)) (fun w => (w.1, w.2, nI n))
    (fun w i => w.1 = nI (fb_ct (low n u) i) ∧ ∀ x, bt w.2 x = true ↔ ∃ c, c < i ∧ Cnn n u c x)
    (by intro fu s _
        show fX3_fabricTotal_L1 (nI n) up (fu + 1) s.1 s.2 (nI n) = _
        rw [fX3_fabricTotal_L1.eq_2, if_pos (nI_le (Nat.le_refl n) (by omega))])
    (by intro fu s i hi ⟨h1, h2⟩
        show fX3_fabricTotal_L1 (nI n) up (fu + 1) s.1 s.2 (nI i) = fX3_fabricTotal_L1 (nI n) up fu _ _ (nI (i + 1)) ∧ _
        rw [fX3_fabricTotal_L1.eq_2, if_neg (nI_ge hi (by omega)), X7_has (by omega), bs]
        have hlow : low n u i = true ↔ bt s.2 i = false := by
          rw [low_iff]
          constructor
          · intro h
            cases h3 : bt s.2 i
            · rfl
            · obtain ⟨c, hc, h4⟩ := (h2 i).mp h3
              have h5 := h4.sy hn hb hs (by omega)
              have h6 := h c hc
              rw [show bt (fab n u i) c = true from h5] at h6
              cases h6
          · intro h b hbi
            cases h3 : bt (fab n u i) b
            · rfl
            · have h4 : Cnn n u b i := Cnn.sy hn hb hs hi h3
              have h5 := (h2 i).mpr ⟨b, hbi, h4⟩
              rw [h5] at h
              cases h
        rw [fb_ct_succ]
        cases hq : bt s.2 i
        · rw [ifb_f, X3_fabricOf hn hb hu hi, bs, bd_eq, bd_eq, bd_eq, nI_1, if_neg (by decide), if_pos (hlow.mpr hq)]
          refine ⟨rfl, ?_, fun x => ?_⟩
          · show s.1 + 1 = _
            rw [h1, nI_1]
          · show bt (s.2 ||| fab n u i) x = true ↔ _
            rw [b_or, Bool.or_eq_true, h2]
            constructor
            · rintro (⟨c, hc, h3⟩ | h3)
              · exact ⟨c, by omega, h3⟩
              · exact ⟨i, by omega, h3⟩
            · rintro ⟨c, hc, h3⟩
              rcases Nat.lt_or_ge c i with h4 | h4
              · exact Or.inl ⟨c, h4, h3⟩
              · have : c = i := by omega
                subst this
                exact Or.inr h3
        · have hnl : low n u i = false := by
            cases h3 : low n u i
            · rfl
            · rw [hlow.mp h3] at hq; cases hq
          rw [ifb_t, bd_eq, nI_1, if_pos rfl, hnl, if_neg (by decide)]
          refine ⟨rfl, h1, fun x => ?_⟩
          rw [h2]
          constructor
          · rintro ⟨c, hc, h3⟩
            exact ⟨c, by omega, h3⟩
          · rintro ⟨c, hc, h3⟩
            rcases Nat.lt_or_ge c i with h4 | h4
            · exact ⟨c, h4, h3⟩
            · have : c = i := by omega
              subst this
              obtain ⟨d, hd, h5⟩ := (h2 c).mp hq
              exact ⟨d, hd, Cnn.tr hn hb (by omega) h5 h3⟩)
    (0, 0) 500 (by omega) ⟨rfl, fun x => by
      show bt 0 x = true ↔ _
      rw [b_0]
      simp⟩
  obtain ⟨h1, h2, -⟩ := h
  have h1 : fX3_fabricTotal_L1 (nI n) up 500 0 0 0 = _ := h1
  rw [h1, bs, h2]
  rfl
