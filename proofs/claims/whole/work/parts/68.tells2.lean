/-! hosts told; a whole text; tells -/
theorem fin59 {L7 t : Nat → Int32} {L : Nat} (hT : Tx t L) (h7 : ∀ i, i < L → L7 i = t i) {fu p v3 fu2 p1 w : Nat} {pri nam pri' nam' : Int32} {u u' : T12} {G : Nat → Int32} {m' k' : Nat} (hp1 : p ≤ p1) (hp1L : p1 < L) (hc : C7 L7 L fu p v3 0 pri nam u = C7 L7 L fu2 (sk t L (te t L p1)) w 5 pri' nam' u') (hf : L - sk t L (te t L p1) < fu2) (hw : w ≤ sk t L (te t L p1)) (hR : RT u' G m' k') (vv : Int32) :
    ITM L7 t L fu p v3 pri nam u ((fX8_next t (nI L) (nI (te t L p1)) vv).bind fun z => if z.2.1 = 59 then some (1, G, z.1, z.2.1, z.2.2.1, z.2.2.2) else some (0, G, z.1, z.2.1, z.2.2.1, z.2.2.2)) := by
  have hte := te_gt t L p1
  have htl := te_le (t := t) hp1L
  rcases adv (L7 := L7) hT htl vv w pri' nam' u' (show ¬ (5 : Int32) = 0 from by decide) hf with ⟨x1, x2, x3⟩ | ⟨x1, v4, x2, x3⟩
  · left
    rw [x2, bs, if_neg (show ¬ (1000 : Int32) = 59 from by decide)]
    exact ⟨L, _, _, _, _, Nat.le_refl L, by rw [hc]; exact x3, rfl⟩
  generalize hp4 : sk t L (te t L p1) = p4 at *
  have hpp4 : p1 < p4 := by have := sk_ge t L (te t L p1); omega
  rw [x2, bs]
  have ht5 := tk5 u' pri' nam' (nI (ch t p4)) (no1 (nm t L p4))
  by_cases h59 : ch t p4 = 59
  · right
    rw [if_pos (show nI (ch t p4) = 59 from by rw [h59]; rfl)] at ht5
    obtain ⟨fu5, c5, f5, w5⟩ := (c_step hT h7 x1 hw hf ht5).2 (show ¬ (1 : Int32) = 0 from by decide)
    have htok : tok t L p4 = 59 := (tok_s (x := 59) (by omega)).mpr h59
    have hte4 := te_gt t L p4
    rw [htok, if_pos rfl]
    exact ⟨fu5, te t L p4, _, pri', nam', u', G, _, _, m', k', by rw [hc]; exact c5, by omega, te_le x1, f5, w5, rfl, hR⟩
  · left
    rw [if_neg (show ¬ nI (ch t p4) = 59 from fun e => h59 ((nI_ch (x := 59) hT x1 (by omega)).mp e))] at ht5
    obtain ⟨y, y1, y2⟩ := (c_step hT h7 x1 hw hf ht5).1 rfl
    have htok : ¬ tok t L p4 = 59 := fun e => h59 ((tok_s (x := 59) (by omega)).mp e)
    rw [if_neg htok]
    exact ⟨p4, _, _, _, _, by omega, by rw [hc]; exact Or.inl ⟨y, y1, y2⟩, rfl⟩
theorem ho_item {L7 t : Nat → Int32} {L : Nat} (hT : Tx t L) (h7 : ∀ i, i < L → L7 i = t i) {fu p v3 : Nat} (hp : p < L) (hv : v3 ≤ p) (hfu : L - p < fu) (pri nam : Int32) {u : T12} {f : Nat → Int32} {m k : Nat} (hR : RT u f m k) (hc : ch t p = 104) (v : Int32) :
    ITM L7 t L fu p v3 pri nam u (fX8_readHost f t (nI L) (nI (te t L p)) (tok t L p) (nI p) v) := by
  have hL := hT.1
  have hnl : ∀ q, q < L → ∀ n, nm t L q = some n → n < 100 := fun q hq n h => nm_lt hq h
  obtain ⟨e1, e2, h0, h1, h2, hm, hk, hD, hNm, hP, hz, hs, hh⟩ := id hR
  have ht0 := tk0 hR pri nam (nI (ch t p)) (no1 (nm t L p))
  rw [if_neg (show ¬ nI (ch t p) = 115 from by rw [hc]; decide), if_pos (show nI (ch t p) = 104 from by rw [hc]; rfl)] at ht0
  have gc0 : ∀ {β : Type} (x : Option β), gd (inB 0 87 = true) x = x := fun x => gd_t (by decide)
  have gc1 : ∀ {β : Type} (x : Option β), gd (inB 1 87 = true) x = x := fun x => gd_t (by decide)
  unfold fX8_readHost
  simp only [gc0, gc1, z0N, z1N, h0, h1]
  by_cases hgo : 0 < m ∧ k < 8
  · obtain ⟨hm0, hk8⟩ := hgo
    rw [if_pos ⟨hm0, hk8⟩] at ht0
    obtain ⟨fu1, c1, f1, w1⟩ := (c_step hT h7 hp hv hfu ht0).2 (show ¬ (1 : Int32) = 0 from by decide)
    have c1 : C7 L7 L fu p v3 0 pri nam u = C7 L7 L fu1 (sk t L (te t L p)) (v3 + 1) 4 pri nam u := c1
    have hte := te_gt t L p
    have htl := te_le (t := t) hp
    have ix : 27 + nI k = nI (27 + k) := by rw [l27, nI_add]
    have gk : ∀ {β : Type} (x : Option β), gd (inB (nI (27 + k)) 87 = true) x = x := fun x => gd_t (inB_nI (by omega) (by decide))
    have nk : (nI (27 + k)).toNatClampNeg = 27 + k := nI_N (by omega)
    have rk : ∀ w : Int32, upd f (27 + k) w 1 + 1 = nI (k + 1) := fun w => by rw [pk_un (by omega), h1, nI_1]
    rw [if_neg (show ¬ nI k = 8 from fun e => by have := nI_inj (b := 8) (by omega) (by decide) e; omega), if_neg (nI_ne0 hm0 (by omega))]
    simp only [ix, gk, nk, bd_eq, rk]
    rcases adv (L7 := L7) hT htl v (v3 + 1) pri nam u (show ¬ (4 : Int32) = 0 from by decide) f1 with ⟨a1, a2, a3⟩ | ⟨a1, v1, a2, a3⟩
    · left
      rw [a2, bs, if_neg (show ¬ (1000 : Int32) = 45 from by decide), X8_isNumber_end, bs, if_pos rfl]
      exact ⟨L, _, _, _, _, Nat.le_refl L, by rw [c1]; exact a3, rfl⟩
    generalize hp1 : sk t L (te t L p) = p1 at *
    have hpp1 : p < p1 := by have := sk_ge t L (te t L p); omega
    rw [a2, bs]
    have h45 : tok t L p1 = 45 ↔ nI (ch t p1) = 45 := by
      have q1 := tok_s (t := t) (L := L) (p := p1) (x := 45) (by omega)
      have q2 := nI_ch (x := 45) hT a1 (by omega)
      exact q1.trans q2.symm
    rcases tk4 hR hk8 pri nam (nI (ch t p1)) (hnl p1 a1) with ⟨w, hw, ht4⟩ | ⟨hw1, hw2, z, ht4, hz0⟩
    · obtain ⟨fu2, c2, f2, w2⟩ := (c_step hT h7 a1 w1 f1 ht4).2 (show ¬ (1 : Int32) = 0 from by decide)
      have hRT := RT_host hR hk8 (v := w) (by
        rcases hw with ⟨-, rfl⟩ | ⟨-, a, ha, -, rfl⟩
        · exact Or.inl rfl
        · exact Or.inr ⟨a, ha, rfl⟩)
      have fin := fun vv => fin59 hT h7 (Nat.le_of_lt hpp1) a1 (c1.trans c2) f2 w2 hRT vv
      rcases hw with ⟨hc45, rfl⟩ | ⟨hc45, a, ha, hna, rfl⟩
      · dsimp only
        rw [if_pos (h45.mpr hc45), if_pos (h45.mpr hc45)]
        exact fin v1
      · have hnt : ¬ tok t L p1 = 45 := fun e => hc45 (h45.mp e)
        have hi := X8_isNumber a1 a3 (lo := 0) (hi := m - 1) (by omega) (by omega)
        have hin : inn (nm t L p1) 0 (m - 1) = true := by
          rw [hna]
          show (decide (0 ≤ a) && decide (a ≤ m - 1)) = true
          simp; omega
        have hm1 : nI m - 1 = nI (m - 1) := by
          obtain ⟨q, rfl⟩ : ∃ q, m = q + 1 := ⟨m - 1, by omega⟩
          rw [nI_pred]; rfl
        rw [hin] at hi
        have hi : fX8_isNumber (tok t L p1) v1 0 (nI (m - 1)) = some 1 := hi
        dsimp only
        rw [if_neg hnt, hm1, hi, bs, if10, if_neg hnt, a3 a hna]
        exact fin (nI a)
    · left
      have hnt : ¬ tok t L p1 = 45 := fun e => hw1 (h45.mp e)
      obtain ⟨y, y1, y2⟩ := (c_step hT h7 a1 w1 f1 ht4).1 hz0
      have hi := X8_isNumber a1 a3 (lo := 0) (hi := m - 1) (by omega) (by omega)
      have hin : inn (nm t L p1) 0 (m - 1) = false := by
        cases hq : inn (nm t L p1) 0 (m - 1)
        · rfl
        · obtain ⟨a, ha, -, hal⟩ := inn_s hq
          exact absurd ⟨a, by omega, ha⟩ hw2
      have hm1 : nI m - 1 = nI (m - 1) := by
        obtain ⟨q, rfl⟩ : ∃ q, m = q + 1 := ⟨m - 1, by omega⟩
        rw [nI_pred]; rfl
      rw [hin] at hi
      have hi : fX8_isNumber (tok t L p1) v1 0 (nI (m - 1)) = some 0 := hi
      dsimp only
      rw [if_neg hnt, hm1, hi, bs, if00]
      exact ⟨p1, _, _, _, _, by omega, by rw [c1]; exact Or.inl ⟨y, y1, y2⟩, rfl⟩
  · left
    rw [if_neg hgo] at ht0
    obtain ⟨y, y1, y2⟩ := (c_step hT h7 hp hv hfu ht0).1 rfl
    refine ⟨p, f, nI (te t L p), tok t L p, v, by omega, Or.inl ⟨y, y1, y2⟩, ?_⟩
    by_cases hk8 : k = 8
    · rw [if_pos (show nI k = 8 from by rw [hk8]; rfl)]
    · rw [if_neg (show ¬ nI k = 8 from fun e => hk8 (nI_inj (b := 8) (by omega) (by decide) e)), if_pos (show nI m = 0 from by rw [show m = 0 by omega]; rfl)]
def OUT7 (L : Nat) (o7 : Option ((Int32 × Int32 × Int32 × Int32 × Int32 × Int32 × Int32 × (Nat → Int32) × (Nat → Int32) × (Nat → Int32) × (Nat → Int32) × (Nat → Int32) × (Nat → Int32) × (Nat → Int32) × (Nat → Int32) × (Nat → Int32) × (Nat → Int32)) ⊕ (Int32 × Int32 × Int32 × Int32 × Int32 × T12))) (o8 : Option ((Int32 × (Nat → Int32) × Int32 × Int32 × Int32 × Int32) ⊕ (Int32 × (Nat → Int32) × Int32 × Int32 × Int32 × Int32))) : Prop :=
  (∃ q y8, q ≤ L ∧ FLT L q o7 ∧ o8 = some (Sum.inl y8) ∧ y8.1 = nI q) ∨ (∃ y7 y8 m k, o7 = some (Sum.inr y7) ∧ o8 = some (Sum.inr y8) ∧ y7.2.2.1 = 0 ∧ RT y7.2.2.2.2.2 y8.2.1 m k)
theorem top {L7 t : Nat → Int32} {L : Nat} (hT : Tx t L) (h7 : ∀ i, i < L → L7 i = t i) : ∀ (d p v3 fu fu8 : Nat) (pri nam : Int32) (u : T12) (f : Nat → Int32) (m k : Nat) (w a8 tk ta v : Int32), L - p ≤ d → p ≤ L → v3 ≤ p → L - p < fu → L - p < fu8 → RT u f m k → ((p = L ∧ tk = 1000) ∨ (p < L ∧ a8 = nI (te t L p) ∧ tk = tok t L p ∧ ta = nI p)) →
    OUT7 L (C7 L7 L fu p v3 0 pri nam u) (fX8_readText_L2 t (nI L) fu8 w f a8 tk ta v) := by
  intro d
  induction d with
  | zero =>
    intro p v3 fu fu8 pri nam u f m k w a8 tk ta v hd hp hv hf hf8 hR hcase
    obtain ⟨rfl, rfl⟩ : p = L ∧ tk = 1000 := by
      rcases hcase with h | ⟨h, -⟩
      · exact h
      · omega
    right
    obtain ⟨q, rfl⟩ : ∃ q, fu8 = q + 1 := ⟨fu8 - 1, by omega⟩
    rw [fX8_readText_L2.eq_2, if_pos rfl, c_end hT.1 rfl (by omega)]
    exact ⟨_, _, m, k, rfl, rfl, rfl, hR⟩
  | succ d ih =>
    intro p v3 fu fu8 pri nam u f m k w a8 tk ta v hd hp hv hf hf8 hR hcase
    obtain ⟨q8, rfl⟩ : ∃ q, fu8 = q + 1 := ⟨fu8 - 1, by omega⟩
    rw [fX8_readText_L2.eq_2]
    rcases hcase with ⟨rfl, rfl⟩ | ⟨hpL, rfl, rfl, rfl⟩
    · right
      rw [if_pos rfl, c_end hT.1 rfl (by omega)]
      exact ⟨_, _, m, k, rfl, rfl, rfl, hR⟩
    · rw [if_neg (tok_ne t L p)]
      have rcr : ∀ (w' : Int32) (fu' p' v3' : Nat) (pri' nam' : Int32) (u' : T12) (f' : Nat → Int32) (m' k' : Nat) (v' : Int32), p < p' → p' ≤ L → L - sk t L p' < fu' → v3' ≤ sk t L p' → RT u' f' m' k' →
          OUT7 L (C7 L7 L fu' (sk t L p') v3' 0 pri' nam' u') ((fX8_next t (nI L) (nI p') v').bind fun z => fX8_readText_L2 t (nI L) q8 w' f' z.1 z.2.1 z.2.2.1 z.2.2.2) := by
        intro w' fu' p' v3' pri' nam' u' f' m' k' v' h1 h2 h3 h4 h5
        have hsg := sk_ge t L p'
        have hsl := sk_le (t := t) h2
        rcases Nat.lt_or_ge (sk t L p') L with h | h
        · obtain ⟨v2, e, -⟩ := X8_next hT h2 rfl h v'
          rw [e, bs]
          exact ih (sk t L p') v3' fu' q8 pri' nam' u' f' m' k' w' _ _ _ _ (by omega) hsl h4 h3 (by omega) h5 (Or.inr ⟨h, rfl, rfl, rfl⟩)
        · have he : sk t L p' = L := by omega
          rw [X8_next_end hT h2 he v', bs]
          exact ih (sk t L p') v3' fu' q8 pri' nam' u' f' m' k' w' _ _ _ _ (by omega) hsl h4 h3 (by omega) h5 (Or.inl ⟨he, rfl⟩)
      by_cases hs : ch t p = 115
      · rw [if_pos (show tok t L p = 115 from (tok_s (x := 115) (by omega)).mpr hs)]
        rcases sw_item hT h7 hpL hv hf pri nam hR hs v with ⟨q, r, a, tk, v', g1, g2, g3⟩ | ⟨fu', p', v3', pri', nam', u', f', ta, v', m', k', g1, g2, g3, g4, g5, g6, g7⟩
        · left
          rw [g3, bs, if_pos rfl]
          exact ⟨q, _, g1, g2, rfl, rfl⟩
        · rw [g6, bs, if_neg (show ¬ (1 : Int32) = 0 from by decide), g1]
          exact rcr 1 fu' p' v3' pri' nam' u' f' m' k' v' g2 g3 g4 g5 g7
      · have hns : ¬ tok t L p = 115 := fun e => hs ((tok_s (x := 115) (by omega)).mp e)
        rw [if_neg hns]
        by_cases hh : ch t p = 104
        · rw [if_pos (show tok t L p = 104 from (tok_s (x := 104) (by omega)).mpr hh)]
          rcases ho_item hT h7 hpL hv hf pri nam hR hh v with ⟨q, r, a, tk, v', g1, g2, g3⟩ | ⟨fu', p', v3', pri', nam', u', f', ta, v', m', k', g1, g2, g3, g4, g5, g6, g7⟩
          · left
            rw [g3, bs, if_pos rfl]
            exact ⟨q, _, g1, g2, rfl, rfl⟩
          · rw [g6, bs, if_neg (show ¬ (1 : Int32) = 0 from by decide), g1]
            exact rcr 1 fu' p' v3' pri' nam' u' f' m' k' v' g2 g3 g4 g5 g7
        · left
          have hnh : ¬ tok t L p = 104 := fun e => hh ((tok_s (x := 104) (by omega)).mp e)
          rw [if_neg hnh]
          have ht0 := tk0 hR pri nam (nI (ch t p)) (no1 (nm t L p))
          rw [if_neg (show ¬ nI (ch t p) = 115 from fun e => hs ((nI_ch (x := 115) hT hpL (by omega)).mp e)), if_neg (show ¬ nI (ch t p) = 104 from fun e => hh ((nI_ch (x := 104) hT hpL (by omega)).mp e))] at ht0
          obtain ⟨y, y1, y2⟩ := (c_step hT h7 hpL hv hf ht0).1 rfl
          exact ⟨p, _, by omega, Or.inl ⟨y, y1, y2⟩, rfl, rfl⟩
theorem X8_fresh (read : Nat → Int32) : ∃ f, fX8_readText_L1 500 0 read = some (nI 87, f) ∧ (∀ x, x < 27 → f x = 0) ∧ (∀ x, 27 ≤ x → x < 35 → f x = -9) ∧ ∀ x, 35 ≤ x → x < 87 → f x = 0 := by
  obtain ⟨w', e1, e2⟩ := cle 87 (fun fu (w : Nat → Int32) i => fX8_readText_L1 fu (nI i) w) (fun w i => upd w i (if 27 ≤ i ∧ i < 35 then -9 else 0)) (fun w => (nI 87, w)) (fun w i => ∀ x, x < i → w x = if 27 ≤ x ∧ x < 35 then -9 else 0)
    (by intro fu s _
        show fX8_readText_L1 (fu + 1) (nI 87) s = _
        rw [fX8_readText_L1.eq_2, if_pos (by decide)])
    (by intro fu s i hi hs
        show fX8_readText_L1 (fu + 1) (nI i) s = fX8_readText_L1 fu (nI (i + 1)) _ ∧ _
        refine ⟨?_, fun x hx => ?_⟩
        · rw [fX8_readText_L1.eq_2, l87, if_neg (nI_ge hi (by decide)), gd_t (inB_nI hi (by decide)), gd_t (inB_nI hi (by decide))]
          simp only [bd_eq, nI_1, nI_N (show i < 2 ^ 31 by omega), l27, l35]
          by_cases h1 : i < 27
          · rw [if_pos (nI_lt h1 (by decide)), if_neg (by omega)]
          · rw [if_neg (nI_nlt (by omega) (by omega))]
            by_cases h2 : 35 ≤ i
            · rw [if_pos (nI_le h2 (by omega)), if_neg (by omega)]
            · rw [if_neg (nI_ge (by omega) (by omega)), if_pos ⟨by omega, by omega⟩]
        · by_cases hq : x = i
          · subst hq; rw [pk_us]
          · rw [pk_un hq]; exact hs x (by omega))
    read 500 (by omega) (fun x hx => by omega)
  have e1 : fX8_readText_L1 500 0 read = _ := e1
  refine ⟨w', e1, fun x hx => ?_, fun x h1 h2 => ?_, fun x h1 h2 => ?_⟩
  · rw [e2 x (by omega), if_neg (by omega)]
  · rw [e2 x (by omega), if_pos ⟨h1, h2⟩]
  · rw [e2 x (by omega), if_neg (by omega)]
theorem RT_0 {f : Nat → Int32} (h0 : ∀ x, x < 27 → f x = 0) (h1 : ∀ x, 35 ≤ x → x < 87 → f x = 0) (r : (Nat → Int32) × (Nat → Int32) × (Nat → Int32) × (Nat → Int32) × (Nat → Int32) × (Nat → Int32) × (Nat → Int32) × (Nat → Int32) × (Nat → Int32) × (Nat → Int32)) : RT (0, 0, r) f 0 0 :=
  ⟨rfl, rfl, h0 0 (by omega), h0 1 (by omega), h0 2 (by omega), by omega, by omega, fun a ha => by omega, fun a b ha => by omega, fun h hh => by omega, h1, fun a ha => by omega, fun h hh => by omega⟩
theorem whole_text {L7 t : Nat → Int32} {L : Nat} (hT : Tx t L) (h7 : ∀ i, i < L → L7 i = t i) (rp rn : Int32) (tpr tna twa tbl tup tcl tzo tpl tno tne read : Nat → Int32) (v : Int32) :
    ∃ z7 z8, fX4_faultOf rp rn tpr tna twa tbl tup tcl tzo tpl tno tne L7 (nI L) = some z7 ∧ fX8_readText read t (nI L) v = some z8 ∧ ((∃ q, q ≤ L ∧ z7.1 = nI q ∧ z8.1 = nI q) ∨ (z7.1 = -9 ∧ z8.1 = -9 ∧ ∃ m k, 0 < m ∧ Inv z8.2.1 m k ∧ RN z7.2.2.2.2 z8.2.1 m k)) := by
  have hL := hT.1
  obtain ⟨f, ef, f1, f2, f3⟩ := X8_fresh read
  have hsl := sk_le (t := t) (L := L) (p := 0) (by omega)
  have hRT := RT_0 f1 f3 (tpr, tna, twa, tbl, tup, tcl, tzo, tpl, tno, tne)
  have hskip : fX5_skipBlanks L7 (nI L) 0 = some (nI (sk t L 0)) := X5_skipBlanks hT h7 (Nat.zero_le L)
  -- both loops
  have hout : ∃ z, fX8_next t (nI L) 0 v = some z ∧ OUT7 L (C7 L7 L 500 (sk t L 0) 0 0 rp rn (0, 0, tpr, tna, twa, tbl, tup, tcl, tzo, tpl, tno, tne)) (fX8_readText_L2 t (nI L) 500 (nI 87) f z.1 z.2.1 z.2.2.1 z.2.2.2) := by
    rcases Nat.lt_or_ge (sk t L 0) L with h | h
    · obtain ⟨v2, e, -⟩ := X8_next hT (Nat.zero_le L) rfl h v
      have e : fX8_next t (nI L) 0 v = _ := e
      exact ⟨_, e, top hT h7 L (sk t L 0) 0 500 500 rp rn _ f 0 0 _ _ _ _ _ (by omega) hsl (by omega) (by omega) (by omega) hRT (Or.inr ⟨h, rfl, rfl, rfl⟩)⟩
    · have he : sk t L 0 = L := by omega
      have e : fX8_next t (nI L) 0 v = _ := X8_next_end hT (Nat.zero_le L) he v
      exact ⟨_, e, top hT h7 L (sk t L 0) 0 500 500 rp rn _ f 0 0 _ _ _ _ _ (by omega) hsl (by omega) (by omega) (by omega) hRT (Or.inl ⟨he, rfl⟩)⟩
  obtain ⟨z, ez, hout⟩ := hout
  unfold fX4_faultOf fX3_empty fX8_readText
  rw [bs, hskip, bs, ef, bs, ez, bs]
  have hC : ∀ {o}, C7 L7 L 500 (sk t L 0) 0 0 rp rn (0, 0, tpr, tna, twa, tbl, tup, tcl, tzo, tpl, tno, tne) = o → fX4_faultOf_L1 L7 (nI L) (0, 0, 0) 500 (nI (sk t L 0)) 0 0 rp rn 0 0 tpr tna twa tbl tup tcl tzo tpl tno tne = o := fun {o} h => h
  rcases hout with ⟨q, y8, g1, g2, g3, g4⟩ | ⟨y7, y8, m, k, g1, g2, g3, g4⟩
  · rw [g3, bs]
    rcases g2 with ⟨y, c1, c2⟩ | ⟨rfl, y, c1, c2⟩
    · dsimp only
      rw [hC c1, bs]
      exact ⟨_, _, rfl, rfl, Or.inl ⟨q, g1, c2, g4⟩⟩
    · dsimp only
      rw [hC c1, bs]
      show ∃ z7 z8, (if y.2.2.1 = 0 then _ else _) = some z7 ∧ _
      rw [if_neg c2]
      exact ⟨_, _, rfl, rfl, Or.inl ⟨q, g1, rfl, g4⟩⟩
  · dsimp only
    rw [hC g1, bs, g2, bs]
    show ∃ z7 z8, (if y7.2.2.1 = 0 then _ else _) = some z7 ∧ gd (inB 0 87 = true) (if y8.2.1 (0 : Int32).toNatClampNeg = 0 then _ else _) = some z8 ∧ _
    have hI := RT_inv g4
    have hrn := RT_rn g4
    rw [if_pos g3, gd_t (by decide), z0N, g4.2.2.1]
    unfold fX3_switchTotal fX5_size
    rw [bs, bs, g4.1]
    have hm6 := g4.2.2.2.2.2.1
    by_cases hm0 : m = 0
    · rw [if_pos (show nI m ≤ 0 from by rw [hm0]; decide), if_pos (show nI m = 0 from by rw [hm0]; rfl)]
      exact ⟨_, _, rfl, rfl, Or.inl ⟨L, Nat.le_refl L, rfl, rfl⟩⟩
    · rw [if_neg (nI_nle (by omega) (by omega)), if_neg (nI_ne0 (by omega) (by omega))]
      refine ⟨_, _, rfl, rfl, Or.inr ⟨rfl, rfl, m, k, by omega, hI, ?_⟩⟩
      rw [g4.1] at hrn
      exact hrn
theorem op_tells {sw hw re : Int32} {pr na wa bl up cl zo pl no ne : Nat → Int32} {now : Nat → Int32} {hn : Nat → NetT} {ho hs deeds : Int32} {past : Nat → Int32} {L7 : Nat → Int32} {s7 : Int32} {t8 : Nat → Int32} {n8 rp rn v : Int32} {tpr tna twa tbl tup tcl tzo tpl tno tne read : Nat → Int32} {bn : Nat → NetT} {bk' : Int32} {images isK : Nat → Int32} {size ment : Int32} {seen unseen : Int64} {facts : Nat → Int32} {sn : Int32}
    (hN : NR (sw, hw, re, pr, na, wa, bl, up, cl, zo, pl, no, ne) now) (hH : HR hn ho hs past deeds) (hS : RS L7 s7 t8 n8) (hA : AR bn bk' images isK) (hC : RC size ment seen unseen facts sn) :
    ∃ z7 z8, fX7_tells L7 s7 rp rn tpr tna twa tbl tup tcl tzo tpl tno tne sw hw re pr na wa bl up cl zo pl no ne hn ho hs bk' size ment seen unseen = some z7 ∧ fX8_tells now read past deeds isK t8 n8 v sn = some z8 ∧ z7.1 = z8.1 ∧ RS L7 z7.2.1 t8 z8.2.2.2.2.2.2.1 ∧ NR (z7.2.2.2.2.2.2.2.2.2.2.2.2.2.2.2.2.2.2.1, z7.2.2.2.2.2.2.2.2.2.2.2.2.2.2.2.2.2.2.2.1, z7.2.2.2.2.2.2.2.2.2.2.2.2.2.2.2.2.2.2.2.2.1, z7.2.2.2.2.2.2.2.2.2.2.2.2.2.2.2.2.2.2.2.2.2.1, z7.2.2.2.2.2.2.2.2.2.2.2.2.2.2.2.2.2.2.2.2.2.2.1, z7.2.2.2.2.2.2.2.2.2.2.2.2.2.2.2.2.2.2.2.2.2.2.2.1, z7.2.2.2.2.2.2.2.2.2.2.2.2.2.2.2.2.2.2.2.2.2.2.2.2.1, z7.2.2.2.2.2.2.2.2.2.2.2.2.2.2.2.2.2.2.2.2.2.2.2.2.2.1, z7.2.2.2.2.2.2.2.2.2.2.2.2.2.2.2.2.2.2.2.2.2.2.2.2.2.2.1, z7.2.2.2.2.2.2.2.2.2.2.2.2.2.2.2.2.2.2.2.2.2.2.2.2.2.2.2.1, z7.2.2.2.2.2.2.2.2.2.2.2.2.2.2.2.2.2.2.2.2.2.2.2.2.2.2.2.2.1, z7.2.2.2.2.2.2.2.2.2.2.2.2.2.2.2.2.2.2.2.2.2.2.2.2.2.2.2.2.2.1, z7.2.2.2.2.2.2.2.2.2.2.2.2.2.2.2.2.2.2.2.2.2.2.2.2.2.2.2.2.2.2.1) z8.2.1 ∧ HR z7.2.2.2.2.2.2.2.2.2.2.2.2.2.2.2.2.2.2.2.2.2.2.2.2.2.2.2.2.2.2.2.1 z7.2.2.2.2.2.2.2.2.2.2.2.2.2.2.2.2.2.2.2.2.2.2.2.2.2.2.2.2.2.2.2.2.1 z7.2.2.2.2.2.2.2.2.2.2.2.2.2.2.2.2.2.2.2.2.2.2.2.2.2.2.2.2.2.2.2.2.2.1 z8.2.2.2.1 z8.2.2.2.2.1 ∧ AR bn z7.2.2.2.2.2.2.2.2.2.2.2.2.2.2.2.2.2.2.2.2.2.2.2.2.2.2.2.2.2.2.2.2.2.2.1 images z8.2.2.2.2.2.1 ∧ RC z7.2.2.2.2.2.2.2.2.2.2.2.2.2.2.2.2.2.2.2.2.2.2.2.2.2.2.2.2.2.2.2.2.2.2.2.1 z7.2.2.2.2.2.2.2.2.2.2.2.2.2.2.2.2.2.2.2.2.2.2.2.2.2.2.2.2.2.2.2.2.2.2.2.2.1 z7.2.2.2.2.2.2.2.2.2.2.2.2.2.2.2.2.2.2.2.2.2.2.2.2.2.2.2.2.2.2.2.2.2.2.2.2.2.1 z7.2.2.2.2.2.2.2.2.2.2.2.2.2.2.2.2.2.2.2.2.2.2.2.2.2.2.2.2.2.2.2.2.2.2.2.2.2.2 facts z8.2.2.2.2.2.2.2.2.2.2.2 := by
  obtain ⟨L, hL, rfl, rfl, s1, s2⟩ := id hS
  have hT : Tx t8 L := ⟨hL, fun i hi => by
    obtain ⟨c, hc, e⟩ := s2 i hi
    have : ch t8 i = c := by unfold ch; rw [e, nI_N (by omega)]
    rw [this]; exact ⟨e, hc⟩⟩
  obtain ⟨y7, y8, e7, e8, hcase⟩ := whole_text hT s1 rp rn tpr tna twa tbl tup tcl tzo tpl tno tne read v
  unfold fX7_tells fX8_tells
  rw [e7, bs, e8, bs]
  rcases hcase with ⟨q, hq, c1, c2⟩ | ⟨c1, c2, m, k, hm0, hI, hR⟩
  · have h9 : ¬ nI q = -9 := nm9 (by omega)
    rw [c1, c2, if_neg h9, if_neg h9]
    exact ⟨_, _, rfl, rfl, rfl, hS, hN, hH, hA, hC⟩
  · rw [c1, c2, if_pos rfl, if_pos rfl]
    obtain ⟨nn, oo, ss, pp, dd, q1, q2, q3⟩ := remember_both hH hN
    have q1 : fX2_remember hn ho hs sw hw re pr na wa bl up cl zo pl no ne = some (nn, oo, ss) := q1
    have hm := hI.1.2.2.1
    have hk := hI.1.2.2.2.1
    have hre : y7.2.2.2.2.2.2.1 = 0 ∨ y7.2.2.2.2.2.2.1 = 1 := by
      rw [show y7.2.2.2.2.2.2.1 = y8.2.1 2 from hR.2.2.1]; exact hI.1.2.2.2.2
    obtain ⟨t', d1, -, d2⟩ := X3_copyFrom pr na wa bl up cl zo pl no ne y7.2.2.2.2 hre
    have hRt := d2 _ m k hm hk hR
    obtain ⟨g, b1', b2', -⟩ := X8_bring (nf := 87) (ng := 87) (i := 0) (j := 0) (by omega) (by omega) (by omega) (by omega) y8.2.1 now
    have b1' : fX8_bring 87 87 y8.2.1 now 0 0 = some g := b1'
    have hg : ∀ x, x < 87 → g x = y8.2.1 x := fun x hx => by have := b2' x hx; rw [Nat.zero_add] at this; exact this
    have hIg := Inv_cg hg hI
    have hRg := RN_cg hm hk hg hRt
    unfold fX4_told fX5_empty fX1_empty fX0_empty fX3_switchTotal fX3_hostTotal
    rw [q1, bs, bs, d1, bs, bs, bs, bs, bs, bs, q2, bs, b1', bs, gd_t (by decide), bd_eq, gd_t (by decide), bd_eq, gd_t (by decide), gd_t (by decide), z0N, z1N, hIg.1.1, hIg.1.2.1, hRg.1, hRg.2.1]
    have hNR : NR t' g := ⟨m, k, hIg, hRg⟩
    rw [← hRg.1, ← hRg.2.1]
    refine ⟨_, _, rfl, rfl, rfl, ⟨0, by omega, rfl, rfl, fun i hi => by omega, fun i hi => by omega⟩, hNR, q3, fun i hi => ⟨?_, fun h => ?_⟩, ⟨0, by omega, rfl, rfl, fun i hi => by omega, fun i _ => ?_, fun g h _ _ => ?_, fun g h _ _ => ?_⟩⟩
    · show upd (upd isK 0 0) 1 0 i = bi (bt 0 i)
      rw [b_0]
      rcases (by omega : i = 0 ∨ i = 1) with rfl | rfl
      · rfl
      · rfl
    · have h : bt (0 : Int32) i = true := h
      rw [b_0] at h; cases h
    · show bt (0 : Int32) i = true ↔ _
      rw [b_0]; simp
    · show bL (0 : Int64) _ = true ↔ _
      rw [L_0]; simp
    · show bL (0 : Int64) _ = true ↔ _
      rw [L_0]; simp
