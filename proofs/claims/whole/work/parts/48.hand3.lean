theorem X8_hand_step {n : Nat} {g : Nat → Int32} {G L ch : Int32} {s w : Nat} (hn : n ≤ 6) (hL : L ≠ 0) (h2 : fX8_handOut_L2 L g 500 (-9) 0 = some (nI s, nI n)) (hs : s < n) (hw : w ≤ 8) (ew : g (5 + 4 * s) = nI w) (hf : fre G ≤ 6) (fu : Nat) :
    fX8_handOut_L1 (fu + 1) G L ch g = fX8_handOut_L1 fu (G ||| b1 (nbl w G)) (L &&& (b1 s ^^^ (-1))) (if g (6 + 4 * s) = nI (nbl w G) then ch else ch + 1) (upd g (6 + 4 * s) (nI (nbl w G))) := by
  have o2 := X8_of (f := g) (a := s) (w := 2) (by omega) (by omega)
  have o3 := X8_of (f := g) (a := s) (w := 3) (by omega) (by omega)
  rw [show 3 + 4 * s + 2 = 5 + 4 * s by omega, ew] at o2
  rw [show 3 + 4 * s + 3 = 6 + 4 * s by omega] at o3
  have ix : (3 + (4 * nI s)) + 3 = nI (6 + 4 * s) := by rw [l3, l4, pk_mul, nI_add, nI_add]; congr 1; omega
  rw [fX8_handOut_L1.eq_2, if_neg hL, h2, bs]
  simp only [l2, o2, bs]
  unfold nbl
  have fin : ∀ b : Nat, (if nI b = g (6 + 4 * s) then
          bd (ch + 0) fun v4 => gd (inB ((3 + (4 * nI s)) + 3) 87 = true) <| bd (upd g ((3 + (4 * nI s)) + 3).toNatClampNeg (nI b)) fun c_now => bd (G ||| (1 <<< (nI b &&& 31))) fun v2 => bd (L &&& ((1 <<< (nI s &&& 31)) ^^^ (-1))) fun v3 => fX8_handOut_L1 fu v2 v3 v4 c_now
        else
          bd (ch + 1) fun v4 => gd (inB ((3 + (4 * nI s)) + 3) 87 = true) <| bd (upd g ((3 + (4 * nI s)) + 3).toNatClampNeg (nI b)) fun c_now => bd (G ||| (1 <<< (nI b &&& 31))) fun v2 => bd (L &&& ((1 <<< (nI s &&& 31)) ^^^ (-1))) fun v3 => fX8_handOut_L1 fu v2 v3 v4 c_now)
      = fX8_handOut_L1 fu (G ||| b1 b) (L &&& (b1 s ^^^ (-1))) (if g (6 + 4 * s) = nI b then ch else ch + 1) (upd g (6 + 4 * s) (nI b)) := by
    intro b
    rw [ix, nI_N (by omega)]
    by_cases hq : nI b = g (6 + 4 * s)
    · rw [if_pos hq, if_pos hq.symm, bd_eq, gd_t (inB_nI (by omega) (by decide)), addz]; rfl
    · rw [if_neg hq, if_neg (fun e => hq e.symm), bd_eq, gd_t (inB_nI (by omega) (by decide))]; rfl
  by_cases h0 : w = 0
  · rw [if_pos (by subst h0; rfl), X8_bf3 hf, bs, if_pos h0]
    simp only [l3, o3, bs]
    exact fin (fre G)
  · rw [if_neg (nI_ne0 (by omega) (by omega)), X8_has (by omega), bs, if_neg h0]
    cases hb : bt G w
    · rw [ifb_f, if_neg (by decide)]
      simp only [l3, o3, bs]
      exact fin w
    · rw [ifb_t, X8_bf4 hf, bs, if_pos rfl]
      simp only [l3, o3, bs]
      exact fin (fre G)
theorem X3_hand_step {n : Nat} (hn : n ≤ 6) {na r wa up u bl : Nat → Int32} (hm : ∀ a, a < n → na a = r a) (hu : ∀ a, a < n → up a = u a) {F V G R ch : Int32} {t s w : Nat} (ht : t < n) (hV : V ≠ F) (hs : s < n) (hw : w ≤ 8) (ew : wa s = nI w) (hf : fre G ≤ 6) (R' : Int32) (hR' : R' = if V = R then spr n u R else R)
    (h2 : am n (R' &&& (V ^^^ (-1))) r = some s) (fu : Nat) :
    fX3_handOut_L1 (nI n) na wa up F (fu + 1) ch V G R (nI t) bl = fX3_handOut_L1 (nI n) na wa up F fu (if bl s = nI (nbl w G) then ch else ch + 1) (V ||| b1 s) (G ||| b1 (nbl w G)) R' (nI (t + 1)) (upd bl s (nI (nbl w G))) := by
  rw [fX3_handOut_L1.eq_2, if_neg (nI_ge ht (by omega)), if_neg hV]
  by_cases hq : V = R
  · rw [if_pos hq] at hR' ⊢
    rw [X3_spread hn hu, bs, ← hR', X3_lowestNameOf hn hm, bs, h2, show eo (some s) = nI s from rfl, X3_blockFor hn hs hw ew hf, bs, X3_blockOf hn hs, bs, X3_setBlock hn hs, bs]
    by_cases hc : bl s = nI (nbl w G)
    · rw [if_pos hc, if_pos hc, bd_eq, bd_eq, bd_eq, nI_1]; rfl
    · rw [if_neg hc, if_neg hc, bd_eq, bs, bd_eq, bd_eq, bd_eq, nI_1]; rfl
  · rw [if_neg hq] at hR' ⊢
    rw [← hR', X3_lowestNameOf hn hm, bs, h2, show eo (some s) = nI s from rfl, X3_blockFor hn hs hw ew hf, bs, X3_blockOf hn hs, bs, X3_setBlock hn hs, bs]
    by_cases hc : bl s = nI (nbl w G)
    · rw [if_pos hc, if_pos hc, bd_eq, bd_eq, bd_eq, nI_1]; rfl
    · rw [if_neg hc, if_neg hc, bd_eq, bs, bd_eq, bd_eq, bd_eq, nI_1]; rfl
theorem Off.upd {n : Nat} {f g : Nat → Int32} (h : Off n f g) {s : Nat} (hs : s < n) (v : Int32) : Off n f (upd g (6 + 4 * s) v) := by
  intro x hx
  rw [pk_un (hx s hs)]
  exact h x hx
theorem Off.D {n : Nat} {f g : Nat → Int32} (h : Off n f g) (hD : RwD f n) (hb : ∀ s, s < n → ∃ b, 1 ≤ b ∧ b ≤ 8 ∧ g (6 + 4 * s) = nI b) : RwD g n := by
  intro a ha
  obtain ⟨h1, h2, h3, -⟩ := hD a ha
  rw [h.pr, h.na, h.wa]
  exact ⟨h1, h2, h3, hb a ha⟩
theorem hand_loop {n k : Nat} {f na wa up : Nat → Int32} (hI : Inv f n k) (hm : ∀ a, a < n → na a = f (4 + 4 * a)) (hwa : ∀ a, a < n → wa a = f (5 + 4 * a)) (hu : ∀ a, a < n → up a = f (35 + a)) {F : Int32} {p : Nat} (hp : p < n) (hF : ∀ x, bt F x = true ↔ Cnn n (UPr f) p x) (hpr : ∀ x, bt F x = true → prin n f (fab n (UPr f) x) = some p) :
    ∀ (m : Nat) (V G R ch : Int32) (t d : Nat) (bl g : Nat → Int32) (fu1 fu2 : Nat), fb_ct (fun x => bt F x && !bt V x) n = m → (∀ x, bt V x = true → bt R x = true) → R = itr n (UPr f) d (b1 p) → (∀ j, j < d → ∀ x, bt (itr n (UPr f) j (b1 p)) x = true → bt V x = true) →
      fb_ct (fun x => bt V x) n = t → fb_ct (fun i => bt G i) 9 ≤ t → (∀ s, s < n → bl s = g (6 + 4 * s)) → Off n f g → (∀ s, s < n → ∃ b, 1 ≤ b ∧ b ≤ 8 ∧ g (6 + 4 * s) = nI b) → m < fu1 → m < fu2 →
      ∃ (c : Int32) (bl' g' : Nat → Int32) (o1 o2 o3 o4 o5 o6 : Int32), fX3_handOut_L1 (nI n) na wa up F fu1 ch V G R (nI t) bl = some (c, o1, o2, o3, o4, bl') ∧ fX8_handOut_L1 fu2 G (F &&& (V ^^^ (-1))) ch g = some (o5, o6, c, g') ∧
        (∀ s, s < n → bl' s = g' (6 + 4 * s)) ∧ Off n f g' ∧ (∀ s, s < n → ∃ b, 1 ≤ b ∧ b ≤ 8 ∧ g' (6 + 4 * s) = nI b) := by
  obtain ⟨⟨h0, h1, hn, hk, -⟩, hD, hNm, -, ⟨hBd, hSy, -⟩, -⟩ := id hI
  have hFn : ∀ x, bt F x = true → x < n := fun x hx => Cnn.bd hn hBd hp ((hF x).mp hx)
  intro m
  induction m with
  | zero =>
    intro V G R ch t d bl g fu1 fu2 hm0 hVR hR hlow ht hG hbl hO hblk hf1 hf2
    obtain ⟨q1, rfl⟩ : ∃ q, fu1 = q + 1 := ⟨fu1 - 1, by omega⟩
    obtain ⟨q2, rfl⟩ : ∃ q, fu2 = q + 1 := ⟨fu2 - 1, by omega⟩
    have hz := fb_ct_zero.mp hm0
    have hRF : ∀ x, bt R x = true → bt F x = true := by
      intro x hx
      rw [hF]
      show bt (fab n (UPr f) p) x = true
      rw [hR] at hx
      rw [← fab_n1 hn hBd hp (m := d + 6) (by omega)]
      exact itr_mono n (UPr f) (b1 p) (by omega) hx
    have hVF : V = F := by
      refine b_ext (fun i _ => ?_)
      cases h3 : bt F i
      · cases h4 : bt V i
        · rfl
        · rw [hRF i (hVR i h4)] at h3; cases h3
      · have := hz i (hFn i h3)
        simp only [h3, Bool.true_and, Bool.not_eq_false'] at this
        exact this
    have hL : F &&& (V ^^^ (-1)) = 0 := by
      rw [hVF, b_and0]
      rintro i hi ⟨h3, h4⟩
      rw [b_not hi, h3] at h4
      cases h4
    refine ⟨ch, bl, g, V, G, R, nI t, G, F &&& (V ^^^ (-1)), ?_, ?_, hbl, hO, hblk⟩
    · rw [fX3_handOut_L1.eq_2, if_pos hVF]
      split <;> rfl
    · rw [fX8_handOut_L1.eq_2, if_pos hL]
  | succ m ih =>
    intro V G R ch t d bl g fu1 fu2 hm0 hVR hR hlow ht hG hbl hO hblk hf1 hf2
    obtain ⟨q1, rfl⟩ : ∃ q, fu1 = q + 1 := ⟨fu1 - 1, by omega⟩
    obtain ⟨q2, rfl⟩ : ∃ q, fu2 = q + 1 := ⟨fu2 - 1, by omega⟩
    obtain ⟨x0, hx0, hx1⟩ := fb_ct_pos.mp (by omega : 0 < fb_ct (fun x => bt F x && !bt V x) n)
    simp only [Bool.and_eq_true, Bool.not_eq_true'] at hx1
    have hVF : V ≠ F := fun e => by rw [e, hx1.1] at hx1; cases hx1.2
    have hL : F &&& (V ^^^ (-1)) ≠ 0 := fun e => by
      rw [b_and0] at e
      exact e x0 (by omega) ⟨hx1.1, by rw [b_not (by omega), hx1.2]; rfl⟩
    have hRF : ∀ x, bt R x = true → bt F x = true := by
      intro x hx
      rw [hF]
      show bt (fab n (UPr f) p) x = true
      rw [hR] at hx
      rw [← fab_n1 hn hBd hp (m := d + 6) (by omega)]
      exact itr_mono n (UPr f) (b1 p) (by omega) hx
    have htn : t < n := by
      have h3 := fb_ct_or (p := fun x => bt V x) (q := fun x => bt F x && !bt V x) (n := n) (fun k _ h => by
        simp only [Bool.and_eq_true, Bool.not_eq_true'] at h
        rw [h.1] at h
        cases h.2.2)
      have h4 := fb_ct_le (fun k => bt V k || (bt F k && !bt V k)) n
      omega
    -- the reached set of this turn
    obtain ⟨R', d', hR'e, hR'i, hVR', hlow', hne'⟩ : ∃ (R' : Int32) (d' : Nat), R' = (if V = R then spr n (UPr f) R else R) ∧ R' = itr n (UPr f) d' (b1 p) ∧ (∀ x, bt V x = true → bt R' x = true) ∧ (∀ j, j < d' → ∀ x, bt (itr n (UPr f) j (b1 p)) x = true → bt V x = true) ∧ V ≠ R' := by
      by_cases hq : V = R
      · refine ⟨spr n (UPr f) R, d + 1, by rw [if_pos hq], by rw [hR]; rfl, fun x hx => ?_, fun j hj x hx => ?_, fun e => ?_⟩
        · rw [bt_spr]; exact Or.inl (hVR x hx)
        · rcases Nat.lt_or_ge j d with h3 | h3
          · exact hlow j h3 x hx
          · have : j = d := by omega
            subst this
            rw [hq, hR]; exact hx
        · apply hVF
          refine b_ext (fun i _ => ?_)
          have hcl : ∀ c e', c < n → bt V c = true → bt (UPr f c) e' = true → bt V e' = true := fun c e' hc h3 h4 => by
            rw [e, bt_spr]
            exact Or.inr ⟨c, hc, by rw [← hq]; exact h3, h4⟩
          have hpV : bt V p = true := by
            rw [hq, hR]
            exact itr_mono n (UPr f) (b1 p) (j := 0) (by omega) (b1_at (by omega))
          cases h3 : bt F i
          · cases h4 : bt V i
            · rfl
            · rw [hRF i (hVR i h4)] at h3; cases h3
          · exact Cnn.least (T := fun x => bt V x = true) (by omega) hpV hcl ((hF i).mp h3)
      · exact ⟨R, d, by rw [if_neg hq], hR, hVR, hlow, hq⟩
    obtain ⟨s, e1, e2, hs, hsF, hsV, hsR⟩ := next_pick hI hO hp hF hpr hR'i hVR' hlow' hne'
    obtain ⟨-, -, ⟨w, hw, ew⟩, -⟩ := hD s hs
    have hfr : fre G ≤ 6 := fre_le (t := t) (by omega) hG
    have hnb := nbl_in hw hfr
    have hgD : RwD g n := hO.D hD hblk
    have hg0 : g 0 = nI n := by rw [hO 0 (fun s _ => by omega), h0]
    have hgB : Bd n (UPr g) := by rw [hO.up hn]; exact hBd
    have hgS : Sy n (UPr g) := by rw [hO.up hn]; exact hSy
    have hL2 := X8_hand_L2 hn hg0 hgD hgB hgS (F &&& (V ^^^ (-1)))
    rw [e2] at hL2
    rw [X3_hand_step hn hm hu htn hVF hs hw (by rw [hwa s hs, ew]) hfr R' hR'e e1, X8_hand_step hn hL hL2 hs hw (by rw [hO.wa, ew]) hfr, hbl s hs]
    have hleft : (F &&& (V ^^^ (-1))) &&& (b1 s ^^^ (-1)) = F &&& ((V ||| b1 s) ^^^ (-1)) := by
      refine b_ext (fun i hi => ?_)
      rw [b_and, b_and, b_and, b_not hi, b_not hi, b_not hi, b_or, Bool.not_or, Bool.and_assoc]
    rw [hleft]
    have hVs : ∀ i, bt (V ||| b1 s) i = if i = s then true else bt V i := fun i => by
      rw [b_or, b_b1 (by omega)]
      by_cases h3 : i = s
      · rw [if_pos h3, decide_eq_true h3, Bool.or_true]
      · rw [if_neg h3, decide_eq_false h3, Bool.or_false]
    refine ih (V ||| b1 s) (G ||| b1 (nbl w G)) R' _ (t + 1) d' (upd bl s (nI (nbl w G))) (upd g (6 + 4 * s) (nI (nbl w G))) q1 q2 ?_ ?_ hR'i ?_ ?_ ?_ ?_ (hO.upd hs _) ?_ (by omega) (by omega)
    · have h3 := fb_ct_upd (fun x => bt F x && !bt V x) false hs
      have e3 : (fun k => if k = s then false else bt F k && !bt V k) = fun x => bt F x && !bt (V ||| b1 s) x := funext (fun i => by
        rw [hVs]
        by_cases h4 : i = s
        · rw [if_pos h4, if_pos h4]; simp
        · rw [if_neg h4, if_neg h4])
      rw [e3] at h3
      simp only [hsF, hsV] at h3
      simp at h3
      omega
    · intro x hx
      rw [hVs] at hx
      by_cases h4 : x = s
      · subst h4; exact hsR
      · rw [if_neg h4] at hx
        exact hVR' x hx
    · intro j hj x hx
      rw [b_or, hlow' j hj x hx]; rfl
    · have h3 := fb_ct_upd (fun x => bt V x) true hs
      have e3 : (fun k => if k = s then true else bt V k) = fun x => bt (V ||| b1 s) x := funext (fun i => (hVs i).symm)
      rw [e3] at h3
      simp only [hsV] at h3
      simp at h3
      omega
    · have := ct_bit (G := G) (b := nbl w G) (by omega)
      omega
    · intro a ha
      by_cases h4 : a = s
      · subst h4; rw [pk_us, pk_us]
      · rw [pk_un h4, pk_un (by omega)]
        exact hbl a ha
    · intro a ha
      by_cases h4 : a = s
      · subst h4; rw [pk_us]; exact ⟨_, hnb.1, hnb.2, rfl⟩
      · rw [pk_un (by omega)]
        exact hblk a ha
/-- handing out, both ways -/
theorem handOut_both {n k : Nat} {f pr na wa bl up : Nat → Int32} (hI : Inv f n k) (hpr0 : ∀ a, a < n → pr a = f (3 + 4 * a)) (hm : ∀ a, a < n → na a = f (4 + 4 * a)) (hwa : ∀ a, a < n → wa a = f (5 + 4 * a)) (hbl : ∀ a, a < n → bl a = f (6 + 4 * a)) (hu : ∀ a, a < n → up a = f (35 + a)) {a : Nat} (ha : a < n) :
    ∃ (c : Int32) (bl' g : Nat → Int32), fX3_handOut (nI n) pr na wa bl up (fab n (UPr f) a) = some (c, bl') ∧ fX8_handOut f (fab n (UPr f) a) = some (c, g) ∧ (∀ s, s < n → bl' s = g (6 + 4 * s)) ∧ Off n f g ∧ (∀ s, s < n → ∃ b, 1 ≤ b ∧ b ≤ 8 ∧ g (6 + 4 * s) = nI b) := by
  obtain ⟨⟨h0, h1, hn, hk, -⟩, hD, hNm, -, ⟨hBd, hSy, -⟩, -⟩ := id hI
  obtain ⟨p, hp, hpn, hpc⟩ := prin_of hn hBd hSy ha
  have hFe : fab n (UPr f) a = fab n (UPr f) p := (hpc.fab_eq hn hBd hSy hpn).symm
  have hz : ∀ x, bt (0 : Int32) x = false := b_0
  have hfz : fab n (UPr f) a &&& ((0 : Int32) ^^^ (-1)) = fab n (UPr f) a := b_ext (fun i hi => by rw [b_and, b_not hi, b_0]; simp)
  obtain ⟨c, bl', g, o1, o2, o3, o4, o5, o6, e1, e2, r1, r2, r3⟩ := hand_loop hI hm hwa hu (F := fab n (UPr f) a) hpn (fun x => by rw [hFe]; exact Iff.rfl)
    (fun x hx => by rw [← (show Cnn n (UPr f) a x from hx).fab_eq hn hBd hSy ha]; exact hp)
    (fb_ct (fun x => bt (fab n (UPr f) a) x && !bt (0 : Int32) x) n) 0 0 (b1 p) 0 0 0 bl f 500 500 rfl (fun x hx => by rw [hz] at hx; cases hx) rfl (fun j hj => by omega)
    (fb_ct_zero.mpr (fun x _ => hz x)) (Nat.le_of_eq (fb_ct_zero.mpr (fun x _ => hz x))) hbl (fun x _ => rfl) (fun s hs => (hD s hs).2.2.2)
    (by have := fb_ct_le (fun x => bt (fab n (UPr f) a) x && !bt (0 : Int32) x) n; omega) (by have := fb_ct_le (fun x => bt (fab n (UPr f) a) x && !bt (0 : Int32) x) n; omega)
  rw [hfz] at e2
  refine ⟨c, bl', g, ?_, ?_, r1, r2, r3⟩
  · unfold fX3_handOut
    rw [X3_principalOf hn hpr0 hm, bs, hp, bd_eq]
    have e1 : fX3_handOut_L1 (nI n) na wa up (fab n (UPr f) a) 500 0 0 0 (1 <<< (eo (some p) &&& 31)) 0 bl = _ := e1
    rw [e1, bs]
  · unfold fX8_handOut
    rw [e2, bs]
