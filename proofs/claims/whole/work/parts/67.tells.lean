/-! tells -/
/-- an item was read, or the same place is at fault -/
def ITM (L7 t : Nat → Int32) (L fu p v3 : Nat) (pri nam : Int32) (u : T12) (o8 : Option (Int32 × (Nat → Int32) × Int32 × Int32 × Int32 × Int32)) : Prop :=
  (∃ q r a tk v', q ≤ L ∧ FLT L q (C7 L7 L fu p v3 0 pri nam u) ∧ o8 = some (0, r, a, tk, nI q, v')) ∨
  (∃ fu' p' v3' pri' nam' u' f' ta v' m' k', C7 L7 L fu p v3 0 pri nam u = C7 L7 L fu' (sk t L p') v3' 0 pri' nam' u' ∧ p < p' ∧ p' ≤ L ∧ L - sk t L p' < fu' ∧ v3' ≤ sk t L p' ∧ o8 = some (1, f', nI p', 59, ta, v') ∧ RT u' f' m' k')
theorem no1_s {o : Option Nat} {n : Nat} (h : o = some n) : no1 o = nI n := by rw [h]; rfl
theorem inn_s {o : Option Nat} {lo hi : Nat} (h : inn o lo hi = true) : ∃ n, o = some n ∧ lo ≤ n ∧ n ≤ hi := by
  cases o with
  | none => cases h
  | some n =>
    have h : (decide (lo ≤ n) && decide (n ≤ hi)) = true := h
    rw [Bool.and_eq_true, decide_eq_true_iff, decide_eq_true_iff] at h
    exact ⟨n, rfl, h.1, h.2⟩
theorem sw_item {L7 t : Nat → Int32} {L : Nat} (hT : Tx t L) (h7 : ∀ i, i < L → L7 i = t i) {fu p v3 : Nat} (hp : p < L) (hv : v3 ≤ p) (hfu : L - p < fu) (pri nam : Int32) {u : T12} {f : Nat → Int32} {m k : Nat} (hR : RT u f m k) (hc : ch t p = 115) (v : Int32) :
    ITM L7 t L fu p v3 pri nam u (fX8_readSwitch f t (nI L) (nI (te t L p)) (tok t L p) (nI p) v) := by
  have hL := hT.1
  have hnl : ∀ q, q < L → ∀ n, nm t L q = some n → n < 100 := fun q hq n h => nm_lt hq h
  obtain ⟨e1, e2, h0, h1, h2, hm, hk, hD, hNm, hP, hz, hs, hh⟩ := id hR
  have ht0 := tk0 hR pri nam (nI (ch t p)) (no1 (nm t L p))
  rw [if_pos (show nI (ch t p) = 115 from by rw [hc]; rfl)] at ht0
  unfold fX8_readSwitch
  rw [gd_t (by decide), z0N, h0, gd_t (by decide), z1N, h1]
  by_cases hgo : k = 0 ∧ m < 6
  · obtain ⟨rfl, hm6⟩ := hgo
    rw [if_pos ⟨rfl, hm6⟩] at ht0
    obtain ⟨fu1, c1, f1, w1⟩ := (c_step hT h7 hp hv hfu ht0).2 (show ¬ (1 : Int32) = 0 from by decide)
    have hte := te_gt t L p
    have htl := te_le (t := t) hp
    rw [if_neg (show ¬ nI m = 6 from fun e => by have := nI_inj (b := 6) (by omega) (by decide) e; omega), if_pos (show nI 0 ≤ 0 from by decide), gd_t (by decide), bd_eq]
    have ix : ∀ w : Nat, (3 + 4 * nI m) + nI w = nI (3 + 4 * m + w) := fun w => by rw [l3, l4, pk_mul, nI_add, nI_add]
    have ix0 : (3 + 4 * nI m) + 0 = nI (3 + 4 * m) := ix 0
    have ix1 : (3 + 4 * nI m) + 1 = nI (4 + 4 * m) := (ix 1).trans (congrArg nI (by omega))
    have ix2 : (3 + 4 * nI m) + 2 = nI (5 + 4 * m) := (ix 2).trans (congrArg nI (by omega))
    have ix3 : (3 + 4 * nI m) + 3 = nI (6 + 4 * m) := (ix 3).trans (congrArg nI (by omega))
    rw [ix0, ix1, ix2, ix3]
    rcases adv (L7 := L7) hT htl v (v3 + 1) pri nam u (show ¬ (1 : Int32) = 0 from by decide) f1 with ⟨a1, a2, a3⟩ | ⟨a1, v1, a2, a3⟩
    · left
      rw [a2, bs, X8_isNumber_end, bs, if_pos rfl]
      exact ⟨L, _, _, _, _, Nat.le_refl L, by rw [c1]; exact a3, rfl⟩
    generalize hp1 : sk t L (te t L p) = p1 at *
    have hpp1 : p < p1 := by have := sk_ge t L (te t L p); omega
    rw [a2, bs]
    have hn1 := X8_isNumber a1 a3 (lo := 1) (hi := 9) (by omega) (by omega)
    have hn1 : fX8_isNumber (tok t L p1) v1 1 9 = _ := hn1
    rw [hn1, bs]
    have ht1 := tk1 u pri nam (nI (ch t p1)) (hnl p1 a1)
    cases hi1 : inn (nm t L p1) 1 9
    · left
      rw [hi1] at ht1
      obtain ⟨y, y1, y2⟩ := (c_step hT h7 a1 w1 f1 ht1).1 rfl
      rw [ifb_f]
      exact ⟨p1, _, _, _, _, by omega, by rw [c1]; exact Or.inl ⟨y, y1, y2⟩, rfl⟩
    rw [hi1] at ht1
    obtain ⟨P, hPs, hP1, hP9⟩ := inn_s hi1
    obtain ⟨fu2, c2, f2, w2⟩ := (c_step hT h7 a1 w1 f1 ht1).2 (show ¬ (1 : Int32) = 0 from by decide)
    have hte1 := te_gt t L p1
    have htl1 := te_le (t := t) a1
    rw [ifb_t, gd_t (inB_nI (by omega) (by decide)), bd_eq, nI_N (by omega), a3 P hPs]
    have c2 : C7 L7 L fu1 p1 (v3 + 1) 1 pri nam u = C7 L7 L fu2 (sk t L (te t L p1)) (v3 + 1 + 1) 2 (no1 (nm t L p1)) nam u := c2
    rw [no1_s hPs] at c2
    rcases adv (L7 := L7) hT htl1 (nI P) (v3 + 1 + 1) (nI P) nam u (show ¬ (2 : Int32) = 0 from by decide) f2 with ⟨b1', b2', b3'⟩ | ⟨b1', v2, b2', b3'⟩
    · left
      rw [b2', bs, X8_isNumber_end, bs, if_pos rfl]
      exact ⟨L, _, _, _, _, Nat.le_refl L, by rw [c1, c2]; exact b3', rfl⟩
    generalize hp2 : sk t L (te t L p1) = p2 at *
    have hpp2 : p1 < p2 := by have := sk_ge t L (te t L p1); omega
    rw [b2', bs]
    have hn2 := X8_isNumber b1' b3' (lo := 0) (hi := 99) (by omega) (by omega)
    have hn2 : fX8_isNumber (tok t L p2) v2 0 99 = _ := hn2
    rw [hn2, bs]
    have ht2 := tk2 hR (nI P) nam (nI (ch t p2)) (hnl p2 b1')
    cases hi2 : inn (nm t L p2) 0 99
    · left
      rw [hi2, Bool.false_and] at ht2
      obtain ⟨y, y1, y2⟩ := (c_step hT h7 b1' w2 f2 ht2).1 rfl
      rw [ifb_f]
      exact ⟨p2, _, _, _, _, by omega, by rw [c1, c2]; exact Or.inl ⟨y, y1, y2⟩, rfl⟩
    obtain ⟨N, hNs, -, hN9⟩ := inn_s hi2
    rw [hi2, Bool.true_and, no1_s hNs] at ht2
    have hnm7 : nmd (upd f (3 + 4 * m) (nI P)) m (nI N) = nmd f m (nI N) := by
      rw [Bool.eq_iff_iff, nmd_iff, nmd_iff]
      constructor
      · rintro ⟨j, hj, e⟩; rw [pk_un (by omega)] at e; exact ⟨j, hj, e⟩
      · rintro ⟨j, hj, e⟩; exact ⟨j, hj, by rw [pk_un (by omega)]; exact e⟩
    rw [ifb_t, b3' N hNs, X8_isNamed hm (by rw [pk_un (by omega)]; exact h0), bs, hnm7]
    have ht2' : tk7 2 (nI P) nam u (nI (ch t p2)) (no1 (nm t L p2)) = some (bi (!nmd f m (nI N)), 3, nI P, nI N, u) := by rw [no1_s hNs]; exact ht2
    cases hnn : nmd f m (nI N)
    case true =>
      left
      rw [hnn] at ht2'
      obtain ⟨y, y1, y2⟩ := (c_step hT h7 b1' w2 f2 ht2').1 rfl
      rw [ifb_t]
      exact ⟨p2, _, _, _, _, by omega, by rw [c1, c2]; exact Or.inl ⟨y, y1, y2⟩, rfl⟩
    rw [hnn] at ht2'
    obtain ⟨fu3, c3, f3, w3⟩ := (c_step hT h7 b1' w2 f2 ht2').2 (show ¬ (1 : Int32) = 0 from by decide)
    have c3 : C7 L7 L fu2 p2 (v3 + 1 + 1) 2 (nI P) nam u = C7 L7 L fu3 (sk t L (te t L p2)) (v3 + 1 + 1 + 1) 3 (nI P) (nI N) u := c3
    have hte2 := te_gt t L p2
    have htl2 := te_le (t := t) b1'
    rw [ifb_f, gd_t (inB_nI (by omega) (by decide)), bd_eq, nI_N (by omega)]
    rcases adv (L7 := L7) hT htl2 (nI N) (v3 + 1 + 1 + 1) (nI P) (nI N) u (show ¬ (3 : Int32) = 0 from by decide) f3 with ⟨d1, d2, d3⟩ | ⟨d1, v3', d2, d3⟩
    · left
      rw [d2, bs, X8_isNumber_end, bs, if_pos rfl]
      exact ⟨L, _, _, _, _, Nat.le_refl L, by rw [c1, c2, c3]; exact d3, rfl⟩
    generalize hp3 : sk t L (te t L p2) = p3 at *
    have hpp3 : p2 < p3 := by have := sk_ge t L (te t L p2); omega
    rw [d2, bs]
    have hn3 := X8_isNumber d1 d3 (lo := 0) (hi := 8) (by omega) (by omega)
    have hn3 : fX8_isNumber (tok t L p3) v3' 0 8 = _ := hn3
    rw [hn3, bs]
    cases hi3 : inn (nm t L p3) 0 8
    · left
      obtain ⟨z, z1, z2⟩ := tk3_no u (nI P) (nI N) (nI (ch t p3)) (hnl p3 d1) hi3
      obtain ⟨y, y1, y2⟩ := (c_step hT h7 d1 w3 f3 z1).1 z2
      rw [ifb_f]
      exact ⟨p3, _, _, _, _, by omega, by rw [c1, c2, c3]; exact Or.inl ⟨y, y1, y2⟩, rfl⟩
    obtain ⟨W, hWs, -, hW8⟩ := inn_s hi3
    obtain ⟨zo', ht3, hz1, hz2⟩ := tk3_yes e1 hm6 (nI P) (nI N) (nI (ch t p3)) hW8
    rw [← no1_s hWs] at ht3
    obtain ⟨fu4, c4, f4, w4⟩ := (c_step hT h7 d1 w3 f3 ht3).2 (show ¬ (1 : Int32) = 0 from by decide)
    rw [no1_s hWs] at c4
    have hte3 := te_gt t L p3
    have htl3 := te_le (t := t) d1
    rw [ifb_t, gd_t (inB_nI (by omega) (by decide)), bd_eq, nI_N (by omega), d3 W hWs]
    have g6 : ∀ {β : Type} (x : Option β), gd (inB (nI (6 + 4 * m)) 87 = true) x = x := fun x => gd_t (inB_nI (by omega) (by decide))
    have g0 : ∀ {β : Type} (x : Option β), gd (inB 0 87 = true) x = x := fun x => gd_t (by decide)
    have n6 : (nI (6 + 4 * m)).toNatClampNeg = 6 + 4 * m := nI_N (by omega)
    have r0 : ∀ w : Int32, upd (upd (upd (upd f (3 + 4 * m) (nI P)) (4 + 4 * m) (nI N)) (5 + 4 * m) (nI W)) (6 + 4 * m) w 0 + 1 = nI (m + 1) := fun w => by
      rw [pk_un (by omega), pk_un (by omega), pk_un (by omega), pk_un (by omega), h0, nI_1]
    suffices hsuf : ∀ B : Int32, B = nI (bk W) → ITM L7 t L fu p v3 pri nam u ((fX8_next t (nI L) (nI (te t L p3)) (nI W)).bind fun z => if z.2.1 = 59 then some (1, upd (upd (upd (upd (upd f (3 + 4 * m) (nI P)) (4 + 4 * m) (nI N)) (5 + 4 * m) (nI W)) (6 + 4 * m) B) 0 (nI (m + 1)), z.1, z.2.1, z.2.2.1, z.2.2.2) else some (0, upd (upd (upd (upd (upd f (3 + 4 * m) (nI P)) (4 + 4 * m) (nI N)) (5 + 4 * m) (nI W)) (6 + 4 * m) B) 0 (nI (m + 1)), z.1, z.2.1, z.2.2.1, z.2.2.2)) by
      dsimp only
      simp only [g6, g0, n6, bd_eq, r0]
      by_cases hW0 : W = 0
      · have := hsuf 1 (by unfold bk; rw [if_pos hW0]; rfl)
        rw [if_pos (show nI W = 0 from by rw [hW0]; rfl)]
        exact this
      · have := hsuf (nI W) (by unfold bk; rw [if_neg hW0])
        rw [if_neg (nI_ne0 (by omega) (by omega))]
        exact this
    intro B hB
    subst hB
    have hRT := RT_switch hR hm6 hP1 hP9 hN9 hW8 hnn hz1 hz2 (g := upd (upd (upd (upd (upd f (3 + 4 * m) (nI P)) (4 + 4 * m) (nI N)) (5 + 4 * m) (nI W)) (6 + 4 * m) (nI (bk W))) 0 (nI (m + 1))) pk_us (by rw [pk_un (by omega), pk_un (by omega), pk_un (by omega), pk_un (by omega), pk_us]) (by rw [pk_un (by omega), pk_un (by omega), pk_un (by omega), pk_us]) (by rw [pk_un (by omega), pk_un (by omega), pk_us]) (by rw [pk_un (by omega), pk_us]) (fun x q0 q3 q4 q5 q6 => by rw [pk_un q0, pk_un q6, pk_un q5, pk_un q4, pk_un q3])
    generalize upd (upd (upd (upd (upd f (3 + 4 * m) (nI P)) (4 + 4 * m) (nI N)) (5 + 4 * m) (nI W)) (6 + 4 * m) (nI (bk W))) 0 (nI (m + 1)) = G at *
    rw [no1_s hWs] at ht3
    generalize hu' : ((nI (m + 1), u.2.1, upd (u_pr u) m (nI P), upd (u_na u) m (nI N), upd (u_wa u) m (nI W), upd (u_bl u) m (nI (bk W)), upd (u_up u) m 0, upd (u_cl u) m 0, zo', u_pl u, u_no u, u_ne u) : T12) = u' at *
    have c4 : C7 L7 L fu3 p3 (v3 + 1 + 1 + 1) 3 (nI P) (nI N) u = C7 L7 L fu4 (sk t L (te t L p3)) (v3 + 1 + 1 + 1 + 1) 5 (nI P) (nI N) u' := c4
    rcases adv (L7 := L7) hT htl3 (nI W) (v3 + 1 + 1 + 1 + 1) (nI P) (nI N) u' (show ¬ (5 : Int32) = 0 from by decide) f4 with ⟨x1, x2, x3⟩ | ⟨x1, v4, x2, x3⟩
    · left
      rw [x2, bs, if_neg (show ¬ (1000 : Int32) = 59 from by decide)]
      exact ⟨L, _, _, _, _, Nat.le_refl L, by rw [c1, c2, c3, c4]; exact x3, rfl⟩
    generalize hp4 : sk t L (te t L p3) = p4 at *
    have hpp4 : p3 < p4 := by have := sk_ge t L (te t L p3); omega
    rw [x2, bs]
    have ht5 := tk5 u' (nI P) (nI N) (nI (ch t p4)) (no1 (nm t L p4))
    by_cases h59 : ch t p4 = 59
    · right
      rw [if_pos (show nI (ch t p4) = 59 from by rw [h59]; rfl)] at ht5
      obtain ⟨fu5, c5, f5, w5⟩ := (c_step hT h7 x1 w4 f4 ht5).2 (show ¬ (1 : Int32) = 0 from by decide)
      have htok : tok t L p4 = 59 := (tok_s (x := 59) (by omega)).mpr h59
      have hte4 := te_gt t L p4
      rw [htok, if_pos rfl]
      exact ⟨fu5, te t L p4, _, nI P, nI N, u', G, _, _, m + 1, 0, by rw [c1, c2, c3, c4]; exact c5, by omega, te_le x1, f5, w5, rfl, hRT⟩
    · left
      rw [if_neg (show ¬ nI (ch t p4) = 59 from fun e => h59 ((nI_ch (x := 59) hT x1 (by omega)).mp e))] at ht5
      obtain ⟨y, y1, y2⟩ := (c_step hT h7 x1 w4 f4 ht5).1 rfl
      have htok : ¬ tok t L p4 = 59 := fun e => h59 ((tok_s (x := 59) (by omega)).mp e)
      rw [if_neg htok]
      exact ⟨p4, _, _, _, _, by omega, by rw [c1, c2, c3, c4]; exact Or.inl ⟨y, y1, y2⟩, rfl⟩
  · left
    rw [if_neg hgo] at ht0
    obtain ⟨y, y1, y2⟩ := (c_step hT h7 hp hv hfu ht0).1 rfl
    refine ⟨p, f, nI (te t L p), tok t L p, v, by omega, Or.inl ⟨y, y1, y2⟩, ?_⟩
    by_cases hm6 : m = 6
    · rw [if_pos (show nI m = 6 from by rw [hm6]; rfl)]
    · rw [if_neg (show ¬ nI m = 6 from fun e => hm6 (nI_inj (b := 6) (by omega) (by decide) e)), if_neg (nI_nle (by omega) (by omega))]
