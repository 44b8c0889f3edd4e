/-! which, ask -/
theorem so_cg {k : Nat} {S S' : Nat → Nat → Bool} (h : ∀ g x, g < k → x < k → S g x = S' g x) (facts : Nat → Int32) (n : Nat) : so k S facts n = so k S' facts n := by
  unfold so
  congr 1
  funext j
  unfold so1
  by_cases h1 : (facts (3 * j)).toNatClampNeg < k
  · by_cases h2 : (facts (3 * j + 1)).toNatClampNeg < k
    · rw [h _ _ h1 h2]
    · rw [decide_eq_false h2, Bool.false_and, Bool.false_and]
  · rw [decide_eq_false h1, Bool.false_and, Bool.false_and]
def okp (m k : Nat) (now facts : Nat → Int32) (n : Nat) (p : Nat × Nat) : Bool := so k (see m (cutr now p.1 p.2)) facts n
theorem get_app {l : List (Nat × Nat)} {p q : Nat × Nat} {i : Nat} (h : (l ++ [p])[i]? = some q) : (i < l.length ∧ l[i]? = some q) ∨ (i = l.length ∧ q = p) := by
  by_cases hq : i < l.length
  · rw [List.getElem?_append_left hq] at h
    exact Or.inl ⟨hq, h⟩
  · right
    rw [List.getElem?_append_right (by omega)] at h
    have hi0 : i = l.length := by
      rcases Nat.lt_or_ge l.length i with h' | h'
      · obtain ⟨j, hj⟩ : ∃ j, i - l.length = j + 1 := ⟨i - l.length - 1, by omega⟩
        rw [hj] at h
        cases h
      · omega
    subst hi0
    rw [Nat.sub_self] at h
    cases h
    exact ⟨rfl, rfl⟩
theorem filt_len (l : List (Nat × Nat)) (p : Nat × Nat → Bool) : (l.filter p).length ≤ l.length := List.length_filter_le p l
theorem dropUnfit {now : Nat → Int32} {m k : Nat} (hk : k ≤ 8) {size ment : Int32} {seen unseen : Int64} {facts : Nat → Int32} {n : Nat} (hC : RC size ment seen unseen facts (nI n)) (hn6 : n ≤ 6) {P : List (Nat × Nat)} (hP15 : P.length ≤ 15) {codes : Nat → Int32} {views : Nat → Int64} (h5 : ∀ i a b, P[i]? = some (a, b) → codes i = nI (10 * a + b) ∧ IsV m k (cutr now a b) (views i)) :
    ∃ codes' views', fX6_dropUnfit codes views (nI P.length) ment seen unseen (b1 k - 1) = some (codes', views', nI (P.filter (okp m k now facts n)).length) ∧ ∀ i a b, (P.filter (okp m k now facts n))[i]? = some (a, b) → codes' i = nI (10 * a + b) ∧ IsV m k (cutr now a b) (views' i) := by
  have key : ∀ (j i fu : Nat) (cc : Nat → Int32) (vv : Nat → Int64), i + j = P.length → j < fu → (∀ t a b, ((P.take i).filter (okp m k now facts n))[t]? = some (a, b) → cc t = nI (10 * a + b) ∧ IsV m k (cutr now a b) (vv t)) → (∀ t, i ≤ t → cc t = codes t ∧ vv t = views t) →
      ∃ cc' vv', fX6_dropUnfit_L1 (nI P.length) ment seen unseen (b1 k - 1) fu (nI ((P.take i).filter (okp m k now facts n)).length) (nI i) cc vv = some (nI (P.filter (okp m k now facts n)).length, nI P.length, cc', vv') ∧ ∀ t a b, (P.filter (okp m k now facts n))[t]? = some (a, b) → cc' t = nI (10 * a + b) ∧ IsV m k (cutr now a b) (vv' t) := by
    intro j
    induction j with
    | zero =>
      intro i fu cc vv hi hf q1 q2
      obtain ⟨z, rfl⟩ : ∃ z, fu = z + 1 := ⟨fu - 1, by omega⟩
      have : i = P.length := by omega
      subst this
      rw [List.take_length] at q1 ⊢
      refine ⟨cc, vv, ?_, q1⟩
      rw [fX6_dropUnfit_L1.eq_2, if_pos (nI_le (Nat.le_refl _) (by omega))]
    | succ j ih =>
      intro i fu cc vv hi hf q1 q2
      obtain ⟨z, rfl⟩ : ∃ z, fu = z + 1 := ⟨fu - 1, by omega⟩
      have hil : i < P.length := by omega
      have hp : P[i]? = some P[i] := List.getElem?_eq_getElem hil
      obtain ⟨w1, w2⟩ := h5 i P[i].1 P[i].2 hp
      have hfit := X1_fit hk hC hn6 (S := see m (cutr now P[i].1 P[i].2)) (V := views i) w2
      have hfl := filt_len (P.take i) (okp m k now facts n)
      have htl : (P.take i).length = i := by rw [List.length_take]; omega
      have htk : (P.take (i + 1)).filter (okp m k now facts n) = (P.take i).filter (okp m k now facts n) ++ (if okp m k now facts n P[i] then [P[i]] else []) := by
        rw [List.take_succ, hp, List.filter_append]
        show _ ++ [P[i]].filter _ = _
        rw [List.filter_cons, List.filter_nil]
      rw [fX6_dropUnfit_L1.eq_2, if_neg (nI_ge hil (by omega)), gd_t (inB_nI (by omega) (by decide)), nI_N (by omega), (q2 i (Nat.le_refl i)).2, hfit, bs]
      cases ho : so k (see m (cutr now P[i].1 P[i].2)) facts n
      · have ho' : okp m k now facts n P[i] = false := ho
        rw [ho', if_neg (by decide), List.append_nil] at htk
        rw [ifb_f, bd_eq, nI_1, ← htk]
        refine ih (i + 1) z cc vv (by omega) (by omega) (fun t a b ht => ?_) (fun t ht => q2 t (by omega))
        rw [htk] at ht
        exact q1 t a b ht
      · have ho' : okp m k now facts n P[i] = true := ho
        rw [ho', if_pos rfl] at htk
        have hlen : ((P.take (i + 1)).filter (okp m k now facts n)).length = ((P.take i).filter (okp m k now facts n)).length + 1 := by rw [htk, List.length_append, List.length_singleton]
        rw [ifb_t, gd_t (inB_nI (by omega) (by decide)), gd_t (inB_nI (by omega) (by decide)), bd_eq, gd_t (inB_nI (by omega) (by decide)), gd_t (inB_nI (by omega) (by decide)), bd_eq, bd_eq, bd_eq, nI_1, nI_1, nI_N (by omega), (q2 i (Nat.le_refl i)).1, ← hlen]
        refine ih (i + 1) z _ _ (by omega) (by omega) (fun t a b ht => ?_) (fun t ht => ?_)
        · rw [htk] at ht
          rcases get_app ht with ⟨g1, g2⟩ | ⟨g1, g2⟩
          · rw [pk_un (by omega), pk_uLn (by omega)]
            exact q1 t a b g2
          · subst g1
            rw [pk_us, pk_uLs]
            have ea : a = P[i].1 := congrArg Prod.fst g2
            have eb : b = P[i].2 := congrArg Prod.snd g2
            rw [ea, eb]
            exact ⟨w1, w2⟩
        · rw [pk_un (by omega), pk_uLn (by omega)]
          exact q2 t (by omega)
  obtain ⟨cc, vv, e, h⟩ := key P.length 0 500 codes views (by omega) (by omega) (fun t a b ht => by cases ht) (fun t _ => ⟨rfl, rfl⟩)
  have e : fX6_dropUnfit_L1 (nI P.length) ment seen unseen (b1 k - 1) 500 0 0 codes views = _ := e
  refine ⟨cc, vv, ?_, h⟩
  unfold fX6_dropUnfit
  rw [e, bs]
theorem fill {f : Nat → Int32} {m k : Nat} (hm : m ≤ 6) (hk : k ≤ 8) (h0 : f 0 = nI m) (h1 : f 1 = nI k) (hP : RwP f m k) {q : Nat} (hq : q < 15) (views : Nat → Int32) :
    ∃ v', fX8_findWhich_L3 (nI q) f 500 0 views = some (nI 8, v') ∧ (∀ h, h < 8 → v' (8 * q + h) = if h < k then srow m k f h else 0) ∧ ∀ x, x < 8 * q → v' x = views x := by
  obtain ⟨w', e1, e2, e3⟩ := cle 8 (fun fu (w : Nat → Int32) i => fX8_findWhich_L3 (nI q) f fu (nI i) w) (fun w h => upd w (8 * q + h) (if h < k then srow m k f h else 0)) (fun w => (nI 8, w)) (fun w i => (∀ h, h < i → w (8 * q + h) = if h < k then srow m k f h else 0) ∧ ∀ x, x < 8 * q → w x = views x)
    (by intro fu s _
        show fX8_findWhich_L3 (nI q) f (fu + 1) (nI 8) s = _
        rw [fX8_findWhich_L3.eq_2, if_pos (by decide)])
    (by intro fu s i hi hs
        show fX8_findWhich_L3 (nI q) f (fu + 1) (nI i) s = fX8_findWhich_L3 (nI q) f fu (nI (i + 1)) _ ∧ _
        have ix : 8 * nI q + nI i = nI (8 * q + i) := by rw [l8, pk_mul, nI_add]
        refine ⟨?_, fun h hh => ?_, fun x hx => by rw [pk_un (by omega)]; exact hs.2 x hx⟩
        · rw [fX8_findWhich_L3.eq_2, l8, if_neg (nI_ge hi (by decide)), gd_t (by decide), z1N, h1, ← l8, ix, gd_t (inB_nI (by omega) (by decide)), nI_N (by omega)]
          by_cases hik : i < k
          · rw [if_neg (nI_ge hik (by omega)), X8_seesOf hm hk h0 h1 hP hik, bs, gd_t (inB_nI (by omega) (by decide)), bd_eq, bd_eq, nI_1, if_pos hik]
          · rw [if_pos (nI_le (by omega) (by omega)), bd_eq, bd_eq, nI_1, if_neg hik]
        · by_cases hx : h = i
          · subst hx; rw [pk_us]
          · rw [pk_un (by omega)]; exact hs.1 h (by omega))
    views 500 (by omega) ⟨fun h hh => by omega, fun _ _ => rfl⟩
  have e1 : fX8_findWhich_L3 (nI q) f 500 0 views = _ := e1
  exact ⟨w', e1, e2, e3⟩
theorem findWhich {now : Nat → Int32} {m k : Nat} (hI : Inv now m k) {size ment : Int32} {seen unseen : Int64} {facts : Nat → Int32} {n : Nat} (hC : RC size ment seen unseen facts (nI n)) (hn6 : n ≤ 6) (which views : Nat → Int32) :
    ∃ f w' v', fX8_findWhich now facts (nI n) which views = some (f, w', v', nI ((ups m (UPr now)).filter (okp m k now facts n)).length) ∧ QM now (ups m (UPr now)) f ∧
      ∀ i a b, ((ups m (UPr now)).filter (okp m k now facts n))[i]? = some (a, b) → w' i = nI (10 * a + b) ∧ ∀ g h, g < k → h < k → bt (v' (8 * i + g)) h = see m (cutr now a b) g h := by
  obtain ⟨⟨h0, h1, hm, hk, h2⟩, -, -, hP, -⟩ := id hI
  obtain ⟨s', e, q1, q2, q3⟩ := pairs_inv hm (UPr now) (fun (s : (Nat → Int32) × (Nat → Int32) × (Nat → Int32) × Int32) l => QM now l s.1 ∧ s.2.2.2 = nI (l.filter (okp m k now facts n)).length ∧ ∀ i a b, (l.filter (okp m k now facts n))[i]? = some (a, b) → s.2.1 i = nI (10 * a + b) ∧ ∀ g h, g < k → h < k → bt (s.2.2.1 (8 * i + g)) h = see m (cutr now a b) g h)
    (fun fu s a => fX8_findWhich_L1 facts (nI n) fu (nI a) s.1 s.2.1 s.2.2.1 s.2.2.2)
    (fun a fu s b => fX8_findWhich_L2 facts (nI n) (nI a) fu (nI b) s.1 s.2.1 s.2.2.1 s.2.2.2)
    (fun s => (nI m, s.1, s.2.1, s.2.2.1, s.2.2.2)) (fun s => (nI m, s.1, s.2.1, s.2.2.1, s.2.2.2))
    (by intro fu s l hQ
        show fX8_findWhich_L1 _ _ (fu + 1) (nI m) _ _ _ _ = _
        rw [fX8_findWhich_L1.eq_2, gd_t (by decide), z0N, hQ.1.1 0 (by omega), h0, if_pos (nI_le (Nat.le_refl m) (by omega))])
    (by intro fu s l a s' l' ha hQ _ e
        show fX8_findWhich_L1 _ _ (fu + 1) (nI a) _ _ _ _ = fX8_findWhich_L1 _ _ fu (nI (a + 1)) _ _ _ _
        have e : fX8_findWhich_L2 facts (nI n) (nI a) 500 (nI (a + 1)) s.1 s.2.1 s.2.2.1 s.2.2.2 = _ := e
        rw [fX8_findWhich_L1.eq_2, gd_t (by decide), z0N, hQ.1.1 0 (by omega), h0, if_neg (nI_ge ha (by omega)), bd_eq, nI_1, e, bs, bd_eq])
    (by intro a fu s l hQ
        show fX8_findWhich_L2 _ _ (nI a) (fu + 1) (nI m) _ _ _ _ = _
        rw [fX8_findWhich_L2.eq_2, gd_t (by decide), z0N, hQ.1.1 0 (by omega), h0, if_pos (nI_le (Nat.le_refl m) (by omega))])
    (by intro a b fu s l hab hb hQ hbt
        show fX8_findWhich_L2 _ _ (nI a) (fu + 1) (nI b) _ _ _ _ = fX8_findWhich_L2 _ _ (nI a) fu (nI (b + 1)) _ _ _ _
        rw [fX8_findWhich_L2.eq_2, gd_t (by decide), z0N, hQ.1.1 0 (by omega), h0, if_neg (nI_ge hb (by omega)), X8_isUp (by omega) (by omega), bs, hQ.1.2.1 a (by omega), show bt (now (35 + a)) b = false from hbt, ifb_f, bd_eq, nI_1])
    (by intro a b fu s l hab hb hQ hl hbt
        obtain ⟨q3, q4, q5⟩ := hQ
        obtain ⟨up1, cl1, g1, up2, cl2, g2, a1, a2, a3, a4, a5, a6, a7, a8, a9, a10, a11⟩ := trial hI q3 (up := fun c => s.1 (35 + c)) (cl := fun c => s.1 (41 + c)) (fun _ _ => rfl) (fun _ _ => rfl) (show a < m by omega) hb (by omega) hbt
        have hsc : ∀ g x, g < k → x < k → see m g1 g x = see m (cutr now a b) g x := fun g x hg hx => see_cut hm hk (by omega) hb hP a10 a11 hg hx
        have hso := X8_isSo hC hn6 a9
        rw [so_cg hsc] at hso
        have hfl := filt_len l (okp m k now facts n)
        have hfa : (l ++ [(a, b)]).filter (okp m k now facts n) = l.filter (okp m k now facts n) ++ (if okp m k now facts n (a, b) then [(a, b)] else []) := by
          rw [List.filter_append, List.filter_cons, List.filter_nil]
        cases ho : so k (see m (cutr now a b)) facts n
        · have ho' : okp m k now facts n (a, b) = false := ho
          rw [ho', if_neg (by decide), List.append_nil] at hfa
          refine ⟨(g2, s.2.1, s.2.2.1, s.2.2.2), ?_, a8, by rw [hfa]; exact q4, by rw [hfa]; exact q5⟩
          show fX8_findWhich_L2 _ _ (nI a) (fu + 1) (nI b) _ _ _ _ = fX8_findWhich_L2 _ _ (nI a) fu (nI (b + 1)) _ _ _ _
          rw [fX8_findWhich_L2.eq_2, gd_t (by decide), z0N, q3.1 0 (by omega), h0, if_neg (nI_ge hb (by omega)), X8_isUp (by omega) (by omega), bs, q3.2.1 a (by omega), show bt (now (35 + a)) b = true from hbt, ifb_t, a2, bs, hso, bs, ho, ifb_f, a5, bs, bd_eq, nI_1]
        · have ho' : okp m k now facts n (a, b) = true := ho
          rw [ho', if_pos rfl] at hfa
          obtain ⟨v', f1, f2, f3⟩ := fill hm hk a9.1.1 a9.1.2.1 a9.2.2.2.1 (q := (l.filter (okp m k now facts n)).length) (by omega) s.2.2.1
          refine ⟨(g2, upd s.2.1 (l.filter (okp m k now facts n)).length (nI (10 * a + b)), v', nI ((l.filter (okp m k now facts n)).length + 1)), ?_, a8, by rw [hfa, List.length_append, List.length_singleton], fun i c d hi => ?_⟩
          · show fX8_findWhich_L2 _ _ (nI a) (fu + 1) (nI b) _ _ _ _ = fX8_findWhich_L2 _ _ (nI a) fu (nI (b + 1)) _ _ _ _
            rw [fX8_findWhich_L2.eq_2, gd_t (by decide), z0N, q3.1 0 (by omega), h0, if_neg (nI_ge hb (by omega)), X8_isUp (by omega) (by omega), bs, q3.2.1 a (by omega), show bt (now (35 + a)) b = true from hbt, ifb_t, a2, bs, hso, bs, ho, ifb_t, q4, gd_t (inB_nI (by omega) (by decide)), bd_eq, f1, bs, bd_eq, a5, bs, bd_eq, nI_1, nI_1, nI_N (by omega), l10, pk_mul, nI_add]
          · rw [hfa] at hi
            rcases get_app hi with ⟨g1', g2'⟩ | ⟨g1', g2'⟩
            · obtain ⟨w1, w2⟩ := q5 i c d g2'
              refine ⟨?_, fun g h hg hh => ?_⟩
              · show upd s.2.1 _ _ i = _
                rw [pk_un (by omega)]; exact w1
              · show bt (v' (8 * i + g)) h = _
                rw [f3 _ (by omega)]; exact w2 g h hg hh
            · subst g1'
              cases g2'
              refine ⟨?_, fun g h hg hh => ?_⟩
              · show upd s.2.1 _ _ _ = _
                rw [pk_us]
              · show bt (v' _) h = _
                rw [f2 g (by omega), if_pos hg, bt_srow hk, decide_eq_true hh, Bool.true_and, hsc g h hg hh])
    (now, which, views, 0) ⟨QM_0 now, rfl, fun i a b hi => by cases hi⟩
  have e : fX8_findWhich_L1 facts (nI n) 500 0 now which views 0 = _ := e
  refine ⟨s'.1, s'.2.1, s'.2.2.1, ?_, q1, q3⟩
  unfold fX8_findWhich
  rw [e, bs, q2]
theorem op_which {sw hw re : Int32} {pr na wa bl up cl zo pl no ne : Nat → Int32} {now qc : Nat → Int32} {qv : Nat → Int64} {qs : Int32} {which views : Nat → Int32} {many : Int32} {size ment : Int32} {seen unseen : Int64} {facts : Nat → Int32} {sn : Int32} (hN : NR (sw, hw, re, pr, na, wa, bl, up, cl, zo, pl, no, ne) now) (hC : RC size ment seen unseen facts sn) (p1 : Int32) :
    ∃ z7 z8, fX7_which sw hw up cl zo pl ment seen unseen qc qv qs p1 = some z7 ∧ fX8_which now facts sn which views many p1 = some z8 ∧ z7.1 = z8.1 ∧ NR (sw, hw, re, pr, na, wa, bl, z7.2.1, z7.2.2.1, zo, pl, no, ne) z8.2.1 := by
  obtain ⟨m, k, hI, hR⟩ := id hN
  obtain ⟨⟨h0, h1, hm, hk, h2⟩, hD, hNm, hP, ⟨uB, uS, uI, uZ⟩, ⟨cB, cS, cI, cZ⟩, hZ, hU⟩ := id hI
  obtain ⟨r1, r2, r3, r4, r5, r6, r7, r8, r9, r10, r11, r12, r13⟩ := id hR
  obtain rfl : sw = nI m := r1
  obtain rfl : hw = nI k := r2
  have r3 : re = now 2 := r3
  have r4 : ∀ a, a < m → pr a = now (3 + 4 * a) := r4
  have r5 : ∀ a, a < m → na a = now (4 + 4 * a) := r5
  have r6 : ∀ a, a < m → wa a = now (5 + 4 * a) := r6
  have r7 : ∀ a, a < m → bl a = now (6 + 4 * a) := r7
  have r8 : ∀ a, a < m → up a = now (35 + a) := r8
  have r9 : ∀ a, a < m → cl a = now (41 + a) := r9
  have r10 : ∀ a, a < m → ∀ z, z < 4 → zo (4 * a + z) = now (47 + 4 * a + z) := r10
  have r11 : ∀ h, h < k → pl h = now (27 + h) := r11
  have r12 : ∀ h, h < k → no h = now (71 + h) := r12
  have r13 : ∀ h, h < k → ne h = now (79 + h) := r13
  obtain ⟨n, hn6, -, rfl, -⟩ := id hC
  unfold fX7_which fX8_which
  rcases in_cases p1 0 1 with ⟨e3, b1', b2'⟩ | ⟨e3, hb⟩
  · obtain ⟨codes', views', up', cl', f7, c1, c2, c3, c4, c5⟩ := cutEach hI r8 r9 r10 r11 qc qv
    have hlen := ups_len hm (UPr now)
    obtain ⟨cc, vv, x1, x2⟩ := dropUnfit (now := now) (m := m) hk hC hn6 hlen c5
    obtain ⟨f8, w', v', d1, d2, d3⟩ := findWhich hI hC hn6 which views
    have hNR : NR (nI m, nI k, re, pr, na, wa, bl, up', cl', zo, pl, no, ne) f8 := ⟨m, k, QM_inv hI d2, QM_RN hm hk hR c2 d2 c3 c4⟩
    have hfl := filt_len (ups m (UPr now)) (okp m k now facts n)
    rw [e3, bs, if10, if_neg (ge_nlt b1'), if_pos b2', c1, bs, show fX3_everyHost (nI k) = some (b1 k - 1) from rfl, bs, x1, bs, d1, bs]
    generalize hQ : (ups m (UPr now)).filter (okp m k now facts n) = Q at *
    unfold fX6_size
    rw [bs, bs]
    by_cases hp : p1 = 0
    · rw [if_pos hp, if_pos hp]; exact ⟨_, _, rfl, rfl, rfl, hNR⟩
    · rw [if_neg hp, if_neg hp]
      by_cases hq0 : Q.length = 0
      · rw [hq0, if_pos (show nI 0 = 0 from rfl), if_pos (show nI 0 = 0 from rfl)]; exact ⟨_, _, rfl, rfl, rfl, hNR⟩
      · have hg : Q[0]? = some Q[0] := List.getElem?_eq_getElem (by omega)
        have hcode : fX6_codeAt cc (nI Q.length) 0 = some (nI (10 * Q[0].1 + Q[0].2)) := by
          unfold fX6_codeAt
          rw [if_neg (show ¬ (0 : Int32) < 0 from by decide), if_neg (nI_nle (by omega) (by omega)), gd_t (by decide), z0N, (x2 0 Q[0].1 Q[0].2 hg).1]
        have hne : ¬ nI Q.length = 0 := nI_ne0 (by omega) (by omega)
        rw [if_neg hne, if_neg hne, hcode, bs, gd_t (by decide), z0N]
        exact ⟨_, _, rfl, rfl, (d3 0 Q[0].1 Q[0].2 hg).1.symm, hNR⟩
  · rw [e3, bs, if00]
    refine ⟨((-1), up, cl, qc, qv, qs), _, ?_, rfl, rfl, hN⟩
    by_cases h3 : p1 < 0
    · rw [if_pos h3]
    · rw [if_neg h3, if_neg (lt_nle (hb.resolve_left h3))]
/-- whether the i-th sees -/
def Tq (m : Nat) (now : Nat → Int32) (Q : List (Nat × Nat)) (i g h : Nat) : Bool := match Q[i]? with | some p => see m (cutr now p.1 p.2) g h | none => false
def cq (m : Nat) (now : Nat → Int32) (Q : List (Nat × Nat)) (g h : Nat) : Nat := fb_ct (fun i => Tq m now Q i g h) Q.length
def vq (m : Nat) (now : Nat → Int32) (Q : List (Nat × Nat)) (g h : Nat) : Nat := if cq m now Q g h ≤ Q.length - cq m now Q g h then Q.length - cq m now Q g h else cq m now Q g h
theorem cq_le (m : Nat) (now : Nat → Int32) (Q : List (Nat × Nat)) (g h : Nat) : cq m now Q g h ≤ Q.length := fb_ct_le _ _
theorem Tq_at {m : Nat} {now : Nat → Int32} {Q : List (Nat × Nat)} {i g h : Nat} (hi : i < Q.length) : ∃ a b, Q[i]? = some (a, b) ∧ Tq m now Q i g h = see m (cutr now a b) g h := by
  have hg : Q[i]? = some Q[i] := List.getElem?_eq_getElem hi
  refine ⟨Q[i].1, Q[i].2, hg, ?_⟩
  unfold Tq
  rw [hg]
theorem mostAlike {m k : Nat} (hk : k ≤ 8) {now : Nat → Int32} {Q : List (Nat × Nat)} (hQ : Q.length ≤ 15) {vv : Nat → Int64} (hv : ∀ i a b, Q[i]? = some (a, b) → IsV m k (cutr now a b) (vv i)) {g h : Nat} (hg : g < k) (hh : h < k) : fX6_mostAlike vv (nI Q.length) (vb g h) = some (nI (vq m now Q g h)) := by
  obtain ⟨w', e1, e2⟩ := cle Q.length (fun fu (w : Int32) i => fX6_mostAlike_L1 vv (nI Q.length) (vb g h) fu w (nI i)) (fun w i => if Tq m now Q i g h then w + 1 else w) (fun w => (w, nI Q.length)) (fun w i => w = nI (fb_ct (fun i => Tq m now Q i g h) i))
    (by intro fu s _
        show fX6_mostAlike_L1 vv (nI Q.length) (vb g h) (fu + 1) s (nI Q.length) = _
        rw [fX6_mostAlike_L1.eq_2, if_pos (nI_le (Nat.le_refl _) (by omega))])
    (by intro fu s i hi hs
        show fX6_mostAlike_L1 vv (nI Q.length) (vb g h) (fu + 1) s (nI i) = fX6_mostAlike_L1 vv (nI Q.length) (vb g h) fu _ (nI (i + 1)) ∧ _
        obtain ⟨a, b, ei, et⟩ := Tq_at (m := m) (now := now) (g := g) (h := h) hi
        have hbit : (vv i &&& vb g h = 0) ↔ Tq m now Q i g h = false := by
          have hb := hv i a b ei g h (by omega) (by omega)
          rw [decide_eq_true hg, decide_eq_true hh, Bool.true_and, Bool.true_and] at hb
          rw [et, ← hb]
          constructor
          · intro e
            have := congrArg (fun z => bL z (8 * g + h)) e
            simp only [L_and, L_0, L_vb (show g < 8 by omega) (show h < 8 by omega) (show 8 * g + h < 64 by omega), decide_true, Bool.and_true] at this
            exact this
          · intro e
            refine L_ext (fun x hx => ?_)
            rw [L_and, L_0, L_vb (by omega) (by omega) hx]
            by_cases hq : x = 8 * g + h
            · rw [hq, e, Bool.false_and]
            · rw [decide_eq_false hq, Bool.and_false]
        rw [fX6_mostAlike_L1.eq_2, if_neg (nI_ge hi (by omega)), gd_t (inB_nI (by omega) (by decide)), nI_N (by omega)]
        simp only [lg_eq]
        rw [fb_ct_succ]
        cases ht : Tq m now Q i g h
        · rw [if_pos (hbit.mpr ht), bd_eq, nI_1]
          exact ⟨rfl, hs⟩
        · rw [if_neg (fun e => by rw [hbit.mp e] at ht; cases ht), bd_eq, bd_eq, nI_1]
          exact ⟨rfl, by rw [if_pos rfl, hs, nI_1]; rfl⟩)
    0 500 (by omega) rfl
  have e1 : fX6_mostAlike_L1 vv (nI Q.length) (vb g h) 500 0 0 = _ := e1
  have hle := cq_le m now Q g h
  unfold fX6_mostAlike
  rw [e1, bs, e2]
  show some (if nI (cq m now Q g h) < nI Q.length - nI (cq m now Q g h) then nI Q.length - nI (cq m now Q g h) else nI (cq m now Q g h)) = _
  rw [pk_sub hle]
  unfold vq
  by_cases hq : cq m now Q g h ≤ Q.length - cq m now Q g h
  · rw [if_pos hq]
    by_cases hq2 : cq m now Q g h < Q.length - cq m now Q g h
    · rw [if_pos (nI_lt hq2 (by omega))]
    · rw [if_neg (nI_nlt (by omega) (by omega))]
      exact congrArg (fun z => some (nI z)) (by omega)
  · rw [if_neg hq, if_neg (nI_nlt (by omega) (by omega))]
def stq (m : Nat) (now : Nat → Int32) (Q : List (Nat × Nat)) (g : Nat) (s : Int32 × Int32) (h : Nat) : Int32 × Int32 := if s.2 ≤ nI (vq m now Q g h) then s else (nI (10 * g + h), nI (vq m now Q g h))
def inq (m k : Nat) (now : Nat → Int32) (Q : List (Nat × Nat)) (s : Int32 × Int32) (g : Nat) : Int32 × Int32 := (List.range' (g + 1) (k - (g + 1))).foldl (stq m now Q g) s
theorem bestQuestion {m k : Nat} (hk : k ≤ 8) {now : Nat → Int32} {Q : List (Nat × Nat)} (hQ : Q.length ≤ 15) {vv : Nat → Int64} (hv : ∀ i a b, Q[i]? = some (a, b) → IsV m k (cutr now a b) (vv i)) : fX6_bestQuestion vv (nI Q.length) (nI k) = some ((List.range k).foldl (inq m k now Q) (-9, nI (Q.length + 1))).1 := by
  have inner : ∀ (g : Nat), g < k → ∀ s : Int32 × Int32, fX6_bestQuestion_L2 vv (nI Q.length) (nI k) (nI g) 500 s.1 s.2 (nI (g + 1)) = some ((inq m k now Q s g).1, (inq m k now Q s g).2, nI k) := by
    intro g hg s
    have h := (cl k (fun fu (w : Int32 × Int32) i => if g < i then fX6_bestQuestion_L2 vv (nI Q.length) (nI k) (nI g) fu w.1 w.2 (nI i) else none) (stq m now Q g) (fun w => (w.1, w.2, nI k)) (fun _ i => g < i)
      (by intro fu s hp
          show (if g < k then fX6_bestQuestion_L2 vv (nI Q.length) (nI k) (nI g) (fu + 1) s.1 s.2 (nI k) else none) = _
          rw [if_pos hg, fX6_bestQuestion_L2.eq_2, if_pos (nI_le (Nat.le_refl k) (by omega))])
      (by intro fu s i hi hp
          show (if g < i then fX6_bestQuestion_L2 vv (nI Q.length) (nI k) (nI g) (fu + 1) s.1 s.2 (nI i) else none) = (if g < i + 1 then fX6_bestQuestion_L2 vv (nI Q.length) (nI k) (nI g) fu _ _ (nI (i + 1)) else none) ∧ _
          refine ⟨?_, by omega⟩
          rw [if_pos hp, if_pos (show g < i + 1 by omega), fX6_bestQuestion_L2.eq_2, if_neg (nI_ge hi (by omega)), X7_viewBit, bs, mostAlike hk hQ hv hg hi, bs]
          unfold stq
          by_cases hq : s.2 ≤ nI (vq m now Q g i)
          · rw [if_pos hq, bd_eq, nI_1, if_pos hq]
          · rw [if_neg hq, bd_eq, bd_eq, nI_1, if_neg hq, l10, pk_mul, nI_add])
      (k - (g + 1)) (g + 1) s 500 (by omega) (by omega) (by omega)).1
    have h : (if g < g + 1 then fX6_bestQuestion_L2 vv (nI Q.length) (nI k) (nI g) 500 s.1 s.2 (nI (g + 1)) else none) = _ := h
    rw [if_pos (by omega)] at h
    exact h
  have h := cl1 k (fun fu (w : Int32 × Int32) i => fX6_bestQuestion_L1 vv (nI Q.length) (nI k) fu w.1 w.2 (nI i)) (inq m k now Q) (fun w => (w.1, w.2, nI k))
    (by intro fu s
        show fX6_bestQuestion_L1 vv (nI Q.length) (nI k) (fu + 1) s.1 s.2 (nI k) = _
        rw [fX6_bestQuestion_L1.eq_2, if_pos (nI_le (Nat.le_refl k) (by omega))])
    (by intro fu s i hi
        show fX6_bestQuestion_L1 vv (nI Q.length) (nI k) (fu + 1) s.1 s.2 (nI i) = fX6_bestQuestion_L1 vv (nI Q.length) (nI k) fu _ _ (nI (i + 1))
        rw [fX6_bestQuestion_L1.eq_2, if_neg (nI_ge hi (by omega)), bd_eq, nI_1, inner i hi s, bs, bd_eq])
    (-9, nI (Q.length + 1)) 500 (by omega)
  have h : fX6_bestQuestion_L1 vv (nI Q.length) (nI k) 500 (-9) (nI (Q.length + 1)) 0 = _ := h
  unfold fX6_bestQuestion
  rw [bd_eq, nI_1, h, bs]
theorem ask_L3 {m k : Nat} (hk : k ≤ 8) {now f w' v' : Nat → Int32} {Q : List (Nat × Nat)} (hQ : Q.length ≤ 15) (hv : ∀ i a b, Q[i]? = some (a, b) → ∀ g h, g < k → h < k → bt (v' (8 * i + g)) h = see m (cutr now a b) g h) {g h : Nat} (hg : g < k) (hh : h < k) : fX8_ask_L3 (f, w', v', nI Q.length) (nI g) (nI h) 500 0 0 = some (nI (cq m now Q g h), nI Q.length) := by
  obtain ⟨w, e1, e2⟩ := cle Q.length (fun fu (w : Int32) i => fX8_ask_L3 (f, w', v', nI Q.length) (nI g) (nI h) fu w (nI i)) (fun w i => if Tq m now Q i g h then w + 1 else w) (fun w => (w, nI Q.length)) (fun w i => w = nI (fb_ct (fun i => Tq m now Q i g h) i))
    (by intro fu s _
        show fX8_ask_L3 (f, w', v', nI Q.length) (nI g) (nI h) (fu + 1) s (nI Q.length) = _
        rw [fX8_ask_L3.eq_2, if_pos (nI_le (Nat.le_refl _) (by omega))])
    (by intro fu s i hi hs
        show fX8_ask_L3 (f, w', v', nI Q.length) (nI g) (nI h) (fu + 1) s (nI i) = fX8_ask_L3 (f, w', v', nI Q.length) (nI g) (nI h) fu _ (nI (i + 1)) ∧ _
        obtain ⟨a, b, ei, et⟩ := Tq_at (m := m) (now := now) (g := g) (h := h) hi
        have ix : 8 * nI i + nI g = nI (8 * i + g) := by rw [l8, pk_mul, nI_add]
        rw [fX8_ask_L3.eq_2, if_neg (nI_ge hi (by omega)), ix, gd_t (inB_nI (by omega) (by decide)), nI_N (by omega), X8_has (by omega), bs, hv i a b ei g h hg hh, ← et, fb_ct_succ]
        cases ht : Tq m now Q i g h
        · rw [ifb_f, bd_eq, bd_eq, nI_1, addz]
          exact ⟨rfl, hs⟩
        · rw [ifb_t, bd_eq, bd_eq, nI_1]
          exact ⟨rfl, by rw [if_pos rfl, hs, nI_1]; rfl⟩)
    0 500 (by omega) rfl
  have e1 : fX8_ask_L3 (f, w', v', nI Q.length) (nI g) (nI h) 500 0 0 = _ := e1
  rw [e1, e2]
  rfl
theorem ask8 {m k : Nat} (hk : k ≤ 8) {now f w' v' : Nat → Int32} (h1 : f 1 = nI k) {Q : List (Nat × Nat)} (hQ : Q.length ≤ 15) (hQ2 : 2 ≤ Q.length) (hv : ∀ i a b, Q[i]? = some (a, b) → ∀ g h, g < k → h < k → bt (v' (8 * i + g)) h = see m (cutr now a b) g h) :
    fX8_ask_L1 (f, w', v', nI Q.length) 500 (-9) (nI (Q.length + 1)) 0 = some (((List.range k).foldl (inq m k now Q) (-9, nI (Q.length + 1))).1, ((List.range k).foldl (inq m k now Q) (-9, nI (Q.length + 1))).2, nI k) := by
  have inner : ∀ (g : Nat), g < k → ∀ s : Int32 × Int32, fX8_ask_L2 (f, w', v', nI Q.length) (nI g) 500 s.1 s.2 (nI (g + 1)) = some ((inq m k now Q s g).1, (inq m k now Q s g).2, nI k) := by
    intro g hg s
    have h := (cl k (fun fu (w : Int32 × Int32) i => if g < i then fX8_ask_L2 (f, w', v', nI Q.length) (nI g) fu w.1 w.2 (nI i) else none) (stq m now Q g) (fun w => (w.1, w.2, nI k)) (fun _ i => g < i)
      (by intro fu s hp
          show (if g < k then fX8_ask_L2 (f, w', v', nI Q.length) (nI g) (fu + 1) s.1 s.2 (nI k) else none) = _
          rw [if_pos hg, fX8_ask_L2.eq_2, gd_t (by decide)]
          show (if f (1 : Int32).toNatClampNeg ≤ nI k then _ else _) = _
          rw [z1N, h1, if_pos (nI_le (Nat.le_refl k) (by omega))])
      (by intro fu s i hi hp
          show (if g < i then fX8_ask_L2 (f, w', v', nI Q.length) (nI g) (fu + 1) s.1 s.2 (nI i) else none) = (if g < i + 1 then fX8_ask_L2 (f, w', v', nI Q.length) (nI g) fu _ _ (nI (i + 1)) else none) ∧ _
          refine ⟨?_, by omega⟩
          have hle := cq_le m now Q g i
          rw [if_pos hp, if_pos (show g < i + 1 by omega), fX8_ask_L2.eq_2, gd_t (by decide)]
          show (if f (1 : Int32).toNatClampNeg ≤ nI i then _ else _) = _
          rw [z1N, h1, if_neg (nI_ge hi (by omega)), ask_L3 hk hQ hv hg hi, bs]
          show (if nI (cq m now Q g i) ≤ nI Q.length - nI (cq m now Q g i) then bd (nI Q.length - nI (cq m now Q g i)) _ else _) = _
          rw [pk_sub hle, l10, pk_mul, nI_add]
          unfold stq vq
          by_cases hq : cq m now Q g i ≤ Q.length - cq m now Q g i
          · rw [if_pos hq, if_pos (nI_le hq (by omega)), bd_eq]
            by_cases hs : s.2 ≤ nI (Q.length - cq m now Q g i)
            · rw [if_pos hs, if_pos hs, bd_eq, nI_1, if_pos hs]
            · rw [if_neg hs, bd_eq, if_neg hs, bd_eq, nI_1, if_neg hs]
          · rw [if_neg hq, if_neg (nI_ge (by omega) (by omega))]
            by_cases hs : s.2 ≤ nI (cq m now Q g i)
            · rw [if_pos hs, if_pos hs, bd_eq, nI_1, if_pos hs]
            · rw [if_neg hs, bd_eq, if_neg hs, bd_eq, nI_1, if_neg hs])
      (k - (g + 1)) (g + 1) s 500 (by omega) (by omega) (by omega)).1
    have h : (if g < g + 1 then fX8_ask_L2 (f, w', v', nI Q.length) (nI g) 500 s.1 s.2 (nI (g + 1)) else none) = _ := h
    rw [if_pos (by omega)] at h
    exact h
  have h := cl1 k (fun fu (w : Int32 × Int32) i => fX8_ask_L1 (f, w', v', nI Q.length) fu w.1 w.2 (nI i)) (inq m k now Q) (fun w => (w.1, w.2, nI k))
    (by intro fu s
        show fX8_ask_L1 (f, w', v', nI Q.length) (fu + 1) s.1 s.2 (nI k) = _
        rw [fX8_ask_L1.eq_2, gd_t (by decide)]
        show (if f (1 : Int32).toNatClampNeg ≤ nI k then _ else _) = _
        rw [z1N, h1, if_pos (nI_le (Nat.le_refl k) (by omega))])
    (by intro fu s i hi
        show fX8_ask_L1 (f, w', v', nI Q.length) (fu + 1) s.1 s.2 (nI i) = fX8_ask_L1 (f, w', v', nI Q.length) fu _ _ (nI (i + 1))
        rw [fX8_ask_L1.eq_2, gd_t (by decide)]
        show (if f (1 : Int32).toNatClampNeg ≤ nI i then _ else if nI Q.length ≤ 1 then _ else _) = _
        rw [z1N, h1, if_neg (nI_ge hi (by omega)), if_neg (show ¬ nI Q.length ≤ 1 from nI_ge (a := 1) (by omega) (by omega)), bd_eq, nI_1, inner i hi s, bs, bd_eq])
    (-9, nI (Q.length + 1)) 500 (by omega)
  exact h
theorem op_ask {sw hw re : Int32} {pr na wa bl up cl zo pl no ne : Nat → Int32} {now qc : Nat → Int32} {qv : Nat → Int64} {which views : Nat → Int32} {size ment : Int32} {seen unseen : Int64} {facts : Nat → Int32} {sn : Int32} (hN : NR (sw, hw, re, pr, na, wa, bl, up, cl, zo, pl, no, ne) now) (hC : RC size ment seen unseen facts sn) :
    ∃ z7 z8, fX7_ask sw hw up cl zo pl ment seen unseen qc qv = some z7 ∧ fX8_ask now facts sn which views = some z8 ∧ z7.1 = z8.1 ∧ NR (sw, hw, re, pr, na, wa, bl, z7.2.1, z7.2.2.1, zo, pl, no, ne) z8.2.1 := by
  obtain ⟨m, k, hI, hR⟩ := id hN
  obtain ⟨⟨h0, h1, hm, hk, h2⟩, hD, hNm, hP, ⟨uB, uS, uI, uZ⟩, ⟨cB, cS, cI, cZ⟩, hZ, hU⟩ := id hI
  obtain ⟨r1, r2, r3, r4, r5, r6, r7, r8, r9, r10, r11, r12, r13⟩ := id hR
  obtain rfl : sw = nI m := r1
  obtain rfl : hw = nI k := r2
  have r3 : re = now 2 := r3
  have r4 : ∀ a, a < m → pr a = now (3 + 4 * a) := r4
  have r5 : ∀ a, a < m → na a = now (4 + 4 * a) := r5
  have r6 : ∀ a, a < m → wa a = now (5 + 4 * a) := r6
  have r7 : ∀ a, a < m → bl a = now (6 + 4 * a) := r7
  have r8 : ∀ a, a < m → up a = now (35 + a) := r8
  have r9 : ∀ a, a < m → cl a = now (41 + a) := r9
  have r10 : ∀ a, a < m → ∀ z, z < 4 → zo (4 * a + z) = now (47 + 4 * a + z) := r10
  have r11 : ∀ h, h < k → pl h = now (27 + h) := r11
  have r12 : ∀ h, h < k → no h = now (71 + h) := r12
  have r13 : ∀ h, h < k → ne h = now (79 + h) := r13
  obtain ⟨n, hn6, -, rfl, -⟩ := id hC
  unfold fX7_ask fX8_ask
  obtain ⟨codes', views', up', cl', f7, c1, c2, c3, c4, c5⟩ := cutEach hI r8 r9 r10 r11 qc qv
  have hlen := ups_len hm (UPr now)
  obtain ⟨cc, vv, x1, x2⟩ := dropUnfit (now := now) (m := m) hk hC hn6 hlen c5
  obtain ⟨f8, w', v', d1, d2, d3⟩ := findWhich hI hC hn6 which views
  have hNR : NR (nI m, nI k, re, pr, na, wa, bl, up', cl', zo, pl, no, ne) f8 := ⟨m, k, QM_inv hI d2, QM_RN hm hk hR c2 d2 c3 c4⟩
  have hfl := filt_len (ups m (UPr now)) (okp m k now facts n)
  have h18 : f8 1 = nI k := by rw [d2.1 1 (by omega)]; exact h1
  rw [c1, bs, show fX3_everyHost (nI k) = some (b1 k - 1) from rfl, bs, x1, bs, d1, bs]
  generalize hQ : (ups m (UPr now)).filter (okp m k now facts n) = Q at *
  unfold fX6_size fX3_hostTotal
  rw [bs, bs, bd_eq]
  by_cases h2' : 2 ≤ Q.length
  · have hB := bestQuestion (m := m) (now := now) hk (by omega : Q.length ≤ 15) (fun i a b hi => (x2 i a b hi).2)
    have hA := ask8 (m := m) (now := now) (w' := w') hk h18 (by omega : Q.length ≤ 15) h2' (fun i a b hi => (d3 i a b hi).2)
    rw [if_pos (show 2 ≤ nI Q.length from nI_le (a := 2) h2' (by omega)), hB, bs, nI_1, hA, bs]
    exact ⟨_, _, rfl, rfl, rfl, hNR⟩
  · have hA : fX8_ask_L1 (f8, w', v', nI Q.length) 500 (-9) (nI (Q.length + 1)) 0 = some (-9, nI (Q.length + 1), 0) := by
      rw [fX8_ask_L1.eq_2, gd_t (by decide)]
      show (if f8 (1 : Int32).toNatClampNeg ≤ 0 then _ else if nI Q.length ≤ 1 then _ else _) = _
      rw [if_pos (show nI Q.length ≤ 1 from nI_le (b := 1) (by omega) (by omega))]
      split <;> rfl
    rw [if_neg (show ¬ 2 ≤ nI Q.length from nI_ge (b := 2) (by omega) (by omega)), nI_1, hA, bs]
    exact ⟨_, _, rfl, rfl, rfl, hNR⟩
