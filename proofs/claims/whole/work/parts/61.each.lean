/-! each link cut once, as the class does it -/
theorem cutEach {now up cl zo pl : Nat → Int32} {m k : Nat} (hI : Inv now m k) (hu : ∀ c, c < m → up c = now (35 + c)) (hc : ∀ c, c < m → cl c = now (41 + c)) (hz0 : ∀ a, a < m → ∀ z, z < 4 → zo (4 * a + z) = now (47 + 4 * a + z)) (hpl : ∀ h, h < k → pl h = now (27 + h)) (codes : Nat → Int32) (views : Nat → Int64) :
    ∃ codes' views' up' cl' f, fX6_cutEach codes views (nI m) (nI k) up cl zo pl = some (codes', views', nI (ups m (UPr now)).length, up', cl') ∧ QM now (ups m (UPr now)) f ∧ (∀ c, c < m → up' c = f (35 + c)) ∧ (∀ c, c < m → cl' c = f (41 + c)) ∧
      ∀ i a b, (ups m (UPr now))[i]? = some (a, b) → codes' i = nI (10 * a + b) ∧ IsV m k (cutr now a b) (views' i) := by
  have hm := hI.1.2.2.1
  have hk := hI.1.2.2.2.1
  have hP := hI.2.2.2.1
  obtain ⟨s', e, q1, q2, f, q3, q4, q5⟩ := pairs_inv hm (UPr now) (fun (s : (Nat → Int32) × (Nat → Int64) × Int32 × (Nat → Int32) × (Nat → Int32)) l => s.2.2.1 = nI l.length ∧ (∀ i a b, l[i]? = some (a, b) → s.1 i = nI (10 * a + b) ∧ IsV m k (cutr now a b) (s.2.1 i)) ∧ ∃ f, QM now l f ∧ (∀ c, c < m → s.2.2.2.1 c = f (35 + c)) ∧ ∀ c, c < m → s.2.2.2.2 c = f (41 + c))
    (fun fu s a => fX6_cutEach_L1 (nI m) (nI k) zo pl fu (nI a) s.1 s.2.1 s.2.2.1 s.2.2.2.1 s.2.2.2.2)
    (fun a fu s b => fX6_cutEach_L2 (nI m) (nI k) zo pl (nI a) fu (nI b) s.1 s.2.1 s.2.2.1 s.2.2.2.1 s.2.2.2.2)
    (fun s => (nI m, s.1, s.2.1, s.2.2.1, s.2.2.2.1, s.2.2.2.2)) (fun s => (nI m, s.1, s.2.1, s.2.2.1, s.2.2.2.1, s.2.2.2.2))
    (by intro fu s l _
        show fX6_cutEach_L1 (nI m) (nI k) zo pl (fu + 1) (nI m) _ _ _ _ _ = _
        rw [fX6_cutEach_L1.eq_2]
        unfold fX3_switchTotal
        rw [bs, if_pos (nI_le (Nat.le_refl m) (by omega))])
    (by intro fu s l a s' l' ha _ _ e
        show fX6_cutEach_L1 (nI m) (nI k) zo pl (fu + 1) (nI a) _ _ _ _ _ = fX6_cutEach_L1 (nI m) (nI k) zo pl fu (nI (a + 1)) _ _ _ _ _
        have e : fX6_cutEach_L2 (nI m) (nI k) zo pl (nI a) 500 (nI (a + 1)) s.1 s.2.1 s.2.2.1 s.2.2.2.1 s.2.2.2.2 = _ := e
        rw [fX6_cutEach_L1.eq_2]
        unfold fX3_switchTotal
        rw [bs, if_neg (nI_ge ha (by omega)), bd_eq, nI_1, e, bs, bd_eq])
    (by intro a fu s l _
        show fX6_cutEach_L2 (nI m) (nI k) zo pl (nI a) (fu + 1) (nI m) _ _ _ _ _ = _
        rw [fX6_cutEach_L2.eq_2]
        unfold fX3_switchTotal
        rw [bs, if_pos (nI_le (Nat.le_refl m) (by omega))])
    (by intro a b fu s l hab hb hQ hbt
        obtain ⟨-, -, f, q3, q4, q5⟩ := hQ
        show fX6_cutEach_L2 (nI m) (nI k) zo pl (nI a) (fu + 1) (nI b) _ _ _ _ _ = fX6_cutEach_L2 (nI m) (nI k) zo pl (nI a) fu (nI (b + 1)) _ _ _ _ _
        rw [fX6_cutEach_L2.eq_2]
        unfold fX3_switchTotal
        rw [bs, if_neg (nI_ge hb (by omega)), X3_isUp hm (by omega) hb (by omega), bs, q4 a (by omega), q3.2.1 a (by omega), show bt (now (35 + a)) b = false from hbt, ifb_f, bd_eq, nI_1])
    (by intro a b fu s l hab hb hQ hl hbt
        obtain ⟨q1, q2, f, q3, q4, q5⟩ := hQ
        obtain ⟨up1, cl1, g1, up2, cl2, g2, a1, a2, a3, a4, a5, a6, a7, a8, a9, a10, a11⟩ := trial hI q3 q4 q5 (show a < m by omega) hb (by omega) hbt
        obtain ⟨V, v1, v2⟩ := X3_view (up := up1) (zo := zo) (pl := pl) hm hk a9.2.2.2.2.1.1 a9.2.2.2.2.1.2.1 a9.2.2.2.1 a9.2.2.2.2.2.2.2 a3 (fun c hc z hz => by rw [a10 _ (by omega)]; exact hz0 c hc z hz) (fun h hh => by rw [a10 _ (by omega)]; exact hpl h hh)
        have hV : IsV m k (cutr now a b) V := IsV_cg hm a9.2.2.2.1 (fun h hh => by rw [cutr_o (by omega) (by omega)]; exact (a10 _ (by omega)).symm) (fun c hc => (a11 c hc).symm) (fun c hc z hz => by rw [cutr_o (by omega) (by omega)]; exact (a10 _ (by omega)).symm) v2
        have hvw : fX3_viewWithout (nI m) (nI k) s.2.2.2.1 s.2.2.2.2 zo pl (nI a) (nI b) = some (V, up2, cl2) := by
          unfold fX3_viewWithout
          rw [a1, bs, v1, bs, a4, bs]
        refine ⟨(upd s.1 l.length (nI (10 * a + b)), vp_updL s.2.1 l.length V, nI (l.length + 1), up2, cl2), ?_, ?_, fun i c d hi => ?_, g2, a8, a6, a7⟩
        · show fX6_cutEach_L2 (nI m) (nI k) zo pl (nI a) (fu + 1) (nI b) _ _ _ _ _ = fX6_cutEach_L2 (nI m) (nI k) zo pl (nI a) fu (nI (b + 1)) _ _ _ _ _
          rw [fX6_cutEach_L2.eq_2]
          unfold fX3_switchTotal
          rw [bs, if_neg (nI_ge hb (by omega)), X3_isUp hm (by omega) hb (by omega), bs, q4 a (by omega), q3.2.1 a (by omega), show bt (now (35 + a)) b = true from hbt, ifb_t, q1, l15, if_neg (nI_ge hl (by decide)), gd_t (inB_nI hl (by decide)), bd_eq, hvw, bs, gd_t (inB_nI hl (by decide)), bd_eq, bd_eq, bd_eq, nI_N (by omega), l10, pk_mul, nI_add, nI_1, nI_1]
        · rw [List.length_append, List.length_singleton]
        · by_cases hq : i < l.length
          · rw [List.getElem?_append_left hq] at hi
            obtain ⟨w1, w2⟩ := q2 i c d hi
            refine ⟨?_, ?_⟩
            · show upd s.1 l.length _ i = _
              rw [pk_un (by omega)]; exact w1
            · show IsV m k _ (vp_updL s.2.1 l.length V i)
              rw [pk_uLn (by omega)]; exact w2
          · rw [List.getElem?_append_right (by omega)] at hi
            have hi0 : i = l.length := by
              rcases Nat.lt_or_ge l.length i with h | h
              · obtain ⟨j, hj⟩ : ∃ j, i - l.length = j + 1 := ⟨i - l.length - 1, by omega⟩
                rw [hj] at hi
                cases hi
              · omega
            subst hi0
            rw [Nat.sub_self] at hi
            cases hi
            refine ⟨?_, ?_⟩
            · show upd s.1 l.length _ l.length = _
              rw [pk_us]
            · show IsV m k _ (vp_updL s.2.1 l.length V l.length)
              rw [pk_uLs]; exact hV)
    (codes, views, 0, up, cl) ⟨rfl, (fun i a b hi => by cases hi), now, QM_0 now, hu, hc⟩
  have e : fX6_cutEach_L1 (nI m) (nI k) zo pl 500 0 codes views 0 up cl = _ := e
  refine ⟨s'.1, s'.2.1, s'.2.2.2.1, s'.2.2.2.2, f, ?_, q3, q4, q5, q2⟩
  unfold fX6_cutEach
  rw [e, bs, q1]
/-- the dearer of two -/
def bst (m k : Nat) (now : Nat → Int32) (o : Option (Nat × Nat)) (p : Nat × Nat) : Option (Nat × Nat) := match o with | none => some p | some q => if ls m k now p ≤ ls m k now q then some q else some p
theorem lostAt {now : Nat → Int32} {m k : Nat} (hI : Inv now m k) {P : List (Nat × Nat)} (hP15 : P.length ≤ 15) {views : Nat → Int64} {V0 : Int64} (hV0 : IsV m k now V0) (hv : ∀ i a b, P[i]? = some (a, b) → IsV m k (cutr now a b) (views i)) {i : Nat} {p : Nat × Nat} (hi : P[i]? = some p) :
    fX6_lostAt views (nI P.length) (nI i) V0 = some (nI (ls m k now p)) := by
  have hk := hI.1.2.2.2.1
  have hil : i < P.length := by
    rw [List.getElem?_eq_some_iff] at hi
    exact hi.1
  have hW : IsS k (fun g x => see m now g x && !see m (cutr now p.1 p.2) g x) (V0 &&& (views i ^^^ (-1))) := by
    intro g h hg hh
    rw [L_and, L_not (by omega), hV0 g h hg hh, hv i p.1 p.2 hi g h hg hh]
    cases decide (g < k) <;> cases decide (h < k) <;> simp
  unfold fX6_lostAt
  rw [if_neg (nI_pos (by omega)), if_neg (nI_ge hil (by omega)), gd_t (inB_nI (by omega) (by decide)), nI_N (by omega), twosOf_gen hk hW, bs]
  rfl
theorem dearest {now : Nat → Int32} {m k : Nat} (hI : Inv now m k) {P : List (Nat × Nat)} (hP15 : P.length ≤ 15) (hP0 : 0 < P.length) {views : Nat → Int64} {V0 : Int64} (hV0 : IsV m k now V0) (hv : ∀ i a b, P[i]? = some (a, b) → IsV m k (cutr now a b) (views i)) :
    ∃ r q, fX6_dearest views (nI P.length) V0 = some (nI r) ∧ r < P.length ∧ P[r]? = some q ∧ P.foldl (bst m k now) none = some q := by
  have hk := hI.1.2.2.2.1
  have key : ∀ (j i r fu : Nat) (q : Nat × Nat), i + j = P.length → j < fu → r < P.length → P[r]? = some q → (P.take i).foldl (bst m k now) none = some q →
      ∃ r' q', fX6_dearest_L1 views (nI P.length) V0 fu (nI r) (nI i) = some (nI r', nI P.length) ∧ r' < P.length ∧ P[r']? = some q' ∧ P.foldl (bst m k now) none = some q' := by
    intro j
    induction j with
    | zero =>
      intro i r fu q hi hf hr hq hb
      obtain ⟨z, rfl⟩ : ∃ z, fu = z + 1 := ⟨fu - 1, by omega⟩
      have : i = P.length := by omega
      subst this
      rw [List.take_length] at hb
      refine ⟨r, q, ?_, hr, hq, hb⟩
      rw [fX6_dearest_L1.eq_2, if_pos (nI_le (Nat.le_refl _) (by omega))]
    | succ j ih =>
      intro i r fu q hi hf hr hq hb
      obtain ⟨z, rfl⟩ : ∃ z, fu = z + 1 := ⟨fu - 1, by omega⟩
      have hil : i < P.length := by omega
      have hp : P[i]? = some P[i] := List.getElem?_eq_getElem hil
      have h1 := ls_le m hk now P[i]
      have h2 := ls_le m hk now q
      have htk : (P.take (i + 1)).foldl (bst m k now) none = bst m k now (some q) P[i] := by
        rw [List.take_succ, hp, List.foldl_append, hb]
        rfl
      rw [fX6_dearest_L1.eq_2, if_neg (nI_ge hil (by omega)), lostAt hI hP15 hV0 hv hp, bs, lostAt hI hP15 hV0 hv hq, bs]
      by_cases hle : ls m k now P[i] ≤ ls m k now q
      · rw [if_pos (nI_le hle (by omega)), bd_eq, nI_1]
        refine ih (i + 1) r z q (by omega) (by omega) hr hq ?_
        rw [htk, bst, if_pos hle]
      · rw [if_neg (nI_ge (by omega) (by omega)), bd_eq, nI_1]
        refine ih (i + 1) i z P[i] (by omega) (by omega) hil hp ?_
        rw [htk, bst, if_neg hle]
  have hp0 : P[0]? = some P[0] := List.getElem?_eq_getElem hP0
  obtain ⟨r, q, e, h1, h2, h3⟩ := key (P.length - 1) 1 0 500 P[0] (by omega) (by omega) hP0 hp0 (by
    rw [List.take_succ, hp0]
    rfl)
  have e : fX6_dearest_L1 views (nI P.length) V0 500 0 1 = _ := e
  refine ⟨r, q, ?_, h1, h2, h3⟩
  unfold fX6_dearest
  rw [e, bs]
def wl (o : Option (Nat × Nat)) : Int32 := match o with | none => -9 | some p => nI (10 * p.1 + p.2)
def wt (m k : Nat) (now : Nat → Int32) (o : Option (Nat × Nat)) : Int32 := match o with | none => -9 | some p => nI (ls m k now p)
theorem nle9 {n : Nat} (h : n < 2 ^ 31) : ¬ nI n ≤ -9 := by
  rw [fa_le, nI_toInt h, show (-9 : Int32).toInt = -9 from by decide]
  omega
theorem findWeakest {now : Nat → Int32} {m k : Nat} (hI : Inv now m k) : ∃ f, fX8_findWeakest now = some (f, wl ((ups m (UPr now)).foldl (bst m k now) none), wt m k now ((ups m (UPr now)).foldl (bst m k now) none)) ∧ QM now (ups m (UPr now)) f := by
  obtain ⟨⟨h0, h1, hm, hk, h2⟩, -, -, hP, -⟩ := id hI
  obtain ⟨s', e, q1, q2⟩ := pairs_inv hm (UPr now) (fun (s : (Nat → Int32) × Option (Nat × Nat)) l => QM now l s.1 ∧ s.2 = l.foldl (bst m k now) none)
    (fun fu s a => fX8_findWeakest_L1 (nI (twoT m k now / 2)) fu (nI a) s.1 (wl s.2) (wt m k now s.2))
    (fun a fu s b => fX8_findWeakest_L2 (nI (twoT m k now / 2)) (nI a) fu (nI b) s.1 (wl s.2) (wt m k now s.2))
    (fun s => (nI m, s.1, wl s.2, wt m k now s.2)) (fun s => (nI m, s.1, wl s.2, wt m k now s.2))
    (by intro fu s l hQ
        show fX8_findWeakest_L1 _ (fu + 1) (nI m) _ _ _ = _
        rw [fX8_findWeakest_L1.eq_2, gd_t (by decide), z0N, hQ.1.1 0 (by omega), h0, if_pos (nI_le (Nat.le_refl m) (by omega))])
    (by intro fu s l a s' l' ha hQ _ e
        show fX8_findWeakest_L1 _ (fu + 1) (nI a) _ _ _ = fX8_findWeakest_L1 _ fu (nI (a + 1)) _ _ _
        have e : fX8_findWeakest_L2 (nI (twoT m k now / 2)) (nI a) 500 (nI (a + 1)) s.1 (wl s.2) (wt m k now s.2) = _ := e
        rw [fX8_findWeakest_L1.eq_2, gd_t (by decide), z0N, hQ.1.1 0 (by omega), h0, if_neg (nI_ge ha (by omega)), bd_eq, nI_1, e, bs, bd_eq])
    (by intro a fu s l hQ
        show fX8_findWeakest_L2 _ (nI a) (fu + 1) (nI m) _ _ _ = _
        rw [fX8_findWeakest_L2.eq_2, gd_t (by decide), z0N, hQ.1.1 0 (by omega), h0, if_pos (nI_le (Nat.le_refl m) (by omega))])
    (by intro a b fu s l hab hb hQ hbt
        show fX8_findWeakest_L2 _ (nI a) (fu + 1) (nI b) _ _ _ = fX8_findWeakest_L2 _ (nI a) fu (nI (b + 1)) _ _ _
        rw [fX8_findWeakest_L2.eq_2, gd_t (by decide), z0N, hQ.1.1 0 (by omega), h0, if_neg (nI_ge hb (by omega)), X8_isUp (by omega) (by omega), bs, hQ.1.2.1 a (by omega), show bt (now (35 + a)) b = false from hbt, ifb_f, bd_eq, nI_1])
    (by intro a b fu s l hab hb hQ hl hbt
        obtain ⟨q3, q4⟩ := hQ
        obtain ⟨up1, cl1, g1, up2, cl2, g2, a1, a2, a3, a4, a5, a6, a7, a8, a9, a10, a11⟩ := trial hI q3 (up := fun c => s.1 (35 + c)) (cl := fun c => s.1 (41 + c)) (fun _ _ => rfl) (fun _ _ => rfl) (show a < m by omega) hb (by omega) hbt
        have hs := ls_sub hI a9 (show a < m by omega) hb (by omega) a10 a11
        have h1' := ls_le m hk now (a, b)
        refine ⟨(g2, bst m k now s.2 (a, b)), ?_, a8, by rw [List.foldl_append, ← q4]; rfl⟩
        show fX8_findWeakest_L2 _ (nI a) (fu + 1) (nI b) _ _ _ = fX8_findWeakest_L2 _ (nI a) fu (nI (b + 1)) _ _ _
        rw [fX8_findWeakest_L2.eq_2, gd_t (by decide), z0N, q3.1 0 (by omega), h0, if_neg (nI_ge hb (by omega)), X8_isUp (by omega) (by omega), bs, q3.2.1 a (by omega), show bt (now (35 + a)) b = true from hbt, ifb_t, a2, bs, X8_twos hm hk a9.1.1 a9.1.2.1 a9.2.2.2.1, bs, bd_eq, hs, a5, bs, l10, pk_mul, nI_add]
        have hcase : ∀ o : Option (Nat × Nat), (nI (ls m k now (a, b)) ≤ wt m k now o ∧ bst m k now o (a, b) = o) ∨ (¬ nI (ls m k now (a, b)) ≤ wt m k now o ∧ bst m k now o (a, b) = some (a, b)) := by
          intro o
          cases o with
          | none => right; exact ⟨nle9 (by omega), rfl⟩
          | some q =>
            have h2' := ls_le m hk now q
            by_cases hle : ls m k now (a, b) ≤ ls m k now q
            · left; exact ⟨nI_le hle (by omega), by rw [bst, if_pos hle]⟩
            · right; exact ⟨nI_ge (by omega) (by omega), by rw [bst, if_neg hle]⟩
        rcases hcase s.2 with ⟨c1, c2⟩ | ⟨c1, c2⟩
        · rw [if_pos c1, if_pos c1, bd_eq, nI_1, c2]
        · rw [if_neg c1, bd_eq, if_neg c1, bd_eq, nI_1, c2]
          rfl)
    (now, none) ⟨QM_0 now, rfl⟩
  have e : fX8_findWeakest_L1 (nI (twoT m k now / 2)) 500 0 now (-9) (-9) = _ := e
  refine ⟨s'.1, ?_, q1⟩
  unfold fX8_findWeakest
  rw [X8_twos hm hk h0 h1 hP, bs, e, bs, q2]
/-- the class's net and the reference's row after the trials -/
theorem QM_RN {now f7 f8 : Nat → Int32} {m k : Nat} {l : List (Nat × Nat)} {sw hw re : Int32} {pr na wa bl up cl zo pl no ne up' cl' : Nat → Int32} (hm : m ≤ 6) (hk : k ≤ 8) (hR : RN (sw, hw, re, pr, na, wa, bl, up, cl, zo, pl, no, ne) now m k) (h7 : QM now l f7) (h8 : QM now l f8) (hu : ∀ c, c < m → up' c = f7 (35 + c)) (hc : ∀ c, c < m → cl' c = f7 (41 + c)) :
    RN (sw, hw, re, pr, na, wa, bl, up', cl', zo, pl, no, ne) f8 m k :=
  RN_lnk hm hk hR h8.1 (fun c hc' => by rw [hu c hc', h7.2.1 c (by omega), h8.2.1 c (by omega)]) (fun c hc' => by
    rw [hc c hc']
    exact b_ext (fun i hi => (h7.2.2 c (by omega) i hi).trans (h8.2.2 c (by omega) i hi).symm))
