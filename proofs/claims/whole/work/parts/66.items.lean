/-! one thing of a text -/
def FLT (L q : Nat) (o : Option ((Int32 × Int32 × Int32 × Int32 × Int32 × Int32 × Int32 × (Nat → Int32) × (Nat → Int32) × (Nat → Int32) × (Nat → Int32) × (Nat → Int32) × (Nat → Int32) × (Nat → Int32) × (Nat → Int32) × (Nat → Int32) × (Nat → Int32)) ⊕ (Int32 × Int32 × Int32 × Int32 × Int32 × T12))) : Prop :=
  (∃ y, o = some (Sum.inl y) ∧ y.1 = nI q) ∨ (q = L ∧ ∃ y, o = some (Sum.inr y) ∧ ¬ y.2.2.1 = 0)
theorem adv {L7 t : Nat → Int32} {L : Nat} (hT : Tx t L) {a : Nat} (ha : a ≤ L) (v : Int32) {fu : Nat} (v3 : Nat) {aw : Int32} (pri nam : Int32) (u : T12) (haw : ¬ aw = 0) (hfu : L - sk t L a < fu) :
    (sk t L a = L ∧ fX8_next t (nI L) (nI a) v = some (nI L, 1000, nI L, v) ∧ FLT L L (C7 L7 L fu (sk t L a) v3 aw pri nam u)) ∨ (sk t L a < L ∧ ∃ v', fX8_next t (nI L) (nI a) v = some (nI (te t L (sk t L a)), tok t L (sk t L a), nI (sk t L a), v') ∧ ∀ n, nm t L (sk t L a) = some n → v' = nI n) := by
  have hle := sk_le (t := t) ha
  rcases Nat.lt_or_ge (sk t L a) L with h | h
  · right
    exact ⟨h, X8_next hT ha rfl h v⟩
  · left
    have he : sk t L a = L := by omega
    refine ⟨he, X8_next_end hT ha he v, Or.inr ⟨rfl, _, c_end hT.1 he (by omega), haw⟩⟩
theorem tk0 {u : T12} {f : Nat → Int32} {m k : Nat} (hR : RT u f m k) (pri nam c n : Int32) : tk7 0 pri nam u c n = some (if c = 115 then (if k = 0 ∧ m < 6 then 1 else 0, 1, pri, nam, u) else if c = 104 then (if 0 < m ∧ k < 8 then 1 else 0, 4, pri, nam, u) else (0, 4, pri, nam, u)) := by
  obtain ⟨e1, e2, -, -, -, hm, hk, -⟩ := hR
  unfold tk7 fX4_takes fX4_takesItem fX3_hostTotal fX3_switchTotal
  rw [if_pos rfl, e1, e2, bs, bs, bs, bs]
  have eu : u = (nI m, nI k, u.2.2) := by rw [← e1, ← e2]
  by_cases h1 : c = 115
  · rw [if_pos h1, if_pos h1]
    by_cases hk0 : k = 0
    · rw [if_pos (show nI k = 0 from by rw [hk0]; rfl)]
      by_cases hm6 : m < 6
      · rw [l6, if_neg (nI_ge hm6 (by decide)), bs, gd_t (Or.inr rfl), if_pos ⟨hk0, hm6⟩]
        conv => rhs; rw [eu]
      · rw [l6, if_pos (nI_le (by omega) (by omega)), bs, gd_t (Or.inl rfl), if_neg (fun h => hm6 h.2)]
        conv => rhs; rw [eu]
    · rw [if_neg (nI_ne0 (by omega) (by omega)), bs, gd_t (Or.inl rfl), if_neg (fun h => hk0 h.1)]
      conv => rhs; rw [eu]
  · rw [if_neg h1, if_neg h1]
    by_cases h2 : c = 104
    · rw [if_pos h2, if_pos h2]
      by_cases hm0 : 0 < m
      · rw [if_neg (nI_nle hm0 (by omega))]
        by_cases hk8 : k < 8
        · rw [l8, if_neg (nI_ge hk8 (by decide)), bs, gd_t (Or.inr rfl), if_pos ⟨hm0, hk8⟩]
          conv => rhs; rw [eu]
        · rw [l8, if_pos (nI_le (by omega) (by omega)), bs, gd_t (Or.inl rfl), if_neg (fun h => hk8 h.2)]
          conv => rhs; rw [eu]
      · rw [if_pos (show nI m ≤ 0 from by rw [show m = 0 by omega]; decide), bs, gd_t (Or.inl rfl), if_neg (fun h => hm0 h.1)]
        conv => rhs; rw [eu]
    · rw [if_neg h2, if_neg h2, bs, gd_t (Or.inl rfl)]
      conv => rhs; rw [eu]
theorem m1lt (n : Nat) : (-1 : Int32) < nI n ∨ n ≥ 2 ^ 31 := by
  rcases Nat.lt_or_ge n (2 ^ 31) with h | h
  · left
    rw [fa_lt, nI_toInt h, show (-1 : Int32).toInt = -1 from by decide]
    omega
  · exact Or.inr h
theorem tk1 (u : T12) (pri nam c : Int32) {o : Option Nat} (ho : ∀ n, o = some n → n < 100) : tk7 1 pri nam u c (no1 o) = some (bi (inn o 1 9), 2, no1 o, nam, u) := by
  unfold tk7 fX4_takes fX4_takesPriority
  rw [if_neg (by decide), if_pos rfl]
  cases o with
  | none =>
    rw [show no1 none = -1 from rfl, if_pos (by decide), bs, gd_t (Or.inl rfl)]
    rfl
  | some n =>
    have hn := ho n rfl
    rw [show no1 (some n) = nI n from rfl]
    show ((if nI n < 1 then some (0, 2, nI n) else if 9 < nI n then some (0, 2, nI n) else some (1, 2, nI n)) : Option (Int32 × Int32 × Int32)).bind _ = some (bi (decide (1 ≤ n) && decide (n ≤ 9)), 2, nI n, nam, u)
    by_cases h1 : n < 1
    · rw [if_pos (show nI n < 1 from nI_lt (b := 1) h1 (by decide)), bs, gd_t (Or.inl rfl), decide_eq_false (by omega)]; rfl
    · rw [if_neg (show ¬ nI n < 1 from nI_nlt (b := 1) (by omega) (by omega)), decide_eq_true (by omega)]
      by_cases h2 : 9 < n
      · rw [if_pos (show 9 < nI n from nI_lt (a := 9) h2 (by omega)), bs, gd_t (Or.inl rfl), decide_eq_false (by omega)]; rfl
      · rw [if_neg (show ¬ 9 < nI n from nI_nlt (a := 9) (by omega) (by omega)), bs, gd_t (Or.inr rfl), decide_eq_true (by omega)]; rfl
theorem tk2 {u : T12} {f : Nat → Int32} {m k : Nat} (hR : RT u f m k) (pri nam c : Int32) {o : Option Nat} (ho : ∀ n, o = some n → n < 100) : tk7 2 pri nam u c (no1 o) = some (bi (inn o 0 99 && !nmd f m (no1 o)), 3, pri, no1 o, u) := by
  obtain ⟨e1, -, -, -, -, hm, -, -, -, -, -, hs, -⟩ := hR
  unfold tk7 fX4_takes fX4_takesName
  rw [if_neg (by decide), if_neg (by decide), if_pos rfl, e1, X3_hasName hm (fun a ha => (hs a ha).2.1), bs]
  have eu : u = (nI m, u.2) := by rw [← e1]
  cases o with
  | none =>
    rw [show no1 none = -1 from rfl, if_pos (by decide), bs, gd_t (Or.inl rfl)]
    conv => rhs; rw [eu]
    rfl
  | some n =>
    have hn := ho n rfl
    rw [show no1 (some n) = nI n from rfl, if_neg (nI_pos (by omega)), show inn (some n) 0 99 = true from by
      show (decide (0 ≤ n) && decide (n ≤ 99)) = true
      simp; omega, Bool.true_and]
    cases nmd f m (nI n)
    · rw [ifb_f, bs, gd_t (Or.inr rfl)]
      conv => rhs; rw [eu]
      rfl
    · rw [ifb_t, bs, gd_t (Or.inl rfl)]
      conv => rhs; rw [eu]
      rfl
theorem tk3_no (u : T12) (pri nam c : Int32) {o : Option Nat} (ho : ∀ n, o = some n → n < 100) (h : inn o 0 8 = false) : ∃ z, tk7 3 pri nam u c (no1 o) = some z ∧ z.1 = 0 := by
  unfold tk7 fX4_takes fX4_takesWant
  rw [if_neg (by decide), if_neg (by decide), if_neg (by decide), if_pos rfl]
  cases o with
  | none =>
    rw [show no1 none = -1 from rfl, if_pos (by decide), bs, gd_t (Or.inl rfl)]
    exact ⟨_, rfl, rfl⟩
  | some n =>
    have hn := ho n rfl
    have h : (decide (0 ≤ n) && decide (n ≤ 8)) = false := h
    have h8 : 8 < n := by
      rw [decide_eq_true (by omega), Bool.true_and, decide_eq_false_iff_not] at h
      omega
    rw [show no1 (some n) = nI n from rfl, if_neg (nI_pos (by omega)), if_neg (show ¬ nI n ≤ 8 from nI_ge (a := 8) h8 (by omega)), bs, gd_t (Or.inl rfl)]
    exact ⟨_, rfl, rfl⟩
theorem tk3_yes {u : T12} {m : Nat} (e1 : u.1 = nI m) (hm : m < 6) (pri nam c : Int32) {n : Nat} (h : n ≤ 8) : ∃ zo', tk7 3 pri nam u c (nI n) = some (1, 5, pri, nam, (nI (m + 1), u.2.1, upd (u_pr u) m pri, upd (u_na u) m nam, upd (u_wa u) m (nI n), upd (u_bl u) m (nI (bk n)), upd (u_up u) m 0, upd (u_cl u) m 0, zo', u_pl u, u_no u, u_ne u)) ∧ (∀ z, z < 4 → zo' (4 * m + z) = 0) ∧ ∀ x, x < 4 * m → zo' x = u_zo u x := by
  obtain ⟨zo', a1, a2, a3⟩ := X3_addSwitch hm (by omega : n < 1000) (u_pr u) (u_na u) (u_wa u) (u_bl u) (u_up u) (u_cl u) (u_zo u) pri nam
  refine ⟨zo', ?_, a2, a3⟩
  unfold tk7 fX4_takes fX4_takesWant
  rw [if_neg (by decide), if_neg (by decide), if_neg (by decide), if_pos rfl, if_neg (nI_pos (by omega)), if_pos (show nI n ≤ 8 from nI_le (b := 8) h (by decide)), e1, a1, bs, bs, gd_t (Or.inr rfl)]
theorem tk4 {u : T12} {f : Nat → Int32} {m k : Nat} (hR : RT u f m k) (hk : k < 8) (pri nam c : Int32) {o : Option Nat} (ho : ∀ n, o = some n → n < 100) : (∃ v, (c = 45 ∧ v = -9 ∨ ¬ c = 45 ∧ ∃ a, a < m ∧ o = some a ∧ v = nI a) ∧ tk7 4 pri nam u c (no1 o) = some (1, 5, pri, nam, (u.1, nI (k + 1), u_pr u, u_na u, u_wa u, u_bl u, u_up u, u_cl u, u_zo u, upd (u_pl u) k v, upd (u_no u) k 0, upd (u_ne u) k 0))) ∨ (¬ c = 45 ∧ (¬ ∃ a, a < m ∧ o = some a) ∧ ∃ z, tk7 4 pri nam u c (no1 o) = some z ∧ z.1 = 0) := by
  obtain ⟨e1, e2, -, -, -, hm, -, -⟩ := hR
  unfold tk7 fX4_takes fX4_takesPlace
  rw [if_neg (by decide), if_neg (by decide), if_neg (by decide), if_neg (by decide), if_pos rfl, e2, X3_addHost hk, X3_addHost hk, bs, bs]
  by_cases hc : c = 45
  · left
    refine ⟨-9, Or.inl ⟨hc, rfl⟩, ?_⟩
    rw [if_pos hc, if_pos hc, bs, gd_t (Or.inr rfl)]
  · rw [if_neg hc, e1]
    rcases sw_cases (by omega : m < 2 ^ 31) (no1 o) with ⟨h1, a, ha, e⟩ | ⟨h1, h2⟩
    · left
      have hoa : o = some a := by
        cases o with
        | none => exact absurd (congrArg Int32.toInt e) (by rw [nI_toInt (by omega), show (no1 none).toInt = -1 from by decide]; omega)
        | some n =>
          have hn := ho n rfl
          have e : nI n = nI a := e
          rw [nI_inj (by omega) (by omega) e]
      refine ⟨no1 o, Or.inr ⟨hc, a, ha, hoa, e⟩, ?_⟩
      rw [h1, bs, if10, if_neg hc, bs, gd_t (Or.inr rfl)]
    · right
      refine ⟨hc, ?_, ?_⟩
      · rintro ⟨a, ha, rfl⟩
        exact h2 ⟨a, ha, rfl⟩
      · rw [h1, bs, if00, bs, gd_t (Or.inl rfl)]
        exact ⟨_, rfl, rfl⟩
theorem tk5 (u : T12) (pri nam c n : Int32) : tk7 5 pri nam u c n = some (if c = 59 then (1, 0, pri, nam, u) else (0, 0, pri, nam, u)) := by
  unfold tk7 fX4_takes
  rw [if_neg (by decide), if_neg (by decide), if_neg (by decide), if_neg (by decide), if_neg (by decide)]
  by_cases h : c = 59
  · rw [if_pos h, if_pos h]
  · rw [if_neg h, if_neg h]
theorem RT_switch {u : T12} {f g : Nat → Int32} {m : Nat} (hR : RT u f m 0) (hm6 : m < 6) {P N W : Nat} (hP1 : 1 ≤ P) (hP9 : P ≤ 9) (hN : N ≤ 99) (hW : W ≤ 8) (hnn : nmd f m (nI N) = false) {zo' : Nat → Int32} (hz1 : ∀ z, z < 4 → zo' (4 * m + z) = 0) (hz2 : ∀ x, x < 4 * m → zo' x = u_zo u x)
    (g0 : g 0 = nI (m + 1)) (g3 : g (3 + 4 * m) = nI P) (g4 : g (4 + 4 * m) = nI N) (g5 : g (5 + 4 * m) = nI W) (g6 : g (6 + 4 * m) = nI (bk W)) (go : ∀ x, x ≠ 0 → x ≠ 3 + 4 * m → x ≠ 4 + 4 * m → x ≠ 5 + 4 * m → x ≠ 6 + 4 * m → g x = f x) :
    RT (nI (m + 1), u.2.1, upd (u_pr u) m (nI P), upd (u_na u) m (nI N), upd (u_wa u) m (nI W), upd (u_bl u) m (nI (bk W)), upd (u_up u) m 0, upd (u_cl u) m 0, zo', u_pl u, u_no u, u_ne u) g (m + 1) 0 := by
  obtain ⟨e1, e2, h0, h1, h2, hm, hk, hD, hNm, hP, hz, hs, hh⟩ := hR
  have hbk : 1 ≤ bk W ∧ bk W ≤ 8 := by unfold bk; split <;> omega
  refine ⟨rfl, e2, g0, by rw [go 1 (by omega) (by omega) (by omega) (by omega) (by omega)]; exact h1, by rw [go 2 (by omega) (by omega) (by omega) (by omega) (by omega)]; exact h2, by omega, by omega, fun a ha => ?_, fun a b ha hb e => ?_, fun h hh => by omega, fun x hx hx2 => by rw [go x (by omega) (by omega) (by omega) (by omega) (by omega)]; exact hz x hx hx2, fun a ha => ?_, fun h hh => by omega⟩
  · by_cases hq : a = m
    · subst hq
      rw [g3, g4, g5, g6, nI_toInt (by omega), nI_toInt (by omega)]
      exact ⟨⟨by omega, by omega⟩, ⟨by omega, by omega⟩, ⟨W, hW, rfl⟩, bk W, hbk.1, hbk.2, rfl⟩
    · rw [go _ (by omega) (by omega) (by omega) (by omega) (by omega), go _ (by omega) (by omega) (by omega) (by omega) (by omega), go _ (by omega) (by omega) (by omega) (by omega) (by omega), go _ (by omega) (by omega) (by omega) (by omega) (by omega)]
      exact hD a (by omega)
  · have old : ∀ c, c < m → g (4 + 4 * c) = f (4 + 4 * c) := fun c hc => go _ (by omega) (by omega) (by omega) (by omega) (by omega)
    have fresh : ∀ c, c < m → ¬ f (4 + 4 * c) = nI N := fun c hc e => by
      rw [nmd_iff.mpr ⟨c, hc, e⟩] at hnn; cases hnn
    by_cases hq : a = m
    · by_cases hr : b = m
      · omega
      · subst hq
        rw [g4, old b (by omega)] at e
        exact absurd e.symm (fresh b (by omega))
    · by_cases hr : b = m
      · subst hr
        rw [g4, old a (by omega)] at e
        exact absurd e (fresh a (by omega))
      · rw [old a (by omega), old b (by omega)] at e
        exact hNm a b (by omega) (by omega) e
  · by_cases hq : a = m
    · subst hq
      refine ⟨?_, ?_, ?_, ?_, ?_, ?_, hz1⟩
      · show upd _ a _ a = _; rw [pk_us, g3]
      · show upd _ a _ a = _; rw [pk_us, g4]
      · show upd _ a _ a = _; rw [pk_us, g5]
      · show upd _ a _ a = _; rw [pk_us, g6]
      · show upd _ a _ a = _; rw [pk_us]
      · show upd _ a _ a = _; rw [pk_us]
    · obtain ⟨s1, s2, s3, s4, s5, s6, s7⟩ := hs a (by omega)
      rw [go _ (by omega) (by omega) (by omega) (by omega) (by omega), go _ (by omega) (by omega) (by omega) (by omega) (by omega), go _ (by omega) (by omega) (by omega) (by omega) (by omega), go _ (by omega) (by omega) (by omega) (by omega) (by omega)]
      refine ⟨?_, ?_, ?_, ?_, ?_, ?_, fun z hz' => ?_⟩
      · show upd _ m _ a = _; rw [pk_un hq]; exact s1
      · show upd _ m _ a = _; rw [pk_un hq]; exact s2
      · show upd _ m _ a = _; rw [pk_un hq]; exact s3
      · show upd _ m _ a = _; rw [pk_un hq]; exact s4
      · show upd _ m _ a = _; rw [pk_un hq]; exact s5
      · show upd _ m _ a = _; rw [pk_un hq]; exact s6
      · show zo' _ = 0
        rw [hz2 _ (by omega)]; exact s7 z hz'
theorem RT_host {u : T12} {f : Nat → Int32} {m k : Nat} (hR : RT u f m k) (hk8 : k < 8) {v : Int32} (hv : v = -9 ∨ ∃ a, a < m ∧ v = nI a) :
    RT (u.1, nI (k + 1), u_pr u, u_na u, u_wa u, u_bl u, u_up u, u_cl u, u_zo u, upd (u_pl u) k v, upd (u_no u) k 0, upd (u_ne u) k 0) (upd (upd f (27 + k) v) 1 (nI (k + 1))) m (k + 1) := by
  obtain ⟨e1, e2, h0, h1, h2, hm, hk, hD, hNm, hP, hz, hs, hh⟩ := hR
  have go : ∀ x, x ≠ 1 → x ≠ 27 + k → upd (upd f (27 + k) v) 1 (nI (k + 1)) x = f x := fun x q1 q2 => by rw [pk_un q1, pk_un q2]
  refine ⟨e1, rfl, by rw [go 0 (by omega) (by omega)]; exact h0, pk_us, by rw [go 2 (by omega) (by omega)]; exact h2, hm, by omega, fun a ha => ?_, fun a b ha hb e => ?_, fun h hh' => ?_, fun x hx hx2 => by rw [go x (by omega) (by omega)]; exact hz x hx hx2, fun a ha => ?_, fun h hh' => ?_⟩
  · rw [go _ (by omega) (by omega), go _ (by omega) (by omega), go _ (by omega) (by omega), go _ (by omega) (by omega)]; exact hD a ha
  · rw [go _ (by omega) (by omega), go _ (by omega) (by omega)] at e; exact hNm a b ha hb e
  · by_cases hq : h = k
    · subst hq; rw [pk_un (by omega), pk_us]; exact hv
    · rw [go _ (by omega) (by omega)]; exact hP h (by omega)
  · rw [go _ (by omega) (by omega), go _ (by omega) (by omega), go _ (by omega) (by omega), go _ (by omega) (by omega)]; exact hs a ha
  · by_cases hq : h = k
    · subst hq
      refine ⟨?_, ?_, ?_⟩
      · show upd _ h _ h = _; rw [pk_us, pk_un (by omega), pk_us]
      · show upd _ h _ h = _; rw [pk_us]
      · show upd _ h _ h = _; rw [pk_us]
    · obtain ⟨s1, s2, s3⟩ := hh h (by omega)
      rw [go _ (by omega) (by omega)]
      refine ⟨?_, ?_, ?_⟩
      · show upd _ k _ h = _; rw [pk_un hq]; exact s1
      · show upd _ k _ h = _; rw [pk_un hq]; exact s2
      · show upd _ k _ h = _; rw [pk_un hq]; exact s3
