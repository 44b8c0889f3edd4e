/-! one step of handing out, and all of them -/
/-- g tells what f tells, but for blocks -/
def Off (n : Nat) (f g : Nat → Int32) : Prop := ∀ x, (∀ s, s < n → x ≠ 6 + 4 * s) → g x = f x
theorem Off.up {n : Nat} (hn : n ≤ 6) {f g : Nat → Int32} (h : Off n f g) : UPr g = UPr f := funext (fun a => h (35 + a) (fun s hs => by omega))
theorem Off.pr {n : Nat} {f g : Nat → Int32} (h : Off n f g) (a : Nat) : g (3 + 4 * a) = f (3 + 4 * a) := h _ (fun s _ => by omega)
theorem Off.na {n : Nat} {f g : Nat → Int32} (h : Off n f g) (a : Nat) : g (4 + 4 * a) = f (4 + 4 * a) := h _ (fun s _ => by omega)
theorem Off.wa {n : Nat} {f g : Nat → Int32} (h : Off n f g) (a : Nat) : g (5 + 4 * a) = f (5 + 4 * a) := h _ (fun s _ => by omega)
theorem Off.ahd {n : Nat} {f g : Nat → Int32} (h : Off n f g) : ahead g = ahead f := funext (fun a => funext (fun c => by unfold ahead; rw [h.pr, h.pr, h.na, h.na]))
theorem Off.prn {n : Nat} {f g : Nat → Int32} (h : Off n f g) (S : Int32) : prin n g S = prin n f S := by
  show (List.range n).foldl (prs g S) none = (List.range n).foldl (prs f S) none
  have : prs g S = prs f S := funext (fun b => funext (fun a => by unfold prs; rw [h.ahd]))
  rw [this]
theorem Off.fr {n : Nat} (hn : n ≤ 6) {f g : Nat → Int32} (h : Off n f g) (a : Nat) : far n g a = far n f a := by
  show (match prin n g (fab n (UPr g) a) with | none => 0 | some p => dst n (UPr g) p a) = (match prin n f (fab n (UPr f) a) with | none => 0 | some p => dst n (UPr f) p a)
  rw [h.up hn, h.prn]
theorem ct_bit {G : Int32} {b : Nat} (hb : b < 9) : fb_ct (fun i => bt (G ||| b1 b) i) 9 ≤ fb_ct (fun i => bt G i) 9 + 1 := by
  have h := fb_ct_upd (fun i => bt G i) true hb
  have e : (fun k => if k = b then true else bt G k) = fun i => bt (G ||| b1 b) i := funext (fun i => by
    rw [b_or, b_b1 (by omega)]
    by_cases hi : i = b
    · rw [if_pos hi, decide_eq_true hi, Bool.or_true]
    · rw [if_neg hi, decide_eq_false hi, Bool.or_false])
  rw [e] at h
  simp only [if_true] at h
  omega
/-- the next switch -/
theorem next_pick {n : Nat} {f g : Nat → Int32} {k : Nat} (hI : Inv f n k) (hg : Off n f g) {F V R : Int32} {p d : Nat} (hp : p < n) (hF : ∀ x, bt F x = true ↔ Cnn n (UPr f) p x) (hpr : ∀ x, bt F x = true → prin n f (fab n (UPr f) x) = some p)
    (hR : R = itr n (UPr f) d (b1 p)) (hV : ∀ x, bt V x = true → bt R x = true) (hlow : ∀ j, j < d → ∀ x, bt (itr n (UPr f) j (b1 p)) x = true → bt V x = true) (hne : V ≠ R) :
    ∃ s, am n (R &&& (V ^^^ (-1))) (fun a => f (4 + 4 * a)) = some s ∧ am n (F &&& (V ^^^ (-1))) (fun a => 100 * nI (far n g a) + g (4 + 4 * a)) = some s ∧ s < n ∧ bt F s = true ∧ bt V s = false ∧ bt R s = true := by
  obtain ⟨⟨h0, h1, hn, hk, -⟩, hD, hNm, -, ⟨hBd, hSy, -⟩, -⟩ := hI
  have hRF : ∀ x, bt R x = true → bt F x = true := by
    intro x hx
    rw [hF]
    show bt (fab n (UPr f) p) x = true
    rw [hR] at hx
    rw [← fab_n1 hn hBd hp (m := d + 6) (by omega)]
    exact itr_mono n (UPr f) (b1 p) (by omega) hx
  have hRn : ∀ x, bt R x = true → x < n := fun x hx => Cnn.bd hn hBd hp ((hF x).mp (hRF x hx))
  have hfar : ∀ x, bt F x = true → far n f x = dst n (UPr f) p x := by
    intro x hx
    show (match prin n f (fab n (UPr f) x) with | none => 0 | some p => dst n (UPr f) p x) = _
    rw [hpr x hx]
  have hnot : ∀ {x : Nat}, x < n → ∀ S : Int32, bt (S &&& (V ^^^ (-1))) x = true ↔ bt S x = true ∧ bt V x = false := by
    intro x hx S
    rw [b_and, b_not (by omega), Bool.and_eq_true, Bool.not_eq_true']
  -- those that are not served are as far as d at least
  have hfd : ∀ x, bt F x = true → bt V x = false → d ≤ far n f x ∧ (far n f x = d → bt R x = true) := by
    intro x hx hv
    have hc := (hF x).mp hx
    rw [hfar x hx]
    refine ⟨?_, fun e => ?_⟩
    · rcases Nat.lt_or_ge (dst n (UPr f) p x) d with h2 | h2
      · have := hlow _ h2 x (dst_yes hn hBd hp hc)
        rw [this] at hv
        cases hv
      · exact h2
    · rw [hR, ← e]
      exact dst_yes hn hBd hp hc
  have hRd : ∀ x, bt R x = true → bt V x = false → far n f x = d := by
    intro x hx hv
    have h2 := hfd x (hRF x hx) hv
    have h3 : dst n (UPr f) p x ≤ d := dst_le (by rw [← hR]; exact hx)
    rw [hfar x (hRF x hx)] at h2 ⊢
    omega
  obtain ⟨x, hx1, hx2⟩ : ∃ x, bt R x = true ∧ bt V x = false := by
    by_cases hq : ∃ x, bt R x = true ∧ bt V x = false
    · exact hq
    · exfalso
      apply hne
      refine b_ext (fun i _ => ?_)
      cases h2 : bt V i
      · cases h3 : bt R i
        · rfl
        · exact absurd ⟨i, h3, h2⟩ hq
      · exact (hV i h2).symm
  obtain ⟨s, e1, s1, s2, s3⟩ := am_spec (r := fun a => f (4 + 4 * a)) (hRn x hx1) ((hnot (hRn x hx1) R).mpr ⟨hx1, hx2⟩)
  obtain ⟨t, e2, t1, t2, t3⟩ := am_spec (r := fun a => 100 * nI (far n g a) + g (4 + 4 * a)) (hRn x hx1) ((hnot (hRn x hx1) F).mpr ⟨hRF x hx1, hx2⟩)
  obtain ⟨sR, sV⟩ := (hnot s1 R).mp s2
  obtain ⟨tF, tV⟩ := (hnot t1 F).mp t2
  have hfs := hRd s sR sV
  have hst := t3 s s1 ((hnot s1 F).mpr ⟨hRF s sR, sV⟩)
  simp only [hg.fr hn, hg.na] at hst
  obtain ⟨-, ⟨a1, a2⟩, -⟩ := hD s s1
  obtain ⟨-, ⟨b1', b2'⟩, -⟩ := hD t t1
  obtain ⟨q, hq, eq⟩ := toNI a1 (m := 99) (by omega)
  obtain ⟨r, hr, er⟩ := toNI b1' (m := 99) (by omega)
  have hft := hfd t tF tV
  have hdlt : ∀ y, bt F y = true → far n f y < 6 := fun y hy => by
    rw [hfar y hy]
    have := dst_lt hn hBd hp ((hF y).mp hy)
    omega
  have f1 := hdlt t tF
  have f2 := hdlt s (hRF s sR)
  rw [eq, er, l100, pk_mul, pk_mul, nI_add, nI_add, nI_leI (by omega) (by omega)] at hst
  have htd : far n f t = d := by omega
  have htR := hft.2 htd
  have hts := s3 t t1 ((hnot t1 R).mpr ⟨htR, tV⟩)
  simp only [eq, er] at hts
  rw [nI_leI (by omega) (by omega)] at hts
  have hqr : q = r := by omega
  have hst2 : s = t := hNm s t s1 t1 (by rw [eq, er, hqr])
  subst hst2
  exact ⟨s, e1, e2, s1, tF, tV, sR⟩
