/-! the law, from its entry -/
theorem rel0 {x : S7} {y : S8} (h1 : ∃ zo, x.now = net1 zo ∧ ∀ z, z < 4 → zo (4 * 0 + z) = 0) (h2 : x.letters = z0) (h3 : x.ssize = 0) (h4 : x.ho = 0) (h5 : x.hs = 0) (h6 : x.bk = 0) (h7 : x.ksize = 0) (h8 : x.kment = 0) (h9 : x.kseen = 0) (h10 : x.kuns = 0)
    (g1 : y.now 0 = 1 ∧ y.now 3 = 5 ∧ y.now 6 = 1 ∧ (∀ q, q < 87 → q ≠ 0 → q ≠ 3 → q ≠ 6 → (q < 27 ∨ 35 ≤ q) → y.now q = 0)) (g2 : y.deeds = 0) (g3 : y.isK = z0) (g4 : y.text = z0) (g5 : y.letters = 0) (g6 : y.seen = 0) : Rel x y := by
  obtain ⟨zo, hnow, hzo⟩ := h1
  obtain ⟨n0, n3, n6, nz⟩ := g1
  have hu : ∀ a, a < 6 → y.now (35 + a) = 0 := fun a ha => nz _ (by omega) (by omega) (by omega) (by omega) (by omega)
  have hc : ∀ a, a < 6 → y.now (41 + a) = 0 := fun a ha => nz _ (by omega) (by omega) (by omega) (by omega) (by omega)
  have hz : ∀ a, a < 6 → ∀ z, z < 4 → y.now (47 + 4 * a + z) = 0 := fun a ha z hz => nz _ (by omega) (by omega) (by omega) (by omega) (by omega)
  have n1 : y.now 1 = 0 := nz 1 (by omega) (by omega) (by omega) (by omega) (by omega)
  have n2 : y.now 2 = 0 := nz 2 (by omega) (by omega) (by omega) (by omega) (by omega)
  have n4 : y.now 4 = 0 := nz 4 (by omega) (by omega) (by omega) (by omega) (by omega)
  have n5 : y.now 5 = 0 := nz 5 (by omega) (by omega) (by omega) (by omega) (by omega)
  have a0 : ∀ {a : Nat}, a < 1 → a = 0 := fun {a} h => by omega
  refine ⟨⟨1, 0, ⟨⟨n0, n1, by omega, by omega, Or.inl n2⟩, fun a ha => ?_, fun a b ha hb _ => by omega, fun h hh => by omega, ⟨fun a ha i hi => ?_, fun a b ha hb hi => ?_, fun a ha => ?_, fun a ha h6 => hu a h6⟩, ⟨fun a ha i hi => ?_, fun a b ha hb hi => ?_, fun a ha => ?_, fun a ha h6 => hc a h6⟩, fun a ha z hz' i hi => ?_, fun a b ha hcn z hz' => ?_⟩, ?_⟩, ⟨0, 0, by omega, by omega, h4, h5, g2, fun i hi => by omega⟩, fun i hi => ⟨?_, fun h => ?_⟩, ⟨0, by omega, h3, g5, fun i hi => by omega, fun i hi => by omega⟩, ⟨0, by omega, h7, g6, fun j hj => by omega, fun i _ => ?_, fun g h _ _ => ?_, fun g h _ _ => ?_⟩⟩
  · obtain rfl := a0 ha
    rw [show 3 + 4 * 0 = 3 from rfl, show 4 + 4 * 0 = 4 from rfl, show 5 + 4 * 0 = 5 from rfl, show 6 + 4 * 0 = 6 from rfl, n3, n4, n5, n6]
    exact ⟨⟨by decide, by decide⟩, ⟨by decide, by decide⟩, ⟨0, by omega, rfl⟩, 1, by omega, by omega, rfl⟩
  · have hi : bt (y.now (35 + a)) i = true := hi
    rw [hu a (by omega), b_0] at hi; cases hi
  · have hi : bt (y.now (35 + a)) b = true := hi
    rw [hu a (by omega), b_0] at hi; cases hi
  · show bt (y.now (35 + a)) a = false
    rw [hu a (by omega), b_0]
  · have hi : bt (y.now (41 + a)) i = true := hi
    rw [hc a (by omega), b_0] at hi; cases hi
  · have hi : bt (y.now (41 + a)) b = true := hi
    rw [hc a (by omega), b_0] at hi; cases hi
  · show bt (y.now (41 + a)) a = false
    rw [hc a (by omega), b_0]
  · rw [hz a (by omega) z hz', b_0] at hi; cases hi
  · have hb : b < 6 := Cnn.least (T := fun q => q < 6) (by omega) (by omega) (fun c d hcm _ hd => by
      have hd : bt (y.now (35 + c)) d = true := hd
      rw [hu c (by omega), b_0] at hd; cases hd) hcn
    rw [hz a (by omega) z hz', hz b hb z hz']
  · rw [hnow]
    refine ⟨rfl, rfl, n2.symm, fun a ha => ?_, fun a ha => ?_, fun a ha => ?_, fun a ha => ?_, fun a ha => ?_, fun a ha => ?_, fun a ha z hz' => ?_, fun h hh => by omega, fun h hh => by omega, fun h hh => by omega⟩
    · obtain rfl := a0 ha
      exact (show (5 : Int32) = y.now 3 from n3.symm)
    · obtain rfl := a0 ha
      exact (show (0 : Int32) = y.now 4 from n4.symm)
    · obtain rfl := a0 ha
      exact (show (0 : Int32) = y.now 5 from n5.symm)
    · obtain rfl := a0 ha
      exact (show (1 : Int32) = y.now 6 from n6.symm)
    · obtain rfl := a0 ha
      exact (show (0 : Int32) = y.now (35 + 0) from (hu 0 (by omega)).symm)
    · obtain rfl := a0 ha
      exact (show (0 : Int32) = y.now (41 + 0) from (hc 0 (by omega)).symm)
    · obtain rfl := a0 ha
      exact (show zo (4 * 0 + z) = y.now (47 + 4 * 0 + z) from (hzo z hz').trans (hz 0 (by omega) z hz').symm)
  · rw [g3, h6, b_0]; rfl
  · rw [h6, b_0] at h; cases h
  · rw [h8, b_0]; simp
  · rw [h9, L_0]; simp
  · rw [h10, L_0]; simp
set_option maxHeartbeats 4000000 in
set_option maxRecDepth 100000 in
theorem whole_start {p : Program} {e : Env} {s : State} {m : MethodId} {below : List Frame} {meth : Method} {c : Code} (l : Launch) (hflags : l.flags = flags0) {b L : Nat} {xs : Nat → Int32} (hL : L ≤ 2048) (C0 : lw_At p s m meth c b L xs) : W p l e room_1 s m #[Value.ref b] below meth c s.heap [] 0 0 (lw_Z below #[Value.ref b] s) (entryFrame m ([Value.ref b] : List Value).toArray 4) := by
  obtain ⟨hx, hb, hr, hml, hown, hts, hX, hbl, hlocks, hgv⟩ := id C0
  obtain ⟨E, hK, hao⟩ := law_E hts
  have hC : Cx p E s m #[Value.ref b] meth c cL_law 4 RL ret := ⟨hx, hb, hml, hown, fun w hw => hts w (gg_tbl w hw), hlocks, hr, hK⟩
  have hB : ∀ q : Nat, s.heap.size ≤ q → (fun q : Nat => s.heap.size ≤ q) q := fun _ h => h
  have hN : Nw E s (fun q : Nat => s.heap.size ≤ q) [] s.heap [] := ⟨fun k q h => by simp at h, ⟨fun i j p q h => by simp at h, fun k q h => by simp at h⟩, va_S.rf⟩
  have hl := lv_entry ([.ref b]) (n := 4) (Nat.le_of_ble_eq_true rfl)
  rw [lg_entry_eq]
  generalize (lg_sl ([.ref b]) ++ List.replicate (4 - (lg_sl ([.ref b])).length) Slot.unset).toArray = ls at hl ⊢
  have hl : lv_has ls 4 [(0, .ref b)] := hl
  refine n_new (C := RX7) (T := TX7) (N := 7) (ci := 7) (fs := [.null, .null, .null, .null, .null, .null, .null]) tyX7 tyX7_ok mLY_X7 rfl mCL_L_7 mIS_X7 mIN_X7 hC hN hB dfX7 (Nat.le_of_ble_eq_true rfl) (Nat.le_of_ble_eq_true rfl) dL_law_0 (fun q7 H hN1 => ?_)
  refine lv_dup hx hb dL_law_3 rfl ?_
  refine n_made (ws := []) hC hao hN1 hB (kX7_init l E) cy_X7_init rfl mIM_X7_init (Or.inr mML_L_9) hl.1 (Nat.le_of_ble_eq_true rfl) dL_law_4 ⟨Nat.le_of_ble_eq_true rfl, Nat.le_of_ble_eq_true rfl⟩ ⟨Nat.le_of_ble_eq_true rfl, Nat.le_of_ble_eq_true rfl⟩ (fun w7 H locs hp7 hN2 => ?_)
  obtain ⟨d, x, rfl, hw7, x1, x2, x3, x4, x5, x6, x7, x8, x9, x10⟩ := hp7
  clear hN1
  rw [List.nil_append] at hN2
  refine lv_astore_n (lv' := [(1, .ref (d.c 0)), (0, .ref b)]) hx hb dL_law_7 rfl hl (by decide) rfl (fun ls hl => ?_)
  refine n_new (C := RX8) (T := TX8) (N := 20) (ci := 8) (fs := [.null, .null, .null, .int 0, .null, .null, .null, .int 0, .int 0, .int 0, .int 0, .int 0, .null, .int 0, .null, .int 0, .int 0, .null, .null, .int 0]) tyX8 tyX8_ok mLY_X8 rfl mCL_L_10 mIS_X8 mIN_X8 hC hN2 hB dfX8 (Nat.le_of_ble_eq_true rfl) (Nat.le_of_ble_eq_true rfl) dL_law_8 (fun q8 H hN3 => ?_)
  refine lv_dup hx hb dL_law_11 rfl ?_
  refine n_made (ws := w7) hC hao hN3 hB (kX8_init l E) cy_X8_init rfl mIM_X8_init (Or.inr mML_L_12) hl.1 (Nat.le_of_ble_eq_true rfl) dL_law_12 ⟨Nat.le_of_ble_eq_true rfl, Nat.le_of_ble_eq_true rfl⟩ ⟨Nat.le_of_ble_eq_true rfl, Nat.le_of_ble_eq_true rfl⟩ (fun w8 H locs hp8 hN4 => ?_)
  obtain ⟨a, y, rfl, hw8, y1, y2, y3, y4, y5, y6⟩ := hp8
  clear hN3
  rw [hw7, hw8] at hN4
  refine lv_astore_n (lv' := [(2, .ref (a 0)), (1, .ref (d.c 0)), (0, .ref b)]) hx hb dL_law_15 rfl hl (by decide) rfl (fun ls hl => ?_)
  refine lv_iconst (v := 0) hx hb dL_law_16 rfl ?_
  refine lv_istore_n (lv' := [(3, .int 0), (2, .ref (a 0)), (1, .ref (d.c 0)), (0, .ref b)]) hx hb dL_law_17 rfl hl (by decide) rfl (fun ls hl => ?_)
  refine W.widen (k := 600000) (n := 7302250) (Nat.le_of_ble_eq_true rfl) (Nat.le_of_ble_eq_true rfl) ?_
  exact law_loop l C0 hC d a hL (L + 5) 0 x y _ _ _ (by omega) (by omega) (rel0 x1 x2 x3 x4 x5 x6 x7 x8 x9 x10 y1 y2 y3 y4 y5 y6) hN4 (lv_sub hl [3, 2, 1, 0] rfl)
