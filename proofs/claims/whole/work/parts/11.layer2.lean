section R3
variable {p : Program} {l : Launch} {e : Env} {R : Room} {s : State} {m : MethodId} {args : Array Value} {below : List Frame} {meth : Method} {c : Code} {H : Heap} {locs : List Loc} {cells slots : Nat} {Q : State → Prop}
variable {cc : ByteArray} {pc nL : Nat} {ls : Array Slot} {rest st : List Value} {E : EV} {own : String} {ret : Option FieldType} {B : Nat → Prop} {ws ws' wc wc0 wr : va_W} {a : Nat}
variable {y : MethodName} {bytes : ByteArray} {maxL fr lo n index : Nat} {rt : Option FieldType} {As : List Value} {b : Nat}

theorem n_callVi {x : Int32} {C : String} {ci : Nat} {r : vw_C} {fs : List Value} (hC : Cx p E s m args meth c cc nL own ret) (hN : Nw E s B ws H locs) (hM : Cn l E y bytes maxL rt fr lo (.ref b :: As) wc wc0 (some (.int x))) (cy : CY y bytes maxL rt n) (hl : Cond.methodLink own index y ∈ GG) (hi : Cond.instanceMethod y ∈ GG) (hse : Cond.selects C y y ∈ GG)
    (hc : vwCl[ci]? = some r) (hrC : r.1 = C) {k : Nat} (hq : wc[k]? = some (b, .inr (ci, fs))) (h1 : ws.Perm (wc ++ wr)) (h2 : ws'.Perm (wc0 ++ wr)) (ha : wc0.map Prod.fst = wc.map Prod.fst)
    (hn : As.length = n) (hs : ls.size = nL) (hst : st = As.reverse ++ .ref b :: rest) (hW : (rest.map fun v => v.category).sum ≤ 8) (hdg : decode cc pc = .ok (.invokevirtual index, 3)) (hR : fr + 1 ≤ R.frames ∧ 8 + (maxL + 11) + lo ≤ R.locals) (hf : cells ≤ R.cells ∧ slots ≤ R.slots)
    (kk : ∀ (H1 : Heap) (locs1 : List Loc), Nw E s B ws' H1 locs1 → W p l e R s m args below meth c H1 locs1 cells slots Q (F0 m (pc + 3) ls (.int x :: rest))) : W p l e R s m args below meth c H locs cells slots Q (F0 m pc ls st) :=
  n_callV hC hN hM cy hl hi hse hc hrC hq h1 h2 ha hn hs hst hW hdg hR hf kk
theorem n_callSi {x : Int32} (hC : Cx p E s m args meth c cc nL own ret) (hN : Nw E s B ws H locs) (hM : Cn l E y bytes maxL rt fr lo As wc wc0 (some (.int x))) (cy : CY y bytes maxL rt n) (hl : Cond.methodLink own index y ∈ GG) (hi : Cond.static y ∈ GG)
    (h1 : ws.Perm (wc ++ wr)) (h2 : ws'.Perm (wc0 ++ wr)) (ha : wc0.map Prod.fst = wc.map Prod.fst)
    (hn : As.length = n) (hs : ls.size = nL) (hst : st = As.reverse ++ rest) (hW : (rest.map fun v => v.category).sum ≤ 8) (hdg : decode cc pc = .ok (.invokestatic index, 3)) (hR : fr + 1 ≤ R.frames ∧ 8 + (maxL + 11) + lo ≤ R.locals) (hf : cells ≤ R.cells ∧ slots ≤ R.slots)
    (kk : ∀ (H1 : Heap) (locs1 : List Loc), Nw E s B ws' H1 locs1 → W p l e R s m args below meth c H1 locs1 cells slots Q (F0 m (pc + 3) ls (.int x :: rest))) : W p l e R s m args below meth c H locs cells slots Q (F0 m pc ls st) :=
  n_callS hC hN hM cy hl hi h1 h2 ha hn hs hst hW hdg hR hf kk
theorem n_callSNi {x : Int32} {host : String} (hC : Cx p E s m args meth c cc nL own ret) (hN : Nw E s B ws H locs) (hM : Cn l E y bytes maxL rt fr lo As wc wc0 (some (.int x))) (cy : CY y bytes maxL rt n) (hl : Cond.methodLinkNest own index y host ∈ nestL) (hi : Cond.static y ∈ GG)
    (h1 : ws.Perm (wc ++ wr)) (h2 : ws'.Perm (wc0 ++ wr)) (ha : wc0.map Prod.fst = wc.map Prod.fst)
    (hn : As.length = n) (hs : ls.size = nL) (hst : st = As.reverse ++ rest) (hW : (rest.map fun v => v.category).sum ≤ 8) (hdg : decode cc pc = .ok (.invokestatic index, 3)) (hR : fr + 1 ≤ R.frames ∧ 8 + (maxL + 11) + lo ≤ R.locals) (hf : cells ≤ R.cells ∧ slots ≤ R.slots)
    (kk : ∀ (H1 : Heap) (locs1 : List Loc), Nw E s B ws' H1 locs1 → W p l e R s m args below meth c H1 locs1 cells slots Q (F0 m (pc + 3) ls (.int x :: rest))) : W p l e R s m args below meth c H locs cells slots Q (F0 m pc ls st) :=
  n_callSN hC hN hM cy hl hi h1 h2 ha hn hs hst hW hdg hR hf kk
theorem n_callVl {x : Int64} {C : String} {ci : Nat} {r : vw_C} {fs : List Value} (hC : Cx p E s m args meth c cc nL own ret) (hN : Nw E s B ws H locs) (hM : Cn l E y bytes maxL rt fr lo (.ref b :: As) wc wc0 (some (.long x))) (cy : CY y bytes maxL rt n) (hl : Cond.methodLink own index y ∈ GG) (hi : Cond.instanceMethod y ∈ GG) (hse : Cond.selects C y y ∈ GG)
    (hc : vwCl[ci]? = some r) (hrC : r.1 = C) {k : Nat} (hq : wc[k]? = some (b, .inr (ci, fs))) (h1 : ws.Perm (wc ++ wr)) (h2 : ws'.Perm (wc0 ++ wr)) (ha : wc0.map Prod.fst = wc.map Prod.fst)
    (hn : As.length = n) (hs : ls.size = nL) (hst : st = As.reverse ++ .ref b :: rest) (hW : (rest.map fun v => v.category).sum ≤ 8) (hdg : decode cc pc = .ok (.invokevirtual index, 3)) (hR : fr + 1 ≤ R.frames ∧ 8 + (maxL + 11) + lo ≤ R.locals) (hf : cells ≤ R.cells ∧ slots ≤ R.slots)
    (kk : ∀ (H1 : Heap) (locs1 : List Loc), Nw E s B ws' H1 locs1 → W p l e R s m args below meth c H1 locs1 cells slots Q (F0 m (pc + 3) ls (.long x :: rest))) : W p l e R s m args below meth c H locs cells slots Q (F0 m pc ls st) :=
  n_callV hC hN hM cy hl hi hse hc hrC hq h1 h2 ha hn hs hst hW hdg hR hf kk
theorem n_callSl {x : Int64} (hC : Cx p E s m args meth c cc nL own ret) (hN : Nw E s B ws H locs) (hM : Cn l E y bytes maxL rt fr lo As wc wc0 (some (.long x))) (cy : CY y bytes maxL rt n) (hl : Cond.methodLink own index y ∈ GG) (hi : Cond.static y ∈ GG)
    (h1 : ws.Perm (wc ++ wr)) (h2 : ws'.Perm (wc0 ++ wr)) (ha : wc0.map Prod.fst = wc.map Prod.fst)
    (hn : As.length = n) (hs : ls.size = nL) (hst : st = As.reverse ++ rest) (hW : (rest.map fun v => v.category).sum ≤ 8) (hdg : decode cc pc = .ok (.invokestatic index, 3)) (hR : fr + 1 ≤ R.frames ∧ 8 + (maxL + 11) + lo ≤ R.locals) (hf : cells ≤ R.cells ∧ slots ≤ R.slots)
    (kk : ∀ (H1 : Heap) (locs1 : List Loc), Nw E s B ws' H1 locs1 → W p l e R s m args below meth c H1 locs1 cells slots Q (F0 m (pc + 3) ls (.long x :: rest))) : W p l e R s m args below meth c H locs cells slots Q (F0 m pc ls st) :=
  n_callS hC hN hM cy hl hi h1 h2 ha hn hs hst hW hdg hR hf kk
theorem n_callSNl {x : Int64} {host : String} (hC : Cx p E s m args meth c cc nL own ret) (hN : Nw E s B ws H locs) (hM : Cn l E y bytes maxL rt fr lo As wc wc0 (some (.long x))) (cy : CY y bytes maxL rt n) (hl : Cond.methodLinkNest own index y host ∈ nestL) (hi : Cond.static y ∈ GG)
    (h1 : ws.Perm (wc ++ wr)) (h2 : ws'.Perm (wc0 ++ wr)) (ha : wc0.map Prod.fst = wc.map Prod.fst)
    (hn : As.length = n) (hs : ls.size = nL) (hst : st = As.reverse ++ rest) (hW : (rest.map fun v => v.category).sum ≤ 8) (hdg : decode cc pc = .ok (.invokestatic index, 3)) (hR : fr + 1 ≤ R.frames ∧ 8 + (maxL + 11) + lo ≤ R.locals) (hf : cells ≤ R.cells ∧ slots ≤ R.slots)
    (kk : ∀ (H1 : Heap) (locs1 : List Loc), Nw E s B ws' H1 locs1 → W p l e R s m args below meth c H1 locs1 cells slots Q (F0 m (pc + 3) ls (.long x :: rest))) : W p l e R s m args below meth c H locs cells slots Q (F0 m pc ls st) :=
  n_callSN hC hN hM cy hl hi h1 h2 ha hn hs hst hW hdg hR hf kk
theorem n_callVv {C : String} {ci : Nat} {r : vw_C} {fs : List Value} (hC : Cx p E s m args meth c cc nL own ret) (hN : Nw E s B ws H locs) (hM : Cn l E y bytes maxL rt fr lo (.ref b :: As) wc wc0 (none)) (cy : CY y bytes maxL rt n) (hl : Cond.methodLink own index y ∈ GG) (hi : Cond.instanceMethod y ∈ GG) (hse : Cond.selects C y y ∈ GG)
    (hc : vwCl[ci]? = some r) (hrC : r.1 = C) {k : Nat} (hq : wc[k]? = some (b, .inr (ci, fs))) (h1 : ws.Perm (wc ++ wr)) (h2 : ws'.Perm (wc0 ++ wr)) (ha : wc0.map Prod.fst = wc.map Prod.fst)
    (hn : As.length = n) (hs : ls.size = nL) (hst : st = As.reverse ++ .ref b :: rest) (hW : (rest.map fun v => v.category).sum ≤ 8) (hdg : decode cc pc = .ok (.invokevirtual index, 3)) (hR : fr + 1 ≤ R.frames ∧ 8 + (maxL + 11) + lo ≤ R.locals) (hf : cells ≤ R.cells ∧ slots ≤ R.slots)
    (kk : ∀ (H1 : Heap) (locs1 : List Loc), Nw E s B ws' H1 locs1 → W p l e R s m args below meth c H1 locs1 cells slots Q (F0 m (pc + 3) ls (rest))) : W p l e R s m args below meth c H locs cells slots Q (F0 m pc ls st) :=
  n_callV hC hN hM cy hl hi hse hc hrC hq h1 h2 ha hn hs hst hW hdg hR hf kk
theorem n_callSv (hC : Cx p E s m args meth c cc nL own ret) (hN : Nw E s B ws H locs) (hM : Cn l E y bytes maxL rt fr lo As wc wc0 (none)) (cy : CY y bytes maxL rt n) (hl : Cond.methodLink own index y ∈ GG) (hi : Cond.static y ∈ GG)
    (h1 : ws.Perm (wc ++ wr)) (h2 : ws'.Perm (wc0 ++ wr)) (ha : wc0.map Prod.fst = wc.map Prod.fst)
    (hn : As.length = n) (hs : ls.size = nL) (hst : st = As.reverse ++ rest) (hW : (rest.map fun v => v.category).sum ≤ 8) (hdg : decode cc pc = .ok (.invokestatic index, 3)) (hR : fr + 1 ≤ R.frames ∧ 8 + (maxL + 11) + lo ≤ R.locals) (hf : cells ≤ R.cells ∧ slots ≤ R.slots)
    (kk : ∀ (H1 : Heap) (locs1 : List Loc), Nw E s B ws' H1 locs1 → W p l e R s m args below meth c H1 locs1 cells slots Q (F0 m (pc + 3) ls (rest))) : W p l e R s m args below meth c H locs cells slots Q (F0 m pc ls st) :=
  n_callS hC hN hM cy hl hi h1 h2 ha hn hs hst hW hdg hR hf kk
theorem n_callSNv {host : String} (hC : Cx p E s m args meth c cc nL own ret) (hN : Nw E s B ws H locs) (hM : Cn l E y bytes maxL rt fr lo As wc wc0 (none)) (cy : CY y bytes maxL rt n) (hl : Cond.methodLinkNest own index y host ∈ nestL) (hi : Cond.static y ∈ GG)
    (h1 : ws.Perm (wc ++ wr)) (h2 : ws'.Perm (wc0 ++ wr)) (ha : wc0.map Prod.fst = wc.map Prod.fst)
    (hn : As.length = n) (hs : ls.size = nL) (hst : st = As.reverse ++ rest) (hW : (rest.map fun v => v.category).sum ≤ 8) (hdg : decode cc pc = .ok (.invokestatic index, 3)) (hR : fr + 1 ≤ R.frames ∧ 8 + (maxL + 11) + lo ≤ R.locals) (hf : cells ≤ R.cells ∧ slots ≤ R.slots)
    (kk : ∀ (H1 : Heap) (locs1 : List Loc), Nw E s B ws' H1 locs1 → W p l e R s m args below meth c H1 locs1 cells slots Q (F0 m (pc + 3) ls (rest))) : W p l e R s m args below meth c H locs cells slots Q (F0 m pc ls st) :=
  n_callSN hC hN hM cy hl hi h1 h2 ha hn hs hst hW hdg hR hf kk
theorem n_callVr {x : Nat} {C : String} {ci : Nat} {r : vw_C} {fs : List Value} (hC : Cx p E s m args meth c cc nL own ret) (hN : Nw E s B ws H locs) (hM : Cn l E y bytes maxL rt fr lo (.ref b :: As) wc wc0 (some (.ref x))) (cy : CY y bytes maxL rt n) (hl : Cond.methodLink own index y ∈ GG) (hi : Cond.instanceMethod y ∈ GG) (hse : Cond.selects C y y ∈ GG)
    (hc : vwCl[ci]? = some r) (hrC : r.1 = C) {k : Nat} (hq : wc[k]? = some (b, .inr (ci, fs))) (h1 : ws.Perm (wc ++ wr)) (h2 : ws'.Perm (wc0 ++ wr)) (ha : wc0.map Prod.fst = wc.map Prod.fst)
    (hn : As.length = n) (hs : ls.size = nL) (hst : st = As.reverse ++ .ref b :: rest) (hW : (rest.map fun v => v.category).sum ≤ 8) (hdg : decode cc pc = .ok (.invokevirtual index, 3)) (hR : fr + 1 ≤ R.frames ∧ 8 + (maxL + 11) + lo ≤ R.locals) (hf : cells ≤ R.cells ∧ slots ≤ R.slots)
    (kk : ∀ (H1 : Heap) (locs1 : List Loc), Nw E s B ws' H1 locs1 → W p l e R s m args below meth c H1 locs1 cells slots Q (F0 m (pc + 3) ls (.ref x :: rest))) : W p l e R s m args below meth c H locs cells slots Q (F0 m pc ls st) :=
  n_callV hC hN hM cy hl hi hse hc hrC hq h1 h2 ha hn hs hst hW hdg hR hf kk
end R3
theorem range_pick {α : Type} (ws : List α) : (List.range ws.length).filterMap (fun i => ws[i]?) = ws := by
  induction ws with
  | nil => rfl
  | cons a t ih =>
    rw [List.length_cons, List.range_succ_eq_map, List.filterMap_cons]
    simp only [List.getElem?_cons_zero, List.filterMap_map, Function.comp_def, List.getElem?_cons_succ]
    rw [ih]
theorem pl_perm {α : Type} (ws : List α) (n : Nat) (hn : ws.length = n) (is js : List Nat) (h : (is ++ js).Perm (List.range n)) : ws.Perm (is.filterMap (fun i => ws[i]?) ++ js.filterMap (fun i => ws[i]?)) := by
  rw [← List.filterMap_append]
  subst hn
  have h2 := h.filterMap (fun i => ws[i]?)
  rw [range_pick] at h2
  exact h2.symm
/-- worlds side by side -/
def cat : List va_W → va_W
  | [] => []
  | [b] => b
  | b :: bs => b ++ cat bs
theorem cat_flat : ∀ bs : List va_W, cat bs = bs.flatten
  | [] => rfl
  | [b] => by simp [cat]
  | b :: b2 :: bs => by
    show b ++ cat (b2 :: bs) = _
    rw [cat_flat (b2 :: bs)]
    simp
theorem cat_perm (bs : List va_W) (n : Nat) (hn : bs.length = n) (is js : List Nat) (h : (is ++ js).Perm (List.range n)) : (cat bs).Perm (cat (is.filterMap (fun i => bs[i]?)) ++ cat (js.filterMap (fun i => bs[i]?))) := by
  rw [cat_flat, cat_flat, cat_flat, ← List.flatten_append]
  have h2 := (pl_perm bs n hn is js h).flatMap_right id
  rw [List.flatMap_id, List.flatMap_id] at h2
  exact h2
def inB (i : Int32) (n : Nat) : Bool := decide (0 ≤ i.toInt) && decide (i.toInt < n)
theorem inB_iff {i : Int32} {n : Nat} : inB i n = true ↔ 0 ≤ i.toInt ∧ i.toInt < n := by simp [inB]
theorem inB_vp {i : Int32} {n : Nat} (h : inB i n = true) : vp_in i n := vp_in_iff.mpr (inB_iff.mp h)
def iushr (x y : Int32) : Int32 := (x.toUInt32 >>> (y.toUInt32 &&& Int32.toUInt32 31)).toInt32
def lushr (x : Int64) (y : Int32) : Int64 := (x.toUInt64 >>> (y.toInt64.toUInt64 &&& Int64.toUInt64 63)).toInt64
def lshl (x : Int64) (y : Int32) : Int64 := x <<< (y.toInt64 &&& 63)
theorem i_ne {x k : Int32} (h : ¬ x = k) : x.toInt ≠ k.toInt := fun e => h (Int32.toInt_inj.mp e)
abbrev WN (p : Program) (l : Launch) (e : Env) (fr lo : Nat) (s : State) (m : MethodId) (args : Array Value) (below : List Frame) (meth : Method) (c : Code) (E : EV) (w : va_W) (v0 : Option Value) (w0 : va_W) (H : Heap) (locs : List Loc) (g : JFrame) : Prop :=
  W p l e ({ frames := fr, cells := 0, slots := 0, locals := lo }) s m args below meth c H locs 0 0 (MQ below (QN E w v0 w0) args s 0 0 (AD w)) g
