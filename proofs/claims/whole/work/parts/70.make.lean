/-! making objects -/
def Ao (U : State) : Prop := va_AO "NamedFabric$Net" U
/-- what a constructor leaves: a world that 'post' tells of -/
def Qm (E : EV) (h0 ci : Nat) (fs : List Value) (sz : Nat) (post : va_W → Prop) : Array Value → State → Outcome → State → Prop :=
  va_Qv post (fun w1 t => va_P E.1 vwCl w1 t.heap ∧ va_D (va_A [(h0, .inr (ci, fs))] sz) w1) (va_A [(h0, .inr (ci, fs))] sz)
def Mk (l : Launch) (E : EV) (y : MethodName) (cc : ByteArray) (maxL fr ce sl lo ci : Nat) (fs : List Value) (post : Nat → va_W → Prop) : Prop := ∀ (h0 sz : Nat),
  Met l y (WS y cc maxL none) ({ frames := fr, cells := ce, slots := sl, locals := lo }) (va_Pc [.ref h0] (fun U => U.heap.size = sz ∧ va_P E.1 vwCl [(h0, .inr (ci, fs))] U.heap ∧ KK E U ∧ Ao U ∧ va_D (fun _ => True) [(h0, .inr (ci, fs))])) (Qm E h0 ci fs sz (post h0)) ce sl (va_A [(h0, .inr (ci, fs))] sz)
theorem Mk.ofW {l : Launch} {E : EV} {y : MethodName} {cc : ByteArray} {maxL fr ce sl lo ci : Nat} {fs : List Value} {post : Nat → va_W → Prop} (hy : plainName y.cls = true) (hyn : y.name = "<init>") (hA : 1 ≤ maxL)
    (body : ∀ (h0 : Nat) (p : Program) (e : Env) (s : State) (m : MethodId) (args : Array Value) (below : List Frame) (meth : Method) (c : Code) (ls : Array Slot), Cx p E s m args meth c cc maxL y.cls none → Ao s → meth.name = "<init>" → (∀ q, s.heap.size ≤ q → va_A [(h0, .inr (ci, fs))] s.heap.size q) → Nw E s (va_A [(h0, .inr (ci, fs))] s.heap.size) [(h0, .inr (ci, fs))] s.heap [] → lv_has ls maxL [(0, .ref h0)] →
      W p l e ({ frames := fr, cells := ce, slots := sl, locals := lo }) s m args below meth c s.heap [] 0 0 (MQ below (Qm E h0 ci fs s.heap.size (post h0)) args s ce sl (va_A [(h0, .inr (ci, fs))] s.heap.size)) (F0 m 0 ls [])) : Mk l E y cc maxL fr ce sl lo ci fs post := by
  intro h0 sz
  refine Met.ofW (cc := cc) (maxL := maxL) (ret := none) hy rfl ?_
  intro p e s m args below meth c s₁ B hml hv
  obtain ⟨rfl, hsz, hP, hK, hao, hD⟩ := hv
  subst hsz
  have hts := atoms_spec (ws := WS y cc maxL none) B.pre
  have hl := lv_entry [.ref h0] (n := maxL) hA
  rw [lg_entry_eq]
  have hin : meth.name = "<init>" := (name_of_methodNamed B.named B.method).1.trans hyn
  exact body h0 p e s m [.ref h0].toArray below meth c _ ⟨B.exec, B.bytes, hml, findClass_of_methodNamed B.named, fun w hw => hts w (List.mem_cons_of_mem _ hw), B.notSynchronized, B.returns, hK⟩ hao hin (fun q h => Or.inr h)
    ⟨hP, hD.self, va_S.rf⟩ hl
section R4
variable {p : Program} {l : Launch} {e : Env} {R : Room} {s : State} {m : MethodId} {args : Array Value} {below : List Frame} {meth : Method} {c : Code} {H : Heap} {locs : List Loc} {cells slots : Nat} {Q : State → Prop}
variable {cc : ByteArray} {pc nL : Nat} {ls : Array Slot} {rest : List Value} {E : EV} {own : String} {ret : Option FieldType} {B : Nat → Prop} {ws : va_W} {a : Nat}
theorem n_new {C : String} {T : u_T} {N ci index : Nat} (ty : Nat → FieldType) (hty : ∀ k, k < N → parseFieldDescriptor (T k).2.2.1 = some (ty k)) (hin : ∀ w ∈ u_ws C T N, w ∈ GG) (hc : vwCl[ci]? = some (C, T, N)) (hcl : Cond.classLink own index C ∈ GG) (hinst : Cond.instantiable C N ∈ GG) (hini : Cond.initialized C ∈ GG) (hC : Cx p E s m args meth c cc nL own ret) (hN : Nw E s B ws H locs) (hB : ∀ q, s.heap.size ≤ q → B q)
    {fs : List Value} (hfs : ∀ j, j < N → defaultValue (ty j) = vp_V fs j) (hcells : cells + 1 ≤ R.cells) (hslots : slots + N ≤ R.slots) (hdg : decode cc pc = .ok (.new index, 3))
    (kk : ∀ (q : Nat) (H1 : Heap), Nw E s B (ws ++ [(q, .inr (ci, fs))]) H1 locs → W p l e R s m args below meth c H1 locs (cells + 1) (slots + N) Q (F0 m (pc + 3) ls (.ref q :: rest))) : W p l e R s m args below meth c H locs cells slots Q (F0 m pc ls rest) :=
  va_new hC.1 hC.2.1 hC.2.2.2.2.1 hin ty hty hC.2.2.2.1 (hC.2.2.2.2.1 _ hcl) (hC.2.2.2.2.1 _ hinst) (hC.2.2.2.2.1 _ hini) hC.2.2.2.2.2.2.2.1 hN.1 hN.2.1 hN.2.2 hB hc hfs hcells hslots hdg (fun q H1 h1 h2 h3 => kk q H1 ⟨h1, h2, h3⟩)
theorem n_newI (hC : Cx p E s m args meth c cc nL own ret) (hN : Nw E s B ws H locs) (hB : ∀ q, s.heap.size ≤ q → B q) {n : Int32} (N : Nat) (hn : ¬ n < 0) (hNn : n.toNatClampNeg = N) (hN2 : N ≤ 1000) (hcells : cells + 1 ≤ R.cells) (hslots : slots + N ≤ R.slots) (hdg : decode cc pc = .ok (.newarray .int, 2))
    (kk : ∀ (q : Nat) (H1 : Heap), Nw E s B (ws ++ [(q, .inl (E.2 0, N, .inl (fun _ => 0)))]) H1 locs → W p l e R s m args below meth c H1 locs (cells + 1) (slots + N) Q (F0 m (pc + 2) ls (.ref q :: rest))) : W p l e R s m args below meth c H locs cells slots Q (F0 m pc ls (.int n :: rest)) :=
  va_newa (atype := .int) (ty := .int) (a0 := (N, .inl (fun _ => 0))) hC.1 hC.2.1 (hC.2.2.2.2.1 _ mAC_int) rfl hC.2.2.2.2.2.2.2.1 hN.1 hN.2.1 hN.2.2 hB (fun _ => rfl) hn hNn (by show N * 4 ≤ _; omega) hcells hslots hdg (fun q cA H1 h0 h1 h2 h3 => by
    have e1 : s.vm.findClass ("[" ++ FieldType.int.toString) = some cA := (h0.2 4 _ rfl).2
    have e2 : s.vm.findClass ("[" ++ FieldType.int.toString) = some (E.2 0) := (h0.2 0 _ rfl).2
    obtain rfl : cA = E.2 0 := Option.some.inj (e1.symm.trans e2)
    exact kk q H1 ⟨h1, h2, h3⟩)
theorem n_newL (hC : Cx p E s m args meth c cc nL own ret) (hN : Nw E s B ws H locs) (hB : ∀ q, s.heap.size ≤ q → B q) {n : Int32} (N : Nat) (hn : ¬ n < 0) (hNn : n.toNatClampNeg = N) (hN2 : N ≤ 1000) (hcells : cells + 1 ≤ R.cells) (hslots : slots + N ≤ R.slots) (hdg : decode cc pc = .ok (.newarray .long, 2))
    (kk : ∀ (q : Nat) (H1 : Heap), Nw E s B (ws ++ [(q, .inl (E.2 1, N, .inr (.inl (fun _ => 0))))]) H1 locs → W p l e R s m args below meth c H1 locs (cells + 1) (slots + N) Q (F0 m (pc + 2) ls (.ref q :: rest))) : W p l e R s m args below meth c H locs cells slots Q (F0 m pc ls (.int n :: rest)) :=
  va_newa (atype := .long) (ty := .long) (a0 := (N, .inr (.inl (fun _ => 0)))) hC.1 hC.2.1 (hC.2.2.2.2.1 _ mAC_long) rfl hC.2.2.2.2.2.2.2.1 hN.1 hN.2.1 hN.2.2 hB (fun _ => rfl) hn hNn (by show N * 8 ≤ _; omega) hcells hslots hdg (fun q cA H1 h0 h1 h2 h3 => by
    have e1 : s.vm.findClass ("[" ++ FieldType.long.toString) = some cA := (h0.2 4 _ rfl).2
    have e2 : s.vm.findClass ("[" ++ FieldType.long.toString) = some (E.2 1) := (h0.2 1 _ rfl).2
    obtain rfl : cA = E.2 1 := Option.some.inj (e1.symm.trans e2)
    exact kk q H1 ⟨h1, h2, h3⟩)
theorem n_newZ (hC : Cx p E s m args meth c cc nL own ret) (hN : Nw E s B ws H locs) (hB : ∀ q, s.heap.size ≤ q → B q) {n : Int32} (N : Nat) (hn : ¬ n < 0) (hNn : n.toNatClampNeg = N) (hN2 : N ≤ 1000) (hcells : cells + 1 ≤ R.cells) (hslots : slots + N ≤ R.slots) (hdg : decode cc pc = .ok (.newarray .boolean, 2))
    (kk : ∀ (q : Nat) (H1 : Heap), Nw E s B (ws ++ [(q, .inl (E.2 2, N, .inl (fun _ => 0)))]) H1 locs → W p l e R s m args below meth c H1 locs (cells + 1) (slots + N) Q (F0 m (pc + 2) ls (.ref q :: rest))) : W p l e R s m args below meth c H locs cells slots Q (F0 m pc ls (.int n :: rest)) :=
  va_newa (atype := .boolean) (ty := .boolean) (a0 := (N, .inl (fun _ => 0))) hC.1 hC.2.1 (hC.2.2.2.2.1 _ mAC_boolean) rfl hC.2.2.2.2.2.2.2.1 hN.1 hN.2.1 hN.2.2 hB (fun _ => rfl) hn hNn (by show N * 1 ≤ _; omega) hcells hslots hdg (fun q cA H1 h0 h1 h2 h3 => by
    have e1 : s.vm.findClass ("[" ++ FieldType.boolean.toString) = some cA := (h0.2 4 _ rfl).2
    have e2 : s.vm.findClass ("[" ++ FieldType.boolean.toString) = some (E.2 2) := (h0.2 2 _ rfl).2
    obtain rfl : cA = E.2 2 := Option.some.inj (e1.symm.trans e2)
    exact kk q H1 ⟨h1, h2, h3⟩)
theorem n_newQ {index : Nat} (hC : Cx p E s m args meth c cc nL own ret) (hao : Ao s) (hcl : Cond.classLink own index RX3 ∈ GG) (hN : Nw E s B ws H locs) (hB : ∀ q, s.heap.size ≤ q → B q) {n : Int32} (N : Nat) (hn : ¬ n < 0) (hNn : n.toNatClampNeg = N) (hN2 : N ≤ 1000) (hcells : cells + 1 ≤ R.cells) (hslots : slots + N ≤ R.slots) (hdg : decode cc pc = .ok (.anewarray index, 3))
    (kk : ∀ (q : Nat) (H1 : Heap), Nw E s B (ws ++ [(q, .inl (E.2 3, N, .inr (.inr (.inr (.inr (fun _ => none))))))]) H1 locs → W p l e R s m args below meth c H1 locs (cells + 1) (slots + N) Q (F0 m (pc + 3) ls (.ref q :: rest))) : W p l e R s m args below meth c H locs cells slots Q (F0 m pc ls (.int n :: rest)) :=
  va_newq (C := RX3) hC.1 hC.2.1 hC.2.2.2.1 (hC.2.2.2.2.1 _ hcl) hao hC.2.2.2.2.2.2.2.1 hN.1 hN.2.1 hN.2.2 hB hn hNn (by omega) hcells hslots hdg (fun q cA H1 h0 h1 h2 h3 => by
    obtain ⟨-, -, -, -, -, e1⟩ : va_RA s cA (.object RX3) := (h0.2 4 _ rfl).2
    obtain ⟨-, -, -, -, -, e2⟩ : va_RA s (E.2 3) (.object RX3) := (h0.2 3 _ rfl).2
    obtain rfl : cA = E.2 3 := Option.some.inj (e1.symm.trans e2)
    exact kk q H1 ⟨h1, h2, h3⟩)
theorem n_putF {C : String} {T : u_T} {N ci index : Nat} (k : Nat) (ty0 : Nat → FieldType) (hty : ∀ k, k < N → parseFieldDescriptor (T k).2.2.1 = some (ty0 k)) (hnm : ∀ a, a < N → ∀ b, b < N → a ≠ b → (T a).2.1 ≠ (T b).2.1) (hin : ∀ w ∈ u_ws C T N, w ∈ GG) (hc : vwCl[ci]? = some (C, T, N)) (hk : k < N) (hlink : Cond.fieldLink own index (T k).1 (T k).2.1 (T k).2.2.1 ∈ GG) (hfin : (T k).2.2.2 = true) (hdecl : (T k).1 = own) (hi2 : meth.name = "<init>")
    (hC : Cx p E s m args meth c cc nL own ret) (hN : Nw E s B ws H locs) (q0 : Nat) {fs : List Value} (he : ws[q0]? = some (a, .inr (ci, fs))) {v : Value} (hn : narrow (ty0 k) v = v) (hfit : fits (ty0 k) v = true) (hl : k < fs.length) {ws' : va_W} (hw' : ws.set q0 (a, .inr (ci, fs.set k v)) = ws')
    (hdg : decode cc pc = .ok (.putfield index, 3)) (kk : ∀ (H1 : Heap) (locs1 : List Loc), Nw E s B ws' H1 locs1 → W p l e R s m args below meth c H1 locs1 cells slots Q (F0 m (pc + 3) ls rest)) : W p l e R s m args below meth c H locs cells slots Q (F0 m pc ls (v :: .ref a :: rest)) := by
  subst hw'
  exact va_putF hC.1 hC.2.1 hC.2.2.2.2.1 hin ty0 hty hnm hC.2.2.2.1 hC.2.2.2.2.2.2.2.1 hN.1 hN.2.1 hN.2.2 q0 he hc k hk (hC.2.2.2.2.1 _ hlink) (fun _ h => h) hfin hi2 hdecl (hty k hk) hn hfit hl hdg (fun H1 locs1 h1 h2 h3 => kk H1 locs1 ⟨h1, h2, h3⟩)
theorem n_obj {idx : Nat} (hC : Cx p E s m args meth c cc nL own ret) (hlink : Cond.methodLink own idx objectInit ∈ GG) (hs : ls.size = nL) (hdg : decode cc pc = .ok (.invokespecial idx, 3)) (hf : 1 ≤ R.frames) (hlo : 12 ≤ R.locals) (kk : W p l e R s m args below meth c H locs cells slots Q (F0 m (pc + 3) ls [])) : W p l e R s m args below meth c H locs cells slots Q (F0 m pc ls [.ref a]) :=
  W.objInit hC.1 hC.2.1 hC.2.2.2.1 (hC.2.2.2.2.1 _ hlink) (hC.2.2.2.2.1 _ mIM_obj) (hC.2.2.2.2.1 _ mCO_obj) rfl (by rw [hC.2.2.1]; exact hs) rfl hdg hf (by show 0 + 0 + 12 ≤ _; omega) kk
theorem n_vretI {h0 ci ce sl : Nat} {fs : List Value} {post : va_W → Prop} {w1 : va_W} (hC : Cx p E s m args meth c cc nL own none) (hN : Nw E s (va_A [(h0, .inr (ci, fs))] s.heap.size) w1 H locs) (hp : post w1) (hc : cells ≤ ce) (hs : slots ≤ sl) (hdg : decode cc pc = .ok (.return_, 1)) : W p l e R s m args below meth c H locs cells slots (MQ below (Qm E h0 ci fs s.heap.size post) args s ce sl (va_A [(h0, .inr (ci, fs))] s.heap.size)) (F0 m pc ls []) :=
  W.widen hc hs (W.vret hC.1 hC.2.1 hC.2.2.2.2.2.2.1 (fun t ht hW => ⟨⟨w1, rfl, hp, by rw [ht]; exact hN.1, hN.2.1⟩, hN.2.2.F ht⟩) hN.2.2.2.2 hdg (hlocks := hC.2.2.2.2.2.1))
/-- behind a constructor -/
theorem n_made {y : MethodName} {bytes : ByteArray} {maxL fr lo ce sl ci b index : Nat} {fs : List Value} {post : Nat → va_W → Prop} (hC : Cx p E s m args meth c cc nL own ret) (hao : Ao s) (hN : Nw E s B (ws ++ [(b, .inr (ci, fs))]) H locs) (hB : ∀ q, s.heap.size ≤ q → B q) (hM : Mk l E y bytes maxL fr ce sl lo ci fs post) (cy : CY y bytes maxL none 0) (hyn : y.name = "<init>") (hi : Cond.instanceMethod y ∈ GG)
    (hl : (∃ host, Cond.methodLinkNest own index y host ∈ nestL) ∨ Cond.methodLink own index y ∈ GG) (hs : ls.size = nL) (hW : (rest.map fun v => v.category).sum ≤ 8) (hdg : decode cc pc = .ok (.invokespecial index, 3)) (hR : fr + 1 ≤ R.frames ∧ 8 + (maxL + 11) + lo ≤ R.locals) (hf : cells + ce ≤ R.cells ∧ slots + sl ≤ R.slots)
    (kk : ∀ (w1 : va_W) (H1 : Heap) (locs1 : List Loc), post b w1 → Nw E s B (ws ++ w1) H1 locs1 → W p l e R s m args below meth c H1 locs1 (cells + ce) (slots + sl) Q (F0 m (pc + 3) ls rest)) : W p l e R s m args below meth c H locs cells slots Q (F0 m pc ls (.ref b :: rest)) := by
  obtain ⟨hP, hD, hS⟩ := id hN
  have hPc : va_P E.1 vwCl [(b, .inr (ci, fs))] H := va_P.mem (fun q hq => hP.of q (List.mem_append_right _ hq))
  have hnd := hD.nd
  have hall := hD.all
  rw [List.map_append] at hnd hall
  have hDc : va_D B [(b, .inr (ci, fs))] := va_D.mk' (List.nodup_append.mp hnd).2.1 (fun q hq => hall q (List.mem_append_right _ hq))
  have hFc : ∀ q, va_A [(b, .inr (ci, fs))] H.size q → B q := by
    rintro q (⟨k, e, hk⟩ | h)
    · exact hDc.2 k (q, e) hk
    · exact hB q (Nat.le_trans hS.1 h)
  have pre : PreS s H (va_Pc [.ref b] (fun U => U.heap.size = H.size ∧ va_P E.1 vwCl [(b, .inr (ci, fs))] U.heap ∧ KK E U ∧ Ao U ∧ va_D (fun _ => True) [(b, .inr (ci, fs))])) [.ref b] :=
    ⟨fun a U g mk q => ⟨q.1, q.2.1, q.2.2.1, q.2.2.2.1.calling g mk a, va_AO.moved (u := U) (U := U.calling g mk a) (Vm.Alike.refl U.vm) q.2.2.2.2.1, q.2.2.2.2.2⟩, fun U hU hW => ⟨rfl, by rw [hU], by rw [hU]; exact hPc, hC.2.2.2.2.2.2.2.warm hW, va_AO.moved hW.alike hao, hDc.weaken (fun _ _ _ _ => trivial)⟩⟩
  have run : va_Run p l e R s m args below meth c H locs cells slots ce sl (F0 m pc ls (.ref b :: rest)) rest (Qm E b ci fs H.size (post b) [Value.ref b].toArray) (va_A [(b, .inr (ci, fs))] H.size) := by
    rcases hl with ⟨host, hl⟩ | hl
    · exact va_runIN (As := []) (rest := rest) ⟨hC.1, hC.2.1, hC.2.2.1, hC.2.2.2.1, hC.2.2.2.2.1⟩ (hM b H.size) ⟨va_cnB 0 hC.2.2.2.2.1 (ws_goodG cy.1) rfl rfl rfl (hC.2.2.2.2.2.2.2.2 _ hl) (hC.2.2.2.2.1 _ cy.2.1) ⟨cy.2.2.1.1, cy.2.2.1.2, cy.2.2.2⟩ hR, hyn, hC.2.2.2.2.1 _ hi⟩ pre rfl rfl hs rfl (lv_room hW) hdg hf
    · exact va_runI (As := []) (rest := rest) ⟨hC.1, hC.2.1, hC.2.2.1, hC.2.2.2.1, hC.2.2.2.2.1⟩ (hM b H.size) ⟨callB_of 0 hC.2.2.2.2.1 (ws_goodG cy.1) rfl rfl rfl (hC.2.2.2.2.1 _ cy.2.1) (hC.2.2.2.2.1 _ hl) ⟨cy.2.2.1.1, cy.2.2.1.2, cy.2.2.2⟩ hR, hyn, hC.2.2.2.2.1 _ hi⟩ pre rfl rfl hs rfl (lv_room hW) hdg hf
  refine va_callv run hS (fun q _ h => hFc q h) hFc (fun w1 t H1 locs1 ht hvm hw hB1 hz1 hk1 hS1 => ?_)
  obtain ⟨hP1, hD1⟩ := hB1
  rw [ht] at hP1
  have hapart : ∀ q ∈ ws, q.1 < H.size ∧ ¬ va_A [(b, .inr (ci, fs))] H.size q.1 := by
    intro q hq
    have hlt := (hP.of q (List.mem_append_left _ hq)).lt
    refine ⟨hlt, ?_⟩
    rintro (⟨k, e, hk⟩ | h)
    · have hm := List.mem_of_getElem? hk
      have : q.1 = b := by
        have := List.mem_singleton.mp hm
        exact congrArg Prod.fst this
      exact (List.nodup_append.mp hnd).2.2 q.1 (List.mem_map.mpr ⟨q, hq, rfl⟩) b (List.mem_map.mpr ⟨_, List.mem_singleton.mpr rfl, rfl⟩) this
    · omega
  refine kk w1 H1 locs1 hw ⟨va_P.app (va_P.mem (fun q hq => ?_)) hP1, va_D.mk' ?_ (fun q hq => ?_), hS1⟩
  · exact (hP.of q (List.mem_append_left _ hq)).kept (hk1 q.1 (hapart q hq).1 (hapart q hq).2)
  · rw [List.map_append, List.nodup_append]
    refine ⟨(List.nodup_append.mp hnd).1, hD1.nd, fun x hx y hy hxy => ?_⟩
    obtain ⟨q, hq, rfl⟩ := List.mem_map.mp hx
    subst hxy
    exact (hapart q hq).2 (hD1.all _ hy)
  · rw [List.map_append] at hq
    rcases List.mem_append.mp hq with h | h
    · exact hall q (List.mem_append_left _ h)
    · exact hFc q (hD1.all q h)
end R4
