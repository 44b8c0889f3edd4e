/-! THE LAYER: methods that make no cell; a contract says: from the world w it returns v0, and the world is w0 -/
abbrev EV : Type := va_G × (Nat → ClassId)
def Nst (U : State) : Prop := ∀ w ∈ nestL, va_Nw w U
theorem nestL_form : ∀ w ∈ nestL, ∃ (a : String) (i : Nat) (y : MethodName) (h : String), w = .methodLinkNest a i y h := by
  intro w hw
  simp only [nestL, List.mem_cons, List.not_mem_nil, or_false] at hw
  rcases hw with rfl | rfl | rfl | rfl | rfl | rfl | rfl | rfl | rfl | rfl | rfl | rfl | rfl | rfl <;> exact ⟨_, _, _, _, rfl⟩
theorem Nst.warm {s U : State} (hW : s.WarmedH U.vm) (h : Nst s) : Nst U := by
  intro w hw
  obtain ⟨a, i, y, k, rfl⟩ := nestL_form w hw
  exact va_Nw.warmM hW (h _ hw)
theorem Nst.calling {U : State} (g : JFrame) (mk : MethodId) (a : Array Value) (h : Nst U) : Nst (U.calling g mk a) := by
  intro w hw
  obtain ⟨x, i, y, k, rfl⟩ := nestL_form w hw
  exact va_Nw.same rfl (u := U) (U := U.calling g mk a) rfl (h _ hw)
abbrev tyL (E : EV) : List (ClassId × FieldType) := [(E.2 0, .int), (E.2 1, .long), (E.2 2, .boolean), (E.2 3, .object "NamedFabric$Net")]
def KK (E : EV) (U : State) : Prop := va_K E.1 vwCl (tyL E) U ∧ Nst U
theorem KK.warm {E : EV} {s U : State} (hW : s.WarmedH U.vm) (h : KK E s) : KK E U := ⟨va_K.moved hW.alike h.1, h.2.warm hW⟩
theorem KK.calling {E : EV} {U : State} (g : JFrame) (mk : MethodId) (a : Array Value) (h : KK E U) : KK E (U.calling g mk a) :=
  ⟨va_K.moved (u := U) (U := U.calling g mk a) (Vm.Alike.refl U.vm) h.1, h.2.calling g mk a⟩
/-- the addresses of a world -/
def AD (w : va_W) : Nat → Prop := fun q => q ∈ w.map Prod.fst
def QN (E : EV) (w : va_W) (v0 : Option Value) (w0 : va_W) : Array Value → State → Outcome → State → Prop := fun _ st oc t =>
  oc = .returned v0 ∧ va_P E.1 vwCl w0 t.heap ∧ va_F (AD w) st t
/-- a method's contract at these arguments and this world -/
def Cn (l : Launch) (E : EV) (y : MethodName) (cc : ByteArray) (maxL : Nat) (ret : Option FieldType) (fr lo : Nat) (As : List Value) (w w0 : va_W) (v0 : Option Value) : Prop :=
  Met l y (WS y cc maxL ret) ({ frames := fr, cells := 0, slots := 0, locals := lo }) (va_Pc As (fun U => va_P E.1 vwCl w U.heap ∧ KK E U ∧ va_D (fun _ => True) w)) (QN E w v0 w0) 0 0 (AD w)
/-- what stays so through a method -/
def Cx (p : Program) (E : EV) (s : State) (m : MethodId) (args : Array Value) (meth : Method) (c : Code) (cc : ByteArray) (nL : Nat) (own : String) (ret : Option FieldType) : Prop :=
  p.tables.exec = Jvm.exec ∧ c.code = cc ∧ c.maxLocals = nL ∧ s.vm.findClass own = some m.cls ∧ (∀ w ∈ GG, w.before args s = true) ∧ meth.locks = false ∧ meth.sig.returnType = ret ∧ KK E s
/-- the world now -/
def Nw (E : EV) (s : State) (B : Nat → Prop) (ws : va_W) (H : Heap) (locs : List Loc) : Prop := va_P E.1 vwCl ws H ∧ va_D B ws ∧ va_S B s.heap H locs
theorem AD.in {w : va_W} {k : Nat} {q : Nat × va_E} (h : w[k]? = some q) : AD w q.1 := List.mem_map.mpr ⟨q, List.mem_of_getElem? h, rfl⟩
theorem Cn.ofW {l : Launch} {E : EV} {y : MethodName} {cc : ByteArray} {maxL : Nat} {ret : Option FieldType} {fr lo : Nat} {As : List Value} {w w0 : va_W} {v0 : Option Value}
    (hy : plainName y.cls = true) (hA : (lg_sl As).length ≤ maxL)
    (body : ∀ (p : Program) (e : Env) (s : State) (m : MethodId) (args : Array Value) (below : List Frame) (meth : Method) (c : Code) (ls : Array Slot), Cx p E s m args meth c cc maxL y.cls ret → Nw E s (AD w) w s.heap [] → lv_has ls maxL (lv_args 0 As) →
      W p l e ({ frames := fr, cells := 0, slots := 0, locals := lo }) s m args below meth c s.heap [] 0 0 (MQ below (QN E w v0 w0) args s 0 0 (AD w)) (F0 m 0 ls [])) : Cn l E y cc maxL ret fr lo As w w0 v0 := by
  refine Met.ofW (cc := cc) (maxL := maxL) (ret := ret) hy rfl ?_
  intro p e s m args below meth c s₁ B hml hv
  obtain ⟨rfl, hP, hK, hD⟩ := hv
  have hts := atoms_spec (ws := WS y cc maxL ret) B.pre
  have hl := lv_entry As (n := maxL) hA
  rw [lg_entry_eq]
  exact body p e s m As.toArray below meth c _ ⟨B.exec, B.bytes, hml, findClass_of_methodNamed B.named, fun w hw => hts w (List.mem_cons_of_mem _ hw), B.notSynchronized, B.returns, hK⟩
    ⟨hP, ⟨hD.1, fun k q hk => AD.in hk⟩, va_S.rf⟩ hl
section R1
variable {p : Program} {l : Launch} {e : Env} {R : Room} {s : State} {m : MethodId} {args : Array Value} {below : List Frame} {meth : Method} {c : Code} {H : Heap} {locs : List Loc} {cells slots : Nat} {Q : State → Prop}
variable {cc : ByteArray} {pc nL : Nat} {ls : Array Slot} {rest : List Value} {E : EV} {own : String} {ret : Option FieldType} {B : Nat → Prop} {ws : va_W} {a : Nat}
theorem n_get {C : String} {T : u_T} {N ci index : Nat} (k : Nat) (hin : ∀ w ∈ u_ws C T N, w ∈ GG) (hc : vwCl[ci]? = some (C, T, N)) (hk : k < N) (hlink : Cond.fieldLink own index (T k).1 (T k).2.1 (T k).2.2.1 ∈ GG)
    (hC : Cx p E s m args meth c cc nL own ret) (hN : Nw E s B ws H locs) (q0 : Nat) {fs : List Value} (he : ws[q0]? = some (a, .inr (ci, fs))) {v : Value} (hv : fs[k]? = some v) (hdg : decode cc pc = .ok (.getfield index, 3))
    (kk : W p l e R s m args below meth c H locs cells slots Q (F0 m (pc + 3) ls (v :: rest))) : W p l e R s m args below meth c H locs cells slots Q (F0 m pc ls (.ref a :: rest)) :=
  va_get hC.1 hC.2.1 hC.2.2.2.2.1 hin hC.2.2.2.1 hC.2.2.2.2.2.2.2.1 hN.1 q0 he hc k hk (hC.2.2.2.2.1 _ hlink) (fun _ h => h) hv hdg kk
theorem n_put {C : String} {T : u_T} {N ci index : Nat} (k : Nat) (ty0 : Nat → FieldType) (hty : ∀ k, k < N → parseFieldDescriptor (T k).2.2.1 = some (ty0 k)) (hnm : ∀ a, a < N → ∀ b, b < N → a ≠ b → (T a).2.1 ≠ (T b).2.1) (hin : ∀ w ∈ u_ws C T N, w ∈ GG) (hc : vwCl[ci]? = some (C, T, N)) (hk : k < N) (hlink : Cond.fieldLink own index (T k).1 (T k).2.1 (T k).2.2.1 ∈ GG) (hfin : (T k).2.2.2 = false)
    (hC : Cx p E s m args meth c cc nL own ret) (hN : Nw E s B ws H locs) (q0 : Nat) {fs : List Value} (he : ws[q0]? = some (a, .inr (ci, fs))) {v : Value} (hn : narrow (ty0 k) v = v) (hfit : fits (ty0 k) v = true) (hl : k < fs.length) {ws' : va_W} (hw' : ws.set q0 (a, .inr (ci, fs.set k v)) = ws')
    (hdg : decode cc pc = .ok (.putfield index, 3)) (kk : ∀ (H1 : Heap) (locs1 : List Loc), Nw E s B ws' H1 locs1 → W p l e R s m args below meth c H1 locs1 cells slots Q (F0 m (pc + 3) ls rest)) : W p l e R s m args below meth c H locs cells slots Q (F0 m pc ls (v :: .ref a :: rest)) := by
  subst hw'
  exact va_put hC.1 hC.2.1 hC.2.2.2.2.1 hin ty0 hty hnm hC.2.2.2.1 hC.2.2.2.2.2.2.2.1 hN.1 hN.2.1 hN.2.2 q0 he hc k hk (hC.2.2.2.2.1 _ hlink) (fun _ h => h) hfin (hty k hk) hn hfit hl hdg (fun H1 locs1 h1 h2 h3 => kk H1 locs1 ⟨h1, h2, h3⟩)
theorem n_iald (hC : Cx p E s m args meth c cc nL own ret) (hN : Nw E s B ws H locs) (q0 : Nat) {n : Nat} {f : Nat → Int32} (ha : ws[q0]? = some (a, .inl (E.2 0, n, .inl f))) {i : Int32} (hin : vp_in i n) (hdg : decode cc pc = .ok (.iaload, 1))
    (kk : W p l e R s m args below meth c H locs cells slots Q (F0 m (pc + 1) ls (.int (f i.toNatClampNeg) :: rest))) : W p l e R s m args below meth c H locs cells slots Q (F0 m pc ls (.int i :: .ref a :: rest)) :=
  va_iald hC.1 hC.2.1 hC.2.2.2.2.2.2.2.1 hN.1 q0 0 ha rfl hin hdg kk
theorem n_lald (hC : Cx p E s m args meth c cc nL own ret) (hN : Nw E s B ws H locs) (q0 : Nat) {n : Nat} {f : Nat → Int64} (ha : ws[q0]? = some (a, .inl (E.2 1, n, .inr (.inl f)))) {i : Int32} (hin : vp_in i n) (hdg : decode cc pc = .ok (.laload, 1))
    (kk : W p l e R s m args below meth c H locs cells slots Q (F0 m (pc + 1) ls (.long (f i.toNatClampNeg) :: rest))) : W p l e R s m args below meth c H locs cells slots Q (F0 m pc ls (.int i :: .ref a :: rest)) :=
  va_lald hC.1 hC.2.1 hC.2.2.2.2.2.2.2.1 hN.1 q0 1 ha rfl hin hdg kk
theorem n_zald (hC : Cx p E s m args meth c cc nL own ret) (hN : Nw E s B ws H locs) (q0 : Nat) {n : Nat} {f : Nat → Int32} (ha : ws[q0]? = some (a, .inl (E.2 2, n, .inl f))) {i : Int32} (hin : vp_in i n) (hdg : decode cc pc = .ok (.baload, 1))
    (kk : W p l e R s m args below meth c H locs cells slots Q (F0 m (pc + 1) ls (.int (f i.toNatClampNeg) :: rest))) : W p l e R s m args below meth c H locs cells slots Q (F0 m pc ls (.int i :: .ref a :: rest)) :=
  va_zald hC.1 hC.2.1 hC.2.2.2.2.2.2.2.1 hN.1 q0 2 ha rfl hin hdg kk
theorem n_aald (hC : Cx p E s m args meth c cc nL own ret) (hN : Nw E s B ws H locs) (q0 : Nat) {n : Nat} {f : Nat → Option Nat} (ha : ws[q0]? = some (a, .inl (E.2 3, n, .inr (.inr (.inr (.inr f)))))) {i : Int32} (hin : vp_in i n) {b : Nat} (hb : f i.toNatClampNeg = some b) (hdg : decode cc pc = .ok (.aaload, 1))
    (kk : W p l e R s m args below meth c H locs cells slots Q (F0 m (pc + 1) ls (.ref b :: rest))) : W p l e R s m args below meth c H locs cells slots Q (F0 m pc ls (.int i :: .ref a :: rest)) :=
  va_aldq hC.1 hC.2.1 hC.2.2.2.2.2.2.2.1 hN.1 q0 3 ha rfl hin hdg (by rw [hb]; exact kk)
theorem n_alen (hC : Cx p E s m args meth c cc nL own ret) (hN : Nw E s B ws H locs) (q0 : Nat) {x : vp_A} (ha : ws[q0]? = some (a, .inl (E.2 0, x))) {v : Int32} (hv : Int32.ofNat x.1 = v) (hdg : decode cc pc = .ok (.arraylength, 1))
    (kk : W p l e R s m args below meth c H locs cells slots Q (F0 m (pc + 1) ls (.int v :: rest))) : W p l e R s m args below meth c H locs cells slots Q (F0 m pc ls (.ref a :: rest)) :=
  va_alen hC.1 hC.2.1 hC.2.2.2.2.2.2.2.1 hN.1 q0 0 ha rfl hv hdg kk
theorem n_iast (hC : Cx p E s m args meth c cc nL own ret) (hN : Nw E s B ws H locs) (q0 : Nat) {n : Nat} {f : Nat → Int32} (ha : ws[q0]? = some (a, .inl (E.2 0, n, .inl f))) {i x : Int32} (hin : vp_in i n) {f' : Nat → Int32} (hf' : f' = upd f i.toNatClampNeg x) {ws' : va_W} (hw' : ws.set q0 (a, .inl (E.2 0, n, .inl f')) = ws') (hdg : decode cc pc = .ok (.iastore, 1))
    (kk : ∀ (H1 : Heap) (locs1 : List Loc), Nw E s B ws' H1 locs1 → W p l e R s m args below meth c H1 locs1 cells slots Q (F0 m (pc + 1) ls rest)) : W p l e R s m args below meth c H locs cells slots Q (F0 m pc ls (.int x :: .int i :: .ref a :: rest)) := by
  subst hf' hw'
  exact va_iast hC.1 hC.2.1 hC.2.2.2.2.2.2.2.1 hN.1 hN.2.1 hN.2.2 q0 0 ha rfl hin hdg (fun H1 locs1 h1 h2 h3 => kk H1 locs1 ⟨h1, h2, h3⟩)
theorem n_zast (hC : Cx p E s m args meth c cc nL own ret) (hN : Nw E s B ws H locs) (q0 : Nat) {n : Nat} {f : Nat → Int32} (ha : ws[q0]? = some (a, .inl (E.2 2, n, .inl f))) {i x : Int32} (hin : vp_in i n) {f' : Nat → Int32} (hf' : f' = upd f i.toNatClampNeg (vp_nar .boolean x)) {ws' : va_W} (hw' : ws.set q0 (a, .inl (E.2 2, n, .inl f')) = ws') (hdg : decode cc pc = .ok (.bastore, 1))
    (kk : ∀ (H1 : Heap) (locs1 : List Loc), Nw E s B ws' H1 locs1 → W p l e R s m args below meth c H1 locs1 cells slots Q (F0 m (pc + 1) ls rest)) : W p l e R s m args below meth c H locs cells slots Q (F0 m pc ls (.int x :: .int i :: .ref a :: rest)) := by
  subst hf' hw'
  exact va_zast hC.1 hC.2.1 hC.2.2.2.2.2.2.2.1 hN.1 hN.2.1 hN.2.2 q0 2 ha rfl hin hdg (fun H1 locs1 h1 h2 h3 => kk H1 locs1 ⟨h1, h2, h3⟩)
theorem n_last (hC : Cx p E s m args meth c cc nL own ret) (hN : Nw E s B ws H locs) (q0 : Nat) {n : Nat} {f : Nat → Int64} (ha : ws[q0]? = some (a, .inl (E.2 1, n, .inr (.inl f)))) {i : Int32} {x : Int64} (hin : vp_in i n) {f' : Nat → Int64} (hf' : f' = vp_updL f i.toNatClampNeg x) {ws' : va_W} (hw' : ws.set q0 (a, .inl (E.2 1, n, .inr (.inl f'))) = ws') (hdg : decode cc pc = .ok (.lastore, 1))
    (kk : ∀ (H1 : Heap) (locs1 : List Loc), Nw E s B ws' H1 locs1 → W p l e R s m args below meth c H1 locs1 cells slots Q (F0 m (pc + 1) ls rest)) : W p l e R s m args below meth c H locs cells slots Q (F0 m pc ls (.long x :: .int i :: .ref a :: rest)) := by
  subst hf' hw'
  exact va_last hC.1 hC.2.1 hC.2.2.2.2.2.2.2.1 hN.1 hN.2.1 hN.2.2 q0 1 ha rfl hin hdg (fun H1 locs1 h1 h2 h3 => kk H1 locs1 ⟨h1, h2, h3⟩)
variable {w w0 : va_W}
theorem n_iret (hC : Cx p E s m args meth c cc nL own (some .int)) (hN : Nw E s (AD w) w0 H locs) {v : Int32} (hdg : decode cc pc = .ok (.ireturn, 1)) : W p l e R s m args below meth c H locs cells slots (MQ below (QN E w (some (.int v)) w0) args s cells slots (AD w)) (F0 m pc ls [.int v]) :=
  W.iret hC.1 hC.2.1 hC.2.2.2.2.2.2.1 (fun t ht hW => ⟨rfl, by rw [ht]; exact hN.1, hN.2.2.F ht⟩) hN.2.2.2.2 hdg (hlocks := hC.2.2.2.2.2.1)
theorem n_lret (hC : Cx p E s m args meth c cc nL own (some .long)) (hN : Nw E s (AD w) w0 H locs) {v : Int64} (hdg : decode cc pc = .ok (.lreturn, 1)) : W p l e R s m args below meth c H locs cells slots (MQ below (QN E w (some (.long v)) w0) args s cells slots (AD w)) (F0 m pc ls [.long v]) :=
  W.lret hC.1 hC.2.1 hC.2.2.2.2.2.2.1 (fun t ht hW => ⟨rfl, by rw [ht]; exact hN.1, hN.2.2.F ht⟩) hN.2.2.2.2 hdg (hlocks := hC.2.2.2.2.2.1)
theorem n_vret (hC : Cx p E s m args meth c cc nL own none) (hN : Nw E s (AD w) w0 H locs) (hdg : decode cc pc = .ok (.return_, 1)) : W p l e R s m args below meth c H locs cells slots (MQ below (QN E w none w0) args s cells slots (AD w)) (F0 m pc ls []) :=
  W.vret hC.1 hC.2.1 hC.2.2.2.2.2.2.1 (fun t ht hW => ⟨rfl, by rw [ht]; exact hN.1, hN.2.2.F ht⟩) hN.2.2.2.2 hdg (hlocks := hC.2.2.2.2.2.1)
theorem isB {v : Int32} (h : v = 0 ∨ v = 1) : narrow .boolean (.int v) = .int v := by rcases h with rfl | rfl <;> rfl
theorem isBf {v : Int32} (h : v = 0 ∨ v = 1) : fits .boolean (.int v) = true := by rcases h with rfl | rfl <;> rfl
theorem n_zret (hC : Cx p E s m args meth c cc nL own (some .boolean)) (hN : Nw E s (AD w) w0 H locs) {v : Int32} (hv : v = 0 ∨ v = 1) (hdg : decode cc pc = .ok (.ireturn, 1)) : W p l e R s m args below meth c H locs cells slots (MQ below (QN E w (some (.int v)) w0) args s cells slots (AD w)) (F0 m pc ls [.int v]) :=
  W.zret hC.1 hC.2.1 hC.2.2.2.2.2.2.1 (isB hv) (fun t ht hW => ⟨rfl, by rw [ht]; exact hN.1, hN.2.2.F ht⟩) hN.2.2.2.2 hdg (hlocks := hC.2.2.2.2.2.1)
theorem n_aret {C : String} (hC : Cx p E s m args meth c cc nL own (some (.object C))) (hN : Nw E s (AD w) w0 H locs) {v : Nat} (hdg : decode cc pc = .ok (.areturn, 1)) : W p l e R s m args below meth c H locs cells slots (MQ below (QN E w (some (.ref v)) w0) args s cells slots (AD w)) (F0 m pc ls [.ref v]) :=
  W.aret hC.1 hC.2.1 hC.2.2.2.2.2.2.1 (Or.inl ⟨C, rfl⟩) (Or.inr ⟨v, rfl⟩) (fun t ht hW => ⟨rfl, by rw [ht]; exact hN.1, hN.2.2.F ht⟩) hN.2.2.2.2 hdg (hlocks := hC.2.2.2.2.2.1)
/-- what the tables say of a callee -/
def CY (y : MethodName) (cc : ByteArray) (n : Nat) (r : Option FieldType) (k : Nat) : Prop :=
  Cond.code y cc n r ∈ GG ∧ Cond.initialized y.cls ∈ GG ∧ (y.cls ≠ "java/lang/invoke/MethodHandle" ∧ y.cls ≠ "java/lang/invoke/VarHandle") ∧ (parseMethodDescriptor y.desc).map (fun d => d.parameters.length) = some k
theorem n_blind {As : List Value} : FrameBlind (va_Pc As (fun U => va_P E.1 vwCl w U.heap ∧ KK E U ∧ va_D (fun _ => True) w)) := fun a U g mk q => ⟨q.1, q.2.1, q.2.2.1.calling g mk a, q.2.2.2⟩
theorem n_atU {As : List Value} (hC : Cx p E s m args meth c cc nL own ret) (hP : va_P E.1 vwCl w H) (hD : va_D B w) : ∀ U : State, U.heap = H → s.WarmedH U.vm → va_Pc As (fun U => va_P E.1 vwCl w U.heap ∧ KK E U ∧ va_D (fun _ => True) w) As.toArray U :=
  fun U hU hW => ⟨rfl, by rw [hU]; exact hP, hC.2.2.2.2.2.2.2.warm hW, hD.weaken (fun _ _ _ _ => trivial)⟩
theorem n_B {y : MethodName} {bytes : ByteArray} {maxL fr lo n index : Nat} {rt : Option FieldType} (hC : Cx p E s m args meth c cc nL own ret) (cy : CY y bytes maxL rt n) (hl : Cond.methodLink own index y ∈ GG) (hR : fr + 1 ≤ R.frames ∧ 8 + (maxL + 11) + lo ≤ R.locals) :
    CallB R s args own index y bytes maxL rt (WS y bytes maxL rt) ({ frames := fr, cells := 0, slots := 0, locals := lo }) 0 0 n :=
  callB_of n hC.2.2.2.2.1 (ws_goodG cy.1) rfl rfl rfl (hC.2.2.2.2.1 _ cy.2.1) (hC.2.2.2.2.1 _ hl) ⟨cy.2.2.1.1, cy.2.2.1.2, cy.2.2.2⟩ hR
theorem n_CN {y : MethodName} {bytes : ByteArray} {maxL fr lo n index : Nat} {rt : Option FieldType} {host : String} (hC : Cx p E s m args meth c cc nL own ret) (cy : CY y bytes maxL rt n) (hl : Cond.methodLinkNest own index y host ∈ nestL) (hR : fr + 1 ≤ R.frames ∧ 8 + (maxL + 11) + lo ≤ R.locals) :
    va_CN R s args own index y host bytes maxL rt (WS y bytes maxL rt) ({ frames := fr, cells := 0, slots := 0, locals := lo }) 0 0 n :=
  va_cnB n hC.2.2.2.2.1 (ws_goodG cy.1) rfl rfl rfl (hC.2.2.2.2.2.2.2.2 _ hl) (hC.2.2.2.2.1 _ cy.2.1) ⟨cy.2.2.1.1, cy.2.2.1.2, cy.2.2.2⟩ hR
end R1
section R2
variable {p : Program} {l : Launch} {e : Env} {R : Room} {s : State} {m : MethodId} {args : Array Value} {below : List Frame} {meth : Method} {c : Code} {H : Heap} {locs : List Loc} {cells slots : Nat} {Q : State → Prop}
variable {cc : ByteArray} {pc nL : Nat} {ls : Array Slot} {rest st : List Value} {E : EV} {own : String} {ret : Option FieldType} {B : Nat → Prop} {ws ws' wc wc0 wr : va_W} {a : Nat}
theorem va_P.mem {D : va_G} {cl : List vw_C} (h : ∀ q ∈ ws, va_at D cl q H) : va_P D cl ws H := fun k q hk => h q (List.mem_of_getElem? hk)
theorem va_P.of {D : va_G} {cl : List vw_C} (h : va_P D cl ws H) : ∀ q ∈ ws, va_at D cl q H := fun q hq => by
  obtain ⟨k, hk⟩ := List.getElem?_of_mem hq
  exact h k q hk
theorem va_P.perm {D : va_G} {cl : List vw_C} (h : va_P D cl ws H) (hp : ws.Perm ws') : va_P D cl ws' H := va_P.mem (fun q hq => h.of q (hp.mem_iff.mpr hq))
theorem nd_inj : ∀ {l : List Nat}, l.Nodup → ∀ (i j a : Nat), l[i]? = some a → l[j]? = some a → i = j := by
  intro l hl i j a hi hj
  obtain ⟨h1, e1⟩ := List.getElem?_eq_some_iff.mp hi
  obtain ⟨h2, e2⟩ := List.getElem?_eq_some_iff.mp hj
  have hp := List.pairwise_iff_getElem.mp (List.nodup_iff_pairwise_ne.mp hl)
  rcases Nat.lt_trichotomy i j with h | h | h
  · exact absurd (e1.trans e2.symm) (hp i j h1 h2 h)
  · exact h
  · exact absurd (e2.trans e1.symm) (hp j i h2 h1 h)
theorem va_D.nd (h : va_D B ws) : (ws.map Prod.fst).Nodup := by
  rw [List.nodup_iff_pairwise_ne, List.pairwise_iff_getElem]
  intro i j hi hj hij he
  rw [List.length_map] at hi hj
  rw [List.getElem_map, List.getElem_map] at he
  have := h.1 i j _ _ (List.getElem?_eq_getElem hi) (List.getElem?_eq_getElem hj) he
  omega
theorem va_D.mk' (h : (ws.map Prod.fst).Nodup) (h2 : ∀ q ∈ ws.map Prod.fst, B q) : va_D B ws := by
  refine ⟨fun i j x y hi hj he => ?_, fun k q hk => h2 _ (List.mem_map.mpr ⟨q, List.mem_of_getElem? hk, rfl⟩)⟩
  exact nd_inj h i j x.1 (by rw [List.getElem?_map, hi]; rfl) (by rw [List.getElem?_map, hj, he]; rfl)
theorem va_D.all (h : va_D B ws) : ∀ q ∈ ws.map Prod.fst, B q := fun q hq => by
  obtain ⟨x, hx, rfl⟩ := List.mem_map.mp hq
  obtain ⟨k, hk⟩ := List.getElem?_of_mem hx
  exact h.2 k x hk
theorem va_D.perm (h : va_D B ws) (hp : (ws.map Prod.fst).Perm (ws'.map Prod.fst)) : va_D B ws' := va_D.mk' (hp.nodup_iff.mp h.nd) (fun q hq => h.all q (hp.mem_iff.mpr hq))
/-- behind a call -/
theorem n_join (hN : Nw E s B ws H locs) (h1 : ws.Perm (wc ++ wr)) (h2 : ws'.Perm (wc0 ++ wr)) (ha : wc0.map Prod.fst = wc.map Prod.fst) {H1 : Heap} {locs1 : List Loc} (hP1 : va_P E.1 vwCl wc0 H1) (hk : ∀ q : Nat, q < H.size → ¬ AD wc q → H1[q]? = H[q]?) (hS : va_S B s.heap H1 locs1) : Nw E s B ws' H1 locs1 := by
  have hD1 := hN.2.1.perm (h1.map Prod.fst)
  have hnd := hD1.nd
  refine ⟨va_P.perm (va_P.app hP1 (va_P.mem (fun q hq => ?_))) h2.symm, hN.2.1.perm ?_, hS⟩
  · have h3 : va_at E.1 vwCl q H := hN.1.of q (h1.mem_iff.mpr (List.mem_append_right _ hq))
    refine h3.kept (hk q.1 h3.lt (fun hm => ?_))
    rw [List.map_append] at hnd
    exact (List.nodup_append.mp hnd).2.2 q.1 hm q.1 (List.mem_map.mpr ⟨q, hq, rfl⟩) rfl
  · refine (h1.map Prod.fst).trans (List.Perm.trans ?_ (h2.map Prod.fst).symm)
    rw [List.map_append, List.map_append, ha]
theorem n_sub (hN : Nw E s B ws H locs) (h1 : ws.Perm (wc ++ wr)) : va_P E.1 vwCl wc H ∧ va_D B wc ∧ ∀ q, AD wc q → B q := by
  have hD1 := hN.2.1.perm (h1.map Prod.fst)
  have hnd := hD1.nd
  have hall := hD1.all
  rw [List.map_append] at hnd hall
  refine ⟨va_P.mem (fun q hq => hN.1.of q (h1.mem_iff.mpr (List.mem_append_left _ hq))), va_D.mk' (List.nodup_append.mp hnd).1 (fun q hq => hall q (List.mem_append_left _ hq)), fun q hq => hall q (List.mem_append_left _ hq)⟩
theorem n_after {v0 : Option Value} {free : Addr → Prop} {a' : Array Value} (hr : va_Run p l e R s m args below meth c H locs cells slots 0 0 (F0 m pc ls st) rest (QN E wc v0 wc0 a') (AD wc)) (hN : Nw E s B ws H locs) (h1 : ws.Perm (wc ++ wr)) (h2 : ws'.Perm (wc0 ++ wr)) (ha : wc0.map Prod.fst = wc.map Prod.fst)
    (kk : ∀ (H1 : Heap) (locs1 : List Loc), Nw E s B ws' H1 locs1 → W p l e R s m args below meth c H1 locs1 cells slots Q (F0 m (pc + 3) ls (v0.toList ++ rest))) : W p l e R s m args below meth c H locs cells slots Q (F0 m pc ls st) := by
  intro T hT X
  obtain ⟨hPc, hDc, hB⟩ := n_sub hN h1
  obtain ⟨v, st₀, t, T', L, h0, X', hL, e1, e2, ⟨hv, hP1, hz, hk⟩, stp⟩ := hr T hT X
  cases hv
  rw [h0] at hz hk
  have hS := hN.2.2
  obtain ⟨t2, a1, b1⟩ := kk T'.heap (locs ++ L) (n_join hN h1 h2 ha (by rw [e1]; exact hP1) (fun q h1 h2 => by rw [e1]; exact hk q h1 h2)
    ⟨Nat.le_trans hS.1 (by rw [e1]; exact hz), fun q h1 h2 => by rw [e1, hk q (Nat.lt_of_lt_of_le h1 hS.1) (fun z => h2 (hB q z))]; exact hS.2.1 q h1 h2, fun q hq => by
      rcases List.mem_append.mp hq with h | h
      · exact hS.2.2 q h
      · exact hB _ (hL q h)⟩) T' rfl X'
  exact ⟨t2, stp t2 a1, b1⟩
variable {y : MethodName} {bytes : ByteArray} {maxL fr lo n index : Nat} {rt : Option FieldType} {As : List Value} {v0 : Option Value} {b : Nat}
/-- a call of a method of an object; the rest of the world stays -/
theorem n_callV {C : String} {ci : Nat} {r : vw_C} {fs : List Value} (hC : Cx p E s m args meth c cc nL own ret) (hN : Nw E s B ws H locs) (hM : Cn l E y bytes maxL rt fr lo (.ref b :: As) wc wc0 v0) (cy : CY y bytes maxL rt n) (hl : Cond.methodLink own index y ∈ GG) (hi : Cond.instanceMethod y ∈ GG) (hse : Cond.selects C y y ∈ GG)
    (hc : vwCl[ci]? = some r) (hrC : r.1 = C) {k : Nat} (hq : wc[k]? = some (b, .inr (ci, fs))) (h1 : ws.Perm (wc ++ wr)) (h2 : ws'.Perm (wc0 ++ wr)) (ha : wc0.map Prod.fst = wc.map Prod.fst)
    (hn : As.length = n) (hs : ls.size = nL) (hst : st = As.reverse ++ .ref b :: rest) (hW : (rest.map fun v => v.category).sum ≤ 8) (hdg : decode cc pc = .ok (.invokevirtual index, 3)) (hR : fr + 1 ≤ R.frames ∧ 8 + (maxL + 11) + lo ≤ R.locals) (hf : cells ≤ R.cells ∧ slots ≤ R.slots)
    (kk : ∀ (H1 : Heap) (locs1 : List Loc), Nw E s B ws' H1 locs1 → W p l e R s m args below meth c H1 locs1 cells slots Q (F0 m (pc + 3) ls (v0.toList ++ rest))) : W p l e R s m args below meth c H locs cells slots Q (F0 m pc ls st) := by
  subst hst hrC
  obtain ⟨hPc, hDc, hB⟩ := n_sub hN h1
  exact n_after (free := AD wc) (va_runV (C := r.1) (As := As) (rest := rest) ⟨hC.1, hC.2.1, hC.2.2.1, hC.2.2.2.1, hC.2.2.2.2.1⟩ hM ⟨n_B hC cy hl hR, hC.2.2.2.2.1 _ hi, hC.2.2.2.2.1 _ hse⟩ ⟨n_blind, va_recv hC.2.2.2.2.2.2.2.1 hPc hc hq, n_atU hC hPc hDc⟩ rfl hn hs rfl (lv_room hW) hdg hf) hN h1 h2 ha kk
theorem n_callS (hC : Cx p E s m args meth c cc nL own ret) (hN : Nw E s B ws H locs) (hM : Cn l E y bytes maxL rt fr lo As wc wc0 v0) (cy : CY y bytes maxL rt n) (hl : Cond.methodLink own index y ∈ GG) (hi : Cond.static y ∈ GG)
    (h1 : ws.Perm (wc ++ wr)) (h2 : ws'.Perm (wc0 ++ wr)) (ha : wc0.map Prod.fst = wc.map Prod.fst)
    (hn : As.length = n) (hs : ls.size = nL) (hst : st = As.reverse ++ rest) (hW : (rest.map fun v => v.category).sum ≤ 8) (hdg : decode cc pc = .ok (.invokestatic index, 3)) (hR : fr + 1 ≤ R.frames ∧ 8 + (maxL + 11) + lo ≤ R.locals) (hf : cells ≤ R.cells ∧ slots ≤ R.slots)
    (kk : ∀ (H1 : Heap) (locs1 : List Loc), Nw E s B ws' H1 locs1 → W p l e R s m args below meth c H1 locs1 cells slots Q (F0 m (pc + 3) ls (v0.toList ++ rest))) : W p l e R s m args below meth c H locs cells slots Q (F0 m pc ls st) := by
  subst hst
  obtain ⟨hPc, hDc, hB⟩ := n_sub hN h1
  exact n_after (free := AD wc) (va_runS (As := As) (rest := rest) ⟨hC.1, hC.2.1, hC.2.2.1, hC.2.2.2.1, hC.2.2.2.2.1⟩ hM ⟨n_B hC cy hl hR, hC.2.2.2.2.1 _ hi⟩ ⟨n_blind, n_atU hC hPc hDc⟩ rfl hn hs rfl (lv_room hW) hdg hf) hN h1 h2 ha kk
theorem n_callSN {host : String} (hC : Cx p E s m args meth c cc nL own ret) (hN : Nw E s B ws H locs) (hM : Cn l E y bytes maxL rt fr lo As wc wc0 v0) (cy : CY y bytes maxL rt n) (hl : Cond.methodLinkNest own index y host ∈ nestL) (hi : Cond.static y ∈ GG)
    (h1 : ws.Perm (wc ++ wr)) (h2 : ws'.Perm (wc0 ++ wr)) (ha : wc0.map Prod.fst = wc.map Prod.fst)
    (hn : As.length = n) (hs : ls.size = nL) (hst : st = As.reverse ++ rest) (hW : (rest.map fun v => v.category).sum ≤ 8) (hdg : decode cc pc = .ok (.invokestatic index, 3)) (hR : fr + 1 ≤ R.frames ∧ 8 + (maxL + 11) + lo ≤ R.locals) (hf : cells ≤ R.cells ∧ slots ≤ R.slots)
    (kk : ∀ (H1 : Heap) (locs1 : List Loc), Nw E s B ws' H1 locs1 → W p l e R s m args below meth c H1 locs1 cells slots Q (F0 m (pc + 3) ls (v0.toList ++ rest))) : W p l e R s m args below meth c H locs cells slots Q (F0 m pc ls st) := by
  subst hst
  obtain ⟨hPc, hDc, hB⟩ := n_sub hN h1
  exact n_after (free := AD wc) (va_runSN (As := As) (rest := rest) ⟨hC.1, hC.2.1, hC.2.2.1, hC.2.2.2.1, hC.2.2.2.2.1⟩ hM ⟨n_CN hC cy hl hR, hC.2.2.2.2.1 _ hi, trivial⟩ ⟨n_blind, n_atU hC hPc hDc⟩ rfl hn hs rfl (lv_room hW) hdg hf) hN h1 h2 ha kk
end R2
/-! pure steps -/
def bd {α β : Type} (a : α) (k : α → Option β) : Option β := k a
def gd {β : Type} (c : Prop) [Decidable c] (t : Option β) : Option β := if c then t else none
theorem bd_e {α β : Type} {a : α} {k : α → Option β} {r : Option β} (h : bd a k = r) (x : α) (ex : x = a) : k x = r := by subst ex; exact h
theorem gd_c {β : Type} {c : Prop} [Decidable c] {t : Option β} {r : β} (h : gd c t = some r) : c := by
  unfold gd at h
  split at h
  · assumption
  · cases h
theorem gd_e {β : Type} {c : Prop} [Decidable c] {t : Option β} {r : β} (h : gd c t = some r) : t = some r := by
  unfold gd at h
  split at h
  · exact h
  · cases h
theorem if_t {β : Type} {c : Prop} [Decidable c] {a b r : β} (h : (if c then a else b) = r) (hc : c) : a = r := by rw [if_pos hc] at h; exact h
theorem if_f {β : Type} {c : Prop} [Decidable c] {a b r : β} (h : (if c then a else b) = r) (hc : ¬ c) : b = r := by rw [if_neg hc] at h; exact h
theorem if_n {β : Type} {c : Prop} [Decidable c] {a b r : β} (h : (if c then a else b) = r) (hc : ¬ ¬ c) : a = r := by rw [if_pos (Decidable.not_not.mp hc)] at h; exact h
theorem bi_e {α β : Type} {o : Option α} {k : α → Option β} {r : β} (h : o.bind k = some r) : ∃ x, o = some x ∧ k x = some r := Option.bind_eq_some_iff.mp h
theorem perm_self {α : Type} (l : List α) : l.Perm (l ++ []) := by rw [List.append_nil]
theorem perm_nil {α : Type} (l : List α) : l.Perm ([] ++ l) := List.Perm.refl _
