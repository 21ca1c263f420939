/-! ===== constructors ===== -/
def RI (d mc ms : Nat) : Room := { frames := d, cells := mc, slots := ms, locals := 40 * d }
def QI (K : KK) (W' : (Nat → Nat) → va_W) (A : Nat → Prop) : Array Value → State → Outcome → State → Prop := fun _ st oc t => oc = .returned none ∧ ∃ g : Nat → Nat, va_P K.1 vwCl (W' g) t.heap ∧ va_D A (W' g) ∧ va_F A st t
def ConI (l : Launch) (y : MethodName) (wsy : List Cond) (d : Nat) (K : KK) (b : Nat) (ws : va_W) (mc ms : Nat) (W' : (Nat → Nat) → va_W) : Prop :=
  ∀ sz : Nat, Met l y wsy (RI d mc ms) (va_Pc [.ref b] (fun U => U.heap.size = sz ∧ va_P K.1 vwCl ws U.heap ∧ va_K K.1 vwCl (TY K) U ∧ va_D (fun _ => True) ws ∧ NW U ∧ va_AO RX1 U)) (QI K W' (va_A ws sz)) mc ms (va_A ws sz)
theorem con_ofI {l : Launch} {y : MethodName} {wsy wsy' : List Cond} {d : Nat} {K : KK} {b mc ms : Nat} {ws : va_W} {W' : (Nat → Nat) → va_W} {cc : ByteArray} {maxL : Nat} {own : String}
    (hy : plainName y.cls = true) (hw : wsy = Cond.code y cc maxL none :: wsy') (hown : y.cls = own) (hnm : y.name = "<init>") (hlen : 1 ≤ maxL)
    (body : ∀ (p : Program) (e : Env) (s : State) (m : MethodId) (args : Array Value) (below : List Frame) (meth : Method) (c : Code) (A : Nat → Prop), Cx p s m args meth c K A cc maxL own wsy none → meth.name = "<init>" → va_AO RX1 s → Go p l e (RI d mc ms) s m args below meth c K A maxL 0 0 (MQ below (QI K W' A) args s mc ms A) ws 0 [(0, .ref b)] []) : ConI l y wsy d K b ws mc ms W' := by
  intro sz
  refine Met.ofW (cc := cc) (maxL := maxL) (ret := none) hy hw ?_
  intro p e s m args below meth c s₁ B hml hv
  obtain ⟨rfl, hsz, hP, hK, hD0, hN, hO⟩ := hv
  subst hsz
  have hD := hD0.self (sz := s.heap.size)
  have C : Cx p s m [Value.ref b].toArray meth c K (va_A ws s.heap.size) cc maxL own wsy none := ⟨⟨B.exec, B.bytes, hml, by rw [← hown]; exact findClass_of_methodNamed B.named, atoms_spec (ws := wsy) B.pre⟩, hK, hN, B.returns, B.notSynchronized, fun q h => Or.inr h⟩
  have hin : meth.name = "<init>" := (name_of_methodNamed B.named B.method).1.trans hnm
  have hl := lv_entry [Value.ref b] (n := maxL) hlen
  rw [lg_entry_eq]
  exact body p e s m _ below meth c _ C hin hO s.heap [] _ hP hD va_S.rf hl
section IN
variable {p : Program} {l : Launch} {e : Env} {R : Room} {s : State} {m : MethodId} {args : Array Value} {below : List Frame} {meth : Method} {c : Code} {K : KK} {A : Nat → Prop} {cells slots : Nat} {Q : State → Prop} {cc : ByteArray} {nL : Nat} {own : String} {Ts : List Cond} {ret : Option FieldType} {ws : va_W} {pc : Nat} {lv : List (Nat × Value)} {st : List Value}
theorem go_vretI (C : Cx p s m args meth c K A cc nL own Ts none) {W' : (Nat → Nat) → va_W} (g : Nat → Nat) (hg : ws = W' g) (hd : decode cc pc = .ok (.return_, 1)) : Go p l e R s m args below meth c K A nL cells slots (MQ below (QI K W' A) args s cells slots A) ws pc lv [] := fun H locs ls hP hD hS hl => W.vret C.1.1 C.1.2.1 C.2.2.2.1 (fun t ht hW => ⟨rfl, g, by rw [ht, ← hg]; exact hP, by rw [← hg]; exact hD, hS.F ht⟩) hS.2.2 hd C.2.2.2.2.1
theorem go_objInit (C : Cx p s m args meth c K A cc nL own Ts ret) {ix b : Nat} (h1 : Cond.methodLink own ix objectInit ∈ Ts) (h2 : Cond.instanceMethod objectInit ∈ Ts) (h3 : Cond.code objectInit ⟨#[0xb1]⟩ 1 none ∈ Ts) (hd : decode cc pc = .ok (.invokespecial ix, 3)) (hf : 1 ≤ R.frames) (ho : (st.map fun v => v.category).sum + 12 ≤ R.locals) (k : Go p l e R s m args below meth c K A nL cells slots Q ws (pc + 3) lv st) : Go p l e R s m args below meth c K A nL cells slots Q ws pc lv (.ref b :: st) := fun H locs ls hP hD hS hl => W.objInit C.1.1 C.1.2.1 C.1.2.2.2.1 (C.1.2.2.2.2 _ h1) (C.1.2.2.2.2 _ h2) (C.1.2.2.2.2 _ h3) rfl (hl.1.trans C.1.2.2.1.symm) rfl hd hf (by show 2 * 0 + _ + 12 ≤ _; omega) (k H locs ls hP hD hS hl)
theorem go_newI (C : Cx p s m args meth c K A cc nL own Ts ret) {n : Int32} {N : Nat} (harr : Cond.arrayClass .int ∈ Ts) (hn : ¬ n < 0) (hN : n.toNatClampNeg = N) (hb : N * componentBytes .int ≤ 536870912) (hcells : cells + 1 ≤ R.cells) (hslots : slots + N ≤ R.slots) (hd : decode cc pc = .ok (.newarray .int, 2)) (k : ∀ q, Go p l e R s m args below meth c K A nL (cells + 1) (slots + N) Q (ws ++ [(q, .inl (K.2.1, N, .inl (fun _ => 0)))]) (pc + 2) lv (.ref q :: st)) : Go p l e R s m args below meth c K A nL cells slots Q ws pc lv (.int n :: st) := by
  intro H locs ls hP hD hS hl
  refine va_newa (atype := .int) (ty := .int) (a0 := (N, .inl (fun _ => 0))) C.1.1 C.1.2.1 (C.1.2.2.2.2 _ harr) rfl C.2.1 hP hD hS C.2.2.2.2.2 (fun cA => rfl) hn hN hb hcells hslots hd (fun q cA H1 hK1 hP1 hD1 hS1 => ?_)
  have e1 : s.vm.findClass ("[" ++ (FieldType.int).toString) = some cA := (hK1.2 3 (cA, .int) rfl).2
  have e2 : s.vm.findClass ("[" ++ (FieldType.int).toString) = some K.2.1 := (C.2.1.2 0 (K.2.1, .int) rfl).2
  obtain rfl : cA = K.2.1 := Option.some.inj (e1.symm.trans e2)
  exact k q H1 locs ls hP1 hD1 hS1 hl
theorem go_newZ (C : Cx p s m args meth c K A cc nL own Ts ret) {n : Int32} {N : Nat} (harr : Cond.arrayClass .boolean ∈ Ts) (hn : ¬ n < 0) (hN : n.toNatClampNeg = N) (hb : N * componentBytes .boolean ≤ 536870912) (hcells : cells + 1 ≤ R.cells) (hslots : slots + N ≤ R.slots) (hd : decode cc pc = .ok (.newarray .boolean, 2)) (k : ∀ q, Go p l e R s m args below meth c K A nL (cells + 1) (slots + N) Q (ws ++ [(q, .inl (K.2.2.1, N, .inl (fun _ => 0)))]) (pc + 2) lv (.ref q :: st)) : Go p l e R s m args below meth c K A nL cells slots Q ws pc lv (.int n :: st) := by
  intro H locs ls hP hD hS hl
  refine va_newa (atype := .boolean) (ty := .boolean) (a0 := (N, .inl (fun _ => 0))) C.1.1 C.1.2.1 (C.1.2.2.2.2 _ harr) rfl C.2.1 hP hD hS C.2.2.2.2.2 (fun cA => rfl) hn hN hb hcells hslots hd (fun q cA H1 hK1 hP1 hD1 hS1 => ?_)
  have e1 : s.vm.findClass ("[" ++ (FieldType.boolean).toString) = some cA := (hK1.2 3 (cA, .boolean) rfl).2
  have e2 : s.vm.findClass ("[" ++ (FieldType.boolean).toString) = some K.2.2.1 := (C.2.1.2 1 (K.2.2.1, .boolean) rfl).2
  obtain rfl : cA = K.2.2.1 := Option.some.inj (e1.symm.trans e2)
  exact k q H1 locs ls hP1 hD1 hS1 hl
theorem go_newQ (C : Cx p s m args meth c K A cc nL own Ts ret) {ix : Nat} {n : Int32} {N : Nat} (hO : va_AO RX1 s) (hc : Cond.classLink own ix RX1 ∈ Ts) (hn : ¬ n < 0) (hN : n.toNatClampNeg = N) (hb : N * 4 ≤ 536870912) (hcells : cells + 1 ≤ R.cells) (hslots : slots + N ≤ R.slots) (hd : decode cc pc = .ok (.anewarray ix, 3)) (k : ∀ q, Go p l e R s m args below meth c K A nL (cells + 1) (slots + N) Q (ws ++ [(q, .inl (K.2.2.2, N, .inr (.inr (.inr (.inr (fun _ => none))))))]) (pc + 3) lv (.ref q :: st)) : Go p l e R s m args below meth c K A nL cells slots Q ws pc lv (.int n :: st) := by
  intro H locs ls hP hD hS hl
  refine va_newq C.1.1 C.1.2.1 C.1.2.2.2.1 (C.1.2.2.2.2 _ hc) hO C.2.1 hP hD hS C.2.2.2.2.2 hn hN hb hcells hslots hd (fun q cA H1 hK1 hP1 hD1 hS1 => ?_)
  obtain ⟨k1, c1, -, -, -, e1⟩ := (hK1.2 3 (cA, .object RX1) rfl).2
  obtain ⟨k2, c2, -, -, -, e2⟩ := (C.2.1.2 2 (K.2.2.2, .object RX1) rfl).2
  obtain rfl : cA = K.2.2.2 := Option.some.inj (e1.symm.trans e2)
  exact k q H1 locs ls hP1 hD1 hS1 hl
theorem go_newO (C : Cx p s m args meth c K A cc nL own Ts ret) {Cn : String} {T : u_T} {N ci ix : Nat} (hin : ∀ w ∈ u_ws Cn T N, w ∈ Ts) (ty : Nat → FieldType) (hty : ∀ k, k < N → parseFieldDescriptor (T k).2.2.1 = some (ty k)) (h1 : Cond.classLink own ix Cn ∈ Ts) (h2 : Cond.instantiable Cn N ∈ Ts) (h3 : Cond.initialized Cn ∈ Ts) (hc : vwCl[ci]? = some (Cn, T, N)) {fs : List Value} (hfs : ∀ j, j < N → defaultValue (ty j) = vp_V fs j) (hcells : cells + 1 ≤ R.cells) (hslots : slots + N ≤ R.slots) (hd : decode cc pc = .ok (.new ix, 3)) (k : ∀ q, Go p l e R s m args below meth c K A nL (cells + 1) (slots + N) Q (ws ++ [(q, .inr (ci, fs))]) (pc + 3) lv (.ref q :: st)) : Go p l e R s m args below meth c K A nL cells slots Q ws pc lv st := fun H locs ls hP hD hS hl => va_new C.1.1 C.1.2.1 C.1.2.2.2.2 hin ty hty C.1.2.2.2.1 (C.1.2.2.2.2 _ h1) (C.1.2.2.2.2 _ h2) (C.1.2.2.2.2 _ h3) C.2.1 hP hD hS C.2.2.2.2.2 hc hfs hcells hslots hd (fun q H1 hP1 hD1 hS1 => k q H1 locs ls hP1 hD1 hS1 hl)
theorem go_putF (C : Cx p s m args meth c K A cc nL own Ts ret) (hi : meth.name = "<init>") {Cn : String} {T : u_T} {N ci ix b : Nat} (ty0 : Nat → FieldType) (hty : ∀ k, k < N → parseFieldDescriptor (T k).2.2.1 = some (ty0 k)) (hnm : ∀ a, a < N → ∀ b, b < N → a ≠ b → (T a).2.1 ≠ (T b).2.1) (hin : ∀ w ∈ u_ws Cn T N, w ∈ Ts) (q0 : Nat) {fs : List Value} (he : ws[q0]? = some (b, .inr (ci, fs))) (hc : vwCl[ci]? = some (Cn, T, N)) (kf : Nat) (hkf : kf < N) (hlk : Cond.fieldLink own ix (T kf).1 (T kf).2.1 (T kf).2.2.1 ∈ Ts) (hfin : (T kf).2.2.2 = true) (hdecl : (T kf).1 = own) {ty : FieldType} {v : Value} (hp : parseFieldDescriptor (T kf).2.2.1 = some ty) (hn : narrow ty v = v) (hfit : fits ty v = true) (hl2 : kf < fs.length) {ws' : va_W} (hws : ws.set q0 (b, .inr (ci, fs.set kf v)) = ws') (hd : decode cc pc = .ok (.putfield ix, 3)) (k : Go p l e R s m args below meth c K A nL cells slots Q ws' (pc + 3) lv st) : Go p l e R s m args below meth c K A nL cells slots Q ws pc lv (v :: .ref b :: st) := by
  subst hws
  intro H locs ls hP hD hS hl
  exact va_putF C.1.1 C.1.2.1 C.1.2.2.2.2 hin ty0 hty hnm C.1.2.2.2.1 C.2.1 hP hD hS q0 he hc kf hkf (C.1.2.2.2.2 _ hlk) (fun _ h => h) hfin hi hdecl hp hn hfit hl2 hd (fun H1 locs1 hP1 hD1 hS1 => k H1 locs1 ls hP1 hD1 hS1 hl)
theorem go_putO (C : Cx p s m args meth c K A cc nL own Ts ret) {Cn : String} {T : u_T} {N ci ix b : Nat} (ty0 : Nat → FieldType) (hty : ∀ k, k < N → parseFieldDescriptor (T k).2.2.1 = some (ty0 k)) (hnm : ∀ a, a < N → ∀ b, b < N → a ≠ b → (T a).2.1 ≠ (T b).2.1) (hin : ∀ w ∈ u_ws Cn T N, w ∈ Ts) (q0 : Nat) {fs : List Value} (he : ws[q0]? = some (b, .inr (ci, fs))) (hc : vwCl[ci]? = some (Cn, T, N)) (kf : Nat) (hkf : kf < N) (hlk : Cond.fieldLink own ix (T kf).1 (T kf).2.1 (T kf).2.2.1 ∈ Ts) (hfin : (T kf).2.2.2 = false) {ty : FieldType} {v : Value} (hp : parseFieldDescriptor (T kf).2.2.1 = some ty) (hn : narrow ty v = v) (hfit : fits ty v = true) (hl2 : kf < fs.length) {ws' : va_W} (hws : ws.set q0 (b, .inr (ci, fs.set kf v)) = ws') (hd : decode cc pc = .ok (.putfield ix, 3)) (k : Go p l e R s m args below meth c K A nL cells slots Q ws' (pc + 3) lv st) : Go p l e R s m args below meth c K A nL cells slots Q ws pc lv (v :: .ref b :: st) := by
  subst hws
  intro H locs ls hP hD hS hl
  exact va_put C.1.1 C.1.2.1 C.1.2.2.2.2 hin ty0 hty hnm C.1.2.2.2.1 C.2.1 hP hD hS q0 he hc kf hkf (C.1.2.2.2.2 _ hlk) (fun _ h => h) hfin hp hn hfit hl2 hd (fun H1 locs1 hP1 hD1 hS1 => k H1 locs1 ls hP1 hD1 hS1 hl)
theorem go_getO (C : Cx p s m args meth c K A cc nL own Ts ret) {Cn : String} {T : u_T} {N ci ix b : Nat} (hin : ∀ w ∈ u_ws Cn T N, w ∈ Ts) (q0 : Nat) {fs : List Value} (he : ws[q0]? = some (b, .inr (ci, fs))) (hc : vwCl[ci]? = some (Cn, T, N)) (kf : Nat) (hkf : kf < N) (hlk : Cond.fieldLink own ix (T kf).1 (T kf).2.1 (T kf).2.2.1 ∈ Ts) {v : Value} (hv : fs[kf]? = some v) (hd : decode cc pc = .ok (.getfield ix, 3)) (k : Go p l e R s m args below meth c K A nL cells slots Q ws (pc + 3) lv (v :: st)) : Go p l e R s m args below meth c K A nL cells slots Q ws pc lv (.ref b :: st) := fun H locs ls hP hD hS hl => va_get C.1.1 C.1.2.1 C.1.2.2.2.2 hin C.1.2.2.2.1 C.2.1 hP q0 he hc kf hkf (C.1.2.2.2.2 _ hlk) (fun _ h => h) hv hd (k H locs ls hP hD hS hl)
theorem go_astO (C : Cx p s m args meth c K A cc nL own Ts ret) (q0 qk ci : Nat) {r : vw_C} {n v b : Nat} {vs : List Value} {f : Nat → Option Nat} (ha : ws[q0]? = some (b, .inl (K.2.2.2, n, .inr (.inr (.inr (.inr f)))))) (hr : r.1 = RX1) (hv : ws[qk]? = some (v, .inr (ci, vs))) (hc : vwCl[ci]? = some r) {i : Int32} (hin : vp_in i n) {ws' : va_W} (hws : ws.set q0 (b, .inl (K.2.2.2, n, .inr (.inr (.inr (.inr (va_up f i.toNatClampNeg (some v))))))) = ws') (hd : decode cc pc = .ok (.aastore, 1)) (k : Go p l e R s m args below meth c K A nL cells slots Q ws' (pc + 1) lv st) : Go p l e R s m args below meth c K A nL cells slots Q ws pc lv (.ref v :: .int i :: .ref b :: st) := by
  subst hws
  intro H locs ls hP hD hS hl
  exact va_astq (r := r) C.1.1 C.1.2.1 C.2.1 hP hD hS q0 2 qk ci ha (by rw [hr]; rfl) hv hc hin hd (fun H1 locs1 hP1 hD1 hS1 => k H1 locs1 ls hP1 hD1 hS1 hl)
theorem go_iastO (C : Cx p s m args meth c K A cc nL own Ts ret) (q0 : Nat) {n b : Nat} {f : Nat → Int32} (ha : ws[q0]? = some (b, .inl (K.2.1, n, .inl f))) {i x : Int32} (hin : vp_in i n) {ws' : va_W} (hws : ws.set q0 (b, .inl (K.2.1, n, .inl (upd f i.toNatClampNeg x))) = ws') (hd : decode cc pc = .ok (.iastore, 1)) (k : Go p l e R s m args below meth c K A nL cells slots Q ws' (pc + 1) lv st) : Go p l e R s m args below meth c K A nL cells slots Q ws pc lv (.int x :: .int i :: .ref b :: st) := by
  subst hws
  intro H locs ls hP hD hS hl
  exact va_iast C.1.1 C.1.2.1 C.2.1 hP hD hS q0 0 ha rfl hin hd (fun H1 locs1 hP1 hD1 hS1 => k H1 locs1 ls hP1 hD1 hS1 hl)
/-- a row of references may be told by another function that agrees inside it -/
theorem go_refs (q0 : Nat) {n b : Nat} {cA : ClassId} {f g : Nat → Option Nat} (ha : ws[q0]? = some (b, .inl (cA, n, .inr (.inr (.inr (.inr f)))))) (h : ∀ j, j < n → f j = g j) {ws' : va_W} (hws : ws.set q0 (b, .inl (cA, n, .inr (.inr (.inr (.inr g))))) = ws') (k : Go p l e R s m args below meth c K A nL cells slots Q ws' pc lv st) : Go p l e R s m args below meth c K A nL cells slots Q ws pc lv st := by
  subst hws
  intro H locs ls hP hD hS hl
  refine k H locs ls (hP.set hD ha ?_ (fun q _ => rfl)) (hD.set ha) hS hl
  have h0 := hP q0 _ ha
  show H[b]? = some (vp_cell cA (n, .inr (.inr (.inr (.inr g)))))
  rw [show H[b]? = some (vp_cell cA (n, .inr (.inr (.inr (.inr f))))) from h0, vp_cell_q, vp_cell_q]
  unfold arrV
  congr 3
  funext j
  show va_rf (f j.val) = va_rf (g j.val)
  rw [h j.val j.isLt]
theorem pre_blindI {av : List Value} {sz : Nat} : FrameBlind (va_Pc av (fun U => U.heap.size = sz ∧ va_P K.1 vwCl ws U.heap ∧ va_K K.1 vwCl (TY K) U ∧ va_D (fun _ => True) ws ∧ NW U ∧ va_AO RX1 U)) := fun a U g mk q => by
  obtain ⟨q0, q1, qP, qK, qD, qN, qO⟩ := q
  exact ⟨q0, q1, qP, va_K.moved (u := U) (U := U.calling g mk a) (Vm.Alike.refl U.vm) qK, qD, qN.same rfl, va_AO.moved (u := U) (U := U.calling g mk a) (Vm.Alike.refl U.vm) qO⟩
theorem run_afterI {H : Heap} {locs : List Loc} {ls : Array Slot} {rest st0 : List Value} {a : Array Value} {A0 A1 : Nat → Prop} {H0 : Heap} {mc ms : Nat} {free : Addr → Prop} {W' : (Nat → Nat) → va_W}
    (hr : va_Run p l e R s m args below meth c H locs cells slots mc ms (F0 m pc ls st0) rest (QI K W' A1 a) free) (hS : va_S A0 H0 H locs) (hA : ∀ q, q < H.size → A1 q → A0 q) (hf : ∀ q, free q → A0 q)
    (kk : ∀ (g : Nat → Nat) (H1 : Heap) (locs1 : List Loc), va_P K.1 vwCl (W' g) H1 → va_D A1 (W' g) → (∀ q : Nat, q < H.size → ¬ A1 q → H1[q]? = H[q]?) → va_S A0 H0 H1 locs1 → W p l e R s m args below meth c H1 locs1 (cells + mc) (slots + ms) Q (F0 m (pc + 3) ls rest)) : W p l e R s m args below meth c H locs cells slots Q (F0 m pc ls st0) := by
  intro T hT X
  obtain ⟨v, st₀, t, T', L, h0, X', hL, e1, e2, ⟨hv, g, hp, hb, hz, hk⟩, st⟩ := hr T hT X
  cases hv
  rw [h0] at hz hk
  obtain ⟨t2, a1, b1⟩ := kk g T'.heap (locs ++ L) (by rw [e1]; exact hp) hb (fun q h1 h2 => by rw [e1]; exact hk q h1 h2)
    ⟨Nat.le_trans hS.1 (by rw [e1]; exact hz), fun q h1 h2 => by rw [e1, hk q (Nat.lt_of_lt_of_le h1 hS.1) (fun z => h2 (hA q (Nat.lt_of_lt_of_le h1 hS.1) z))]; exact hS.2.1 q h1 h2, fun q hq => by
      rcases List.mem_append.mp hq with h | h
      · exact hS.2.2 q h
      · exact hf _ (hL q h)⟩ T' rfl X'
  exact ⟨t2, st t2 a1, b1⟩
theorem go_callIN (C : Cx p s m args meth c K A cc nL own Ts ret) {y : MethodName} {ix b : Nat} {bytes : ByteArray} {maxL : Nat} {wsy wsy' : List Cond} {d mc ms : Nat} {wb w1 : va_W} {W' : (Nat → Nat) → va_W} (hcon : ConI l y wsy d K b wb mc ms W') (hG : GoodIn Ts wsy) (hnw : va_Nw (.methodLinkNest own ix y RX2) s) (hini : Cond.initialized y.cls ∈ Ts) (hin : Cond.instanceMethod y ∈ Ts) (hnm : y.name = "<init>") (hdd : y.cls ≠ "java/lang/invoke/MethodHandle" ∧ y.cls ≠ "java/lang/invoke/VarHandle" ∧ (parseMethodDescriptor y.desc).map (fun d => d.parameters.length) = some 0) (hw : wsy = Cond.code y bytes maxL none :: wsy') (hR : d + 1 ≤ R.frames ∧ 8 + (maxL + 11) + 40 * d ≤ R.locals) (hc : cells + mc ≤ R.cells ∧ slots + ms ≤ R.slots) (hO : va_AO RX1 s) (hro : (st.map fun v => v.category).sum ≤ 8) (hd : decode cc pc = .ok (.invokespecial ix, 3)) (k : ∀ g, Go p l e R s m args below meth c K A nL (cells + mc) (slots + ms) Q (w1 ++ W' g) (pc + 3) lv st) : Go p l e R s m args below meth c K A nL cells slots Q (w1 ++ wb) pc lv (.ref b :: st) := by
  intro H locs ls hP hD hS hl
  have hPc := vP_r hP
  have hDc := vD_r hD
  have hF := free_of hDc hS C.2.2.2.2.2
  refine run_afterI (va_runIN (As := []) (rest := st) C.1 (hcon H.size) ⟨va_cnB 0 C.1.2.2.2.2 hG hw rfl rfl hnw (C.1.2.2.2.2 _ hini) hdd hR, hnm, C.1.2.2.2.2 _ hin⟩ ⟨pre_blindI, fun U hU hW => ⟨rfl, by rw [hU], by rw [hU]; exact hPc, va_K.moved hW.alike C.2.1, hDc.weaken (fun _ _ _ _ => trivial), C.2.2.1.warm hW, va_AO.moved hW.alike hO⟩⟩ rfl rfl hl.1 rfl (lv_room hro) hd hc) hS (fun q _ h => hF q h) hF (fun g H1 locs1 hP1 hD1 hk hS1 => ?_)
  obtain ⟨hP2, hD2⟩ := join_r hP hD hF hP1 hD1 hk
  exact k g H1 locs1 ls hP2 hD2 hS1 hl
theorem go_callI0 (C : Cx p s m args meth c K A cc nL own Ts ret) {y : MethodName} {ix b : Nat} {bytes : ByteArray} {maxL : Nat} {wsy wsy' : List Cond} {d mc ms : Nat} {wb w1 : va_W} {W' : (Nat → Nat) → va_W} (hcon : ConI l y wsy d K b wb mc ms W') (hG : GoodIn Ts wsy) (hlk : Cond.methodLink own ix y ∈ Ts) (hini : Cond.initialized y.cls ∈ Ts) (hin : Cond.instanceMethod y ∈ Ts) (hnm : y.name = "<init>") (hdd : y.cls ≠ "java/lang/invoke/MethodHandle" ∧ y.cls ≠ "java/lang/invoke/VarHandle" ∧ (parseMethodDescriptor y.desc).map (fun d => d.parameters.length) = some 0) (hw : wsy = Cond.code y bytes maxL none :: wsy') (hR : d + 1 ≤ R.frames ∧ 8 + (maxL + 11) + 40 * d ≤ R.locals) (hc : cells + mc ≤ R.cells ∧ slots + ms ≤ R.slots) (hO : va_AO RX1 s) (hro : (st.map fun v => v.category).sum ≤ 8) (hd : decode cc pc = .ok (.invokespecial ix, 3)) (k : ∀ g, Go p l e R s m args below meth c K A nL (cells + mc) (slots + ms) Q (w1 ++ W' g) (pc + 3) lv st) : Go p l e R s m args below meth c K A nL cells slots Q (w1 ++ wb) pc lv (.ref b :: st) := by
  intro H locs ls hP hD hS hl
  have hPc := vP_r hP
  have hDc := vD_r hD
  have hF := free_of hDc hS C.2.2.2.2.2
  refine run_afterI (va_runI (As := []) (rest := st) C.1 (hcon H.size) (cwI 0 C.1.2.2.2.2 hG hw rfl rfl (C.1.2.2.2.2 _ hini) (C.1.2.2.2.2 _ hlk) (C.1.2.2.2.2 _ hin) hnm hdd hR) ⟨pre_blindI, fun U hU hW => ⟨rfl, by rw [hU], by rw [hU]; exact hPc, va_K.moved hW.alike C.2.1, hDc.weaken (fun _ _ _ _ => trivial), C.2.2.1.warm hW, va_AO.moved hW.alike hO⟩⟩ rfl rfl hl.1 rfl (lv_room hro) hd hc) hS (fun q _ h => hF q h) hF (fun g H1 locs1 hP1 hD1 hk hS1 => ?_)
  obtain ⟨hP2, hD2⟩ := join_r hP hD hF hP1 hD1 hk
  exact k g H1 locs1 ls hP2 hD2 hS1 hl
end IN
set_option maxRecDepth 20000 in
set_option maxHeartbeats 2000000 in
theorem con_X1_init (l : Launch) (K : KK) (b : Nat) : ConI l yX1_init wsX1_init 1 K b [(b, .inr (1, [.int 0, .int 0, .null, .null]))] 2 12 (fun g => [(b, .inr (1, [.int 6, .int 0, .ref (g 0), .ref (g 1)])), (g 0, .inl (K.2.1, 6, .inl (fun _ => 0))), (g 1, .inl (K.2.2.1, 6, .inl (fun _ => 0)))]) := by
  refine con_ofI (cc := cX1_init) (maxL := 1) (own := RX1) (by decide) rfl rfl rfl (Nat.le_of_ble_eq_true rfl) (fun p e s m args below meth c A C hi hO => ?_)
  refine go_aload_n C 0 dX1_init_0 rfl rfl ?_
  refine go_objInit C (by decide +kernel) (by decide +kernel) (List.mem_of_getElem? (i := 3) rfl) dX1_init_1 (Nat.le_of_ble_eq_true rfl) (Nat.le_of_ble_eq_true rfl) ?_
  refine go_aload_n C 0 dX1_init_4 rfl rfl ?_
  refine go_bipush (v := 6) C dX1_init_5 (by decide) ?_
  refine go_putO C tyX1 tyX1_ok nmX1 (by decide +kernel) 0 rfl rfl 0 (by decide) (by decide +kernel) rfl (tyX1_ok 0 (by decide)) rfl rfl (Nat.le_of_ble_eq_true rfl) (ws' := [(b, .inr (1, [.int 6, .int 0, .null, .null]))]) rfl dX1_init_7 ?_
  refine go_aload_n C 0 dX1_init_10 rfl rfl ?_
  refine go_iconst (v := 0) C dX1_init_11 (by decide) ?_
  refine go_putO C tyX1 tyX1_ok nmX1 (by decide +kernel) 0 rfl rfl 1 (by decide) (by decide +kernel) rfl (tyX1_ok 1 (by decide)) rfl rfl (Nat.le_of_ble_eq_true rfl) (ws' := [(b, .inr (1, [.int 6, .int 0, .null, .null]))]) rfl dX1_init_12 ?_
  refine go_aload_n C 0 dX1_init_15 rfl rfl ?_
  refine go_bipush (v := 6) C dX1_init_16 (by decide) ?_
  refine go_newI C (N := 6) (by decide +kernel) (by decide) rfl (Nat.le_of_ble_eq_true rfl) (Nat.le_of_ble_eq_true rfl) (Nat.le_of_ble_eq_true rfl) dX1_init_18 (fun q1 => ?_)
  refine go_ws (ws' := [(b, .inr (1, [.int 6, .int 0, .null, .null])), (q1, .inl (K.2.1, 6, .inl (fun _ => 0)))]) rfl ?_
  refine go_putF C hi tyX1 tyX1_ok nmX1 (by decide +kernel) 0 rfl rfl 2 (by decide) (by decide +kernel) rfl rfl (tyX1_ok 2 (by decide)) rfl rfl (Nat.le_of_ble_eq_true rfl) (ws' := [(b, .inr (1, [.int 6, .int 0, .ref q1, .null])), (q1, .inl (K.2.1, 6, .inl (fun _ => 0)))]) rfl dX1_init_20 ?_
  refine go_aload_n C 0 dX1_init_23 rfl rfl ?_
  refine go_bipush (v := 6) C dX1_init_24 (by decide) ?_
  refine go_newZ C (N := 6) (by decide +kernel) (by decide) rfl (Nat.le_of_ble_eq_true rfl) (Nat.le_of_ble_eq_true rfl) (Nat.le_of_ble_eq_true rfl) dX1_init_26 (fun q2 => ?_)
  refine go_ws (ws' := [(b, .inr (1, [.int 6, .int 0, .ref q1, .null])), (q1, .inl (K.2.1, 6, .inl (fun _ => 0))), (q2, .inl (K.2.2.1, 6, .inl (fun _ => 0)))]) rfl ?_
  refine go_putF C hi tyX1 tyX1_ok nmX1 (by decide +kernel) 0 rfl rfl 3 (by decide) (by decide +kernel) rfl rfl (tyX1_ok 3 (by decide)) rfl rfl (Nat.le_of_ble_eq_true rfl) (ws' := [(b, .inr (1, [.int 6, .int 0, .ref q1, .ref q2])), (q1, .inl (K.2.1, 6, .inl (fun _ => 0))), (q2, .inl (K.2.2.1, 6, .inl (fun _ => 0)))]) rfl dX1_init_28 ?_
  exact go_vretI C (fun i => if i = 0 then q1 else q2) rfl dX1_init_31
set_option maxRecDepth 20000 in
set_option maxHeartbeats 2000000 in
theorem con_X0_init (l : Launch) (K : KK) (b : Nat) : ConI l yX0_init wsX0_init 1 K b [(b, .inr (0, [.null, .int 0]))] 1 6 (fun g => [(b, .inr (0, [.ref (g 0), .int 0])), (g 0, .inl (K.2.1, 6, .inl (fun _ => 0)))]) := by
  refine con_ofI (cc := cX0_init) (maxL := 1) (own := RX0) (by decide) rfl rfl rfl (Nat.le_of_ble_eq_true rfl) (fun p e s m args below meth c A C hi hO => ?_)
  refine go_aload_n C 0 dX0_init_0 rfl rfl ?_
  refine go_objInit C (by decide +kernel) (by decide +kernel) (List.mem_of_getElem? (i := 3) rfl) dX0_init_1 (Nat.le_of_ble_eq_true rfl) (Nat.le_of_ble_eq_true rfl) ?_
  refine go_aload_n C 0 dX0_init_4 rfl rfl ?_
  refine go_bipush (v := 6) C dX0_init_5 (by decide) ?_
  refine go_newI C (N := 6) (by decide +kernel) (by decide) rfl (Nat.le_of_ble_eq_true rfl) (Nat.le_of_ble_eq_true rfl) (Nat.le_of_ble_eq_true rfl) dX0_init_7 (fun q1 => ?_)
  refine go_ws (ws' := [(b, .inr (0, [.null, .int 0])), (q1, .inl (K.2.1, 6, .inl (fun _ => 0)))]) rfl ?_
  refine go_putF C hi tyX0 tyX0_ok nmX0 (by decide +kernel) 0 rfl rfl 0 (by decide) (by decide +kernel) rfl rfl (tyX0_ok 0 (by decide)) rfl rfl (Nat.le_of_ble_eq_true rfl) (ws' := [(b, .inr (0, [.ref q1, .int 0])), (q1, .inl (K.2.1, 6, .inl (fun _ => 0)))]) rfl dX0_init_9 ?_
  refine go_aload_n C 0 dX0_init_12 rfl rfl ?_
  refine go_iconst (v := 0) C dX0_init_13 (by decide) ?_
  refine go_putO C tyX0 tyX0_ok nmX0 (by decide +kernel) 0 rfl rfl 1 (by decide) (by decide +kernel) rfl (tyX0_ok 1 (by decide)) rfl rfl (Nat.le_of_ble_eq_true rfl) (ws' := [(b, .inr (0, [.ref q1, .int 0])), (q1, .inl (K.2.1, 6, .inl (fun _ => 0)))]) rfl dX0_init_14 ?_
  exact go_vretI C (fun _ => q1) rfl dX0_init_17
set_option maxRecDepth 20000 in
set_option maxHeartbeats 2000000 in
theorem con_X3_init (l : Launch) (K : KK) (b : Nat) : ConI l yX3_init wsX3_init 1 K b [(b, .inr (3, [.null, .null, .int 0, .null, .null, .null, .null, .null, .long 0]))] 7 657 (fun g => mW K (fun i => if i = 0 then b else g i) (upd (fun _ => 0) 0 6) (fun _ => 0) (fun _ => 0) (fun _ => 0) (fun _ => 0) (fun _ => 0) (fun _ => 0) 0 0) := by
  refine con_ofI (cc := cX3_init) (maxL := 1) (own := RX3) (by decide) rfl rfl rfl (Nat.le_of_ble_eq_true rfl) (fun p e s m args below meth c A C hi hO => ?_)
  refine go_aload_n C 0 dX3_init_0 rfl rfl ?_
  refine go_objInit C (by decide +kernel) (by decide +kernel) (List.mem_of_getElem? (i := 3) rfl) dX3_init_1 (Nat.le_of_ble_eq_true rfl) (Nat.le_of_ble_eq_true rfl) ?_
  refine go_aload_n C 0 dX3_init_4 rfl rfl ?_
  refine go_bipush (v := 14) C dX3_init_5 (by decide) ?_
  refine go_newI C (N := 14) (by decide +kernel) (by decide) rfl (Nat.le_of_ble_eq_true rfl) (Nat.le_of_ble_eq_true rfl) (Nat.le_of_ble_eq_true rfl) dX3_init_7 (fun q1 => ?_)
  refine go_ws (ws' := [(b, .inr (3, [.null, .null, .int 0, .null, .null, .null, .null, .null, .long 0])), (q1, .inl (K.2.1, 14, .inl (fun _ => 0)))]) rfl ?_
  refine go_putF C hi tyX3 tyX3_ok nmX3 (by decide +kernel) 0 rfl rfl 0 (by decide) (by decide +kernel) rfl rfl (tyX3_ok 0 (by decide)) rfl rfl (Nat.le_of_ble_eq_true rfl) (ws' := [(b, .inr (3, [.ref q1, .null, .int 0, .null, .null, .null, .null, .null, .long 0])), (q1, .inl (K.2.1, 14, .inl (fun _ => 0)))]) rfl dX3_init_9 ?_
  refine go_aload_n C 0 dX3_init_12 rfl rfl ?_
  refine go_bipush (v := 56) C dX3_init_13 (by decide) ?_
  refine go_newI C (N := 56) (by decide +kernel) (by decide) rfl (Nat.le_of_ble_eq_true rfl) (Nat.le_of_ble_eq_true rfl) (Nat.le_of_ble_eq_true rfl) dX3_init_15 (fun q2 => ?_)
  refine go_ws (ws' := [(b, .inr (3, [.ref q1, .null, .int 0, .null, .null, .null, .null, .null, .long 0])), (q1, .inl (K.2.1, 14, .inl (fun _ => 0))), (q2, .inl (K.2.1, 56, .inl (fun _ => 0)))]) rfl ?_
  refine go_putF C hi tyX3 tyX3_ok nmX3 (by decide +kernel) 0 rfl rfl 1 (by decide) (by decide +kernel) rfl rfl (tyX3_ok 1 (by decide)) rfl rfl (Nat.le_of_ble_eq_true rfl) (ws' := [(b, .inr (3, [.ref q1, .ref q2, .int 0, .null, .null, .null, .null, .null, .long 0])), (q1, .inl (K.2.1, 14, .inl (fun _ => 0))), (q2, .inl (K.2.1, 56, .inl (fun _ => 0)))]) rfl dX3_init_17 ?_
  refine go_aload_n C 0 dX3_init_20 rfl rfl ?_
  refine go_iconst (v := 5) C dX3_init_21 (by decide) ?_
  refine go_newI C (N := 5) (by decide +kernel) (by decide) rfl (Nat.le_of_ble_eq_true rfl) (Nat.le_of_ble_eq_true rfl) (Nat.le_of_ble_eq_true rfl) dX3_init_22 (fun q3 => ?_)
  refine go_ws (ws' := [(b, .inr (3, [.ref q1, .ref q2, .int 0, .null, .null, .null, .null, .null, .long 0])), (q1, .inl (K.2.1, 14, .inl (fun _ => 0))), (q2, .inl (K.2.1, 56, .inl (fun _ => 0))), (q3, .inl (K.2.1, 5, .inl (fun _ => 0)))]) rfl ?_
  refine go_putF C hi tyX3 tyX3_ok nmX3 (by decide +kernel) 0 rfl rfl 3 (by decide) (by decide +kernel) rfl rfl (tyX3_ok 3 (by decide)) rfl rfl (Nat.le_of_ble_eq_true rfl) (ws' := [(b, .inr (3, [.ref q1, .ref q2, .int 0, .ref q3, .null, .null, .null, .null, .long 0])), (q1, .inl (K.2.1, 14, .inl (fun _ => 0))), (q2, .inl (K.2.1, 56, .inl (fun _ => 0))), (q3, .inl (K.2.1, 5, .inl (fun _ => 0)))]) rfl dX3_init_24 ?_
  refine go_aload_n C 0 dX3_init_27 rfl rfl ?_
  refine go_bipush (v := 6) C dX3_init_28 (by decide) ?_
  refine go_newI C (N := 6) (by decide +kernel) (by decide) rfl (Nat.le_of_ble_eq_true rfl) (Nat.le_of_ble_eq_true rfl) (Nat.le_of_ble_eq_true rfl) dX3_init_30 (fun q4 => ?_)
  refine go_ws (ws' := [(b, .inr (3, [.ref q1, .ref q2, .int 0, .ref q3, .null, .null, .null, .null, .long 0])), (q1, .inl (K.2.1, 14, .inl (fun _ => 0))), (q2, .inl (K.2.1, 56, .inl (fun _ => 0))), (q3, .inl (K.2.1, 5, .inl (fun _ => 0))), (q4, .inl (K.2.1, 6, .inl (fun _ => 0)))]) rfl ?_
  refine go_putF C hi tyX3 tyX3_ok nmX3 (by decide +kernel) 0 rfl rfl 4 (by decide) (by decide +kernel) rfl rfl (tyX3_ok 4 (by decide)) rfl rfl (Nat.le_of_ble_eq_true rfl) (ws' := [(b, .inr (3, [.ref q1, .ref q2, .int 0, .ref q3, .ref q4, .null, .null, .null, .long 0])), (q1, .inl (K.2.1, 14, .inl (fun _ => 0))), (q2, .inl (K.2.1, 56, .inl (fun _ => 0))), (q3, .inl (K.2.1, 5, .inl (fun _ => 0))), (q4, .inl (K.2.1, 6, .inl (fun _ => 0)))]) rfl dX3_init_32 ?_
  refine go_aload_n C 0 dX3_init_35 rfl rfl ?_
  refine go_sipush (v := 256) C dX3_init_36 (by decide) ?_
  refine go_newI C (N := 256) (by decide +kernel) (by decide) rfl (Nat.le_of_ble_eq_true rfl) (Nat.le_of_ble_eq_true rfl) (Nat.le_of_ble_eq_true rfl) dX3_init_39 (fun q5 => ?_)
  refine go_ws (ws' := [(b, .inr (3, [.ref q1, .ref q2, .int 0, .ref q3, .ref q4, .null, .null, .null, .long 0])), (q1, .inl (K.2.1, 14, .inl (fun _ => 0))), (q2, .inl (K.2.1, 56, .inl (fun _ => 0))), (q3, .inl (K.2.1, 5, .inl (fun _ => 0))), (q4, .inl (K.2.1, 6, .inl (fun _ => 0))), (q5, .inl (K.2.1, 256, .inl (fun _ => 0)))]) rfl ?_
  refine go_putF C hi tyX3 tyX3_ok nmX3 (by decide +kernel) 0 rfl rfl 5 (by decide) (by decide +kernel) rfl rfl (tyX3_ok 5 (by decide)) rfl rfl (Nat.le_of_ble_eq_true rfl) (ws' := [(b, .inr (3, [.ref q1, .ref q2, .int 0, .ref q3, .ref q4, .ref q5, .null, .null, .long 0])), (q1, .inl (K.2.1, 14, .inl (fun _ => 0))), (q2, .inl (K.2.1, 56, .inl (fun _ => 0))), (q3, .inl (K.2.1, 5, .inl (fun _ => 0))), (q4, .inl (K.2.1, 6, .inl (fun _ => 0))), (q5, .inl (K.2.1, 256, .inl (fun _ => 0)))]) rfl dX3_init_41 ?_
  refine go_aload_n C 0 dX3_init_44 rfl rfl ?_
  refine go_bipush (v := 64) C dX3_init_45 (by decide) ?_
  refine go_newZ C (N := 64) (by decide +kernel) (by decide) rfl (Nat.le_of_ble_eq_true rfl) (Nat.le_of_ble_eq_true rfl) (Nat.le_of_ble_eq_true rfl) dX3_init_47 (fun q6 => ?_)
  refine go_ws (ws' := [(b, .inr (3, [.ref q1, .ref q2, .int 0, .ref q3, .ref q4, .ref q5, .null, .null, .long 0])), (q1, .inl (K.2.1, 14, .inl (fun _ => 0))), (q2, .inl (K.2.1, 56, .inl (fun _ => 0))), (q3, .inl (K.2.1, 5, .inl (fun _ => 0))), (q4, .inl (K.2.1, 6, .inl (fun _ => 0))), (q5, .inl (K.2.1, 256, .inl (fun _ => 0))), (q6, .inl (K.2.2.1, 64, .inl (fun _ => 0)))]) rfl ?_
  refine go_putF C hi tyX3 tyX3_ok nmX3 (by decide +kernel) 0 rfl rfl 6 (by decide) (by decide +kernel) rfl rfl (tyX3_ok 6 (by decide)) rfl rfl (Nat.le_of_ble_eq_true rfl) (ws' := [(b, .inr (3, [.ref q1, .ref q2, .int 0, .ref q3, .ref q4, .ref q5, .ref q6, .null, .long 0])), (q1, .inl (K.2.1, 14, .inl (fun _ => 0))), (q2, .inl (K.2.1, 56, .inl (fun _ => 0))), (q3, .inl (K.2.1, 5, .inl (fun _ => 0))), (q4, .inl (K.2.1, 6, .inl (fun _ => 0))), (q5, .inl (K.2.1, 256, .inl (fun _ => 0))), (q6, .inl (K.2.2.1, 64, .inl (fun _ => 0)))]) rfl dX3_init_49 ?_
  refine go_aload_n C 0 dX3_init_52 rfl rfl ?_
  refine go_sipush (v := 256) C dX3_init_53 (by decide) ?_
  refine go_newI C (N := 256) (by decide +kernel) (by decide) rfl (Nat.le_of_ble_eq_true rfl) (Nat.le_of_ble_eq_true rfl) (Nat.le_of_ble_eq_true rfl) dX3_init_56 (fun q7 => ?_)
  refine go_ws (ws' := [(b, .inr (3, [.ref q1, .ref q2, .int 0, .ref q3, .ref q4, .ref q5, .ref q6, .null, .long 0])), (q1, .inl (K.2.1, 14, .inl (fun _ => 0))), (q2, .inl (K.2.1, 56, .inl (fun _ => 0))), (q3, .inl (K.2.1, 5, .inl (fun _ => 0))), (q4, .inl (K.2.1, 6, .inl (fun _ => 0))), (q5, .inl (K.2.1, 256, .inl (fun _ => 0))), (q6, .inl (K.2.2.1, 64, .inl (fun _ => 0))), (q7, .inl (K.2.1, 256, .inl (fun _ => 0)))]) rfl ?_
  refine go_putF C hi tyX3 tyX3_ok nmX3 (by decide +kernel) 0 rfl rfl 7 (by decide) (by decide +kernel) rfl rfl (tyX3_ok 7 (by decide)) rfl rfl (Nat.le_of_ble_eq_true rfl) (ws' := [(b, .inr (3, [.ref q1, .ref q2, .int 0, .ref q3, .ref q4, .ref q5, .ref q6, .ref q7, .long 0])), (q1, .inl (K.2.1, 14, .inl (fun _ => 0))), (q2, .inl (K.2.1, 56, .inl (fun _ => 0))), (q3, .inl (K.2.1, 5, .inl (fun _ => 0))), (q4, .inl (K.2.1, 6, .inl (fun _ => 0))), (q5, .inl (K.2.1, 256, .inl (fun _ => 0))), (q6, .inl (K.2.2.1, 64, .inl (fun _ => 0))), (q7, .inl (K.2.1, 256, .inl (fun _ => 0)))]) rfl dX3_init_58 ?_
  refine go_aload_n C 0 dX3_init_61 rfl rfl ?_
  refine go_getO C (by decide +kernel) 0 rfl rfl 0 (by decide) (by decide +kernel) rfl dX3_init_62 ?_
  refine go_iconst (v := 0) C dX3_init_65 (by decide) ?_
  refine go_bipush (v := 6) C dX3_init_66 (by decide) ?_
  refine go_iastO C 1 rfl (by unfold vp_in; decide) (ws' := [(b, .inr (3, [.ref q1, .ref q2, .int 0, .ref q3, .ref q4, .ref q5, .ref q6, .ref q7, .long 0])), (q1, .inl (K.2.1, 14, .inl (upd (fun _ => 0) 0 6))), (q2, .inl (K.2.1, 56, .inl (fun _ => 0))), (q3, .inl (K.2.1, 5, .inl (fun _ => 0))), (q4, .inl (K.2.1, 6, .inl (fun _ => 0))), (q5, .inl (K.2.1, 256, .inl (fun _ => 0))), (q6, .inl (K.2.2.1, 64, .inl (fun _ => 0))), (q7, .inl (K.2.1, 256, .inl (fun _ => 0)))]) rfl dX3_init_68 ?_
  exact go_vretI C (fun i => [b, q1, q2, q3, q4, q5, q6, q7].getD i 0) rfl dX3_init_69
set_option maxRecDepth 20000 in
set_option maxHeartbeats 2000000 in
theorem con_X2_init (l : Launch) (K : KK) (b : Nat) : ConI l yX2_init wsX2_init 2 K b [(b, .inr (2, [.null, .null, .int 0, .null, .null]))] 19 97 (fun g => xW K (fun i => if i = 0 then b else g i) 6 0 (fun _ => 0) (fun _ => 0) 0 (fun _ => 0) (fun _ => 0) 0 (fun i => i) (fun _ => 6) (fun _ => 0) (fun _ _ => 0) (fun _ _ => 0)) := by
  refine con_ofI (cc := cX2_init) (maxL := 2) (own := RX2) (by decide) rfl rfl rfl (Nat.le_of_ble_eq_true rfl) (fun p e s m args below meth c A C hi hO => ?_)
  refine go_aload_n C 0 dX2_init_0 rfl rfl ?_
  refine go_objInit C (by decide +kernel) (by decide +kernel) (List.mem_of_getElem? (i := 3) rfl) dX2_init_1 (Nat.le_of_ble_eq_true rfl) (Nat.le_of_ble_eq_true rfl) ?_
  refine go_aload_n C 0 dX2_init_4 rfl rfl ?_
  refine go_newO C (ci := 1) (fs := [.int 0, .int 0, .null, .null]) (Cn := RX1) (T := TX1) (N := 4) (by decide +kernel) tyX1 tyX1_ok (by decide +kernel) (by decide +kernel) (by decide +kernel) rfl (fun j hj => by rcases (show j = 0 ∨ j = 1 ∨ j = 2 ∨ j = 3 by omega) with rfl | rfl | rfl | rfl <;> rfl) (Nat.le_of_ble_eq_true rfl) (Nat.le_of_ble_eq_true rfl) dX2_init_5 (fun q1 => ?_)
  refine go_dup C dX2_init_8 rfl ?_
  refine go_callIN C (con_X1_init l K q1) gX2_init_X1_init_n11 C.2.2.1.2.2.2.2.1 (by decide +kernel) (by decide +kernel) rfl (by decide) rfl ⟨Nat.le_of_ble_eq_true rfl, Nat.le_of_ble_eq_true rfl⟩ ⟨Nat.le_of_ble_eq_true rfl, Nat.le_of_ble_eq_true rfl⟩ hO (Nat.le_of_ble_eq_true rfl) dX2_init_9 (fun g1 => ?_)
  refine go_ws (ws' := [(b, .inr (2, [.null, .null, .int 0, .null, .null])), (q1, .inr (1, [.int 6, .int 0, .ref (g1 0), .ref (g1 1)])), (g1 0, .inl (K.2.1, 6, .inl (fun _ => 0))), (g1 1, .inl (K.2.2.1, 6, .inl (fun _ => 0)))]) rfl ?_
  refine go_putF C hi tyX2 tyX2_ok nmX2 (by decide +kernel) 0 rfl rfl 0 (by decide) (by decide +kernel) rfl rfl (tyX2_ok 0 (by decide)) rfl rfl (Nat.le_of_ble_eq_true rfl) (ws' := [(b, .inr (2, [.ref q1, .null, .int 0, .null, .null])), (q1, .inr (1, [.int 6, .int 0, .ref (g1 0), .ref (g1 1)])), (g1 0, .inl (K.2.1, 6, .inl (fun _ => 0))), (g1 1, .inl (K.2.2.1, 6, .inl (fun _ => 0)))]) rfl dX2_init_12 ?_
  refine go_aload_n C 0 dX2_init_15 rfl rfl ?_
  refine go_iconst (v := 4) C dX2_init_16 (by decide) ?_
  refine go_newQ C (N := 4) hO (by decide +kernel) (by decide) rfl (Nat.le_of_ble_eq_true rfl) (Nat.le_of_ble_eq_true rfl) (Nat.le_of_ble_eq_true rfl) dX2_init_17 (fun q2 => ?_)
  refine go_ws (ws' := [(b, .inr (2, [.ref q1, .null, .int 0, .null, .null])), (q1, .inr (1, [.int 6, .int 0, .ref (g1 0), .ref (g1 1)])), (g1 0, .inl (K.2.1, 6, .inl (fun _ => 0))), (g1 1, .inl (K.2.2.1, 6, .inl (fun _ => 0))), (q2, .inl (K.2.2.2, 4, .inr (.inr (.inr (.inr (fun _ => none))))))]) rfl ?_
  refine go_putF C hi tyX2 tyX2_ok nmX2 (by decide +kernel) 0 rfl rfl 1 (by decide) (by decide +kernel) rfl rfl (tyX2_ok 1 (by decide)) rfl rfl (Nat.le_of_ble_eq_true rfl) (ws' := [(b, .inr (2, [.ref q1, .ref q2, .int 0, .null, .null])), (q1, .inr (1, [.int 6, .int 0, .ref (g1 0), .ref (g1 1)])), (g1 0, .inl (K.2.1, 6, .inl (fun _ => 0))), (g1 1, .inl (K.2.2.1, 6, .inl (fun _ => 0))), (q2, .inl (K.2.2.2, 4, .inr (.inr (.inr (.inr (fun _ => none))))))]) rfl dX2_init_20 ?_
  refine go_iconst (v := 0) C dX2_init_23 (by decide) ?_
  refine go_istore_n C (lv' := [(0, .ref b), (1, .int 0)]) [1, 0] dX2_init_24 rfl (by decide) rfl ?_
  refine go_iload_n C 1 dX2_init_25 rfl rfl ?_
  refine go_iconst (v := 4) C dX2_init_26 (by decide) ?_
  refine go_icmp_ge C (tgt := 49) dX2_init_27 (by decide) (fun h => absurd h (by decide)) (fun _ => ?_)
  refine go_aload_n C 0 dX2_init_30 rfl rfl ?_
  refine go_getO C (by decide +kernel) 0 rfl rfl 1 (by decide) (by decide +kernel) rfl dX2_init_31 ?_
  refine go_iload_n C 1 dX2_init_34 rfl rfl ?_
  refine go_newO C (ci := 1) (fs := [.int 0, .int 0, .null, .null]) (Cn := RX1) (T := TX1) (N := 4) (by decide +kernel) tyX1 tyX1_ok (by decide +kernel) (by decide +kernel) (by decide +kernel) rfl (fun j hj => by rcases (show j = 0 ∨ j = 1 ∨ j = 2 ∨ j = 3 by omega) with rfl | rfl | rfl | rfl <;> rfl) (Nat.le_of_ble_eq_true rfl) (Nat.le_of_ble_eq_true rfl) dX2_init_35 (fun r0 => ?_)
  refine go_dup C dX2_init_38 rfl ?_
  refine go_callIN C (con_X1_init l K r0) gX2_init_X1_init_n11 C.2.2.1.2.2.2.2.1 (by decide +kernel) (by decide +kernel) rfl (by decide) rfl ⟨Nat.le_of_ble_eq_true rfl, Nat.le_of_ble_eq_true rfl⟩ ⟨Nat.le_of_ble_eq_true rfl, Nat.le_of_ble_eq_true rfl⟩ hO (Nat.le_of_ble_eq_true rfl) dX2_init_39 (fun h0 => ?_)
  refine go_ws (ws' := [(b, .inr (2, [.ref q1, .ref q2, .int 0, .null, .null])), (q1, .inr (1, [.int 6, .int 0, .ref (g1 0), .ref (g1 1)])), (g1 0, .inl (K.2.1, 6, .inl (fun _ => 0))), (g1 1, .inl (K.2.2.1, 6, .inl (fun _ => 0))), (q2, .inl (K.2.2.2, 4, .inr (.inr (.inr (.inr (fun _ => none)))))), (r0, .inr (1, [.int 6, .int 0, .ref (h0 0), .ref (h0 1)])), (h0 0, .inl (K.2.1, 6, .inl (fun _ => 0))), (h0 1, .inl (K.2.2.1, 6, .inl (fun _ => 0)))]) rfl ?_
  refine go_astO C 4 5 1 (r := (RX1, TX1, 4)) rfl rfl rfl rfl (by unfold vp_in; decide) (ws' := [(b, .inr (2, [.ref q1, .ref q2, .int 0, .null, .null])), (q1, .inr (1, [.int 6, .int 0, .ref (g1 0), .ref (g1 1)])), (g1 0, .inl (K.2.1, 6, .inl (fun _ => 0))), (g1 1, .inl (K.2.2.1, 6, .inl (fun _ => 0))), (q2, .inl (K.2.2.2, 4, .inr (.inr (.inr (.inr (va_up (fun _ => none) 0 (some r0))))))), (r0, .inr (1, [.int 6, .int 0, .ref (h0 0), .ref (h0 1)])), (h0 0, .inl (K.2.1, 6, .inl (fun _ => 0))), (h0 1, .inl (K.2.2.1, 6, .inl (fun _ => 0)))]) rfl dX2_init_42 ?_
  refine go_iinc C (v := 1) (lv' := [(0, .ref b), (1, .int 1)]) 1 [1, 0] dX2_init_43 rfl (by decide) (by decide) rfl ?_
  refine go_goto C (tgt := 25) dX2_init_46 (by decide) ?_
  refine go_iload_n C 1 dX2_init_25 rfl rfl ?_
  refine go_iconst (v := 4) C dX2_init_26 (by decide) ?_
  refine go_icmp_ge C (tgt := 49) dX2_init_27 (by decide) (fun h => absurd h (by decide)) (fun _ => ?_)
  refine go_aload_n C 0 dX2_init_30 rfl rfl ?_
  refine go_getO C (by decide +kernel) 0 rfl rfl 1 (by decide) (by decide +kernel) rfl dX2_init_31 ?_
  refine go_iload_n C 1 dX2_init_34 rfl rfl ?_
  refine go_newO C (ci := 1) (fs := [.int 0, .int 0, .null, .null]) (Cn := RX1) (T := TX1) (N := 4) (by decide +kernel) tyX1 tyX1_ok (by decide +kernel) (by decide +kernel) (by decide +kernel) rfl (fun j hj => by rcases (show j = 0 ∨ j = 1 ∨ j = 2 ∨ j = 3 by omega) with rfl | rfl | rfl | rfl <;> rfl) (Nat.le_of_ble_eq_true rfl) (Nat.le_of_ble_eq_true rfl) dX2_init_35 (fun r1 => ?_)
  refine go_dup C dX2_init_38 rfl ?_
  refine go_callIN C (con_X1_init l K r1) gX2_init_X1_init_n11 C.2.2.1.2.2.2.2.1 (by decide +kernel) (by decide +kernel) rfl (by decide) rfl ⟨Nat.le_of_ble_eq_true rfl, Nat.le_of_ble_eq_true rfl⟩ ⟨Nat.le_of_ble_eq_true rfl, Nat.le_of_ble_eq_true rfl⟩ hO (Nat.le_of_ble_eq_true rfl) dX2_init_39 (fun h1 => ?_)
  refine go_ws (ws' := [(b, .inr (2, [.ref q1, .ref q2, .int 0, .null, .null])), (q1, .inr (1, [.int 6, .int 0, .ref (g1 0), .ref (g1 1)])), (g1 0, .inl (K.2.1, 6, .inl (fun _ => 0))), (g1 1, .inl (K.2.2.1, 6, .inl (fun _ => 0))), (q2, .inl (K.2.2.2, 4, .inr (.inr (.inr (.inr (va_up (fun _ => none) 0 (some r0))))))), (r0, .inr (1, [.int 6, .int 0, .ref (h0 0), .ref (h0 1)])), (h0 0, .inl (K.2.1, 6, .inl (fun _ => 0))), (h0 1, .inl (K.2.2.1, 6, .inl (fun _ => 0))), (r1, .inr (1, [.int 6, .int 0, .ref (h1 0), .ref (h1 1)])), (h1 0, .inl (K.2.1, 6, .inl (fun _ => 0))), (h1 1, .inl (K.2.2.1, 6, .inl (fun _ => 0)))]) rfl ?_
  refine go_astO C 4 8 1 (r := (RX1, TX1, 4)) rfl rfl rfl rfl (by unfold vp_in; decide) (ws' := [(b, .inr (2, [.ref q1, .ref q2, .int 0, .null, .null])), (q1, .inr (1, [.int 6, .int 0, .ref (g1 0), .ref (g1 1)])), (g1 0, .inl (K.2.1, 6, .inl (fun _ => 0))), (g1 1, .inl (K.2.2.1, 6, .inl (fun _ => 0))), (q2, .inl (K.2.2.2, 4, .inr (.inr (.inr (.inr (va_up (va_up (fun _ => none) 0 (some r0)) 1 (some r1))))))), (r0, .inr (1, [.int 6, .int 0, .ref (h0 0), .ref (h0 1)])), (h0 0, .inl (K.2.1, 6, .inl (fun _ => 0))), (h0 1, .inl (K.2.2.1, 6, .inl (fun _ => 0))), (r1, .inr (1, [.int 6, .int 0, .ref (h1 0), .ref (h1 1)])), (h1 0, .inl (K.2.1, 6, .inl (fun _ => 0))), (h1 1, .inl (K.2.2.1, 6, .inl (fun _ => 0)))]) rfl dX2_init_42 ?_
  refine go_iinc C (v := 2) (lv' := [(0, .ref b), (1, .int 2)]) 1 [1, 0] dX2_init_43 rfl (by decide) (by decide) rfl ?_
  refine go_goto C (tgt := 25) dX2_init_46 (by decide) ?_
  refine go_iload_n C 1 dX2_init_25 rfl rfl ?_
  refine go_iconst (v := 4) C dX2_init_26 (by decide) ?_
  refine go_icmp_ge C (tgt := 49) dX2_init_27 (by decide) (fun h => absurd h (by decide)) (fun _ => ?_)
  refine go_aload_n C 0 dX2_init_30 rfl rfl ?_
  refine go_getO C (by decide +kernel) 0 rfl rfl 1 (by decide) (by decide +kernel) rfl dX2_init_31 ?_
  refine go_iload_n C 1 dX2_init_34 rfl rfl ?_
  refine go_newO C (ci := 1) (fs := [.int 0, .int 0, .null, .null]) (Cn := RX1) (T := TX1) (N := 4) (by decide +kernel) tyX1 tyX1_ok (by decide +kernel) (by decide +kernel) (by decide +kernel) rfl (fun j hj => by rcases (show j = 0 ∨ j = 1 ∨ j = 2 ∨ j = 3 by omega) with rfl | rfl | rfl | rfl <;> rfl) (Nat.le_of_ble_eq_true rfl) (Nat.le_of_ble_eq_true rfl) dX2_init_35 (fun r2 => ?_)
  refine go_dup C dX2_init_38 rfl ?_
  refine go_callIN C (con_X1_init l K r2) gX2_init_X1_init_n11 C.2.2.1.2.2.2.2.1 (by decide +kernel) (by decide +kernel) rfl (by decide) rfl ⟨Nat.le_of_ble_eq_true rfl, Nat.le_of_ble_eq_true rfl⟩ ⟨Nat.le_of_ble_eq_true rfl, Nat.le_of_ble_eq_true rfl⟩ hO (Nat.le_of_ble_eq_true rfl) dX2_init_39 (fun h2 => ?_)
  refine go_ws (ws' := [(b, .inr (2, [.ref q1, .ref q2, .int 0, .null, .null])), (q1, .inr (1, [.int 6, .int 0, .ref (g1 0), .ref (g1 1)])), (g1 0, .inl (K.2.1, 6, .inl (fun _ => 0))), (g1 1, .inl (K.2.2.1, 6, .inl (fun _ => 0))), (q2, .inl (K.2.2.2, 4, .inr (.inr (.inr (.inr (va_up (va_up (fun _ => none) 0 (some r0)) 1 (some r1))))))), (r0, .inr (1, [.int 6, .int 0, .ref (h0 0), .ref (h0 1)])), (h0 0, .inl (K.2.1, 6, .inl (fun _ => 0))), (h0 1, .inl (K.2.2.1, 6, .inl (fun _ => 0))), (r1, .inr (1, [.int 6, .int 0, .ref (h1 0), .ref (h1 1)])), (h1 0, .inl (K.2.1, 6, .inl (fun _ => 0))), (h1 1, .inl (K.2.2.1, 6, .inl (fun _ => 0))), (r2, .inr (1, [.int 6, .int 0, .ref (h2 0), .ref (h2 1)])), (h2 0, .inl (K.2.1, 6, .inl (fun _ => 0))), (h2 1, .inl (K.2.2.1, 6, .inl (fun _ => 0)))]) rfl ?_
  refine go_astO C 4 11 1 (r := (RX1, TX1, 4)) rfl rfl rfl rfl (by unfold vp_in; decide) (ws' := [(b, .inr (2, [.ref q1, .ref q2, .int 0, .null, .null])), (q1, .inr (1, [.int 6, .int 0, .ref (g1 0), .ref (g1 1)])), (g1 0, .inl (K.2.1, 6, .inl (fun _ => 0))), (g1 1, .inl (K.2.2.1, 6, .inl (fun _ => 0))), (q2, .inl (K.2.2.2, 4, .inr (.inr (.inr (.inr (va_up (va_up (va_up (fun _ => none) 0 (some r0)) 1 (some r1)) 2 (some r2))))))), (r0, .inr (1, [.int 6, .int 0, .ref (h0 0), .ref (h0 1)])), (h0 0, .inl (K.2.1, 6, .inl (fun _ => 0))), (h0 1, .inl (K.2.2.1, 6, .inl (fun _ => 0))), (r1, .inr (1, [.int 6, .int 0, .ref (h1 0), .ref (h1 1)])), (h1 0, .inl (K.2.1, 6, .inl (fun _ => 0))), (h1 1, .inl (K.2.2.1, 6, .inl (fun _ => 0))), (r2, .inr (1, [.int 6, .int 0, .ref (h2 0), .ref (h2 1)])), (h2 0, .inl (K.2.1, 6, .inl (fun _ => 0))), (h2 1, .inl (K.2.2.1, 6, .inl (fun _ => 0)))]) rfl dX2_init_42 ?_
  refine go_iinc C (v := 3) (lv' := [(0, .ref b), (1, .int 3)]) 1 [1, 0] dX2_init_43 rfl (by decide) (by decide) rfl ?_
  refine go_goto C (tgt := 25) dX2_init_46 (by decide) ?_
  refine go_iload_n C 1 dX2_init_25 rfl rfl ?_
  refine go_iconst (v := 4) C dX2_init_26 (by decide) ?_
  refine go_icmp_ge C (tgt := 49) dX2_init_27 (by decide) (fun h => absurd h (by decide)) (fun _ => ?_)
  refine go_aload_n C 0 dX2_init_30 rfl rfl ?_
  refine go_getO C (by decide +kernel) 0 rfl rfl 1 (by decide) (by decide +kernel) rfl dX2_init_31 ?_
  refine go_iload_n C 1 dX2_init_34 rfl rfl ?_
  refine go_newO C (ci := 1) (fs := [.int 0, .int 0, .null, .null]) (Cn := RX1) (T := TX1) (N := 4) (by decide +kernel) tyX1 tyX1_ok (by decide +kernel) (by decide +kernel) (by decide +kernel) rfl (fun j hj => by rcases (show j = 0 ∨ j = 1 ∨ j = 2 ∨ j = 3 by omega) with rfl | rfl | rfl | rfl <;> rfl) (Nat.le_of_ble_eq_true rfl) (Nat.le_of_ble_eq_true rfl) dX2_init_35 (fun r3 => ?_)
  refine go_dup C dX2_init_38 rfl ?_
  refine go_callIN C (con_X1_init l K r3) gX2_init_X1_init_n11 C.2.2.1.2.2.2.2.1 (by decide +kernel) (by decide +kernel) rfl (by decide) rfl ⟨Nat.le_of_ble_eq_true rfl, Nat.le_of_ble_eq_true rfl⟩ ⟨Nat.le_of_ble_eq_true rfl, Nat.le_of_ble_eq_true rfl⟩ hO (Nat.le_of_ble_eq_true rfl) dX2_init_39 (fun h3 => ?_)
  refine go_ws (ws' := [(b, .inr (2, [.ref q1, .ref q2, .int 0, .null, .null])), (q1, .inr (1, [.int 6, .int 0, .ref (g1 0), .ref (g1 1)])), (g1 0, .inl (K.2.1, 6, .inl (fun _ => 0))), (g1 1, .inl (K.2.2.1, 6, .inl (fun _ => 0))), (q2, .inl (K.2.2.2, 4, .inr (.inr (.inr (.inr (va_up (va_up (va_up (fun _ => none) 0 (some r0)) 1 (some r1)) 2 (some r2))))))), (r0, .inr (1, [.int 6, .int 0, .ref (h0 0), .ref (h0 1)])), (h0 0, .inl (K.2.1, 6, .inl (fun _ => 0))), (h0 1, .inl (K.2.2.1, 6, .inl (fun _ => 0))), (r1, .inr (1, [.int 6, .int 0, .ref (h1 0), .ref (h1 1)])), (h1 0, .inl (K.2.1, 6, .inl (fun _ => 0))), (h1 1, .inl (K.2.2.1, 6, .inl (fun _ => 0))), (r2, .inr (1, [.int 6, .int 0, .ref (h2 0), .ref (h2 1)])), (h2 0, .inl (K.2.1, 6, .inl (fun _ => 0))), (h2 1, .inl (K.2.2.1, 6, .inl (fun _ => 0))), (r3, .inr (1, [.int 6, .int 0, .ref (h3 0), .ref (h3 1)])), (h3 0, .inl (K.2.1, 6, .inl (fun _ => 0))), (h3 1, .inl (K.2.2.1, 6, .inl (fun _ => 0)))]) rfl ?_
  refine go_astO C 4 14 1 (r := (RX1, TX1, 4)) rfl rfl rfl rfl (by unfold vp_in; decide) (ws' := [(b, .inr (2, [.ref q1, .ref q2, .int 0, .null, .null])), (q1, .inr (1, [.int 6, .int 0, .ref (g1 0), .ref (g1 1)])), (g1 0, .inl (K.2.1, 6, .inl (fun _ => 0))), (g1 1, .inl (K.2.2.1, 6, .inl (fun _ => 0))), (q2, .inl (K.2.2.2, 4, .inr (.inr (.inr (.inr (va_up (va_up (va_up (va_up (fun _ => none) 0 (some r0)) 1 (some r1)) 2 (some r2)) 3 (some r3))))))), (r0, .inr (1, [.int 6, .int 0, .ref (h0 0), .ref (h0 1)])), (h0 0, .inl (K.2.1, 6, .inl (fun _ => 0))), (h0 1, .inl (K.2.2.1, 6, .inl (fun _ => 0))), (r1, .inr (1, [.int 6, .int 0, .ref (h1 0), .ref (h1 1)])), (h1 0, .inl (K.2.1, 6, .inl (fun _ => 0))), (h1 1, .inl (K.2.2.1, 6, .inl (fun _ => 0))), (r2, .inr (1, [.int 6, .int 0, .ref (h2 0), .ref (h2 1)])), (h2 0, .inl (K.2.1, 6, .inl (fun _ => 0))), (h2 1, .inl (K.2.2.1, 6, .inl (fun _ => 0))), (r3, .inr (1, [.int 6, .int 0, .ref (h3 0), .ref (h3 1)])), (h3 0, .inl (K.2.1, 6, .inl (fun _ => 0))), (h3 1, .inl (K.2.2.1, 6, .inl (fun _ => 0)))]) rfl dX2_init_42 ?_
  refine go_iinc C (v := 4) (lv' := [(0, .ref b), (1, .int 4)]) 1 [1, 0] dX2_init_43 rfl (by decide) (by decide) rfl ?_
  refine go_goto C (tgt := 25) dX2_init_46 (by decide) ?_
  refine go_iload_n C 1 dX2_init_25 rfl rfl ?_
  refine go_iconst (v := 4) C dX2_init_26 (by decide) ?_
  refine go_icmp_ge C (tgt := 49) dX2_init_27 (by decide) (fun _ => ?_) (fun h => absurd (by decide) h)
  refine go_aload_n C 0 dX2_init_49 rfl rfl ?_
  refine go_iconst (v := 0) C dX2_init_50 (by decide) ?_
  refine go_putO C tyX2 tyX2_ok nmX2 (by decide +kernel) 0 rfl rfl 2 (by decide) (by decide +kernel) rfl (tyX2_ok 2 (by decide)) rfl rfl (Nat.le_of_ble_eq_true rfl) (ws' := [(b, .inr (2, [.ref q1, .ref q2, .int 0, .null, .null])), (q1, .inr (1, [.int 6, .int 0, .ref (g1 0), .ref (g1 1)])), (g1 0, .inl (K.2.1, 6, .inl (fun _ => 0))), (g1 1, .inl (K.2.2.1, 6, .inl (fun _ => 0))), (q2, .inl (K.2.2.2, 4, .inr (.inr (.inr (.inr (va_up (va_up (va_up (va_up (fun _ => none) 0 (some r0)) 1 (some r1)) 2 (some r2)) 3 (some r3))))))), (r0, .inr (1, [.int 6, .int 0, .ref (h0 0), .ref (h0 1)])), (h0 0, .inl (K.2.1, 6, .inl (fun _ => 0))), (h0 1, .inl (K.2.2.1, 6, .inl (fun _ => 0))), (r1, .inr (1, [.int 6, .int 0, .ref (h1 0), .ref (h1 1)])), (h1 0, .inl (K.2.1, 6, .inl (fun _ => 0))), (h1 1, .inl (K.2.2.1, 6, .inl (fun _ => 0))), (r2, .inr (1, [.int 6, .int 0, .ref (h2 0), .ref (h2 1)])), (h2 0, .inl (K.2.1, 6, .inl (fun _ => 0))), (h2 1, .inl (K.2.2.1, 6, .inl (fun _ => 0))), (r3, .inr (1, [.int 6, .int 0, .ref (h3 0), .ref (h3 1)])), (h3 0, .inl (K.2.1, 6, .inl (fun _ => 0))), (h3 1, .inl (K.2.2.1, 6, .inl (fun _ => 0)))]) rfl dX2_init_51 ?_
  refine go_aload_n C 0 dX2_init_54 rfl rfl ?_
  refine go_iconst (v := 5) C dX2_init_55 (by decide) ?_
  refine go_newI C (N := 5) (by decide +kernel) (by decide) rfl (Nat.le_of_ble_eq_true rfl) (Nat.le_of_ble_eq_true rfl) (Nat.le_of_ble_eq_true rfl) dX2_init_56 (fun q3 => ?_)
  refine go_ws (ws' := [(b, .inr (2, [.ref q1, .ref q2, .int 0, .null, .null])), (q1, .inr (1, [.int 6, .int 0, .ref (g1 0), .ref (g1 1)])), (g1 0, .inl (K.2.1, 6, .inl (fun _ => 0))), (g1 1, .inl (K.2.2.1, 6, .inl (fun _ => 0))), (q2, .inl (K.2.2.2, 4, .inr (.inr (.inr (.inr (va_up (va_up (va_up (va_up (fun _ => none) 0 (some r0)) 1 (some r1)) 2 (some r2)) 3 (some r3))))))), (r0, .inr (1, [.int 6, .int 0, .ref (h0 0), .ref (h0 1)])), (h0 0, .inl (K.2.1, 6, .inl (fun _ => 0))), (h0 1, .inl (K.2.2.1, 6, .inl (fun _ => 0))), (r1, .inr (1, [.int 6, .int 0, .ref (h1 0), .ref (h1 1)])), (h1 0, .inl (K.2.1, 6, .inl (fun _ => 0))), (h1 1, .inl (K.2.2.1, 6, .inl (fun _ => 0))), (r2, .inr (1, [.int 6, .int 0, .ref (h2 0), .ref (h2 1)])), (h2 0, .inl (K.2.1, 6, .inl (fun _ => 0))), (h2 1, .inl (K.2.2.1, 6, .inl (fun _ => 0))), (r3, .inr (1, [.int 6, .int 0, .ref (h3 0), .ref (h3 1)])), (h3 0, .inl (K.2.1, 6, .inl (fun _ => 0))), (h3 1, .inl (K.2.2.1, 6, .inl (fun _ => 0))), (q3, .inl (K.2.1, 5, .inl (fun _ => 0)))]) rfl ?_
  refine go_putF C hi tyX2 tyX2_ok nmX2 (by decide +kernel) 0 rfl rfl 3 (by decide) (by decide +kernel) rfl rfl (tyX2_ok 3 (by decide)) rfl rfl (Nat.le_of_ble_eq_true rfl) (ws' := [(b, .inr (2, [.ref q1, .ref q2, .int 0, .ref q3, .null])), (q1, .inr (1, [.int 6, .int 0, .ref (g1 0), .ref (g1 1)])), (g1 0, .inl (K.2.1, 6, .inl (fun _ => 0))), (g1 1, .inl (K.2.2.1, 6, .inl (fun _ => 0))), (q2, .inl (K.2.2.2, 4, .inr (.inr (.inr (.inr (va_up (va_up (va_up (va_up (fun _ => none) 0 (some r0)) 1 (some r1)) 2 (some r2)) 3 (some r3))))))), (r0, .inr (1, [.int 6, .int 0, .ref (h0 0), .ref (h0 1)])), (h0 0, .inl (K.2.1, 6, .inl (fun _ => 0))), (h0 1, .inl (K.2.2.1, 6, .inl (fun _ => 0))), (r1, .inr (1, [.int 6, .int 0, .ref (h1 0), .ref (h1 1)])), (h1 0, .inl (K.2.1, 6, .inl (fun _ => 0))), (h1 1, .inl (K.2.2.1, 6, .inl (fun _ => 0))), (r2, .inr (1, [.int 6, .int 0, .ref (h2 0), .ref (h2 1)])), (h2 0, .inl (K.2.1, 6, .inl (fun _ => 0))), (h2 1, .inl (K.2.2.1, 6, .inl (fun _ => 0))), (r3, .inr (1, [.int 6, .int 0, .ref (h3 0), .ref (h3 1)])), (h3 0, .inl (K.2.1, 6, .inl (fun _ => 0))), (h3 1, .inl (K.2.2.1, 6, .inl (fun _ => 0))), (q3, .inl (K.2.1, 5, .inl (fun _ => 0)))]) rfl dX2_init_58 ?_
  refine go_aload_n C 0 dX2_init_61 rfl rfl ?_
  refine go_newO C (ci := 0) (fs := [.null, .int 0]) (Cn := RX0) (T := TX0) (N := 2) (by decide +kernel) tyX0 tyX0_ok (by decide +kernel) (by decide +kernel) (by decide +kernel) rfl (fun j hj => by rcases (show j = 0 ∨ j = 1 by omega) with rfl | rfl <;> rfl) (Nat.le_of_ble_eq_true rfl) (Nat.le_of_ble_eq_true rfl) dX2_init_62 (fun q4 => ?_)
  refine go_dup C dX2_init_65 rfl ?_
  refine go_callIN C (con_X0_init l K q4) gX2_init_X0_init_n30 C.2.2.1.2.2.2.2.2.1 (by decide +kernel) (by decide +kernel) rfl (by decide) rfl ⟨Nat.le_of_ble_eq_true rfl, Nat.le_of_ble_eq_true rfl⟩ ⟨Nat.le_of_ble_eq_true rfl, Nat.le_of_ble_eq_true rfl⟩ hO (Nat.le_of_ble_eq_true rfl) dX2_init_66 (fun g4 => ?_)
  refine go_ws (ws' := [(b, .inr (2, [.ref q1, .ref q2, .int 0, .ref q3, .null])), (q1, .inr (1, [.int 6, .int 0, .ref (g1 0), .ref (g1 1)])), (g1 0, .inl (K.2.1, 6, .inl (fun _ => 0))), (g1 1, .inl (K.2.2.1, 6, .inl (fun _ => 0))), (q2, .inl (K.2.2.2, 4, .inr (.inr (.inr (.inr (va_up (va_up (va_up (va_up (fun _ => none) 0 (some r0)) 1 (some r1)) 2 (some r2)) 3 (some r3))))))), (r0, .inr (1, [.int 6, .int 0, .ref (h0 0), .ref (h0 1)])), (h0 0, .inl (K.2.1, 6, .inl (fun _ => 0))), (h0 1, .inl (K.2.2.1, 6, .inl (fun _ => 0))), (r1, .inr (1, [.int 6, .int 0, .ref (h1 0), .ref (h1 1)])), (h1 0, .inl (K.2.1, 6, .inl (fun _ => 0))), (h1 1, .inl (K.2.2.1, 6, .inl (fun _ => 0))), (r2, .inr (1, [.int 6, .int 0, .ref (h2 0), .ref (h2 1)])), (h2 0, .inl (K.2.1, 6, .inl (fun _ => 0))), (h2 1, .inl (K.2.2.1, 6, .inl (fun _ => 0))), (r3, .inr (1, [.int 6, .int 0, .ref (h3 0), .ref (h3 1)])), (h3 0, .inl (K.2.1, 6, .inl (fun _ => 0))), (h3 1, .inl (K.2.2.1, 6, .inl (fun _ => 0))), (q3, .inl (K.2.1, 5, .inl (fun _ => 0))), (q4, .inr (0, [.ref (g4 0), .int 0])), (g4 0, .inl (K.2.1, 6, .inl (fun _ => 0)))]) rfl ?_
  refine go_putF C hi tyX2 tyX2_ok nmX2 (by decide +kernel) 0 rfl rfl 4 (by decide) (by decide +kernel) rfl rfl (tyX2_ok 4 (by decide)) rfl rfl (Nat.le_of_ble_eq_true rfl) (ws' := [(b, .inr (2, [.ref q1, .ref q2, .int 0, .ref q3, .ref q4])), (q1, .inr (1, [.int 6, .int 0, .ref (g1 0), .ref (g1 1)])), (g1 0, .inl (K.2.1, 6, .inl (fun _ => 0))), (g1 1, .inl (K.2.2.1, 6, .inl (fun _ => 0))), (q2, .inl (K.2.2.2, 4, .inr (.inr (.inr (.inr (va_up (va_up (va_up (va_up (fun _ => none) 0 (some r0)) 1 (some r1)) 2 (some r2)) 3 (some r3))))))), (r0, .inr (1, [.int 6, .int 0, .ref (h0 0), .ref (h0 1)])), (h0 0, .inl (K.2.1, 6, .inl (fun _ => 0))), (h0 1, .inl (K.2.2.1, 6, .inl (fun _ => 0))), (r1, .inr (1, [.int 6, .int 0, .ref (h1 0), .ref (h1 1)])), (h1 0, .inl (K.2.1, 6, .inl (fun _ => 0))), (h1 1, .inl (K.2.2.1, 6, .inl (fun _ => 0))), (r2, .inr (1, [.int 6, .int 0, .ref (h2 0), .ref (h2 1)])), (h2 0, .inl (K.2.1, 6, .inl (fun _ => 0))), (h2 1, .inl (K.2.2.1, 6, .inl (fun _ => 0))), (r3, .inr (1, [.int 6, .int 0, .ref (h3 0), .ref (h3 1)])), (h3 0, .inl (K.2.1, 6, .inl (fun _ => 0))), (h3 1, .inl (K.2.2.1, 6, .inl (fun _ => 0))), (q3, .inl (K.2.1, 5, .inl (fun _ => 0))), (q4, .inr (0, [.ref (g4 0), .int 0])), (g4 0, .inl (K.2.1, 6, .inl (fun _ => 0)))]) rfl dX2_init_69 ?_
  refine go_refs 4 rfl (g := fun i => some ((fun i => [b, q1, q2, q3, q4, g1 0, g1 1, g4 0, r0, h0 0, h0 1, r1, h1 0, h1 1, r2, h2 0, h2 1, r3, h3 0, h3 1].getD i 0) (8 + 3 * i))) (fun j hj => by rcases (show j = 0 ∨ j = 1 ∨ j = 2 ∨ j = 3 by omega) with rfl | rfl | rfl | rfl <;> rfl) rfl ?_
  refine go_perm (ws' := xW K (fun i => [b, q1, q2, q3, q4, g1 0, g1 1, g4 0, r0, h0 0, h0 1, r1, h1 0, h1 1, r2, h2 0, h2 1, r3, h3 0, h3 1].getD i 0) 6 0 (fun _ => 0) (fun _ => 0) 0 (fun _ => 0) (fun _ => 0) 0 (fun i => i) (fun _ => 6) (fun _ => 0) (fun _ _ => 0) (fun _ _ => 0)) [0, 1, 4, 17, 18, 2, 3, 19, 5, 6, 7, 8, 9, 10, 11, 12, 13, 14, 15, 16] (by decide) rfl rfl ?_
  refine go_vretI C (fun i => [b, q1, q2, q3, q4, g1 0, g1 1, g4 0, r0, h0 0, h0 1, r1, h1 0, h1 1, r2, h2 0, h2 1, r3, h3 0, h3 1].getD i 0) ?_ dX2_init_72
  refine congrArg (fun a => xW K a 6 0 (fun _ => 0) (fun _ => 0) 0 (fun _ => 0) (fun _ => 0) 0 (fun i => i) (fun _ => 6) (fun _ => 0) (fun _ _ => 0) (fun _ _ => 0)) (funext fun i => ?_)
  by_cases h : i = 0
  · subst h; rfl
  · rw [if_neg h]
