/-! ===== the law, case by case ===== -/
section LWR
variable {p : Program} {l : Launch} {e : Env} {R : Room} {s : State} {m : MethodId} {args : Array Value} {below : List Frame} {meth : Method} {c : Code} {K : KK} {A : Nat → Prop} {cells slots : Nat} {Q : State → Prop} {cc : ByteArray} {nL : Nat} {own : String} {Ts : List Cond} {rt : Option FieldType} {ws : va_W} {pc : Nat} {lv : List (Nat × Value)} {st : List Value}
theorem go_sld (C : Cx p s m args meth c K A cc nL own Ts rt) {b L : Nat} {xs : Nat → Int32} (hX : va_X b L xs s s.heap) (hbl : b < s.heap.size) (hbA : ¬ A b) {i : Int32} (hin : vp_in i L) (hd : decode cc pc = .ok (.iaload, 1)) (k : Go p l e R s m args below meth c K A nL cells slots Q ws (pc + 1) lv (.int (xs i.toNatClampNeg) :: st)) : Go p l e R s m args below meth c K A nL cells slots Q ws pc lv (.int i :: .ref b :: st) := fun H locs ls hP hD hS hl => va_sld C.1.1 C.1.2.1 hX hbl hbA hS hin hd (k H locs ls hP hD hS hl)
theorem go_slen (C : Cx p s m args meth c K A cc nL own Ts rt) {b L : Nat} {xs : Nat → Int32} (hX : va_X b L xs s s.heap) (hbl : b < s.heap.size) (hbA : ¬ A b) (hd : decode cc pc = .ok (.arraylength, 1)) (k : Go p l e R s m args below meth c K A nL cells slots Q ws (pc + 1) lv (.int (Int32.ofNat L) :: st)) : Go p l e R s m args below meth c K A nL cells slots Q ws pc lv (.ref b :: st) := fun H locs ls hP hD hS hl => va_slen C.1.1 C.1.2.1 hX hbl hbA hS hd (k H locs ls hP hD hS hl)
theorem go_tabO (C : Cx p s m args meth c K A cc nL own Ts rt) {dflt lo hi : Int} {offs : Array Int} {len : Nat} {x : Int32} {tgt : Nat} (hd : decode cc pc = .ok (.tableswitch dflt lo hi offs, len)) (h : x.toInt < lo ∨ hi < x.toInt) (ht : (pc : Int) + dflt = (tgt : Int)) (k : Go p l e R s m args below meth c K A nL cells slots Q ws tgt lv st) : Go p l e R s m args below meth c K A nL cells slots Q ws pc lv (.int x :: st) := fun H locs ls hP hD hS hl => lv_tableOut C.1.1 C.1.2.1 hd h ht (k H locs ls hP hD hS hl)
theorem go_tabI (C : Cx p s m args meth c K A cc nL own Ts rt) {dflt lo hi : Int} {offs : Array Int} {len : Nat} {x : Int32} {off : Int} {tgt : Nat} (hd : decode cc pc = .ok (.tableswitch dflt lo hi offs, len)) (h1 : ¬ x.toInt < lo) (h2 : ¬ hi < x.toInt) (ho : offs[(x.toInt - lo).toNat]? = some off) (ht : (pc : Int) + off = (tgt : Int)) (k : Go p l e R s m args below meth c K A nL cells slots Q ws tgt lv st) : Go p l e R s m args below meth c K A nL cells slots Q ws pc lv (.int x :: st) := fun H locs ls hP hD hS hl => lv_tableIn C.1.1 C.1.2.1 hd h1 h2 ho ht (k H locs ls hP hD hS hl)
/-- the j-th int behind i -/
theorem lw_arg (C : Cx p s m args meth c K A cc nL own Ts rt) {b L : Nat} {xs : Nat → Int32} (hX : va_X b L xs s s.heap) (hbl : b < s.heap.size) (hbA : ¬ A b) (hL : L ≤ 2048) {i : Nat} (j : Nat) {n : Int} {f0 f3 : Fin 4} (hf0 : (f0 : Nat) = 0) (hf3 : (f3 : Nat) = 3) (hi : i + 4 ≤ L) (hj : j < 4) (hn : Int32.ofInt n = nI j) (h0 : lv[0]? = some (0, .ref b)) (h3 : lv[3]? = some (3, .int (nI i))) (d0 : decode cc pc = .ok (.aload_n f0, 1)) (d1 : decode cc (pc + 1) = .ok (.iload_n f3, 1)) (d2 : decode cc (pc + 1 + 1) = .ok (.iconst n, 1)) (d3 : decode cc (pc + 1 + 1 + 1) = .ok (.iadd, 1)) (d4 : decode cc (pc + 1 + 1 + 1 + 1) = .ok (.iaload, 1)) (k : Go p l e R s m args below meth c K A nL cells slots Q ws (pc + 1 + 1 + 1 + 1 + 1) lv (.int (xs (i + j)) :: st)) : Go p l e R s m args below meth c K A nL cells slots Q ws pc lv st := by
  refine go_aload_n C 0 d0 hf0 h0 ?_
  refine go_iload_n C 3 d1 hf3 h3 ?_
  refine go_iconst C d2 hn ?_
  refine go_iadd C d3 ?_
  rw [nI_add]
  refine go_sld C hX hbl hbA (nI_in (by omega) (by omega)) d4 ?_
  rw [nI_clamp (by omega)]
  exact k
end LWR
theorem and31 (x : Int32) : ∃ t, t < 32 ∧ x &&& 31 = nI t := by
  have e : x = nI x.toBitVec.toNat := by
    apply Int32.toBitVec_inj.mp
    show x.toBitVec = BitVec.ofNat 32 x.toBitVec.toNat
    simp
  refine ⟨x.toBitVec.toNat &&& 31, ?_, ?_⟩
  · exact Nat.lt_of_le_of_lt Nat.and_le_right (by decide)
  · rw [show (31 : Int32) = nI 31 from rfl]
    have h := nx_and x.toBitVec.toNat 31
    rw [← e] at h
    exact h
theorem lg_self (x : Int64) : lg_cmp x x = 0 := by unfold lg_cmp; simp
/-- from 758 on, whatever agreeing states -/
def LNx (p : Program) (l : Launch) (e : Env) (s : State) (m : MethodId) (below : List Frame) (meth : Method) (c : Code) (K : KK) (b : Nat) (a a' : Nat → Nat) (i : Nat) : Prop := ∀ (len sz : Int32) (words checks : Nat → Int32) (cnt : Int32) (err vec : Nat → Int32) (bc : Int32) (pm : Nat → Nat) (sl ss : Nat → Int32) (sw sc : Nat → Nat → Int32) (now past errM lef msg met par : Nat → Int32) (sv : Int32) (hash : Int64), Rel len sz words checks cnt err pm sl ss sw sc now past errM sv → Go p l e room_1 s m #[Value.ref b] below meth c K (fun q => s.heap.size ≤ q) 4 28 768 (lw_Z below #[Value.ref b] s) (xW K a len sz words checks cnt err vec bc pm sl ss sw sc ++ mW K a' now past errM lef msg met par sv hash) 758 [(0, .ref b), (1, .ref (a 0)), (2, .ref (a' 0)), (3, .int (nI i))] []
set_option maxRecDepth 20000 in
set_option maxHeartbeats 2000000 in
theorem lwc_setLength {p : Program} {l : Launch} {e : Env} {s : State} {m : MethodId} {below : List Frame} {meth : Method} {c : Code} {K : KK} {b L : Nat} {xs : Nat → Int32} {a a' : Nat → Nat} {i : Nat} {len sz : Int32} {words checks : Nat → Int32} {cnt : Int32} {err vec : Nat → Int32} {bc : Int32} {pm : Nat → Nat} {sl ss : Nat → Int32} {sw sc : Nat → Nat → Int32} {now past errM lef msg met par : Nat → Int32} {sv : Int32} {hash : Int64} (C : Cx p s m #[Value.ref b] meth c K (fun q => s.heap.size ≤ q) cL_law 4 RL wsL_law ret) (hX : va_X b L xs s s.heap) (hbl : b < s.heap.size) (hL : L ≤ 2048) (hi : i + 4 ≤ L) (N : LNx p l e s m below meth c K b a a' i) (h : Rel len sz words checks cnt err pm sl ss sw sc now past errM sv) : Go p l e room_1 s m #[Value.ref b] below meth c K (fun q => s.heap.size ≤ q) 4 28 768 (lw_Z below #[Value.ref b] s) (xW K a len sz words checks cnt err vec bc pm sl ss sw sc ++ mW K a' now past errM lef msg met par sv hash) 156 [(0, .ref b), (1, .ref (a 0)), (2, .ref (a' 0)), (3, .int (nI i))] [] := by
  have hbA : ¬ s.heap.size ≤ b := Nat.not_le.mpr hbl
  obtain ⟨r, len', sz', cnt', err', pm', sl', ss', sw', sc', now', past', errM', sv', r1, r2, hrel⟩ := op_setLength h (xs (i + 1))
  refine go_aload_n C 1 dL_law_156 rfl rfl ?_
  refine lw_arg C hX hbl hbA hL 1 rfl rfl hi (by decide) (by decide) rfl rfl dL_law_157 dL_law_158 dL_law_159 dL_law_160 dL_law_161 ?_
  refine go_callV_l (ry := (some .int)) (n := 1) (b := a 0) (As := [.int (xs (i + 1))]) (rest := []) C (con_X2_setLength l K a r1) gL_law_X2_setLength (by decide) rfl ⟨Nat.le_of_ble_eq_true rfl, Nat.le_of_ble_eq_true rfl⟩ ⟨Nat.le_of_ble_eq_true rfl, Nat.le_of_ble_eq_true rfl⟩ ⟨0, 2, _, _, rfl, rfl, rfl⟩ rfl rfl (Nat.le_of_ble_eq_true rfl) dL_law_162 ?_
  refine go_aload_n C 2 dL_law_165 rfl rfl ?_
  refine lw_arg C hX hbl hbA hL 1 rfl rfl hi (by decide) (by decide) rfl rfl dL_law_166 dL_law_167 dL_law_168 dL_law_169 dL_law_170 ?_
  refine go_callV_r (ry := (some .int)) (n := 1) (b := a' 0) (As := [.int (xs (i + 1))]) (rest := [.int r]) C (con_X3_setLength l K a' r2) gL_law_X3_setLength (by decide) rfl ⟨Nat.le_of_ble_eq_true rfl, Nat.le_of_ble_eq_true rfl⟩ ⟨Nat.le_of_ble_eq_true rfl, Nat.le_of_ble_eq_true rfl⟩ ⟨0, 3, _, _, rfl, rfl, rfl⟩ rfl rfl (Nat.le_of_ble_eq_true rfl) dL_law_171 ?_
  refine go_icmp_eq C (tgt := 758) dL_law_174 (by decide) (fun _ => N _ _ _ _ _ _ _ _ _ _ _ _ _ _ _ _ _ _ _ _ _ _ hrel) (fun h => absurd rfl h)
set_option maxRecDepth 20000 in
set_option maxHeartbeats 2000000 in
theorem lwc_addRow {p : Program} {l : Launch} {e : Env} {s : State} {m : MethodId} {below : List Frame} {meth : Method} {c : Code} {K : KK} {b L : Nat} {xs : Nat → Int32} {a a' : Nat → Nat} {i : Nat} {len sz : Int32} {words checks : Nat → Int32} {cnt : Int32} {err vec : Nat → Int32} {bc : Int32} {pm : Nat → Nat} {sl ss : Nat → Int32} {sw sc : Nat → Nat → Int32} {now past errM lef msg met par : Nat → Int32} {sv : Int32} {hash : Int64} (C : Cx p s m #[Value.ref b] meth c K (fun q => s.heap.size ≤ q) cL_law 4 RL wsL_law ret) (hX : va_X b L xs s s.heap) (hbl : b < s.heap.size) (hL : L ≤ 2048) (hi : i + 4 ≤ L) (N : LNx p l e s m below meth c K b a a' i) (h : Rel len sz words checks cnt err pm sl ss sw sc now past errM sv) : Go p l e room_1 s m #[Value.ref b] below meth c K (fun q => s.heap.size ≤ q) 4 28 768 (lw_Z below #[Value.ref b] s) (xW K a len sz words checks cnt err vec bc pm sl ss sw sc ++ mW K a' now past errM lef msg met par sv hash) 179 [(0, .ref b), (1, .ref (a 0)), (2, .ref (a' 0)), (3, .int (nI i))] [] := by
  have hbA : ¬ s.heap.size ≤ b := Nat.not_le.mpr hbl
  obtain ⟨r, sz', words', checks', cnt', err', pm', sl', ss', sw', sc', now', past', errM', sv', r1, r2, hrel⟩ := op_addRow h (xs (i + 1)) (xs (i + 2))
  refine go_aload_n C 1 dL_law_179 rfl rfl ?_
  refine lw_arg C hX hbl hbA hL 1 rfl rfl hi (by decide) (by decide) rfl rfl dL_law_180 dL_law_181 dL_law_182 dL_law_183 dL_law_184 ?_
  refine lw_arg C hX hbl hbA hL 2 rfl rfl hi (by decide) (by decide) rfl rfl dL_law_185 dL_law_186 dL_law_187 dL_law_188 dL_law_189 ?_
  refine go_callV_l (ry := (some .int)) (n := 2) (b := a 0) (As := [.int (xs (i + 1)), .int (xs (i + 2))]) (rest := []) C (con_X2_addRow l K a r1) gL_law_X2_addRow (by decide) rfl ⟨Nat.le_of_ble_eq_true rfl, Nat.le_of_ble_eq_true rfl⟩ ⟨Nat.le_of_ble_eq_true rfl, Nat.le_of_ble_eq_true rfl⟩ ⟨0, 2, _, _, rfl, rfl, rfl⟩ rfl rfl (Nat.le_of_ble_eq_true rfl) dL_law_190 ?_
  refine go_aload_n C 2 dL_law_193 rfl rfl ?_
  refine lw_arg C hX hbl hbA hL 1 rfl rfl hi (by decide) (by decide) rfl rfl dL_law_194 dL_law_195 dL_law_196 dL_law_197 dL_law_198 ?_
  refine lw_arg C hX hbl hbA hL 2 rfl rfl hi (by decide) (by decide) rfl rfl dL_law_199 dL_law_200 dL_law_201 dL_law_202 dL_law_203 ?_
  refine go_callV_r (ry := (some .int)) (n := 2) (b := a' 0) (As := [.int (xs (i + 1)), .int (xs (i + 2))]) (rest := [.int r]) C (con_X3_addRow l K a' r2) gL_law_X3_addRow (by decide) rfl ⟨Nat.le_of_ble_eq_true rfl, Nat.le_of_ble_eq_true rfl⟩ ⟨Nat.le_of_ble_eq_true rfl, Nat.le_of_ble_eq_true rfl⟩ ⟨0, 3, _, _, rfl, rfl, rfl⟩ rfl rfl (Nat.le_of_ble_eq_true rfl) dL_law_204 ?_
  refine go_icmp_eq C (tgt := 758) dL_law_207 (by decide) (fun _ => N _ _ _ _ _ _ _ _ _ _ _ _ _ _ _ _ _ _ _ _ _ _ hrel) (fun h => absurd rfl h)
set_option maxRecDepth 20000 in
set_option maxHeartbeats 2000000 in
theorem lwc_removeRow {p : Program} {l : Launch} {e : Env} {s : State} {m : MethodId} {below : List Frame} {meth : Method} {c : Code} {K : KK} {b L : Nat} {xs : Nat → Int32} {a a' : Nat → Nat} {i : Nat} {len sz : Int32} {words checks : Nat → Int32} {cnt : Int32} {err vec : Nat → Int32} {bc : Int32} {pm : Nat → Nat} {sl ss : Nat → Int32} {sw sc : Nat → Nat → Int32} {now past errM lef msg met par : Nat → Int32} {sv : Int32} {hash : Int64} (C : Cx p s m #[Value.ref b] meth c K (fun q => s.heap.size ≤ q) cL_law 4 RL wsL_law ret) (hX : va_X b L xs s s.heap) (hbl : b < s.heap.size) (hL : L ≤ 2048) (hi : i + 4 ≤ L) (N : LNx p l e s m below meth c K b a a' i) (h : Rel len sz words checks cnt err pm sl ss sw sc now past errM sv) : Go p l e room_1 s m #[Value.ref b] below meth c K (fun q => s.heap.size ≤ q) 4 28 768 (lw_Z below #[Value.ref b] s) (xW K a len sz words checks cnt err vec bc pm sl ss sw sc ++ mW K a' now past errM lef msg met par sv hash) 212 [(0, .ref b), (1, .ref (a 0)), (2, .ref (a' 0)), (3, .int (nI i))] [] := by
  have hbA : ¬ s.heap.size ≤ b := Nat.not_le.mpr hbl
  obtain ⟨r, sz', words', checks', cnt', err', pm', sl', ss', sw', sc', now', past', errM', sv', r1, r2, hrel⟩ := op_removeRow h (xs (i + 1))
  refine go_aload_n C 1 dL_law_212 rfl rfl ?_
  refine lw_arg C hX hbl hbA hL 1 rfl rfl hi (by decide) (by decide) rfl rfl dL_law_213 dL_law_214 dL_law_215 dL_law_216 dL_law_217 ?_
  refine go_callV_l (ry := (some .int)) (n := 1) (b := a 0) (As := [.int (xs (i + 1))]) (rest := []) C (con_X2_removeRow l K a r1) gL_law_X2_removeRow (by decide) rfl ⟨Nat.le_of_ble_eq_true rfl, Nat.le_of_ble_eq_true rfl⟩ ⟨Nat.le_of_ble_eq_true rfl, Nat.le_of_ble_eq_true rfl⟩ ⟨0, 2, _, _, rfl, rfl, rfl⟩ rfl rfl (Nat.le_of_ble_eq_true rfl) dL_law_218 ?_
  refine go_aload_n C 2 dL_law_221 rfl rfl ?_
  refine lw_arg C hX hbl hbA hL 1 rfl rfl hi (by decide) (by decide) rfl rfl dL_law_222 dL_law_223 dL_law_224 dL_law_225 dL_law_226 ?_
  refine go_callV_r (ry := (some .int)) (n := 1) (b := a' 0) (As := [.int (xs (i + 1))]) (rest := [.int r]) C (con_X3_removeRow l K a' r2) gL_law_X3_removeRow (by decide) rfl ⟨Nat.le_of_ble_eq_true rfl, Nat.le_of_ble_eq_true rfl⟩ ⟨Nat.le_of_ble_eq_true rfl, Nat.le_of_ble_eq_true rfl⟩ ⟨0, 3, _, _, rfl, rfl, rfl⟩ rfl rfl (Nat.le_of_ble_eq_true rfl) dL_law_227 ?_
  refine go_icmp_eq C (tgt := 758) dL_law_230 (by decide) (fun _ => N _ _ _ _ _ _ _ _ _ _ _ _ _ _ _ _ _ _ _ _ _ _ hrel) (fun h => absurd rfl h)
set_option maxRecDepth 20000 in
set_option maxHeartbeats 2000000 in
theorem lwc_removeDependentRows {p : Program} {l : Launch} {e : Env} {s : State} {m : MethodId} {below : List Frame} {meth : Method} {c : Code} {K : KK} {b L : Nat} {xs : Nat → Int32} {a a' : Nat → Nat} {i : Nat} {len sz : Int32} {words checks : Nat → Int32} {cnt : Int32} {err vec : Nat → Int32} {bc : Int32} {pm : Nat → Nat} {sl ss : Nat → Int32} {sw sc : Nat → Nat → Int32} {now past errM lef msg met par : Nat → Int32} {sv : Int32} {hash : Int64} (C : Cx p s m #[Value.ref b] meth c K (fun q => s.heap.size ≤ q) cL_law 4 RL wsL_law ret) (hX : va_X b L xs s s.heap) (hbl : b < s.heap.size) (hL : L ≤ 2048) (hi : i + 4 ≤ L) (N : LNx p l e s m below meth c K b a a' i) (h : Rel len sz words checks cnt err pm sl ss sw sc now past errM sv) : Go p l e room_1 s m #[Value.ref b] below meth c K (fun q => s.heap.size ≤ q) 4 28 768 (lw_Z below #[Value.ref b] s) (xW K a len sz words checks cnt err vec bc pm sl ss sw sc ++ mW K a' now past errM lef msg met par sv hash) 235 [(0, .ref b), (1, .ref (a 0)), (2, .ref (a' 0)), (3, .int (nI i))] [] := by
  have hbA : ¬ s.heap.size ≤ b := Nat.not_le.mpr hbl
  obtain ⟨r, sz', words', checks', cnt', vec', bc', pm', sl', ss', sw', sc', now', past', sv', r1, r2, hrel⟩ := op_removeDependentRows h vec bc 
  refine go_aload_n C 1 dL_law_235 rfl rfl ?_
  refine go_callV_l (ry := (some .int)) (n := 0) (b := a 0) (As := []) (rest := []) C (con_X2_removeDependentRows l K a r1) gL_law_X2_removeDependentRows (by decide) rfl ⟨Nat.le_of_ble_eq_true rfl, Nat.le_of_ble_eq_true rfl⟩ ⟨Nat.le_of_ble_eq_true rfl, Nat.le_of_ble_eq_true rfl⟩ ⟨0, 2, _, _, rfl, rfl, rfl⟩ rfl rfl (Nat.le_of_ble_eq_true rfl) dL_law_236 ?_
  refine go_aload_n C 2 dL_law_239 rfl rfl ?_
  refine go_callV_r (ry := (some .int)) (n := 0) (b := a' 0) (As := []) (rest := [.int r]) C (con_X3_removeDependentRows l K a' r2) gL_law_X3_removeDependentRows (by decide) rfl ⟨Nat.le_of_ble_eq_true rfl, Nat.le_of_ble_eq_true rfl⟩ ⟨Nat.le_of_ble_eq_true rfl, Nat.le_of_ble_eq_true rfl⟩ ⟨0, 3, _, _, rfl, rfl, rfl⟩ rfl rfl (Nat.le_of_ble_eq_true rfl) dL_law_240 ?_
  refine go_icmp_eq C (tgt := 758) dL_law_243 (by decide) (fun _ => N _ _ _ _ _ _ _ _ _ _ _ _ _ _ _ _ _ _ _ _ _ _ hrel) (fun h => absurd rfl h)
set_option maxRecDepth 20000 in
set_option maxHeartbeats 2000000 in
theorem lwc_row {p : Program} {l : Launch} {e : Env} {s : State} {m : MethodId} {below : List Frame} {meth : Method} {c : Code} {K : KK} {b L : Nat} {xs : Nat → Int32} {a a' : Nat → Nat} {i : Nat} {len sz : Int32} {words checks : Nat → Int32} {cnt : Int32} {err vec : Nat → Int32} {bc : Int32} {pm : Nat → Nat} {sl ss : Nat → Int32} {sw sc : Nat → Nat → Int32} {now past errM lef msg met par : Nat → Int32} {sv : Int32} {hash : Int64} (C : Cx p s m #[Value.ref b] meth c K (fun q => s.heap.size ≤ q) cL_law 4 RL wsL_law ret) (hX : va_X b L xs s s.heap) (hbl : b < s.heap.size) (hL : L ≤ 2048) (hi : i + 4 ≤ L) (N : LNx p l e s m below meth c K b a a' i) (h : Rel len sz words checks cnt err pm sl ss sw sc now past errM sv) : Go p l e room_1 s m #[Value.ref b] below meth c K (fun q => s.heap.size ≤ q) 4 28 768 (lw_Z below #[Value.ref b] s) (xW K a len sz words checks cnt err vec bc pm sl ss sw sc ++ mW K a' now past errM lef msg met par sv hash) 248 [(0, .ref b), (1, .ref (a 0)), (2, .ref (a' 0)), (3, .int (nI i))] [] := by
  have hbA : ¬ s.heap.size ≤ b := Nat.not_le.mpr hbl
  obtain ⟨⟨n, k, w, c0, hR, hXX, hM⟩, hE, q, e1, e2, hS⟩ := h
  obtain ⟨vX, vM, r1, r2, ee, hE2⟩ := st_row  hR hXX hM hE (xs (i + 1))
  refine go_aload_n C 1 dL_law_248 rfl rfl ?_
  refine lw_arg C hX hbl hbA hL 1 rfl rfl hi (by decide) (by decide) rfl rfl dL_law_249 dL_law_250 dL_law_251 dL_law_252 dL_law_253 ?_
  refine go_callV_l (ry := (some .int)) (n := 1) (b := a 0) (As := [.int (xs (i + 1))]) (rest := []) C (con_X2_row l K a r1) gL_law_X2_row (by decide) rfl ⟨Nat.le_of_ble_eq_true rfl, Nat.le_of_ble_eq_true rfl⟩ ⟨Nat.le_of_ble_eq_true rfl, Nat.le_of_ble_eq_true rfl⟩ ⟨0, 2, _, _, rfl, rfl, rfl⟩ rfl rfl (Nat.le_of_ble_eq_true rfl) dL_law_254 ?_
  refine go_aload_n C 2 dL_law_257 rfl rfl ?_
  refine lw_arg C hX hbl hbA hL 1 rfl rfl hi (by decide) (by decide) rfl rfl dL_law_258 dL_law_259 dL_law_260 dL_law_261 dL_law_262 ?_
  refine go_callV_r (ry := (some .int)) (n := 1) (b := a' 0) (As := [.int (xs (i + 1))]) (rest := [.int vX.1]) C (con_X3_row l K a' r2) gL_law_X3_row (by decide) rfl ⟨Nat.le_of_ble_eq_true rfl, Nat.le_of_ble_eq_true rfl⟩ ⟨Nat.le_of_ble_eq_true rfl, Nat.le_of_ble_eq_true rfl⟩ ⟨0, 3, _, _, rfl, rfl, rfl⟩ rfl rfl (Nat.le_of_ble_eq_true rfl) dL_law_263 ?_
  refine go_icmp_eq C (tgt := 758) dL_law_266 (by decide) (fun _ => N _ _ _ _ _ _ _ _ _ _ _ _ _ _ _ _ _ _ _ _ _ _ ⟨⟨n, k, w, c0, hR, hXX, hM⟩, hE2, q, e1, e2, hS⟩) (fun h => absurd ee h)
set_option maxRecDepth 20000 in
set_option maxHeartbeats 2000000 in
theorem lwc_isCheck {p : Program} {l : Launch} {e : Env} {s : State} {m : MethodId} {below : List Frame} {meth : Method} {c : Code} {K : KK} {b L : Nat} {xs : Nat → Int32} {a a' : Nat → Nat} {i : Nat} {len sz : Int32} {words checks : Nat → Int32} {cnt : Int32} {err vec : Nat → Int32} {bc : Int32} {pm : Nat → Nat} {sl ss : Nat → Int32} {sw sc : Nat → Nat → Int32} {now past errM lef msg met par : Nat → Int32} {sv : Int32} {hash : Int64} (C : Cx p s m #[Value.ref b] meth c K (fun q => s.heap.size ≤ q) cL_law 4 RL wsL_law ret) (hX : va_X b L xs s s.heap) (hbl : b < s.heap.size) (hL : L ≤ 2048) (hi : i + 4 ≤ L) (N : LNx p l e s m below meth c K b a a' i) (h : Rel len sz words checks cnt err pm sl ss sw sc now past errM sv) : Go p l e room_1 s m #[Value.ref b] below meth c K (fun q => s.heap.size ≤ q) 4 28 768 (lw_Z below #[Value.ref b] s) (xW K a len sz words checks cnt err vec bc pm sl ss sw sc ++ mW K a' now past errM lef msg met par sv hash) 271 [(0, .ref b), (1, .ref (a 0)), (2, .ref (a' 0)), (3, .int (nI i))] [] := by
  have hbA : ¬ s.heap.size ≤ b := Nat.not_le.mpr hbl
  obtain ⟨⟨n, k, w, c0, hR, hXX, hM⟩, hE, q, e1, e2, hS⟩ := h
  obtain ⟨vX, vM, r1, r2, ee, hE2⟩ := st_isCheck  hR hXX hM hE (xs (i + 1))
  refine go_aload_n C 1 dL_law_271 rfl rfl ?_
  refine lw_arg C hX hbl hbA hL 1 rfl rfl hi (by decide) (by decide) rfl rfl dL_law_272 dL_law_273 dL_law_274 dL_law_275 dL_law_276 ?_
  refine go_callV_l (ry := (some .int)) (n := 1) (b := a 0) (As := [.int (xs (i + 1))]) (rest := []) C (con_X2_isCheck l K a r1) gL_law_X2_isCheck (by decide) rfl ⟨Nat.le_of_ble_eq_true rfl, Nat.le_of_ble_eq_true rfl⟩ ⟨Nat.le_of_ble_eq_true rfl, Nat.le_of_ble_eq_true rfl⟩ ⟨0, 2, _, _, rfl, rfl, rfl⟩ rfl rfl (Nat.le_of_ble_eq_true rfl) dL_law_277 ?_
  refine go_aload_n C 2 dL_law_280 rfl rfl ?_
  refine lw_arg C hX hbl hbA hL 1 rfl rfl hi (by decide) (by decide) rfl rfl dL_law_281 dL_law_282 dL_law_283 dL_law_284 dL_law_285 ?_
  refine go_callV_r (ry := (some .int)) (n := 1) (b := a' 0) (As := [.int (xs (i + 1))]) (rest := [.int vX.1]) C (con_X3_isCheck l K a' r2) gL_law_X3_isCheck (by decide) rfl ⟨Nat.le_of_ble_eq_true rfl, Nat.le_of_ble_eq_true rfl⟩ ⟨Nat.le_of_ble_eq_true rfl, Nat.le_of_ble_eq_true rfl⟩ ⟨0, 3, _, _, rfl, rfl, rfl⟩ rfl rfl (Nat.le_of_ble_eq_true rfl) dL_law_286 ?_
  refine go_icmp_eq C (tgt := 758) dL_law_289 (by decide) (fun _ => N _ _ _ _ _ _ _ _ _ _ _ _ _ _ _ _ _ _ _ _ _ _ ⟨⟨n, k, w, c0, hR, hXX, hM⟩, hE2, q, e1, e2, hS⟩) (fun h => absurd ee h)
set_option maxRecDepth 20000 in
set_option maxHeartbeats 2000000 in
theorem lwc_rank {p : Program} {l : Launch} {e : Env} {s : State} {m : MethodId} {below : List Frame} {meth : Method} {c : Code} {K : KK} {b L : Nat} {xs : Nat → Int32} {a a' : Nat → Nat} {i : Nat} {len sz : Int32} {words checks : Nat → Int32} {cnt : Int32} {err vec : Nat → Int32} {bc : Int32} {pm : Nat → Nat} {sl ss : Nat → Int32} {sw sc : Nat → Nat → Int32} {now past errM lef msg met par : Nat → Int32} {sv : Int32} {hash : Int64} (C : Cx p s m #[Value.ref b] meth c K (fun q => s.heap.size ≤ q) cL_law 4 RL wsL_law ret) (hX : va_X b L xs s s.heap) (hbl : b < s.heap.size) (hL : L ≤ 2048) (hi : i + 4 ≤ L) (N : LNx p l e s m below meth c K b a a' i) (h : Rel len sz words checks cnt err pm sl ss sw sc now past errM sv) : Go p l e room_1 s m #[Value.ref b] below meth c K (fun q => s.heap.size ≤ q) 4 28 768 (lw_Z below #[Value.ref b] s) (xW K a len sz words checks cnt err vec bc pm sl ss sw sc ++ mW K a' now past errM lef msg met par sv hash) 294 [(0, .ref b), (1, .ref (a 0)), (2, .ref (a' 0)), (3, .int (nI i))] [] := by
  have hbA : ¬ s.heap.size ≤ b := Nat.not_le.mpr hbl
  obtain ⟨⟨n, k, w, c0, hR, hXX, hM⟩, hE, q, e1, e2, hS⟩ := h
  obtain ⟨vX, vM, r1, r2, ee, hE2⟩ := st_rank (vec := vec) (bc := bc) (lef := lef) hR hXX hM hE (xs (i + 1))
  refine go_aload_n C 1 dL_law_294 rfl rfl ?_
  refine lw_arg C hX hbl hbA hL 1 rfl rfl hi (by decide) (by decide) rfl rfl dL_law_295 dL_law_296 dL_law_297 dL_law_298 dL_law_299 ?_
  refine go_callV_l (ry := (some .int)) (n := 1) (b := a 0) (As := [.int (xs (i + 1))]) (rest := []) C (con_X2_rank l K a r1) gL_law_X2_rank (by decide) rfl ⟨Nat.le_of_ble_eq_true rfl, Nat.le_of_ble_eq_true rfl⟩ ⟨Nat.le_of_ble_eq_true rfl, Nat.le_of_ble_eq_true rfl⟩ ⟨0, 2, _, _, rfl, rfl, rfl⟩ rfl rfl (Nat.le_of_ble_eq_true rfl) dL_law_300 ?_
  refine go_aload_n C 2 dL_law_303 rfl rfl ?_
  refine lw_arg C hX hbl hbA hL 1 rfl rfl hi (by decide) (by decide) rfl rfl dL_law_304 dL_law_305 dL_law_306 dL_law_307 dL_law_308 ?_
  refine go_callV_r (ry := (some .int)) (n := 1) (b := a' 0) (As := [.int (xs (i + 1))]) (rest := [.int vX.1]) C (con_X3_rank l K a' r2) gL_law_X3_rank (by decide) rfl ⟨Nat.le_of_ble_eq_true rfl, Nat.le_of_ble_eq_true rfl⟩ ⟨Nat.le_of_ble_eq_true rfl, Nat.le_of_ble_eq_true rfl⟩ ⟨0, 3, _, _, rfl, rfl, rfl⟩ rfl rfl (Nat.le_of_ble_eq_true rfl) dL_law_309 ?_
  refine go_icmp_eq C (tgt := 758) dL_law_312 (by decide) (fun _ => N _ _ _ _ _ _ _ _ _ _ _ _ _ _ _ _ _ _ _ _ _ _ ⟨⟨n, k, w, c0, hR, hXX, hM⟩, hE2, q, e1, e2, hS⟩) (fun h => absurd ee h)
set_option maxRecDepth 20000 in
set_option maxHeartbeats 2000000 in
theorem lwc_message {p : Program} {l : Launch} {e : Env} {s : State} {m : MethodId} {below : List Frame} {meth : Method} {c : Code} {K : KK} {b L : Nat} {xs : Nat → Int32} {a a' : Nat → Nat} {i : Nat} {len sz : Int32} {words checks : Nat → Int32} {cnt : Int32} {err vec : Nat → Int32} {bc : Int32} {pm : Nat → Nat} {sl ss : Nat → Int32} {sw sc : Nat → Nat → Int32} {now past errM lef msg met par : Nat → Int32} {sv : Int32} {hash : Int64} (C : Cx p s m #[Value.ref b] meth c K (fun q => s.heap.size ≤ q) cL_law 4 RL wsL_law ret) (hX : va_X b L xs s s.heap) (hbl : b < s.heap.size) (hL : L ≤ 2048) (hi : i + 4 ≤ L) (N : LNx p l e s m below meth c K b a a' i) (h : Rel len sz words checks cnt err pm sl ss sw sc now past errM sv) : Go p l e room_1 s m #[Value.ref b] below meth c K (fun q => s.heap.size ≤ q) 4 28 768 (lw_Z below #[Value.ref b] s) (xW K a len sz words checks cnt err vec bc pm sl ss sw sc ++ mW K a' now past errM lef msg met par sv hash) 317 [(0, .ref b), (1, .ref (a 0)), (2, .ref (a' 0)), (3, .int (nI i))] [] := by
  have hbA : ¬ s.heap.size ≤ b := Nat.not_le.mpr hbl
  obtain ⟨⟨n, k, w, c0, hR, hXX, hM⟩, hE, q, e1, e2, hS⟩ := h
  obtain ⟨vX, vM, r1, r2, ee, hE2⟩ := st_message  hR hXX hM hE (xs (i + 1))
  refine go_aload_n C 1 dL_law_317 rfl rfl ?_
  refine lw_arg C hX hbl hbA hL 1 rfl rfl hi (by decide) (by decide) rfl rfl dL_law_318 dL_law_319 dL_law_320 dL_law_321 dL_law_322 ?_
  refine go_callV_l (ry := (some .int)) (n := 1) (b := a 0) (As := [.int (xs (i + 1))]) (rest := []) C (con_X2_message l K a r1) gL_law_X2_message (by decide) rfl ⟨Nat.le_of_ble_eq_true rfl, Nat.le_of_ble_eq_true rfl⟩ ⟨Nat.le_of_ble_eq_true rfl, Nat.le_of_ble_eq_true rfl⟩ ⟨0, 2, _, _, rfl, rfl, rfl⟩ rfl rfl (Nat.le_of_ble_eq_true rfl) dL_law_323 ?_
  refine go_aload_n C 2 dL_law_326 rfl rfl ?_
  refine lw_arg C hX hbl hbA hL 1 rfl rfl hi (by decide) (by decide) rfl rfl dL_law_327 dL_law_328 dL_law_329 dL_law_330 dL_law_331 ?_
  refine go_callV_r (ry := (some .int)) (n := 1) (b := a' 0) (As := [.int (xs (i + 1))]) (rest := [.int vX.1]) C (con_X3_message l K a' r2) gL_law_X3_message (by decide) rfl ⟨Nat.le_of_ble_eq_true rfl, Nat.le_of_ble_eq_true rfl⟩ ⟨Nat.le_of_ble_eq_true rfl, Nat.le_of_ble_eq_true rfl⟩ ⟨0, 3, _, _, rfl, rfl, rfl⟩ rfl rfl (Nat.le_of_ble_eq_true rfl) dL_law_332 ?_
  refine go_icmp_eq C (tgt := 758) dL_law_335 (by decide) (fun _ => N _ _ _ _ _ _ _ _ _ _ _ _ _ _ _ _ _ _ _ _ _ _ ⟨⟨n, k, w, c0, hR, hXX, hM⟩, hE2, q, e1, e2, hS⟩) (fun h => absurd ee h)
set_option maxRecDepth 20000 in
set_option maxHeartbeats 2000000 in
theorem lwc_checkValue {p : Program} {l : Launch} {e : Env} {s : State} {m : MethodId} {below : List Frame} {meth : Method} {c : Code} {K : KK} {b L : Nat} {xs : Nat → Int32} {a a' : Nat → Nat} {i : Nat} {len sz : Int32} {words checks : Nat → Int32} {cnt : Int32} {err vec : Nat → Int32} {bc : Int32} {pm : Nat → Nat} {sl ss : Nat → Int32} {sw sc : Nat → Nat → Int32} {now past errM lef msg met par : Nat → Int32} {sv : Int32} {hash : Int64} (C : Cx p s m #[Value.ref b] meth c K (fun q => s.heap.size ≤ q) cL_law 4 RL wsL_law ret) (hX : va_X b L xs s s.heap) (hbl : b < s.heap.size) (hL : L ≤ 2048) (hi : i + 4 ≤ L) (N : LNx p l e s m below meth c K b a a' i) (h : Rel len sz words checks cnt err pm sl ss sw sc now past errM sv) : Go p l e room_1 s m #[Value.ref b] below meth c K (fun q => s.heap.size ≤ q) 4 28 768 (lw_Z below #[Value.ref b] s) (xW K a len sz words checks cnt err vec bc pm sl ss sw sc ++ mW K a' now past errM lef msg met par sv hash) 340 [(0, .ref b), (1, .ref (a 0)), (2, .ref (a' 0)), (3, .int (nI i))] [] := by
  have hbA : ¬ s.heap.size ≤ b := Nat.not_le.mpr hbl
  obtain ⟨⟨n, k, w, c0, hR, hXX, hM⟩, hE, q, e1, e2, hS⟩ := h
  obtain ⟨vX, vM, r1, r2, ee, hE2⟩ := st_checkValue  hR hXX hM hE (xs (i + 1))
  refine go_aload_n C 1 dL_law_340 rfl rfl ?_
  refine lw_arg C hX hbl hbA hL 1 rfl rfl hi (by decide) (by decide) rfl rfl dL_law_341 dL_law_342 dL_law_343 dL_law_344 dL_law_345 ?_
  refine go_callV_l (ry := (some .int)) (n := 1) (b := a 0) (As := [.int (xs (i + 1))]) (rest := []) C (con_X2_checkValue l K a r1) gL_law_X2_checkValue (by decide) rfl ⟨Nat.le_of_ble_eq_true rfl, Nat.le_of_ble_eq_true rfl⟩ ⟨Nat.le_of_ble_eq_true rfl, Nat.le_of_ble_eq_true rfl⟩ ⟨0, 2, _, _, rfl, rfl, rfl⟩ rfl rfl (Nat.le_of_ble_eq_true rfl) dL_law_346 ?_
  refine go_aload_n C 2 dL_law_349 rfl rfl ?_
  refine lw_arg C hX hbl hbA hL 1 rfl rfl hi (by decide) (by decide) rfl rfl dL_law_350 dL_law_351 dL_law_352 dL_law_353 dL_law_354 ?_
  refine go_callV_r (ry := (some .int)) (n := 1) (b := a' 0) (As := [.int (xs (i + 1))]) (rest := [.int vX.1]) C (con_X3_checkValue l K a' r2) gL_law_X3_checkValue (by decide) rfl ⟨Nat.le_of_ble_eq_true rfl, Nat.le_of_ble_eq_true rfl⟩ ⟨Nat.le_of_ble_eq_true rfl, Nat.le_of_ble_eq_true rfl⟩ ⟨0, 3, _, _, rfl, rfl, rfl⟩ rfl rfl (Nat.le_of_ble_eq_true rfl) dL_law_355 ?_
  refine go_icmp_eq C (tgt := 758) dL_law_358 (by decide) (fun _ => N _ _ _ _ _ _ _ _ _ _ _ _ _ _ _ _ _ _ _ _ _ _ ⟨⟨n, k, w, c0, hR, hXX, hM⟩, hE2, q, e1, e2, hS⟩) (fun h => absurd ee h)
set_option maxRecDepth 20000 in
set_option maxHeartbeats 2000000 in
theorem lwc_codewords {p : Program} {l : Launch} {e : Env} {s : State} {m : MethodId} {below : List Frame} {meth : Method} {c : Code} {K : KK} {b L : Nat} {xs : Nat → Int32} {a a' : Nat → Nat} {i : Nat} {len sz : Int32} {words checks : Nat → Int32} {cnt : Int32} {err vec : Nat → Int32} {bc : Int32} {pm : Nat → Nat} {sl ss : Nat → Int32} {sw sc : Nat → Nat → Int32} {now past errM lef msg met par : Nat → Int32} {sv : Int32} {hash : Int64} (C : Cx p s m #[Value.ref b] meth c K (fun q => s.heap.size ≤ q) cL_law 4 RL wsL_law ret) (hX : va_X b L xs s s.heap) (hbl : b < s.heap.size) (hL : L ≤ 2048) (hi : i + 4 ≤ L) (N : LNx p l e s m below meth c K b a a' i) (h : Rel len sz words checks cnt err pm sl ss sw sc now past errM sv) : Go p l e room_1 s m #[Value.ref b] below meth c K (fun q => s.heap.size ≤ q) 4 28 768 (lw_Z below #[Value.ref b] s) (xW K a len sz words checks cnt err vec bc pm sl ss sw sc ++ mW K a' now past errM lef msg met par sv hash) 363 [(0, .ref b), (1, .ref (a 0)), (2, .ref (a' 0)), (3, .int (nI i))] [] := by
  have hbA : ¬ s.heap.size ≤ b := Nat.not_le.mpr hbl
  obtain ⟨⟨n, k, w, c0, hR, hXX, hM⟩, hE, q, e1, e2, hS⟩ := h
  obtain ⟨vX, vM, r1, r2, ee⟩ := st_codewords (vec := vec) (bc := bc) (msg := msg) hR hXX hM 
  refine go_aload_n C 1 dL_law_363 rfl rfl ?_
  refine go_callV_l (ry := (some .int)) (n := 0) (b := a 0) (As := []) (rest := []) C (con_X2_codewords l K a r1) gL_law_X2_codewords (by decide) rfl ⟨Nat.le_of_ble_eq_true rfl, Nat.le_of_ble_eq_true rfl⟩ ⟨Nat.le_of_ble_eq_true rfl, Nat.le_of_ble_eq_true rfl⟩ ⟨0, 2, _, _, rfl, rfl, rfl⟩ rfl rfl (Nat.le_of_ble_eq_true rfl) dL_law_364 ?_
  refine go_aload_n C 2 dL_law_367 rfl rfl ?_
  refine go_callV_r (ry := (some .int)) (n := 0) (b := a' 0) (As := []) (rest := [.int vX.1]) C (con_X3_codewords l K a' r2) gL_law_X3_codewords (by decide) rfl ⟨Nat.le_of_ble_eq_true rfl, Nat.le_of_ble_eq_true rfl⟩ ⟨Nat.le_of_ble_eq_true rfl, Nat.le_of_ble_eq_true rfl⟩ ⟨0, 3, _, _, rfl, rfl, rfl⟩ rfl rfl (Nat.le_of_ble_eq_true rfl) dL_law_368 ?_
  refine go_icmp_eq C (tgt := 758) dL_law_371 (by decide) (fun _ => N _ _ _ _ _ _ _ _ _ _ _ _ _ _ _ _ _ _ _ _ _ _ ⟨⟨n, k, w, c0, hR, hXX, hM⟩, hE, q, e1, e2, hS⟩) (fun h => absurd ee h)
set_option maxRecDepth 20000 in
set_option maxHeartbeats 2000000 in
theorem lwc_messages {p : Program} {l : Launch} {e : Env} {s : State} {m : MethodId} {below : List Frame} {meth : Method} {c : Code} {K : KK} {b L : Nat} {xs : Nat → Int32} {a a' : Nat → Nat} {i : Nat} {len sz : Int32} {words checks : Nat → Int32} {cnt : Int32} {err vec : Nat → Int32} {bc : Int32} {pm : Nat → Nat} {sl ss : Nat → Int32} {sw sc : Nat → Nat → Int32} {now past errM lef msg met par : Nat → Int32} {sv : Int32} {hash : Int64} (C : Cx p s m #[Value.ref b] meth c K (fun q => s.heap.size ≤ q) cL_law 4 RL wsL_law ret) (hX : va_X b L xs s s.heap) (hbl : b < s.heap.size) (hL : L ≤ 2048) (hi : i + 4 ≤ L) (N : LNx p l e s m below meth c K b a a' i) (h : Rel len sz words checks cnt err pm sl ss sw sc now past errM sv) : Go p l e room_1 s m #[Value.ref b] below meth c K (fun q => s.heap.size ≤ q) 4 28 768 (lw_Z below #[Value.ref b] s) (xW K a len sz words checks cnt err vec bc pm sl ss sw sc ++ mW K a' now past errM lef msg met par sv hash) 376 [(0, .ref b), (1, .ref (a 0)), (2, .ref (a' 0)), (3, .int (nI i))] [] := by
  have hbA : ¬ s.heap.size ≤ b := Nat.not_le.mpr hbl
  obtain ⟨⟨n, k, w, c0, hR, hXX, hM⟩, hE, q, e1, e2, hS⟩ := h
  obtain ⟨vX, vM, r1, r2, ee⟩ := st_messages (vec := vec) (bc := bc) (msg := msg) (met := met) hR hXX hM 
  refine go_aload_n C 1 dL_law_376 rfl rfl ?_
  refine go_callV_l (ry := (some .int)) (n := 0) (b := a 0) (As := []) (rest := []) C (con_X2_messages l K a r1) gL_law_X2_messages (by decide) rfl ⟨Nat.le_of_ble_eq_true rfl, Nat.le_of_ble_eq_true rfl⟩ ⟨Nat.le_of_ble_eq_true rfl, Nat.le_of_ble_eq_true rfl⟩ ⟨0, 2, _, _, rfl, rfl, rfl⟩ rfl rfl (Nat.le_of_ble_eq_true rfl) dL_law_377 ?_
  refine go_aload_n C 2 dL_law_380 rfl rfl ?_
  refine go_callV_r (ry := (some .int)) (n := 0) (b := a' 0) (As := []) (rest := [.int vX.1]) C (con_X3_messages l K a' r2) gL_law_X3_messages (by decide) rfl ⟨Nat.le_of_ble_eq_true rfl, Nat.le_of_ble_eq_true rfl⟩ ⟨Nat.le_of_ble_eq_true rfl, Nat.le_of_ble_eq_true rfl⟩ ⟨0, 3, _, _, rfl, rfl, rfl⟩ rfl rfl (Nat.le_of_ble_eq_true rfl) dL_law_381 ?_
  refine go_icmp_eq C (tgt := 758) dL_law_384 (by decide) (fun _ => N _ _ _ _ _ _ _ _ _ _ _ _ _ _ _ _ _ _ _ _ _ _ ⟨⟨n, k, w, c0, hR, hXX, hM⟩, hE, q, e1, e2, hS⟩) (fun h => absurd ee h)
set_option maxRecDepth 20000 in
set_option maxHeartbeats 2000000 in
theorem lwc_choices {p : Program} {l : Launch} {e : Env} {s : State} {m : MethodId} {below : List Frame} {meth : Method} {c : Code} {K : KK} {b L : Nat} {xs : Nat → Int32} {a a' : Nat → Nat} {i : Nat} {len sz : Int32} {words checks : Nat → Int32} {cnt : Int32} {err vec : Nat → Int32} {bc : Int32} {pm : Nat → Nat} {sl ss : Nat → Int32} {sw sc : Nat → Nat → Int32} {now past errM lef msg met par : Nat → Int32} {sv : Int32} {hash : Int64} (C : Cx p s m #[Value.ref b] meth c K (fun q => s.heap.size ≤ q) cL_law 4 RL wsL_law ret) (hX : va_X b L xs s s.heap) (hbl : b < s.heap.size) (hL : L ≤ 2048) (hi : i + 4 ≤ L) (N : LNx p l e s m below meth c K b a a' i) (h : Rel len sz words checks cnt err pm sl ss sw sc now past errM sv) : Go p l e room_1 s m #[Value.ref b] below meth c K (fun q => s.heap.size ≤ q) 4 28 768 (lw_Z below #[Value.ref b] s) (xW K a len sz words checks cnt err vec bc pm sl ss sw sc ++ mW K a' now past errM lef msg met par sv hash) 389 [(0, .ref b), (1, .ref (a 0)), (2, .ref (a' 0)), (3, .int (nI i))] [] := by
  have hbA : ¬ s.heap.size ≤ b := Nat.not_le.mpr hbl
  obtain ⟨⟨n, k, w, c0, hR, hXX, hM⟩, hE, q, e1, e2, hS⟩ := h
  obtain ⟨vX, vM, r1, r2, ee, hE2⟩ := st_choices (msg := msg) hR hXX hM hE (xs (i + 1))
  refine go_aload_n C 1 dL_law_389 rfl rfl ?_
  refine lw_arg C hX hbl hbA hL 1 rfl rfl hi (by decide) (by decide) rfl rfl dL_law_390 dL_law_391 dL_law_392 dL_law_393 dL_law_394 ?_
  refine go_callV_l (ry := (some .int)) (n := 1) (b := a 0) (As := [.int (xs (i + 1))]) (rest := []) C (con_X2_choices l K a r1) gL_law_X2_choices (by decide) rfl ⟨Nat.le_of_ble_eq_true rfl, Nat.le_of_ble_eq_true rfl⟩ ⟨Nat.le_of_ble_eq_true rfl, Nat.le_of_ble_eq_true rfl⟩ ⟨0, 2, _, _, rfl, rfl, rfl⟩ rfl rfl (Nat.le_of_ble_eq_true rfl) dL_law_395 ?_
  refine go_aload_n C 2 dL_law_398 rfl rfl ?_
  refine lw_arg C hX hbl hbA hL 1 rfl rfl hi (by decide) (by decide) rfl rfl dL_law_399 dL_law_400 dL_law_401 dL_law_402 dL_law_403 ?_
  refine go_callV_r (ry := (some .int)) (n := 1) (b := a' 0) (As := [.int (xs (i + 1))]) (rest := [.int vX.1]) C (con_X3_choices l K a' r2) gL_law_X3_choices (by decide) rfl ⟨Nat.le_of_ble_eq_true rfl, Nat.le_of_ble_eq_true rfl⟩ ⟨Nat.le_of_ble_eq_true rfl, Nat.le_of_ble_eq_true rfl⟩ ⟨0, 3, _, _, rfl, rfl, rfl⟩ rfl rfl (Nat.le_of_ble_eq_true rfl) dL_law_404 ?_
  refine go_icmp_eq C (tgt := 758) dL_law_407 (by decide) (fun _ => N _ _ _ _ _ _ _ _ _ _ _ _ _ _ _ _ _ _ _ _ _ _ ⟨⟨n, k, w, c0, hR, hXX, hM⟩, hE2, q, e1, e2, hS⟩) (fun h => absurd ee h)
set_option maxRecDepth 20000 in
set_option maxHeartbeats 2000000 in
theorem lwc_encode {p : Program} {l : Launch} {e : Env} {s : State} {m : MethodId} {below : List Frame} {meth : Method} {c : Code} {K : KK} {b L : Nat} {xs : Nat → Int32} {a a' : Nat → Nat} {i : Nat} {len sz : Int32} {words checks : Nat → Int32} {cnt : Int32} {err vec : Nat → Int32} {bc : Int32} {pm : Nat → Nat} {sl ss : Nat → Int32} {sw sc : Nat → Nat → Int32} {now past errM lef msg met par : Nat → Int32} {sv : Int32} {hash : Int64} (C : Cx p s m #[Value.ref b] meth c K (fun q => s.heap.size ≤ q) cL_law 4 RL wsL_law ret) (hX : va_X b L xs s s.heap) (hbl : b < s.heap.size) (hL : L ≤ 2048) (hi : i + 4 ≤ L) (N : LNx p l e s m below meth c K b a a' i) (h : Rel len sz words checks cnt err pm sl ss sw sc now past errM sv) : Go p l e room_1 s m #[Value.ref b] below meth c K (fun q => s.heap.size ≤ q) 4 28 768 (lw_Z below #[Value.ref b] s) (xW K a len sz words checks cnt err vec bc pm sl ss sw sc ++ mW K a' now past errM lef msg met par sv hash) 412 [(0, .ref b), (1, .ref (a 0)), (2, .ref (a' 0)), (3, .int (nI i))] [] := by
  have hbA : ¬ s.heap.size ≤ b := Nat.not_le.mpr hbl
  obtain ⟨⟨n, k, w, c0, hR, hXX, hM⟩, hE, q, e1, e2, hS⟩ := h
  obtain ⟨vX, vM, r1, r2, ee, hE2⟩ := st_encode (msg := msg) hR hXX hM hE (xs (i + 1)) (xs (i + 2))
  refine go_aload_n C 1 dL_law_412 rfl rfl ?_
  refine lw_arg C hX hbl hbA hL 1 rfl rfl hi (by decide) (by decide) rfl rfl dL_law_413 dL_law_414 dL_law_415 dL_law_416 dL_law_417 ?_
  refine lw_arg C hX hbl hbA hL 2 rfl rfl hi (by decide) (by decide) rfl rfl dL_law_418 dL_law_419 dL_law_420 dL_law_421 dL_law_422 ?_
  refine go_callV_l (ry := (some .int)) (n := 2) (b := a 0) (As := [.int (xs (i + 1)), .int (xs (i + 2))]) (rest := []) C (con_X2_encode l K a r1) gL_law_X2_encode (by decide) rfl ⟨Nat.le_of_ble_eq_true rfl, Nat.le_of_ble_eq_true rfl⟩ ⟨Nat.le_of_ble_eq_true rfl, Nat.le_of_ble_eq_true rfl⟩ ⟨0, 2, _, _, rfl, rfl, rfl⟩ rfl rfl (Nat.le_of_ble_eq_true rfl) dL_law_423 ?_
  refine go_aload_n C 2 dL_law_426 rfl rfl ?_
  refine lw_arg C hX hbl hbA hL 1 rfl rfl hi (by decide) (by decide) rfl rfl dL_law_427 dL_law_428 dL_law_429 dL_law_430 dL_law_431 ?_
  refine lw_arg C hX hbl hbA hL 2 rfl rfl hi (by decide) (by decide) rfl rfl dL_law_432 dL_law_433 dL_law_434 dL_law_435 dL_law_436 ?_
  refine go_callV_r (ry := (some .int)) (n := 2) (b := a' 0) (As := [.int (xs (i + 1)), .int (xs (i + 2))]) (rest := [.int vX.1]) C (con_X3_encode l K a' r2) gL_law_X3_encode (by decide) rfl ⟨Nat.le_of_ble_eq_true rfl, Nat.le_of_ble_eq_true rfl⟩ ⟨Nat.le_of_ble_eq_true rfl, Nat.le_of_ble_eq_true rfl⟩ ⟨0, 3, _, _, rfl, rfl, rfl⟩ rfl rfl (Nat.le_of_ble_eq_true rfl) dL_law_437 ?_
  refine go_icmp_eq C (tgt := 758) dL_law_440 (by decide) (fun _ => N _ _ _ _ _ _ _ _ _ _ _ _ _ _ _ _ _ _ _ _ _ _ ⟨⟨n, k, w, c0, hR, hXX, hM⟩, hE2, q, e1, e2, hS⟩) (fun h => absurd ee h)
set_option maxRecDepth 20000 in
set_option maxHeartbeats 2000000 in
theorem lwc_decode {p : Program} {l : Launch} {e : Env} {s : State} {m : MethodId} {below : List Frame} {meth : Method} {c : Code} {K : KK} {b L : Nat} {xs : Nat → Int32} {a a' : Nat → Nat} {i : Nat} {len sz : Int32} {words checks : Nat → Int32} {cnt : Int32} {err vec : Nat → Int32} {bc : Int32} {pm : Nat → Nat} {sl ss : Nat → Int32} {sw sc : Nat → Nat → Int32} {now past errM lef msg met par : Nat → Int32} {sv : Int32} {hash : Int64} (C : Cx p s m #[Value.ref b] meth c K (fun q => s.heap.size ≤ q) cL_law 4 RL wsL_law ret) (hX : va_X b L xs s s.heap) (hbl : b < s.heap.size) (hL : L ≤ 2048) (hi : i + 4 ≤ L) (N : LNx p l e s m below meth c K b a a' i) (h : Rel len sz words checks cnt err pm sl ss sw sc now past errM sv) : Go p l e room_1 s m #[Value.ref b] below meth c K (fun q => s.heap.size ≤ q) 4 28 768 (lw_Z below #[Value.ref b] s) (xW K a len sz words checks cnt err vec bc pm sl ss sw sc ++ mW K a' now past errM lef msg met par sv hash) 445 [(0, .ref b), (1, .ref (a 0)), (2, .ref (a' 0)), (3, .int (nI i))] [] := by
  have hbA : ¬ s.heap.size ≤ b := Nat.not_le.mpr hbl
  obtain ⟨⟨n, k, w, c0, hR, hXX, hM⟩, hE, q, e1, e2, hS⟩ := h
  obtain ⟨vX, vM, r1, r2, ee, hE2⟩ := st_decode (msg := msg) hR hXX hM hE (xs (i + 1))
  refine go_aload_n C 1 dL_law_445 rfl rfl ?_
  refine lw_arg C hX hbl hbA hL 1 rfl rfl hi (by decide) (by decide) rfl rfl dL_law_446 dL_law_447 dL_law_448 dL_law_449 dL_law_450 ?_
  refine go_callV_l (ry := (some .int)) (n := 1) (b := a 0) (As := [.int (xs (i + 1))]) (rest := []) C (con_X2_decode l K a r1) gL_law_X2_decode (by decide) rfl ⟨Nat.le_of_ble_eq_true rfl, Nat.le_of_ble_eq_true rfl⟩ ⟨Nat.le_of_ble_eq_true rfl, Nat.le_of_ble_eq_true rfl⟩ ⟨0, 2, _, _, rfl, rfl, rfl⟩ rfl rfl (Nat.le_of_ble_eq_true rfl) dL_law_451 ?_
  refine go_aload_n C 2 dL_law_454 rfl rfl ?_
  refine lw_arg C hX hbl hbA hL 1 rfl rfl hi (by decide) (by decide) rfl rfl dL_law_455 dL_law_456 dL_law_457 dL_law_458 dL_law_459 ?_
  refine go_callV_r (ry := (some .int)) (n := 1) (b := a' 0) (As := [.int (xs (i + 1))]) (rest := [.int vX.1]) C (con_X3_decode l K a' r2) gL_law_X3_decode (by decide) rfl ⟨Nat.le_of_ble_eq_true rfl, Nat.le_of_ble_eq_true rfl⟩ ⟨Nat.le_of_ble_eq_true rfl, Nat.le_of_ble_eq_true rfl⟩ ⟨0, 3, _, _, rfl, rfl, rfl⟩ rfl rfl (Nat.le_of_ble_eq_true rfl) dL_law_460 ?_
  refine go_icmp_eq C (tgt := 758) dL_law_463 (by decide) (fun _ => N _ _ _ _ _ _ _ _ _ _ _ _ _ _ _ _ _ _ _ _ _ _ ⟨⟨n, k, w, c0, hR, hXX, hM⟩, hE2, q, e1, e2, hS⟩) (fun h => absurd ee h)
set_option maxRecDepth 20000 in
set_option maxHeartbeats 2000000 in
theorem lwc_distance {p : Program} {l : Launch} {e : Env} {s : State} {m : MethodId} {below : List Frame} {meth : Method} {c : Code} {K : KK} {b L : Nat} {xs : Nat → Int32} {a a' : Nat → Nat} {i : Nat} {len sz : Int32} {words checks : Nat → Int32} {cnt : Int32} {err vec : Nat → Int32} {bc : Int32} {pm : Nat → Nat} {sl ss : Nat → Int32} {sw sc : Nat → Nat → Int32} {now past errM lef msg met par : Nat → Int32} {sv : Int32} {hash : Int64} (C : Cx p s m #[Value.ref b] meth c K (fun q => s.heap.size ≤ q) cL_law 4 RL wsL_law ret) (hX : va_X b L xs s s.heap) (hbl : b < s.heap.size) (hL : L ≤ 2048) (hi : i + 4 ≤ L) (N : LNx p l e s m below meth c K b a a' i) (h : Rel len sz words checks cnt err pm sl ss sw sc now past errM sv) : Go p l e room_1 s m #[Value.ref b] below meth c K (fun q => s.heap.size ≤ q) 4 28 768 (lw_Z below #[Value.ref b] s) (xW K a len sz words checks cnt err vec bc pm sl ss sw sc ++ mW K a' now past errM lef msg met par sv hash) 468 [(0, .ref b), (1, .ref (a 0)), (2, .ref (a' 0)), (3, .int (nI i))] [] := by
  have hbA : ¬ s.heap.size ≤ b := Nat.not_le.mpr hbl
  obtain ⟨⟨n, k, w, c0, hR, hXX, hM⟩, hE, q, e1, e2, hS⟩ := h
  obtain ⟨vX, vM, r1, r2, ee, hE2⟩ := st_distance (msg := msg) hR hXX hM hE (xs (i + 1))
  refine go_aload_n C 1 dL_law_468 rfl rfl ?_
  refine lw_arg C hX hbl hbA hL 1 rfl rfl hi (by decide) (by decide) rfl rfl dL_law_469 dL_law_470 dL_law_471 dL_law_472 dL_law_473 ?_
  refine go_callV_l (ry := (some .int)) (n := 1) (b := a 0) (As := [.int (xs (i + 1))]) (rest := []) C (con_X2_distance l K a r1) gL_law_X2_distance (by decide) rfl ⟨Nat.le_of_ble_eq_true rfl, Nat.le_of_ble_eq_true rfl⟩ ⟨Nat.le_of_ble_eq_true rfl, Nat.le_of_ble_eq_true rfl⟩ ⟨0, 2, _, _, rfl, rfl, rfl⟩ rfl rfl (Nat.le_of_ble_eq_true rfl) dL_law_474 ?_
  refine go_aload_n C 2 dL_law_477 rfl rfl ?_
  refine lw_arg C hX hbl hbA hL 1 rfl rfl hi (by decide) (by decide) rfl rfl dL_law_478 dL_law_479 dL_law_480 dL_law_481 dL_law_482 ?_
  refine go_callV_r (ry := (some .int)) (n := 1) (b := a' 0) (As := [.int (xs (i + 1))]) (rest := [.int vX.1]) C (con_X3_distance l K a' r2) gL_law_X3_distance (by decide) rfl ⟨Nat.le_of_ble_eq_true rfl, Nat.le_of_ble_eq_true rfl⟩ ⟨Nat.le_of_ble_eq_true rfl, Nat.le_of_ble_eq_true rfl⟩ ⟨0, 3, _, _, rfl, rfl, rfl⟩ rfl rfl (Nat.le_of_ble_eq_true rfl) dL_law_483 ?_
  refine go_icmp_eq C (tgt := 758) dL_law_486 (by decide) (fun _ => N _ _ _ _ _ _ _ _ _ _ _ _ _ _ _ _ _ _ _ _ _ _ ⟨⟨n, k, w, c0, hR, hXX, hM⟩, hE2, q, e1, e2, hS⟩) (fun h => absurd ee h)
set_option maxRecDepth 20000 in
set_option maxHeartbeats 2000000 in
theorem lwc_weakness {p : Program} {l : Launch} {e : Env} {s : State} {m : MethodId} {below : List Frame} {meth : Method} {c : Code} {K : KK} {b L : Nat} {xs : Nat → Int32} {a a' : Nat → Nat} {i : Nat} {len sz : Int32} {words checks : Nat → Int32} {cnt : Int32} {err vec : Nat → Int32} {bc : Int32} {pm : Nat → Nat} {sl ss : Nat → Int32} {sw sc : Nat → Nat → Int32} {now past errM lef msg met par : Nat → Int32} {sv : Int32} {hash : Int64} (C : Cx p s m #[Value.ref b] meth c K (fun q => s.heap.size ≤ q) cL_law 4 RL wsL_law ret) (hX : va_X b L xs s s.heap) (hbl : b < s.heap.size) (hL : L ≤ 2048) (hi : i + 4 ≤ L) (N : LNx p l e s m below meth c K b a a' i) (h : Rel len sz words checks cnt err pm sl ss sw sc now past errM sv) : Go p l e room_1 s m #[Value.ref b] below meth c K (fun q => s.heap.size ≤ q) 4 28 768 (lw_Z below #[Value.ref b] s) (xW K a len sz words checks cnt err vec bc pm sl ss sw sc ++ mW K a' now past errM lef msg met par sv hash) 491 [(0, .ref b), (1, .ref (a 0)), (2, .ref (a' 0)), (3, .int (nI i))] [] := by
  have hbA : ¬ s.heap.size ≤ b := Nat.not_le.mpr hbl
  obtain ⟨⟨n, k, w, c0, hR, hXX, hM⟩, hE, q, e1, e2, hS⟩ := h
  obtain ⟨r, g, r1, r2⟩ := wk_both hR hXX hM msg
  refine go_aload_n C 1 dL_law_491 rfl rfl ?_
  refine go_callV_l (ry := (some .int)) (n := 0) (b := a 0) (As := []) (rest := []) C (con_X2_weakness l K a r1) gL_law_X2_weakness (by decide) rfl ⟨Nat.le_of_ble_eq_true rfl, Nat.le_of_ble_eq_true rfl⟩ ⟨Nat.le_of_ble_eq_true rfl, Nat.le_of_ble_eq_true rfl⟩ ⟨0, 2, _, _, rfl, rfl, rfl⟩ rfl rfl (Nat.le_of_ble_eq_true rfl) dL_law_492 ?_
  refine go_aload_n C 2 dL_law_495 rfl rfl ?_
  refine go_callV_r (ry := (some .int)) (n := 0) (b := a' 0) (As := []) (rest := [.int r]) C (con_X3_weakness l K a' r2) gL_law_X3_weakness (by decide) rfl ⟨Nat.le_of_ble_eq_true rfl, Nat.le_of_ble_eq_true rfl⟩ ⟨Nat.le_of_ble_eq_true rfl, Nat.le_of_ble_eq_true rfl⟩ ⟨0, 3, _, _, rfl, rfl, rfl⟩ rfl rfl (Nat.le_of_ble_eq_true rfl) dL_law_496 ?_
  refine go_icmp_eq C (tgt := 758) dL_law_499 (by decide) (fun _ => N _ _ _ _ _ _ _ _ _ _ _ _ _ _ _ _ _ _ _ _ _ _ ⟨⟨n, k, w, c0, hR, hXX, hM⟩, hE, q, e1, e2, hS⟩) (fun h => absurd rfl h)
set_option maxRecDepth 20000 in
set_option maxHeartbeats 2000000 in
theorem lwc_leakage {p : Program} {l : Launch} {e : Env} {s : State} {m : MethodId} {below : List Frame} {meth : Method} {c : Code} {K : KK} {b L : Nat} {xs : Nat → Int32} {a a' : Nat → Nat} {i : Nat} {len sz : Int32} {words checks : Nat → Int32} {cnt : Int32} {err vec : Nat → Int32} {bc : Int32} {pm : Nat → Nat} {sl ss : Nat → Int32} {sw sc : Nat → Nat → Int32} {now past errM lef msg met par : Nat → Int32} {sv : Int32} {hash : Int64} (C : Cx p s m #[Value.ref b] meth c K (fun q => s.heap.size ≤ q) cL_law 4 RL wsL_law ret) (hX : va_X b L xs s s.heap) (hbl : b < s.heap.size) (hL : L ≤ 2048) (hi : i + 4 ≤ L) (N : LNx p l e s m below meth c K b a a' i) (h : Rel len sz words checks cnt err pm sl ss sw sc now past errM sv) : Go p l e room_1 s m #[Value.ref b] below meth c K (fun q => s.heap.size ≤ q) 4 28 768 (lw_Z below #[Value.ref b] s) (xW K a len sz words checks cnt err vec bc pm sl ss sw sc ++ mW K a' now past errM lef msg met par sv hash) 504 [(0, .ref b), (1, .ref (a 0)), (2, .ref (a' 0)), (3, .int (nI i))] [] := by
  have hbA : ¬ s.heap.size ≤ b := Nat.not_le.mpr hbl
  obtain ⟨⟨n, k, w, c0, hR, hXX, hM⟩, hE, q, e1, e2, hS⟩ := h
  obtain ⟨vX, vM, r1, r2, ee, hE2⟩ := st_leakage (vec := vec) (bc := bc) (lef := lef) hR hXX hM hE (xs (i + 1))
  refine go_aload_n C 1 dL_law_504 rfl rfl ?_
  refine lw_arg C hX hbl hbA hL 1 rfl rfl hi (by decide) (by decide) rfl rfl dL_law_505 dL_law_506 dL_law_507 dL_law_508 dL_law_509 ?_
  refine go_callV_l (ry := (some .int)) (n := 1) (b := a 0) (As := [.int (xs (i + 1))]) (rest := []) C (con_X2_leakage l K a r1) gL_law_X2_leakage (by decide) rfl ⟨Nat.le_of_ble_eq_true rfl, Nat.le_of_ble_eq_true rfl⟩ ⟨Nat.le_of_ble_eq_true rfl, Nat.le_of_ble_eq_true rfl⟩ ⟨0, 2, _, _, rfl, rfl, rfl⟩ rfl rfl (Nat.le_of_ble_eq_true rfl) dL_law_510 ?_
  refine go_aload_n C 2 dL_law_513 rfl rfl ?_
  refine lw_arg C hX hbl hbA hL 1 rfl rfl hi (by decide) (by decide) rfl rfl dL_law_514 dL_law_515 dL_law_516 dL_law_517 dL_law_518 ?_
  refine go_callV_r (ry := (some .int)) (n := 1) (b := a' 0) (As := [.int (xs (i + 1))]) (rest := [.int vX.1]) C (con_X3_leakage l K a' r2) gL_law_X3_leakage (by decide) rfl ⟨Nat.le_of_ble_eq_true rfl, Nat.le_of_ble_eq_true rfl⟩ ⟨Nat.le_of_ble_eq_true rfl, Nat.le_of_ble_eq_true rfl⟩ ⟨0, 3, _, _, rfl, rfl, rfl⟩ rfl rfl (Nat.le_of_ble_eq_true rfl) dL_law_519 ?_
  refine go_icmp_eq C (tgt := 758) dL_law_522 (by decide) (fun _ => N _ _ _ _ _ _ _ _ _ _ _ _ _ _ _ _ _ _ _ _ _ _ ⟨⟨n, k, w, c0, hR, hXX, hM⟩, hE2, q, e1, e2, hS⟩) (fun h => absurd ee h)
set_option maxRecDepth 20000 in
set_option maxHeartbeats 2000000 in
theorem lwc_worstLeakage {p : Program} {l : Launch} {e : Env} {s : State} {m : MethodId} {below : List Frame} {meth : Method} {c : Code} {K : KK} {b L : Nat} {xs : Nat → Int32} {a a' : Nat → Nat} {i : Nat} {len sz : Int32} {words checks : Nat → Int32} {cnt : Int32} {err vec : Nat → Int32} {bc : Int32} {pm : Nat → Nat} {sl ss : Nat → Int32} {sw sc : Nat → Nat → Int32} {now past errM lef msg met par : Nat → Int32} {sv : Int32} {hash : Int64} (C : Cx p s m #[Value.ref b] meth c K (fun q => s.heap.size ≤ q) cL_law 4 RL wsL_law ret) (hX : va_X b L xs s s.heap) (hbl : b < s.heap.size) (hL : L ≤ 2048) (hi : i + 4 ≤ L) (N : LNx p l e s m below meth c K b a a' i) (h : Rel len sz words checks cnt err pm sl ss sw sc now past errM sv) : Go p l e room_1 s m #[Value.ref b] below meth c K (fun q => s.heap.size ≤ q) 4 28 768 (lw_Z below #[Value.ref b] s) (xW K a len sz words checks cnt err vec bc pm sl ss sw sc ++ mW K a' now past errM lef msg met par sv hash) 527 [(0, .ref b), (1, .ref (a 0)), (2, .ref (a' 0)), (3, .int (nI i))] [] := by
  have hbA : ¬ s.heap.size ≤ b := Nat.not_le.mpr hbl
  obtain ⟨⟨n, k, w, c0, hR, hXX, hM⟩, hE, q, e1, e2, hS⟩ := h
  obtain ⟨vX, vM, r1, r2, ee, hE2⟩ := st_worstLeakage (vec := vec) (bc := bc) (lef := lef) hR hXX hM hE (xs (i + 1))
  refine go_aload_n C 1 dL_law_527 rfl rfl ?_
  refine lw_arg C hX hbl hbA hL 1 rfl rfl hi (by decide) (by decide) rfl rfl dL_law_528 dL_law_529 dL_law_530 dL_law_531 dL_law_532 ?_
  refine go_callV_l (ry := (some .int)) (n := 1) (b := a 0) (As := [.int (xs (i + 1))]) (rest := []) C (con_X2_worstLeakage l K a r1) gL_law_X2_worstLeakage (by decide) rfl ⟨Nat.le_of_ble_eq_true rfl, Nat.le_of_ble_eq_true rfl⟩ ⟨Nat.le_of_ble_eq_true rfl, Nat.le_of_ble_eq_true rfl⟩ ⟨0, 2, _, _, rfl, rfl, rfl⟩ rfl rfl (Nat.le_of_ble_eq_true rfl) dL_law_533 ?_
  refine go_aload_n C 2 dL_law_536 rfl rfl ?_
  refine lw_arg C hX hbl hbA hL 1 rfl rfl hi (by decide) (by decide) rfl rfl dL_law_537 dL_law_538 dL_law_539 dL_law_540 dL_law_541 ?_
  refine go_callV_r (ry := (some .int)) (n := 1) (b := a' 0) (As := [.int (xs (i + 1))]) (rest := [.int vX.1]) C (con_X3_worstLeakage l K a' r2) gL_law_X3_worstLeakage (by decide) rfl ⟨Nat.le_of_ble_eq_true rfl, Nat.le_of_ble_eq_true rfl⟩ ⟨Nat.le_of_ble_eq_true rfl, Nat.le_of_ble_eq_true rfl⟩ ⟨0, 3, _, _, rfl, rfl, rfl⟩ rfl rfl (Nat.le_of_ble_eq_true rfl) dL_law_542 ?_
  refine go_icmp_eq C (tgt := 758) dL_law_545 (by decide) (fun _ => N _ _ _ _ _ _ _ _ _ _ _ _ _ _ _ _ _ _ _ _ _ _ ⟨⟨n, k, w, c0, hR, hXX, hM⟩, hE2, q, e1, e2, hS⟩) (fun h => absurd ee h)
set_option maxRecDepth 20000 in
set_option maxHeartbeats 2000000 in
theorem lwc_worstSet {p : Program} {l : Launch} {e : Env} {s : State} {m : MethodId} {below : List Frame} {meth : Method} {c : Code} {K : KK} {b L : Nat} {xs : Nat → Int32} {a a' : Nat → Nat} {i : Nat} {len sz : Int32} {words checks : Nat → Int32} {cnt : Int32} {err vec : Nat → Int32} {bc : Int32} {pm : Nat → Nat} {sl ss : Nat → Int32} {sw sc : Nat → Nat → Int32} {now past errM lef msg met par : Nat → Int32} {sv : Int32} {hash : Int64} (C : Cx p s m #[Value.ref b] meth c K (fun q => s.heap.size ≤ q) cL_law 4 RL wsL_law ret) (hX : va_X b L xs s s.heap) (hbl : b < s.heap.size) (hL : L ≤ 2048) (hi : i + 4 ≤ L) (N : LNx p l e s m below meth c K b a a' i) (h : Rel len sz words checks cnt err pm sl ss sw sc now past errM sv) : Go p l e room_1 s m #[Value.ref b] below meth c K (fun q => s.heap.size ≤ q) 4 28 768 (lw_Z below #[Value.ref b] s) (xW K a len sz words checks cnt err vec bc pm sl ss sw sc ++ mW K a' now past errM lef msg met par sv hash) 550 [(0, .ref b), (1, .ref (a 0)), (2, .ref (a' 0)), (3, .int (nI i))] [] := by
  have hbA : ¬ s.heap.size ≤ b := Nat.not_le.mpr hbl
  obtain ⟨⟨n, k, w, c0, hR, hXX, hM⟩, hE, q, e1, e2, hS⟩ := h
  obtain ⟨vX, vM, r1, r2, ee, hE2⟩ := st_worstSet (vec := vec) (bc := bc) (lef := lef) hR hXX hM hE (xs (i + 1))
  refine go_aload_n C 1 dL_law_550 rfl rfl ?_
  refine lw_arg C hX hbl hbA hL 1 rfl rfl hi (by decide) (by decide) rfl rfl dL_law_551 dL_law_552 dL_law_553 dL_law_554 dL_law_555 ?_
  refine go_callV_l (ry := (some .int)) (n := 1) (b := a 0) (As := [.int (xs (i + 1))]) (rest := []) C (con_X2_worstSet l K a r1) gL_law_X2_worstSet (by decide) rfl ⟨Nat.le_of_ble_eq_true rfl, Nat.le_of_ble_eq_true rfl⟩ ⟨Nat.le_of_ble_eq_true rfl, Nat.le_of_ble_eq_true rfl⟩ ⟨0, 2, _, _, rfl, rfl, rfl⟩ rfl rfl (Nat.le_of_ble_eq_true rfl) dL_law_556 ?_
  refine go_aload_n C 2 dL_law_559 rfl rfl ?_
  refine lw_arg C hX hbl hbA hL 1 rfl rfl hi (by decide) (by decide) rfl rfl dL_law_560 dL_law_561 dL_law_562 dL_law_563 dL_law_564 ?_
  refine go_callV_r (ry := (some .int)) (n := 1) (b := a' 0) (As := [.int (xs (i + 1))]) (rest := [.int vX.1]) C (con_X3_worstSet l K a' r2) gL_law_X3_worstSet (by decide) rfl ⟨Nat.le_of_ble_eq_true rfl, Nat.le_of_ble_eq_true rfl⟩ ⟨Nat.le_of_ble_eq_true rfl, Nat.le_of_ble_eq_true rfl⟩ ⟨0, 3, _, _, rfl, rfl, rfl⟩ rfl rfl (Nat.le_of_ble_eq_true rfl) dL_law_565 ?_
  refine go_icmp_eq C (tgt := 758) dL_law_568 (by decide) (fun _ => N _ _ _ _ _ _ _ _ _ _ _ _ _ _ _ _ _ _ _ _ _ _ ⟨⟨n, k, w, c0, hR, hXX, hM⟩, hE2, q, e1, e2, hS⟩) (fun h => absurd ee h)
set_option maxRecDepth 20000 in
set_option maxHeartbeats 2000000 in
theorem lwc_threshold {p : Program} {l : Launch} {e : Env} {s : State} {m : MethodId} {below : List Frame} {meth : Method} {c : Code} {K : KK} {b L : Nat} {xs : Nat → Int32} {a a' : Nat → Nat} {i : Nat} {len sz : Int32} {words checks : Nat → Int32} {cnt : Int32} {err vec : Nat → Int32} {bc : Int32} {pm : Nat → Nat} {sl ss : Nat → Int32} {sw sc : Nat → Nat → Int32} {now past errM lef msg met par : Nat → Int32} {sv : Int32} {hash : Int64} (C : Cx p s m #[Value.ref b] meth c K (fun q => s.heap.size ≤ q) cL_law 4 RL wsL_law ret) (hX : va_X b L xs s s.heap) (hbl : b < s.heap.size) (hL : L ≤ 2048) (hi : i + 4 ≤ L) (N : LNx p l e s m below meth c K b a a' i) (h : Rel len sz words checks cnt err pm sl ss sw sc now past errM sv) : Go p l e room_1 s m #[Value.ref b] below meth c K (fun q => s.heap.size ≤ q) 4 28 768 (lw_Z below #[Value.ref b] s) (xW K a len sz words checks cnt err vec bc pm sl ss sw sc ++ mW K a' now past errM lef msg met par sv hash) 573 [(0, .ref b), (1, .ref (a 0)), (2, .ref (a' 0)), (3, .int (nI i))] [] := by
  have hbA : ¬ s.heap.size ≤ b := Nat.not_le.mpr hbl
  obtain ⟨⟨n, k, w, c0, hR, hXX, hM⟩, hE, q, e1, e2, hS⟩ := h
  obtain ⟨vX, vM, r1, r2, ee⟩ := st_threshold (vec := vec) (bc := bc) (lef := lef) hR hXX hM 
  refine go_aload_n C 1 dL_law_573 rfl rfl ?_
  refine go_callV_l (ry := (some .int)) (n := 0) (b := a 0) (As := []) (rest := []) C (con_X2_threshold l K a r1) gL_law_X2_threshold (by decide) rfl ⟨Nat.le_of_ble_eq_true rfl, Nat.le_of_ble_eq_true rfl⟩ ⟨Nat.le_of_ble_eq_true rfl, Nat.le_of_ble_eq_true rfl⟩ ⟨0, 2, _, _, rfl, rfl, rfl⟩ rfl rfl (Nat.le_of_ble_eq_true rfl) dL_law_574 ?_
  refine go_aload_n C 2 dL_law_577 rfl rfl ?_
  refine go_callV_r (ry := (some .int)) (n := 0) (b := a' 0) (As := []) (rest := [.int vX.1]) C (con_X3_threshold l K a' r2) gL_law_X3_threshold (by decide) rfl ⟨Nat.le_of_ble_eq_true rfl, Nat.le_of_ble_eq_true rfl⟩ ⟨Nat.le_of_ble_eq_true rfl, Nat.le_of_ble_eq_true rfl⟩ ⟨0, 3, _, _, rfl, rfl, rfl⟩ rfl rfl (Nat.le_of_ble_eq_true rfl) dL_law_578 ?_
  refine go_icmp_eq C (tgt := 758) dL_law_581 (by decide) (fun _ => N _ _ _ _ _ _ _ _ _ _ _ _ _ _ _ _ _ _ _ _ _ _ ⟨⟨n, k, w, c0, hR, hXX, hM⟩, hE, q, e1, e2, hS⟩) (fun h => absurd ee h)
set_option maxRecDepth 20000 in
set_option maxHeartbeats 2000000 in
theorem lwc_leastSize {p : Program} {l : Launch} {e : Env} {s : State} {m : MethodId} {below : List Frame} {meth : Method} {c : Code} {K : KK} {b L : Nat} {xs : Nat → Int32} {a a' : Nat → Nat} {i : Nat} {len sz : Int32} {words checks : Nat → Int32} {cnt : Int32} {err vec : Nat → Int32} {bc : Int32} {pm : Nat → Nat} {sl ss : Nat → Int32} {sw sc : Nat → Nat → Int32} {now past errM lef msg met par : Nat → Int32} {sv : Int32} {hash : Int64} (C : Cx p s m #[Value.ref b] meth c K (fun q => s.heap.size ≤ q) cL_law 4 RL wsL_law ret) (hX : va_X b L xs s s.heap) (hbl : b < s.heap.size) (hL : L ≤ 2048) (hi : i + 4 ≤ L) (N : LNx p l e s m below meth c K b a a' i) (h : Rel len sz words checks cnt err pm sl ss sw sc now past errM sv) : Go p l e room_1 s m #[Value.ref b] below meth c K (fun q => s.heap.size ≤ q) 4 28 768 (lw_Z below #[Value.ref b] s) (xW K a len sz words checks cnt err vec bc pm sl ss sw sc ++ mW K a' now past errM lef msg met par sv hash) 586 [(0, .ref b), (1, .ref (a 0)), (2, .ref (a' 0)), (3, .int (nI i))] [] := by
  have hbA : ¬ s.heap.size ≤ b := Nat.not_le.mpr hbl
  obtain ⟨⟨n, k, w, c0, hR, hXX, hM⟩, hE, q, e1, e2, hS⟩ := h
  obtain ⟨vX, vM, r1, r2, ee, hE2⟩ := st_leastSize (vec := vec) (bc := bc) (lef := lef) hR hXX hM hE (xs (i + 1))
  refine go_aload_n C 1 dL_law_586 rfl rfl ?_
  refine lw_arg C hX hbl hbA hL 1 rfl rfl hi (by decide) (by decide) rfl rfl dL_law_587 dL_law_588 dL_law_589 dL_law_590 dL_law_591 ?_
  refine go_callV_l (ry := (some .int)) (n := 1) (b := a 0) (As := [.int (xs (i + 1))]) (rest := []) C (con_X2_leastSize l K a r1) gL_law_X2_leastSize (by decide) rfl ⟨Nat.le_of_ble_eq_true rfl, Nat.le_of_ble_eq_true rfl⟩ ⟨Nat.le_of_ble_eq_true rfl, Nat.le_of_ble_eq_true rfl⟩ ⟨0, 2, _, _, rfl, rfl, rfl⟩ rfl rfl (Nat.le_of_ble_eq_true rfl) dL_law_592 ?_
  refine go_aload_n C 2 dL_law_595 rfl rfl ?_
  refine lw_arg C hX hbl hbA hL 1 rfl rfl hi (by decide) (by decide) rfl rfl dL_law_596 dL_law_597 dL_law_598 dL_law_599 dL_law_600 ?_
  refine go_callV_r (ry := (some .int)) (n := 1) (b := a' 0) (As := [.int (xs (i + 1))]) (rest := [.int vX.1]) C (con_X3_leastSize l K a' r2) gL_law_X3_leastSize (by decide) rfl ⟨Nat.le_of_ble_eq_true rfl, Nat.le_of_ble_eq_true rfl⟩ ⟨Nat.le_of_ble_eq_true rfl, Nat.le_of_ble_eq_true rfl⟩ ⟨0, 3, _, _, rfl, rfl, rfl⟩ rfl rfl (Nat.le_of_ble_eq_true rfl) dL_law_601 ?_
  refine go_icmp_eq C (tgt := 758) dL_law_604 (by decide) (fun _ => N _ _ _ _ _ _ _ _ _ _ _ _ _ _ _ _ _ _ _ _ _ _ ⟨⟨n, k, w, c0, hR, hXX, hM⟩, hE2, q, e1, e2, hS⟩) (fun h => absurd ee h)
set_option maxRecDepth 20000 in
set_option maxHeartbeats 2000000 in
theorem lwc_possibleMessages {p : Program} {l : Launch} {e : Env} {s : State} {m : MethodId} {below : List Frame} {meth : Method} {c : Code} {K : KK} {b L : Nat} {xs : Nat → Int32} {a a' : Nat → Nat} {i : Nat} {len sz : Int32} {words checks : Nat → Int32} {cnt : Int32} {err vec : Nat → Int32} {bc : Int32} {pm : Nat → Nat} {sl ss : Nat → Int32} {sw sc : Nat → Nat → Int32} {now past errM lef msg met par : Nat → Int32} {sv : Int32} {hash : Int64} (C : Cx p s m #[Value.ref b] meth c K (fun q => s.heap.size ≤ q) cL_law 4 RL wsL_law ret) (hX : va_X b L xs s s.heap) (hbl : b < s.heap.size) (hL : L ≤ 2048) (hi : i + 4 ≤ L) (N : LNx p l e s m below meth c K b a a' i) (h : Rel len sz words checks cnt err pm sl ss sw sc now past errM sv) : Go p l e room_1 s m #[Value.ref b] below meth c K (fun q => s.heap.size ≤ q) 4 28 768 (lw_Z below #[Value.ref b] s) (xW K a len sz words checks cnt err vec bc pm sl ss sw sc ++ mW K a' now past errM lef msg met par sv hash) 609 [(0, .ref b), (1, .ref (a 0)), (2, .ref (a' 0)), (3, .int (nI i))] [] := by
  have hbA : ¬ s.heap.size ≤ b := Nat.not_le.mpr hbl
  obtain ⟨⟨n, k, w, c0, hR, hXX, hM⟩, hE, q, e1, e2, hS⟩ := h
  obtain ⟨vX, vM, r1, r2, ee, hE2⟩ := st_possibleMessages (msg := msg) (met := met) hR hXX hM hE (xs (i + 1)) (xs (i + 2))
  refine go_aload_n C 1 dL_law_609 rfl rfl ?_
  refine lw_arg C hX hbl hbA hL 1 rfl rfl hi (by decide) (by decide) rfl rfl dL_law_610 dL_law_611 dL_law_612 dL_law_613 dL_law_614 ?_
  refine lw_arg C hX hbl hbA hL 2 rfl rfl hi (by decide) (by decide) rfl rfl dL_law_615 dL_law_616 dL_law_617 dL_law_618 dL_law_619 ?_
  refine go_callV_l (ry := (some .int)) (n := 2) (b := a 0) (As := [.int (xs (i + 1)), .int (xs (i + 2))]) (rest := []) C (con_X2_possibleMessages l K a r1) gL_law_X2_possibleMessages (by decide) rfl ⟨Nat.le_of_ble_eq_true rfl, Nat.le_of_ble_eq_true rfl⟩ ⟨Nat.le_of_ble_eq_true rfl, Nat.le_of_ble_eq_true rfl⟩ ⟨0, 2, _, _, rfl, rfl, rfl⟩ rfl rfl (Nat.le_of_ble_eq_true rfl) dL_law_620 ?_
  refine go_aload_n C 2 dL_law_623 rfl rfl ?_
  refine lw_arg C hX hbl hbA hL 1 rfl rfl hi (by decide) (by decide) rfl rfl dL_law_624 dL_law_625 dL_law_626 dL_law_627 dL_law_628 ?_
  refine lw_arg C hX hbl hbA hL 2 rfl rfl hi (by decide) (by decide) rfl rfl dL_law_629 dL_law_630 dL_law_631 dL_law_632 dL_law_633 ?_
  refine go_callV_r (ry := (some .int)) (n := 2) (b := a' 0) (As := [.int (xs (i + 1)), .int (xs (i + 2))]) (rest := [.int vX.1]) C (con_X3_possibleMessages l K a' r2) gL_law_X3_possibleMessages (by decide) rfl ⟨Nat.le_of_ble_eq_true rfl, Nat.le_of_ble_eq_true rfl⟩ ⟨Nat.le_of_ble_eq_true rfl, Nat.le_of_ble_eq_true rfl⟩ ⟨0, 3, _, _, rfl, rfl, rfl⟩ rfl rfl (Nat.le_of_ble_eq_true rfl) dL_law_634 ?_
  refine go_icmp_eq C (tgt := 758) dL_law_637 (by decide) (fun _ => N _ _ _ _ _ _ _ _ _ _ _ _ _ _ _ _ _ _ _ _ _ _ ⟨⟨n, k, w, c0, hR, hXX, hM⟩, hE2, q, e1, e2, hS⟩) (fun h => absurd ee h)
set_option maxRecDepth 20000 in
set_option maxHeartbeats 2000000 in
theorem lwc_possibleMessage {p : Program} {l : Launch} {e : Env} {s : State} {m : MethodId} {below : List Frame} {meth : Method} {c : Code} {K : KK} {b L : Nat} {xs : Nat → Int32} {a a' : Nat → Nat} {i : Nat} {len sz : Int32} {words checks : Nat → Int32} {cnt : Int32} {err vec : Nat → Int32} {bc : Int32} {pm : Nat → Nat} {sl ss : Nat → Int32} {sw sc : Nat → Nat → Int32} {now past errM lef msg met par : Nat → Int32} {sv : Int32} {hash : Int64} (C : Cx p s m #[Value.ref b] meth c K (fun q => s.heap.size ≤ q) cL_law 4 RL wsL_law ret) (hX : va_X b L xs s s.heap) (hbl : b < s.heap.size) (hL : L ≤ 2048) (hi : i + 4 ≤ L) (N : LNx p l e s m below meth c K b a a' i) (h : Rel len sz words checks cnt err pm sl ss sw sc now past errM sv) : Go p l e room_1 s m #[Value.ref b] below meth c K (fun q => s.heap.size ≤ q) 4 28 768 (lw_Z below #[Value.ref b] s) (xW K a len sz words checks cnt err vec bc pm sl ss sw sc ++ mW K a' now past errM lef msg met par sv hash) 642 [(0, .ref b), (1, .ref (a 0)), (2, .ref (a' 0)), (3, .int (nI i))] [] := by
  have hbA : ¬ s.heap.size ≤ b := Nat.not_le.mpr hbl
  obtain ⟨⟨n, k, w, c0, hR, hXX, hM⟩, hE, q, e1, e2, hS⟩ := h
  obtain ⟨vX, vM, r1, r2, ee, hE2⟩ := st_possibleMessage (msg := msg) (met := met) hR hXX hM hE (xs (i + 1)) (xs (i + 2)) (xs (i + 3))
  refine go_aload_n C 1 dL_law_642 rfl rfl ?_
  refine lw_arg C hX hbl hbA hL 1 rfl rfl hi (by decide) (by decide) rfl rfl dL_law_643 dL_law_644 dL_law_645 dL_law_646 dL_law_647 ?_
  refine lw_arg C hX hbl hbA hL 2 rfl rfl hi (by decide) (by decide) rfl rfl dL_law_648 dL_law_649 dL_law_650 dL_law_651 dL_law_652 ?_
  refine lw_arg C hX hbl hbA hL 3 rfl rfl hi (by decide) (by decide) rfl rfl dL_law_653 dL_law_654 dL_law_655 dL_law_656 dL_law_657 ?_
  refine go_callV_l (ry := (some .int)) (n := 3) (b := a 0) (As := [.int (xs (i + 1)), .int (xs (i + 2)), .int (xs (i + 3))]) (rest := []) C (con_X2_possibleMessage l K a r1) gL_law_X2_possibleMessage (by decide) rfl ⟨Nat.le_of_ble_eq_true rfl, Nat.le_of_ble_eq_true rfl⟩ ⟨Nat.le_of_ble_eq_true rfl, Nat.le_of_ble_eq_true rfl⟩ ⟨0, 2, _, _, rfl, rfl, rfl⟩ rfl rfl (Nat.le_of_ble_eq_true rfl) dL_law_658 ?_
  refine go_aload_n C 2 dL_law_661 rfl rfl ?_
  refine lw_arg C hX hbl hbA hL 1 rfl rfl hi (by decide) (by decide) rfl rfl dL_law_662 dL_law_663 dL_law_664 dL_law_665 dL_law_666 ?_
  refine lw_arg C hX hbl hbA hL 2 rfl rfl hi (by decide) (by decide) rfl rfl dL_law_667 dL_law_668 dL_law_669 dL_law_670 dL_law_671 ?_
  refine lw_arg C hX hbl hbA hL 3 rfl rfl hi (by decide) (by decide) rfl rfl dL_law_672 dL_law_673 dL_law_674 dL_law_675 dL_law_676 ?_
  refine go_callV_r (ry := (some .int)) (n := 3) (b := a' 0) (As := [.int (xs (i + 1)), .int (xs (i + 2)), .int (xs (i + 3))]) (rest := [.int vX.1]) C (con_X3_possibleMessage l K a' r2) gL_law_X3_possibleMessage (by decide) rfl ⟨Nat.le_of_ble_eq_true rfl, Nat.le_of_ble_eq_true rfl⟩ ⟨Nat.le_of_ble_eq_true rfl, Nat.le_of_ble_eq_true rfl⟩ ⟨0, 3, _, _, rfl, rfl, rfl⟩ rfl rfl (Nat.le_of_ble_eq_true rfl) dL_law_677 ?_
  refine go_icmp_eq C (tgt := 758) dL_law_680 (by decide) (fun _ => N _ _ _ _ _ _ _ _ _ _ _ _ _ _ _ _ _ _ _ _ _ _ ⟨⟨n, k, w, c0, hR, hXX, hM⟩, hE2, q, e1, e2, hS⟩) (fun h => absurd ee h)
set_option maxRecDepth 20000 in
set_option maxHeartbeats 2000000 in
theorem lwc_knownCombinations {p : Program} {l : Launch} {e : Env} {s : State} {m : MethodId} {below : List Frame} {meth : Method} {c : Code} {K : KK} {b L : Nat} {xs : Nat → Int32} {a a' : Nat → Nat} {i : Nat} {len sz : Int32} {words checks : Nat → Int32} {cnt : Int32} {err vec : Nat → Int32} {bc : Int32} {pm : Nat → Nat} {sl ss : Nat → Int32} {sw sc : Nat → Nat → Int32} {now past errM lef msg met par : Nat → Int32} {sv : Int32} {hash : Int64} (C : Cx p s m #[Value.ref b] meth c K (fun q => s.heap.size ≤ q) cL_law 4 RL wsL_law ret) (hX : va_X b L xs s s.heap) (hbl : b < s.heap.size) (hL : L ≤ 2048) (hi : i + 4 ≤ L) (N : LNx p l e s m below meth c K b a a' i) (h : Rel len sz words checks cnt err pm sl ss sw sc now past errM sv) : Go p l e room_1 s m #[Value.ref b] below meth c K (fun q => s.heap.size ≤ q) 4 28 768 (lw_Z below #[Value.ref b] s) (xW K a len sz words checks cnt err vec bc pm sl ss sw sc ++ mW K a' now past errM lef msg met par sv hash) 685 [(0, .ref b), (1, .ref (a 0)), (2, .ref (a' 0)), (3, .int (nI i))] [] := by
  have hbA : ¬ s.heap.size ≤ b := Nat.not_le.mpr hbl
  obtain ⟨⟨n, k, w, c0, hR, hXX, hM⟩, hE, q, e1, e2, hS⟩ := h
  obtain ⟨vX, vM, r1, r2, ee, hE2⟩ := st_knownCombinations (vec := vec) (bc := bc) (msg := msg) (par := par) hR hXX hM hE (xs (i + 1))
  refine go_aload_n C 1 dL_law_685 rfl rfl ?_
  refine lw_arg C hX hbl hbA hL 1 rfl rfl hi (by decide) (by decide) rfl rfl dL_law_686 dL_law_687 dL_law_688 dL_law_689 dL_law_690 ?_
  refine go_callV_l (ry := (some .int)) (n := 1) (b := a 0) (As := [.int (xs (i + 1))]) (rest := []) C (con_X2_knownCombinations l K a r1) gL_law_X2_knownCombinations (by decide) rfl ⟨Nat.le_of_ble_eq_true rfl, Nat.le_of_ble_eq_true rfl⟩ ⟨Nat.le_of_ble_eq_true rfl, Nat.le_of_ble_eq_true rfl⟩ ⟨0, 2, _, _, rfl, rfl, rfl⟩ rfl rfl (Nat.le_of_ble_eq_true rfl) dL_law_691 ?_
  refine go_aload_n C 2 dL_law_694 rfl rfl ?_
  refine lw_arg C hX hbl hbA hL 1 rfl rfl hi (by decide) (by decide) rfl rfl dL_law_695 dL_law_696 dL_law_697 dL_law_698 dL_law_699 ?_
  refine go_callV_r (ry := (some .int)) (n := 1) (b := a' 0) (As := [.int (xs (i + 1))]) (rest := [.int vX.1]) C (con_X3_knownCombinations l K a' r2) gL_law_X3_knownCombinations (by decide) rfl ⟨Nat.le_of_ble_eq_true rfl, Nat.le_of_ble_eq_true rfl⟩ ⟨Nat.le_of_ble_eq_true rfl, Nat.le_of_ble_eq_true rfl⟩ ⟨0, 3, _, _, rfl, rfl, rfl⟩ rfl rfl (Nat.le_of_ble_eq_true rfl) dL_law_700 ?_
  refine go_icmp_eq C (tgt := 758) dL_law_703 (by decide) (fun _ => N _ _ _ _ _ _ _ _ _ _ _ _ _ _ _ _ _ _ _ _ _ _ ⟨⟨n, k, w, c0, hR, hXX, hM⟩, hE2, q, e1, e2, hS⟩) (fun h => absurd ee h)
set_option maxRecDepth 20000 in
set_option maxHeartbeats 2000000 in
theorem lwc_undo {p : Program} {l : Launch} {e : Env} {s : State} {m : MethodId} {below : List Frame} {meth : Method} {c : Code} {K : KK} {b L : Nat} {xs : Nat → Int32} {a a' : Nat → Nat} {i : Nat} {len sz : Int32} {words checks : Nat → Int32} {cnt : Int32} {err vec : Nat → Int32} {bc : Int32} {pm : Nat → Nat} {sl ss : Nat → Int32} {sw sc : Nat → Nat → Int32} {now past errM lef msg met par : Nat → Int32} {sv : Int32} {hash : Int64} (C : Cx p s m #[Value.ref b] meth c K (fun q => s.heap.size ≤ q) cL_law 4 RL wsL_law ret) (hX : va_X b L xs s s.heap) (hbl : b < s.heap.size) (hL : L ≤ 2048) (hi : i + 4 ≤ L) (N : LNx p l e s m below meth c K b a a' i) (h : Rel len sz words checks cnt err pm sl ss sw sc now past errM sv) : Go p l e room_1 s m #[Value.ref b] below meth c K (fun q => s.heap.size ≤ q) 4 28 768 (lw_Z below #[Value.ref b] s) (xW K a len sz words checks cnt err vec bc pm sl ss sw sc ++ mW K a' now past errM lef msg met par sv hash) 708 [(0, .ref b), (1, .ref (a 0)), (2, .ref (a' 0)), (3, .int (nI i))] [] := by
  have hbA : ¬ s.heap.size ≤ b := Nat.not_le.mpr hbl
  obtain ⟨r, len', sz', words', checks', cnt', err', now', errM', sv', r1, r2, hrel⟩ := op_undo h 
  refine go_aload_n C 1 dL_law_708 rfl rfl ?_
  refine go_callV_l (ry := (some .int)) (n := 0) (b := a 0) (As := []) (rest := []) C (con_X2_undo l K a r1) gL_law_X2_undo (by decide) rfl ⟨Nat.le_of_ble_eq_true rfl, Nat.le_of_ble_eq_true rfl⟩ ⟨Nat.le_of_ble_eq_true rfl, Nat.le_of_ble_eq_true rfl⟩ ⟨0, 2, _, _, rfl, rfl, rfl⟩ rfl rfl (Nat.le_of_ble_eq_true rfl) dL_law_709 ?_
  refine go_aload_n C 2 dL_law_712 rfl rfl ?_
  refine go_callV_r (ry := (some .int)) (n := 0) (b := a' 0) (As := []) (rest := [.int r]) C (con_X3_undo l K a' r2) gL_law_X3_undo (by decide) rfl ⟨Nat.le_of_ble_eq_true rfl, Nat.le_of_ble_eq_true rfl⟩ ⟨Nat.le_of_ble_eq_true rfl, Nat.le_of_ble_eq_true rfl⟩ ⟨0, 3, _, _, rfl, rfl, rfl⟩ rfl rfl (Nat.le_of_ble_eq_true rfl) dL_law_713 ?_
  refine go_icmp_eq C (tgt := 758) dL_law_716 (by decide) (fun _ => N _ _ _ _ _ _ _ _ _ _ _ _ _ _ _ _ _ _ _ _ _ _ hrel) (fun h => absurd rfl h)
set_option maxRecDepth 20000 in
set_option maxHeartbeats 2000000 in
theorem lwc_errorCount {p : Program} {l : Launch} {e : Env} {s : State} {m : MethodId} {below : List Frame} {meth : Method} {c : Code} {K : KK} {b L : Nat} {xs : Nat → Int32} {a a' : Nat → Nat} {i : Nat} {len sz : Int32} {words checks : Nat → Int32} {cnt : Int32} {err vec : Nat → Int32} {bc : Int32} {pm : Nat → Nat} {sl ss : Nat → Int32} {sw sc : Nat → Nat → Int32} {now past errM lef msg met par : Nat → Int32} {sv : Int32} {hash : Int64} (C : Cx p s m #[Value.ref b] meth c K (fun q => s.heap.size ≤ q) cL_law 4 RL wsL_law ret) (hX : va_X b L xs s s.heap) (hbl : b < s.heap.size) (hL : L ≤ 2048) (hi : i + 4 ≤ L) (N : LNx p l e s m below meth c K b a a' i) (h : Rel len sz words checks cnt err pm sl ss sw sc now past errM sv) : Go p l e room_1 s m #[Value.ref b] below meth c K (fun q => s.heap.size ≤ q) 4 28 768 (lw_Z below #[Value.ref b] s) (xW K a len sz words checks cnt err vec bc pm sl ss sw sc ++ mW K a' now past errM lef msg met par sv hash) 721 [(0, .ref b), (1, .ref (a 0)), (2, .ref (a' 0)), (3, .int (nI i))] [] := by
  have hbA : ¬ s.heap.size ≤ b := Nat.not_le.mpr hbl
  obtain ⟨⟨n, k, w, c0, hR, hXX, hM⟩, hE, q, e1, e2, hS⟩ := h
  obtain ⟨vX, vM, r1, r2, ee, hE2⟩ := st_errorCount  hE (xs (i + 1))
  refine go_aload_n C 1 dL_law_721 rfl rfl ?_
  refine lw_arg C hX hbl hbA hL 1 rfl rfl hi (by decide) (by decide) rfl rfl dL_law_722 dL_law_723 dL_law_724 dL_law_725 dL_law_726 ?_
  refine go_callV_l (ry := (some .int)) (n := 1) (b := a 0) (As := [.int (xs (i + 1))]) (rest := []) C (con_X2_errorCount l K a r1) gL_law_X2_errorCount (by decide) rfl ⟨Nat.le_of_ble_eq_true rfl, Nat.le_of_ble_eq_true rfl⟩ ⟨Nat.le_of_ble_eq_true rfl, Nat.le_of_ble_eq_true rfl⟩ ⟨0, 2, _, _, rfl, rfl, rfl⟩ rfl rfl (Nat.le_of_ble_eq_true rfl) dL_law_727 ?_
  refine go_aload_n C 2 dL_law_730 rfl rfl ?_
  refine lw_arg C hX hbl hbA hL 1 rfl rfl hi (by decide) (by decide) rfl rfl dL_law_731 dL_law_732 dL_law_733 dL_law_734 dL_law_735 ?_
  refine go_callV_r (ry := (some .int)) (n := 1) (b := a' 0) (As := [.int (xs (i + 1))]) (rest := [.int vX.1]) C (con_X3_errorCount l K a' r2) gL_law_X3_errorCount (by decide) rfl ⟨Nat.le_of_ble_eq_true rfl, Nat.le_of_ble_eq_true rfl⟩ ⟨Nat.le_of_ble_eq_true rfl, Nat.le_of_ble_eq_true rfl⟩ ⟨0, 3, _, _, rfl, rfl, rfl⟩ rfl rfl (Nat.le_of_ble_eq_true rfl) dL_law_736 ?_
  refine go_icmp_eq C (tgt := 758) dL_law_739 (by decide) (fun _ => N _ _ _ _ _ _ _ _ _ _ _ _ _ _ _ _ _ _ _ _ _ _ ⟨⟨n, k, w, c0, hR, hXX, hM⟩, hE2, q, e1, e2, hS⟩) (fun h => absurd ee h)
set_option maxRecDepth 20000 in
set_option maxHeartbeats 2000000 in
theorem lwc_digest {p : Program} {l : Launch} {e : Env} {s : State} {m : MethodId} {below : List Frame} {meth : Method} {c : Code} {K : KK} {b L : Nat} {xs : Nat → Int32} {a a' : Nat → Nat} {i : Nat} {len sz : Int32} {words checks : Nat → Int32} {cnt : Int32} {err vec : Nat → Int32} {bc : Int32} {pm : Nat → Nat} {sl ss : Nat → Int32} {sw sc : Nat → Nat → Int32} {now past errM lef msg met par : Nat → Int32} {sv : Int32} {hash : Int64} (C : Cx p s m #[Value.ref b] meth c K (fun q => s.heap.size ≤ q) cL_law 4 RL wsL_law ret) (hX : va_X b L xs s s.heap) (hbl : b < s.heap.size) (hL : L ≤ 2048) (hi : i + 4 ≤ L) (N : LNx p l e s m below meth c K b a a' i) (h : Rel len sz words checks cnt err pm sl ss sw sc now past errM sv) : Go p l e room_1 s m #[Value.ref b] below meth c K (fun q => s.heap.size ≤ q) 4 28 768 (lw_Z below #[Value.ref b] s) (xW K a len sz words checks cnt err vec bc pm sl ss sw sc ++ mW K a' now past errM lef msg met par sv hash) 744 [(0, .ref b), (1, .ref (a 0)), (2, .ref (a' 0)), (3, .int (nI i))] [] := by
  have hbA : ¬ s.heap.size ≤ b := Nat.not_le.mpr hbl
  obtain ⟨⟨n, k, w, c0, hR, hXX, hM⟩, hE, q, e1, e2, hS⟩ := h
  subst e1; subst e2
  obtain ⟨r, v1, b1, lf1, g1, m1, r1, r2⟩ := st_digest (cnt := nI q) hR hXX hM hE vec bc lef msg met hash
  refine go_aload_n C 1 dL_law_744 rfl rfl ?_
  refine go_callV_l (ry := (some .long)) (n := 0) (b := a 0) (As := []) (rest := []) C (con_X2_digest l K a r1) gL_law_X2_digest (by decide) rfl ⟨Nat.le_of_ble_eq_true rfl, Nat.le_of_ble_eq_true rfl⟩ ⟨Nat.le_of_ble_eq_true rfl, Nat.le_of_ble_eq_true rfl⟩ ⟨0, 2, _, _, rfl, rfl, rfl⟩ rfl rfl (Nat.le_of_ble_eq_true rfl) dL_law_745 ?_
  refine go_aload_n C 2 dL_law_748 rfl rfl ?_
  refine go_callV_r (ry := (some .long)) (n := 0) (b := a' 0) (As := []) (rest := [.long r]) C (con_X3_digest l K a' r2) gL_law_X3_digest (by decide) rfl ⟨Nat.le_of_ble_eq_true rfl, Nat.le_of_ble_eq_true rfl⟩ ⟨Nat.le_of_ble_eq_true rfl, Nat.le_of_ble_eq_true rfl⟩ ⟨0, 3, _, _, rfl, rfl, rfl⟩ rfl rfl (Nat.le_of_ble_eq_true rfl) dL_law_749 ?_
  refine go_lcmp C dL_law_752 ?_
  refine go_if_eq C (tgt := 758) dL_law_753 (by decide) (fun _ => N _ _ _ _ _ _ _ _ _ _ _ _ _ _ _ _ _ _ _ _ _ _ ⟨⟨n, k, w, c0, hR, hXX, hM⟩, hE, q, rfl, rfl, hS⟩) (fun h => absurd (lg_self _) h)
