-- X0_clear
theorem iX0_clear_0 : ∀ w ∈ wsX00, w ∈ wsX0_clear := by decide +kernel
theorem kX0_clear_15 : Cond.fieldLink RX0 15 "CosetCoder$Basis" "count" "I" ∈ wsX0_clear := by decide +kernel
set_option maxRecDepth 20000 in
set_option maxHeartbeats 2000000 in
theorem WX0_clear_0 {p : Program} {l : Launch} {e : Env} {s : State} {m : MethodId} {args : Array Value} {below : List Frame} {meth : Method} {c : Code} {K : KK} {A : Nat → Prop} {a : Nat → Nat} (C : Cx p s m args meth c K A cX0_clear 1 RX0 wsX0_clear none) {z : Int32} {len : Int32} {sz : Int32} {words : Nat → Int32} {checks : Nat → Int32} {cnt : Int32} {err : Nat → Int32} {vec : Nat → Int32} {pm : Nat → Nat} {sl : Nat → Int32} {ss : Nat → Int32} {sw : Nat → Nat → Int32} {sc : Nat → Nat → Int32} {bc : Int32} (hf : FX0_clear_0   bc = some z) : Go p l e (RM 0) s m args below meth c K A 1 0 0 (MQ below (QR K none (xW K a len sz words checks cnt err vec z pm sl ss sw sc) A) args s 0 0 A) (xW K a len sz words checks cnt err vec bc pm sl ss sw sc) 0 [(0, .ref (a 4))] [] := by
  unfold FX0_clear_0 at hf
  refine go_aload_n C 0 dX0_clear_0 rfl rfl ?_
  refine go_iconst (v := 0) C dX0_clear_1 (by decide) ?_
  refine gX_put_b_count C iX0_clear_0 kX0_clear_15 dX0_clear_2 ?_
  cases hf
  exact go_vret C dX0_clear_5
set_option maxRecDepth 20000 in
theorem con_X0_clear (l : Launch) (K : KK) (a : Nat → Nat) {len : Int32} {sz : Int32} {words : Nat → Int32} {checks : Nat → Int32} {cnt : Int32} {err : Nat → Int32} {vec : Nat → Int32} {bc : Int32} {pm : Nat → Nat} {sl : Nat → Int32} {ss : Nat → Int32} {sw : Nat → Nat → Int32} {sc : Nat → Nat → Int32} {z : Int32} (hf : fX0_clear bc = some z) : Con l yX0_clear wsX0_clear 0 K [.ref (a 4)] (xW K a len sz words checks cnt err vec bc pm sl ss sw sc) none (xW K a len sz words checks cnt err vec z pm sl ss sw sc) :=
  con_of (cc := cX0_clear) (maxL := 1) (ret := none) (own := RX0) (lv0 := [(0, .ref (a 4))]) (by decide) rfl rfl (Nat.le_of_ble_eq_true rfl) rfl (fun p e s m args below meth c A C => go_lv (lv' := [(0, .ref (a 4))]) [0] rfl (WX0_clear_0 C hf))
set_option maxRecDepth 20000 in
theorem call_X0_clear {p : Program} {l : Launch} {e : Env} {s : State} {m : MethodId} {args : Array Value} {below : List Frame} {meth : Method} {c : Code} {K : KK} {A : Nat → Prop} {Q : State → Prop} {cc : ByteArray} {nL : Nat} {Ts : List Cond} {ret : Option FieldType} {pc : Nat} {lv : List (Nat × Value)} {st : List Value} {d : Nat} {α : Type} {kk : Int32 → Option α} {y : α} {a : Nat → Nat} {len : Int32} {sz : Int32} {words : Nat → Int32} {checks : Nat → Int32} {cnt : Int32} {err : Nat → Int32} {vec : Nat → Int32} {bc : Int32} {pm : Nat → Nat} {sl : Nat → Int32} {ss : Nat → Int32} {sw : Nat → Nat → Int32} {sc : Nat → Nat → Int32} (C : Cx p s m args meth c K A cc nL RX2 Ts ret) (hG : GoodIn Ts wsX0_clear) (h1 : Cond.initialized yX0_clear.cls ∈ Ts) (h2 : Cond.instanceMethod yX0_clear ∈ Ts) (h3 : Cond.selects RX0 yX0_clear yX0_clear ∈ Ts) (hd : decode cc pc = .ok (.invokevirtual 66, 3)) (hdd : 0 < d) (hro : (st.map fun v => v.category).sum ≤ 8) (hf : (fX0_clear bc).bind kk = some y) (k : ∀ v, kk v = some y → Go p l e (RM d) s m args below meth c K A nL 0 0 Q (xW K a len sz words checks cnt err vec v pm sl ss sw sc) (pc + 3) lv (st)) : Go p l e (RM d) s m args below meth c K A nL 0 0 Q (xW K a len sz words checks cnt err vec bc pm sl ss sw sc) pc lv (.ref (a 4) :: st) := by
  obtain ⟨v, hv, hf⟩ := bd_some hf
  exact go_callN_full (ry := none) (n := 0) (b := a 4) (As := []) (rest := st) C (con_X0_clear l K a hv) hG C.2.2.1.2.2.2.2.2.2.2.1 h1 h2 h3 (by decide) rfl ⟨Nat.succ_le_of_lt hdd, by show 8 + (1 + 11) + 40 * 0 ≤ 40 * d; omega⟩ ⟨Nat.le_refl _, Nat.le_refl _⟩ ⟨4, 0, _, _, rfl, rfl, rfl⟩ rfl rfl hro hd (k v hf)
-- X0_extend
theorem iX0_extend_0 : ∀ w ∈ wsX00, w ∈ wsX0_extend := by decide +kernel
theorem kX0_extend_15 : Cond.fieldLink RX0 15 "CosetCoder$Basis" "count" "I" ∈ wsX0_extend := by decide +kernel
theorem kX0_extend_9 : Cond.fieldLink RX0 9 "CosetCoder$Basis" "vectors" "[I" ∈ wsX0_extend := by decide +kernel
set_option maxRecDepth 20000 in
set_option maxHeartbeats 2000000 in
theorem WX0_extend_44 {p : Program} {l : Launch} {e : Env} {s : State} {m : MethodId} {args : Array Value} {below : List Frame} {meth : Method} {c : Code} {K : KK} {A : Nat → Prop} {a : Nat → Nat} (C : Cx p s m args meth c K A cX0_extend 4 RX0 wsX0_extend (some .boolean)) {z : Int32 × (Nat → Int32) × Int32} {len : Int32} {sz : Int32} {words : Nat → Int32} {checks : Nat → Int32} {cnt : Int32} {err : Nat → Int32} {pm : Nat → Nat} {sl : Nat → Int32} {ss : Nat → Int32} {sw : Nat → Nat → Int32} {sc : Nat → Nat → Int32} {vec : Nat → Int32} {bc : Int32} (hf : FX0_extend_44   vec bc = some z) : Go p l e (RM 1) s m args below meth c K A 4 0 0 (MQ below (QR K (some (.int z.1)) (xW K a len sz words checks cnt err z.2.1 z.2.2 pm sl ss sw sc) A) args s 0 0 A) (xW K a len sz words checks cnt err vec bc pm sl ss sw sc) 44 [] [] := by
  unfold FX0_extend_44 at hf
  refine go_iconst (v := 0) C dX0_extend_44 (by decide) ?_
  obtain ⟨hb1, hf⟩ := ckB_some hf
  cases hf
  exact go_zret C hb1 dX0_extend_45
set_option maxRecDepth 20000 in
set_option maxHeartbeats 2000000 in
theorem WX0_extend_4 {p : Program} {l : Launch} {e : Env} {s : State} {m : MethodId} {args : Array Value} {below : List Frame} {meth : Method} {c : Code} {K : KK} {A : Nat → Prop} {a : Nat → Nat} (C : Cx p s m args meth c K A cX0_extend 4 RX0 wsX0_extend (some .boolean)) {z : Int32 × (Nat → Int32) × Int32} {len : Int32} {sz : Int32} {words : Nat → Int32} {checks : Nat → Int32} {cnt : Int32} {err : Nat → Int32} {pm : Nat → Nat} {sl : Nat → Int32} {ss : Nat → Int32} {sw : Nat → Nat → Int32} {sc : Nat → Nat → Int32} {r4 : (Nat → Int32) → (Int32) → Int32 → Int32 → Option (Int32 × (Nat → Int32) × Int32)} {vec : Nat → Int32} {bc : Int32} {x2 : Int32} {x3 : Int32} (hr4 : ∀ (vec : Nat → Int32) (bc : Int32) (x2 : Int32) (x3 : Int32), r4 vec bc x2 x3 = some z → Go p l e (RM 1) s m args below meth c K A 4 0 0 (MQ below (QR K (some (.int z.1)) (xW K a len sz words checks cnt err z.2.1 z.2.2 pm sl ss sw sc) A) args s 0 0 A) (xW K a len sz words checks cnt err vec bc pm sl ss sw sc) 4 [(0, .ref (a 4)), (2, .int x2), (3, .int x3)] []) (hf : FX0_extend_4  r4 vec bc x2 x3 = some z) : Go p l e (RM 1) s m args below meth c K A 4 0 0 (MQ below (QR K (some (.int z.1)) (xW K a len sz words checks cnt err z.2.1 z.2.2 pm sl ss sw sc) A) args s 0 0 A) (xW K a len sz words checks cnt err vec bc pm sl ss sw sc) 4 [(0, .ref (a 4)), (2, .int x2), (3, .int x3)] [] := by
  unfold FX0_extend_4 at hf
  refine go_iload_n C 2 dX0_extend_4 rfl rfl ?_
  refine go_aload_n C 0 dX0_extend_5 rfl rfl ?_
  refine gX_get_b_count C iX0_extend_0 kX0_extend_15 dX0_extend_6 ?_
  refine go_c2_ge C (tgt := 31) dX0_extend_9 (by decide) hf (fun h hf => ?_) (fun h hf => ?_)
  · refine go_iload_n C 1 dX0_extend_31 rfl rfl ?_
    refine go_c1_eq C (tgt := 44) dX0_extend_32 (by decide) hf (fun h hf => ?_) (fun h hf => ?_)
    · refine go_lv (lv' := []) [] rfl ?_
      exact WX0_extend_44 C  hf
    · refine go_aload_n C 0 dX0_extend_35 rfl rfl ?_
      refine gX_get_b_count C iX0_extend_0 kX0_extend_15 dX0_extend_36 ?_
      refine go_bipush (v := 6) C dX0_extend_39 (by decide) ?_
      refine go_c2_lt C (tgt := 46) dX0_extend_41 (by decide) hf (fun h hf => ?_) (fun h hf => ?_)
      · refine go_aload_n C 0 dX0_extend_46 rfl rfl ?_
        refine gX_get_b_vectors C iX0_extend_0 kX0_extend_9 dX0_extend_47 ?_
        refine go_aload_n C 0 dX0_extend_50 rfl rfl ?_
        refine gX_get_b_count C iX0_extend_0 kX0_extend_15 dX0_extend_51 ?_
        refine go_iload_n C 1 dX0_extend_54 rfl rfl ?_
        refine gX_wr_vec C dX0_extend_55 hf (fun g1 hf => ?_)
        refine go_aload_n C 0 dX0_extend_56 rfl rfl ?_
        refine go_dup C dX0_extend_57 rfl ?_
        refine gX_get_b_count C iX0_extend_0 kX0_extend_15 dX0_extend_58 ?_
        refine go_iconst (v := 1) C dX0_extend_61 (by decide) ?_
        refine go_iadd C dX0_extend_62 ?_
        refine gX_put_b_count C iX0_extend_0 kX0_extend_15 dX0_extend_63 ?_
        refine go_iconst (v := 1) C dX0_extend_66 (by decide) ?_
        obtain ⟨hb1, hf⟩ := ckB_some hf
        cases hf
        exact go_zret C hb1 dX0_extend_67
      · refine go_lv (lv' := []) [] rfl ?_
        exact WX0_extend_44 C  hf
  · refine go_iload_n C 1 dX0_extend_12 rfl rfl ?_
    refine go_iload_n C 1 dX0_extend_13 rfl rfl ?_
    refine go_aload_n C 0 dX0_extend_14 rfl rfl ?_
    refine gX_get_b_vectors C iX0_extend_0 kX0_extend_9 dX0_extend_15 ?_
    refine go_iload_n C 2 dX0_extend_18 rfl rfl ?_
    refine gX_rd_vec C dX0_extend_19 hf (fun v2 hf => ?_)
    refine go_ixor C dX0_extend_20 ?_
    refine go_mmin C (by decide +kernel) (by decide +kernel) (by decide +kernel) (by decide +kernel) (Nat.le_of_ble_eq_true rfl) (Nat.le_of_ble_eq_true rfl) (Nat.le_refl _) (Nat.le_refl _) dX0_extend_21 ?_
    refine go_istore_n C (lv' := [(0, .ref (a 4)), (2, .int (if (x2 ^^^ v2) < x2 then (x2 ^^^ v2) else x2)), (3, .int x3)]) [1, 0, 2] dX0_extend_24 rfl (by decide) rfl ?_
    refine go_iinc C (v := x3 + 1) (lv' := [(0, .ref (a 4)), (2, .int (if (x2 ^^^ v2) < x2 then (x2 ^^^ v2) else x2)), (3, .int (x3 + 1))]) 2 [1, 2, 0] dX0_extend_25 rfl rfl (by decide) rfl ?_
    refine go_goto C (tgt := 4) dX0_extend_28 (by decide) ?_
    exact hr4 _ _ _ _ hf
theorem wX0_extend_4 {p : Program} {l : Launch} {e : Env} {s : State} {m : MethodId} {args : Array Value} {below : List Frame} {meth : Method} {c : Code} {K : KK} {A : Nat → Prop} {a : Nat → Nat} (C : Cx p s m args meth c K A cX0_extend 4 RX0 wsX0_extend (some .boolean)) {z : Int32 × (Nat → Int32) × Int32} {len : Int32} {sz : Int32} {words : Nat → Int32} {checks : Nat → Int32} {cnt : Int32} {err : Nat → Int32} {pm : Nat → Nat} {sl : Nat → Int32} {ss : Nat → Int32} {sw : Nat → Nat → Int32} {sc : Nat → Nat → Int32} : ∀ (n : Nat) (vec : Nat → Int32) (bc : Int32) (x2 : Int32) (x3 : Int32), fX0_extend_4   n vec bc x2 x3 = some z → Go p l e (RM 1) s m args below meth c K A 4 0 0 (MQ below (QR K (some (.int z.1)) (xW K a len sz words checks cnt err z.2.1 z.2.2 pm sl ss sw sc) A) args s 0 0 A) (xW K a len sz words checks cnt err vec bc pm sl ss sw sc) 4 [(0, .ref (a 4)), (2, .int x2), (3, .int x3)] [] := by
  intro n
  induction n with
  | zero => intro _ _ _ _ hf; cases hf
  | succ n ih => intro _ _ _ _ hf; exact WX0_extend_4 C  ih hf
set_option maxRecDepth 20000 in
set_option maxHeartbeats 2000000 in
theorem WX0_extend_0 {p : Program} {l : Launch} {e : Env} {s : State} {m : MethodId} {args : Array Value} {below : List Frame} {meth : Method} {c : Code} {K : KK} {A : Nat → Prop} {a : Nat → Nat} (C : Cx p s m args meth c K A cX0_extend 4 RX0 wsX0_extend (some .boolean)) {z : Int32 × (Nat → Int32) × Int32} {len : Int32} {sz : Int32} {words : Nat → Int32} {checks : Nat → Int32} {cnt : Int32} {err : Nat → Int32} {pm : Nat → Nat} {sl : Nat → Int32} {ss : Nat → Int32} {sw : Nat → Nat → Int32} {sc : Nat → Nat → Int32} {vec : Nat → Int32} {bc : Int32} {x1 : Int32} (hf : FX0_extend_0   vec bc x1 = some z) : Go p l e (RM 1) s m args below meth c K A 4 0 0 (MQ below (QR K (some (.int z.1)) (xW K a len sz words checks cnt err z.2.1 z.2.2 pm sl ss sw sc) A) args s 0 0 A) (xW K a len sz words checks cnt err vec bc pm sl ss sw sc) 0 [(0, .ref (a 4)), (1, .int x1)] [] := by
  unfold FX0_extend_0 at hf
  refine go_iload_n C 1 dX0_extend_0 rfl rfl ?_
  refine go_istore_n C (lv' := [(0, .ref (a 4)), (1, .int x1), (2, .int x1)]) [1, 2, 0] dX0_extend_1 rfl (by decide) rfl ?_
  refine go_iconst (v := 0) C dX0_extend_2 (by decide) ?_
  refine go_istore_n C (lv' := [(0, .ref (a 4)), (1, .int x1), (2, .int x1), (3, .int 0)]) [1, 2, 3, 0] dX0_extend_3 rfl (by decide) rfl ?_
  refine go_lv (lv' := [(0, .ref (a 4)), (2, .int x1), (3, .int 0)]) [0, 2, 3] rfl ?_
  exact wX0_extend_4 C  300 _ _ _ _ hf
set_option maxRecDepth 20000 in
theorem con_X0_extend (l : Launch) (K : KK) (a : Nat → Nat) {len : Int32} {sz : Int32} {words : Nat → Int32} {checks : Nat → Int32} {cnt : Int32} {err : Nat → Int32} {vec : Nat → Int32} {bc : Int32} {pm : Nat → Nat} {sl : Nat → Int32} {ss : Nat → Int32} {sw : Nat → Nat → Int32} {sc : Nat → Nat → Int32} {x1 : Int32} {z : Int32 × (Nat → Int32) × Int32} (hf : fX0_extend vec bc x1 = some z) : Con l yX0_extend wsX0_extend 1 K [.ref (a 4), .int x1] (xW K a len sz words checks cnt err vec bc pm sl ss sw sc) (some (.int z.1)) (xW K a len sz words checks cnt err z.2.1 z.2.2 pm sl ss sw sc) :=
  con_of (cc := cX0_extend) (maxL := 4) (ret := (some .boolean)) (own := RX0) (lv0 := [(0, .ref (a 4)), (1, .int x1)]) (by decide) rfl rfl (Nat.le_of_ble_eq_true rfl) rfl (fun p e s m args below meth c A C => go_lv (lv' := [(0, .ref (a 4)), (1, .int x1)]) [0, 1] rfl (WX0_extend_0 C hf))
set_option maxRecDepth 20000 in
theorem call_X0_extend {p : Program} {l : Launch} {e : Env} {s : State} {m : MethodId} {args : Array Value} {below : List Frame} {meth : Method} {c : Code} {K : KK} {A : Nat → Prop} {Q : State → Prop} {cc : ByteArray} {nL : Nat} {Ts : List Cond} {ret : Option FieldType} {pc : Nat} {lv : List (Nat × Value)} {st : List Value} {d : Nat} {α : Type} {kk : Int32 × (Nat → Int32) × Int32 → Option α} {y : α} {a : Nat → Nat} {len : Int32} {sz : Int32} {words : Nat → Int32} {checks : Nat → Int32} {cnt : Int32} {err : Nat → Int32} {vec : Nat → Int32} {bc : Int32} {pm : Nat → Nat} {sl : Nat → Int32} {ss : Nat → Int32} {sw : Nat → Nat → Int32} {sc : Nat → Nat → Int32} {q0 : Int32} (C : Cx p s m args meth c K A cc nL RX2 Ts ret) (hG : GoodIn Ts wsX0_extend) (h1 : Cond.initialized yX0_extend.cls ∈ Ts) (h2 : Cond.instanceMethod yX0_extend ∈ Ts) (h3 : Cond.selects RX0 yX0_extend yX0_extend ∈ Ts) (hd : decode cc pc = .ok (.invokevirtual 69, 3)) (hdd : 1 < d) (hro : (st.map fun v => v.category).sum ≤ 8) (hf : (fX0_extend vec bc q0).bind kk = some y) (k : ∀ v, kk v = some y → Go p l e (RM d) s m args below meth c K A nL 0 0 Q (xW K a len sz words checks cnt err v.2.1 v.2.2 pm sl ss sw sc) (pc + 3) lv (.int (v.1) :: st)) : Go p l e (RM d) s m args below meth c K A nL 0 0 Q (xW K a len sz words checks cnt err vec bc pm sl ss sw sc) pc lv (.int q0 :: .ref (a 4) :: st) := by
  obtain ⟨v, hv, hf⟩ := bd_some hf
  exact go_callN_full (ry := (some .boolean)) (n := 1) (b := a 4) (As := [.int q0]) (rest := st) C (con_X0_extend l K a hv) hG C.2.2.1.2.2.2.2.2.2.2.2.1 h1 h2 h3 (by decide) rfl ⟨Nat.succ_le_of_lt hdd, by show 8 + (4 + 11) + 40 * 1 ≤ 40 * d; omega⟩ ⟨Nat.le_refl _, Nat.le_refl _⟩ ⟨4, 0, _, _, rfl, rfl, rfl⟩ rfl rfl hro hd (k v hf)
-- X1_put
theorem iX1_put_1 : ∀ w ∈ wsX10, w ∈ wsX1_put := by decide +kernel
theorem kX1_put_18 : Cond.fieldLink RX1 18 "CosetCoder$State" "words" "[I" ∈ wsX1_put := by decide +kernel
theorem kX1_put_22 : Cond.fieldLink RX1 22 "CosetCoder$State" "checks" "[Z" ∈ wsX1_put := by decide +kernel
set_option maxRecDepth 20000 in
set_option maxHeartbeats 2000000 in
theorem WX1_put_24 {p : Program} {l : Launch} {e : Env} {s : State} {m : MethodId} {args : Array Value} {below : List Frame} {meth : Method} {c : Code} {K : KK} {A : Nat → Prop} {a : Nat → Nat} (C : Cx p s m args meth c K A cX1_put 4 RX1 wsX1_put none) {z : (Nat → Int32) × (Nat → Int32)} {len : Int32} {sz : Int32} {cnt : Int32} {err : Nat → Int32} {vec : Nat → Int32} {bc : Int32} {pm : Nat → Nat} {sl : Nat → Int32} {ss : Nat → Int32} {sw : Nat → Nat → Int32} {sc : Nat → Nat → Int32} {words : Nat → Int32} {checks : Nat → Int32} (hf : FX1_put_24   words checks = some z) : Go p l e (RM 0) s m args below meth c K A 4 0 0 (MQ below (QR K none (xW K a len sz z.1 z.2 cnt err vec bc pm sl ss sw sc) A) args s 0 0 A) (xW K a len sz words checks cnt err vec bc pm sl ss sw sc) 24 [] [] := by
  unfold FX1_put_24 at hf
  cases hf
  exact go_vret C dX1_put_24
set_option maxRecDepth 20000 in
set_option maxHeartbeats 2000000 in
theorem WX1_put_0 {p : Program} {l : Launch} {e : Env} {s : State} {m : MethodId} {args : Array Value} {below : List Frame} {meth : Method} {c : Code} {K : KK} {A : Nat → Prop} {a : Nat → Nat} (C : Cx p s m args meth c K A cX1_put 4 RX1 wsX1_put none) {z : (Nat → Int32) × (Nat → Int32)} {len : Int32} {sz : Int32} {cnt : Int32} {err : Nat → Int32} {vec : Nat → Int32} {bc : Int32} {pm : Nat → Nat} {sl : Nat → Int32} {ss : Nat → Int32} {sw : Nat → Nat → Int32} {sc : Nat → Nat → Int32} {words : Nat → Int32} {checks : Nat → Int32} {x1 : Int32} {x2 : Int32} {x3 : Int32} (hf : FX1_put_0   words checks x1 x2 x3 = some z) : Go p l e (RM 0) s m args below meth c K A 4 0 0 (MQ below (QR K none (xW K a len sz z.1 z.2 cnt err vec bc pm sl ss sw sc) A) args s 0 0 A) (xW K a len sz words checks cnt err vec bc pm sl ss sw sc) 0 [(0, .ref (a 1)), (1, .int x1), (2, .int x2), (3, .int x3)] [] := by
  unfold FX1_put_0 at hf
  refine go_iload_n C 1 dX1_put_0 rfl rfl ?_
  refine go_c1_lt C (tgt := 24) dX1_put_1 (by decide) hf (fun h hf => ?_) (fun h hf => ?_)
  · refine go_lv (lv' := []) [] rfl ?_
    exact WX1_put_24 C  hf
  · refine go_iload_n C 1 dX1_put_4 rfl rfl ?_
    refine go_bipush (v := 6) C dX1_put_5 (by decide) ?_
    refine go_c2_ge C (tgt := 24) dX1_put_7 (by decide) hf (fun h hf => ?_) (fun h hf => ?_)
    · refine go_lv (lv' := []) [] rfl ?_
      exact WX1_put_24 C  hf
    · refine go_aload_n C 0 dX1_put_10 rfl rfl ?_
      refine gX_get_s_words C iX1_put_1 kX1_put_18 dX1_put_11 ?_
      refine go_iload_n C 1 dX1_put_14 rfl rfl ?_
      refine go_iload_n C 2 dX1_put_15 rfl rfl ?_
      refine gX_wr_words C dX1_put_16 hf (fun g1 hf => ?_)
      refine go_aload_n C 0 dX1_put_17 rfl rfl ?_
      refine gX_get_s_checks C iX1_put_1 kX1_put_22 dX1_put_18 ?_
      refine go_iload_n C 1 dX1_put_21 rfl rfl ?_
      refine go_iload_n C 3 dX1_put_22 rfl rfl ?_
      refine gX_wr_checks C dX1_put_23 hf (fun g2 hf => ?_)
      refine go_lv (lv' := []) [] rfl ?_
      exact WX1_put_24 C  hf
set_option maxRecDepth 20000 in
theorem con_X1_put (l : Launch) (K : KK) (a : Nat → Nat) {len : Int32} {sz : Int32} {words : Nat → Int32} {checks : Nat → Int32} {cnt : Int32} {err : Nat → Int32} {vec : Nat → Int32} {bc : Int32} {pm : Nat → Nat} {sl : Nat → Int32} {ss : Nat → Int32} {sw : Nat → Nat → Int32} {sc : Nat → Nat → Int32} {x1 : Int32} {x2 : Int32} {x3 : Int32} {z : (Nat → Int32) × (Nat → Int32)} (hf : fX1_put words checks x1 x2 x3 = some z) : Con l yX1_put wsX1_put 0 K [.ref (a 1), .int x1, .int x2, .int x3] (xW K a len sz words checks cnt err vec bc pm sl ss sw sc) none (xW K a len sz z.1 z.2 cnt err vec bc pm sl ss sw sc) :=
  con_of (cc := cX1_put) (maxL := 4) (ret := none) (own := RX1) (lv0 := [(0, .ref (a 1)), (1, .int x1), (2, .int x2), (3, .int x3)]) (by decide) rfl rfl (Nat.le_of_ble_eq_true rfl) rfl (fun p e s m args below meth c A C => go_lv (lv' := [(0, .ref (a 1)), (1, .int x1), (2, .int x2), (3, .int x3)]) [0, 1, 2, 3] rfl (WX1_put_0 C hf))
set_option maxRecDepth 20000 in
theorem call_X1_put {p : Program} {l : Launch} {e : Env} {s : State} {m : MethodId} {args : Array Value} {below : List Frame} {meth : Method} {c : Code} {K : KK} {A : Nat → Prop} {Q : State → Prop} {cc : ByteArray} {nL : Nat} {Ts : List Cond} {ret : Option FieldType} {pc : Nat} {lv : List (Nat × Value)} {st : List Value} {d : Nat} {α : Type} {kk : (Nat → Int32) × (Nat → Int32) → Option α} {y : α} {a : Nat → Nat} {len : Int32} {sz : Int32} {words : Nat → Int32} {checks : Nat → Int32} {cnt : Int32} {err : Nat → Int32} {vec : Nat → Int32} {bc : Int32} {pm : Nat → Nat} {sl : Nat → Int32} {ss : Nat → Int32} {sw : Nat → Nat → Int32} {sc : Nat → Nat → Int32} {q0 : Int32} {q1 : Int32} {q2 : Int32} (C : Cx p s m args meth c K A cc nL RX2 Ts ret) (hG : GoodIn Ts wsX1_put) (h1 : Cond.initialized yX1_put.cls ∈ Ts) (h2 : Cond.instanceMethod yX1_put ∈ Ts) (h3 : Cond.selects RX1 yX1_put yX1_put ∈ Ts) (hd : decode cc pc = .ok (.invokevirtual 52, 3)) (hdd : 0 < d) (hro : (st.map fun v => v.category).sum ≤ 8) (hf : (fX1_put words checks q0 q1 q2).bind kk = some y) (k : ∀ v, kk v = some y → Go p l e (RM d) s m args below meth c K A nL 0 0 Q (xW K a len sz v.1 v.2 cnt err vec bc pm sl ss sw sc) (pc + 3) lv (st)) : Go p l e (RM d) s m args below meth c K A nL 0 0 Q (xW K a len sz words checks cnt err vec bc pm sl ss sw sc) pc lv (.int q2 :: .int q1 :: .int q0 :: .ref (a 1) :: st) := by
  obtain ⟨v, hv, hf⟩ := bd_some hf
  exact go_callN_full (ry := none) (n := 3) (b := a 1) (As := [.int q0, .int q1, .int q2]) (rest := st) C (con_X1_put l K a hv) hG C.2.2.1.2.2.2.2.2.2.1 h1 h2 h3 (by decide) rfl ⟨Nat.succ_le_of_lt hdd, by show 8 + (4 + 11) + 40 * 0 ≤ 40 * d; omega⟩ ⟨Nat.le_refl _, Nat.le_refl _⟩ ⟨1, 1, _, _, rfl, rfl, rfl⟩ rfl rfl hro hd (k v hf)
-- X1_copyFrom
theorem iX1_copyFrom_1 : ∀ w ∈ wsX10, w ∈ wsX1_copyFrom := by decide +kernel
theorem kX1_copyFrom_15 : Cond.fieldLink RX1 15 "CosetCoder$State" "size" "I" ∈ wsX1_copyFrom := by decide +kernel
theorem kX1_copyFrom_18 : Cond.fieldLink RX1 18 "CosetCoder$State" "words" "[I" ∈ wsX1_copyFrom := by decide +kernel
theorem kX1_copyFrom_22 : Cond.fieldLink RX1 22 "CosetCoder$State" "checks" "[Z" ∈ wsX1_copyFrom := by decide +kernel
theorem kX1_copyFrom_9 : Cond.fieldLink RX1 9 "CosetCoder$State" "length" "I" ∈ wsX1_copyFrom := by decide +kernel
set_option maxRecDepth 20000 in
set_option maxHeartbeats 2000000 in
theorem WX1_copyFrom_18 {p : Program} {l : Launch} {e : Env} {s : State} {m : MethodId} {args : Array Value} {below : List Frame} {meth : Method} {c : Code} {K : KK} {A : Nat → Prop} {b0 b1 b2 d0 d1 d2 : Nat} (C : Cx p s m args meth c K A cX1_copyFrom 3 RX1 wsX1_copyFrom none) {z : Int32 × Int32 × (Nat → Int32) × (Nat → Int32)} {l2 : Int32} {s2 : Int32} {w2 : Nat → Int32} {k2 : Nat → Int32} {r18 : (Int32) → (Int32) → (Nat → Int32) → (Nat → Int32) → Int32 → Option (Int32 × Int32 × (Nat → Int32) × (Nat → Int32))} {l1 : Int32} {s1 : Int32} {w1 : Nat → Int32} {k1 : Nat → Int32} {x2 : Int32} (hr18 : ∀ (l1 : Int32) (s1 : Int32) (w1 : Nat → Int32) (k1 : Nat → Int32) (x2 : Int32), r18 l1 s1 w1 k1 x2 = some z → Go p l e (RM 0) s m args below meth c K A 3 0 0 (MQ below (QR K none (sW K b0 b1 b2 d0 d1 d2 z.1 z.2.1 z.2.2.1 z.2.2.2 l2 s2 w2 k2) A) args s 0 0 A) (sW K b0 b1 b2 d0 d1 d2 l1 s1 w1 k1 l2 s2 w2 k2) 18 [(0, .ref (b0)), (1, .ref (d0)), (2, .int x2)] []) (hf : FX1_copyFrom_18 l2 s2 w2 k2 r18 l1 s1 w1 k1 x2 = some z) : Go p l e (RM 0) s m args below meth c K A 3 0 0 (MQ below (QR K none (sW K b0 b1 b2 d0 d1 d2 z.1 z.2.1 z.2.2.1 z.2.2.2 l2 s2 w2 k2) A) args s 0 0 A) (sW K b0 b1 b2 d0 d1 d2 l1 s1 w1 k1 l2 s2 w2 k2) 18 [(0, .ref (b0)), (1, .ref (d0)), (2, .int x2)] [] := by
  unfold FX1_copyFrom_18 at hf
  refine go_iload_n C 2 dX1_copyFrom_18 rfl rfl ?_
  refine go_bipush (v := 6) C dX1_copyFrom_19 (by decide) ?_
  refine go_c2_ge C (tgt := 54) dX1_copyFrom_21 (by decide) hf (fun h hf => ?_) (fun h hf => ?_)
  · cases hf
    exact go_vret C dX1_copyFrom_54
  · refine go_aload_n C 0 dX1_copyFrom_24 rfl rfl ?_
    refine gS_get_b_words C iX1_copyFrom_1 kX1_copyFrom_18 dX1_copyFrom_25 ?_
    refine go_iload_n C 2 dX1_copyFrom_28 rfl rfl ?_
    refine go_aload_n C 1 dX1_copyFrom_29 rfl rfl ?_
    refine gS_get_d_words C iX1_copyFrom_1 kX1_copyFrom_18 dX1_copyFrom_30 ?_
    refine go_iload_n C 2 dX1_copyFrom_33 rfl rfl ?_
    refine gS_rd_w2 C dX1_copyFrom_34 hf (fun v1 hf => ?_)
    refine gS_wr_w1 C dX1_copyFrom_35 hf (fun g2 hf => ?_)
    refine go_aload_n C 0 dX1_copyFrom_36 rfl rfl ?_
    refine gS_get_b_checks C iX1_copyFrom_1 kX1_copyFrom_22 dX1_copyFrom_37 ?_
    refine go_iload_n C 2 dX1_copyFrom_40 rfl rfl ?_
    refine go_aload_n C 1 dX1_copyFrom_41 rfl rfl ?_
    refine gS_get_d_checks C iX1_copyFrom_1 kX1_copyFrom_22 dX1_copyFrom_42 ?_
    refine go_iload_n C 2 dX1_copyFrom_45 rfl rfl ?_
    refine gS_rd_k2 C dX1_copyFrom_46 hf (fun v3 hf => ?_)
    refine gS_wr_k1 C dX1_copyFrom_47 hf (fun g4 hf => ?_)
    refine go_iinc C (v := x2 + 1) (lv' := [(0, .ref (b0)), (1, .ref (d0)), (2, .int (x2 + 1))]) 2 [1, 2, 0] dX1_copyFrom_48 rfl rfl (by decide) rfl ?_
    refine go_goto C (tgt := 18) dX1_copyFrom_51 (by decide) ?_
    exact hr18 _ _ _ _ _ hf
theorem wX1_copyFrom_18 {p : Program} {l : Launch} {e : Env} {s : State} {m : MethodId} {args : Array Value} {below : List Frame} {meth : Method} {c : Code} {K : KK} {A : Nat → Prop} {b0 b1 b2 d0 d1 d2 : Nat} (C : Cx p s m args meth c K A cX1_copyFrom 3 RX1 wsX1_copyFrom none) {z : Int32 × Int32 × (Nat → Int32) × (Nat → Int32)} {l2 : Int32} {s2 : Int32} {w2 : Nat → Int32} {k2 : Nat → Int32} : ∀ (n : Nat) (l1 : Int32) (s1 : Int32) (w1 : Nat → Int32) (k1 : Nat → Int32) (x2 : Int32), fX1_copyFrom_18 l2 s2 w2 k2  n l1 s1 w1 k1 x2 = some z → Go p l e (RM 0) s m args below meth c K A 3 0 0 (MQ below (QR K none (sW K b0 b1 b2 d0 d1 d2 z.1 z.2.1 z.2.2.1 z.2.2.2 l2 s2 w2 k2) A) args s 0 0 A) (sW K b0 b1 b2 d0 d1 d2 l1 s1 w1 k1 l2 s2 w2 k2) 18 [(0, .ref (b0)), (1, .ref (d0)), (2, .int x2)] [] := by
  intro n
  induction n with
  | zero => intro _ _ _ _ _ hf; cases hf
  | succ n ih => intro _ _ _ _ _ hf; exact WX1_copyFrom_18 C  ih hf
set_option maxRecDepth 20000 in
set_option maxHeartbeats 2000000 in
theorem WX1_copyFrom_0 {p : Program} {l : Launch} {e : Env} {s : State} {m : MethodId} {args : Array Value} {below : List Frame} {meth : Method} {c : Code} {K : KK} {A : Nat → Prop} {b0 b1 b2 d0 d1 d2 : Nat} (C : Cx p s m args meth c K A cX1_copyFrom 3 RX1 wsX1_copyFrom none) {z : Int32 × Int32 × (Nat → Int32) × (Nat → Int32)} {l2 : Int32} {s2 : Int32} {w2 : Nat → Int32} {k2 : Nat → Int32} {l1 : Int32} {s1 : Int32} {w1 : Nat → Int32} {k1 : Nat → Int32} (hf : FX1_copyFrom_0 l2 s2 w2 k2  l1 s1 w1 k1 = some z) : Go p l e (RM 0) s m args below meth c K A 3 0 0 (MQ below (QR K none (sW K b0 b1 b2 d0 d1 d2 z.1 z.2.1 z.2.2.1 z.2.2.2 l2 s2 w2 k2) A) args s 0 0 A) (sW K b0 b1 b2 d0 d1 d2 l1 s1 w1 k1 l2 s2 w2 k2) 0 [(0, .ref (b0)), (1, .ref (d0))] [] := by
  unfold FX1_copyFrom_0 at hf
  refine go_aload_n C 0 dX1_copyFrom_0 rfl rfl ?_
  refine go_aload_n C 1 dX1_copyFrom_1 rfl rfl ?_
  refine gS_get_d_length C iX1_copyFrom_1 kX1_copyFrom_9 dX1_copyFrom_2 ?_
  refine gS_put_b_length C iX1_copyFrom_1 kX1_copyFrom_9 dX1_copyFrom_5 ?_
  refine go_aload_n C 0 dX1_copyFrom_8 rfl rfl ?_
  refine go_aload_n C 1 dX1_copyFrom_9 rfl rfl ?_
  refine gS_get_d_size C iX1_copyFrom_1 kX1_copyFrom_15 dX1_copyFrom_10 ?_
  refine gS_put_b_size C iX1_copyFrom_1 kX1_copyFrom_15 dX1_copyFrom_13 ?_
  refine go_iconst (v := 0) C dX1_copyFrom_16 (by decide) ?_
  refine go_istore_n C (lv' := [(0, .ref (b0)), (1, .ref (d0)), (2, .int 0)]) [1, 2, 0] dX1_copyFrom_17 rfl (by decide) rfl ?_
  exact wX1_copyFrom_18 C  300 _ _ _ _ _ hf
set_option maxRecDepth 20000 in
theorem con_X1_copyFrom (l : Launch) (K : KK) (b0 b1 b2 d0 d1 d2 : Nat) {l1 : Int32} {s1 : Int32} {w1 : Nat → Int32} {k1 : Nat → Int32} {l2 : Int32} {s2 : Int32} {w2 : Nat → Int32} {k2 : Nat → Int32} {z : Int32 × Int32 × (Nat → Int32) × (Nat → Int32)} (hf : fX1_copyFrom l1 s1 w1 k1 l2 s2 w2 k2 = some z) : Con l yX1_copyFrom wsX1_copyFrom 0 K [.ref (b0), .ref (d0)] (sW K b0 b1 b2 d0 d1 d2 l1 s1 w1 k1 l2 s2 w2 k2) none (sW K b0 b1 b2 d0 d1 d2 z.1 z.2.1 z.2.2.1 z.2.2.2 l2 s2 w2 k2) :=
  con_of (cc := cX1_copyFrom) (maxL := 3) (ret := none) (own := RX1) (lv0 := [(0, .ref (b0)), (1, .ref (d0))]) (by decide) rfl rfl (Nat.le_of_ble_eq_true rfl) rfl (fun p e s m args below meth c A C => go_lv (lv' := [(0, .ref (b0)), (1, .ref (d0))]) [0, 1] rfl (WX1_copyFrom_0 C hf))
set_option maxRecDepth 20000 in
theorem gX_copy_in {p : Program} {l : Launch} {e : Env} {s : State} {m : MethodId} {args : Array Value} {below : List Frame} {meth : Method} {c : Code} {K : KK} {A : Nat → Prop} {Q : State → Prop} {cc : ByteArray} {nL : Nat} {Ts : List Cond} {ret : Option FieldType} {pc : Nat} {lv : List (Nat × Value)} {st : List Value} {d : Nat} {α : Type} {kk : Int32 × Int32 × (Nat → Int32) × (Nat → Int32) → Option α} {y : α} {a : Nat → Nat} {len : Int32} {sz : Int32} {words : Nat → Int32} {checks : Nat → Int32} {cnt : Int32} {err : Nat → Int32} {vec : Nat → Int32} {bc : Int32} {pm : Nat → Nat} {sl : Nat → Int32} {ss : Nat → Int32} {sw : Nat → Nat → Int32} {sc : Nat → Nat → Int32} {E : Nat} (C : Cx p s m args meth c K A cc nL RX2 Ts ret) (hG : GoodIn Ts wsX1_copyFrom) (h1 : Cond.initialized yX1_copyFrom.cls ∈ Ts) (h2 : Cond.instanceMethod yX1_copyFrom ∈ Ts) (h3 : Cond.selects RX1 yX1_copyFrom yX1_copyFrom ∈ Ts) (hd : decode cc pc = .ok (.invokevirtual 134, 3)) (hdd : 0 < d) (hro : (st.map fun v => v.category).sum ≤ 8) (hf : ckP E ((fX1_copyFrom (sl E) (ss E) (sw E) (sc E) len sz words checks).bind kk) = some y) (k : ∀ v, kk v = some y → Go p l e (RM d) s m args below meth c K A nL 0 0 Q (xW K a len sz words checks cnt err vec bc pm (upd sl E v.1) (upd ss E v.2.1) (va_up sw E v.2.2.1) (va_up sc E v.2.2.2)) (pc + 3) lv st) : Go p l e (RM d) s m args below meth c K A nL 0 0 Q (xW K a len sz words checks cnt err vec bc pm sl ss sw sc) pc lv (.ref (a 1) :: .ref (a (8 + 3 * E)) :: st) := by
  obtain ⟨hE, hf⟩ := ckP_some hf
  obtain ⟨v, hv, hf⟩ := bd_some hf
  have k := k v hf
  rcases (show E = 0 ∨ E = 1 ∨ E = 2 ∨ E = 3 by omega) with rfl | rfl | rfl | rfl
  · refine go_perm (ws' := sW K (a 8) (a 9) (a 10) (a 1) (a 5) (a 6) (sl 0) (ss 0) (sw 0) (sc 0) len sz words checks ++ [0, 2, 3, 4, 7, 11, 12, 13, 14, 15, 16, 17, 18, 19].filterMap (fun i => (xW K a len sz words checks cnt err vec bc pm sl ss sw sc)[i]?)) [8, 9, 10, 1, 5, 6, 0, 2, 3, 4, 7, 11, 12, 13, 14, 15, 16, 17, 18, 19] (by decide) rfl rfl ?_
    refine go_callN_l (ry := none) (n := 1) (b := a 8) (As := [.ref (a 1)]) (rest := st) C (con_X1_copyFrom l K (a 8) (a 9) (a 10) (a 1) (a 5) (a 6) hv) hG C.2.2.1.2.2.2.2.2.2.2.2.2 h1 h2 h3 (by decide) rfl ⟨Nat.succ_le_of_lt hdd, by show 8 + (3 + 11) + 40 * 0 ≤ 40 * d; omega⟩ ⟨Nat.le_refl _, Nat.le_refl _⟩ ⟨0, 1, _, _, rfl, rfl, rfl⟩ rfl rfl hro hd ?_
    exact go_perm (ws' := (xW K a len sz words checks cnt err vec bc pm (upd sl 0 v.1) (upd ss 0 v.2.1) (va_up sw 0 v.2.2.1) (va_up sc 0 v.2.2.2))) [6, 3, 7, 8, 9, 4, 5, 10, 0, 1, 2, 11, 12, 13, 14, 15, 16, 17, 18, 19] (by decide) rfl rfl k
  · refine go_perm (ws' := sW K (a 11) (a 12) (a 13) (a 1) (a 5) (a 6) (sl 1) (ss 1) (sw 1) (sc 1) len sz words checks ++ [0, 2, 3, 4, 7, 8, 9, 10, 14, 15, 16, 17, 18, 19].filterMap (fun i => (xW K a len sz words checks cnt err vec bc pm sl ss sw sc)[i]?)) [11, 12, 13, 1, 5, 6, 0, 2, 3, 4, 7, 8, 9, 10, 14, 15, 16, 17, 18, 19] (by decide) rfl rfl ?_
    refine go_callN_l (ry := none) (n := 1) (b := a 11) (As := [.ref (a 1)]) (rest := st) C (con_X1_copyFrom l K (a 11) (a 12) (a 13) (a 1) (a 5) (a 6) hv) hG C.2.2.1.2.2.2.2.2.2.2.2.2 h1 h2 h3 (by decide) rfl ⟨Nat.succ_le_of_lt hdd, by show 8 + (3 + 11) + 40 * 0 ≤ 40 * d; omega⟩ ⟨Nat.le_refl _, Nat.le_refl _⟩ ⟨0, 1, _, _, rfl, rfl, rfl⟩ rfl rfl hro hd ?_
    exact go_perm (ws' := (xW K a len sz words checks cnt err vec bc pm (upd sl 1 v.1) (upd ss 1 v.2.1) (va_up sw 1 v.2.2.1) (va_up sc 1 v.2.2.2))) [6, 3, 7, 8, 9, 4, 5, 10, 11, 12, 13, 0, 1, 2, 14, 15, 16, 17, 18, 19] (by decide) rfl rfl k
  · refine go_perm (ws' := sW K (a 14) (a 15) (a 16) (a 1) (a 5) (a 6) (sl 2) (ss 2) (sw 2) (sc 2) len sz words checks ++ [0, 2, 3, 4, 7, 8, 9, 10, 11, 12, 13, 17, 18, 19].filterMap (fun i => (xW K a len sz words checks cnt err vec bc pm sl ss sw sc)[i]?)) [14, 15, 16, 1, 5, 6, 0, 2, 3, 4, 7, 8, 9, 10, 11, 12, 13, 17, 18, 19] (by decide) rfl rfl ?_
    refine go_callN_l (ry := none) (n := 1) (b := a 14) (As := [.ref (a 1)]) (rest := st) C (con_X1_copyFrom l K (a 14) (a 15) (a 16) (a 1) (a 5) (a 6) hv) hG C.2.2.1.2.2.2.2.2.2.2.2.2 h1 h2 h3 (by decide) rfl ⟨Nat.succ_le_of_lt hdd, by show 8 + (3 + 11) + 40 * 0 ≤ 40 * d; omega⟩ ⟨Nat.le_refl _, Nat.le_refl _⟩ ⟨0, 1, _, _, rfl, rfl, rfl⟩ rfl rfl hro hd ?_
    exact go_perm (ws' := (xW K a len sz words checks cnt err vec bc pm (upd sl 2 v.1) (upd ss 2 v.2.1) (va_up sw 2 v.2.2.1) (va_up sc 2 v.2.2.2))) [6, 3, 7, 8, 9, 4, 5, 10, 11, 12, 13, 14, 15, 16, 0, 1, 2, 17, 18, 19] (by decide) rfl rfl k
  · refine go_perm (ws' := sW K (a 17) (a 18) (a 19) (a 1) (a 5) (a 6) (sl 3) (ss 3) (sw 3) (sc 3) len sz words checks ++ [0, 2, 3, 4, 7, 8, 9, 10, 11, 12, 13, 14, 15, 16].filterMap (fun i => (xW K a len sz words checks cnt err vec bc pm sl ss sw sc)[i]?)) [17, 18, 19, 1, 5, 6, 0, 2, 3, 4, 7, 8, 9, 10, 11, 12, 13, 14, 15, 16] (by decide) rfl rfl ?_
    refine go_callN_l (ry := none) (n := 1) (b := a 17) (As := [.ref (a 1)]) (rest := st) C (con_X1_copyFrom l K (a 17) (a 18) (a 19) (a 1) (a 5) (a 6) hv) hG C.2.2.1.2.2.2.2.2.2.2.2.2 h1 h2 h3 (by decide) rfl ⟨Nat.succ_le_of_lt hdd, by show 8 + (3 + 11) + 40 * 0 ≤ 40 * d; omega⟩ ⟨Nat.le_refl _, Nat.le_refl _⟩ ⟨0, 1, _, _, rfl, rfl, rfl⟩ rfl rfl hro hd ?_
    exact go_perm (ws' := (xW K a len sz words checks cnt err vec bc pm (upd sl 3 v.1) (upd ss 3 v.2.1) (va_up sw 3 v.2.2.1) (va_up sc 3 v.2.2.2))) [6, 3, 7, 8, 9, 4, 5, 10, 11, 12, 13, 14, 15, 16, 17, 18, 19, 0, 1, 2] (by decide) rfl rfl k
set_option maxRecDepth 20000 in
theorem gX_copy_out {p : Program} {l : Launch} {e : Env} {s : State} {m : MethodId} {args : Array Value} {below : List Frame} {meth : Method} {c : Code} {K : KK} {A : Nat → Prop} {Q : State → Prop} {cc : ByteArray} {nL : Nat} {Ts : List Cond} {ret : Option FieldType} {pc : Nat} {lv : List (Nat × Value)} {st : List Value} {d : Nat} {α : Type} {kk : Int32 × Int32 × (Nat → Int32) × (Nat → Int32) → Option α} {y : α} {a : Nat → Nat} {len : Int32} {sz : Int32} {words : Nat → Int32} {checks : Nat → Int32} {cnt : Int32} {err : Nat → Int32} {vec : Nat → Int32} {bc : Int32} {pm : Nat → Nat} {sl : Nat → Int32} {ss : Nat → Int32} {sw : Nat → Nat → Int32} {sc : Nat → Nat → Int32} {E : Nat} (C : Cx p s m args meth c K A cc nL RX2 Ts ret) (hG : GoodIn Ts wsX1_copyFrom) (h1 : Cond.initialized yX1_copyFrom.cls ∈ Ts) (h2 : Cond.instanceMethod yX1_copyFrom ∈ Ts) (h3 : Cond.selects RX1 yX1_copyFrom yX1_copyFrom ∈ Ts) (hd : decode cc pc = .ok (.invokevirtual 134, 3)) (hdd : 0 < d) (hro : (st.map fun v => v.category).sum ≤ 8) (hf : ckP E ((fX1_copyFrom len sz words checks (sl E) (ss E) (sw E) (sc E)).bind kk) = some y) (k : ∀ v, kk v = some y → Go p l e (RM d) s m args below meth c K A nL 0 0 Q (xW K a v.1 v.2.1 v.2.2.1 v.2.2.2 cnt err vec bc pm sl ss sw sc) (pc + 3) lv st) : Go p l e (RM d) s m args below meth c K A nL 0 0 Q (xW K a len sz words checks cnt err vec bc pm sl ss sw sc) pc lv (.ref (a (8 + 3 * E)) :: .ref (a 1) :: st) := by
  obtain ⟨hE, hf⟩ := ckP_some hf
  obtain ⟨v, hv, hf⟩ := bd_some hf
  have k := k v hf
  rcases (show E = 0 ∨ E = 1 ∨ E = 2 ∨ E = 3 by omega) with rfl | rfl | rfl | rfl
  · refine go_perm (ws' := sW K (a 1) (a 5) (a 6) (a 8) (a 9) (a 10) len sz words checks (sl 0) (ss 0) (sw 0) (sc 0) ++ [0, 2, 3, 4, 7, 11, 12, 13, 14, 15, 16, 17, 18, 19].filterMap (fun i => (xW K a len sz words checks cnt err vec bc pm sl ss sw sc)[i]?)) [1, 5, 6, 8, 9, 10, 0, 2, 3, 4, 7, 11, 12, 13, 14, 15, 16, 17, 18, 19] (by decide) rfl rfl ?_
    refine go_callN_l (ry := none) (n := 1) (b := a 1) (As := [.ref (a 8)]) (rest := st) C (con_X1_copyFrom l K (a 1) (a 5) (a 6) (a 8) (a 9) (a 10) hv) hG C.2.2.1.2.2.2.2.2.2.2.2.2 h1 h2 h3 (by decide) rfl ⟨Nat.succ_le_of_lt hdd, by show 8 + (3 + 11) + 40 * 0 ≤ 40 * d; omega⟩ ⟨Nat.le_refl _, Nat.le_refl _⟩ ⟨0, 1, _, _, rfl, rfl, rfl⟩ rfl rfl hro hd ?_
    exact go_perm (ws' := (xW K a v.1 v.2.1 v.2.2.1 v.2.2.2 cnt err vec bc pm sl ss sw sc)) [6, 0, 7, 8, 9, 1, 2, 10, 3, 4, 5, 11, 12, 13, 14, 15, 16, 17, 18, 19] (by decide) rfl rfl k
  · refine go_perm (ws' := sW K (a 1) (a 5) (a 6) (a 11) (a 12) (a 13) len sz words checks (sl 1) (ss 1) (sw 1) (sc 1) ++ [0, 2, 3, 4, 7, 8, 9, 10, 14, 15, 16, 17, 18, 19].filterMap (fun i => (xW K a len sz words checks cnt err vec bc pm sl ss sw sc)[i]?)) [1, 5, 6, 11, 12, 13, 0, 2, 3, 4, 7, 8, 9, 10, 14, 15, 16, 17, 18, 19] (by decide) rfl rfl ?_
    refine go_callN_l (ry := none) (n := 1) (b := a 1) (As := [.ref (a 11)]) (rest := st) C (con_X1_copyFrom l K (a 1) (a 5) (a 6) (a 11) (a 12) (a 13) hv) hG C.2.2.1.2.2.2.2.2.2.2.2.2 h1 h2 h3 (by decide) rfl ⟨Nat.succ_le_of_lt hdd, by show 8 + (3 + 11) + 40 * 0 ≤ 40 * d; omega⟩ ⟨Nat.le_refl _, Nat.le_refl _⟩ ⟨0, 1, _, _, rfl, rfl, rfl⟩ rfl rfl hro hd ?_
    exact go_perm (ws' := (xW K a v.1 v.2.1 v.2.2.1 v.2.2.2 cnt err vec bc pm sl ss sw sc)) [6, 0, 7, 8, 9, 1, 2, 10, 11, 12, 13, 3, 4, 5, 14, 15, 16, 17, 18, 19] (by decide) rfl rfl k
  · refine go_perm (ws' := sW K (a 1) (a 5) (a 6) (a 14) (a 15) (a 16) len sz words checks (sl 2) (ss 2) (sw 2) (sc 2) ++ [0, 2, 3, 4, 7, 8, 9, 10, 11, 12, 13, 17, 18, 19].filterMap (fun i => (xW K a len sz words checks cnt err vec bc pm sl ss sw sc)[i]?)) [1, 5, 6, 14, 15, 16, 0, 2, 3, 4, 7, 8, 9, 10, 11, 12, 13, 17, 18, 19] (by decide) rfl rfl ?_
    refine go_callN_l (ry := none) (n := 1) (b := a 1) (As := [.ref (a 14)]) (rest := st) C (con_X1_copyFrom l K (a 1) (a 5) (a 6) (a 14) (a 15) (a 16) hv) hG C.2.2.1.2.2.2.2.2.2.2.2.2 h1 h2 h3 (by decide) rfl ⟨Nat.succ_le_of_lt hdd, by show 8 + (3 + 11) + 40 * 0 ≤ 40 * d; omega⟩ ⟨Nat.le_refl _, Nat.le_refl _⟩ ⟨0, 1, _, _, rfl, rfl, rfl⟩ rfl rfl hro hd ?_
    exact go_perm (ws' := (xW K a v.1 v.2.1 v.2.2.1 v.2.2.2 cnt err vec bc pm sl ss sw sc)) [6, 0, 7, 8, 9, 1, 2, 10, 11, 12, 13, 14, 15, 16, 3, 4, 5, 17, 18, 19] (by decide) rfl rfl k
  · refine go_perm (ws' := sW K (a 1) (a 5) (a 6) (a 17) (a 18) (a 19) len sz words checks (sl 3) (ss 3) (sw 3) (sc 3) ++ [0, 2, 3, 4, 7, 8, 9, 10, 11, 12, 13, 14, 15, 16].filterMap (fun i => (xW K a len sz words checks cnt err vec bc pm sl ss sw sc)[i]?)) [1, 5, 6, 17, 18, 19, 0, 2, 3, 4, 7, 8, 9, 10, 11, 12, 13, 14, 15, 16] (by decide) rfl rfl ?_
    refine go_callN_l (ry := none) (n := 1) (b := a 1) (As := [.ref (a 17)]) (rest := st) C (con_X1_copyFrom l K (a 1) (a 5) (a 6) (a 17) (a 18) (a 19) hv) hG C.2.2.1.2.2.2.2.2.2.2.2.2 h1 h2 h3 (by decide) rfl ⟨Nat.succ_le_of_lt hdd, by show 8 + (3 + 11) + 40 * 0 ≤ 40 * d; omega⟩ ⟨Nat.le_refl _, Nat.le_refl _⟩ ⟨0, 1, _, _, rfl, rfl, rfl⟩ rfl rfl hro hd ?_
    exact go_perm (ws' := (xW K a v.1 v.2.1 v.2.2.1 v.2.2.2 cnt err vec bc pm sl ss sw sc)) [6, 0, 7, 8, 9, 1, 2, 10, 11, 12, 13, 14, 15, 16, 17, 18, 19, 3, 4, 5] (by decide) rfl rfl k
-- X2_fail
theorem iX2_fail_2 : ∀ w ∈ wsX20, w ∈ wsX2_fail := by decide +kernel
theorem kX2_fail_24 : Cond.fieldLink RX2 24 "CosetCoder" "errors" "[I" ∈ wsX2_fail := by decide +kernel
set_option maxRecDepth 20000 in
set_option maxHeartbeats 2000000 in
theorem WX2_fail_24 {p : Program} {l : Launch} {e : Env} {s : State} {m : MethodId} {args : Array Value} {below : List Frame} {meth : Method} {c : Code} {K : KK} {A : Nat → Prop} {a : Nat → Nat} (C : Cx p s m args meth c K A cX2_fail 3 RX2 wsX2_fail (some .int)) {z : Int32 × (Nat → Int32)} {len : Int32} {sz : Int32} {words : Nat → Int32} {checks : Nat → Int32} {cnt : Int32} {vec : Nat → Int32} {bc : Int32} {pm : Nat → Nat} {sl : Nat → Int32} {ss : Nat → Int32} {sw : Nat → Nat → Int32} {sc : Nat → Nat → Int32} {err : Nat → Int32} {x1 : Int32} (hf : FX2_fail_24   err x1 = some z) : Go p l e (RM 0) s m args below meth c K A 3 0 0 (MQ below (QR K (some (.int z.1)) (xW K a len sz words checks cnt z.2 vec bc pm sl ss sw sc) A) args s 0 0 A) (xW K a len sz words checks cnt err vec bc pm sl ss sw sc) 24 [(1, .int x1)] [] := by
  unfold FX2_fail_24 at hf
  refine go_iload_n C 0 dX2_fail_24 rfl rfl ?_
  cases hf
  exact go_iret C dX2_fail_25
set_option maxRecDepth 20000 in
set_option maxHeartbeats 2000000 in
theorem WX2_fail_0 {p : Program} {l : Launch} {e : Env} {s : State} {m : MethodId} {args : Array Value} {below : List Frame} {meth : Method} {c : Code} {K : KK} {A : Nat → Prop} {a : Nat → Nat} (C : Cx p s m args meth c K A cX2_fail 3 RX2 wsX2_fail (some .int)) {z : Int32 × (Nat → Int32)} {len : Int32} {sz : Int32} {words : Nat → Int32} {checks : Nat → Int32} {cnt : Int32} {vec : Nat → Int32} {bc : Int32} {pm : Nat → Nat} {sl : Nat → Int32} {ss : Nat → Int32} {sw : Nat → Nat → Int32} {sc : Nat → Nat → Int32} {err : Nat → Int32} {x1 : Int32} (hf : FX2_fail_0   err x1 = some z) : Go p l e (RM 0) s m args below meth c K A 3 0 0 (MQ below (QR K (some (.int z.1)) (xW K a len sz words checks cnt z.2 vec bc pm sl ss sw sc) A) args s 0 0 A) (xW K a len sz words checks cnt err vec bc pm sl ss sw sc) 0 [(0, .ref (a 0)), (1, .int x1)] [] := by
  unfold FX2_fail_0 at hf
  refine go_bipush (v := (-2)) C dX2_fail_0 (by decide) ?_
  refine go_iload_n C 1 dX2_fail_2 rfl rfl ?_
  refine go_isub C dX2_fail_3 ?_
  refine go_istore_n C (lv' := [(0, .ref (a 0)), (1, .int x1), (2, .int ((-2) - x1))]) [1, 2, 0] dX2_fail_4 rfl (by decide) rfl ?_
  refine go_iload_n C 2 dX2_fail_5 rfl rfl ?_
  refine go_c1_lt C (tgt := 24) dX2_fail_6 (by decide) hf (fun h hf => ?_) (fun h hf => ?_)
  · refine go_lv (lv' := [(1, .int x1)]) [1] rfl ?_
    exact WX2_fail_24 C  hf
  · refine go_iload_n C 2 dX2_fail_9 rfl rfl ?_
    refine go_iconst (v := 5) C dX2_fail_10 (by decide) ?_
    refine go_c2_ge C (tgt := 24) dX2_fail_11 (by decide) hf (fun h hf => ?_) (fun h hf => ?_)
    · refine go_lv (lv' := [(1, .int x1)]) [1] rfl ?_
      exact WX2_fail_24 C  hf
    · refine go_aload_n C 0 dX2_fail_14 rfl rfl ?_
      refine gX_get_errors C iX2_fail_2 kX2_fail_24 dX2_fail_15 ?_
      refine go_iload_n C 2 dX2_fail_18 rfl rfl ?_
      refine go_dup2 C dX2_fail_19 rfl rfl ?_
      refine gX_rd_err C dX2_fail_20 hf (fun v1 hf => ?_)
      refine go_iconst (v := 1) C dX2_fail_21 (by decide) ?_
      refine go_iadd C dX2_fail_22 ?_
      refine gX_wr_err C dX2_fail_23 hf (fun g2 hf => ?_)
      refine go_lv (lv' := [(1, .int x1)]) [1] rfl ?_
      exact WX2_fail_24 C  hf
set_option maxRecDepth 20000 in
theorem con_X2_fail (l : Launch) (K : KK) (a : Nat → Nat) {len : Int32} {sz : Int32} {words : Nat → Int32} {checks : Nat → Int32} {cnt : Int32} {err : Nat → Int32} {vec : Nat → Int32} {bc : Int32} {pm : Nat → Nat} {sl : Nat → Int32} {ss : Nat → Int32} {sw : Nat → Nat → Int32} {sc : Nat → Nat → Int32} {x1 : Int32} {z : Int32 × (Nat → Int32)} (hf : fX2_fail err x1 = some z) : Con l yX2_fail wsX2_fail 0 K [.ref (a 0), .int x1] (xW K a len sz words checks cnt err vec bc pm sl ss sw sc) (some (.int z.1)) (xW K a len sz words checks cnt z.2 vec bc pm sl ss sw sc) :=
  con_of (cc := cX2_fail) (maxL := 3) (ret := (some .int)) (own := RX2) (lv0 := [(0, .ref (a 0)), (1, .int x1)]) (by decide) rfl rfl (Nat.le_of_ble_eq_true rfl) rfl (fun p e s m args below meth c A C => go_lv (lv' := [(0, .ref (a 0)), (1, .int x1)]) [0, 1] rfl (WX2_fail_0 C hf))
set_option maxRecDepth 20000 in
theorem call_X2_fail {p : Program} {l : Launch} {e : Env} {s : State} {m : MethodId} {args : Array Value} {below : List Frame} {meth : Method} {c : Code} {K : KK} {A : Nat → Prop} {Q : State → Prop} {cc : ByteArray} {nL : Nat} {Ts : List Cond} {ret : Option FieldType} {pc : Nat} {lv : List (Nat × Value)} {st : List Value} {ix d : Nat} {α : Type} {kk : Int32 × (Nat → Int32) → Option α} {y : α} {a : Nat → Nat} {len : Int32} {sz : Int32} {words : Nat → Int32} {checks : Nat → Int32} {cnt : Int32} {err : Nat → Int32} {vec : Nat → Int32} {bc : Int32} {pm : Nat → Nat} {sl : Nat → Int32} {ss : Nat → Int32} {sw : Nat → Nat → Int32} {sc : Nat → Nat → Int32} {q0 : Int32} (C : Cx p s m args meth c K A cc nL RX2 Ts ret) (hG : GoodIn Ts (wsV RX2 ix RX2 yX2_fail wsX2_fail)) (hd : decode cc pc = .ok (.invokevirtual ix, 3)) (hdd : 0 < d) (hro : (st.map fun v => v.category).sum ≤ 8) (hf : (fX2_fail err q0).bind kk = some y) (k : ∀ v, kk v = some y → Go p l e (RM d) s m args below meth c K A nL 0 0 Q (xW K a len sz words checks cnt v.2 vec bc pm sl ss sw sc) (pc + 3) lv (.int (v.1) :: st)) : Go p l e (RM d) s m args below meth c K A nL 0 0 Q (xW K a len sz words checks cnt err vec bc pm sl ss sw sc) pc lv (.int q0 :: .ref (a 0) :: st) := by
  obtain ⟨v, hv, hf⟩ := bd_some hf
  exact go_callV_full (ry := (some .int)) (n := 1) (b := a 0) (As := [.int q0]) (rest := st) C (con_X2_fail l K a hv) hG (by decide) rfl ⟨Nat.succ_le_of_lt hdd, by show 8 + (3 + 11) + 40 * 0 ≤ 40 * d; omega⟩ ⟨Nat.le_refl _, Nat.le_refl _⟩ ⟨0, 2, _, _, rfl, rfl, rfl⟩ rfl rfl hro hd (k v hf)
-- X2_dropOldest
theorem iX2_dropOldest_2 : ∀ w ∈ wsX20, w ∈ wsX2_dropOldest := by decide +kernel
theorem kX2_dropOldest_16 : Cond.fieldLink RX2 16 "CosetCoder" "saved" "[LCosetCoder$State;" ∈ wsX2_dropOldest := by decide +kernel
theorem kX2_dropOldest_20 : Cond.fieldLink RX2 20 "CosetCoder" "savedCount" "I" ∈ wsX2_dropOldest := by decide +kernel
set_option maxRecDepth 20000 in
set_option maxHeartbeats 2000000 in
theorem WX2_dropOldest_9 {p : Program} {l : Launch} {e : Env} {s : State} {m : MethodId} {args : Array Value} {below : List Frame} {meth : Method} {c : Code} {K : KK} {A : Nat → Prop} {a : Nat → Nat} (C : Cx p s m args meth c K A cX2_dropOldest 3 RX2 wsX2_dropOldest none) {z : Int32 × (Nat → Nat)} {len : Int32} {sz : Int32} {words : Nat → Int32} {checks : Nat → Int32} {err : Nat → Int32} {vec : Nat → Int32} {bc : Int32} {sl : Nat → Int32} {ss : Nat → Int32} {sw : Nat → Nat → Int32} {sc : Nat → Nat → Int32} {r9 : (Int32) → (Nat → Nat) → Nat → Int32 → Option (Int32 × (Nat → Nat))} {cnt : Int32} {pm : Nat → Nat} {x1 : Nat} {x2 : Int32} (hr9 : ∀ (cnt : Int32) (pm : Nat → Nat) (x1 : Nat) (x2 : Int32), r9 cnt pm x1 x2 = some z → Go p l e (RM 0) s m args below meth c K A 3 0 0 (MQ below (QR K none (xW K a len sz words checks z.1 err vec bc z.2 sl ss sw sc) A) args s 0 0 A) (xW K a len sz words checks cnt err vec bc pm sl ss sw sc) 9 [(0, .ref (a 0)), (1, .ref (a (8 + 3 * x1))), (2, .int x2)] []) (hf : FX2_dropOldest_9  r9 cnt pm x1 x2 = some z) : Go p l e (RM 0) s m args below meth c K A 3 0 0 (MQ below (QR K none (xW K a len sz words checks z.1 err vec bc z.2 sl ss sw sc) A) args s 0 0 A) (xW K a len sz words checks cnt err vec bc pm sl ss sw sc) 9 [(0, .ref (a 0)), (1, .ref (a (8 + 3 * x1))), (2, .int x2)] [] := by
  unfold FX2_dropOldest_9 at hf
  refine go_iload_n C 2 dX2_dropOldest_9 rfl rfl ?_
  refine go_iconst (v := 4) C dX2_dropOldest_10 (by decide) ?_
  refine go_c2_ge C (tgt := 34) dX2_dropOldest_11 (by decide) hf (fun h hf => ?_) (fun h hf => ?_)
  · refine go_aload_n C 0 dX2_dropOldest_34 rfl rfl ?_
    refine gX_get_saved C iX2_dropOldest_2 kX2_dropOldest_16 dX2_dropOldest_35 ?_
    refine go_iconst (v := 3) C dX2_dropOldest_38 (by decide) ?_
    refine go_aload_n C 1 dX2_dropOldest_39 rfl rfl ?_
    refine gX_wr_pm C dX2_dropOldest_40 hf (fun g1 hf => ?_)
    refine go_aload_n C 0 dX2_dropOldest_41 rfl rfl ?_
    refine go_iconst (v := 3) C dX2_dropOldest_42 (by decide) ?_
    refine gX_put_savedCount C iX2_dropOldest_2 kX2_dropOldest_20 dX2_dropOldest_43 ?_
    cases hf
    exact go_vret C dX2_dropOldest_46
  · refine go_aload_n C 0 dX2_dropOldest_14 rfl rfl ?_
    refine gX_get_saved C iX2_dropOldest_2 kX2_dropOldest_16 dX2_dropOldest_15 ?_
    refine go_iload_n C 2 dX2_dropOldest_18 rfl rfl ?_
    refine go_iconst (v := 1) C dX2_dropOldest_19 (by decide) ?_
    refine go_isub C dX2_dropOldest_20 ?_
    refine go_aload_n C 0 dX2_dropOldest_21 rfl rfl ?_
    refine gX_get_saved C iX2_dropOldest_2 kX2_dropOldest_16 dX2_dropOldest_22 ?_
    refine go_iload_n C 2 dX2_dropOldest_25 rfl rfl ?_
    refine gX_rd_pm C dX2_dropOldest_26 hf (fun v2 hf => ?_)
    refine gX_wr_pm C dX2_dropOldest_27 hf (fun g3 hf => ?_)
    refine go_iinc C (v := x2 + 1) (lv' := [(0, .ref (a 0)), (1, .ref (a (8 + 3 * x1))), (2, .int (x2 + 1))]) 2 [1, 2, 0] dX2_dropOldest_28 rfl rfl (by decide) rfl ?_
    refine go_goto C (tgt := 9) dX2_dropOldest_31 (by decide) ?_
    exact hr9 _ _ _ _ hf
theorem wX2_dropOldest_9 {p : Program} {l : Launch} {e : Env} {s : State} {m : MethodId} {args : Array Value} {below : List Frame} {meth : Method} {c : Code} {K : KK} {A : Nat → Prop} {a : Nat → Nat} (C : Cx p s m args meth c K A cX2_dropOldest 3 RX2 wsX2_dropOldest none) {z : Int32 × (Nat → Nat)} {len : Int32} {sz : Int32} {words : Nat → Int32} {checks : Nat → Int32} {err : Nat → Int32} {vec : Nat → Int32} {bc : Int32} {sl : Nat → Int32} {ss : Nat → Int32} {sw : Nat → Nat → Int32} {sc : Nat → Nat → Int32} : ∀ (n : Nat) (cnt : Int32) (pm : Nat → Nat) (x1 : Nat) (x2 : Int32), fX2_dropOldest_9   n cnt pm x1 x2 = some z → Go p l e (RM 0) s m args below meth c K A 3 0 0 (MQ below (QR K none (xW K a len sz words checks z.1 err vec bc z.2 sl ss sw sc) A) args s 0 0 A) (xW K a len sz words checks cnt err vec bc pm sl ss sw sc) 9 [(0, .ref (a 0)), (1, .ref (a (8 + 3 * x1))), (2, .int x2)] [] := by
  intro n
  induction n with
  | zero => intro _ _ _ _ hf; cases hf
  | succ n ih => intro _ _ _ _ hf; exact WX2_dropOldest_9 C  ih hf
set_option maxRecDepth 20000 in
set_option maxHeartbeats 2000000 in
theorem WX2_dropOldest_0 {p : Program} {l : Launch} {e : Env} {s : State} {m : MethodId} {args : Array Value} {below : List Frame} {meth : Method} {c : Code} {K : KK} {A : Nat → Prop} {a : Nat → Nat} (C : Cx p s m args meth c K A cX2_dropOldest 3 RX2 wsX2_dropOldest none) {z : Int32 × (Nat → Nat)} {len : Int32} {sz : Int32} {words : Nat → Int32} {checks : Nat → Int32} {err : Nat → Int32} {vec : Nat → Int32} {bc : Int32} {sl : Nat → Int32} {ss : Nat → Int32} {sw : Nat → Nat → Int32} {sc : Nat → Nat → Int32} {cnt : Int32} {pm : Nat → Nat} (hf : FX2_dropOldest_0   cnt pm = some z) : Go p l e (RM 0) s m args below meth c K A 3 0 0 (MQ below (QR K none (xW K a len sz words checks z.1 err vec bc z.2 sl ss sw sc) A) args s 0 0 A) (xW K a len sz words checks cnt err vec bc pm sl ss sw sc) 0 [(0, .ref (a 0))] [] := by
  unfold FX2_dropOldest_0 at hf
  refine go_aload_n C 0 dX2_dropOldest_0 rfl rfl ?_
  refine gX_get_saved C iX2_dropOldest_2 kX2_dropOldest_16 dX2_dropOldest_1 ?_
  refine go_iconst (v := 0) C dX2_dropOldest_4 (by decide) ?_
  refine gX_rd_pm C dX2_dropOldest_5 hf (fun v4 hf => ?_)
  refine go_astore_n C (lv' := [(0, .ref (a 0)), (1, .ref (a (8 + 3 * v4)))]) [1, 0] dX2_dropOldest_6 rfl (by decide) rfl ?_
  refine go_iconst (v := 1) C dX2_dropOldest_7 (by decide) ?_
  refine go_istore_n C (lv' := [(0, .ref (a 0)), (1, .ref (a (8 + 3 * v4))), (2, .int 1)]) [1, 2, 0] dX2_dropOldest_8 rfl (by decide) rfl ?_
  exact wX2_dropOldest_9 C  300 _ _ _ _ hf
set_option maxRecDepth 20000 in
theorem con_X2_dropOldest (l : Launch) (K : KK) (a : Nat → Nat) {len : Int32} {sz : Int32} {words : Nat → Int32} {checks : Nat → Int32} {cnt : Int32} {err : Nat → Int32} {vec : Nat → Int32} {bc : Int32} {pm : Nat → Nat} {sl : Nat → Int32} {ss : Nat → Int32} {sw : Nat → Nat → Int32} {sc : Nat → Nat → Int32} {z : Int32 × (Nat → Nat)} (hf : fX2_dropOldest cnt pm = some z) : Con l yX2_dropOldest wsX2_dropOldest 0 K [.ref (a 0)] (xW K a len sz words checks cnt err vec bc pm sl ss sw sc) none (xW K a len sz words checks z.1 err vec bc z.2 sl ss sw sc) :=
  con_of (cc := cX2_dropOldest) (maxL := 3) (ret := none) (own := RX2) (lv0 := [(0, .ref (a 0))]) (by decide) rfl rfl (Nat.le_of_ble_eq_true rfl) rfl (fun p e s m args below meth c A C => go_lv (lv' := [(0, .ref (a 0))]) [0] rfl (WX2_dropOldest_0 C hf))
set_option maxRecDepth 20000 in
theorem call_X2_dropOldest {p : Program} {l : Launch} {e : Env} {s : State} {m : MethodId} {args : Array Value} {below : List Frame} {meth : Method} {c : Code} {K : KK} {A : Nat → Prop} {Q : State → Prop} {cc : ByteArray} {nL : Nat} {Ts : List Cond} {ret : Option FieldType} {pc : Nat} {lv : List (Nat × Value)} {st : List Value} {ix d : Nat} {α : Type} {kk : Int32 × (Nat → Nat) → Option α} {y : α} {a : Nat → Nat} {len : Int32} {sz : Int32} {words : Nat → Int32} {checks : Nat → Int32} {cnt : Int32} {err : Nat → Int32} {vec : Nat → Int32} {bc : Int32} {pm : Nat → Nat} {sl : Nat → Int32} {ss : Nat → Int32} {sw : Nat → Nat → Int32} {sc : Nat → Nat → Int32} (C : Cx p s m args meth c K A cc nL RX2 Ts ret) (hG : GoodIn Ts (wsV RX2 ix RX2 yX2_dropOldest wsX2_dropOldest)) (hd : decode cc pc = .ok (.invokevirtual ix, 3)) (hdd : 0 < d) (hro : (st.map fun v => v.category).sum ≤ 8) (hf : (fX2_dropOldest cnt pm).bind kk = some y) (k : ∀ v, kk v = some y → Go p l e (RM d) s m args below meth c K A nL 0 0 Q (xW K a len sz words checks v.1 err vec bc v.2 sl ss sw sc) (pc + 3) lv (st)) : Go p l e (RM d) s m args below meth c K A nL 0 0 Q (xW K a len sz words checks cnt err vec bc pm sl ss sw sc) pc lv (.ref (a 0) :: st) := by
  obtain ⟨v, hv, hf⟩ := bd_some hf
  exact go_callV_full (ry := none) (n := 0) (b := a 0) (As := []) (rest := st) C (con_X2_dropOldest l K a hv) hG (by decide) rfl ⟨Nat.succ_le_of_lt hdd, by show 8 + (3 + 11) + 40 * 0 ≤ 40 * d; omega⟩ ⟨Nat.le_refl _, Nat.le_refl _⟩ ⟨0, 2, _, _, rfl, rfl, rfl⟩ rfl rfl hro hd (k v hf)
-- X2_saveState
theorem iX2_saveState_2 : ∀ w ∈ wsX20, w ∈ wsX2_saveState := by decide +kernel
theorem kX2_saveState_12 : Cond.fieldLink RX2 12 "CosetCoder" "state" "LCosetCoder$State;" ∈ wsX2_saveState := by decide +kernel
theorem kX2_saveState_16 : Cond.fieldLink RX2 16 "CosetCoder" "saved" "[LCosetCoder$State;" ∈ wsX2_saveState := by decide +kernel
theorem kX2_saveState_20 : Cond.fieldLink RX2 20 "CosetCoder" "savedCount" "I" ∈ wsX2_saveState := by decide +kernel
set_option maxRecDepth 20000 in
set_option maxHeartbeats 2000000 in
theorem WX2_saveState_12 {p : Program} {l : Launch} {e : Env} {s : State} {m : MethodId} {args : Array Value} {below : List Frame} {meth : Method} {c : Code} {K : KK} {A : Nat → Prop} {a : Nat → Nat} (C : Cx p s m args meth c K A cX2_saveState 1 RX2 wsX2_saveState none) {z : Int32 × (Nat → Nat) × (Nat → Int32) × (Nat → Int32) × (Nat → Nat → Int32) × (Nat → Nat → Int32)} {len : Int32} {sz : Int32} {words : Nat → Int32} {checks : Nat → Int32} {err : Nat → Int32} {vec : Nat → Int32} {bc : Int32} {cnt : Int32} {pm : Nat → Nat} {sl : Nat → Int32} {ss : Nat → Int32} {sw : Nat → Nat → Int32} {sc : Nat → Nat → Int32} (hf : FX2_saveState_12 len sz words checks  cnt pm sl ss sw sc = some z) : Go p l e (RM 1) s m args below meth c K A 1 0 0 (MQ below (QR K none (xW K a len sz words checks z.1 err vec bc z.2.1 z.2.2.1 z.2.2.2.1 z.2.2.2.2.1 z.2.2.2.2.2) A) args s 0 0 A) (xW K a len sz words checks cnt err vec bc pm sl ss sw sc) 12 [(0, .ref (a 0))] [] := by
  unfold FX2_saveState_12 at hf
  refine go_aload_n C 0 dX2_saveState_12 rfl rfl ?_
  refine gX_get_saved C iX2_saveState_2 kX2_saveState_16 dX2_saveState_13 ?_
  refine go_aload_n C 0 dX2_saveState_16 rfl rfl ?_
  refine gX_get_savedCount C iX2_saveState_2 kX2_saveState_20 dX2_saveState_17 ?_
  refine gX_rd_pm C dX2_saveState_20 hf (fun v1 hf => ?_)
  refine go_aload_n C 0 dX2_saveState_21 rfl rfl ?_
  refine gX_get_state C iX2_saveState_2 kX2_saveState_12 dX2_saveState_22 ?_
  refine gX_copy_in C gX2_saveState_X1_copyFrom_n134 (by decide +kernel) (by decide +kernel) (by decide +kernel) dX2_saveState_25 (by decide) (Nat.le_of_ble_eq_true rfl) hf (fun v2 hf => ?_)
  refine go_aload_n C 0 dX2_saveState_28 rfl rfl ?_
  refine go_dup C dX2_saveState_29 rfl ?_
  refine gX_get_savedCount C iX2_saveState_2 kX2_saveState_20 dX2_saveState_30 ?_
  refine go_iconst (v := 1) C dX2_saveState_33 (by decide) ?_
  refine go_iadd C dX2_saveState_34 ?_
  refine gX_put_savedCount C iX2_saveState_2 kX2_saveState_20 dX2_saveState_35 ?_
  cases hf
  exact go_vret C dX2_saveState_38
set_option maxRecDepth 20000 in
set_option maxHeartbeats 2000000 in
theorem WX2_saveState_0 {p : Program} {l : Launch} {e : Env} {s : State} {m : MethodId} {args : Array Value} {below : List Frame} {meth : Method} {c : Code} {K : KK} {A : Nat → Prop} {a : Nat → Nat} (C : Cx p s m args meth c K A cX2_saveState 1 RX2 wsX2_saveState none) {z : Int32 × (Nat → Nat) × (Nat → Int32) × (Nat → Int32) × (Nat → Nat → Int32) × (Nat → Nat → Int32)} {len : Int32} {sz : Int32} {words : Nat → Int32} {checks : Nat → Int32} {err : Nat → Int32} {vec : Nat → Int32} {bc : Int32} {cnt : Int32} {pm : Nat → Nat} {sl : Nat → Int32} {ss : Nat → Int32} {sw : Nat → Nat → Int32} {sc : Nat → Nat → Int32} (hf : FX2_saveState_0 len sz words checks  cnt pm sl ss sw sc = some z) : Go p l e (RM 1) s m args below meth c K A 1 0 0 (MQ below (QR K none (xW K a len sz words checks z.1 err vec bc z.2.1 z.2.2.1 z.2.2.2.1 z.2.2.2.2.1 z.2.2.2.2.2) A) args s 0 0 A) (xW K a len sz words checks cnt err vec bc pm sl ss sw sc) 0 [(0, .ref (a 0))] [] := by
  unfold FX2_saveState_0 at hf
  refine go_aload_n C 0 dX2_saveState_0 rfl rfl ?_
  refine gX_get_savedCount C iX2_saveState_2 kX2_saveState_20 dX2_saveState_1 ?_
  refine go_iconst (v := 4) C dX2_saveState_4 (by decide) ?_
  refine go_c2_lt C (tgt := 12) dX2_saveState_5 (by decide) hf (fun h hf => ?_) (fun h hf => ?_)
  · exact WX2_saveState_12 C  hf
  · refine go_aload_n C 0 dX2_saveState_8 rfl rfl ?_
    refine call_X2_dropOldest C gX2_saveState_X2_dropOldest dX2_saveState_9 (by decide) (Nat.le_of_ble_eq_true rfl) hf (fun v3 hf => ?_)
    exact WX2_saveState_12 C  hf
set_option maxRecDepth 20000 in
theorem con_X2_saveState (l : Launch) (K : KK) (a : Nat → Nat) {len : Int32} {sz : Int32} {words : Nat → Int32} {checks : Nat → Int32} {cnt : Int32} {err : Nat → Int32} {vec : Nat → Int32} {bc : Int32} {pm : Nat → Nat} {sl : Nat → Int32} {ss : Nat → Int32} {sw : Nat → Nat → Int32} {sc : Nat → Nat → Int32} {z : Int32 × (Nat → Nat) × (Nat → Int32) × (Nat → Int32) × (Nat → Nat → Int32) × (Nat → Nat → Int32)} (hf : fX2_saveState len sz words checks cnt pm sl ss sw sc = some z) : Con l yX2_saveState wsX2_saveState 1 K [.ref (a 0)] (xW K a len sz words checks cnt err vec bc pm sl ss sw sc) none (xW K a len sz words checks z.1 err vec bc z.2.1 z.2.2.1 z.2.2.2.1 z.2.2.2.2.1 z.2.2.2.2.2) :=
  con_of (cc := cX2_saveState) (maxL := 1) (ret := none) (own := RX2) (lv0 := [(0, .ref (a 0))]) (by decide) rfl rfl (Nat.le_of_ble_eq_true rfl) rfl (fun p e s m args below meth c A C => go_lv (lv' := [(0, .ref (a 0))]) [0] rfl (WX2_saveState_0 C hf))
set_option maxRecDepth 20000 in
theorem call_X2_saveState {p : Program} {l : Launch} {e : Env} {s : State} {m : MethodId} {args : Array Value} {below : List Frame} {meth : Method} {c : Code} {K : KK} {A : Nat → Prop} {Q : State → Prop} {cc : ByteArray} {nL : Nat} {Ts : List Cond} {ret : Option FieldType} {pc : Nat} {lv : List (Nat × Value)} {st : List Value} {ix d : Nat} {α : Type} {kk : Int32 × (Nat → Nat) × (Nat → Int32) × (Nat → Int32) × (Nat → Nat → Int32) × (Nat → Nat → Int32) → Option α} {y : α} {a : Nat → Nat} {len : Int32} {sz : Int32} {words : Nat → Int32} {checks : Nat → Int32} {cnt : Int32} {err : Nat → Int32} {vec : Nat → Int32} {bc : Int32} {pm : Nat → Nat} {sl : Nat → Int32} {ss : Nat → Int32} {sw : Nat → Nat → Int32} {sc : Nat → Nat → Int32} (C : Cx p s m args meth c K A cc nL RX2 Ts ret) (hG : GoodIn Ts (wsV RX2 ix RX2 yX2_saveState wsX2_saveState)) (hd : decode cc pc = .ok (.invokevirtual ix, 3)) (hdd : 1 < d) (hro : (st.map fun v => v.category).sum ≤ 8) (hf : (fX2_saveState len sz words checks cnt pm sl ss sw sc).bind kk = some y) (k : ∀ v, kk v = some y → Go p l e (RM d) s m args below meth c K A nL 0 0 Q (xW K a len sz words checks v.1 err vec bc v.2.1 v.2.2.1 v.2.2.2.1 v.2.2.2.2.1 v.2.2.2.2.2) (pc + 3) lv (st)) : Go p l e (RM d) s m args below meth c K A nL 0 0 Q (xW K a len sz words checks cnt err vec bc pm sl ss sw sc) pc lv (.ref (a 0) :: st) := by
  obtain ⟨v, hv, hf⟩ := bd_some hf
  exact go_callV_full (ry := none) (n := 0) (b := a 0) (As := []) (rest := st) C (con_X2_saveState l K a hv) hG (by decide) rfl ⟨Nat.succ_le_of_lt hdd, by show 8 + (1 + 11) + 40 * 1 ≤ 40 * d; omega⟩ ⟨Nat.le_refl _, Nat.le_refl _⟩ ⟨0, 2, _, _, rfl, rfl, rfl⟩ rfl rfl hro hd (k v hf)
-- X2_setLength
theorem iX2_setLength_1 : ∀ w ∈ wsX10, w ∈ wsX2_setLength := by decide +kernel
theorem iX2_setLength_2 : ∀ w ∈ wsX20, w ∈ wsX2_setLength := by decide +kernel
theorem kX2_setLength_12 : Cond.fieldLink RX2 12 "CosetCoder" "state" "LCosetCoder$State;" ∈ wsX2_setLength := by decide +kernel
set_option maxRecDepth 20000 in
set_option maxHeartbeats 2000000 in
theorem WX2_setLength_11 {p : Program} {l : Launch} {e : Env} {s : State} {m : MethodId} {args : Array Value} {below : List Frame} {meth : Method} {c : Code} {K : KK} {A : Nat → Prop} {a : Nat → Nat} (C : Cx p s m args meth c K A cX2_setLength 3 RX2 wsX2_setLength (some .int)) {z : Int32 × Int32 × Int32 × Int32 × (Nat → Int32) × (Nat → Nat) × (Nat → Int32) × (Nat → Int32) × (Nat → Nat → Int32) × (Nat → Nat → Int32)} {words : Nat → Int32} {checks : Nat → Int32} {vec : Nat → Int32} {bc : Int32} {len : Int32} {sz : Int32} {cnt : Int32} {err : Nat → Int32} {pm : Nat → Nat} {sl : Nat → Int32} {ss : Nat → Int32} {sw : Nat → Nat → Int32} {sc : Nat → Nat → Int32} (hf : FX2_setLength_11 words checks  len sz cnt err pm sl ss sw sc = some z) : Go p l e (RM 2) s m args below meth c K A 3 0 0 (MQ below (QR K (some (.int z.1)) (xW K a z.2.1 z.2.2.1 words checks z.2.2.2.1 z.2.2.2.2.1 vec bc z.2.2.2.2.2.1 z.2.2.2.2.2.2.1 z.2.2.2.2.2.2.2.1 z.2.2.2.2.2.2.2.2.1 z.2.2.2.2.2.2.2.2.2) A) args s 0 0 A) (xW K a len sz words checks cnt err vec bc pm sl ss sw sc) 11 [(0, .ref (a 0))] [] := by
  unfold FX2_setLength_11 at hf
  refine go_aload_n C 0 dX2_setLength_11 rfl rfl ?_
  refine go_bipush (v := (-2)) C dX2_setLength_12 (by decide) ?_
  refine call_X2_fail C gX2_setLength_X2_fail dX2_setLength_14 (by decide) (Nat.le_of_ble_eq_true rfl) hf (fun v1 hf => ?_)
  cases hf
  exact go_iret C dX2_setLength_17
set_option maxRecDepth 20000 in
set_option maxHeartbeats 2000000 in
theorem WX2_setLength_0 {p : Program} {l : Launch} {e : Env} {s : State} {m : MethodId} {args : Array Value} {below : List Frame} {meth : Method} {c : Code} {K : KK} {A : Nat → Prop} {a : Nat → Nat} (C : Cx p s m args meth c K A cX2_setLength 3 RX2 wsX2_setLength (some .int)) {z : Int32 × Int32 × Int32 × Int32 × (Nat → Int32) × (Nat → Nat) × (Nat → Int32) × (Nat → Int32) × (Nat → Nat → Int32) × (Nat → Nat → Int32)} {words : Nat → Int32} {checks : Nat → Int32} {vec : Nat → Int32} {bc : Int32} {len : Int32} {sz : Int32} {cnt : Int32} {err : Nat → Int32} {pm : Nat → Nat} {sl : Nat → Int32} {ss : Nat → Int32} {sw : Nat → Nat → Int32} {sc : Nat → Nat → Int32} {x1 : Int32} (hf : FX2_setLength_0 words checks  len sz cnt err pm sl ss sw sc x1 = some z) : Go p l e (RM 2) s m args below meth c K A 3 0 0 (MQ below (QR K (some (.int z.1)) (xW K a z.2.1 z.2.2.1 words checks z.2.2.2.1 z.2.2.2.2.1 vec bc z.2.2.2.2.2.1 z.2.2.2.2.2.2.1 z.2.2.2.2.2.2.2.1 z.2.2.2.2.2.2.2.2.1 z.2.2.2.2.2.2.2.2.2) A) args s 0 0 A) (xW K a len sz words checks cnt err vec bc pm sl ss sw sc) 0 [(0, .ref (a 0)), (1, .int x1)] [] := by
  unfold FX2_setLength_0 at hf
  refine go_iload_n C 1 dX2_setLength_0 rfl rfl ?_
  refine go_iconst (v := 1) C dX2_setLength_1 (by decide) ?_
  refine go_c2_lt C (tgt := 11) dX2_setLength_2 (by decide) hf (fun h hf => ?_) (fun h hf => ?_)
  · refine go_lv (lv' := [(0, .ref (a 0))]) [0] rfl ?_
    exact WX2_setLength_11 C  hf
  · refine go_iload_n C 1 dX2_setLength_5 rfl rfl ?_
    refine go_bipush (v := 8) C dX2_setLength_6 (by decide) ?_
    refine go_c2_le C (tgt := 18) dX2_setLength_8 (by decide) hf (fun h hf => ?_) (fun h hf => ?_)
    · refine go_aload_n C 0 dX2_setLength_18 rfl rfl ?_
      refine call_X2_saveState C gX2_setLength_X2_saveState dX2_setLength_19 (by decide) (Nat.le_of_ble_eq_true rfl) hf (fun v2 hf => ?_)
      refine go_aload_n C 0 dX2_setLength_22 rfl rfl ?_
      refine gX_get_state C iX2_setLength_2 kX2_setLength_12 dX2_setLength_23 ?_
      refine gX_get_n_length C iX2_setLength_1 dX2_setLength_26 ?_
      refine go_istore_n C (lv' := [(0, .ref (a 0)), (1, .int x1), (2, .int len)]) [1, 2, 0] dX2_setLength_29 rfl (by decide) rfl ?_
      refine go_aload_n C 0 dX2_setLength_30 rfl rfl ?_
      refine gX_get_state C iX2_setLength_2 kX2_setLength_12 dX2_setLength_31 ?_
      refine go_iload_n C 1 dX2_setLength_34 rfl rfl ?_
      refine gX_put_n_length C iX2_setLength_1 dX2_setLength_35 ?_
      refine go_aload_n C 0 dX2_setLength_38 rfl rfl ?_
      refine gX_get_state C iX2_setLength_2 kX2_setLength_12 dX2_setLength_39 ?_
      refine go_iconst (v := 0) C dX2_setLength_42 (by decide) ?_
      refine gX_put_n_size C iX2_setLength_1 dX2_setLength_43 ?_
      refine go_iload_n C 2 dX2_setLength_46 rfl rfl ?_
      cases hf
      exact go_iret C dX2_setLength_47
    · refine go_lv (lv' := [(0, .ref (a 0))]) [0] rfl ?_
      exact WX2_setLength_11 C  hf
set_option maxRecDepth 20000 in
theorem con_X2_setLength (l : Launch) (K : KK) (a : Nat → Nat) {len : Int32} {sz : Int32} {words : Nat → Int32} {checks : Nat → Int32} {cnt : Int32} {err : Nat → Int32} {vec : Nat → Int32} {bc : Int32} {pm : Nat → Nat} {sl : Nat → Int32} {ss : Nat → Int32} {sw : Nat → Nat → Int32} {sc : Nat → Nat → Int32} {x1 : Int32} {z : Int32 × Int32 × Int32 × Int32 × (Nat → Int32) × (Nat → Nat) × (Nat → Int32) × (Nat → Int32) × (Nat → Nat → Int32) × (Nat → Nat → Int32)} (hf : fX2_setLength len sz words checks cnt err pm sl ss sw sc x1 = some z) : Con l yX2_setLength wsX2_setLength 2 K [.ref (a 0), .int x1] (xW K a len sz words checks cnt err vec bc pm sl ss sw sc) (some (.int z.1)) (xW K a z.2.1 z.2.2.1 words checks z.2.2.2.1 z.2.2.2.2.1 vec bc z.2.2.2.2.2.1 z.2.2.2.2.2.2.1 z.2.2.2.2.2.2.2.1 z.2.2.2.2.2.2.2.2.1 z.2.2.2.2.2.2.2.2.2) :=
  con_of (cc := cX2_setLength) (maxL := 3) (ret := (some .int)) (own := RX2) (lv0 := [(0, .ref (a 0)), (1, .int x1)]) (by decide) rfl rfl (Nat.le_of_ble_eq_true rfl) rfl (fun p e s m args below meth c A C => go_lv (lv' := [(0, .ref (a 0)), (1, .int x1)]) [0, 1] rfl (WX2_setLength_0 C hf))
set_option maxRecDepth 20000 in
theorem call_X2_setLength {p : Program} {l : Launch} {e : Env} {s : State} {m : MethodId} {args : Array Value} {below : List Frame} {meth : Method} {c : Code} {K : KK} {A : Nat → Prop} {Q : State → Prop} {cc : ByteArray} {nL : Nat} {Ts : List Cond} {ret : Option FieldType} {pc : Nat} {lv : List (Nat × Value)} {st : List Value} {ix d : Nat} {α : Type} {kk : Int32 × Int32 × Int32 × Int32 × (Nat → Int32) × (Nat → Nat) × (Nat → Int32) × (Nat → Int32) × (Nat → Nat → Int32) × (Nat → Nat → Int32) → Option α} {y : α} {a : Nat → Nat} {len : Int32} {sz : Int32} {words : Nat → Int32} {checks : Nat → Int32} {cnt : Int32} {err : Nat → Int32} {vec : Nat → Int32} {bc : Int32} {pm : Nat → Nat} {sl : Nat → Int32} {ss : Nat → Int32} {sw : Nat → Nat → Int32} {sc : Nat → Nat → Int32} {q0 : Int32} (C : Cx p s m args meth c K A cc nL RX2 Ts ret) (hG : GoodIn Ts (wsV RX2 ix RX2 yX2_setLength wsX2_setLength)) (hd : decode cc pc = .ok (.invokevirtual ix, 3)) (hdd : 2 < d) (hro : (st.map fun v => v.category).sum ≤ 8) (hf : (fX2_setLength len sz words checks cnt err pm sl ss sw sc q0).bind kk = some y) (k : ∀ v, kk v = some y → Go p l e (RM d) s m args below meth c K A nL 0 0 Q (xW K a v.2.1 v.2.2.1 words checks v.2.2.2.1 v.2.2.2.2.1 vec bc v.2.2.2.2.2.1 v.2.2.2.2.2.2.1 v.2.2.2.2.2.2.2.1 v.2.2.2.2.2.2.2.2.1 v.2.2.2.2.2.2.2.2.2) (pc + 3) lv (.int (v.1) :: st)) : Go p l e (RM d) s m args below meth c K A nL 0 0 Q (xW K a len sz words checks cnt err vec bc pm sl ss sw sc) pc lv (.int q0 :: .ref (a 0) :: st) := by
  obtain ⟨v, hv, hf⟩ := bd_some hf
  exact go_callV_full (ry := (some .int)) (n := 1) (b := a 0) (As := [.int q0]) (rest := st) C (con_X2_setLength l K a hv) hG (by decide) rfl ⟨Nat.succ_le_of_lt hdd, by show 8 + (3 + 11) + 40 * 2 ≤ 40 * d; omega⟩ ⟨Nat.le_refl _, Nat.le_refl _⟩ ⟨0, 2, _, _, rfl, rfl, rfl⟩ rfl rfl hro hd (k v hf)
-- X2_allPositions
theorem iX2_allPositions_1 : ∀ w ∈ wsX10, w ∈ wsX2_allPositions := by decide +kernel
theorem iX2_allPositions_2 : ∀ w ∈ wsX20, w ∈ wsX2_allPositions := by decide +kernel
theorem kX2_allPositions_12 : Cond.fieldLink RX2 12 "CosetCoder" "state" "LCosetCoder$State;" ∈ wsX2_allPositions := by decide +kernel
set_option maxRecDepth 20000 in
set_option maxHeartbeats 2000000 in
theorem WX2_allPositions_0 {p : Program} {l : Launch} {e : Env} {s : State} {m : MethodId} {args : Array Value} {below : List Frame} {meth : Method} {c : Code} {K : KK} {A : Nat → Prop} {a : Nat → Nat} (C : Cx p s m args meth c K A cX2_allPositions 1 RX2 wsX2_allPositions (some .int)) {z : Int32} {len : Int32} {sz : Int32} {words : Nat → Int32} {checks : Nat → Int32} {cnt : Int32} {err : Nat → Int32} {vec : Nat → Int32} {bc : Int32} {pm : Nat → Nat} {sl : Nat → Int32} {ss : Nat → Int32} {sw : Nat → Nat → Int32} {sc : Nat → Nat → Int32} (hf : FX2_allPositions_0 len   = some z) : Go p l e (RM 0) s m args below meth c K A 1 0 0 (MQ below (QR K (some (.int z)) (xW K a len sz words checks cnt err vec bc pm sl ss sw sc) A) args s 0 0 A) (xW K a len sz words checks cnt err vec bc pm sl ss sw sc) 0 [(0, .ref (a 0))] [] := by
  unfold FX2_allPositions_0 at hf
  refine go_iconst (v := 1) C dX2_allPositions_0 (by decide) ?_
  refine go_aload_n C 0 dX2_allPositions_1 rfl rfl ?_
  refine gX_get_state C iX2_allPositions_2 kX2_allPositions_12 dX2_allPositions_2 ?_
  refine gX_get_n_length C iX2_allPositions_1 dX2_allPositions_5 ?_
  refine go_ishl C dX2_allPositions_8 ?_
  refine go_iconst (v := 1) C dX2_allPositions_9 (by decide) ?_
  refine go_isub C dX2_allPositions_10 ?_
  cases hf
  exact go_iret C dX2_allPositions_11
set_option maxRecDepth 20000 in
theorem con_X2_allPositions (l : Launch) (K : KK) (a : Nat → Nat) {len : Int32} {sz : Int32} {words : Nat → Int32} {checks : Nat → Int32} {cnt : Int32} {err : Nat → Int32} {vec : Nat → Int32} {bc : Int32} {pm : Nat → Nat} {sl : Nat → Int32} {ss : Nat → Int32} {sw : Nat → Nat → Int32} {sc : Nat → Nat → Int32} {z : Int32} (hf : fX2_allPositions len = some z) : Con l yX2_allPositions wsX2_allPositions 0 K [.ref (a 0)] (xW K a len sz words checks cnt err vec bc pm sl ss sw sc) (some (.int z)) (xW K a len sz words checks cnt err vec bc pm sl ss sw sc) :=
  con_of (cc := cX2_allPositions) (maxL := 1) (ret := (some .int)) (own := RX2) (lv0 := [(0, .ref (a 0))]) (by decide) rfl rfl (Nat.le_of_ble_eq_true rfl) rfl (fun p e s m args below meth c A C => go_lv (lv' := [(0, .ref (a 0))]) [0] rfl (WX2_allPositions_0 C hf))
set_option maxRecDepth 20000 in
theorem call_X2_allPositions {p : Program} {l : Launch} {e : Env} {s : State} {m : MethodId} {args : Array Value} {below : List Frame} {meth : Method} {c : Code} {K : KK} {A : Nat → Prop} {Q : State → Prop} {cc : ByteArray} {nL : Nat} {Ts : List Cond} {ret : Option FieldType} {pc : Nat} {lv : List (Nat × Value)} {st : List Value} {ix d : Nat} {α : Type} {kk : Int32 → Option α} {y : α} {a : Nat → Nat} {len : Int32} {sz : Int32} {words : Nat → Int32} {checks : Nat → Int32} {cnt : Int32} {err : Nat → Int32} {vec : Nat → Int32} {bc : Int32} {pm : Nat → Nat} {sl : Nat → Int32} {ss : Nat → Int32} {sw : Nat → Nat → Int32} {sc : Nat → Nat → Int32} (C : Cx p s m args meth c K A cc nL RX2 Ts ret) (hG : GoodIn Ts (wsV RX2 ix RX2 yX2_allPositions wsX2_allPositions)) (hd : decode cc pc = .ok (.invokevirtual ix, 3)) (hdd : 0 < d) (hro : (st.map fun v => v.category).sum ≤ 8) (hf : (fX2_allPositions len).bind kk = some y) (k : ∀ v, kk v = some y → Go p l e (RM d) s m args below meth c K A nL 0 0 Q (xW K a len sz words checks cnt err vec bc pm sl ss sw sc) (pc + 3) lv (.int v :: st)) : Go p l e (RM d) s m args below meth c K A nL 0 0 Q (xW K a len sz words checks cnt err vec bc pm sl ss sw sc) pc lv (.ref (a 0) :: st) := by
  obtain ⟨v, hv, hf⟩ := bd_some hf
  exact go_callV_full (ry := (some .int)) (n := 0) (b := a 0) (As := []) (rest := st) C (con_X2_allPositions l K a hv) hG (by decide) rfl ⟨Nat.succ_le_of_lt hdd, by show 8 + (1 + 11) + 40 * 0 ≤ 40 * d; omega⟩ ⟨Nat.le_refl _, Nat.le_refl _⟩ ⟨0, 2, _, _, rfl, rfl, rfl⟩ rfl rfl hro hd (k v hf)
-- X2_isWord
set_option maxRecDepth 20000 in
set_option maxHeartbeats 2000000 in
theorem WX2_isWord_17 {p : Program} {l : Launch} {e : Env} {s : State} {m : MethodId} {args : Array Value} {below : List Frame} {meth : Method} {c : Code} {K : KK} {A : Nat → Prop} {a : Nat → Nat} (C : Cx p s m args meth c K A cX2_isWord 2 RX2 wsX2_isWord (some .boolean)) {z : Int32} {len : Int32} {sz : Int32} {words : Nat → Int32} {checks : Nat → Int32} {cnt : Int32} {err : Nat → Int32} {vec : Nat → Int32} {bc : Int32} {pm : Nat → Nat} {sl : Nat → Int32} {ss : Nat → Int32} {sw : Nat → Nat → Int32} {sc : Nat → Nat → Int32} {t0 : Int32} (hf : FX2_isWord_17 len  t0 = some z) : Go p l e (RM 1) s m args below meth c K A 2 0 0 (MQ below (QR K (some (.int z)) (xW K a len sz words checks cnt err vec bc pm sl ss sw sc) A) args s 0 0 A) (xW K a len sz words checks cnt err vec bc pm sl ss sw sc) 17 [] [.int t0] := by
  unfold FX2_isWord_17 at hf
  obtain ⟨hb1, hf⟩ := ckB_some hf
  cases hf
  exact go_zret C hb1 dX2_isWord_17
set_option maxRecDepth 20000 in
set_option maxHeartbeats 2000000 in
theorem WX2_isWord_16 {p : Program} {l : Launch} {e : Env} {s : State} {m : MethodId} {args : Array Value} {below : List Frame} {meth : Method} {c : Code} {K : KK} {A : Nat → Prop} {a : Nat → Nat} (C : Cx p s m args meth c K A cX2_isWord 2 RX2 wsX2_isWord (some .boolean)) {z : Int32} {len : Int32} {sz : Int32} {words : Nat → Int32} {checks : Nat → Int32} {cnt : Int32} {err : Nat → Int32} {vec : Nat → Int32} {bc : Int32} {pm : Nat → Nat} {sl : Nat → Int32} {ss : Nat → Int32} {sw : Nat → Nat → Int32} {sc : Nat → Nat → Int32} (hf : FX2_isWord_16 len   = some z) : Go p l e (RM 1) s m args below meth c K A 2 0 0 (MQ below (QR K (some (.int z)) (xW K a len sz words checks cnt err vec bc pm sl ss sw sc) A) args s 0 0 A) (xW K a len sz words checks cnt err vec bc pm sl ss sw sc) 16 [] [] := by
  unfold FX2_isWord_16 at hf
  refine go_iconst (v := 0) C dX2_isWord_16 (by decide) ?_
  exact WX2_isWord_17 C  hf
set_option maxRecDepth 20000 in
set_option maxHeartbeats 2000000 in
theorem WX2_isWord_0 {p : Program} {l : Launch} {e : Env} {s : State} {m : MethodId} {args : Array Value} {below : List Frame} {meth : Method} {c : Code} {K : KK} {A : Nat → Prop} {a : Nat → Nat} (C : Cx p s m args meth c K A cX2_isWord 2 RX2 wsX2_isWord (some .boolean)) {z : Int32} {len : Int32} {sz : Int32} {words : Nat → Int32} {checks : Nat → Int32} {cnt : Int32} {err : Nat → Int32} {vec : Nat → Int32} {bc : Int32} {pm : Nat → Nat} {sl : Nat → Int32} {ss : Nat → Int32} {sw : Nat → Nat → Int32} {sc : Nat → Nat → Int32} {x1 : Int32} (hf : FX2_isWord_0 len  x1 = some z) : Go p l e (RM 1) s m args below meth c K A 2 0 0 (MQ below (QR K (some (.int z)) (xW K a len sz words checks cnt err vec bc pm sl ss sw sc) A) args s 0 0 A) (xW K a len sz words checks cnt err vec bc pm sl ss sw sc) 0 [(0, .ref (a 0)), (1, .int x1)] [] := by
  unfold FX2_isWord_0 at hf
  refine go_iload_n C 1 dX2_isWord_0 rfl rfl ?_
  refine go_c1_lt C (tgt := 16) dX2_isWord_1 (by decide) hf (fun h hf => ?_) (fun h hf => ?_)
  · refine go_lv (lv' := []) [] rfl ?_
    exact WX2_isWord_16 C  hf
  · refine go_iload_n C 1 dX2_isWord_4 rfl rfl ?_
    refine go_aload_n C 0 dX2_isWord_5 rfl rfl ?_
    refine call_X2_allPositions C gX2_isWord_X2_allPositions dX2_isWord_6 (by decide) (Nat.le_of_ble_eq_true rfl) hf (fun v1 hf => ?_)
    refine go_c2_gt C (tgt := 16) dX2_isWord_9 (by decide) hf (fun h hf => ?_) (fun h hf => ?_)
    · refine go_lv (lv' := []) [] rfl ?_
      exact WX2_isWord_16 C  hf
    · refine go_iconst (v := 1) C dX2_isWord_12 (by decide) ?_
      refine go_goto C (tgt := 17) dX2_isWord_13 (by decide) ?_
      refine go_lv (lv' := []) [] rfl ?_
      exact WX2_isWord_17 C  hf
set_option maxRecDepth 20000 in
theorem con_X2_isWord (l : Launch) (K : KK) (a : Nat → Nat) {len : Int32} {sz : Int32} {words : Nat → Int32} {checks : Nat → Int32} {cnt : Int32} {err : Nat → Int32} {vec : Nat → Int32} {bc : Int32} {pm : Nat → Nat} {sl : Nat → Int32} {ss : Nat → Int32} {sw : Nat → Nat → Int32} {sc : Nat → Nat → Int32} {x1 : Int32} {z : Int32} (hf : fX2_isWord len x1 = some z) : Con l yX2_isWord wsX2_isWord 1 K [.ref (a 0), .int x1] (xW K a len sz words checks cnt err vec bc pm sl ss sw sc) (some (.int z)) (xW K a len sz words checks cnt err vec bc pm sl ss sw sc) :=
  con_of (cc := cX2_isWord) (maxL := 2) (ret := (some .boolean)) (own := RX2) (lv0 := [(0, .ref (a 0)), (1, .int x1)]) (by decide) rfl rfl (Nat.le_of_ble_eq_true rfl) rfl (fun p e s m args below meth c A C => go_lv (lv' := [(0, .ref (a 0)), (1, .int x1)]) [0, 1] rfl (WX2_isWord_0 C hf))
set_option maxRecDepth 20000 in
theorem call_X2_isWord {p : Program} {l : Launch} {e : Env} {s : State} {m : MethodId} {args : Array Value} {below : List Frame} {meth : Method} {c : Code} {K : KK} {A : Nat → Prop} {Q : State → Prop} {cc : ByteArray} {nL : Nat} {Ts : List Cond} {ret : Option FieldType} {pc : Nat} {lv : List (Nat × Value)} {st : List Value} {ix d : Nat} {α : Type} {kk : Int32 → Option α} {y : α} {a : Nat → Nat} {len : Int32} {sz : Int32} {words : Nat → Int32} {checks : Nat → Int32} {cnt : Int32} {err : Nat → Int32} {vec : Nat → Int32} {bc : Int32} {pm : Nat → Nat} {sl : Nat → Int32} {ss : Nat → Int32} {sw : Nat → Nat → Int32} {sc : Nat → Nat → Int32} {q0 : Int32} (C : Cx p s m args meth c K A cc nL RX2 Ts ret) (hG : GoodIn Ts (wsV RX2 ix RX2 yX2_isWord wsX2_isWord)) (hd : decode cc pc = .ok (.invokevirtual ix, 3)) (hdd : 1 < d) (hro : (st.map fun v => v.category).sum ≤ 8) (hf : (fX2_isWord len q0).bind kk = some y) (k : ∀ v, kk v = some y → Go p l e (RM d) s m args below meth c K A nL 0 0 Q (xW K a len sz words checks cnt err vec bc pm sl ss sw sc) (pc + 3) lv (.int v :: st)) : Go p l e (RM d) s m args below meth c K A nL 0 0 Q (xW K a len sz words checks cnt err vec bc pm sl ss sw sc) pc lv (.int q0 :: .ref (a 0) :: st) := by
  obtain ⟨v, hv, hf⟩ := bd_some hf
  exact go_callV_full (ry := (some .boolean)) (n := 1) (b := a 0) (As := [.int q0]) (rest := st) C (con_X2_isWord l K a hv) hG (by decide) rfl ⟨Nat.succ_le_of_lt hdd, by show 8 + (2 + 11) + 40 * 1 ≤ 40 * d; omega⟩ ⟨Nat.le_refl _, Nat.le_refl _⟩ ⟨0, 2, _, _, rfl, rfl, rfl⟩ rfl rfl hro hd (k v hf)
-- X2_addRow
theorem iX2_addRow_1 : ∀ w ∈ wsX10, w ∈ wsX2_addRow := by decide +kernel
theorem iX2_addRow_2 : ∀ w ∈ wsX20, w ∈ wsX2_addRow := by decide +kernel
theorem kX2_addRow_12 : Cond.fieldLink RX2 12 "CosetCoder" "state" "LCosetCoder$State;" ∈ wsX2_addRow := by decide +kernel
set_option maxRecDepth 20000 in
set_option maxHeartbeats 2000000 in
theorem WX2_addRow_21 {p : Program} {l : Launch} {e : Env} {s : State} {m : MethodId} {args : Array Value} {below : List Frame} {meth : Method} {c : Code} {K : KK} {A : Nat → Prop} {a : Nat → Nat} (C : Cx p s m args meth c K A cX2_addRow 3 RX2 wsX2_addRow (some .int)) {z : Int32 × Int32 × (Nat → Int32) × (Nat → Int32) × Int32 × (Nat → Int32) × (Nat → Nat) × (Nat → Int32) × (Nat → Int32) × (Nat → Nat → Int32) × (Nat → Nat → Int32)} {len : Int32} {vec : Nat → Int32} {bc : Int32} {sz : Int32} {words : Nat → Int32} {checks : Nat → Int32} {cnt : Int32} {err : Nat → Int32} {pm : Nat → Nat} {sl : Nat → Int32} {ss : Nat → Int32} {sw : Nat → Nat → Int32} {sc : Nat → Nat → Int32} (hf : FX2_addRow_21 len  sz words checks cnt err pm sl ss sw sc = some z) : Go p l e (RM 2) s m args below meth c K A 3 0 0 (MQ below (QR K (some (.int z.1)) (xW K a len z.2.1 z.2.2.1 z.2.2.2.1 z.2.2.2.2.1 z.2.2.2.2.2.1 vec bc z.2.2.2.2.2.2.1 z.2.2.2.2.2.2.2.1 z.2.2.2.2.2.2.2.2.1 z.2.2.2.2.2.2.2.2.2.1 z.2.2.2.2.2.2.2.2.2.2) A) args s 0 0 A) (xW K a len sz words checks cnt err vec bc pm sl ss sw sc) 21 [(0, .ref (a 0))] [] := by
  unfold FX2_addRow_21 at hf
  refine go_aload_n C 0 dX2_addRow_21 rfl rfl ?_
  refine go_bipush (v := (-2)) C dX2_addRow_22 (by decide) ?_
  refine call_X2_fail C gX2_addRow_X2_fail dX2_addRow_24 (by decide) (Nat.le_of_ble_eq_true rfl) hf (fun v1 hf => ?_)
  cases hf
  exact go_iret C dX2_addRow_27
set_option maxRecDepth 20000 in
set_option maxHeartbeats 2000000 in
theorem WX2_addRow_73 {p : Program} {l : Launch} {e : Env} {s : State} {m : MethodId} {args : Array Value} {below : List Frame} {meth : Method} {c : Code} {K : KK} {A : Nat → Prop} {a : Nat → Nat} (C : Cx p s m args meth c K A cX2_addRow 3 RX2 wsX2_addRow (some .int)) {z : Int32 × Int32 × (Nat → Int32) × (Nat → Int32) × Int32 × (Nat → Int32) × (Nat → Nat) × (Nat → Int32) × (Nat → Int32) × (Nat → Nat → Int32) × (Nat → Nat → Int32)} {len : Int32} {vec : Nat → Int32} {bc : Int32} {sz : Int32} {words : Nat → Int32} {checks : Nat → Int32} {cnt : Int32} {err : Nat → Int32} {pm : Nat → Nat} {sl : Nat → Int32} {ss : Nat → Int32} {sw : Nat → Nat → Int32} {sc : Nat → Nat → Int32} {t1 : Int32} {t2 : Int32} {t3 : Int32} (hf : FX2_addRow_73 len  sz words checks cnt err pm sl ss sw sc t1 t2 t3 = some z) : Go p l e (RM 2) s m args below meth c K A 3 0 0 (MQ below (QR K (some (.int z.1)) (xW K a len z.2.1 z.2.2.1 z.2.2.2.1 z.2.2.2.2.1 z.2.2.2.2.2.1 vec bc z.2.2.2.2.2.2.1 z.2.2.2.2.2.2.2.1 z.2.2.2.2.2.2.2.2.1 z.2.2.2.2.2.2.2.2.2.1 z.2.2.2.2.2.2.2.2.2.2) A) args s 0 0 A) (xW K a len sz words checks cnt err vec bc pm sl ss sw sc) 73 [(0, .ref (a 0))] [.int t3, .int t2, .int t1, .ref (a 1)] := by
  unfold FX2_addRow_73 at hf
  refine call_X1_put C gX2_addRow_X1_put_n52 (by decide +kernel) (by decide +kernel) (by decide +kernel) dX2_addRow_73 (by decide) (Nat.le_of_ble_eq_true rfl) hf (fun v2 hf => ?_)
  refine go_aload_n C 0 dX2_addRow_76 rfl rfl ?_
  refine gX_get_state C iX2_addRow_2 kX2_addRow_12 dX2_addRow_77 ?_
  refine go_dup C dX2_addRow_80 rfl ?_
  refine gX_get_n_size C iX2_addRow_1 dX2_addRow_81 ?_
  refine go_iconst (v := 1) C dX2_addRow_84 (by decide) ?_
  refine go_iadd C dX2_addRow_85 ?_
  refine gX_put_n_size C iX2_addRow_1 dX2_addRow_86 ?_
  refine go_aload_n C 0 dX2_addRow_89 rfl rfl ?_
  refine gX_get_state C iX2_addRow_2 kX2_addRow_12 dX2_addRow_90 ?_
  refine gX_get_n_size C iX2_addRow_1 dX2_addRow_93 ?_
  refine go_iconst (v := 1) C dX2_addRow_96 (by decide) ?_
  refine go_isub C dX2_addRow_97 ?_
  cases hf
  exact go_iret C dX2_addRow_98
set_option maxRecDepth 20000 in
set_option maxHeartbeats 2000000 in
theorem WX2_addRow_0 {p : Program} {l : Launch} {e : Env} {s : State} {m : MethodId} {args : Array Value} {below : List Frame} {meth : Method} {c : Code} {K : KK} {A : Nat → Prop} {a : Nat → Nat} (C : Cx p s m args meth c K A cX2_addRow 3 RX2 wsX2_addRow (some .int)) {z : Int32 × Int32 × (Nat → Int32) × (Nat → Int32) × Int32 × (Nat → Int32) × (Nat → Nat) × (Nat → Int32) × (Nat → Int32) × (Nat → Nat → Int32) × (Nat → Nat → Int32)} {len : Int32} {vec : Nat → Int32} {bc : Int32} {sz : Int32} {words : Nat → Int32} {checks : Nat → Int32} {cnt : Int32} {err : Nat → Int32} {pm : Nat → Nat} {sl : Nat → Int32} {ss : Nat → Int32} {sw : Nat → Nat → Int32} {sc : Nat → Nat → Int32} {x1 : Int32} {x2 : Int32} (hf : FX2_addRow_0 len  sz words checks cnt err pm sl ss sw sc x1 x2 = some z) : Go p l e (RM 2) s m args below meth c K A 3 0 0 (MQ below (QR K (some (.int z.1)) (xW K a len z.2.1 z.2.2.1 z.2.2.2.1 z.2.2.2.2.1 z.2.2.2.2.2.1 vec bc z.2.2.2.2.2.2.1 z.2.2.2.2.2.2.2.1 z.2.2.2.2.2.2.2.2.1 z.2.2.2.2.2.2.2.2.2.1 z.2.2.2.2.2.2.2.2.2.2) A) args s 0 0 A) (xW K a len sz words checks cnt err vec bc pm sl ss sw sc) 0 [(0, .ref (a 0)), (1, .int x1), (2, .int x2)] [] := by
  unfold FX2_addRow_0 at hf
  refine go_iload_n C 1 dX2_addRow_0 rfl rfl ?_
  refine go_c1_eq C (tgt := 21) dX2_addRow_1 (by decide) hf (fun h hf => ?_) (fun h hf => ?_)
  · refine go_lv (lv' := [(0, .ref (a 0))]) [0] rfl ?_
    exact WX2_addRow_21 C  hf
  · refine go_aload_n C 0 dX2_addRow_4 rfl rfl ?_
    refine go_iload_n C 1 dX2_addRow_5 rfl rfl ?_
    refine call_X2_isWord C gX2_addRow_X2_isWord dX2_addRow_6 (by decide) (Nat.le_of_ble_eq_true rfl) hf (fun v3 hf => ?_)
    refine go_c1_eq C (tgt := 21) dX2_addRow_9 (by decide) hf (fun h hf => ?_) (fun h hf => ?_)
    · refine go_lv (lv' := [(0, .ref (a 0))]) [0] rfl ?_
      exact WX2_addRow_21 C  hf
    · refine go_iload_n C 2 dX2_addRow_12 rfl rfl ?_
      refine go_c1_lt C (tgt := 21) dX2_addRow_13 (by decide) hf (fun h hf => ?_) (fun h hf => ?_)
      · refine go_lv (lv' := [(0, .ref (a 0))]) [0] rfl ?_
        exact WX2_addRow_21 C  hf
      · refine go_iload_n C 2 dX2_addRow_16 rfl rfl ?_
        refine go_iconst (v := 1) C dX2_addRow_17 (by decide) ?_
        refine go_c2_le C (tgt := 28) dX2_addRow_18 (by decide) hf (fun h hf => ?_) (fun h hf => ?_)
        · refine go_aload_n C 0 dX2_addRow_28 rfl rfl ?_
          refine gX_get_state C iX2_addRow_2 kX2_addRow_12 dX2_addRow_29 ?_
          refine gX_get_n_size C iX2_addRow_1 dX2_addRow_32 ?_
          refine go_bipush (v := 6) C dX2_addRow_35 (by decide) ?_
          refine go_c2_lt C (tgt := 47) dX2_addRow_37 (by decide) hf (fun h hf => ?_) (fun h hf => ?_)
          · refine go_aload_n C 0 dX2_addRow_47 rfl rfl ?_
            refine call_X2_saveState C gX2_addRow_X2_saveState dX2_addRow_48 (by decide) (Nat.le_of_ble_eq_true rfl) hf (fun v4 hf => ?_)
            refine go_aload_n C 0 dX2_addRow_51 rfl rfl ?_
            refine gX_get_state C iX2_addRow_2 kX2_addRow_12 dX2_addRow_52 ?_
            refine go_aload_n C 0 dX2_addRow_55 rfl rfl ?_
            refine gX_get_state C iX2_addRow_2 kX2_addRow_12 dX2_addRow_56 ?_
            refine gX_get_n_size C iX2_addRow_1 dX2_addRow_59 ?_
            refine go_iload_n C 1 dX2_addRow_62 rfl rfl ?_
            refine go_iload_n C 2 dX2_addRow_63 rfl rfl ?_
            refine go_iconst (v := 1) C dX2_addRow_64 (by decide) ?_
            refine go_c2_ne C (tgt := 72) dX2_addRow_65 (by decide) hf (fun h hf => ?_) (fun h hf => ?_)
            · refine go_iconst (v := 0) C dX2_addRow_72 (by decide) ?_
              refine go_lv (lv' := [(0, .ref (a 0))]) [0] rfl ?_
              exact WX2_addRow_73 C  hf
            · refine go_iconst (v := 1) C dX2_addRow_68 (by decide) ?_
              refine go_goto C (tgt := 73) dX2_addRow_69 (by decide) ?_
              refine go_lv (lv' := [(0, .ref (a 0))]) [0] rfl ?_
              exact WX2_addRow_73 C  hf
          · refine go_aload_n C 0 dX2_addRow_40 rfl rfl ?_
            refine go_bipush (v := (-4)) C dX2_addRow_41 (by decide) ?_
            refine call_X2_fail C gX2_addRow_X2_fail dX2_addRow_43 (by decide) (Nat.le_of_ble_eq_true rfl) hf (fun v5 hf => ?_)
            cases hf
            exact go_iret C dX2_addRow_46
        · refine go_lv (lv' := [(0, .ref (a 0))]) [0] rfl ?_
          exact WX2_addRow_21 C  hf
set_option maxRecDepth 20000 in
theorem con_X2_addRow (l : Launch) (K : KK) (a : Nat → Nat) {len : Int32} {sz : Int32} {words : Nat → Int32} {checks : Nat → Int32} {cnt : Int32} {err : Nat → Int32} {vec : Nat → Int32} {bc : Int32} {pm : Nat → Nat} {sl : Nat → Int32} {ss : Nat → Int32} {sw : Nat → Nat → Int32} {sc : Nat → Nat → Int32} {x1 : Int32} {x2 : Int32} {z : Int32 × Int32 × (Nat → Int32) × (Nat → Int32) × Int32 × (Nat → Int32) × (Nat → Nat) × (Nat → Int32) × (Nat → Int32) × (Nat → Nat → Int32) × (Nat → Nat → Int32)} (hf : fX2_addRow len sz words checks cnt err pm sl ss sw sc x1 x2 = some z) : Con l yX2_addRow wsX2_addRow 2 K [.ref (a 0), .int x1, .int x2] (xW K a len sz words checks cnt err vec bc pm sl ss sw sc) (some (.int z.1)) (xW K a len z.2.1 z.2.2.1 z.2.2.2.1 z.2.2.2.2.1 z.2.2.2.2.2.1 vec bc z.2.2.2.2.2.2.1 z.2.2.2.2.2.2.2.1 z.2.2.2.2.2.2.2.2.1 z.2.2.2.2.2.2.2.2.2.1 z.2.2.2.2.2.2.2.2.2.2) :=
  con_of (cc := cX2_addRow) (maxL := 3) (ret := (some .int)) (own := RX2) (lv0 := [(0, .ref (a 0)), (1, .int x1), (2, .int x2)]) (by decide) rfl rfl (Nat.le_of_ble_eq_true rfl) rfl (fun p e s m args below meth c A C => go_lv (lv' := [(0, .ref (a 0)), (1, .int x1), (2, .int x2)]) [0, 1, 2] rfl (WX2_addRow_0 C hf))
set_option maxRecDepth 20000 in
theorem call_X2_addRow {p : Program} {l : Launch} {e : Env} {s : State} {m : MethodId} {args : Array Value} {below : List Frame} {meth : Method} {c : Code} {K : KK} {A : Nat → Prop} {Q : State → Prop} {cc : ByteArray} {nL : Nat} {Ts : List Cond} {ret : Option FieldType} {pc : Nat} {lv : List (Nat × Value)} {st : List Value} {ix d : Nat} {α : Type} {kk : Int32 × Int32 × (Nat → Int32) × (Nat → Int32) × Int32 × (Nat → Int32) × (Nat → Nat) × (Nat → Int32) × (Nat → Int32) × (Nat → Nat → Int32) × (Nat → Nat → Int32) → Option α} {y : α} {a : Nat → Nat} {len : Int32} {sz : Int32} {words : Nat → Int32} {checks : Nat → Int32} {cnt : Int32} {err : Nat → Int32} {vec : Nat → Int32} {bc : Int32} {pm : Nat → Nat} {sl : Nat → Int32} {ss : Nat → Int32} {sw : Nat → Nat → Int32} {sc : Nat → Nat → Int32} {q0 : Int32} {q1 : Int32} (C : Cx p s m args meth c K A cc nL RX2 Ts ret) (hG : GoodIn Ts (wsV RX2 ix RX2 yX2_addRow wsX2_addRow)) (hd : decode cc pc = .ok (.invokevirtual ix, 3)) (hdd : 2 < d) (hro : (st.map fun v => v.category).sum ≤ 8) (hf : (fX2_addRow len sz words checks cnt err pm sl ss sw sc q0 q1).bind kk = some y) (k : ∀ v, kk v = some y → Go p l e (RM d) s m args below meth c K A nL 0 0 Q (xW K a len v.2.1 v.2.2.1 v.2.2.2.1 v.2.2.2.2.1 v.2.2.2.2.2.1 vec bc v.2.2.2.2.2.2.1 v.2.2.2.2.2.2.2.1 v.2.2.2.2.2.2.2.2.1 v.2.2.2.2.2.2.2.2.2.1 v.2.2.2.2.2.2.2.2.2.2) (pc + 3) lv (.int (v.1) :: st)) : Go p l e (RM d) s m args below meth c K A nL 0 0 Q (xW K a len sz words checks cnt err vec bc pm sl ss sw sc) pc lv (.int q1 :: .int q0 :: .ref (a 0) :: st) := by
  obtain ⟨v, hv, hf⟩ := bd_some hf
  exact go_callV_full (ry := (some .int)) (n := 2) (b := a 0) (As := [.int q0, .int q1]) (rest := st) C (con_X2_addRow l K a hv) hG (by decide) rfl ⟨Nat.succ_le_of_lt hdd, by show 8 + (3 + 11) + 40 * 2 ≤ 40 * d; omega⟩ ⟨Nat.le_refl _, Nat.le_refl _⟩ ⟨0, 2, _, _, rfl, rfl, rfl⟩ rfl rfl hro hd (k v hf)
-- X2_isRowNumber
theorem iX2_isRowNumber_1 : ∀ w ∈ wsX10, w ∈ wsX2_isRowNumber := by decide +kernel
theorem iX2_isRowNumber_2 : ∀ w ∈ wsX20, w ∈ wsX2_isRowNumber := by decide +kernel
theorem kX2_isRowNumber_12 : Cond.fieldLink RX2 12 "CosetCoder" "state" "LCosetCoder$State;" ∈ wsX2_isRowNumber := by decide +kernel
set_option maxRecDepth 20000 in
set_option maxHeartbeats 2000000 in
theorem WX2_isRowNumber_20 {p : Program} {l : Launch} {e : Env} {s : State} {m : MethodId} {args : Array Value} {below : List Frame} {meth : Method} {c : Code} {K : KK} {A : Nat → Prop} {a : Nat → Nat} (C : Cx p s m args meth c K A cX2_isRowNumber 2 RX2 wsX2_isRowNumber (some .boolean)) {z : Int32} {len : Int32} {sz : Int32} {words : Nat → Int32} {checks : Nat → Int32} {cnt : Int32} {err : Nat → Int32} {vec : Nat → Int32} {bc : Int32} {pm : Nat → Nat} {sl : Nat → Int32} {ss : Nat → Int32} {sw : Nat → Nat → Int32} {sc : Nat → Nat → Int32} {t0 : Int32} (hf : FX2_isRowNumber_20 sz  t0 = some z) : Go p l e (RM 0) s m args below meth c K A 2 0 0 (MQ below (QR K (some (.int z)) (xW K a len sz words checks cnt err vec bc pm sl ss sw sc) A) args s 0 0 A) (xW K a len sz words checks cnt err vec bc pm sl ss sw sc) 20 [] [.int t0] := by
  unfold FX2_isRowNumber_20 at hf
  obtain ⟨hb1, hf⟩ := ckB_some hf
  cases hf
  exact go_zret C hb1 dX2_isRowNumber_20
set_option maxRecDepth 20000 in
set_option maxHeartbeats 2000000 in
theorem WX2_isRowNumber_19 {p : Program} {l : Launch} {e : Env} {s : State} {m : MethodId} {args : Array Value} {below : List Frame} {meth : Method} {c : Code} {K : KK} {A : Nat → Prop} {a : Nat → Nat} (C : Cx p s m args meth c K A cX2_isRowNumber 2 RX2 wsX2_isRowNumber (some .boolean)) {z : Int32} {len : Int32} {sz : Int32} {words : Nat → Int32} {checks : Nat → Int32} {cnt : Int32} {err : Nat → Int32} {vec : Nat → Int32} {bc : Int32} {pm : Nat → Nat} {sl : Nat → Int32} {ss : Nat → Int32} {sw : Nat → Nat → Int32} {sc : Nat → Nat → Int32} (hf : FX2_isRowNumber_19 sz   = some z) : Go p l e (RM 0) s m args below meth c K A 2 0 0 (MQ below (QR K (some (.int z)) (xW K a len sz words checks cnt err vec bc pm sl ss sw sc) A) args s 0 0 A) (xW K a len sz words checks cnt err vec bc pm sl ss sw sc) 19 [] [] := by
  unfold FX2_isRowNumber_19 at hf
  refine go_iconst (v := 0) C dX2_isRowNumber_19 (by decide) ?_
  exact WX2_isRowNumber_20 C  hf
set_option maxRecDepth 20000 in
set_option maxHeartbeats 2000000 in
theorem WX2_isRowNumber_0 {p : Program} {l : Launch} {e : Env} {s : State} {m : MethodId} {args : Array Value} {below : List Frame} {meth : Method} {c : Code} {K : KK} {A : Nat → Prop} {a : Nat → Nat} (C : Cx p s m args meth c K A cX2_isRowNumber 2 RX2 wsX2_isRowNumber (some .boolean)) {z : Int32} {len : Int32} {sz : Int32} {words : Nat → Int32} {checks : Nat → Int32} {cnt : Int32} {err : Nat → Int32} {vec : Nat → Int32} {bc : Int32} {pm : Nat → Nat} {sl : Nat → Int32} {ss : Nat → Int32} {sw : Nat → Nat → Int32} {sc : Nat → Nat → Int32} {x1 : Int32} (hf : FX2_isRowNumber_0 sz  x1 = some z) : Go p l e (RM 0) s m args below meth c K A 2 0 0 (MQ below (QR K (some (.int z)) (xW K a len sz words checks cnt err vec bc pm sl ss sw sc) A) args s 0 0 A) (xW K a len sz words checks cnt err vec bc pm sl ss sw sc) 0 [(0, .ref (a 0)), (1, .int x1)] [] := by
  unfold FX2_isRowNumber_0 at hf
  refine go_iload_n C 1 dX2_isRowNumber_0 rfl rfl ?_
  refine go_c1_lt C (tgt := 19) dX2_isRowNumber_1 (by decide) hf (fun h hf => ?_) (fun h hf => ?_)
  · refine go_lv (lv' := []) [] rfl ?_
    exact WX2_isRowNumber_19 C  hf
  · refine go_iload_n C 1 dX2_isRowNumber_4 rfl rfl ?_
    refine go_aload_n C 0 dX2_isRowNumber_5 rfl rfl ?_
    refine gX_get_state C iX2_isRowNumber_2 kX2_isRowNumber_12 dX2_isRowNumber_6 ?_
    refine gX_get_n_size C iX2_isRowNumber_1 dX2_isRowNumber_9 ?_
    refine go_c2_ge C (tgt := 19) dX2_isRowNumber_12 (by decide) hf (fun h hf => ?_) (fun h hf => ?_)
    · refine go_lv (lv' := []) [] rfl ?_
      exact WX2_isRowNumber_19 C  hf
    · refine go_iconst (v := 1) C dX2_isRowNumber_15 (by decide) ?_
      refine go_goto C (tgt := 20) dX2_isRowNumber_16 (by decide) ?_
      refine go_lv (lv' := []) [] rfl ?_
      exact WX2_isRowNumber_20 C  hf
set_option maxRecDepth 20000 in
theorem con_X2_isRowNumber (l : Launch) (K : KK) (a : Nat → Nat) {len : Int32} {sz : Int32} {words : Nat → Int32} {checks : Nat → Int32} {cnt : Int32} {err : Nat → Int32} {vec : Nat → Int32} {bc : Int32} {pm : Nat → Nat} {sl : Nat → Int32} {ss : Nat → Int32} {sw : Nat → Nat → Int32} {sc : Nat → Nat → Int32} {x1 : Int32} {z : Int32} (hf : fX2_isRowNumber sz x1 = some z) : Con l yX2_isRowNumber wsX2_isRowNumber 0 K [.ref (a 0), .int x1] (xW K a len sz words checks cnt err vec bc pm sl ss sw sc) (some (.int z)) (xW K a len sz words checks cnt err vec bc pm sl ss sw sc) :=
  con_of (cc := cX2_isRowNumber) (maxL := 2) (ret := (some .boolean)) (own := RX2) (lv0 := [(0, .ref (a 0)), (1, .int x1)]) (by decide) rfl rfl (Nat.le_of_ble_eq_true rfl) rfl (fun p e s m args below meth c A C => go_lv (lv' := [(0, .ref (a 0)), (1, .int x1)]) [0, 1] rfl (WX2_isRowNumber_0 C hf))
set_option maxRecDepth 20000 in
theorem call_X2_isRowNumber {p : Program} {l : Launch} {e : Env} {s : State} {m : MethodId} {args : Array Value} {below : List Frame} {meth : Method} {c : Code} {K : KK} {A : Nat → Prop} {Q : State → Prop} {cc : ByteArray} {nL : Nat} {Ts : List Cond} {ret : Option FieldType} {pc : Nat} {lv : List (Nat × Value)} {st : List Value} {ix d : Nat} {α : Type} {kk : Int32 → Option α} {y : α} {a : Nat → Nat} {len : Int32} {sz : Int32} {words : Nat → Int32} {checks : Nat → Int32} {cnt : Int32} {err : Nat → Int32} {vec : Nat → Int32} {bc : Int32} {pm : Nat → Nat} {sl : Nat → Int32} {ss : Nat → Int32} {sw : Nat → Nat → Int32} {sc : Nat → Nat → Int32} {q0 : Int32} (C : Cx p s m args meth c K A cc nL RX2 Ts ret) (hG : GoodIn Ts (wsV RX2 ix RX2 yX2_isRowNumber wsX2_isRowNumber)) (hd : decode cc pc = .ok (.invokevirtual ix, 3)) (hdd : 0 < d) (hro : (st.map fun v => v.category).sum ≤ 8) (hf : (fX2_isRowNumber sz q0).bind kk = some y) (k : ∀ v, kk v = some y → Go p l e (RM d) s m args below meth c K A nL 0 0 Q (xW K a len sz words checks cnt err vec bc pm sl ss sw sc) (pc + 3) lv (.int v :: st)) : Go p l e (RM d) s m args below meth c K A nL 0 0 Q (xW K a len sz words checks cnt err vec bc pm sl ss sw sc) pc lv (.int q0 :: .ref (a 0) :: st) := by
  obtain ⟨v, hv, hf⟩ := bd_some hf
  exact go_callV_full (ry := (some .boolean)) (n := 1) (b := a 0) (As := [.int q0]) (rest := st) C (con_X2_isRowNumber l K a hv) hG (by decide) rfl ⟨Nat.succ_le_of_lt hdd, by show 8 + (2 + 11) + 40 * 0 ≤ 40 * d; omega⟩ ⟨Nat.le_refl _, Nat.le_refl _⟩ ⟨0, 2, _, _, rfl, rfl, rfl⟩ rfl rfl hro hd (k v hf)
-- X2_removeRow
theorem iX2_removeRow_1 : ∀ w ∈ wsX10, w ∈ wsX2_removeRow := by decide +kernel
theorem iX2_removeRow_2 : ∀ w ∈ wsX20, w ∈ wsX2_removeRow := by decide +kernel
theorem kX2_removeRow_12 : Cond.fieldLink RX2 12 "CosetCoder" "state" "LCosetCoder$State;" ∈ wsX2_removeRow := by decide +kernel
set_option maxRecDepth 20000 in
set_option maxHeartbeats 2000000 in
theorem WX2_removeRow_23 {p : Program} {l : Launch} {e : Env} {s : State} {m : MethodId} {args : Array Value} {below : List Frame} {meth : Method} {c : Code} {K : KK} {A : Nat → Prop} {a : Nat → Nat} (C : Cx p s m args meth c K A cX2_removeRow 3 RX2 wsX2_removeRow (some .int)) {z : Int32 × Int32 × (Nat → Int32) × (Nat → Int32) × Int32 × (Nat → Int32) × (Nat → Nat) × (Nat → Int32) × (Nat → Int32) × (Nat → Nat → Int32) × (Nat → Nat → Int32)} {len : Int32} {vec : Nat → Int32} {bc : Int32} {r23 : (Int32) → (Nat → Int32) → (Nat → Int32) → (Int32) → (Nat → Int32) → (Nat → Nat) → (Nat → Int32) → (Nat → Int32) → (Nat → Nat → Int32) → (Nat → Nat → Int32) → Int32 → Option (Int32 × Int32 × (Nat → Int32) × (Nat → Int32) × Int32 × (Nat → Int32) × (Nat → Nat) × (Nat → Int32) × (Nat → Int32) × (Nat → Nat → Int32) × (Nat → Nat → Int32))} {sz : Int32} {words : Nat → Int32} {checks : Nat → Int32} {cnt : Int32} {err : Nat → Int32} {pm : Nat → Nat} {sl : Nat → Int32} {ss : Nat → Int32} {sw : Nat → Nat → Int32} {sc : Nat → Nat → Int32} {x2 : Int32} (hr23 : ∀ (sz : Int32) (words : Nat → Int32) (checks : Nat → Int32) (cnt : Int32) (err : Nat → Int32) (pm : Nat → Nat) (sl : Nat → Int32) (ss : Nat → Int32) (sw : Nat → Nat → Int32) (sc : Nat → Nat → Int32) (x2 : Int32), r23 sz words checks cnt err pm sl ss sw sc x2 = some z → Go p l e (RM 2) s m args below meth c K A 3 0 0 (MQ below (QR K (some (.int z.1)) (xW K a len z.2.1 z.2.2.1 z.2.2.2.1 z.2.2.2.2.1 z.2.2.2.2.2.1 vec bc z.2.2.2.2.2.2.1 z.2.2.2.2.2.2.2.1 z.2.2.2.2.2.2.2.2.1 z.2.2.2.2.2.2.2.2.2.1 z.2.2.2.2.2.2.2.2.2.2) A) args s 0 0 A) (xW K a len sz words checks cnt err vec bc pm sl ss sw sc) 23 [(0, .ref (a 0)), (2, .int x2)] []) (hf : FX2_removeRow_23 len r23 sz words checks cnt err pm sl ss sw sc x2 = some z) : Go p l e (RM 2) s m args below meth c K A 3 0 0 (MQ below (QR K (some (.int z.1)) (xW K a len z.2.1 z.2.2.1 z.2.2.2.1 z.2.2.2.2.1 z.2.2.2.2.2.1 vec bc z.2.2.2.2.2.2.1 z.2.2.2.2.2.2.2.1 z.2.2.2.2.2.2.2.2.1 z.2.2.2.2.2.2.2.2.2.1 z.2.2.2.2.2.2.2.2.2.2) A) args s 0 0 A) (xW K a len sz words checks cnt err vec bc pm sl ss sw sc) 23 [(0, .ref (a 0)), (2, .int x2)] [] := by
  unfold FX2_removeRow_23 at hf
  refine go_iload_n C 1 dX2_removeRow_23 rfl rfl ?_
  refine go_aload_n C 0 dX2_removeRow_24 rfl rfl ?_
  refine gX_get_state C iX2_removeRow_2 kX2_removeRow_12 dX2_removeRow_25 ?_
  refine gX_get_n_size C iX2_removeRow_1 dX2_removeRow_28 ?_
  refine go_c2_ge C (tgt := 68) dX2_removeRow_31 (by decide) hf (fun h hf => ?_) (fun h hf => ?_)
  · refine go_aload_n C 0 dX2_removeRow_68 rfl rfl ?_
    refine gX_get_state C iX2_removeRow_2 kX2_removeRow_12 dX2_removeRow_69 ?_
    refine go_dup C dX2_removeRow_72 rfl ?_
    refine gX_get_n_size C iX2_removeRow_1 dX2_removeRow_73 ?_
    refine go_iconst (v := 1) C dX2_removeRow_76 (by decide) ?_
    refine go_isub C dX2_removeRow_77 ?_
    refine gX_put_n_size C iX2_removeRow_1 dX2_removeRow_78 ?_
    refine go_aload_n C 0 dX2_removeRow_81 rfl rfl ?_
    refine gX_get_state C iX2_removeRow_2 kX2_removeRow_12 dX2_removeRow_82 ?_
    refine gX_get_n_size C iX2_removeRow_1 dX2_removeRow_85 ?_
    cases hf
    exact go_iret C dX2_removeRow_88
  · refine go_aload_n C 0 dX2_removeRow_34 rfl rfl ?_
    refine gX_get_state C iX2_removeRow_2 kX2_removeRow_12 dX2_removeRow_35 ?_
    refine go_iload_n C 1 dX2_removeRow_38 rfl rfl ?_
    refine go_iconst (v := 1) C dX2_removeRow_39 (by decide) ?_
    refine go_isub C dX2_removeRow_40 ?_
    refine go_aload_n C 0 dX2_removeRow_41 rfl rfl ?_
    refine gX_get_state C iX2_removeRow_2 kX2_removeRow_12 dX2_removeRow_42 ?_
    refine gX_get_n_words C iX2_removeRow_1 dX2_removeRow_45 ?_
    refine go_iload_n C 1 dX2_removeRow_48 rfl rfl ?_
    refine gX_rd_words C dX2_removeRow_49 hf (fun v1 hf => ?_)
    refine go_aload_n C 0 dX2_removeRow_50 rfl rfl ?_
    refine gX_get_state C iX2_removeRow_2 kX2_removeRow_12 dX2_removeRow_51 ?_
    refine gX_get_n_checks C iX2_removeRow_1 dX2_removeRow_54 ?_
    refine go_iload_n C 1 dX2_removeRow_57 rfl rfl ?_
    refine gX_rd_checks C dX2_removeRow_58 hf (fun v2 hf => ?_)
    refine call_X1_put C gX2_removeRow_X1_put_n52 (by decide +kernel) (by decide +kernel) (by decide +kernel) dX2_removeRow_59 (by decide) (Nat.le_of_ble_eq_true rfl) hf (fun v3 hf => ?_)
    refine go_iinc C (v := x2 + 1) (lv' := [(0, .ref (a 0)), (2, .int (x2 + 1))]) 1 [1, 0] dX2_removeRow_62 rfl rfl (by decide) rfl ?_
    refine go_goto C (tgt := 23) dX2_removeRow_65 (by decide) ?_
    exact hr23 _ _ _ _ _ _ _ _ _ _ _ hf
theorem wX2_removeRow_23 {p : Program} {l : Launch} {e : Env} {s : State} {m : MethodId} {args : Array Value} {below : List Frame} {meth : Method} {c : Code} {K : KK} {A : Nat → Prop} {a : Nat → Nat} (C : Cx p s m args meth c K A cX2_removeRow 3 RX2 wsX2_removeRow (some .int)) {z : Int32 × Int32 × (Nat → Int32) × (Nat → Int32) × Int32 × (Nat → Int32) × (Nat → Nat) × (Nat → Int32) × (Nat → Int32) × (Nat → Nat → Int32) × (Nat → Nat → Int32)} {len : Int32} {vec : Nat → Int32} {bc : Int32} : ∀ (n : Nat) (sz : Int32) (words : Nat → Int32) (checks : Nat → Int32) (cnt : Int32) (err : Nat → Int32) (pm : Nat → Nat) (sl : Nat → Int32) (ss : Nat → Int32) (sw : Nat → Nat → Int32) (sc : Nat → Nat → Int32) (x2 : Int32), fX2_removeRow_23 len  n sz words checks cnt err pm sl ss sw sc x2 = some z → Go p l e (RM 2) s m args below meth c K A 3 0 0 (MQ below (QR K (some (.int z.1)) (xW K a len z.2.1 z.2.2.1 z.2.2.2.1 z.2.2.2.2.1 z.2.2.2.2.2.1 vec bc z.2.2.2.2.2.2.1 z.2.2.2.2.2.2.2.1 z.2.2.2.2.2.2.2.2.1 z.2.2.2.2.2.2.2.2.2.1 z.2.2.2.2.2.2.2.2.2.2) A) args s 0 0 A) (xW K a len sz words checks cnt err vec bc pm sl ss sw sc) 23 [(0, .ref (a 0)), (2, .int x2)] [] := by
  intro n
  induction n with
  | zero => intro _ _ _ _ _ _ _ _ _ _ _ hf; cases hf
  | succ n ih => intro _ _ _ _ _ _ _ _ _ _ _ hf; exact WX2_removeRow_23 C  ih hf
set_option maxRecDepth 20000 in
set_option maxHeartbeats 2000000 in
theorem WX2_removeRow_0 {p : Program} {l : Launch} {e : Env} {s : State} {m : MethodId} {args : Array Value} {below : List Frame} {meth : Method} {c : Code} {K : KK} {A : Nat → Prop} {a : Nat → Nat} (C : Cx p s m args meth c K A cX2_removeRow 3 RX2 wsX2_removeRow (some .int)) {z : Int32 × Int32 × (Nat → Int32) × (Nat → Int32) × Int32 × (Nat → Int32) × (Nat → Nat) × (Nat → Int32) × (Nat → Int32) × (Nat → Nat → Int32) × (Nat → Nat → Int32)} {len : Int32} {vec : Nat → Int32} {bc : Int32} {sz : Int32} {words : Nat → Int32} {checks : Nat → Int32} {cnt : Int32} {err : Nat → Int32} {pm : Nat → Nat} {sl : Nat → Int32} {ss : Nat → Int32} {sw : Nat → Nat → Int32} {sc : Nat → Nat → Int32} {x1 : Int32} (hf : FX2_removeRow_0 len  sz words checks cnt err pm sl ss sw sc x1 = some z) : Go p l e (RM 2) s m args below meth c K A 3 0 0 (MQ below (QR K (some (.int z.1)) (xW K a len z.2.1 z.2.2.1 z.2.2.2.1 z.2.2.2.2.1 z.2.2.2.2.2.1 vec bc z.2.2.2.2.2.2.1 z.2.2.2.2.2.2.2.1 z.2.2.2.2.2.2.2.2.1 z.2.2.2.2.2.2.2.2.2.1 z.2.2.2.2.2.2.2.2.2.2) A) args s 0 0 A) (xW K a len sz words checks cnt err vec bc pm sl ss sw sc) 0 [(0, .ref (a 0)), (1, .int x1)] [] := by
  unfold FX2_removeRow_0 at hf
  refine go_aload_n C 0 dX2_removeRow_0 rfl rfl ?_
  refine go_iload_n C 1 dX2_removeRow_1 rfl rfl ?_
  refine call_X2_isRowNumber C gX2_removeRow_X2_isRowNumber dX2_removeRow_2 (by decide) (Nat.le_of_ble_eq_true rfl) hf (fun v4 hf => ?_)
  refine go_c1_ne C (tgt := 15) dX2_removeRow_5 (by decide) hf (fun h hf => ?_) (fun h hf => ?_)
  · refine go_aload_n C 0 dX2_removeRow_15 rfl rfl ?_
    refine call_X2_saveState C gX2_removeRow_X2_saveState dX2_removeRow_16 (by decide) (Nat.le_of_ble_eq_true rfl) hf (fun v5 hf => ?_)
    refine go_iload_n C 1 dX2_removeRow_19 rfl rfl ?_
    refine go_iconst (v := 1) C dX2_removeRow_20 (by decide) ?_
    refine go_iadd C dX2_removeRow_21 ?_
    refine go_istore_n C (lv' := [(0, .ref (a 0)), (1, .int x1), (2, .int (x1 + 1))]) [1, 2, 0] dX2_removeRow_22 rfl (by decide) rfl ?_
    refine go_lv (lv' := [(0, .ref (a 0)), (2, .int (x1 + 1))]) [0, 2] rfl ?_
    exact wX2_removeRow_23 C  300 _ _ _ _ _ _ _ _ _ _ _ hf
  · refine go_aload_n C 0 dX2_removeRow_8 rfl rfl ?_
    refine go_bipush (v := (-2)) C dX2_removeRow_9 (by decide) ?_
    refine call_X2_fail C gX2_removeRow_X2_fail dX2_removeRow_11 (by decide) (Nat.le_of_ble_eq_true rfl) hf (fun v6 hf => ?_)
    cases hf
    exact go_iret C dX2_removeRow_14
set_option maxRecDepth 20000 in
theorem con_X2_removeRow (l : Launch) (K : KK) (a : Nat → Nat) {len : Int32} {sz : Int32} {words : Nat → Int32} {checks : Nat → Int32} {cnt : Int32} {err : Nat → Int32} {vec : Nat → Int32} {bc : Int32} {pm : Nat → Nat} {sl : Nat → Int32} {ss : Nat → Int32} {sw : Nat → Nat → Int32} {sc : Nat → Nat → Int32} {x1 : Int32} {z : Int32 × Int32 × (Nat → Int32) × (Nat → Int32) × Int32 × (Nat → Int32) × (Nat → Nat) × (Nat → Int32) × (Nat → Int32) × (Nat → Nat → Int32) × (Nat → Nat → Int32)} (hf : fX2_removeRow len sz words checks cnt err pm sl ss sw sc x1 = some z) : Con l yX2_removeRow wsX2_removeRow 2 K [.ref (a 0), .int x1] (xW K a len sz words checks cnt err vec bc pm sl ss sw sc) (some (.int z.1)) (xW K a len z.2.1 z.2.2.1 z.2.2.2.1 z.2.2.2.2.1 z.2.2.2.2.2.1 vec bc z.2.2.2.2.2.2.1 z.2.2.2.2.2.2.2.1 z.2.2.2.2.2.2.2.2.1 z.2.2.2.2.2.2.2.2.2.1 z.2.2.2.2.2.2.2.2.2.2) :=
  con_of (cc := cX2_removeRow) (maxL := 3) (ret := (some .int)) (own := RX2) (lv0 := [(0, .ref (a 0)), (1, .int x1)]) (by decide) rfl rfl (Nat.le_of_ble_eq_true rfl) rfl (fun p e s m args below meth c A C => go_lv (lv' := [(0, .ref (a 0)), (1, .int x1)]) [0, 1] rfl (WX2_removeRow_0 C hf))
set_option maxRecDepth 20000 in
theorem call_X2_removeRow {p : Program} {l : Launch} {e : Env} {s : State} {m : MethodId} {args : Array Value} {below : List Frame} {meth : Method} {c : Code} {K : KK} {A : Nat → Prop} {Q : State → Prop} {cc : ByteArray} {nL : Nat} {Ts : List Cond} {ret : Option FieldType} {pc : Nat} {lv : List (Nat × Value)} {st : List Value} {ix d : Nat} {α : Type} {kk : Int32 × Int32 × (Nat → Int32) × (Nat → Int32) × Int32 × (Nat → Int32) × (Nat → Nat) × (Nat → Int32) × (Nat → Int32) × (Nat → Nat → Int32) × (Nat → Nat → Int32) → Option α} {y : α} {a : Nat → Nat} {len : Int32} {sz : Int32} {words : Nat → Int32} {checks : Nat → Int32} {cnt : Int32} {err : Nat → Int32} {vec : Nat → Int32} {bc : Int32} {pm : Nat → Nat} {sl : Nat → Int32} {ss : Nat → Int32} {sw : Nat → Nat → Int32} {sc : Nat → Nat → Int32} {q0 : Int32} (C : Cx p s m args meth c K A cc nL RX2 Ts ret) (hG : GoodIn Ts (wsV RX2 ix RX2 yX2_removeRow wsX2_removeRow)) (hd : decode cc pc = .ok (.invokevirtual ix, 3)) (hdd : 2 < d) (hro : (st.map fun v => v.category).sum ≤ 8) (hf : (fX2_removeRow len sz words checks cnt err pm sl ss sw sc q0).bind kk = some y) (k : ∀ v, kk v = some y → Go p l e (RM d) s m args below meth c K A nL 0 0 Q (xW K a len v.2.1 v.2.2.1 v.2.2.2.1 v.2.2.2.2.1 v.2.2.2.2.2.1 vec bc v.2.2.2.2.2.2.1 v.2.2.2.2.2.2.2.1 v.2.2.2.2.2.2.2.2.1 v.2.2.2.2.2.2.2.2.2.1 v.2.2.2.2.2.2.2.2.2.2) (pc + 3) lv (.int (v.1) :: st)) : Go p l e (RM d) s m args below meth c K A nL 0 0 Q (xW K a len sz words checks cnt err vec bc pm sl ss sw sc) pc lv (.int q0 :: .ref (a 0) :: st) := by
  obtain ⟨v, hv, hf⟩ := bd_some hf
  exact go_callV_full (ry := (some .int)) (n := 1) (b := a 0) (As := [.int q0]) (rest := st) C (con_X2_removeRow l K a hv) hG (by decide) rfl ⟨Nat.succ_le_of_lt hdd, by show 8 + (3 + 11) + 40 * 2 ≤ 40 * d; omega⟩ ⟨Nat.le_refl _, Nat.le_refl _⟩ ⟨0, 2, _, _, rfl, rfl, rfl⟩ rfl rfl hro hd (k v hf)
-- X2_removeDependentRows
theorem iX2_removeDependentRows_1 : ∀ w ∈ wsX10, w ∈ wsX2_removeDependentRows := by decide +kernel
theorem iX2_removeDependentRows_2 : ∀ w ∈ wsX20, w ∈ wsX2_removeDependentRows := by decide +kernel
theorem kX2_removeDependentRows_12 : Cond.fieldLink RX2 12 "CosetCoder" "state" "LCosetCoder$State;" ∈ wsX2_removeDependentRows := by decide +kernel
theorem kX2_removeDependentRows_31 : Cond.fieldLink RX2 31 "CosetCoder" "basis" "LCosetCoder$Basis;" ∈ wsX2_removeDependentRows := by decide +kernel
set_option maxRecDepth 20000 in
set_option maxHeartbeats 2000000 in
theorem WX2_removeDependentRows_76 {p : Program} {l : Launch} {e : Env} {s : State} {m : MethodId} {args : Array Value} {below : List Frame} {meth : Method} {c : Code} {K : KK} {A : Nat → Prop} {a : Nat → Nat} (C : Cx p s m args meth c K A cX2_removeDependentRows 4 RX2 wsX2_removeDependentRows (some .int)) {z : Int32 × Int32 × (Nat → Int32) × (Nat → Int32) × Int32 × (Nat → Int32) × Int32 × (Nat → Nat) × (Nat → Int32) × (Nat → Int32) × (Nat → Nat → Int32) × (Nat → Nat → Int32)} {len : Int32} {err : Nat → Int32} {r23 : (Int32) → (Nat → Int32) → (Nat → Int32) → (Int32) → (Nat → Int32) → (Int32) → (Nat → Nat) → (Nat → Int32) → (Nat → Int32) → (Nat → Nat → Int32) → (Nat → Nat → Int32) → Int32 → Int32 → Int32 → Option (Int32 × Int32 × (Nat → Int32) × (Nat → Int32) × Int32 × (Nat → Int32) × Int32 × (Nat → Nat) × (Nat → Int32) × (Nat → Int32) × (Nat → Nat → Int32) × (Nat → Nat → Int32))} {sz : Int32} {words : Nat → Int32} {checks : Nat → Int32} {cnt : Int32} {vec : Nat → Int32} {bc : Int32} {pm : Nat → Nat} {sl : Nat → Int32} {ss : Nat → Int32} {sw : Nat → Nat → Int32} {sc : Nat → Nat → Int32} {x1 : Int32} {x2 : Int32} {x3 : Int32} (hr23 : ∀ (sz : Int32) (words : Nat → Int32) (checks : Nat → Int32) (cnt : Int32) (vec : Nat → Int32) (bc : Int32) (pm : Nat → Nat) (sl : Nat → Int32) (ss : Nat → Int32) (sw : Nat → Nat → Int32) (sc : Nat → Nat → Int32) (x1 : Int32) (x2 : Int32) (x3 : Int32), r23 sz words checks cnt vec bc pm sl ss sw sc x1 x2 x3 = some z → Go p l e (RM 2) s m args below meth c K A 4 0 0 (MQ below (QR K (some (.int z.1)) (xW K a len z.2.1 z.2.2.1 z.2.2.2.1 z.2.2.2.2.1 err z.2.2.2.2.2.1 z.2.2.2.2.2.2.1 z.2.2.2.2.2.2.2.1 z.2.2.2.2.2.2.2.2.1 z.2.2.2.2.2.2.2.2.2.1 z.2.2.2.2.2.2.2.2.2.2.1 z.2.2.2.2.2.2.2.2.2.2.2) A) args s 0 0 A) (xW K a len sz words checks cnt err vec bc pm sl ss sw sc) 23 [(0, .ref (a 0)), (1, .int x1), (2, .int x2), (3, .int x3)] []) (hf : FX2_removeDependentRows_76 len r23 sz words checks cnt vec bc pm sl ss sw sc x1 x2 x3 = some z) : Go p l e (RM 2) s m args below meth c K A 4 0 0 (MQ below (QR K (some (.int z.1)) (xW K a len z.2.1 z.2.2.1 z.2.2.2.1 z.2.2.2.2.1 err z.2.2.2.2.2.1 z.2.2.2.2.2.2.1 z.2.2.2.2.2.2.2.1 z.2.2.2.2.2.2.2.2.1 z.2.2.2.2.2.2.2.2.2.1 z.2.2.2.2.2.2.2.2.2.2.1 z.2.2.2.2.2.2.2.2.2.2.2) A) args s 0 0 A) (xW K a len sz words checks cnt err vec bc pm sl ss sw sc) 76 [(0, .ref (a 0)), (1, .int x1), (2, .int x2), (3, .int x3)] [] := by
  unfold FX2_removeDependentRows_76 at hf
  refine go_iinc C (v := x3 + 1) (lv' := [(0, .ref (a 0)), (1, .int x1), (2, .int x2), (3, .int (x3 + 1))]) 3 [1, 2, 3, 0] dX2_removeDependentRows_76 rfl rfl (by decide) rfl ?_
  refine go_goto C (tgt := 23) dX2_removeDependentRows_79 (by decide) ?_
  exact hr23 _ _ _ _ _ _ _ _ _ _ _ _ _ _ hf
set_option maxRecDepth 20000 in
set_option maxHeartbeats 2000000 in
theorem WX2_removeDependentRows_23 {p : Program} {l : Launch} {e : Env} {s : State} {m : MethodId} {args : Array Value} {below : List Frame} {meth : Method} {c : Code} {K : KK} {A : Nat → Prop} {a : Nat → Nat} (C : Cx p s m args meth c K A cX2_removeDependentRows 4 RX2 wsX2_removeDependentRows (some .int)) {z : Int32 × Int32 × (Nat → Int32) × (Nat → Int32) × Int32 × (Nat → Int32) × Int32 × (Nat → Nat) × (Nat → Int32) × (Nat → Int32) × (Nat → Nat → Int32) × (Nat → Nat → Int32)} {len : Int32} {err : Nat → Int32} {r23 : (Int32) → (Nat → Int32) → (Nat → Int32) → (Int32) → (Nat → Int32) → (Int32) → (Nat → Nat) → (Nat → Int32) → (Nat → Int32) → (Nat → Nat → Int32) → (Nat → Nat → Int32) → Int32 → Int32 → Int32 → Option (Int32 × Int32 × (Nat → Int32) × (Nat → Int32) × Int32 × (Nat → Int32) × Int32 × (Nat → Nat) × (Nat → Int32) × (Nat → Int32) × (Nat → Nat → Int32) × (Nat → Nat → Int32))} {sz : Int32} {words : Nat → Int32} {checks : Nat → Int32} {cnt : Int32} {vec : Nat → Int32} {bc : Int32} {pm : Nat → Nat} {sl : Nat → Int32} {ss : Nat → Int32} {sw : Nat → Nat → Int32} {sc : Nat → Nat → Int32} {x1 : Int32} {x2 : Int32} {x3 : Int32} (hr23 : ∀ (sz : Int32) (words : Nat → Int32) (checks : Nat → Int32) (cnt : Int32) (vec : Nat → Int32) (bc : Int32) (pm : Nat → Nat) (sl : Nat → Int32) (ss : Nat → Int32) (sw : Nat → Nat → Int32) (sc : Nat → Nat → Int32) (x1 : Int32) (x2 : Int32) (x3 : Int32), r23 sz words checks cnt vec bc pm sl ss sw sc x1 x2 x3 = some z → Go p l e (RM 2) s m args below meth c K A 4 0 0 (MQ below (QR K (some (.int z.1)) (xW K a len z.2.1 z.2.2.1 z.2.2.2.1 z.2.2.2.2.1 err z.2.2.2.2.2.1 z.2.2.2.2.2.2.1 z.2.2.2.2.2.2.2.1 z.2.2.2.2.2.2.2.2.1 z.2.2.2.2.2.2.2.2.2.1 z.2.2.2.2.2.2.2.2.2.2.1 z.2.2.2.2.2.2.2.2.2.2.2) A) args s 0 0 A) (xW K a len sz words checks cnt err vec bc pm sl ss sw sc) 23 [(0, .ref (a 0)), (1, .int x1), (2, .int x2), (3, .int x3)] []) (hf : FX2_removeDependentRows_23 len r23 sz words checks cnt vec bc pm sl ss sw sc x1 x2 x3 = some z) : Go p l e (RM 2) s m args below meth c K A 4 0 0 (MQ below (QR K (some (.int z.1)) (xW K a len z.2.1 z.2.2.1 z.2.2.2.1 z.2.2.2.2.1 err z.2.2.2.2.2.1 z.2.2.2.2.2.2.1 z.2.2.2.2.2.2.2.1 z.2.2.2.2.2.2.2.2.1 z.2.2.2.2.2.2.2.2.2.1 z.2.2.2.2.2.2.2.2.2.2.1 z.2.2.2.2.2.2.2.2.2.2.2) A) args s 0 0 A) (xW K a len sz words checks cnt err vec bc pm sl ss sw sc) 23 [(0, .ref (a 0)), (1, .int x1), (2, .int x2), (3, .int x3)] [] := by
  unfold FX2_removeDependentRows_23 at hf
  refine go_iload_n C 3 dX2_removeDependentRows_23 rfl rfl ?_
  refine go_iload_n C 1 dX2_removeDependentRows_24 rfl rfl ?_
  refine go_c2_ge C (tgt := 82) dX2_removeDependentRows_25 (by decide) hf (fun h hf => ?_) (fun h hf => ?_)
  · refine go_aload_n C 0 dX2_removeDependentRows_82 rfl rfl ?_
    refine gX_get_state C iX2_removeDependentRows_2 kX2_removeDependentRows_12 dX2_removeDependentRows_83 ?_
    refine go_iload_n C 2 dX2_removeDependentRows_86 rfl rfl ?_
    refine gX_put_n_size C iX2_removeDependentRows_1 dX2_removeDependentRows_87 ?_
    refine go_iload_n C 1 dX2_removeDependentRows_90 rfl rfl ?_
    refine go_iload_n C 2 dX2_removeDependentRows_91 rfl rfl ?_
    refine go_isub C dX2_removeDependentRows_92 ?_
    cases hf
    exact go_iret C dX2_removeDependentRows_93
  · refine go_aload_n C 0 dX2_removeDependentRows_28 rfl rfl ?_
    refine gX_get_basis C iX2_removeDependentRows_2 kX2_removeDependentRows_31 dX2_removeDependentRows_29 ?_
    refine go_aload_n C 0 dX2_removeDependentRows_32 rfl rfl ?_
    refine gX_get_state C iX2_removeDependentRows_2 kX2_removeDependentRows_12 dX2_removeDependentRows_33 ?_
    refine gX_get_n_words C iX2_removeDependentRows_1 dX2_removeDependentRows_36 ?_
    refine go_iload_n C 3 dX2_removeDependentRows_39 rfl rfl ?_
    refine gX_rd_words C dX2_removeDependentRows_40 hf (fun v1 hf => ?_)
    refine call_X0_extend C gX2_removeDependentRows_X0_extend_n69 (by decide +kernel) (by decide +kernel) (by decide +kernel) dX2_removeDependentRows_41 (by decide) (Nat.le_of_ble_eq_true rfl) hf (fun v2 hf => ?_)
    refine go_c1_eq C (tgt := 76) dX2_removeDependentRows_44 (by decide) hf (fun h hf => ?_) (fun h hf => ?_)
    · exact WX2_removeDependentRows_76 C hr23 hf
    · refine go_aload_n C 0 dX2_removeDependentRows_47 rfl rfl ?_
      refine gX_get_state C iX2_removeDependentRows_2 kX2_removeDependentRows_12 dX2_removeDependentRows_48 ?_
      refine go_iload_n C 2 dX2_removeDependentRows_51 rfl rfl ?_
      refine go_aload_n C 0 dX2_removeDependentRows_52 rfl rfl ?_
      refine gX_get_state C iX2_removeDependentRows_2 kX2_removeDependentRows_12 dX2_removeDependentRows_53 ?_
      refine gX_get_n_words C iX2_removeDependentRows_1 dX2_removeDependentRows_56 ?_
      refine go_iload_n C 3 dX2_removeDependentRows_59 rfl rfl ?_
      refine gX_rd_words C dX2_removeDependentRows_60 hf (fun v3 hf => ?_)
      refine go_aload_n C 0 dX2_removeDependentRows_61 rfl rfl ?_
      refine gX_get_state C iX2_removeDependentRows_2 kX2_removeDependentRows_12 dX2_removeDependentRows_62 ?_
      refine gX_get_n_checks C iX2_removeDependentRows_1 dX2_removeDependentRows_65 ?_
      refine go_iload_n C 3 dX2_removeDependentRows_68 rfl rfl ?_
      refine gX_rd_checks C dX2_removeDependentRows_69 hf (fun v4 hf => ?_)
      refine call_X1_put C gX2_removeDependentRows_X1_put_n52 (by decide +kernel) (by decide +kernel) (by decide +kernel) dX2_removeDependentRows_70 (by decide) (Nat.le_of_ble_eq_true rfl) hf (fun v5 hf => ?_)
      refine go_iinc C (v := x2 + 1) (lv' := [(0, .ref (a 0)), (1, .int x1), (2, .int (x2 + 1)), (3, .int x3)]) 2 [1, 2, 0, 3] dX2_removeDependentRows_73 rfl rfl (by decide) rfl ?_
      exact WX2_removeDependentRows_76 C hr23 hf
theorem wX2_removeDependentRows_23 {p : Program} {l : Launch} {e : Env} {s : State} {m : MethodId} {args : Array Value} {below : List Frame} {meth : Method} {c : Code} {K : KK} {A : Nat → Prop} {a : Nat → Nat} (C : Cx p s m args meth c K A cX2_removeDependentRows 4 RX2 wsX2_removeDependentRows (some .int)) {z : Int32 × Int32 × (Nat → Int32) × (Nat → Int32) × Int32 × (Nat → Int32) × Int32 × (Nat → Nat) × (Nat → Int32) × (Nat → Int32) × (Nat → Nat → Int32) × (Nat → Nat → Int32)} {len : Int32} {err : Nat → Int32} : ∀ (n : Nat) (sz : Int32) (words : Nat → Int32) (checks : Nat → Int32) (cnt : Int32) (vec : Nat → Int32) (bc : Int32) (pm : Nat → Nat) (sl : Nat → Int32) (ss : Nat → Int32) (sw : Nat → Nat → Int32) (sc : Nat → Nat → Int32) (x1 : Int32) (x2 : Int32) (x3 : Int32), fX2_removeDependentRows_23 len  n sz words checks cnt vec bc pm sl ss sw sc x1 x2 x3 = some z → Go p l e (RM 2) s m args below meth c K A 4 0 0 (MQ below (QR K (some (.int z.1)) (xW K a len z.2.1 z.2.2.1 z.2.2.2.1 z.2.2.2.2.1 err z.2.2.2.2.2.1 z.2.2.2.2.2.2.1 z.2.2.2.2.2.2.2.1 z.2.2.2.2.2.2.2.2.1 z.2.2.2.2.2.2.2.2.2.1 z.2.2.2.2.2.2.2.2.2.2.1 z.2.2.2.2.2.2.2.2.2.2.2) A) args s 0 0 A) (xW K a len sz words checks cnt err vec bc pm sl ss sw sc) 23 [(0, .ref (a 0)), (1, .int x1), (2, .int x2), (3, .int x3)] [] := by
  intro n
  induction n with
  | zero => intro _ _ _ _ _ _ _ _ _ _ _ _ _ _ hf; cases hf
  | succ n ih => intro _ _ _ _ _ _ _ _ _ _ _ _ _ _ hf; exact WX2_removeDependentRows_23 C  ih hf
set_option maxRecDepth 20000 in
set_option maxHeartbeats 2000000 in
theorem WX2_removeDependentRows_0 {p : Program} {l : Launch} {e : Env} {s : State} {m : MethodId} {args : Array Value} {below : List Frame} {meth : Method} {c : Code} {K : KK} {A : Nat → Prop} {a : Nat → Nat} (C : Cx p s m args meth c K A cX2_removeDependentRows 4 RX2 wsX2_removeDependentRows (some .int)) {z : Int32 × Int32 × (Nat → Int32) × (Nat → Int32) × Int32 × (Nat → Int32) × Int32 × (Nat → Nat) × (Nat → Int32) × (Nat → Int32) × (Nat → Nat → Int32) × (Nat → Nat → Int32)} {len : Int32} {err : Nat → Int32} {sz : Int32} {words : Nat → Int32} {checks : Nat → Int32} {cnt : Int32} {vec : Nat → Int32} {bc : Int32} {pm : Nat → Nat} {sl : Nat → Int32} {ss : Nat → Int32} {sw : Nat → Nat → Int32} {sc : Nat → Nat → Int32} (hf : FX2_removeDependentRows_0 len  sz words checks cnt vec bc pm sl ss sw sc = some z) : Go p l e (RM 2) s m args below meth c K A 4 0 0 (MQ below (QR K (some (.int z.1)) (xW K a len z.2.1 z.2.2.1 z.2.2.2.1 z.2.2.2.2.1 err z.2.2.2.2.2.1 z.2.2.2.2.2.2.1 z.2.2.2.2.2.2.2.1 z.2.2.2.2.2.2.2.2.1 z.2.2.2.2.2.2.2.2.2.1 z.2.2.2.2.2.2.2.2.2.2.1 z.2.2.2.2.2.2.2.2.2.2.2) A) args s 0 0 A) (xW K a len sz words checks cnt err vec bc pm sl ss sw sc) 0 [(0, .ref (a 0))] [] := by
  unfold FX2_removeDependentRows_0 at hf
  refine go_aload_n C 0 dX2_removeDependentRows_0 rfl rfl ?_
  refine call_X2_saveState C gX2_removeDependentRows_X2_saveState dX2_removeDependentRows_1 (by decide) (Nat.le_of_ble_eq_true rfl) hf (fun v6 hf => ?_)
  refine go_aload_n C 0 dX2_removeDependentRows_4 rfl rfl ?_
  refine gX_get_basis C iX2_removeDependentRows_2 kX2_removeDependentRows_31 dX2_removeDependentRows_5 ?_
  refine call_X0_clear C gX2_removeDependentRows_X0_clear_n66 (by decide +kernel) (by decide +kernel) (by decide +kernel) dX2_removeDependentRows_8 (by decide) (Nat.le_of_ble_eq_true rfl) hf (fun v7 hf => ?_)
  refine go_aload_n C 0 dX2_removeDependentRows_11 rfl rfl ?_
  refine gX_get_state C iX2_removeDependentRows_2 kX2_removeDependentRows_12 dX2_removeDependentRows_12 ?_
  refine gX_get_n_size C iX2_removeDependentRows_1 dX2_removeDependentRows_15 ?_
  refine go_istore_n C (lv' := [(0, .ref (a 0)), (1, .int sz)]) [1, 0] dX2_removeDependentRows_18 rfl (by decide) rfl ?_
  refine go_iconst (v := 0) C dX2_removeDependentRows_19 (by decide) ?_
  refine go_istore_n C (lv' := [(0, .ref (a 0)), (1, .int sz), (2, .int 0)]) [1, 2, 0] dX2_removeDependentRows_20 rfl (by decide) rfl ?_
  refine go_iconst (v := 0) C dX2_removeDependentRows_21 (by decide) ?_
  refine go_istore_n C (lv' := [(0, .ref (a 0)), (1, .int sz), (2, .int 0), (3, .int 0)]) [1, 2, 3, 0] dX2_removeDependentRows_22 rfl (by decide) rfl ?_
  exact wX2_removeDependentRows_23 C  300 _ _ _ _ _ _ _ _ _ _ _ _ _ _ hf
set_option maxRecDepth 20000 in
theorem con_X2_removeDependentRows (l : Launch) (K : KK) (a : Nat → Nat) {len : Int32} {sz : Int32} {words : Nat → Int32} {checks : Nat → Int32} {cnt : Int32} {err : Nat → Int32} {vec : Nat → Int32} {bc : Int32} {pm : Nat → Nat} {sl : Nat → Int32} {ss : Nat → Int32} {sw : Nat → Nat → Int32} {sc : Nat → Nat → Int32} {z : Int32 × Int32 × (Nat → Int32) × (Nat → Int32) × Int32 × (Nat → Int32) × Int32 × (Nat → Nat) × (Nat → Int32) × (Nat → Int32) × (Nat → Nat → Int32) × (Nat → Nat → Int32)} (hf : fX2_removeDependentRows len sz words checks cnt vec bc pm sl ss sw sc = some z) : Con l yX2_removeDependentRows wsX2_removeDependentRows 2 K [.ref (a 0)] (xW K a len sz words checks cnt err vec bc pm sl ss sw sc) (some (.int z.1)) (xW K a len z.2.1 z.2.2.1 z.2.2.2.1 z.2.2.2.2.1 err z.2.2.2.2.2.1 z.2.2.2.2.2.2.1 z.2.2.2.2.2.2.2.1 z.2.2.2.2.2.2.2.2.1 z.2.2.2.2.2.2.2.2.2.1 z.2.2.2.2.2.2.2.2.2.2.1 z.2.2.2.2.2.2.2.2.2.2.2) :=
  con_of (cc := cX2_removeDependentRows) (maxL := 4) (ret := (some .int)) (own := RX2) (lv0 := [(0, .ref (a 0))]) (by decide) rfl rfl (Nat.le_of_ble_eq_true rfl) rfl (fun p e s m args below meth c A C => go_lv (lv' := [(0, .ref (a 0))]) [0] rfl (WX2_removeDependentRows_0 C hf))
set_option maxRecDepth 20000 in
theorem call_X2_removeDependentRows {p : Program} {l : Launch} {e : Env} {s : State} {m : MethodId} {args : Array Value} {below : List Frame} {meth : Method} {c : Code} {K : KK} {A : Nat → Prop} {Q : State → Prop} {cc : ByteArray} {nL : Nat} {Ts : List Cond} {ret : Option FieldType} {pc : Nat} {lv : List (Nat × Value)} {st : List Value} {ix d : Nat} {α : Type} {kk : Int32 × Int32 × (Nat → Int32) × (Nat → Int32) × Int32 × (Nat → Int32) × Int32 × (Nat → Nat) × (Nat → Int32) × (Nat → Int32) × (Nat → Nat → Int32) × (Nat → Nat → Int32) → Option α} {y : α} {a : Nat → Nat} {len : Int32} {sz : Int32} {words : Nat → Int32} {checks : Nat → Int32} {cnt : Int32} {err : Nat → Int32} {vec : Nat → Int32} {bc : Int32} {pm : Nat → Nat} {sl : Nat → Int32} {ss : Nat → Int32} {sw : Nat → Nat → Int32} {sc : Nat → Nat → Int32} (C : Cx p s m args meth c K A cc nL RX2 Ts ret) (hG : GoodIn Ts (wsV RX2 ix RX2 yX2_removeDependentRows wsX2_removeDependentRows)) (hd : decode cc pc = .ok (.invokevirtual ix, 3)) (hdd : 2 < d) (hro : (st.map fun v => v.category).sum ≤ 8) (hf : (fX2_removeDependentRows len sz words checks cnt vec bc pm sl ss sw sc).bind kk = some y) (k : ∀ v, kk v = some y → Go p l e (RM d) s m args below meth c K A nL 0 0 Q (xW K a len v.2.1 v.2.2.1 v.2.2.2.1 v.2.2.2.2.1 err v.2.2.2.2.2.1 v.2.2.2.2.2.2.1 v.2.2.2.2.2.2.2.1 v.2.2.2.2.2.2.2.2.1 v.2.2.2.2.2.2.2.2.2.1 v.2.2.2.2.2.2.2.2.2.2.1 v.2.2.2.2.2.2.2.2.2.2.2) (pc + 3) lv (.int (v.1) :: st)) : Go p l e (RM d) s m args below meth c K A nL 0 0 Q (xW K a len sz words checks cnt err vec bc pm sl ss sw sc) pc lv (.ref (a 0) :: st) := by
  obtain ⟨v, hv, hf⟩ := bd_some hf
  exact go_callV_full (ry := (some .int)) (n := 0) (b := a 0) (As := []) (rest := st) C (con_X2_removeDependentRows l K a hv) hG (by decide) rfl ⟨Nat.succ_le_of_lt hdd, by show 8 + (4 + 11) + 40 * 2 ≤ 40 * d; omega⟩ ⟨Nat.le_refl _, Nat.le_refl _⟩ ⟨0, 2, _, _, rfl, rfl, rfl⟩ rfl rfl hro hd (k v hf)
-- X2_row
theorem iX2_row_1 : ∀ w ∈ wsX10, w ∈ wsX2_row := by decide +kernel
theorem iX2_row_2 : ∀ w ∈ wsX20, w ∈ wsX2_row := by decide +kernel
theorem kX2_row_12 : Cond.fieldLink RX2 12 "CosetCoder" "state" "LCosetCoder$State;" ∈ wsX2_row := by decide +kernel
set_option maxRecDepth 20000 in
set_option maxHeartbeats 2000000 in
theorem WX2_row_0 {p : Program} {l : Launch} {e : Env} {s : State} {m : MethodId} {args : Array Value} {below : List Frame} {meth : Method} {c : Code} {K : KK} {A : Nat → Prop} {a : Nat → Nat} (C : Cx p s m args meth c K A cX2_row 2 RX2 wsX2_row (some .int)) {z : Int32 × (Nat → Int32)} {len : Int32} {sz : Int32} {words : Nat → Int32} {checks : Nat → Int32} {cnt : Int32} {vec : Nat → Int32} {bc : Int32} {pm : Nat → Nat} {sl : Nat → Int32} {ss : Nat → Int32} {sw : Nat → Nat → Int32} {sc : Nat → Nat → Int32} {err : Nat → Int32} {x1 : Int32} (hf : FX2_row_0 sz words  err x1 = some z) : Go p l e (RM 1) s m args below meth c K A 2 0 0 (MQ below (QR K (some (.int z.1)) (xW K a len sz words checks cnt z.2 vec bc pm sl ss sw sc) A) args s 0 0 A) (xW K a len sz words checks cnt err vec bc pm sl ss sw sc) 0 [(0, .ref (a 0)), (1, .int x1)] [] := by
  unfold FX2_row_0 at hf
  refine go_aload_n C 0 dX2_row_0 rfl rfl ?_
  refine go_iload_n C 1 dX2_row_1 rfl rfl ?_
  refine call_X2_isRowNumber C gX2_row_X2_isRowNumber dX2_row_2 (by decide) (Nat.le_of_ble_eq_true rfl) hf (fun v1 hf => ?_)
  refine go_c1_ne C (tgt := 15) dX2_row_5 (by decide) hf (fun h hf => ?_) (fun h hf => ?_)
  · refine go_aload_n C 0 dX2_row_15 rfl rfl ?_
    refine gX_get_state C iX2_row_2 kX2_row_12 dX2_row_16 ?_
    refine gX_get_n_words C iX2_row_1 dX2_row_19 ?_
    refine go_iload_n C 1 dX2_row_22 rfl rfl ?_
    refine gX_rd_words C dX2_row_23 hf (fun v2 hf => ?_)
    cases hf
    exact go_iret C dX2_row_24
  · refine go_aload_n C 0 dX2_row_8 rfl rfl ?_
    refine go_bipush (v := (-2)) C dX2_row_9 (by decide) ?_
    refine call_X2_fail C gX2_row_X2_fail dX2_row_11 (by decide) (Nat.le_of_ble_eq_true rfl) hf (fun v3 hf => ?_)
    cases hf
    exact go_iret C dX2_row_14
set_option maxRecDepth 20000 in
theorem con_X2_row (l : Launch) (K : KK) (a : Nat → Nat) {len : Int32} {sz : Int32} {words : Nat → Int32} {checks : Nat → Int32} {cnt : Int32} {err : Nat → Int32} {vec : Nat → Int32} {bc : Int32} {pm : Nat → Nat} {sl : Nat → Int32} {ss : Nat → Int32} {sw : Nat → Nat → Int32} {sc : Nat → Nat → Int32} {x1 : Int32} {z : Int32 × (Nat → Int32)} (hf : fX2_row sz words err x1 = some z) : Con l yX2_row wsX2_row 1 K [.ref (a 0), .int x1] (xW K a len sz words checks cnt err vec bc pm sl ss sw sc) (some (.int z.1)) (xW K a len sz words checks cnt z.2 vec bc pm sl ss sw sc) :=
  con_of (cc := cX2_row) (maxL := 2) (ret := (some .int)) (own := RX2) (lv0 := [(0, .ref (a 0)), (1, .int x1)]) (by decide) rfl rfl (Nat.le_of_ble_eq_true rfl) rfl (fun p e s m args below meth c A C => go_lv (lv' := [(0, .ref (a 0)), (1, .int x1)]) [0, 1] rfl (WX2_row_0 C hf))
set_option maxRecDepth 20000 in
theorem call_X2_row {p : Program} {l : Launch} {e : Env} {s : State} {m : MethodId} {args : Array Value} {below : List Frame} {meth : Method} {c : Code} {K : KK} {A : Nat → Prop} {Q : State → Prop} {cc : ByteArray} {nL : Nat} {Ts : List Cond} {ret : Option FieldType} {pc : Nat} {lv : List (Nat × Value)} {st : List Value} {ix d : Nat} {α : Type} {kk : Int32 × (Nat → Int32) → Option α} {y : α} {a : Nat → Nat} {len : Int32} {sz : Int32} {words : Nat → Int32} {checks : Nat → Int32} {cnt : Int32} {err : Nat → Int32} {vec : Nat → Int32} {bc : Int32} {pm : Nat → Nat} {sl : Nat → Int32} {ss : Nat → Int32} {sw : Nat → Nat → Int32} {sc : Nat → Nat → Int32} {q0 : Int32} (C : Cx p s m args meth c K A cc nL RX2 Ts ret) (hG : GoodIn Ts (wsV RX2 ix RX2 yX2_row wsX2_row)) (hd : decode cc pc = .ok (.invokevirtual ix, 3)) (hdd : 1 < d) (hro : (st.map fun v => v.category).sum ≤ 8) (hf : (fX2_row sz words err q0).bind kk = some y) (k : ∀ v, kk v = some y → Go p l e (RM d) s m args below meth c K A nL 0 0 Q (xW K a len sz words checks cnt v.2 vec bc pm sl ss sw sc) (pc + 3) lv (.int (v.1) :: st)) : Go p l e (RM d) s m args below meth c K A nL 0 0 Q (xW K a len sz words checks cnt err vec bc pm sl ss sw sc) pc lv (.int q0 :: .ref (a 0) :: st) := by
  obtain ⟨v, hv, hf⟩ := bd_some hf
  exact go_callV_full (ry := (some .int)) (n := 1) (b := a 0) (As := [.int q0]) (rest := st) C (con_X2_row l K a hv) hG (by decide) rfl ⟨Nat.succ_le_of_lt hdd, by show 8 + (2 + 11) + 40 * 1 ≤ 40 * d; omega⟩ ⟨Nat.le_refl _, Nat.le_refl _⟩ ⟨0, 2, _, _, rfl, rfl, rfl⟩ rfl rfl hro hd (k v hf)
-- X2_isCheck
theorem iX2_isCheck_1 : ∀ w ∈ wsX10, w ∈ wsX2_isCheck := by decide +kernel
theorem iX2_isCheck_2 : ∀ w ∈ wsX20, w ∈ wsX2_isCheck := by decide +kernel
theorem kX2_isCheck_12 : Cond.fieldLink RX2 12 "CosetCoder" "state" "LCosetCoder$State;" ∈ wsX2_isCheck := by decide +kernel
set_option maxRecDepth 20000 in
set_option maxHeartbeats 2000000 in
theorem WX2_isCheck_32 {p : Program} {l : Launch} {e : Env} {s : State} {m : MethodId} {args : Array Value} {below : List Frame} {meth : Method} {c : Code} {K : KK} {A : Nat → Prop} {a : Nat → Nat} (C : Cx p s m args meth c K A cX2_isCheck 2 RX2 wsX2_isCheck (some .int)) {z : Int32 × (Nat → Int32)} {len : Int32} {sz : Int32} {words : Nat → Int32} {checks : Nat → Int32} {cnt : Int32} {vec : Nat → Int32} {bc : Int32} {pm : Nat → Nat} {sl : Nat → Int32} {ss : Nat → Int32} {sw : Nat → Nat → Int32} {sc : Nat → Nat → Int32} {err : Nat → Int32} {t0 : Int32} (hf : FX2_isCheck_32 sz checks  err t0 = some z) : Go p l e (RM 1) s m args below meth c K A 2 0 0 (MQ below (QR K (some (.int z.1)) (xW K a len sz words checks cnt z.2 vec bc pm sl ss sw sc) A) args s 0 0 A) (xW K a len sz words checks cnt err vec bc pm sl ss sw sc) 32 [] [.int t0] := by
  unfold FX2_isCheck_32 at hf
  cases hf
  exact go_iret C dX2_isCheck_32
set_option maxRecDepth 20000 in
set_option maxHeartbeats 2000000 in
theorem WX2_isCheck_0 {p : Program} {l : Launch} {e : Env} {s : State} {m : MethodId} {args : Array Value} {below : List Frame} {meth : Method} {c : Code} {K : KK} {A : Nat → Prop} {a : Nat → Nat} (C : Cx p s m args meth c K A cX2_isCheck 2 RX2 wsX2_isCheck (some .int)) {z : Int32 × (Nat → Int32)} {len : Int32} {sz : Int32} {words : Nat → Int32} {checks : Nat → Int32} {cnt : Int32} {vec : Nat → Int32} {bc : Int32} {pm : Nat → Nat} {sl : Nat → Int32} {ss : Nat → Int32} {sw : Nat → Nat → Int32} {sc : Nat → Nat → Int32} {err : Nat → Int32} {x1 : Int32} (hf : FX2_isCheck_0 sz checks  err x1 = some z) : Go p l e (RM 1) s m args below meth c K A 2 0 0 (MQ below (QR K (some (.int z.1)) (xW K a len sz words checks cnt z.2 vec bc pm sl ss sw sc) A) args s 0 0 A) (xW K a len sz words checks cnt err vec bc pm sl ss sw sc) 0 [(0, .ref (a 0)), (1, .int x1)] [] := by
  unfold FX2_isCheck_0 at hf
  refine go_aload_n C 0 dX2_isCheck_0 rfl rfl ?_
  refine go_iload_n C 1 dX2_isCheck_1 rfl rfl ?_
  refine call_X2_isRowNumber C gX2_isCheck_X2_isRowNumber dX2_isCheck_2 (by decide) (Nat.le_of_ble_eq_true rfl) hf (fun v1 hf => ?_)
  refine go_c1_ne C (tgt := 15) dX2_isCheck_5 (by decide) hf (fun h hf => ?_) (fun h hf => ?_)
  · refine go_aload_n C 0 dX2_isCheck_15 rfl rfl ?_
    refine gX_get_state C iX2_isCheck_2 kX2_isCheck_12 dX2_isCheck_16 ?_
    refine gX_get_n_checks C iX2_isCheck_1 dX2_isCheck_19 ?_
    refine go_iload_n C 1 dX2_isCheck_22 rfl rfl ?_
    refine gX_rd_checks C dX2_isCheck_23 hf (fun v2 hf => ?_)
    refine go_c1_eq C (tgt := 31) dX2_isCheck_24 (by decide) hf (fun h hf => ?_) (fun h hf => ?_)
    · refine go_iconst (v := 0) C dX2_isCheck_31 (by decide) ?_
      refine go_lv (lv' := []) [] rfl ?_
      exact WX2_isCheck_32 C  hf
    · refine go_iconst (v := 1) C dX2_isCheck_27 (by decide) ?_
      refine go_goto C (tgt := 32) dX2_isCheck_28 (by decide) ?_
      refine go_lv (lv' := []) [] rfl ?_
      exact WX2_isCheck_32 C  hf
  · refine go_aload_n C 0 dX2_isCheck_8 rfl rfl ?_
    refine go_bipush (v := (-2)) C dX2_isCheck_9 (by decide) ?_
    refine call_X2_fail C gX2_isCheck_X2_fail dX2_isCheck_11 (by decide) (Nat.le_of_ble_eq_true rfl) hf (fun v3 hf => ?_)
    cases hf
    exact go_iret C dX2_isCheck_14
set_option maxRecDepth 20000 in
theorem con_X2_isCheck (l : Launch) (K : KK) (a : Nat → Nat) {len : Int32} {sz : Int32} {words : Nat → Int32} {checks : Nat → Int32} {cnt : Int32} {err : Nat → Int32} {vec : Nat → Int32} {bc : Int32} {pm : Nat → Nat} {sl : Nat → Int32} {ss : Nat → Int32} {sw : Nat → Nat → Int32} {sc : Nat → Nat → Int32} {x1 : Int32} {z : Int32 × (Nat → Int32)} (hf : fX2_isCheck sz checks err x1 = some z) : Con l yX2_isCheck wsX2_isCheck 1 K [.ref (a 0), .int x1] (xW K a len sz words checks cnt err vec bc pm sl ss sw sc) (some (.int z.1)) (xW K a len sz words checks cnt z.2 vec bc pm sl ss sw sc) :=
  con_of (cc := cX2_isCheck) (maxL := 2) (ret := (some .int)) (own := RX2) (lv0 := [(0, .ref (a 0)), (1, .int x1)]) (by decide) rfl rfl (Nat.le_of_ble_eq_true rfl) rfl (fun p e s m args below meth c A C => go_lv (lv' := [(0, .ref (a 0)), (1, .int x1)]) [0, 1] rfl (WX2_isCheck_0 C hf))
set_option maxRecDepth 20000 in
theorem call_X2_isCheck {p : Program} {l : Launch} {e : Env} {s : State} {m : MethodId} {args : Array Value} {below : List Frame} {meth : Method} {c : Code} {K : KK} {A : Nat → Prop} {Q : State → Prop} {cc : ByteArray} {nL : Nat} {Ts : List Cond} {ret : Option FieldType} {pc : Nat} {lv : List (Nat × Value)} {st : List Value} {ix d : Nat} {α : Type} {kk : Int32 × (Nat → Int32) → Option α} {y : α} {a : Nat → Nat} {len : Int32} {sz : Int32} {words : Nat → Int32} {checks : Nat → Int32} {cnt : Int32} {err : Nat → Int32} {vec : Nat → Int32} {bc : Int32} {pm : Nat → Nat} {sl : Nat → Int32} {ss : Nat → Int32} {sw : Nat → Nat → Int32} {sc : Nat → Nat → Int32} {q0 : Int32} (C : Cx p s m args meth c K A cc nL RX2 Ts ret) (hG : GoodIn Ts (wsV RX2 ix RX2 yX2_isCheck wsX2_isCheck)) (hd : decode cc pc = .ok (.invokevirtual ix, 3)) (hdd : 1 < d) (hro : (st.map fun v => v.category).sum ≤ 8) (hf : (fX2_isCheck sz checks err q0).bind kk = some y) (k : ∀ v, kk v = some y → Go p l e (RM d) s m args below meth c K A nL 0 0 Q (xW K a len sz words checks cnt v.2 vec bc pm sl ss sw sc) (pc + 3) lv (.int (v.1) :: st)) : Go p l e (RM d) s m args below meth c K A nL 0 0 Q (xW K a len sz words checks cnt err vec bc pm sl ss sw sc) pc lv (.int q0 :: .ref (a 0) :: st) := by
  obtain ⟨v, hv, hf⟩ := bd_some hf
  exact go_callV_full (ry := (some .int)) (n := 1) (b := a 0) (As := [.int q0]) (rest := st) C (con_X2_isCheck l K a hv) hG (by decide) rfl ⟨Nat.succ_le_of_lt hdd, by show 8 + (2 + 11) + 40 * 1 ≤ 40 * d; omega⟩ ⟨Nat.le_refl _, Nat.le_refl _⟩ ⟨0, 2, _, _, rfl, rfl, rfl⟩ rfl rfl hro hd (k v hf)
-- X2_extendBasis
theorem iX2_extendBasis_1 : ∀ w ∈ wsX10, w ∈ wsX2_extendBasis := by decide +kernel
theorem iX2_extendBasis_2 : ∀ w ∈ wsX20, w ∈ wsX2_extendBasis := by decide +kernel
theorem kX2_extendBasis_12 : Cond.fieldLink RX2 12 "CosetCoder" "state" "LCosetCoder$State;" ∈ wsX2_extendBasis := by decide +kernel
theorem kX2_extendBasis_31 : Cond.fieldLink RX2 31 "CosetCoder" "basis" "LCosetCoder$Basis;" ∈ wsX2_extendBasis := by decide +kernel
set_option maxRecDepth 20000 in
set_option maxHeartbeats 2000000 in
theorem WX2_extendBasis_56 {p : Program} {l : Launch} {e : Env} {s : State} {m : MethodId} {args : Array Value} {below : List Frame} {meth : Method} {c : Code} {K : KK} {A : Nat → Prop} {a : Nat → Nat} (C : Cx p s m args meth c K A cX2_extendBasis 5 RX2 wsX2_extendBasis (some .int)) {z : Int32 × (Nat → Int32) × Int32} {len : Int32} {sz : Int32} {words : Nat → Int32} {checks : Nat → Int32} {cnt : Int32} {err : Nat → Int32} {pm : Nat → Nat} {sl : Nat → Int32} {ss : Nat → Int32} {sw : Nat → Nat → Int32} {sc : Nat → Nat → Int32} {r5 : (Nat → Int32) → (Int32) → Int32 → Int32 → Int32 → Int32 → Option (Int32 × (Nat → Int32) × Int32)} {vec : Nat → Int32} {bc : Int32} {x1 : Int32} {x2 : Int32} {x3 : Int32} {x4 : Int32} (hr5 : ∀ (vec : Nat → Int32) (bc : Int32) (x1 : Int32) (x2 : Int32) (x3 : Int32) (x4 : Int32), r5 vec bc x1 x2 x3 x4 = some z → Go p l e (RM 2) s m args below meth c K A 5 0 0 (MQ below (QR K (some (.int z.1)) (xW K a len sz words checks cnt err z.2.1 z.2.2 pm sl ss sw sc) A) args s 0 0 A) (xW K a len sz words checks cnt err vec bc pm sl ss sw sc) 5 [(0, .ref (a 0)), (1, .int x1), (2, .int x2), (3, .int x3), (4, .int x4)] []) (hf : FX2_extendBasis_56 sz words checks r5 vec bc x1 x2 x3 x4 = some z) : Go p l e (RM 2) s m args below meth c K A 5 0 0 (MQ below (QR K (some (.int z.1)) (xW K a len sz words checks cnt err z.2.1 z.2.2 pm sl ss sw sc) A) args s 0 0 A) (xW K a len sz words checks cnt err vec bc pm sl ss sw sc) 56 [(0, .ref (a 0)), (1, .int x1), (2, .int x2), (3, .int x3), (4, .int x4)] [] := by
  unfold FX2_extendBasis_56 at hf
  refine go_iinc C (v := x4 + 1) (lv' := [(0, .ref (a 0)), (1, .int x1), (2, .int x2), (3, .int x3), (4, .int (x4 + 1))]) 4 [1, 2, 3, 4, 0] dX2_extendBasis_56 rfl rfl (by decide) rfl ?_
  refine go_goto C (tgt := 5) dX2_extendBasis_59 (by decide) ?_
  exact hr5 _ _ _ _ _ _ hf
set_option maxRecDepth 20000 in
set_option maxHeartbeats 2000000 in
theorem WX2_extendBasis_5 {p : Program} {l : Launch} {e : Env} {s : State} {m : MethodId} {args : Array Value} {below : List Frame} {meth : Method} {c : Code} {K : KK} {A : Nat → Prop} {a : Nat → Nat} (C : Cx p s m args meth c K A cX2_extendBasis 5 RX2 wsX2_extendBasis (some .int)) {z : Int32 × (Nat → Int32) × Int32} {len : Int32} {sz : Int32} {words : Nat → Int32} {checks : Nat → Int32} {cnt : Int32} {err : Nat → Int32} {pm : Nat → Nat} {sl : Nat → Int32} {ss : Nat → Int32} {sw : Nat → Nat → Int32} {sc : Nat → Nat → Int32} {r5 : (Nat → Int32) → (Int32) → Int32 → Int32 → Int32 → Int32 → Option (Int32 × (Nat → Int32) × Int32)} {vec : Nat → Int32} {bc : Int32} {x1 : Int32} {x2 : Int32} {x3 : Int32} {x4 : Int32} (hr5 : ∀ (vec : Nat → Int32) (bc : Int32) (x1 : Int32) (x2 : Int32) (x3 : Int32) (x4 : Int32), r5 vec bc x1 x2 x3 x4 = some z → Go p l e (RM 2) s m args below meth c K A 5 0 0 (MQ below (QR K (some (.int z.1)) (xW K a len sz words checks cnt err z.2.1 z.2.2 pm sl ss sw sc) A) args s 0 0 A) (xW K a len sz words checks cnt err vec bc pm sl ss sw sc) 5 [(0, .ref (a 0)), (1, .int x1), (2, .int x2), (3, .int x3), (4, .int x4)] []) (hf : FX2_extendBasis_5 sz words checks r5 vec bc x1 x2 x3 x4 = some z) : Go p l e (RM 2) s m args below meth c K A 5 0 0 (MQ below (QR K (some (.int z.1)) (xW K a len sz words checks cnt err z.2.1 z.2.2 pm sl ss sw sc) A) args s 0 0 A) (xW K a len sz words checks cnt err vec bc pm sl ss sw sc) 5 [(0, .ref (a 0)), (1, .int x1), (2, .int x2), (3, .int x3), (4, .int x4)] [] := by
  unfold FX2_extendBasis_5 at hf
  refine go_iload C 4 dX2_extendBasis_5 rfl ?_
  refine go_aload_n C 0 dX2_extendBasis_7 rfl rfl ?_
  refine gX_get_state C iX2_extendBasis_2 kX2_extendBasis_12 dX2_extendBasis_8 ?_
  refine gX_get_n_size C iX2_extendBasis_1 dX2_extendBasis_11 ?_
  refine go_c2_ge C (tgt := 62) dX2_extendBasis_14 (by decide) hf (fun h hf => ?_) (fun h hf => ?_)
  · refine go_iload_n C 3 dX2_extendBasis_62 rfl rfl ?_
    cases hf
    exact go_iret C dX2_extendBasis_63
  · refine go_aload_n C 0 dX2_extendBasis_17 rfl rfl ?_
    refine gX_get_state C iX2_extendBasis_2 kX2_extendBasis_12 dX2_extendBasis_18 ?_
    refine gX_get_n_checks C iX2_extendBasis_1 dX2_extendBasis_21 ?_
    refine go_iload C 4 dX2_extendBasis_24 rfl ?_
    refine gX_rd_checks C dX2_extendBasis_26 hf (fun v1 hf => ?_)
    refine go_iload_n C 1 dX2_extendBasis_27 rfl rfl ?_
    refine go_c2_ne C (tgt := 56) dX2_extendBasis_28 (by decide) hf (fun h hf => ?_) (fun h hf => ?_)
    · exact WX2_extendBasis_56 C hr5 hf
    · refine go_aload_n C 0 dX2_extendBasis_31 rfl rfl ?_
      refine gX_get_basis C iX2_extendBasis_2 kX2_extendBasis_31 dX2_extendBasis_32 ?_
      refine go_aload_n C 0 dX2_extendBasis_35 rfl rfl ?_
      refine gX_get_state C iX2_extendBasis_2 kX2_extendBasis_12 dX2_extendBasis_36 ?_
      refine gX_get_n_words C iX2_extendBasis_1 dX2_extendBasis_39 ?_
      refine go_iload C 4 dX2_extendBasis_42 rfl ?_
      refine gX_rd_words C dX2_extendBasis_44 hf (fun v2 hf => ?_)
      refine go_iload_n C 2 dX2_extendBasis_45 rfl rfl ?_
      refine go_iand C dX2_extendBasis_46 ?_
      refine call_X0_extend C gX2_extendBasis_X0_extend_n69 (by decide +kernel) (by decide +kernel) (by decide +kernel) dX2_extendBasis_47 (by decide) (Nat.le_of_ble_eq_true rfl) hf (fun v3 hf => ?_)
      refine go_c1_eq C (tgt := 56) dX2_extendBasis_50 (by decide) hf (fun h hf => ?_) (fun h hf => ?_)
      · exact WX2_extendBasis_56 C hr5 hf
      · refine go_iinc C (v := x3 + 1) (lv' := [(0, .ref (a 0)), (1, .int x1), (2, .int x2), (3, .int (x3 + 1)), (4, .int x4)]) 3 [1, 2, 3, 0, 4] dX2_extendBasis_53 rfl rfl (by decide) rfl ?_
        exact WX2_extendBasis_56 C hr5 hf
theorem wX2_extendBasis_5 {p : Program} {l : Launch} {e : Env} {s : State} {m : MethodId} {args : Array Value} {below : List Frame} {meth : Method} {c : Code} {K : KK} {A : Nat → Prop} {a : Nat → Nat} (C : Cx p s m args meth c K A cX2_extendBasis 5 RX2 wsX2_extendBasis (some .int)) {z : Int32 × (Nat → Int32) × Int32} {len : Int32} {sz : Int32} {words : Nat → Int32} {checks : Nat → Int32} {cnt : Int32} {err : Nat → Int32} {pm : Nat → Nat} {sl : Nat → Int32} {ss : Nat → Int32} {sw : Nat → Nat → Int32} {sc : Nat → Nat → Int32} : ∀ (n : Nat) (vec : Nat → Int32) (bc : Int32) (x1 : Int32) (x2 : Int32) (x3 : Int32) (x4 : Int32), fX2_extendBasis_5 sz words checks  n vec bc x1 x2 x3 x4 = some z → Go p l e (RM 2) s m args below meth c K A 5 0 0 (MQ below (QR K (some (.int z.1)) (xW K a len sz words checks cnt err z.2.1 z.2.2 pm sl ss sw sc) A) args s 0 0 A) (xW K a len sz words checks cnt err vec bc pm sl ss sw sc) 5 [(0, .ref (a 0)), (1, .int x1), (2, .int x2), (3, .int x3), (4, .int x4)] [] := by
  intro n
  induction n with
  | zero => intro _ _ _ _ _ _ hf; cases hf
  | succ n ih => intro _ _ _ _ _ _ hf; exact WX2_extendBasis_5 C  ih hf
set_option maxRecDepth 20000 in
set_option maxHeartbeats 2000000 in
theorem WX2_extendBasis_0 {p : Program} {l : Launch} {e : Env} {s : State} {m : MethodId} {args : Array Value} {below : List Frame} {meth : Method} {c : Code} {K : KK} {A : Nat → Prop} {a : Nat → Nat} (C : Cx p s m args meth c K A cX2_extendBasis 5 RX2 wsX2_extendBasis (some .int)) {z : Int32 × (Nat → Int32) × Int32} {len : Int32} {sz : Int32} {words : Nat → Int32} {checks : Nat → Int32} {cnt : Int32} {err : Nat → Int32} {pm : Nat → Nat} {sl : Nat → Int32} {ss : Nat → Int32} {sw : Nat → Nat → Int32} {sc : Nat → Nat → Int32} {vec : Nat → Int32} {bc : Int32} {x1 : Int32} {x2 : Int32} (hf : FX2_extendBasis_0 sz words checks  vec bc x1 x2 = some z) : Go p l e (RM 2) s m args below meth c K A 5 0 0 (MQ below (QR K (some (.int z.1)) (xW K a len sz words checks cnt err z.2.1 z.2.2 pm sl ss sw sc) A) args s 0 0 A) (xW K a len sz words checks cnt err vec bc pm sl ss sw sc) 0 [(0, .ref (a 0)), (1, .int x1), (2, .int x2)] [] := by
  unfold FX2_extendBasis_0 at hf
  refine go_iconst (v := 0) C dX2_extendBasis_0 (by decide) ?_
  refine go_istore_n C (lv' := [(0, .ref (a 0)), (1, .int x1), (2, .int x2), (3, .int 0)]) [1, 2, 3, 0] dX2_extendBasis_1 rfl (by decide) rfl ?_
  refine go_iconst (v := 0) C dX2_extendBasis_2 (by decide) ?_
  refine go_istore C (lv' := [(0, .ref (a 0)), (1, .int x1), (2, .int x2), (3, .int 0), (4, .int 0)]) [1, 2, 3, 4, 0] dX2_extendBasis_3 (by decide) rfl ?_
  exact wX2_extendBasis_5 C  300 _ _ _ _ _ _ hf
set_option maxRecDepth 20000 in
theorem con_X2_extendBasis (l : Launch) (K : KK) (a : Nat → Nat) {len : Int32} {sz : Int32} {words : Nat → Int32} {checks : Nat → Int32} {cnt : Int32} {err : Nat → Int32} {vec : Nat → Int32} {bc : Int32} {pm : Nat → Nat} {sl : Nat → Int32} {ss : Nat → Int32} {sw : Nat → Nat → Int32} {sc : Nat → Nat → Int32} {x1 : Int32} {x2 : Int32} {z : Int32 × (Nat → Int32) × Int32} (hf : fX2_extendBasis sz words checks vec bc x1 x2 = some z) : Con l yX2_extendBasis wsX2_extendBasis 2 K [.ref (a 0), .int x1, .int x2] (xW K a len sz words checks cnt err vec bc pm sl ss sw sc) (some (.int z.1)) (xW K a len sz words checks cnt err z.2.1 z.2.2 pm sl ss sw sc) :=
  con_of (cc := cX2_extendBasis) (maxL := 5) (ret := (some .int)) (own := RX2) (lv0 := [(0, .ref (a 0)), (1, .int x1), (2, .int x2)]) (by decide) rfl rfl (Nat.le_of_ble_eq_true rfl) rfl (fun p e s m args below meth c A C => go_lv (lv' := [(0, .ref (a 0)), (1, .int x1), (2, .int x2)]) [0, 1, 2] rfl (WX2_extendBasis_0 C hf))
set_option maxRecDepth 20000 in
theorem call_X2_extendBasis {p : Program} {l : Launch} {e : Env} {s : State} {m : MethodId} {args : Array Value} {below : List Frame} {meth : Method} {c : Code} {K : KK} {A : Nat → Prop} {Q : State → Prop} {cc : ByteArray} {nL : Nat} {Ts : List Cond} {ret : Option FieldType} {pc : Nat} {lv : List (Nat × Value)} {st : List Value} {ix d : Nat} {α : Type} {kk : Int32 × (Nat → Int32) × Int32 → Option α} {y : α} {a : Nat → Nat} {len : Int32} {sz : Int32} {words : Nat → Int32} {checks : Nat → Int32} {cnt : Int32} {err : Nat → Int32} {vec : Nat → Int32} {bc : Int32} {pm : Nat → Nat} {sl : Nat → Int32} {ss : Nat → Int32} {sw : Nat → Nat → Int32} {sc : Nat → Nat → Int32} {q0 : Int32} {q1 : Int32} (C : Cx p s m args meth c K A cc nL RX2 Ts ret) (hG : GoodIn Ts (wsV RX2 ix RX2 yX2_extendBasis wsX2_extendBasis)) (hd : decode cc pc = .ok (.invokevirtual ix, 3)) (hdd : 2 < d) (hro : (st.map fun v => v.category).sum ≤ 8) (hf : (fX2_extendBasis sz words checks vec bc q0 q1).bind kk = some y) (k : ∀ v, kk v = some y → Go p l e (RM d) s m args below meth c K A nL 0 0 Q (xW K a len sz words checks cnt err v.2.1 v.2.2 pm sl ss sw sc) (pc + 3) lv (.int (v.1) :: st)) : Go p l e (RM d) s m args below meth c K A nL 0 0 Q (xW K a len sz words checks cnt err vec bc pm sl ss sw sc) pc lv (.int q1 :: .int q0 :: .ref (a 0) :: st) := by
  obtain ⟨v, hv, hf⟩ := bd_some hf
  exact go_callV_full (ry := (some .int)) (n := 2) (b := a 0) (As := [.int q0, .int q1]) (rest := st) C (con_X2_extendBasis l K a hv) hG (by decide) rfl ⟨Nat.succ_le_of_lt hdd, by show 8 + (5 + 11) + 40 * 2 ≤ 40 * d; omega⟩ ⟨Nat.le_refl _, Nat.le_refl _⟩ ⟨0, 2, _, _, rfl, rfl, rfl⟩ rfl rfl hro hd (k v hf)
-- X2_rankOfKind
theorem iX2_rankOfKind_2 : ∀ w ∈ wsX20, w ∈ wsX2_rankOfKind := by decide +kernel
theorem kX2_rankOfKind_31 : Cond.fieldLink RX2 31 "CosetCoder" "basis" "LCosetCoder$Basis;" ∈ wsX2_rankOfKind := by decide +kernel
set_option maxRecDepth 20000 in
set_option maxHeartbeats 2000000 in
theorem WX2_rankOfKind_42 {p : Program} {l : Launch} {e : Env} {s : State} {m : MethodId} {args : Array Value} {below : List Frame} {meth : Method} {c : Code} {K : KK} {A : Nat → Prop} {a : Nat → Nat} (C : Cx p s m args meth c K A cX2_rankOfKind 3 RX2 wsX2_rankOfKind (some .int)) {z : Int32 × (Nat → Int32) × Int32} {len : Int32} {sz : Int32} {words : Nat → Int32} {checks : Nat → Int32} {cnt : Int32} {err : Nat → Int32} {pm : Nat → Nat} {sl : Nat → Int32} {ss : Nat → Int32} {sw : Nat → Nat → Int32} {sc : Nat → Nat → Int32} {vec : Nat → Int32} {bc : Int32} {x2 : Int32} (hf : FX2_rankOfKind_42 len sz words checks  vec bc x2 = some z) : Go p l e (RM 3) s m args below meth c K A 3 0 0 (MQ below (QR K (some (.int z.1)) (xW K a len sz words checks cnt err z.2.1 z.2.2 pm sl ss sw sc) A) args s 0 0 A) (xW K a len sz words checks cnt err vec bc pm sl ss sw sc) 42 [(2, .int x2)] [] := by
  unfold FX2_rankOfKind_42 at hf
  refine go_iload_n C 0 dX2_rankOfKind_42 rfl rfl ?_
  cases hf
  exact go_iret C dX2_rankOfKind_43
set_option maxRecDepth 20000 in
set_option maxHeartbeats 2000000 in
theorem WX2_rankOfKind_26 {p : Program} {l : Launch} {e : Env} {s : State} {m : MethodId} {args : Array Value} {below : List Frame} {meth : Method} {c : Code} {K : KK} {A : Nat → Prop} {a : Nat → Nat} (C : Cx p s m args meth c K A cX2_rankOfKind 3 RX2 wsX2_rankOfKind (some .int)) {z : Int32 × (Nat → Int32) × Int32} {len : Int32} {sz : Int32} {words : Nat → Int32} {checks : Nat → Int32} {cnt : Int32} {err : Nat → Int32} {pm : Nat → Nat} {sl : Nat → Int32} {ss : Nat → Int32} {sw : Nat → Nat → Int32} {sc : Nat → Nat → Int32} {vec : Nat → Int32} {bc : Int32} {x1 : Int32} {x2 : Int32} (hf : FX2_rankOfKind_26 len sz words checks  vec bc x1 x2 = some z) : Go p l e (RM 3) s m args below meth c K A 3 0 0 (MQ below (QR K (some (.int z.1)) (xW K a len sz words checks cnt err z.2.1 z.2.2 pm sl ss sw sc) A) args s 0 0 A) (xW K a len sz words checks cnt err vec bc pm sl ss sw sc) 26 [(0, .ref (a 0)), (1, .int x1), (2, .int x2)] [] := by
  unfold FX2_rankOfKind_26 at hf
  refine go_iload_n C 1 dX2_rankOfKind_26 rfl rfl ?_
  refine go_c1_eq C (tgt := 42) dX2_rankOfKind_27 (by decide) hf (fun h hf => ?_) (fun h hf => ?_)
  · refine go_lv (lv' := [(2, .int x2)]) [2] rfl ?_
    exact WX2_rankOfKind_42 C  hf
  · refine go_iload_n C 2 dX2_rankOfKind_30 rfl rfl ?_
    refine go_aload_n C 0 dX2_rankOfKind_31 rfl rfl ?_
    refine go_iconst (v := 1) C dX2_rankOfKind_32 (by decide) ?_
    refine go_aload_n C 0 dX2_rankOfKind_33 rfl rfl ?_
    refine call_X2_allPositions C gX2_rankOfKind_X2_allPositions dX2_rankOfKind_34 (by decide) (Nat.le_of_ble_eq_true rfl) hf (fun v1 hf => ?_)
    refine call_X2_extendBasis C gX2_rankOfKind_X2_extendBasis dX2_rankOfKind_37 (by decide) (Nat.le_of_ble_eq_true rfl) hf (fun v2 hf => ?_)
    refine go_iadd C dX2_rankOfKind_40 ?_
    refine go_istore_n C (lv' := [(0, .ref (a 0)), (1, .int x1), (2, .int (x2 + v2.1))]) [1, 2, 0] dX2_rankOfKind_41 rfl (by decide) rfl ?_
    refine go_lv (lv' := [(2, .int (x2 + v2.1))]) [2] rfl ?_
    exact WX2_rankOfKind_42 C  hf
set_option maxRecDepth 20000 in
set_option maxHeartbeats 2000000 in
theorem WX2_rankOfKind_0 {p : Program} {l : Launch} {e : Env} {s : State} {m : MethodId} {args : Array Value} {below : List Frame} {meth : Method} {c : Code} {K : KK} {A : Nat → Prop} {a : Nat → Nat} (C : Cx p s m args meth c K A cX2_rankOfKind 3 RX2 wsX2_rankOfKind (some .int)) {z : Int32 × (Nat → Int32) × Int32} {len : Int32} {sz : Int32} {words : Nat → Int32} {checks : Nat → Int32} {cnt : Int32} {err : Nat → Int32} {pm : Nat → Nat} {sl : Nat → Int32} {ss : Nat → Int32} {sw : Nat → Nat → Int32} {sc : Nat → Nat → Int32} {vec : Nat → Int32} {bc : Int32} {x1 : Int32} (hf : FX2_rankOfKind_0 len sz words checks  vec bc x1 = some z) : Go p l e (RM 3) s m args below meth c K A 3 0 0 (MQ below (QR K (some (.int z.1)) (xW K a len sz words checks cnt err z.2.1 z.2.2 pm sl ss sw sc) A) args s 0 0 A) (xW K a len sz words checks cnt err vec bc pm sl ss sw sc) 0 [(0, .ref (a 0)), (1, .int x1)] [] := by
  unfold FX2_rankOfKind_0 at hf
  refine go_aload_n C 0 dX2_rankOfKind_0 rfl rfl ?_
  refine gX_get_basis C iX2_rankOfKind_2 kX2_rankOfKind_31 dX2_rankOfKind_1 ?_
  refine call_X0_clear C gX2_rankOfKind_X0_clear_n66 (by decide +kernel) (by decide +kernel) (by decide +kernel) dX2_rankOfKind_4 (by decide) (Nat.le_of_ble_eq_true rfl) hf (fun v3 hf => ?_)
  refine go_iconst (v := 0) C dX2_rankOfKind_7 (by decide) ?_
  refine go_istore_n C (lv' := [(0, .ref (a 0)), (1, .int x1), (2, .int 0)]) [1, 2, 0] dX2_rankOfKind_8 rfl (by decide) rfl ?_
  refine go_iload_n C 1 dX2_rankOfKind_9 rfl rfl ?_
  refine go_iconst (v := 1) C dX2_rankOfKind_10 (by decide) ?_
  refine go_c2_eq C (tgt := 26) dX2_rankOfKind_11 (by decide) hf (fun h hf => ?_) (fun h hf => ?_)
  · exact WX2_rankOfKind_26 C  hf
  · refine go_iload_n C 2 dX2_rankOfKind_14 rfl rfl ?_
    refine go_aload_n C 0 dX2_rankOfKind_15 rfl rfl ?_
    refine go_iconst (v := 0) C dX2_rankOfKind_16 (by decide) ?_
    refine go_aload_n C 0 dX2_rankOfKind_17 rfl rfl ?_
    refine call_X2_allPositions C gX2_rankOfKind_X2_allPositions dX2_rankOfKind_18 (by decide) (Nat.le_of_ble_eq_true rfl) hf (fun v4 hf => ?_)
    refine call_X2_extendBasis C gX2_rankOfKind_X2_extendBasis dX2_rankOfKind_21 (by decide) (Nat.le_of_ble_eq_true rfl) hf (fun v5 hf => ?_)
    refine go_iadd C dX2_rankOfKind_24 ?_
    refine go_istore_n C (lv' := [(0, .ref (a 0)), (1, .int x1), (2, .int ((0 : Int32) + v5.1))]) [1, 2, 0] dX2_rankOfKind_25 rfl (by decide) rfl ?_
    exact WX2_rankOfKind_26 C  hf
set_option maxRecDepth 20000 in
theorem con_X2_rankOfKind (l : Launch) (K : KK) (a : Nat → Nat) {len : Int32} {sz : Int32} {words : Nat → Int32} {checks : Nat → Int32} {cnt : Int32} {err : Nat → Int32} {vec : Nat → Int32} {bc : Int32} {pm : Nat → Nat} {sl : Nat → Int32} {ss : Nat → Int32} {sw : Nat → Nat → Int32} {sc : Nat → Nat → Int32} {x1 : Int32} {z : Int32 × (Nat → Int32) × Int32} (hf : fX2_rankOfKind len sz words checks vec bc x1 = some z) : Con l yX2_rankOfKind wsX2_rankOfKind 3 K [.ref (a 0), .int x1] (xW K a len sz words checks cnt err vec bc pm sl ss sw sc) (some (.int z.1)) (xW K a len sz words checks cnt err z.2.1 z.2.2 pm sl ss sw sc) :=
  con_of (cc := cX2_rankOfKind) (maxL := 3) (ret := (some .int)) (own := RX2) (lv0 := [(0, .ref (a 0)), (1, .int x1)]) (by decide) rfl rfl (Nat.le_of_ble_eq_true rfl) rfl (fun p e s m args below meth c A C => go_lv (lv' := [(0, .ref (a 0)), (1, .int x1)]) [0, 1] rfl (WX2_rankOfKind_0 C hf))
set_option maxRecDepth 20000 in
theorem call_X2_rankOfKind {p : Program} {l : Launch} {e : Env} {s : State} {m : MethodId} {args : Array Value} {below : List Frame} {meth : Method} {c : Code} {K : KK} {A : Nat → Prop} {Q : State → Prop} {cc : ByteArray} {nL : Nat} {Ts : List Cond} {ret : Option FieldType} {pc : Nat} {lv : List (Nat × Value)} {st : List Value} {ix d : Nat} {α : Type} {kk : Int32 × (Nat → Int32) × Int32 → Option α} {y : α} {a : Nat → Nat} {len : Int32} {sz : Int32} {words : Nat → Int32} {checks : Nat → Int32} {cnt : Int32} {err : Nat → Int32} {vec : Nat → Int32} {bc : Int32} {pm : Nat → Nat} {sl : Nat → Int32} {ss : Nat → Int32} {sw : Nat → Nat → Int32} {sc : Nat → Nat → Int32} {q0 : Int32} (C : Cx p s m args meth c K A cc nL RX2 Ts ret) (hG : GoodIn Ts (wsV RX2 ix RX2 yX2_rankOfKind wsX2_rankOfKind)) (hd : decode cc pc = .ok (.invokevirtual ix, 3)) (hdd : 3 < d) (hro : (st.map fun v => v.category).sum ≤ 8) (hf : (fX2_rankOfKind len sz words checks vec bc q0).bind kk = some y) (k : ∀ v, kk v = some y → Go p l e (RM d) s m args below meth c K A nL 0 0 Q (xW K a len sz words checks cnt err v.2.1 v.2.2 pm sl ss sw sc) (pc + 3) lv (.int (v.1) :: st)) : Go p l e (RM d) s m args below meth c K A nL 0 0 Q (xW K a len sz words checks cnt err vec bc pm sl ss sw sc) pc lv (.int q0 :: .ref (a 0) :: st) := by
  obtain ⟨v, hv, hf⟩ := bd_some hf
  exact go_callV_full (ry := (some .int)) (n := 1) (b := a 0) (As := [.int q0]) (rest := st) C (con_X2_rankOfKind l K a hv) hG (by decide) rfl ⟨Nat.succ_le_of_lt hdd, by show 8 + (3 + 11) + 40 * 3 ≤ 40 * d; omega⟩ ⟨Nat.le_refl _, Nat.le_refl _⟩ ⟨0, 2, _, _, rfl, rfl, rfl⟩ rfl rfl hro hd (k v hf)
-- X2_rank
set_option maxRecDepth 20000 in
set_option maxHeartbeats 2000000 in
theorem WX2_rank_9 {p : Program} {l : Launch} {e : Env} {s : State} {m : MethodId} {args : Array Value} {below : List Frame} {meth : Method} {c : Code} {K : KK} {A : Nat → Prop} {a : Nat → Nat} (C : Cx p s m args meth c K A cX2_rank 2 RX2 wsX2_rank (some .int)) {z : Int32 × (Nat → Int32) × (Nat → Int32) × Int32} {len : Int32} {sz : Int32} {words : Nat → Int32} {checks : Nat → Int32} {cnt : Int32} {pm : Nat → Nat} {sl : Nat → Int32} {ss : Nat → Int32} {sw : Nat → Nat → Int32} {sc : Nat → Nat → Int32} {err : Nat → Int32} {vec : Nat → Int32} {bc : Int32} (hf : FX2_rank_9 len sz words checks  err vec bc = some z) : Go p l e (RM 4) s m args below meth c K A 2 0 0 (MQ below (QR K (some (.int z.1)) (xW K a len sz words checks cnt z.2.1 z.2.2.1 z.2.2.2 pm sl ss sw sc) A) args s 0 0 A) (xW K a len sz words checks cnt err vec bc pm sl ss sw sc) 9 [(0, .ref (a 0))] [] := by
  unfold FX2_rank_9 at hf
  refine go_aload_n C 0 dX2_rank_9 rfl rfl ?_
  refine go_bipush (v := (-2)) C dX2_rank_10 (by decide) ?_
  refine call_X2_fail C gX2_rank_X2_fail dX2_rank_12 (by decide) (Nat.le_of_ble_eq_true rfl) hf (fun v1 hf => ?_)
  cases hf
  exact go_iret C dX2_rank_15
set_option maxRecDepth 20000 in
set_option maxHeartbeats 2000000 in
theorem WX2_rank_0 {p : Program} {l : Launch} {e : Env} {s : State} {m : MethodId} {args : Array Value} {below : List Frame} {meth : Method} {c : Code} {K : KK} {A : Nat → Prop} {a : Nat → Nat} (C : Cx p s m args meth c K A cX2_rank 2 RX2 wsX2_rank (some .int)) {z : Int32 × (Nat → Int32) × (Nat → Int32) × Int32} {len : Int32} {sz : Int32} {words : Nat → Int32} {checks : Nat → Int32} {cnt : Int32} {pm : Nat → Nat} {sl : Nat → Int32} {ss : Nat → Int32} {sw : Nat → Nat → Int32} {sc : Nat → Nat → Int32} {err : Nat → Int32} {vec : Nat → Int32} {bc : Int32} {x1 : Int32} (hf : FX2_rank_0 len sz words checks  err vec bc x1 = some z) : Go p l e (RM 4) s m args below meth c K A 2 0 0 (MQ below (QR K (some (.int z.1)) (xW K a len sz words checks cnt z.2.1 z.2.2.1 z.2.2.2 pm sl ss sw sc) A) args s 0 0 A) (xW K a len sz words checks cnt err vec bc pm sl ss sw sc) 0 [(0, .ref (a 0)), (1, .int x1)] [] := by
  unfold FX2_rank_0 at hf
  refine go_iload_n C 1 dX2_rank_0 rfl rfl ?_
  refine go_c1_lt C (tgt := 9) dX2_rank_1 (by decide) hf (fun h hf => ?_) (fun h hf => ?_)
  · refine go_lv (lv' := [(0, .ref (a 0))]) [0] rfl ?_
    exact WX2_rank_9 C  hf
  · refine go_iload_n C 1 dX2_rank_4 rfl rfl ?_
    refine go_iconst (v := 2) C dX2_rank_5 (by decide) ?_
    refine go_c2_le C (tgt := 16) dX2_rank_6 (by decide) hf (fun h hf => ?_) (fun h hf => ?_)
    · refine go_aload_n C 0 dX2_rank_16 rfl rfl ?_
      refine go_iload_n C 1 dX2_rank_17 rfl rfl ?_
      refine call_X2_rankOfKind C gX2_rank_X2_rankOfKind dX2_rank_18 (by decide) (Nat.le_of_ble_eq_true rfl) hf (fun v2 hf => ?_)
      cases hf
      exact go_iret C dX2_rank_21
    · refine go_lv (lv' := [(0, .ref (a 0))]) [0] rfl ?_
      exact WX2_rank_9 C  hf
set_option maxRecDepth 20000 in
theorem con_X2_rank (l : Launch) (K : KK) (a : Nat → Nat) {len : Int32} {sz : Int32} {words : Nat → Int32} {checks : Nat → Int32} {cnt : Int32} {err : Nat → Int32} {vec : Nat → Int32} {bc : Int32} {pm : Nat → Nat} {sl : Nat → Int32} {ss : Nat → Int32} {sw : Nat → Nat → Int32} {sc : Nat → Nat → Int32} {x1 : Int32} {z : Int32 × (Nat → Int32) × (Nat → Int32) × Int32} (hf : fX2_rank len sz words checks err vec bc x1 = some z) : Con l yX2_rank wsX2_rank 4 K [.ref (a 0), .int x1] (xW K a len sz words checks cnt err vec bc pm sl ss sw sc) (some (.int z.1)) (xW K a len sz words checks cnt z.2.1 z.2.2.1 z.2.2.2 pm sl ss sw sc) :=
  con_of (cc := cX2_rank) (maxL := 2) (ret := (some .int)) (own := RX2) (lv0 := [(0, .ref (a 0)), (1, .int x1)]) (by decide) rfl rfl (Nat.le_of_ble_eq_true rfl) rfl (fun p e s m args below meth c A C => go_lv (lv' := [(0, .ref (a 0)), (1, .int x1)]) [0, 1] rfl (WX2_rank_0 C hf))
set_option maxRecDepth 20000 in
theorem call_X2_rank {p : Program} {l : Launch} {e : Env} {s : State} {m : MethodId} {args : Array Value} {below : List Frame} {meth : Method} {c : Code} {K : KK} {A : Nat → Prop} {Q : State → Prop} {cc : ByteArray} {nL : Nat} {Ts : List Cond} {ret : Option FieldType} {pc : Nat} {lv : List (Nat × Value)} {st : List Value} {ix d : Nat} {α : Type} {kk : Int32 × (Nat → Int32) × (Nat → Int32) × Int32 → Option α} {y : α} {a : Nat → Nat} {len : Int32} {sz : Int32} {words : Nat → Int32} {checks : Nat → Int32} {cnt : Int32} {err : Nat → Int32} {vec : Nat → Int32} {bc : Int32} {pm : Nat → Nat} {sl : Nat → Int32} {ss : Nat → Int32} {sw : Nat → Nat → Int32} {sc : Nat → Nat → Int32} {q0 : Int32} (C : Cx p s m args meth c K A cc nL RX2 Ts ret) (hG : GoodIn Ts (wsV RX2 ix RX2 yX2_rank wsX2_rank)) (hd : decode cc pc = .ok (.invokevirtual ix, 3)) (hdd : 4 < d) (hro : (st.map fun v => v.category).sum ≤ 8) (hf : (fX2_rank len sz words checks err vec bc q0).bind kk = some y) (k : ∀ v, kk v = some y → Go p l e (RM d) s m args below meth c K A nL 0 0 Q (xW K a len sz words checks cnt v.2.1 v.2.2.1 v.2.2.2 pm sl ss sw sc) (pc + 3) lv (.int (v.1) :: st)) : Go p l e (RM d) s m args below meth c K A nL 0 0 Q (xW K a len sz words checks cnt err vec bc pm sl ss sw sc) pc lv (.int q0 :: .ref (a 0) :: st) := by
  obtain ⟨v, hv, hf⟩ := bd_some hf
  exact go_callV_full (ry := (some .int)) (n := 1) (b := a 0) (As := [.int q0]) (rest := st) C (con_X2_rank l K a hv) hG (by decide) rfl ⟨Nat.succ_le_of_lt hdd, by show 8 + (2 + 11) + 40 * 4 ≤ 40 * d; omega⟩ ⟨Nat.le_refl _, Nat.le_refl _⟩ ⟨0, 2, _, _, rfl, rfl, rfl⟩ rfl rfl hro hd (k v hf)
-- J6_bitCount_0f7a4
set_option maxRecDepth 20000 in
set_option maxHeartbeats 2000000 in
theorem WJ6_bitCount_0f7a4_0 {p : Program} {l : Launch} {e : Env} {s : State} {m : MethodId} {args : Array Value} {below : List Frame} {meth : Method} {c : Code} {K : KK} {A : Nat → Prop} {wz : va_W} (C : Cx p s m args meth c K A cJ6_bitCount_0f7a4 1 RJ6 wsJ6_bitCount_0f7a4 (some .int)) {z : Int32} {x0 : Int32} (hf : FJ6_bitCount_0f7a4_0   x0 = some z) : Go p l e (RM 0) s m args below meth c K A 1 0 0 (MQ below (QR K (some (.int z)) wz A) args s 0 0 A) wz 0 [(0, .int x0)] [] := by
  unfold FJ6_bitCount_0f7a4_0 at hf
  refine go_iload_n C 0 dJ6_bitCount_0f7a4_0 rfl rfl ?_
  refine go_iload_n C 0 dJ6_bitCount_0f7a4_1 rfl rfl ?_
  refine go_iconst (v := 1) C dJ6_bitCount_0f7a4_2 (by decide) ?_
  refine go_iushr C dJ6_bitCount_0f7a4_3 ?_
  refine go_ldcw (v := 1431655765) C dJ6_bitCount_0f7a4_4 (by decide +kernel) ?_
  refine go_iand C dJ6_bitCount_0f7a4_7 ?_
  refine go_isub C dJ6_bitCount_0f7a4_8 ?_
  refine go_istore_n C (lv' := [(0, .int (x0 - (((x0.toUInt32 >>> ((1 : Int32).toUInt32 &&& Int32.toUInt32 31)).toInt32) &&& 1431655765)))]) [0] dJ6_bitCount_0f7a4_9 rfl (by decide) rfl ?_
  refine go_iload_n C 0 dJ6_bitCount_0f7a4_10 rfl rfl ?_
  refine go_ldcw (v := 858993459) C dJ6_bitCount_0f7a4_11 (by decide +kernel) ?_
  refine go_iand C dJ6_bitCount_0f7a4_14 ?_
  refine go_iload_n C 0 dJ6_bitCount_0f7a4_15 rfl rfl ?_
  refine go_iconst (v := 2) C dJ6_bitCount_0f7a4_16 (by decide) ?_
  refine go_iushr C dJ6_bitCount_0f7a4_17 ?_
  refine go_ldcw (v := 858993459) C dJ6_bitCount_0f7a4_18 (by decide +kernel) ?_
  refine go_iand C dJ6_bitCount_0f7a4_21 ?_
  refine go_iadd C dJ6_bitCount_0f7a4_22 ?_
  refine go_istore_n C (lv' := [(0, .int (((x0 - (((x0.toUInt32 >>> ((1 : Int32).toUInt32 &&& Int32.toUInt32 31)).toInt32) &&& 1431655765)) &&& 858993459) + ((((x0 - (((x0.toUInt32 >>> ((1 : Int32).toUInt32 &&& Int32.toUInt32 31)).toInt32) &&& 1431655765)).toUInt32 >>> ((2 : Int32).toUInt32 &&& Int32.toUInt32 31)).toInt32) &&& 858993459)))]) [0] dJ6_bitCount_0f7a4_23 rfl (by decide) rfl ?_
  refine go_iload_n C 0 dJ6_bitCount_0f7a4_24 rfl rfl ?_
  refine go_iload_n C 0 dJ6_bitCount_0f7a4_25 rfl rfl ?_
  refine go_iconst (v := 4) C dJ6_bitCount_0f7a4_26 (by decide) ?_
  refine go_iushr C dJ6_bitCount_0f7a4_27 ?_
  refine go_iadd C dJ6_bitCount_0f7a4_28 ?_
  refine go_ldcw (v := 252645135) C dJ6_bitCount_0f7a4_29 (by decide +kernel) ?_
  refine go_iand C dJ6_bitCount_0f7a4_32 ?_
  refine go_istore_n C (lv' := [(0, .int (((((x0 - (((x0.toUInt32 >>> ((1 : Int32).toUInt32 &&& Int32.toUInt32 31)).toInt32) &&& 1431655765)) &&& 858993459) + ((((x0 - (((x0.toUInt32 >>> ((1 : Int32).toUInt32 &&& Int32.toUInt32 31)).toInt32) &&& 1431655765)).toUInt32 >>> ((2 : Int32).toUInt32 &&& Int32.toUInt32 31)).toInt32) &&& 858993459)) + (((((x0 - (((x0.toUInt32 >>> ((1 : Int32).toUInt32 &&& Int32.toUInt32 31)).toInt32) &&& 1431655765)) &&& 858993459) + ((((x0 - (((x0.toUInt32 >>> ((1 : Int32).toUInt32 &&& Int32.toUInt32 31)).toInt32) &&& 1431655765)).toUInt32 >>> ((2 : Int32).toUInt32 &&& Int32.toUInt32 31)).toInt32) &&& 858993459)).toUInt32 >>> ((4 : Int32).toUInt32 &&& Int32.toUInt32 31)).toInt32)) &&& 252645135))]) [0] dJ6_bitCount_0f7a4_33 rfl (by decide) rfl ?_
  refine go_iload_n C 0 dJ6_bitCount_0f7a4_34 rfl rfl ?_
  refine go_iload_n C 0 dJ6_bitCount_0f7a4_35 rfl rfl ?_
  refine go_bipush (v := 8) C dJ6_bitCount_0f7a4_36 (by decide) ?_
  refine go_iushr C dJ6_bitCount_0f7a4_38 ?_
  refine go_iadd C dJ6_bitCount_0f7a4_39 ?_
  refine go_istore_n C (lv' := [(0, .int ((((((x0 - (((x0.toUInt32 >>> ((1 : Int32).toUInt32 &&& Int32.toUInt32 31)).toInt32) &&& 1431655765)) &&& 858993459) + ((((x0 - (((x0.toUInt32 >>> ((1 : Int32).toUInt32 &&& Int32.toUInt32 31)).toInt32) &&& 1431655765)).toUInt32 >>> ((2 : Int32).toUInt32 &&& Int32.toUInt32 31)).toInt32) &&& 858993459)) + (((((x0 - (((x0.toUInt32 >>> ((1 : Int32).toUInt32 &&& Int32.toUInt32 31)).toInt32) &&& 1431655765)) &&& 858993459) + ((((x0 - (((x0.toUInt32 >>> ((1 : Int32).toUInt32 &&& Int32.toUInt32 31)).toInt32) &&& 1431655765)).toUInt32 >>> ((2 : Int32).toUInt32 &&& Int32.toUInt32 31)).toInt32) &&& 858993459)).toUInt32 >>> ((4 : Int32).toUInt32 &&& Int32.toUInt32 31)).toInt32)) &&& 252645135) + (((((((x0 - (((x0.toUInt32 >>> ((1 : Int32).toUInt32 &&& Int32.toUInt32 31)).toInt32) &&& 1431655765)) &&& 858993459) + ((((x0 - (((x0.toUInt32 >>> ((1 : Int32).toUInt32 &&& Int32.toUInt32 31)).toInt32) &&& 1431655765)).toUInt32 >>> ((2 : Int32).toUInt32 &&& Int32.toUInt32 31)).toInt32) &&& 858993459)) + (((((x0 - (((x0.toUInt32 >>> ((1 : Int32).toUInt32 &&& Int32.toUInt32 31)).toInt32) &&& 1431655765)) &&& 858993459) + ((((x0 - (((x0.toUInt32 >>> ((1 : Int32).toUInt32 &&& Int32.toUInt32 31)).toInt32) &&& 1431655765)).toUInt32 >>> ((2 : Int32).toUInt32 &&& Int32.toUInt32 31)).toInt32) &&& 858993459)).toUInt32 >>> ((4 : Int32).toUInt32 &&& Int32.toUInt32 31)).toInt32)) &&& 252645135).toUInt32 >>> ((8 : Int32).toUInt32 &&& Int32.toUInt32 31)).toInt32)))]) [0] dJ6_bitCount_0f7a4_40 rfl (by decide) rfl ?_
  refine go_iload_n C 0 dJ6_bitCount_0f7a4_41 rfl rfl ?_
  refine go_iload_n C 0 dJ6_bitCount_0f7a4_42 rfl rfl ?_
  refine go_bipush (v := 16) C dJ6_bitCount_0f7a4_43 (by decide) ?_
  refine go_iushr C dJ6_bitCount_0f7a4_45 ?_
  refine go_iadd C dJ6_bitCount_0f7a4_46 ?_
  refine go_istore_n C (lv' := [(0, .int (((((((x0 - (((x0.toUInt32 >>> ((1 : Int32).toUInt32 &&& Int32.toUInt32 31)).toInt32) &&& 1431655765)) &&& 858993459) + ((((x0 - (((x0.toUInt32 >>> ((1 : Int32).toUInt32 &&& Int32.toUInt32 31)).toInt32) &&& 1431655765)).toUInt32 >>> ((2 : Int32).toUInt32 &&& Int32.toUInt32 31)).toInt32) &&& 858993459)) + (((((x0 - (((x0.toUInt32 >>> ((1 : Int32).toUInt32 &&& Int32.toUInt32 31)).toInt32) &&& 1431655765)) &&& 858993459) + ((((x0 - (((x0.toUInt32 >>> ((1 : Int32).toUInt32 &&& Int32.toUInt32 31)).toInt32) &&& 1431655765)).toUInt32 >>> ((2 : Int32).toUInt32 &&& Int32.toUInt32 31)).toInt32) &&& 858993459)).toUInt32 >>> ((4 : Int32).toUInt32 &&& Int32.toUInt32 31)).toInt32)) &&& 252645135) + (((((((x0 - (((x0.toUInt32 >>> ((1 : Int32).toUInt32 &&& Int32.toUInt32 31)).toInt32) &&& 1431655765)) &&& 858993459) + ((((x0 - (((x0.toUInt32 >>> ((1 : Int32).toUInt32 &&& Int32.toUInt32 31)).toInt32) &&& 1431655765)).toUInt32 >>> ((2 : Int32).toUInt32 &&& Int32.toUInt32 31)).toInt32) &&& 858993459)) + (((((x0 - (((x0.toUInt32 >>> ((1 : Int32).toUInt32 &&& Int32.toUInt32 31)).toInt32) &&& 1431655765)) &&& 858993459) + ((((x0 - (((x0.toUInt32 >>> ((1 : Int32).toUInt32 &&& Int32.toUInt32 31)).toInt32) &&& 1431655765)).toUInt32 >>> ((2 : Int32).toUInt32 &&& Int32.toUInt32 31)).toInt32) &&& 858993459)).toUInt32 >>> ((4 : Int32).toUInt32 &&& Int32.toUInt32 31)).toInt32)) &&& 252645135).toUInt32 >>> ((8 : Int32).toUInt32 &&& Int32.toUInt32 31)).toInt32)) + ((((((((x0 - (((x0.toUInt32 >>> ((1 : Int32).toUInt32 &&& Int32.toUInt32 31)).toInt32) &&& 1431655765)) &&& 858993459) + ((((x0 - (((x0.toUInt32 >>> ((1 : Int32).toUInt32 &&& Int32.toUInt32 31)).toInt32) &&& 1431655765)).toUInt32 >>> ((2 : Int32).toUInt32 &&& Int32.toUInt32 31)).toInt32) &&& 858993459)) + (((((x0 - (((x0.toUInt32 >>> ((1 : Int32).toUInt32 &&& Int32.toUInt32 31)).toInt32) &&& 1431655765)) &&& 858993459) + ((((x0 - (((x0.toUInt32 >>> ((1 : Int32).toUInt32 &&& Int32.toUInt32 31)).toInt32) &&& 1431655765)).toUInt32 >>> ((2 : Int32).toUInt32 &&& Int32.toUInt32 31)).toInt32) &&& 858993459)).toUInt32 >>> ((4 : Int32).toUInt32 &&& Int32.toUInt32 31)).toInt32)) &&& 252645135) + (((((((x0 - (((x0.toUInt32 >>> ((1 : Int32).toUInt32 &&& Int32.toUInt32 31)).toInt32) &&& 1431655765)) &&& 858993459) + ((((x0 - (((x0.toUInt32 >>> ((1 : Int32).toUInt32 &&& Int32.toUInt32 31)).toInt32) &&& 1431655765)).toUInt32 >>> ((2 : Int32).toUInt32 &&& Int32.toUInt32 31)).toInt32) &&& 858993459)) + (((((x0 - (((x0.toUInt32 >>> ((1 : Int32).toUInt32 &&& Int32.toUInt32 31)).toInt32) &&& 1431655765)) &&& 858993459) + ((((x0 - (((x0.toUInt32 >>> ((1 : Int32).toUInt32 &&& Int32.toUInt32 31)).toInt32) &&& 1431655765)).toUInt32 >>> ((2 : Int32).toUInt32 &&& Int32.toUInt32 31)).toInt32) &&& 858993459)).toUInt32 >>> ((4 : Int32).toUInt32 &&& Int32.toUInt32 31)).toInt32)) &&& 252645135).toUInt32 >>> ((8 : Int32).toUInt32 &&& Int32.toUInt32 31)).toInt32)).toUInt32 >>> ((16 : Int32).toUInt32 &&& Int32.toUInt32 31)).toInt32)))]) [0] dJ6_bitCount_0f7a4_47 rfl (by decide) rfl ?_
  refine go_iload_n C 0 dJ6_bitCount_0f7a4_48 rfl rfl ?_
  refine go_bipush (v := 63) C dJ6_bitCount_0f7a4_49 (by decide) ?_
  refine go_iand C dJ6_bitCount_0f7a4_51 ?_
  cases hf
  exact go_iret C dJ6_bitCount_0f7a4_52
set_option maxRecDepth 20000 in
theorem con_J6_bitCount_0f7a4 (l : Launch) (K : KK) {x0 : Int32} {z : Int32} (hf : fJ6_bitCount_0f7a4 x0 = some z) : Con l yJ6_bitCount_0f7a4 wsJ6_bitCount_0f7a4 0 K [.int x0] [] (some (.int z)) [] :=
  con_of (cc := cJ6_bitCount_0f7a4) (maxL := 1) (ret := (some .int)) (own := RJ6) (lv0 := [(0, .int x0)]) (by decide) rfl rfl (Nat.le_of_ble_eq_true rfl) rfl (fun p e s m args below meth c A C => go_lv (lv' := [(0, .int x0)]) [0] rfl (WJ6_bitCount_0f7a4_0 C hf))
set_option maxRecDepth 20000 in
theorem call_J6_bitCount_0f7a4 {p : Program} {l : Launch} {e : Env} {s : State} {m : MethodId} {args : Array Value} {below : List Frame} {meth : Method} {c : Code} {K : KK} {A : Nat → Prop} {Q : State → Prop} {cc : ByteArray} {nL : Nat} {own : String} {Ts : List Cond} {ret : Option FieldType} {pc : Nat} {lv : List (Nat × Value)} {st : List Value} {ix d : Nat} {α : Type} {kk : Int32 → Option α} {y : α} {ws : va_W} {q0 : Int32} (C : Cx p s m args meth c K A cc nL own Ts ret) (hG : GoodIn Ts (va_wsS own ix yJ6_bitCount_0f7a4 wsJ6_bitCount_0f7a4)) (hd : decode cc pc = .ok (.invokestatic ix, 3)) (hdd : 0 < d) (hro : (st.map fun v => v.category).sum ≤ 8) (hf : (fJ6_bitCount_0f7a4 q0).bind kk = some y) (k : ∀ v, kk v = some y → Go p l e (RM d) s m args below meth c K A nL 0 0 Q ws (pc + 3) lv (.int v :: st)) : Go p l e (RM d) s m args below meth c K A nL 0 0 Q ws pc lv (.int q0 :: st) := by
  obtain ⟨v, hv, hf⟩ := bd_some hf
  exact go_callS_l (ws := []) (w2 := ws) (ry := (some .int)) (n := 1) (As := [.int q0]) (rest := st) C (con_J6_bitCount_0f7a4 l K hv) hG (by decide) rfl ⟨Nat.succ_le_of_lt hdd, by show 8 + (1 + 11) + 40 * 0 ≤ 40 * d; omega⟩ ⟨Nat.le_refl _, Nat.le_refl _⟩ rfl rfl hro hd (k v hf)
-- X2_syndrome
theorem iX2_syndrome_1 : ∀ w ∈ wsX10, w ∈ wsX2_syndrome := by decide +kernel
theorem iX2_syndrome_2 : ∀ w ∈ wsX20, w ∈ wsX2_syndrome := by decide +kernel
theorem kX2_syndrome_12 : Cond.fieldLink RX2 12 "CosetCoder" "state" "LCosetCoder$State;" ∈ wsX2_syndrome := by decide +kernel
set_option maxRecDepth 20000 in
set_option maxHeartbeats 2000000 in
theorem WX2_syndrome_60 {p : Program} {l : Launch} {e : Env} {s : State} {m : MethodId} {args : Array Value} {below : List Frame} {meth : Method} {c : Code} {K : KK} {A : Nat → Prop} {a : Nat → Nat} (C : Cx p s m args meth c K A cX2_syndrome 6 RX2 wsX2_syndrome (some .int)) {z : Int32} {len : Int32} {sz : Int32} {words : Nat → Int32} {checks : Nat → Int32} {cnt : Int32} {err : Nat → Int32} {vec : Nat → Int32} {bc : Int32} {pm : Nat → Nat} {sl : Nat → Int32} {ss : Nat → Int32} {sw : Nat → Nat → Int32} {sc : Nat → Nat → Int32} {r8 : Int32 → Int32 → Int32 → Int32 → Int32 → Option (Int32)} {x1 : Int32} {x2 : Int32} {x3 : Int32} {x4 : Int32} {x5 : Int32} (hr8 : ∀ (x1 : Int32) (x2 : Int32) (x3 : Int32) (x4 : Int32) (x5 : Int32), r8 x1 x2 x3 x4 x5 = some z → Go p l e (RM 1) s m args below meth c K A 6 0 0 (MQ below (QR K (some (.int z)) (xW K a len sz words checks cnt err vec bc pm sl ss sw sc) A) args s 0 0 A) (xW K a len sz words checks cnt err vec bc pm sl ss sw sc) 8 [(0, .ref (a 0)), (1, .int x1), (2, .int x2), (3, .int x3), (4, .int x4), (5, .int x5)] []) (hf : FX2_syndrome_60 sz words checks r8 x1 x2 x3 x4 x5 = some z) : Go p l e (RM 1) s m args below meth c K A 6 0 0 (MQ below (QR K (some (.int z)) (xW K a len sz words checks cnt err vec bc pm sl ss sw sc) A) args s 0 0 A) (xW K a len sz words checks cnt err vec bc pm sl ss sw sc) 60 [(0, .ref (a 0)), (1, .int x1), (2, .int x2), (3, .int x3), (4, .int x4), (5, .int x5)] [] := by
  unfold FX2_syndrome_60 at hf
  refine go_iinc C (v := x5 + 1) (lv' := [(0, .ref (a 0)), (1, .int x1), (2, .int x2), (3, .int x3), (4, .int x4), (5, .int (x5 + 1))]) 5 [1, 2, 3, 4, 5, 0] dX2_syndrome_60 rfl rfl (by decide) rfl ?_
  refine go_goto C (tgt := 8) dX2_syndrome_63 (by decide) ?_
  exact hr8 _ _ _ _ _ hf
set_option maxRecDepth 20000 in
set_option maxHeartbeats 2000000 in
theorem WX2_syndrome_8 {p : Program} {l : Launch} {e : Env} {s : State} {m : MethodId} {args : Array Value} {below : List Frame} {meth : Method} {c : Code} {K : KK} {A : Nat → Prop} {a : Nat → Nat} (C : Cx p s m args meth c K A cX2_syndrome 6 RX2 wsX2_syndrome (some .int)) {z : Int32} {len : Int32} {sz : Int32} {words : Nat → Int32} {checks : Nat → Int32} {cnt : Int32} {err : Nat → Int32} {vec : Nat → Int32} {bc : Int32} {pm : Nat → Nat} {sl : Nat → Int32} {ss : Nat → Int32} {sw : Nat → Nat → Int32} {sc : Nat → Nat → Int32} {r8 : Int32 → Int32 → Int32 → Int32 → Int32 → Option (Int32)} {x1 : Int32} {x2 : Int32} {x3 : Int32} {x4 : Int32} {x5 : Int32} (hr8 : ∀ (x1 : Int32) (x2 : Int32) (x3 : Int32) (x4 : Int32) (x5 : Int32), r8 x1 x2 x3 x4 x5 = some z → Go p l e (RM 1) s m args below meth c K A 6 0 0 (MQ below (QR K (some (.int z)) (xW K a len sz words checks cnt err vec bc pm sl ss sw sc) A) args s 0 0 A) (xW K a len sz words checks cnt err vec bc pm sl ss sw sc) 8 [(0, .ref (a 0)), (1, .int x1), (2, .int x2), (3, .int x3), (4, .int x4), (5, .int x5)] []) (hf : FX2_syndrome_8 sz words checks r8 x1 x2 x3 x4 x5 = some z) : Go p l e (RM 1) s m args below meth c K A 6 0 0 (MQ below (QR K (some (.int z)) (xW K a len sz words checks cnt err vec bc pm sl ss sw sc) A) args s 0 0 A) (xW K a len sz words checks cnt err vec bc pm sl ss sw sc) 8 [(0, .ref (a 0)), (1, .int x1), (2, .int x2), (3, .int x3), (4, .int x4), (5, .int x5)] [] := by
  unfold FX2_syndrome_8 at hf
  refine go_iload C 5 dX2_syndrome_8 rfl ?_
  refine go_aload_n C 0 dX2_syndrome_10 rfl rfl ?_
  refine gX_get_state C iX2_syndrome_2 kX2_syndrome_12 dX2_syndrome_11 ?_
  refine gX_get_n_size C iX2_syndrome_1 dX2_syndrome_14 ?_
  refine go_c2_ge C (tgt := 66) dX2_syndrome_17 (by decide) hf (fun h hf => ?_) (fun h hf => ?_)
  · refine go_iload_n C 3 dX2_syndrome_66 rfl rfl ?_
    cases hf
    exact go_iret C dX2_syndrome_67
  · refine go_aload_n C 0 dX2_syndrome_20 rfl rfl ?_
    refine gX_get_state C iX2_syndrome_2 kX2_syndrome_12 dX2_syndrome_21 ?_
    refine gX_get_n_checks C iX2_syndrome_1 dX2_syndrome_24 ?_
    refine go_iload C 5 dX2_syndrome_27 rfl ?_
    refine gX_rd_checks C dX2_syndrome_29 hf (fun v1 hf => ?_)
    refine go_iload_n C 2 dX2_syndrome_30 rfl rfl ?_
    refine go_c2_ne C (tgt := 60) dX2_syndrome_31 (by decide) hf (fun h hf => ?_) (fun h hf => ?_)
    · exact WX2_syndrome_60 C hr8 hf
    · refine go_iload_n C 3 dX2_syndrome_34 rfl rfl ?_
      refine go_aload_n C 0 dX2_syndrome_35 rfl rfl ?_
      refine gX_get_state C iX2_syndrome_2 kX2_syndrome_12 dX2_syndrome_36 ?_
      refine gX_get_n_words C iX2_syndrome_1 dX2_syndrome_39 ?_
      refine go_iload C 5 dX2_syndrome_42 rfl ?_
      refine gX_rd_words C dX2_syndrome_44 hf (fun v2 hf => ?_)
      refine go_iload_n C 1 dX2_syndrome_45 rfl rfl ?_
      refine go_iand C dX2_syndrome_46 ?_
      refine call_J6_bitCount_0f7a4 C gX2_syndrome_J6_bitCount_0f7a4 dX2_syndrome_47 (by decide) (Nat.le_of_ble_eq_true rfl) hf (fun v3 hf => ?_)
      refine go_iconst (v := 1) C dX2_syndrome_50 (by decide) ?_
      refine go_iand C dX2_syndrome_51 ?_
      refine go_iload C 4 dX2_syndrome_52 rfl ?_
      refine go_ishl C dX2_syndrome_54 ?_
      refine go_ior C dX2_syndrome_55 ?_
      refine go_istore_n C (lv' := [(0, .ref (a 0)), (1, .int x1), (2, .int x2), (3, .int (x3 ||| ((v3 &&& 1) <<< (x4 &&& 31)))), (4, .int x4), (5, .int x5)]) [1, 2, 3, 0, 4, 5] dX2_syndrome_56 rfl (by decide) rfl ?_
      refine go_iinc C (v := x4 + 1) (lv' := [(0, .ref (a 0)), (1, .int x1), (2, .int x2), (3, .int (x3 ||| ((v3 &&& 1) <<< (x4 &&& 31)))), (4, .int (x4 + 1)), (5, .int x5)]) 4 [1, 2, 3, 4, 0, 5] dX2_syndrome_57 rfl rfl (by decide) rfl ?_
      exact WX2_syndrome_60 C hr8 hf
theorem wX2_syndrome_8 {p : Program} {l : Launch} {e : Env} {s : State} {m : MethodId} {args : Array Value} {below : List Frame} {meth : Method} {c : Code} {K : KK} {A : Nat → Prop} {a : Nat → Nat} (C : Cx p s m args meth c K A cX2_syndrome 6 RX2 wsX2_syndrome (some .int)) {z : Int32} {len : Int32} {sz : Int32} {words : Nat → Int32} {checks : Nat → Int32} {cnt : Int32} {err : Nat → Int32} {vec : Nat → Int32} {bc : Int32} {pm : Nat → Nat} {sl : Nat → Int32} {ss : Nat → Int32} {sw : Nat → Nat → Int32} {sc : Nat → Nat → Int32} : ∀ (n : Nat) (x1 : Int32) (x2 : Int32) (x3 : Int32) (x4 : Int32) (x5 : Int32), fX2_syndrome_8 sz words checks  n x1 x2 x3 x4 x5 = some z → Go p l e (RM 1) s m args below meth c K A 6 0 0 (MQ below (QR K (some (.int z)) (xW K a len sz words checks cnt err vec bc pm sl ss sw sc) A) args s 0 0 A) (xW K a len sz words checks cnt err vec bc pm sl ss sw sc) 8 [(0, .ref (a 0)), (1, .int x1), (2, .int x2), (3, .int x3), (4, .int x4), (5, .int x5)] [] := by
  intro n
  induction n with
  | zero => intro _ _ _ _ _ hf; cases hf
  | succ n ih => intro _ _ _ _ _ hf; exact WX2_syndrome_8 C  ih hf
set_option maxRecDepth 20000 in
set_option maxHeartbeats 2000000 in
theorem WX2_syndrome_0 {p : Program} {l : Launch} {e : Env} {s : State} {m : MethodId} {args : Array Value} {below : List Frame} {meth : Method} {c : Code} {K : KK} {A : Nat → Prop} {a : Nat → Nat} (C : Cx p s m args meth c K A cX2_syndrome 6 RX2 wsX2_syndrome (some .int)) {z : Int32} {len : Int32} {sz : Int32} {words : Nat → Int32} {checks : Nat → Int32} {cnt : Int32} {err : Nat → Int32} {vec : Nat → Int32} {bc : Int32} {pm : Nat → Nat} {sl : Nat → Int32} {ss : Nat → Int32} {sw : Nat → Nat → Int32} {sc : Nat → Nat → Int32} {x1 : Int32} {x2 : Int32} (hf : FX2_syndrome_0 sz words checks  x1 x2 = some z) : Go p l e (RM 1) s m args below meth c K A 6 0 0 (MQ below (QR K (some (.int z)) (xW K a len sz words checks cnt err vec bc pm sl ss sw sc) A) args s 0 0 A) (xW K a len sz words checks cnt err vec bc pm sl ss sw sc) 0 [(0, .ref (a 0)), (1, .int x1), (2, .int x2)] [] := by
  unfold FX2_syndrome_0 at hf
  refine go_iconst (v := 0) C dX2_syndrome_0 (by decide) ?_
  refine go_istore_n C (lv' := [(0, .ref (a 0)), (1, .int x1), (2, .int x2), (3, .int 0)]) [1, 2, 3, 0] dX2_syndrome_1 rfl (by decide) rfl ?_
  refine go_iconst (v := 0) C dX2_syndrome_2 (by decide) ?_
  refine go_istore C (lv' := [(0, .ref (a 0)), (1, .int x1), (2, .int x2), (3, .int 0), (4, .int 0)]) [1, 2, 3, 4, 0] dX2_syndrome_3 (by decide) rfl ?_
  refine go_iconst (v := 0) C dX2_syndrome_5 (by decide) ?_
  refine go_istore C (lv' := [(0, .ref (a 0)), (1, .int x1), (2, .int x2), (3, .int 0), (4, .int 0), (5, .int 0)]) [1, 2, 3, 4, 5, 0] dX2_syndrome_6 (by decide) rfl ?_
  exact wX2_syndrome_8 C  300 _ _ _ _ _ hf
set_option maxRecDepth 20000 in
theorem con_X2_syndrome (l : Launch) (K : KK) (a : Nat → Nat) {len : Int32} {sz : Int32} {words : Nat → Int32} {checks : Nat → Int32} {cnt : Int32} {err : Nat → Int32} {vec : Nat → Int32} {bc : Int32} {pm : Nat → Nat} {sl : Nat → Int32} {ss : Nat → Int32} {sw : Nat → Nat → Int32} {sc : Nat → Nat → Int32} {x1 : Int32} {x2 : Int32} {z : Int32} (hf : fX2_syndrome sz words checks x1 x2 = some z) : Con l yX2_syndrome wsX2_syndrome 1 K [.ref (a 0), .int x1, .int x2] (xW K a len sz words checks cnt err vec bc pm sl ss sw sc) (some (.int z)) (xW K a len sz words checks cnt err vec bc pm sl ss sw sc) :=
  con_of (cc := cX2_syndrome) (maxL := 6) (ret := (some .int)) (own := RX2) (lv0 := [(0, .ref (a 0)), (1, .int x1), (2, .int x2)]) (by decide) rfl rfl (Nat.le_of_ble_eq_true rfl) rfl (fun p e s m args below meth c A C => go_lv (lv' := [(0, .ref (a 0)), (1, .int x1), (2, .int x2)]) [0, 1, 2] rfl (WX2_syndrome_0 C hf))
set_option maxRecDepth 20000 in
theorem call_X2_syndrome {p : Program} {l : Launch} {e : Env} {s : State} {m : MethodId} {args : Array Value} {below : List Frame} {meth : Method} {c : Code} {K : KK} {A : Nat → Prop} {Q : State → Prop} {cc : ByteArray} {nL : Nat} {Ts : List Cond} {ret : Option FieldType} {pc : Nat} {lv : List (Nat × Value)} {st : List Value} {ix d : Nat} {α : Type} {kk : Int32 → Option α} {y : α} {a : Nat → Nat} {len : Int32} {sz : Int32} {words : Nat → Int32} {checks : Nat → Int32} {cnt : Int32} {err : Nat → Int32} {vec : Nat → Int32} {bc : Int32} {pm : Nat → Nat} {sl : Nat → Int32} {ss : Nat → Int32} {sw : Nat → Nat → Int32} {sc : Nat → Nat → Int32} {q0 : Int32} {q1 : Int32} (C : Cx p s m args meth c K A cc nL RX2 Ts ret) (hG : GoodIn Ts (wsV RX2 ix RX2 yX2_syndrome wsX2_syndrome)) (hd : decode cc pc = .ok (.invokevirtual ix, 3)) (hdd : 1 < d) (hro : (st.map fun v => v.category).sum ≤ 8) (hf : (fX2_syndrome sz words checks q0 q1).bind kk = some y) (k : ∀ v, kk v = some y → Go p l e (RM d) s m args below meth c K A nL 0 0 Q (xW K a len sz words checks cnt err vec bc pm sl ss sw sc) (pc + 3) lv (.int v :: st)) : Go p l e (RM d) s m args below meth c K A nL 0 0 Q (xW K a len sz words checks cnt err vec bc pm sl ss sw sc) pc lv (.int q1 :: .int q0 :: .ref (a 0) :: st) := by
  obtain ⟨v, hv, hf⟩ := bd_some hf
  exact go_callV_full (ry := (some .int)) (n := 2) (b := a 0) (As := [.int q0, .int q1]) (rest := st) C (con_X2_syndrome l K a hv) hG (by decide) rfl ⟨Nat.succ_le_of_lt hdd, by show 8 + (6 + 11) + 40 * 1 ≤ 40 * d; omega⟩ ⟨Nat.le_refl _, Nat.le_refl _⟩ ⟨0, 2, _, _, rfl, rfl, rfl⟩ rfl rfl hro hd (k v hf)
-- X2_message
set_option maxRecDepth 20000 in
set_option maxHeartbeats 2000000 in
theorem WX2_message_0 {p : Program} {l : Launch} {e : Env} {s : State} {m : MethodId} {args : Array Value} {below : List Frame} {meth : Method} {c : Code} {K : KK} {A : Nat → Prop} {a : Nat → Nat} (C : Cx p s m args meth c K A cX2_message 2 RX2 wsX2_message (some .int)) {z : Int32 × (Nat → Int32)} {len : Int32} {sz : Int32} {words : Nat → Int32} {checks : Nat → Int32} {cnt : Int32} {vec : Nat → Int32} {bc : Int32} {pm : Nat → Nat} {sl : Nat → Int32} {ss : Nat → Int32} {sw : Nat → Nat → Int32} {sc : Nat → Nat → Int32} {err : Nat → Int32} {x1 : Int32} (hf : FX2_message_0 len sz words checks  err x1 = some z) : Go p l e (RM 2) s m args below meth c K A 2 0 0 (MQ below (QR K (some (.int z.1)) (xW K a len sz words checks cnt z.2 vec bc pm sl ss sw sc) A) args s 0 0 A) (xW K a len sz words checks cnt err vec bc pm sl ss sw sc) 0 [(0, .ref (a 0)), (1, .int x1)] [] := by
  unfold FX2_message_0 at hf
  refine go_aload_n C 0 dX2_message_0 rfl rfl ?_
  refine go_iload_n C 1 dX2_message_1 rfl rfl ?_
  refine call_X2_isWord C gX2_message_X2_isWord dX2_message_2 (by decide) (Nat.le_of_ble_eq_true rfl) hf (fun v1 hf => ?_)
  refine go_c1_ne C (tgt := 15) dX2_message_5 (by decide) hf (fun h hf => ?_) (fun h hf => ?_)
  · refine go_aload_n C 0 dX2_message_15 rfl rfl ?_
    refine go_iload_n C 1 dX2_message_16 rfl rfl ?_
    refine go_iconst (v := 0) C dX2_message_17 (by decide) ?_
    refine call_X2_syndrome C gX2_message_X2_syndrome dX2_message_18 (by decide) (Nat.le_of_ble_eq_true rfl) hf (fun v2 hf => ?_)
    cases hf
    exact go_iret C dX2_message_21
  · refine go_aload_n C 0 dX2_message_8 rfl rfl ?_
    refine go_bipush (v := (-2)) C dX2_message_9 (by decide) ?_
    refine call_X2_fail C gX2_message_X2_fail dX2_message_11 (by decide) (Nat.le_of_ble_eq_true rfl) hf (fun v3 hf => ?_)
    cases hf
    exact go_iret C dX2_message_14
set_option maxRecDepth 20000 in
theorem con_X2_message (l : Launch) (K : KK) (a : Nat → Nat) {len : Int32} {sz : Int32} {words : Nat → Int32} {checks : Nat → Int32} {cnt : Int32} {err : Nat → Int32} {vec : Nat → Int32} {bc : Int32} {pm : Nat → Nat} {sl : Nat → Int32} {ss : Nat → Int32} {sw : Nat → Nat → Int32} {sc : Nat → Nat → Int32} {x1 : Int32} {z : Int32 × (Nat → Int32)} (hf : fX2_message len sz words checks err x1 = some z) : Con l yX2_message wsX2_message 2 K [.ref (a 0), .int x1] (xW K a len sz words checks cnt err vec bc pm sl ss sw sc) (some (.int z.1)) (xW K a len sz words checks cnt z.2 vec bc pm sl ss sw sc) :=
  con_of (cc := cX2_message) (maxL := 2) (ret := (some .int)) (own := RX2) (lv0 := [(0, .ref (a 0)), (1, .int x1)]) (by decide) rfl rfl (Nat.le_of_ble_eq_true rfl) rfl (fun p e s m args below meth c A C => go_lv (lv' := [(0, .ref (a 0)), (1, .int x1)]) [0, 1] rfl (WX2_message_0 C hf))
set_option maxRecDepth 20000 in
theorem call_X2_message {p : Program} {l : Launch} {e : Env} {s : State} {m : MethodId} {args : Array Value} {below : List Frame} {meth : Method} {c : Code} {K : KK} {A : Nat → Prop} {Q : State → Prop} {cc : ByteArray} {nL : Nat} {Ts : List Cond} {ret : Option FieldType} {pc : Nat} {lv : List (Nat × Value)} {st : List Value} {ix d : Nat} {α : Type} {kk : Int32 × (Nat → Int32) → Option α} {y : α} {a : Nat → Nat} {len : Int32} {sz : Int32} {words : Nat → Int32} {checks : Nat → Int32} {cnt : Int32} {err : Nat → Int32} {vec : Nat → Int32} {bc : Int32} {pm : Nat → Nat} {sl : Nat → Int32} {ss : Nat → Int32} {sw : Nat → Nat → Int32} {sc : Nat → Nat → Int32} {q0 : Int32} (C : Cx p s m args meth c K A cc nL RX2 Ts ret) (hG : GoodIn Ts (wsV RX2 ix RX2 yX2_message wsX2_message)) (hd : decode cc pc = .ok (.invokevirtual ix, 3)) (hdd : 2 < d) (hro : (st.map fun v => v.category).sum ≤ 8) (hf : (fX2_message len sz words checks err q0).bind kk = some y) (k : ∀ v, kk v = some y → Go p l e (RM d) s m args below meth c K A nL 0 0 Q (xW K a len sz words checks cnt v.2 vec bc pm sl ss sw sc) (pc + 3) lv (.int (v.1) :: st)) : Go p l e (RM d) s m args below meth c K A nL 0 0 Q (xW K a len sz words checks cnt err vec bc pm sl ss sw sc) pc lv (.int q0 :: .ref (a 0) :: st) := by
  obtain ⟨v, hv, hf⟩ := bd_some hf
  exact go_callV_full (ry := (some .int)) (n := 1) (b := a 0) (As := [.int q0]) (rest := st) C (con_X2_message l K a hv) hG (by decide) rfl ⟨Nat.succ_le_of_lt hdd, by show 8 + (2 + 11) + 40 * 2 ≤ 40 * d; omega⟩ ⟨Nat.le_refl _, Nat.le_refl _⟩ ⟨0, 2, _, _, rfl, rfl, rfl⟩ rfl rfl hro hd (k v hf)
-- X2_checkValue
set_option maxRecDepth 20000 in
set_option maxHeartbeats 2000000 in
theorem WX2_checkValue_0 {p : Program} {l : Launch} {e : Env} {s : State} {m : MethodId} {args : Array Value} {below : List Frame} {meth : Method} {c : Code} {K : KK} {A : Nat → Prop} {a : Nat → Nat} (C : Cx p s m args meth c K A cX2_checkValue 2 RX2 wsX2_checkValue (some .int)) {z : Int32 × (Nat → Int32)} {len : Int32} {sz : Int32} {words : Nat → Int32} {checks : Nat → Int32} {cnt : Int32} {vec : Nat → Int32} {bc : Int32} {pm : Nat → Nat} {sl : Nat → Int32} {ss : Nat → Int32} {sw : Nat → Nat → Int32} {sc : Nat → Nat → Int32} {err : Nat → Int32} {x1 : Int32} (hf : FX2_checkValue_0 len sz words checks  err x1 = some z) : Go p l e (RM 2) s m args below meth c K A 2 0 0 (MQ below (QR K (some (.int z.1)) (xW K a len sz words checks cnt z.2 vec bc pm sl ss sw sc) A) args s 0 0 A) (xW K a len sz words checks cnt err vec bc pm sl ss sw sc) 0 [(0, .ref (a 0)), (1, .int x1)] [] := by
  unfold FX2_checkValue_0 at hf
  refine go_aload_n C 0 dX2_checkValue_0 rfl rfl ?_
  refine go_iload_n C 1 dX2_checkValue_1 rfl rfl ?_
  refine call_X2_isWord C gX2_checkValue_X2_isWord dX2_checkValue_2 (by decide) (Nat.le_of_ble_eq_true rfl) hf (fun v1 hf => ?_)
  refine go_c1_ne C (tgt := 15) dX2_checkValue_5 (by decide) hf (fun h hf => ?_) (fun h hf => ?_)
  · refine go_aload_n C 0 dX2_checkValue_15 rfl rfl ?_
    refine go_iload_n C 1 dX2_checkValue_16 rfl rfl ?_
    refine go_iconst (v := 1) C dX2_checkValue_17 (by decide) ?_
    refine call_X2_syndrome C gX2_checkValue_X2_syndrome dX2_checkValue_18 (by decide) (Nat.le_of_ble_eq_true rfl) hf (fun v2 hf => ?_)
    cases hf
    exact go_iret C dX2_checkValue_21
  · refine go_aload_n C 0 dX2_checkValue_8 rfl rfl ?_
    refine go_bipush (v := (-2)) C dX2_checkValue_9 (by decide) ?_
    refine call_X2_fail C gX2_checkValue_X2_fail dX2_checkValue_11 (by decide) (Nat.le_of_ble_eq_true rfl) hf (fun v3 hf => ?_)
    cases hf
    exact go_iret C dX2_checkValue_14
set_option maxRecDepth 20000 in
theorem con_X2_checkValue (l : Launch) (K : KK) (a : Nat → Nat) {len : Int32} {sz : Int32} {words : Nat → Int32} {checks : Nat → Int32} {cnt : Int32} {err : Nat → Int32} {vec : Nat → Int32} {bc : Int32} {pm : Nat → Nat} {sl : Nat → Int32} {ss : Nat → Int32} {sw : Nat → Nat → Int32} {sc : Nat → Nat → Int32} {x1 : Int32} {z : Int32 × (Nat → Int32)} (hf : fX2_checkValue len sz words checks err x1 = some z) : Con l yX2_checkValue wsX2_checkValue 2 K [.ref (a 0), .int x1] (xW K a len sz words checks cnt err vec bc pm sl ss sw sc) (some (.int z.1)) (xW K a len sz words checks cnt z.2 vec bc pm sl ss sw sc) :=
  con_of (cc := cX2_checkValue) (maxL := 2) (ret := (some .int)) (own := RX2) (lv0 := [(0, .ref (a 0)), (1, .int x1)]) (by decide) rfl rfl (Nat.le_of_ble_eq_true rfl) rfl (fun p e s m args below meth c A C => go_lv (lv' := [(0, .ref (a 0)), (1, .int x1)]) [0, 1] rfl (WX2_checkValue_0 C hf))
set_option maxRecDepth 20000 in
theorem call_X2_checkValue {p : Program} {l : Launch} {e : Env} {s : State} {m : MethodId} {args : Array Value} {below : List Frame} {meth : Method} {c : Code} {K : KK} {A : Nat → Prop} {Q : State → Prop} {cc : ByteArray} {nL : Nat} {Ts : List Cond} {ret : Option FieldType} {pc : Nat} {lv : List (Nat × Value)} {st : List Value} {ix d : Nat} {α : Type} {kk : Int32 × (Nat → Int32) → Option α} {y : α} {a : Nat → Nat} {len : Int32} {sz : Int32} {words : Nat → Int32} {checks : Nat → Int32} {cnt : Int32} {err : Nat → Int32} {vec : Nat → Int32} {bc : Int32} {pm : Nat → Nat} {sl : Nat → Int32} {ss : Nat → Int32} {sw : Nat → Nat → Int32} {sc : Nat → Nat → Int32} {q0 : Int32} (C : Cx p s m args meth c K A cc nL RX2 Ts ret) (hG : GoodIn Ts (wsV RX2 ix RX2 yX2_checkValue wsX2_checkValue)) (hd : decode cc pc = .ok (.invokevirtual ix, 3)) (hdd : 2 < d) (hro : (st.map fun v => v.category).sum ≤ 8) (hf : (fX2_checkValue len sz words checks err q0).bind kk = some y) (k : ∀ v, kk v = some y → Go p l e (RM d) s m args below meth c K A nL 0 0 Q (xW K a len sz words checks cnt v.2 vec bc pm sl ss sw sc) (pc + 3) lv (.int (v.1) :: st)) : Go p l e (RM d) s m args below meth c K A nL 0 0 Q (xW K a len sz words checks cnt err vec bc pm sl ss sw sc) pc lv (.int q0 :: .ref (a 0) :: st) := by
  obtain ⟨v, hv, hf⟩ := bd_some hf
  exact go_callV_full (ry := (some .int)) (n := 1) (b := a 0) (As := [.int q0]) (rest := st) C (con_X2_checkValue l K a hv) hG (by decide) rfl ⟨Nat.succ_le_of_lt hdd, by show 8 + (2 + 11) + 40 * 2 ≤ 40 * d; omega⟩ ⟨Nat.le_refl _, Nat.le_refl _⟩ ⟨0, 2, _, _, rfl, rfl, rfl⟩ rfl rfl hro hd (k v hf)
-- X2_codewords
theorem iX2_codewords_1 : ∀ w ∈ wsX10, w ∈ wsX2_codewords := by decide +kernel
theorem iX2_codewords_2 : ∀ w ∈ wsX20, w ∈ wsX2_codewords := by decide +kernel
theorem kX2_codewords_12 : Cond.fieldLink RX2 12 "CosetCoder" "state" "LCosetCoder$State;" ∈ wsX2_codewords := by decide +kernel
set_option maxRecDepth 20000 in
set_option maxHeartbeats 2000000 in
theorem WX2_codewords_0 {p : Program} {l : Launch} {e : Env} {s : State} {m : MethodId} {args : Array Value} {below : List Frame} {meth : Method} {c : Code} {K : KK} {A : Nat → Prop} {a : Nat → Nat} (C : Cx p s m args meth c K A cX2_codewords 1 RX2 wsX2_codewords (some .int)) {z : Int32 × (Nat → Int32) × Int32} {len : Int32} {sz : Int32} {words : Nat → Int32} {checks : Nat → Int32} {cnt : Int32} {err : Nat → Int32} {pm : Nat → Nat} {sl : Nat → Int32} {ss : Nat → Int32} {sw : Nat → Nat → Int32} {sc : Nat → Nat → Int32} {vec : Nat → Int32} {bc : Int32} (hf : FX2_codewords_0 len sz words checks  vec bc = some z) : Go p l e (RM 4) s m args below meth c K A 1 0 0 (MQ below (QR K (some (.int z.1)) (xW K a len sz words checks cnt err z.2.1 z.2.2 pm sl ss sw sc) A) args s 0 0 A) (xW K a len sz words checks cnt err vec bc pm sl ss sw sc) 0 [(0, .ref (a 0))] [] := by
  unfold FX2_codewords_0 at hf
  refine go_iconst (v := 1) C dX2_codewords_0 (by decide) ?_
  refine go_aload_n C 0 dX2_codewords_1 rfl rfl ?_
  refine gX_get_state C iX2_codewords_2 kX2_codewords_12 dX2_codewords_2 ?_
  refine gX_get_n_length C iX2_codewords_1 dX2_codewords_5 ?_
  refine go_aload_n C 0 dX2_codewords_8 rfl rfl ?_
  refine go_iconst (v := 1) C dX2_codewords_9 (by decide) ?_
  refine call_X2_rankOfKind C gX2_codewords_X2_rankOfKind dX2_codewords_10 (by decide) (Nat.le_of_ble_eq_true rfl) hf (fun v1 hf => ?_)
  refine go_isub C dX2_codewords_13 ?_
  refine go_ishl C dX2_codewords_14 ?_
  cases hf
  exact go_iret C dX2_codewords_15
set_option maxRecDepth 20000 in
theorem con_X2_codewords (l : Launch) (K : KK) (a : Nat → Nat) {len : Int32} {sz : Int32} {words : Nat → Int32} {checks : Nat → Int32} {cnt : Int32} {err : Nat → Int32} {vec : Nat → Int32} {bc : Int32} {pm : Nat → Nat} {sl : Nat → Int32} {ss : Nat → Int32} {sw : Nat → Nat → Int32} {sc : Nat → Nat → Int32} {z : Int32 × (Nat → Int32) × Int32} (hf : fX2_codewords len sz words checks vec bc = some z) : Con l yX2_codewords wsX2_codewords 4 K [.ref (a 0)] (xW K a len sz words checks cnt err vec bc pm sl ss sw sc) (some (.int z.1)) (xW K a len sz words checks cnt err z.2.1 z.2.2 pm sl ss sw sc) :=
  con_of (cc := cX2_codewords) (maxL := 1) (ret := (some .int)) (own := RX2) (lv0 := [(0, .ref (a 0))]) (by decide) rfl rfl (Nat.le_of_ble_eq_true rfl) rfl (fun p e s m args below meth c A C => go_lv (lv' := [(0, .ref (a 0))]) [0] rfl (WX2_codewords_0 C hf))
set_option maxRecDepth 20000 in
theorem call_X2_codewords {p : Program} {l : Launch} {e : Env} {s : State} {m : MethodId} {args : Array Value} {below : List Frame} {meth : Method} {c : Code} {K : KK} {A : Nat → Prop} {Q : State → Prop} {cc : ByteArray} {nL : Nat} {Ts : List Cond} {ret : Option FieldType} {pc : Nat} {lv : List (Nat × Value)} {st : List Value} {ix d : Nat} {α : Type} {kk : Int32 × (Nat → Int32) × Int32 → Option α} {y : α} {a : Nat → Nat} {len : Int32} {sz : Int32} {words : Nat → Int32} {checks : Nat → Int32} {cnt : Int32} {err : Nat → Int32} {vec : Nat → Int32} {bc : Int32} {pm : Nat → Nat} {sl : Nat → Int32} {ss : Nat → Int32} {sw : Nat → Nat → Int32} {sc : Nat → Nat → Int32} (C : Cx p s m args meth c K A cc nL RX2 Ts ret) (hG : GoodIn Ts (wsV RX2 ix RX2 yX2_codewords wsX2_codewords)) (hd : decode cc pc = .ok (.invokevirtual ix, 3)) (hdd : 4 < d) (hro : (st.map fun v => v.category).sum ≤ 8) (hf : (fX2_codewords len sz words checks vec bc).bind kk = some y) (k : ∀ v, kk v = some y → Go p l e (RM d) s m args below meth c K A nL 0 0 Q (xW K a len sz words checks cnt err v.2.1 v.2.2 pm sl ss sw sc) (pc + 3) lv (.int (v.1) :: st)) : Go p l e (RM d) s m args below meth c K A nL 0 0 Q (xW K a len sz words checks cnt err vec bc pm sl ss sw sc) pc lv (.ref (a 0) :: st) := by
  obtain ⟨v, hv, hf⟩ := bd_some hf
  exact go_callV_full (ry := (some .int)) (n := 0) (b := a 0) (As := []) (rest := st) C (con_X2_codewords l K a hv) hG (by decide) rfl ⟨Nat.succ_le_of_lt hdd, by show 8 + (1 + 11) + 40 * 4 ≤ 40 * d; omega⟩ ⟨Nat.le_refl _, Nat.le_refl _⟩ ⟨0, 2, _, _, rfl, rfl, rfl⟩ rfl rfl hro hd (k v hf)
-- X2_hiddenBits
theorem iX2_hiddenBits_2 : ∀ w ∈ wsX20, w ∈ wsX2_hiddenBits := by decide +kernel
theorem kX2_hiddenBits_31 : Cond.fieldLink RX2 31 "CosetCoder" "basis" "LCosetCoder$Basis;" ∈ wsX2_hiddenBits := by decide +kernel
set_option maxRecDepth 20000 in
set_option maxHeartbeats 2000000 in
theorem WX2_hiddenBits_0 {p : Program} {l : Launch} {e : Env} {s : State} {m : MethodId} {args : Array Value} {below : List Frame} {meth : Method} {c : Code} {K : KK} {A : Nat → Prop} {a : Nat → Nat} (C : Cx p s m args meth c K A cX2_hiddenBits 2 RX2 wsX2_hiddenBits (some .int)) {z : Int32 × (Nat → Int32) × Int32} {len : Int32} {sz : Int32} {words : Nat → Int32} {checks : Nat → Int32} {cnt : Int32} {err : Nat → Int32} {pm : Nat → Nat} {sl : Nat → Int32} {ss : Nat → Int32} {sw : Nat → Nat → Int32} {sc : Nat → Nat → Int32} {vec : Nat → Int32} {bc : Int32} {x1 : Int32} (hf : FX2_hiddenBits_0 sz words checks  vec bc x1 = some z) : Go p l e (RM 3) s m args below meth c K A 2 0 0 (MQ below (QR K (some (.int z.1)) (xW K a len sz words checks cnt err z.2.1 z.2.2 pm sl ss sw sc) A) args s 0 0 A) (xW K a len sz words checks cnt err vec bc pm sl ss sw sc) 0 [(0, .ref (a 0)), (1, .int x1)] [] := by
  unfold FX2_hiddenBits_0 at hf
  refine go_aload_n C 0 dX2_hiddenBits_0 rfl rfl ?_
  refine gX_get_basis C iX2_hiddenBits_2 kX2_hiddenBits_31 dX2_hiddenBits_1 ?_
  refine call_X0_clear C gX2_hiddenBits_X0_clear_n66 (by decide +kernel) (by decide +kernel) (by decide +kernel) dX2_hiddenBits_4 (by decide) (Nat.le_of_ble_eq_true rfl) hf (fun v1 hf => ?_)
  refine go_aload_n C 0 dX2_hiddenBits_7 rfl rfl ?_
  refine go_iconst (v := 1) C dX2_hiddenBits_8 (by decide) ?_
  refine go_iload_n C 1 dX2_hiddenBits_9 rfl rfl ?_
  refine call_X2_extendBasis C gX2_hiddenBits_X2_extendBasis dX2_hiddenBits_10 (by decide) (Nat.le_of_ble_eq_true rfl) hf (fun v2 hf => ?_)
  refine go_pop C dX2_hiddenBits_13 rfl ?_
  refine go_aload_n C 0 dX2_hiddenBits_14 rfl rfl ?_
  refine go_iconst (v := 0) C dX2_hiddenBits_15 (by decide) ?_
  refine go_iload_n C 1 dX2_hiddenBits_16 rfl rfl ?_
  refine call_X2_extendBasis C gX2_hiddenBits_X2_extendBasis dX2_hiddenBits_17 (by decide) (Nat.le_of_ble_eq_true rfl) hf (fun v3 hf => ?_)
  cases hf
  exact go_iret C dX2_hiddenBits_20
set_option maxRecDepth 20000 in
theorem con_X2_hiddenBits (l : Launch) (K : KK) (a : Nat → Nat) {len : Int32} {sz : Int32} {words : Nat → Int32} {checks : Nat → Int32} {cnt : Int32} {err : Nat → Int32} {vec : Nat → Int32} {bc : Int32} {pm : Nat → Nat} {sl : Nat → Int32} {ss : Nat → Int32} {sw : Nat → Nat → Int32} {sc : Nat → Nat → Int32} {x1 : Int32} {z : Int32 × (Nat → Int32) × Int32} (hf : fX2_hiddenBits sz words checks vec bc x1 = some z) : Con l yX2_hiddenBits wsX2_hiddenBits 3 K [.ref (a 0), .int x1] (xW K a len sz words checks cnt err vec bc pm sl ss sw sc) (some (.int z.1)) (xW K a len sz words checks cnt err z.2.1 z.2.2 pm sl ss sw sc) :=
  con_of (cc := cX2_hiddenBits) (maxL := 2) (ret := (some .int)) (own := RX2) (lv0 := [(0, .ref (a 0)), (1, .int x1)]) (by decide) rfl rfl (Nat.le_of_ble_eq_true rfl) rfl (fun p e s m args below meth c A C => go_lv (lv' := [(0, .ref (a 0)), (1, .int x1)]) [0, 1] rfl (WX2_hiddenBits_0 C hf))
set_option maxRecDepth 20000 in
theorem call_X2_hiddenBits {p : Program} {l : Launch} {e : Env} {s : State} {m : MethodId} {args : Array Value} {below : List Frame} {meth : Method} {c : Code} {K : KK} {A : Nat → Prop} {Q : State → Prop} {cc : ByteArray} {nL : Nat} {Ts : List Cond} {ret : Option FieldType} {pc : Nat} {lv : List (Nat × Value)} {st : List Value} {ix d : Nat} {α : Type} {kk : Int32 × (Nat → Int32) × Int32 → Option α} {y : α} {a : Nat → Nat} {len : Int32} {sz : Int32} {words : Nat → Int32} {checks : Nat → Int32} {cnt : Int32} {err : Nat → Int32} {vec : Nat → Int32} {bc : Int32} {pm : Nat → Nat} {sl : Nat → Int32} {ss : Nat → Int32} {sw : Nat → Nat → Int32} {sc : Nat → Nat → Int32} {q0 : Int32} (C : Cx p s m args meth c K A cc nL RX2 Ts ret) (hG : GoodIn Ts (wsV RX2 ix RX2 yX2_hiddenBits wsX2_hiddenBits)) (hd : decode cc pc = .ok (.invokevirtual ix, 3)) (hdd : 3 < d) (hro : (st.map fun v => v.category).sum ≤ 8) (hf : (fX2_hiddenBits sz words checks vec bc q0).bind kk = some y) (k : ∀ v, kk v = some y → Go p l e (RM d) s m args below meth c K A nL 0 0 Q (xW K a len sz words checks cnt err v.2.1 v.2.2 pm sl ss sw sc) (pc + 3) lv (.int (v.1) :: st)) : Go p l e (RM d) s m args below meth c K A nL 0 0 Q (xW K a len sz words checks cnt err vec bc pm sl ss sw sc) pc lv (.int q0 :: .ref (a 0) :: st) := by
  obtain ⟨v, hv, hf⟩ := bd_some hf
  exact go_callV_full (ry := (some .int)) (n := 1) (b := a 0) (As := [.int q0]) (rest := st) C (con_X2_hiddenBits l K a hv) hG (by decide) rfl ⟨Nat.succ_le_of_lt hdd, by show 8 + (2 + 11) + 40 * 3 ≤ 40 * d; omega⟩ ⟨Nat.le_refl _, Nat.le_refl _⟩ ⟨0, 2, _, _, rfl, rfl, rfl⟩ rfl rfl hro hd (k v hf)
-- X2_messages
set_option maxRecDepth 20000 in
set_option maxHeartbeats 2000000 in
theorem WX2_messages_0 {p : Program} {l : Launch} {e : Env} {s : State} {m : MethodId} {args : Array Value} {below : List Frame} {meth : Method} {c : Code} {K : KK} {A : Nat → Prop} {a : Nat → Nat} (C : Cx p s m args meth c K A cX2_messages 1 RX2 wsX2_messages (some .int)) {z : Int32 × (Nat → Int32) × Int32} {len : Int32} {sz : Int32} {words : Nat → Int32} {checks : Nat → Int32} {cnt : Int32} {err : Nat → Int32} {pm : Nat → Nat} {sl : Nat → Int32} {ss : Nat → Int32} {sw : Nat → Nat → Int32} {sc : Nat → Nat → Int32} {vec : Nat → Int32} {bc : Int32} (hf : FX2_messages_0 len sz words checks  vec bc = some z) : Go p l e (RM 4) s m args below meth c K A 1 0 0 (MQ below (QR K (some (.int z.1)) (xW K a len sz words checks cnt err z.2.1 z.2.2 pm sl ss sw sc) A) args s 0 0 A) (xW K a len sz words checks cnt err vec bc pm sl ss sw sc) 0 [(0, .ref (a 0))] [] := by
  unfold FX2_messages_0 at hf
  refine go_iconst (v := 1) C dX2_messages_0 (by decide) ?_
  refine go_aload_n C 0 dX2_messages_1 rfl rfl ?_
  refine go_aload_n C 0 dX2_messages_2 rfl rfl ?_
  refine call_X2_allPositions C gX2_messages_X2_allPositions dX2_messages_3 (by decide) (Nat.le_of_ble_eq_true rfl) hf (fun v1 hf => ?_)
  refine call_X2_hiddenBits C gX2_messages_X2_hiddenBits dX2_messages_6 (by decide) (Nat.le_of_ble_eq_true rfl) hf (fun v2 hf => ?_)
  refine go_ishl C dX2_messages_9 ?_
  cases hf
  exact go_iret C dX2_messages_10
set_option maxRecDepth 20000 in
theorem con_X2_messages (l : Launch) (K : KK) (a : Nat → Nat) {len : Int32} {sz : Int32} {words : Nat → Int32} {checks : Nat → Int32} {cnt : Int32} {err : Nat → Int32} {vec : Nat → Int32} {bc : Int32} {pm : Nat → Nat} {sl : Nat → Int32} {ss : Nat → Int32} {sw : Nat → Nat → Int32} {sc : Nat → Nat → Int32} {z : Int32 × (Nat → Int32) × Int32} (hf : fX2_messages len sz words checks vec bc = some z) : Con l yX2_messages wsX2_messages 4 K [.ref (a 0)] (xW K a len sz words checks cnt err vec bc pm sl ss sw sc) (some (.int z.1)) (xW K a len sz words checks cnt err z.2.1 z.2.2 pm sl ss sw sc) :=
  con_of (cc := cX2_messages) (maxL := 1) (ret := (some .int)) (own := RX2) (lv0 := [(0, .ref (a 0))]) (by decide) rfl rfl (Nat.le_of_ble_eq_true rfl) rfl (fun p e s m args below meth c A C => go_lv (lv' := [(0, .ref (a 0))]) [0] rfl (WX2_messages_0 C hf))
set_option maxRecDepth 20000 in
theorem call_X2_messages {p : Program} {l : Launch} {e : Env} {s : State} {m : MethodId} {args : Array Value} {below : List Frame} {meth : Method} {c : Code} {K : KK} {A : Nat → Prop} {Q : State → Prop} {cc : ByteArray} {nL : Nat} {Ts : List Cond} {ret : Option FieldType} {pc : Nat} {lv : List (Nat × Value)} {st : List Value} {ix d : Nat} {α : Type} {kk : Int32 × (Nat → Int32) × Int32 → Option α} {y : α} {a : Nat → Nat} {len : Int32} {sz : Int32} {words : Nat → Int32} {checks : Nat → Int32} {cnt : Int32} {err : Nat → Int32} {vec : Nat → Int32} {bc : Int32} {pm : Nat → Nat} {sl : Nat → Int32} {ss : Nat → Int32} {sw : Nat → Nat → Int32} {sc : Nat → Nat → Int32} (C : Cx p s m args meth c K A cc nL RX2 Ts ret) (hG : GoodIn Ts (wsV RX2 ix RX2 yX2_messages wsX2_messages)) (hd : decode cc pc = .ok (.invokevirtual ix, 3)) (hdd : 4 < d) (hro : (st.map fun v => v.category).sum ≤ 8) (hf : (fX2_messages len sz words checks vec bc).bind kk = some y) (k : ∀ v, kk v = some y → Go p l e (RM d) s m args below meth c K A nL 0 0 Q (xW K a len sz words checks cnt err v.2.1 v.2.2 pm sl ss sw sc) (pc + 3) lv (.int (v.1) :: st)) : Go p l e (RM d) s m args below meth c K A nL 0 0 Q (xW K a len sz words checks cnt err vec bc pm sl ss sw sc) pc lv (.ref (a 0) :: st) := by
  obtain ⟨v, hv, hf⟩ := bd_some hf
  exact go_callV_full (ry := (some .int)) (n := 0) (b := a 0) (As := []) (rest := st) C (con_X2_messages l K a hv) hG (by decide) rfl ⟨Nat.succ_le_of_lt hdd, by show 8 + (1 + 11) + 40 * 4 ≤ 40 * d; omega⟩ ⟨Nat.le_refl _, Nat.le_refl _⟩ ⟨0, 2, _, _, rfl, rfl, rfl⟩ rfl rfl hro hd (k v hf)
-- X2_isMessage
set_option maxRecDepth 20000 in
set_option maxHeartbeats 2000000 in
theorem WX2_isMessage_15 {p : Program} {l : Launch} {e : Env} {s : State} {m : MethodId} {args : Array Value} {below : List Frame} {meth : Method} {c : Code} {K : KK} {A : Nat → Prop} {wz : va_W} (C : Cx p s m args meth c K A cX2_isMessage 1 RX2 wsX2_isMessage (some .boolean)) {z : Int32} {t0 : Int32} (hf : FX2_isMessage_15   t0 = some z) : Go p l e (RM 0) s m args below meth c K A 1 0 0 (MQ below (QR K (some (.int z)) wz A) args s 0 0 A) wz 15 [] [.int t0] := by
  unfold FX2_isMessage_15 at hf
  obtain ⟨hb1, hf⟩ := ckB_some hf
  cases hf
  exact go_zret C hb1 dX2_isMessage_15
set_option maxRecDepth 20000 in
set_option maxHeartbeats 2000000 in
theorem WX2_isMessage_14 {p : Program} {l : Launch} {e : Env} {s : State} {m : MethodId} {args : Array Value} {below : List Frame} {meth : Method} {c : Code} {K : KK} {A : Nat → Prop} {wz : va_W} (C : Cx p s m args meth c K A cX2_isMessage 1 RX2 wsX2_isMessage (some .boolean)) {z : Int32} (hf : FX2_isMessage_14    = some z) : Go p l e (RM 0) s m args below meth c K A 1 0 0 (MQ below (QR K (some (.int z)) wz A) args s 0 0 A) wz 14 [] [] := by
  unfold FX2_isMessage_14 at hf
  refine go_iconst (v := 0) C dX2_isMessage_14 (by decide) ?_
  exact WX2_isMessage_15 C  hf
set_option maxRecDepth 20000 in
set_option maxHeartbeats 2000000 in
theorem WX2_isMessage_0 {p : Program} {l : Launch} {e : Env} {s : State} {m : MethodId} {args : Array Value} {below : List Frame} {meth : Method} {c : Code} {K : KK} {A : Nat → Prop} {wz : va_W} (C : Cx p s m args meth c K A cX2_isMessage 1 RX2 wsX2_isMessage (some .boolean)) {z : Int32} {x0 : Int32} (hf : FX2_isMessage_0   x0 = some z) : Go p l e (RM 0) s m args below meth c K A 1 0 0 (MQ below (QR K (some (.int z)) wz A) args s 0 0 A) wz 0 [(0, .int x0)] [] := by
  unfold FX2_isMessage_0 at hf
  refine go_iload_n C 0 dX2_isMessage_0 rfl rfl ?_
  refine go_c1_lt C (tgt := 14) dX2_isMessage_1 (by decide) hf (fun h hf => ?_) (fun h hf => ?_)
  · refine go_lv (lv' := []) [] rfl ?_
    exact WX2_isMessage_14 C  hf
  · refine go_iload_n C 0 dX2_isMessage_4 rfl rfl ?_
    refine go_bipush (v := 64) C dX2_isMessage_5 (by decide) ?_
    refine go_c2_ge C (tgt := 14) dX2_isMessage_7 (by decide) hf (fun h hf => ?_) (fun h hf => ?_)
    · refine go_lv (lv' := []) [] rfl ?_
      exact WX2_isMessage_14 C  hf
    · refine go_iconst (v := 1) C dX2_isMessage_10 (by decide) ?_
      refine go_goto C (tgt := 15) dX2_isMessage_11 (by decide) ?_
      refine go_lv (lv' := []) [] rfl ?_
      exact WX2_isMessage_15 C  hf
set_option maxRecDepth 20000 in
theorem con_X2_isMessage (l : Launch) (K : KK) {x0 : Int32} {z : Int32} (hf : fX2_isMessage x0 = some z) : Con l yX2_isMessage wsX2_isMessage 0 K [.int x0] [] (some (.int z)) [] :=
  con_of (cc := cX2_isMessage) (maxL := 1) (ret := (some .boolean)) (own := RX2) (lv0 := [(0, .int x0)]) (by decide) rfl rfl (Nat.le_of_ble_eq_true rfl) rfl (fun p e s m args below meth c A C => go_lv (lv' := [(0, .int x0)]) [0] rfl (WX2_isMessage_0 C hf))
set_option maxRecDepth 20000 in
theorem call_X2_isMessage {p : Program} {l : Launch} {e : Env} {s : State} {m : MethodId} {args : Array Value} {below : List Frame} {meth : Method} {c : Code} {K : KK} {A : Nat → Prop} {Q : State → Prop} {cc : ByteArray} {nL : Nat} {own : String} {Ts : List Cond} {ret : Option FieldType} {pc : Nat} {lv : List (Nat × Value)} {st : List Value} {ix d : Nat} {α : Type} {kk : Int32 → Option α} {y : α} {ws : va_W} {q0 : Int32} (C : Cx p s m args meth c K A cc nL own Ts ret) (hG : GoodIn Ts (va_wsS own ix yX2_isMessage wsX2_isMessage)) (hd : decode cc pc = .ok (.invokestatic ix, 3)) (hdd : 0 < d) (hro : (st.map fun v => v.category).sum ≤ 8) (hf : (fX2_isMessage q0).bind kk = some y) (k : ∀ v, kk v = some y → Go p l e (RM d) s m args below meth c K A nL 0 0 Q ws (pc + 3) lv (.int v :: st)) : Go p l e (RM d) s m args below meth c K A nL 0 0 Q ws pc lv (.int q0 :: st) := by
  obtain ⟨v, hv, hf⟩ := bd_some hf
  exact go_callS_l (ws := []) (w2 := ws) (ry := (some .boolean)) (n := 1) (As := [.int q0]) (rest := st) C (con_X2_isMessage l K hv) hG (by decide) rfl ⟨Nat.succ_le_of_lt hdd, by show 8 + (1 + 11) + 40 * 0 ≤ 40 * d; omega⟩ ⟨Nat.le_refl _, Nat.le_refl _⟩ rfl rfl hro hd (k v hf)
-- X2_isCodeword
set_option maxRecDepth 20000 in
set_option maxHeartbeats 2000000 in
theorem WX2_isCodeword_14 {p : Program} {l : Launch} {e : Env} {s : State} {m : MethodId} {args : Array Value} {below : List Frame} {meth : Method} {c : Code} {K : KK} {A : Nat → Prop} {a : Nat → Nat} (C : Cx p s m args meth c K A cX2_isCodeword 2 RX2 wsX2_isCodeword (some .boolean)) {z : Int32} {len : Int32} {sz : Int32} {words : Nat → Int32} {checks : Nat → Int32} {cnt : Int32} {err : Nat → Int32} {vec : Nat → Int32} {bc : Int32} {pm : Nat → Nat} {sl : Nat → Int32} {ss : Nat → Int32} {sw : Nat → Nat → Int32} {sc : Nat → Nat → Int32} {t0 : Int32} (hf : FX2_isCodeword_14 sz words checks  t0 = some z) : Go p l e (RM 2) s m args below meth c K A 2 0 0 (MQ below (QR K (some (.int z)) (xW K a len sz words checks cnt err vec bc pm sl ss sw sc) A) args s 0 0 A) (xW K a len sz words checks cnt err vec bc pm sl ss sw sc) 14 [] [.int t0] := by
  unfold FX2_isCodeword_14 at hf
  obtain ⟨hb1, hf⟩ := ckB_some hf
  cases hf
  exact go_zret C hb1 dX2_isCodeword_14
set_option maxRecDepth 20000 in
set_option maxHeartbeats 2000000 in
theorem WX2_isCodeword_0 {p : Program} {l : Launch} {e : Env} {s : State} {m : MethodId} {args : Array Value} {below : List Frame} {meth : Method} {c : Code} {K : KK} {A : Nat → Prop} {a : Nat → Nat} (C : Cx p s m args meth c K A cX2_isCodeword 2 RX2 wsX2_isCodeword (some .boolean)) {z : Int32} {len : Int32} {sz : Int32} {words : Nat → Int32} {checks : Nat → Int32} {cnt : Int32} {err : Nat → Int32} {vec : Nat → Int32} {bc : Int32} {pm : Nat → Nat} {sl : Nat → Int32} {ss : Nat → Int32} {sw : Nat → Nat → Int32} {sc : Nat → Nat → Int32} {x1 : Int32} (hf : FX2_isCodeword_0 sz words checks  x1 = some z) : Go p l e (RM 2) s m args below meth c K A 2 0 0 (MQ below (QR K (some (.int z)) (xW K a len sz words checks cnt err vec bc pm sl ss sw sc) A) args s 0 0 A) (xW K a len sz words checks cnt err vec bc pm sl ss sw sc) 0 [(0, .ref (a 0)), (1, .int x1)] [] := by
  unfold FX2_isCodeword_0 at hf
  refine go_aload_n C 0 dX2_isCodeword_0 rfl rfl ?_
  refine go_iload_n C 1 dX2_isCodeword_1 rfl rfl ?_
  refine go_iconst (v := 1) C dX2_isCodeword_2 (by decide) ?_
  refine call_X2_syndrome C gX2_isCodeword_X2_syndrome dX2_isCodeword_3 (by decide) (Nat.le_of_ble_eq_true rfl) hf (fun v1 hf => ?_)
  refine go_c1_ne C (tgt := 13) dX2_isCodeword_6 (by decide) hf (fun h hf => ?_) (fun h hf => ?_)
  · refine go_iconst (v := 0) C dX2_isCodeword_13 (by decide) ?_
    refine go_lv (lv' := []) [] rfl ?_
    exact WX2_isCodeword_14 C  hf
  · refine go_iconst (v := 1) C dX2_isCodeword_9 (by decide) ?_
    refine go_goto C (tgt := 14) dX2_isCodeword_10 (by decide) ?_
    refine go_lv (lv' := []) [] rfl ?_
    exact WX2_isCodeword_14 C  hf
set_option maxRecDepth 20000 in
theorem con_X2_isCodeword (l : Launch) (K : KK) (a : Nat → Nat) {len : Int32} {sz : Int32} {words : Nat → Int32} {checks : Nat → Int32} {cnt : Int32} {err : Nat → Int32} {vec : Nat → Int32} {bc : Int32} {pm : Nat → Nat} {sl : Nat → Int32} {ss : Nat → Int32} {sw : Nat → Nat → Int32} {sc : Nat → Nat → Int32} {x1 : Int32} {z : Int32} (hf : fX2_isCodeword sz words checks x1 = some z) : Con l yX2_isCodeword wsX2_isCodeword 2 K [.ref (a 0), .int x1] (xW K a len sz words checks cnt err vec bc pm sl ss sw sc) (some (.int z)) (xW K a len sz words checks cnt err vec bc pm sl ss sw sc) :=
  con_of (cc := cX2_isCodeword) (maxL := 2) (ret := (some .boolean)) (own := RX2) (lv0 := [(0, .ref (a 0)), (1, .int x1)]) (by decide) rfl rfl (Nat.le_of_ble_eq_true rfl) rfl (fun p e s m args below meth c A C => go_lv (lv' := [(0, .ref (a 0)), (1, .int x1)]) [0, 1] rfl (WX2_isCodeword_0 C hf))
set_option maxRecDepth 20000 in
theorem call_X2_isCodeword {p : Program} {l : Launch} {e : Env} {s : State} {m : MethodId} {args : Array Value} {below : List Frame} {meth : Method} {c : Code} {K : KK} {A : Nat → Prop} {Q : State → Prop} {cc : ByteArray} {nL : Nat} {Ts : List Cond} {ret : Option FieldType} {pc : Nat} {lv : List (Nat × Value)} {st : List Value} {ix d : Nat} {α : Type} {kk : Int32 → Option α} {y : α} {a : Nat → Nat} {len : Int32} {sz : Int32} {words : Nat → Int32} {checks : Nat → Int32} {cnt : Int32} {err : Nat → Int32} {vec : Nat → Int32} {bc : Int32} {pm : Nat → Nat} {sl : Nat → Int32} {ss : Nat → Int32} {sw : Nat → Nat → Int32} {sc : Nat → Nat → Int32} {q0 : Int32} (C : Cx p s m args meth c K A cc nL RX2 Ts ret) (hG : GoodIn Ts (wsV RX2 ix RX2 yX2_isCodeword wsX2_isCodeword)) (hd : decode cc pc = .ok (.invokevirtual ix, 3)) (hdd : 2 < d) (hro : (st.map fun v => v.category).sum ≤ 8) (hf : (fX2_isCodeword sz words checks q0).bind kk = some y) (k : ∀ v, kk v = some y → Go p l e (RM d) s m args below meth c K A nL 0 0 Q (xW K a len sz words checks cnt err vec bc pm sl ss sw sc) (pc + 3) lv (.int v :: st)) : Go p l e (RM d) s m args below meth c K A nL 0 0 Q (xW K a len sz words checks cnt err vec bc pm sl ss sw sc) pc lv (.int q0 :: .ref (a 0) :: st) := by
  obtain ⟨v, hv, hf⟩ := bd_some hf
  exact go_callV_full (ry := (some .boolean)) (n := 1) (b := a 0) (As := [.int q0]) (rest := st) C (con_X2_isCodeword l K a hv) hG (by decide) rfl ⟨Nat.succ_le_of_lt hdd, by show 8 + (2 + 11) + 40 * 2 ≤ 40 * d; omega⟩ ⟨Nat.le_refl _, Nat.le_refl _⟩ ⟨0, 2, _, _, rfl, rfl, rfl⟩ rfl rfl hro hd (k v hf)
-- X2_isCodewordOf
set_option maxRecDepth 20000 in
set_option maxHeartbeats 2000000 in
theorem WX2_isCodewordOf_23 {p : Program} {l : Launch} {e : Env} {s : State} {m : MethodId} {args : Array Value} {below : List Frame} {meth : Method} {c : Code} {K : KK} {A : Nat → Prop} {a : Nat → Nat} (C : Cx p s m args meth c K A cX2_isCodewordOf 3 RX2 wsX2_isCodewordOf (some .boolean)) {z : Int32} {len : Int32} {sz : Int32} {words : Nat → Int32} {checks : Nat → Int32} {cnt : Int32} {err : Nat → Int32} {vec : Nat → Int32} {bc : Int32} {pm : Nat → Nat} {sl : Nat → Int32} {ss : Nat → Int32} {sw : Nat → Nat → Int32} {sc : Nat → Nat → Int32} {t0 : Int32} (hf : FX2_isCodewordOf_23 sz words checks  t0 = some z) : Go p l e (RM 3) s m args below meth c K A 3 0 0 (MQ below (QR K (some (.int z)) (xW K a len sz words checks cnt err vec bc pm sl ss sw sc) A) args s 0 0 A) (xW K a len sz words checks cnt err vec bc pm sl ss sw sc) 23 [] [.int t0] := by
  unfold FX2_isCodewordOf_23 at hf
  obtain ⟨hb1, hf⟩ := ckB_some hf
  cases hf
  exact go_zret C hb1 dX2_isCodewordOf_23
set_option maxRecDepth 20000 in
set_option maxHeartbeats 2000000 in
theorem WX2_isCodewordOf_22 {p : Program} {l : Launch} {e : Env} {s : State} {m : MethodId} {args : Array Value} {below : List Frame} {meth : Method} {c : Code} {K : KK} {A : Nat → Prop} {a : Nat → Nat} (C : Cx p s m args meth c K A cX2_isCodewordOf 3 RX2 wsX2_isCodewordOf (some .boolean)) {z : Int32} {len : Int32} {sz : Int32} {words : Nat → Int32} {checks : Nat → Int32} {cnt : Int32} {err : Nat → Int32} {vec : Nat → Int32} {bc : Int32} {pm : Nat → Nat} {sl : Nat → Int32} {ss : Nat → Int32} {sw : Nat → Nat → Int32} {sc : Nat → Nat → Int32} (hf : FX2_isCodewordOf_22 sz words checks   = some z) : Go p l e (RM 3) s m args below meth c K A 3 0 0 (MQ below (QR K (some (.int z)) (xW K a len sz words checks cnt err vec bc pm sl ss sw sc) A) args s 0 0 A) (xW K a len sz words checks cnt err vec bc pm sl ss sw sc) 22 [] [] := by
  unfold FX2_isCodewordOf_22 at hf
  refine go_iconst (v := 0) C dX2_isCodewordOf_22 (by decide) ?_
  exact WX2_isCodewordOf_23 C  hf
set_option maxRecDepth 20000 in
set_option maxHeartbeats 2000000 in
theorem WX2_isCodewordOf_0 {p : Program} {l : Launch} {e : Env} {s : State} {m : MethodId} {args : Array Value} {below : List Frame} {meth : Method} {c : Code} {K : KK} {A : Nat → Prop} {a : Nat → Nat} (C : Cx p s m args meth c K A cX2_isCodewordOf 3 RX2 wsX2_isCodewordOf (some .boolean)) {z : Int32} {len : Int32} {sz : Int32} {words : Nat → Int32} {checks : Nat → Int32} {cnt : Int32} {err : Nat → Int32} {vec : Nat → Int32} {bc : Int32} {pm : Nat → Nat} {sl : Nat → Int32} {ss : Nat → Int32} {sw : Nat → Nat → Int32} {sc : Nat → Nat → Int32} {x1 : Int32} {x2 : Int32} (hf : FX2_isCodewordOf_0 sz words checks  x1 x2 = some z) : Go p l e (RM 3) s m args below meth c K A 3 0 0 (MQ below (QR K (some (.int z)) (xW K a len sz words checks cnt err vec bc pm sl ss sw sc) A) args s 0 0 A) (xW K a len sz words checks cnt err vec bc pm sl ss sw sc) 0 [(0, .ref (a 0)), (1, .int x1), (2, .int x2)] [] := by
  unfold FX2_isCodewordOf_0 at hf
  refine go_aload_n C 0 dX2_isCodewordOf_0 rfl rfl ?_
  refine go_iload_n C 1 dX2_isCodewordOf_1 rfl rfl ?_
  refine call_X2_isCodeword C gX2_isCodewordOf_X2_isCodeword dX2_isCodewordOf_2 (by decide) (Nat.le_of_ble_eq_true rfl) hf (fun v1 hf => ?_)
  refine go_c1_eq C (tgt := 22) dX2_isCodewordOf_5 (by decide) hf (fun h hf => ?_) (fun h hf => ?_)
  · refine go_lv (lv' := []) [] rfl ?_
    exact WX2_isCodewordOf_22 C  hf
  · refine go_aload_n C 0 dX2_isCodewordOf_8 rfl rfl ?_
    refine go_iload_n C 1 dX2_isCodewordOf_9 rfl rfl ?_
    refine go_iconst (v := 0) C dX2_isCodewordOf_10 (by decide) ?_
    refine call_X2_syndrome C gX2_isCodewordOf_X2_syndrome dX2_isCodewordOf_11 (by decide) (Nat.le_of_ble_eq_true rfl) hf (fun v2 hf => ?_)
    refine go_iload_n C 2 dX2_isCodewordOf_14 rfl rfl ?_
    refine go_c2_ne C (tgt := 22) dX2_isCodewordOf_15 (by decide) hf (fun h hf => ?_) (fun h hf => ?_)
    · refine go_lv (lv' := []) [] rfl ?_
      exact WX2_isCodewordOf_22 C  hf
    · refine go_iconst (v := 1) C dX2_isCodewordOf_18 (by decide) ?_
      refine go_goto C (tgt := 23) dX2_isCodewordOf_19 (by decide) ?_
      refine go_lv (lv' := []) [] rfl ?_
      exact WX2_isCodewordOf_23 C  hf
set_option maxRecDepth 20000 in
theorem con_X2_isCodewordOf (l : Launch) (K : KK) (a : Nat → Nat) {len : Int32} {sz : Int32} {words : Nat → Int32} {checks : Nat → Int32} {cnt : Int32} {err : Nat → Int32} {vec : Nat → Int32} {bc : Int32} {pm : Nat → Nat} {sl : Nat → Int32} {ss : Nat → Int32} {sw : Nat → Nat → Int32} {sc : Nat → Nat → Int32} {x1 : Int32} {x2 : Int32} {z : Int32} (hf : fX2_isCodewordOf sz words checks x1 x2 = some z) : Con l yX2_isCodewordOf wsX2_isCodewordOf 3 K [.ref (a 0), .int x1, .int x2] (xW K a len sz words checks cnt err vec bc pm sl ss sw sc) (some (.int z)) (xW K a len sz words checks cnt err vec bc pm sl ss sw sc) :=
  con_of (cc := cX2_isCodewordOf) (maxL := 3) (ret := (some .boolean)) (own := RX2) (lv0 := [(0, .ref (a 0)), (1, .int x1), (2, .int x2)]) (by decide) rfl rfl (Nat.le_of_ble_eq_true rfl) rfl (fun p e s m args below meth c A C => go_lv (lv' := [(0, .ref (a 0)), (1, .int x1), (2, .int x2)]) [0, 1, 2] rfl (WX2_isCodewordOf_0 C hf))
set_option maxRecDepth 20000 in
theorem call_X2_isCodewordOf {p : Program} {l : Launch} {e : Env} {s : State} {m : MethodId} {args : Array Value} {below : List Frame} {meth : Method} {c : Code} {K : KK} {A : Nat → Prop} {Q : State → Prop} {cc : ByteArray} {nL : Nat} {Ts : List Cond} {ret : Option FieldType} {pc : Nat} {lv : List (Nat × Value)} {st : List Value} {ix d : Nat} {α : Type} {kk : Int32 → Option α} {y : α} {a : Nat → Nat} {len : Int32} {sz : Int32} {words : Nat → Int32} {checks : Nat → Int32} {cnt : Int32} {err : Nat → Int32} {vec : Nat → Int32} {bc : Int32} {pm : Nat → Nat} {sl : Nat → Int32} {ss : Nat → Int32} {sw : Nat → Nat → Int32} {sc : Nat → Nat → Int32} {q0 : Int32} {q1 : Int32} (C : Cx p s m args meth c K A cc nL RX2 Ts ret) (hG : GoodIn Ts (wsV RX2 ix RX2 yX2_isCodewordOf wsX2_isCodewordOf)) (hd : decode cc pc = .ok (.invokevirtual ix, 3)) (hdd : 3 < d) (hro : (st.map fun v => v.category).sum ≤ 8) (hf : (fX2_isCodewordOf sz words checks q0 q1).bind kk = some y) (k : ∀ v, kk v = some y → Go p l e (RM d) s m args below meth c K A nL 0 0 Q (xW K a len sz words checks cnt err vec bc pm sl ss sw sc) (pc + 3) lv (.int v :: st)) : Go p l e (RM d) s m args below meth c K A nL 0 0 Q (xW K a len sz words checks cnt err vec bc pm sl ss sw sc) pc lv (.int q1 :: .int q0 :: .ref (a 0) :: st) := by
  obtain ⟨v, hv, hf⟩ := bd_some hf
  exact go_callV_full (ry := (some .boolean)) (n := 2) (b := a 0) (As := [.int q0, .int q1]) (rest := st) C (con_X2_isCodewordOf l K a hv) hG (by decide) rfl ⟨Nat.succ_le_of_lt hdd, by show 8 + (3 + 11) + 40 * 3 ≤ 40 * d; omega⟩ ⟨Nat.le_refl _, Nat.le_refl _⟩ ⟨0, 2, _, _, rfl, rfl, rfl⟩ rfl rfl hro hd (k v hf)
