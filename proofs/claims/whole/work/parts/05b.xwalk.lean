-- X2_choices
set_option maxRecDepth 20000 in
set_option maxHeartbeats 2000000 in
theorem WX2_choices_38 {p : Program} {l : Launch} {e : Env} {s : State} {m : MethodId} {args : Array Value} {below : List Frame} {meth : Method} {c : Code} {K : KK} {A : Nat → Prop} {a : Nat → Nat} (C : Cx p s m args meth c K A cX2_choices 4 RX2 wsX2_choices (some .int)) {z : Int32 × (Nat → Int32)} {len : Int32} {sz : Int32} {words : Nat → Int32} {checks : Nat → Int32} {cnt : Int32} {vec : Nat → Int32} {bc : Int32} {pm : Nat → Nat} {sl : Nat → Int32} {ss : Nat → Int32} {sw : Nat → Nat → Int32} {sc : Nat → Nat → Int32} {r18 : (Nat → Int32) → Int32 → Int32 → Int32 → Option (Int32 × (Nat → Int32))} {err : Nat → Int32} {x1 : Int32} {x2 : Int32} {x3 : Int32} (hr18 : ∀ (err : Nat → Int32) (x1 : Int32) (x2 : Int32) (x3 : Int32), r18 err x1 x2 x3 = some z → Go p l e (RM 4) s m args below meth c K A 4 0 0 (MQ below (QR K (some (.int z.1)) (xW K a len sz words checks cnt z.2 vec bc pm sl ss sw sc) A) args s 0 0 A) (xW K a len sz words checks cnt err vec bc pm sl ss sw sc) 18 [(0, .ref (a 0)), (1, .int x1), (2, .int x2), (3, .int x3)] []) (hf : FX2_choices_38 len sz words checks r18 err x1 x2 x3 = some z) : Go p l e (RM 4) s m args below meth c K A 4 0 0 (MQ below (QR K (some (.int z.1)) (xW K a len sz words checks cnt z.2 vec bc pm sl ss sw sc) A) args s 0 0 A) (xW K a len sz words checks cnt err vec bc pm sl ss sw sc) 38 [(0, .ref (a 0)), (1, .int x1), (2, .int x2), (3, .int x3)] [] := by
  unfold FX2_choices_38 at hf
  refine go_iinc C (v := x3 + 1) (lv' := [(0, .ref (a 0)), (1, .int x1), (2, .int x2), (3, .int (x3 + 1))]) 3 [1, 2, 3, 0] dX2_choices_38 rfl rfl (by decide) rfl ?_
  refine go_goto C (tgt := 18) dX2_choices_41 (by decide) ?_
  exact hr18 _ _ _ _ hf
set_option maxRecDepth 20000 in
set_option maxHeartbeats 2000000 in
theorem WX2_choices_18 {p : Program} {l : Launch} {e : Env} {s : State} {m : MethodId} {args : Array Value} {below : List Frame} {meth : Method} {c : Code} {K : KK} {A : Nat → Prop} {a : Nat → Nat} (C : Cx p s m args meth c K A cX2_choices 4 RX2 wsX2_choices (some .int)) {z : Int32 × (Nat → Int32)} {len : Int32} {sz : Int32} {words : Nat → Int32} {checks : Nat → Int32} {cnt : Int32} {vec : Nat → Int32} {bc : Int32} {pm : Nat → Nat} {sl : Nat → Int32} {ss : Nat → Int32} {sw : Nat → Nat → Int32} {sc : Nat → Nat → Int32} {r18 : (Nat → Int32) → Int32 → Int32 → Int32 → Option (Int32 × (Nat → Int32))} {err : Nat → Int32} {x1 : Int32} {x2 : Int32} {x3 : Int32} (hr18 : ∀ (err : Nat → Int32) (x1 : Int32) (x2 : Int32) (x3 : Int32), r18 err x1 x2 x3 = some z → Go p l e (RM 4) s m args below meth c K A 4 0 0 (MQ below (QR K (some (.int z.1)) (xW K a len sz words checks cnt z.2 vec bc pm sl ss sw sc) A) args s 0 0 A) (xW K a len sz words checks cnt err vec bc pm sl ss sw sc) 18 [(0, .ref (a 0)), (1, .int x1), (2, .int x2), (3, .int x3)] []) (hf : FX2_choices_18 len sz words checks r18 err x1 x2 x3 = some z) : Go p l e (RM 4) s m args below meth c K A 4 0 0 (MQ below (QR K (some (.int z.1)) (xW K a len sz words checks cnt z.2 vec bc pm sl ss sw sc) A) args s 0 0 A) (xW K a len sz words checks cnt err vec bc pm sl ss sw sc) 18 [(0, .ref (a 0)), (1, .int x1), (2, .int x2), (3, .int x3)] [] := by
  unfold FX2_choices_18 at hf
  refine go_iload_n C 3 dX2_choices_18 rfl rfl ?_
  refine go_aload_n C 0 dX2_choices_19 rfl rfl ?_
  refine call_X2_allPositions C gX2_choices_X2_allPositions dX2_choices_20 (by decide) (Nat.le_of_ble_eq_true rfl) hf (fun v1 hf => ?_)
  refine go_c2_gt C (tgt := 44) dX2_choices_23 (by decide) hf (fun h hf => ?_) (fun h hf => ?_)
  · refine go_iload_n C 2 dX2_choices_44 rfl rfl ?_
    cases hf
    exact go_iret C dX2_choices_45
  · refine go_aload_n C 0 dX2_choices_26 rfl rfl ?_
    refine go_iload_n C 3 dX2_choices_27 rfl rfl ?_
    refine go_iload_n C 1 dX2_choices_28 rfl rfl ?_
    refine call_X2_isCodewordOf C gX2_choices_X2_isCodewordOf dX2_choices_29 (by decide) (Nat.le_of_ble_eq_true rfl) hf (fun v2 hf => ?_)
    refine go_c1_eq C (tgt := 38) dX2_choices_32 (by decide) hf (fun h hf => ?_) (fun h hf => ?_)
    · exact WX2_choices_38 C hr18 hf
    · refine go_iinc C (v := x2 + 1) (lv' := [(0, .ref (a 0)), (1, .int x1), (2, .int (x2 + 1)), (3, .int x3)]) 2 [1, 2, 0, 3] dX2_choices_35 rfl rfl (by decide) rfl ?_
      exact WX2_choices_38 C hr18 hf
theorem wX2_choices_18 {p : Program} {l : Launch} {e : Env} {s : State} {m : MethodId} {args : Array Value} {below : List Frame} {meth : Method} {c : Code} {K : KK} {A : Nat → Prop} {a : Nat → Nat} (C : Cx p s m args meth c K A cX2_choices 4 RX2 wsX2_choices (some .int)) {z : Int32 × (Nat → Int32)} {len : Int32} {sz : Int32} {words : Nat → Int32} {checks : Nat → Int32} {cnt : Int32} {vec : Nat → Int32} {bc : Int32} {pm : Nat → Nat} {sl : Nat → Int32} {ss : Nat → Int32} {sw : Nat → Nat → Int32} {sc : Nat → Nat → Int32} : ∀ (n : Nat) (err : Nat → Int32) (x1 : Int32) (x2 : Int32) (x3 : Int32), fX2_choices_18 len sz words checks  n err x1 x2 x3 = some z → Go p l e (RM 4) s m args below meth c K A 4 0 0 (MQ below (QR K (some (.int z.1)) (xW K a len sz words checks cnt z.2 vec bc pm sl ss sw sc) A) args s 0 0 A) (xW K a len sz words checks cnt err vec bc pm sl ss sw sc) 18 [(0, .ref (a 0)), (1, .int x1), (2, .int x2), (3, .int x3)] [] := by
  intro n
  induction n with
  | zero => intro _ _ _ _ hf; cases hf
  | succ n ih => intro _ _ _ _ hf; exact WX2_choices_18 C  ih hf
set_option maxRecDepth 20000 in
set_option maxHeartbeats 2000000 in
theorem WX2_choices_0 {p : Program} {l : Launch} {e : Env} {s : State} {m : MethodId} {args : Array Value} {below : List Frame} {meth : Method} {c : Code} {K : KK} {A : Nat → Prop} {a : Nat → Nat} (C : Cx p s m args meth c K A cX2_choices 4 RX2 wsX2_choices (some .int)) {z : Int32 × (Nat → Int32)} {len : Int32} {sz : Int32} {words : Nat → Int32} {checks : Nat → Int32} {cnt : Int32} {vec : Nat → Int32} {bc : Int32} {pm : Nat → Nat} {sl : Nat → Int32} {ss : Nat → Int32} {sw : Nat → Nat → Int32} {sc : Nat → Nat → Int32} {err : Nat → Int32} {x1 : Int32} (hf : FX2_choices_0 len sz words checks  err x1 = some z) : Go p l e (RM 4) s m args below meth c K A 4 0 0 (MQ below (QR K (some (.int z.1)) (xW K a len sz words checks cnt z.2 vec bc pm sl ss sw sc) A) args s 0 0 A) (xW K a len sz words checks cnt err vec bc pm sl ss sw sc) 0 [(0, .ref (a 0)), (1, .int x1)] [] := by
  unfold FX2_choices_0 at hf
  refine go_iload_n C 1 dX2_choices_0 rfl rfl ?_
  refine call_X2_isMessage C gX2_choices_X2_isMessage dX2_choices_1 (by decide) (Nat.le_of_ble_eq_true rfl) hf (fun v3 hf => ?_)
  refine go_c1_ne C (tgt := 14) dX2_choices_4 (by decide) hf (fun h hf => ?_) (fun h hf => ?_)
  · refine go_iconst (v := 0) C dX2_choices_14 (by decide) ?_
    refine go_istore_n C (lv' := [(0, .ref (a 0)), (1, .int x1), (2, .int 0)]) [1, 2, 0] dX2_choices_15 rfl (by decide) rfl ?_
    refine go_iconst (v := 0) C dX2_choices_16 (by decide) ?_
    refine go_istore_n C (lv' := [(0, .ref (a 0)), (1, .int x1), (2, .int 0), (3, .int 0)]) [1, 2, 3, 0] dX2_choices_17 rfl (by decide) rfl ?_
    exact wX2_choices_18 C  300 _ _ _ _ hf
  · refine go_aload_n C 0 dX2_choices_7 rfl rfl ?_
    refine go_bipush (v := (-2)) C dX2_choices_8 (by decide) ?_
    refine call_X2_fail C gX2_choices_X2_fail dX2_choices_10 (by decide) (Nat.le_of_ble_eq_true rfl) hf (fun v4 hf => ?_)
    cases hf
    exact go_iret C dX2_choices_13
set_option maxRecDepth 20000 in
theorem con_X2_choices (l : Launch) (K : KK) (a : Nat → Nat) {len : Int32} {sz : Int32} {words : Nat → Int32} {checks : Nat → Int32} {cnt : Int32} {err : Nat → Int32} {vec : Nat → Int32} {bc : Int32} {pm : Nat → Nat} {sl : Nat → Int32} {ss : Nat → Int32} {sw : Nat → Nat → Int32} {sc : Nat → Nat → Int32} {x1 : Int32} {z : Int32 × (Nat → Int32)} (hf : fX2_choices len sz words checks err x1 = some z) : Con l yX2_choices wsX2_choices 4 K [.ref (a 0), .int x1] (xW K a len sz words checks cnt err vec bc pm sl ss sw sc) (some (.int z.1)) (xW K a len sz words checks cnt z.2 vec bc pm sl ss sw sc) :=
  con_of (cc := cX2_choices) (maxL := 4) (ret := (some .int)) (own := RX2) (lv0 := [(0, .ref (a 0)), (1, .int x1)]) (by decide) rfl rfl (Nat.le_of_ble_eq_true rfl) rfl (fun p e s m args below meth c A C => go_lv (lv' := [(0, .ref (a 0)), (1, .int x1)]) [0, 1] rfl (WX2_choices_0 C hf))
set_option maxRecDepth 20000 in
theorem call_X2_choices {p : Program} {l : Launch} {e : Env} {s : State} {m : MethodId} {args : Array Value} {below : List Frame} {meth : Method} {c : Code} {K : KK} {A : Nat → Prop} {Q : State → Prop} {cc : ByteArray} {nL : Nat} {Ts : List Cond} {ret : Option FieldType} {pc : Nat} {lv : List (Nat × Value)} {st : List Value} {ix d : Nat} {α : Type} {kk : Int32 × (Nat → Int32) → Option α} {y : α} {a : Nat → Nat} {len : Int32} {sz : Int32} {words : Nat → Int32} {checks : Nat → Int32} {cnt : Int32} {err : Nat → Int32} {vec : Nat → Int32} {bc : Int32} {pm : Nat → Nat} {sl : Nat → Int32} {ss : Nat → Int32} {sw : Nat → Nat → Int32} {sc : Nat → Nat → Int32} {q0 : Int32} (C : Cx p s m args meth c K A cc nL RX2 Ts ret) (hG : GoodIn Ts (wsV RX2 ix RX2 yX2_choices wsX2_choices)) (hd : decode cc pc = .ok (.invokevirtual ix, 3)) (hdd : 4 < d) (hro : (st.map fun v => v.category).sum ≤ 8) (hf : (fX2_choices len sz words checks err q0).bind kk = some y) (k : ∀ v, kk v = some y → Go p l e (RM d) s m args below meth c K A nL 0 0 Q (xW K a len sz words checks cnt v.2 vec bc pm sl ss sw sc) (pc + 3) lv (.int (v.1) :: st)) : Go p l e (RM d) s m args below meth c K A nL 0 0 Q (xW K a len sz words checks cnt err vec bc pm sl ss sw sc) pc lv (.int q0 :: .ref (a 0) :: st) := by
  obtain ⟨v, hv, hf⟩ := bd_some hf
  exact go_callV_full (ry := (some .int)) (n := 1) (b := a 0) (As := [.int q0]) (rest := st) C (con_X2_choices l K a hv) hG (by decide) rfl ⟨Nat.succ_le_of_lt hdd, by show 8 + (4 + 11) + 40 * 4 ≤ 40 * d; omega⟩ ⟨Nat.le_refl _, Nat.le_refl _⟩ ⟨0, 2, _, _, rfl, rfl, rfl⟩ rfl rfl hro hd (k v hf)
-- X2_encode
set_option maxRecDepth 20000 in
set_option maxHeartbeats 2000000 in
theorem WX2_encode_11 {p : Program} {l : Launch} {e : Env} {s : State} {m : MethodId} {args : Array Value} {below : List Frame} {meth : Method} {c : Code} {K : KK} {A : Nat → Prop} {a : Nat → Nat} (C : Cx p s m args meth c K A cX2_encode 5 RX2 wsX2_encode (some .int)) {z : Int32 × (Nat → Int32)} {len : Int32} {sz : Int32} {words : Nat → Int32} {checks : Nat → Int32} {cnt : Int32} {vec : Nat → Int32} {bc : Int32} {pm : Nat → Nat} {sl : Nat → Int32} {ss : Nat → Int32} {sw : Nat → Nat → Int32} {sc : Nat → Nat → Int32} {err : Nat → Int32} (hf : FX2_encode_11 len sz words checks  err = some z) : Go p l e (RM 4) s m args below meth c K A 5 0 0 (MQ below (QR K (some (.int z.1)) (xW K a len sz words checks cnt z.2 vec bc pm sl ss sw sc) A) args s 0 0 A) (xW K a len sz words checks cnt err vec bc pm sl ss sw sc) 11 [(0, .ref (a 0))] [] := by
  unfold FX2_encode_11 at hf
  refine go_aload_n C 0 dX2_encode_11 rfl rfl ?_
  refine go_bipush (v := (-2)) C dX2_encode_12 (by decide) ?_
  refine call_X2_fail C gX2_encode_X2_fail dX2_encode_14 (by decide) (Nat.le_of_ble_eq_true rfl) hf (fun v1 hf => ?_)
  cases hf
  exact go_iret C dX2_encode_17
set_option maxRecDepth 20000 in
set_option maxHeartbeats 2000000 in
theorem WX2_encode_53 {p : Program} {l : Launch} {e : Env} {s : State} {m : MethodId} {args : Array Value} {below : List Frame} {meth : Method} {c : Code} {K : KK} {A : Nat → Prop} {a : Nat → Nat} (C : Cx p s m args meth c K A cX2_encode 5 RX2 wsX2_encode (some .int)) {z : Int32 × (Nat → Int32)} {len : Int32} {sz : Int32} {words : Nat → Int32} {checks : Nat → Int32} {cnt : Int32} {vec : Nat → Int32} {bc : Int32} {pm : Nat → Nat} {sl : Nat → Int32} {ss : Nat → Int32} {sw : Nat → Nat → Int32} {sc : Nat → Nat → Int32} {r23 : (Nat → Int32) → Int32 → Int32 → Int32 → Int32 → Option (Int32 × (Nat → Int32))} {err : Nat → Int32} {x1 : Int32} {x2 : Int32} {x3 : Int32} {x4 : Int32} (hr23 : ∀ (err : Nat → Int32) (x1 : Int32) (x2 : Int32) (x3 : Int32) (x4 : Int32), r23 err x1 x2 x3 x4 = some z → Go p l e (RM 4) s m args below meth c K A 5 0 0 (MQ below (QR K (some (.int z.1)) (xW K a len sz words checks cnt z.2 vec bc pm sl ss sw sc) A) args s 0 0 A) (xW K a len sz words checks cnt err vec bc pm sl ss sw sc) 23 [(0, .ref (a 0)), (1, .int x1), (2, .int x2), (3, .int x3), (4, .int x4)] []) (hf : FX2_encode_53 len sz words checks r23 err x1 x2 x3 x4 = some z) : Go p l e (RM 4) s m args below meth c K A 5 0 0 (MQ below (QR K (some (.int z.1)) (xW K a len sz words checks cnt z.2 vec bc pm sl ss sw sc) A) args s 0 0 A) (xW K a len sz words checks cnt err vec bc pm sl ss sw sc) 53 [(0, .ref (a 0)), (1, .int x1), (2, .int x2), (3, .int x3), (4, .int x4)] [] := by
  unfold FX2_encode_53 at hf
  refine go_iinc C (v := x4 + 1) (lv' := [(0, .ref (a 0)), (1, .int x1), (2, .int x2), (3, .int x3), (4, .int (x4 + 1))]) 4 [1, 2, 3, 4, 0] dX2_encode_53 rfl rfl (by decide) rfl ?_
  refine go_goto C (tgt := 23) dX2_encode_56 (by decide) ?_
  exact hr23 _ _ _ _ _ hf
set_option maxRecDepth 20000 in
set_option maxHeartbeats 2000000 in
theorem WX2_encode_23 {p : Program} {l : Launch} {e : Env} {s : State} {m : MethodId} {args : Array Value} {below : List Frame} {meth : Method} {c : Code} {K : KK} {A : Nat → Prop} {a : Nat → Nat} (C : Cx p s m args meth c K A cX2_encode 5 RX2 wsX2_encode (some .int)) {z : Int32 × (Nat → Int32)} {len : Int32} {sz : Int32} {words : Nat → Int32} {checks : Nat → Int32} {cnt : Int32} {vec : Nat → Int32} {bc : Int32} {pm : Nat → Nat} {sl : Nat → Int32} {ss : Nat → Int32} {sw : Nat → Nat → Int32} {sc : Nat → Nat → Int32} {r23 : (Nat → Int32) → Int32 → Int32 → Int32 → Int32 → Option (Int32 × (Nat → Int32))} {err : Nat → Int32} {x1 : Int32} {x2 : Int32} {x3 : Int32} {x4 : Int32} (hr23 : ∀ (err : Nat → Int32) (x1 : Int32) (x2 : Int32) (x3 : Int32) (x4 : Int32), r23 err x1 x2 x3 x4 = some z → Go p l e (RM 4) s m args below meth c K A 5 0 0 (MQ below (QR K (some (.int z.1)) (xW K a len sz words checks cnt z.2 vec bc pm sl ss sw sc) A) args s 0 0 A) (xW K a len sz words checks cnt err vec bc pm sl ss sw sc) 23 [(0, .ref (a 0)), (1, .int x1), (2, .int x2), (3, .int x3), (4, .int x4)] []) (hf : FX2_encode_23 len sz words checks r23 err x1 x2 x3 x4 = some z) : Go p l e (RM 4) s m args below meth c K A 5 0 0 (MQ below (QR K (some (.int z.1)) (xW K a len sz words checks cnt z.2 vec bc pm sl ss sw sc) A) args s 0 0 A) (xW K a len sz words checks cnt err vec bc pm sl ss sw sc) 23 [(0, .ref (a 0)), (1, .int x1), (2, .int x2), (3, .int x3), (4, .int x4)] [] := by
  unfold FX2_encode_23 at hf
  refine go_iload C 4 dX2_encode_23 rfl ?_
  refine go_aload_n C 0 dX2_encode_25 rfl rfl ?_
  refine call_X2_allPositions C gX2_encode_X2_allPositions dX2_encode_26 (by decide) (Nat.le_of_ble_eq_true rfl) hf (fun v2 hf => ?_)
  refine go_c2_gt C (tgt := 59) dX2_encode_29 (by decide) hf (fun h hf => ?_) (fun h hf => ?_)
  · refine go_aload_n C 0 dX2_encode_59 rfl rfl ?_
    refine go_bipush (v := (-3)) C dX2_encode_60 (by decide) ?_
    refine call_X2_fail C gX2_encode_X2_fail dX2_encode_62 (by decide) (Nat.le_of_ble_eq_true rfl) hf (fun v3 hf => ?_)
    cases hf
    exact go_iret C dX2_encode_65
  · refine go_aload_n C 0 dX2_encode_32 rfl rfl ?_
    refine go_iload C 4 dX2_encode_33 rfl ?_
    refine go_iload_n C 1 dX2_encode_35 rfl rfl ?_
    refine call_X2_isCodewordOf C gX2_encode_X2_isCodewordOf dX2_encode_36 (by decide) (Nat.le_of_ble_eq_true rfl) hf (fun v4 hf => ?_)
    refine go_c1_eq C (tgt := 53) dX2_encode_39 (by decide) hf (fun h hf => ?_) (fun h hf => ?_)
    · exact WX2_encode_53 C hr23 hf
    · refine go_iload_n C 3 dX2_encode_42 rfl rfl ?_
      refine go_iload_n C 2 dX2_encode_43 rfl rfl ?_
      refine go_c2_ne C (tgt := 50) dX2_encode_44 (by decide) hf (fun h hf => ?_) (fun h hf => ?_)
      · refine go_iinc C (v := x3 + 1) (lv' := [(0, .ref (a 0)), (1, .int x1), (2, .int x2), (3, .int (x3 + 1)), (4, .int x4)]) 3 [1, 2, 3, 0, 4] dX2_encode_50 rfl rfl (by decide) rfl ?_
        exact WX2_encode_53 C hr23 hf
      · refine go_iload C 4 dX2_encode_47 rfl ?_
        cases hf
        exact go_iret C dX2_encode_49
theorem wX2_encode_23 {p : Program} {l : Launch} {e : Env} {s : State} {m : MethodId} {args : Array Value} {below : List Frame} {meth : Method} {c : Code} {K : KK} {A : Nat → Prop} {a : Nat → Nat} (C : Cx p s m args meth c K A cX2_encode 5 RX2 wsX2_encode (some .int)) {z : Int32 × (Nat → Int32)} {len : Int32} {sz : Int32} {words : Nat → Int32} {checks : Nat → Int32} {cnt : Int32} {vec : Nat → Int32} {bc : Int32} {pm : Nat → Nat} {sl : Nat → Int32} {ss : Nat → Int32} {sw : Nat → Nat → Int32} {sc : Nat → Nat → Int32} : ∀ (n : Nat) (err : Nat → Int32) (x1 : Int32) (x2 : Int32) (x3 : Int32) (x4 : Int32), fX2_encode_23 len sz words checks  n err x1 x2 x3 x4 = some z → Go p l e (RM 4) s m args below meth c K A 5 0 0 (MQ below (QR K (some (.int z.1)) (xW K a len sz words checks cnt z.2 vec bc pm sl ss sw sc) A) args s 0 0 A) (xW K a len sz words checks cnt err vec bc pm sl ss sw sc) 23 [(0, .ref (a 0)), (1, .int x1), (2, .int x2), (3, .int x3), (4, .int x4)] [] := by
  intro n
  induction n with
  | zero => intro _ _ _ _ _ hf; cases hf
  | succ n ih => intro _ _ _ _ _ hf; exact WX2_encode_23 C  ih hf
set_option maxRecDepth 20000 in
set_option maxHeartbeats 2000000 in
theorem WX2_encode_0 {p : Program} {l : Launch} {e : Env} {s : State} {m : MethodId} {args : Array Value} {below : List Frame} {meth : Method} {c : Code} {K : KK} {A : Nat → Prop} {a : Nat → Nat} (C : Cx p s m args meth c K A cX2_encode 5 RX2 wsX2_encode (some .int)) {z : Int32 × (Nat → Int32)} {len : Int32} {sz : Int32} {words : Nat → Int32} {checks : Nat → Int32} {cnt : Int32} {vec : Nat → Int32} {bc : Int32} {pm : Nat → Nat} {sl : Nat → Int32} {ss : Nat → Int32} {sw : Nat → Nat → Int32} {sc : Nat → Nat → Int32} {err : Nat → Int32} {x1 : Int32} {x2 : Int32} (hf : FX2_encode_0 len sz words checks  err x1 x2 = some z) : Go p l e (RM 4) s m args below meth c K A 5 0 0 (MQ below (QR K (some (.int z.1)) (xW K a len sz words checks cnt z.2 vec bc pm sl ss sw sc) A) args s 0 0 A) (xW K a len sz words checks cnt err vec bc pm sl ss sw sc) 0 [(0, .ref (a 0)), (1, .int x1), (2, .int x2)] [] := by
  unfold FX2_encode_0 at hf
  refine go_iload_n C 1 dX2_encode_0 rfl rfl ?_
  refine call_X2_isMessage C gX2_encode_X2_isMessage dX2_encode_1 (by decide) (Nat.le_of_ble_eq_true rfl) hf (fun v5 hf => ?_)
  refine go_c1_eq C (tgt := 11) dX2_encode_4 (by decide) hf (fun h hf => ?_) (fun h hf => ?_)
  · refine go_lv (lv' := [(0, .ref (a 0))]) [0] rfl ?_
    exact WX2_encode_11 C  hf
  · refine go_iload_n C 2 dX2_encode_7 rfl rfl ?_
    refine go_c1_ge C (tgt := 18) dX2_encode_8 (by decide) hf (fun h hf => ?_) (fun h hf => ?_)
    · refine go_iconst (v := 0) C dX2_encode_18 (by decide) ?_
      refine go_istore_n C (lv' := [(0, .ref (a 0)), (1, .int x1), (2, .int x2), (3, .int 0)]) [1, 2, 3, 0] dX2_encode_19 rfl (by decide) rfl ?_
      refine go_iconst (v := 0) C dX2_encode_20 (by decide) ?_
      refine go_istore C (lv' := [(0, .ref (a 0)), (1, .int x1), (2, .int x2), (3, .int 0), (4, .int 0)]) [1, 2, 3, 4, 0] dX2_encode_21 (by decide) rfl ?_
      exact wX2_encode_23 C  300 _ _ _ _ _ hf
    · refine go_lv (lv' := [(0, .ref (a 0))]) [0] rfl ?_
      exact WX2_encode_11 C  hf
set_option maxRecDepth 20000 in
theorem con_X2_encode (l : Launch) (K : KK) (a : Nat → Nat) {len : Int32} {sz : Int32} {words : Nat → Int32} {checks : Nat → Int32} {cnt : Int32} {err : Nat → Int32} {vec : Nat → Int32} {bc : Int32} {pm : Nat → Nat} {sl : Nat → Int32} {ss : Nat → Int32} {sw : Nat → Nat → Int32} {sc : Nat → Nat → Int32} {x1 : Int32} {x2 : Int32} {z : Int32 × (Nat → Int32)} (hf : fX2_encode len sz words checks err x1 x2 = some z) : Con l yX2_encode wsX2_encode 4 K [.ref (a 0), .int x1, .int x2] (xW K a len sz words checks cnt err vec bc pm sl ss sw sc) (some (.int z.1)) (xW K a len sz words checks cnt z.2 vec bc pm sl ss sw sc) :=
  con_of (cc := cX2_encode) (maxL := 5) (ret := (some .int)) (own := RX2) (lv0 := [(0, .ref (a 0)), (1, .int x1), (2, .int x2)]) (by decide) rfl rfl (Nat.le_of_ble_eq_true rfl) rfl (fun p e s m args below meth c A C => go_lv (lv' := [(0, .ref (a 0)), (1, .int x1), (2, .int x2)]) [0, 1, 2] rfl (WX2_encode_0 C hf))
set_option maxRecDepth 20000 in
theorem call_X2_encode {p : Program} {l : Launch} {e : Env} {s : State} {m : MethodId} {args : Array Value} {below : List Frame} {meth : Method} {c : Code} {K : KK} {A : Nat → Prop} {Q : State → Prop} {cc : ByteArray} {nL : Nat} {Ts : List Cond} {ret : Option FieldType} {pc : Nat} {lv : List (Nat × Value)} {st : List Value} {ix d : Nat} {α : Type} {kk : Int32 × (Nat → Int32) → Option α} {y : α} {a : Nat → Nat} {len : Int32} {sz : Int32} {words : Nat → Int32} {checks : Nat → Int32} {cnt : Int32} {err : Nat → Int32} {vec : Nat → Int32} {bc : Int32} {pm : Nat → Nat} {sl : Nat → Int32} {ss : Nat → Int32} {sw : Nat → Nat → Int32} {sc : Nat → Nat → Int32} {q0 : Int32} {q1 : Int32} (C : Cx p s m args meth c K A cc nL RX2 Ts ret) (hG : GoodIn Ts (wsV RX2 ix RX2 yX2_encode wsX2_encode)) (hd : decode cc pc = .ok (.invokevirtual ix, 3)) (hdd : 4 < d) (hro : (st.map fun v => v.category).sum ≤ 8) (hf : (fX2_encode len sz words checks err q0 q1).bind kk = some y) (k : ∀ v, kk v = some y → Go p l e (RM d) s m args below meth c K A nL 0 0 Q (xW K a len sz words checks cnt v.2 vec bc pm sl ss sw sc) (pc + 3) lv (.int (v.1) :: st)) : Go p l e (RM d) s m args below meth c K A nL 0 0 Q (xW K a len sz words checks cnt err vec bc pm sl ss sw sc) pc lv (.int q1 :: .int q0 :: .ref (a 0) :: st) := by
  obtain ⟨v, hv, hf⟩ := bd_some hf
  exact go_callV_full (ry := (some .int)) (n := 2) (b := a 0) (As := [.int q0, .int q1]) (rest := st) C (con_X2_encode l K a hv) hG (by decide) rfl ⟨Nat.succ_le_of_lt hdd, by show 8 + (5 + 11) + 40 * 4 ≤ 40 * d; omega⟩ ⟨Nat.le_refl _, Nat.le_refl _⟩ ⟨0, 2, _, _, rfl, rfl, rfl⟩ rfl rfl hro hd (k v hf)
-- X2_leastDistance
set_option maxRecDepth 20000 in
set_option maxHeartbeats 2000000 in
theorem WX2_leastDistance_40 {p : Program} {l : Launch} {e : Env} {s : State} {m : MethodId} {args : Array Value} {below : List Frame} {meth : Method} {c : Code} {K : KK} {A : Nat → Prop} {a : Nat → Nat} (C : Cx p s m args meth c K A cX2_leastDistance 5 RX2 wsX2_leastDistance (some .int)) {z : Int32} {len : Int32} {sz : Int32} {words : Nat → Int32} {checks : Nat → Int32} {cnt : Int32} {err : Nat → Int32} {vec : Nat → Int32} {bc : Int32} {pm : Nat → Nat} {sl : Nat → Int32} {ss : Nat → Int32} {sw : Nat → Nat → Int32} {sc : Nat → Nat → Int32} {r7 : Int32 → Int32 → Int32 → Option (Int32)} {x1 : Int32} {x2 : Int32} {x3 : Int32} (hr7 : ∀ (x1 : Int32) (x2 : Int32) (x3 : Int32), r7 x1 x2 x3 = some z → Go p l e (RM 3) s m args below meth c K A 5 0 0 (MQ below (QR K (some (.int z)) (xW K a len sz words checks cnt err vec bc pm sl ss sw sc) A) args s 0 0 A) (xW K a len sz words checks cnt err vec bc pm sl ss sw sc) 7 [(0, .ref (a 0)), (1, .int x1), (2, .int x2), (3, .int x3)] []) (hf : FX2_leastDistance_40 len sz words checks r7 x1 x2 x3 = some z) : Go p l e (RM 3) s m args below meth c K A 5 0 0 (MQ below (QR K (some (.int z)) (xW K a len sz words checks cnt err vec bc pm sl ss sw sc) A) args s 0 0 A) (xW K a len sz words checks cnt err vec bc pm sl ss sw sc) 40 [(0, .ref (a 0)), (1, .int x1), (2, .int x2), (3, .int x3)] [] := by
  unfold FX2_leastDistance_40 at hf
  refine go_iinc C (v := x3 + 1) (lv' := [(0, .ref (a 0)), (1, .int x1), (2, .int x2), (3, .int (x3 + 1))]) 3 [1, 2, 3, 0] dX2_leastDistance_40 rfl rfl (by decide) rfl ?_
  refine go_goto C (tgt := 7) dX2_leastDistance_43 (by decide) ?_
  exact hr7 _ _ _ hf
set_option maxRecDepth 20000 in
set_option maxHeartbeats 2000000 in
theorem WX2_leastDistance_7 {p : Program} {l : Launch} {e : Env} {s : State} {m : MethodId} {args : Array Value} {below : List Frame} {meth : Method} {c : Code} {K : KK} {A : Nat → Prop} {a : Nat → Nat} (C : Cx p s m args meth c K A cX2_leastDistance 5 RX2 wsX2_leastDistance (some .int)) {z : Int32} {len : Int32} {sz : Int32} {words : Nat → Int32} {checks : Nat → Int32} {cnt : Int32} {err : Nat → Int32} {vec : Nat → Int32} {bc : Int32} {pm : Nat → Nat} {sl : Nat → Int32} {ss : Nat → Int32} {sw : Nat → Nat → Int32} {sc : Nat → Nat → Int32} {r7 : Int32 → Int32 → Int32 → Option (Int32)} {x1 : Int32} {x2 : Int32} {x3 : Int32} (hr7 : ∀ (x1 : Int32) (x2 : Int32) (x3 : Int32), r7 x1 x2 x3 = some z → Go p l e (RM 3) s m args below meth c K A 5 0 0 (MQ below (QR K (some (.int z)) (xW K a len sz words checks cnt err vec bc pm sl ss sw sc) A) args s 0 0 A) (xW K a len sz words checks cnt err vec bc pm sl ss sw sc) 7 [(0, .ref (a 0)), (1, .int x1), (2, .int x2), (3, .int x3)] []) (hf : FX2_leastDistance_7 len sz words checks r7 x1 x2 x3 = some z) : Go p l e (RM 3) s m args below meth c K A 5 0 0 (MQ below (QR K (some (.int z)) (xW K a len sz words checks cnt err vec bc pm sl ss sw sc) A) args s 0 0 A) (xW K a len sz words checks cnt err vec bc pm sl ss sw sc) 7 [(0, .ref (a 0)), (1, .int x1), (2, .int x2), (3, .int x3)] [] := by
  unfold FX2_leastDistance_7 at hf
  refine go_iload_n C 3 dX2_leastDistance_7 rfl rfl ?_
  refine go_aload_n C 0 dX2_leastDistance_8 rfl rfl ?_
  refine call_X2_allPositions C gX2_leastDistance_X2_allPositions dX2_leastDistance_9 (by decide) (Nat.le_of_ble_eq_true rfl) hf (fun v1 hf => ?_)
  refine go_c2_gt C (tgt := 46) dX2_leastDistance_12 (by decide) hf (fun h hf => ?_) (fun h hf => ?_)
  · refine go_iload_n C 2 dX2_leastDistance_46 rfl rfl ?_
    cases hf
    exact go_iret C dX2_leastDistance_47
  · refine go_iload_n C 3 dX2_leastDistance_15 rfl rfl ?_
    refine go_iload_n C 1 dX2_leastDistance_16 rfl rfl ?_
    refine go_ixor C dX2_leastDistance_17 ?_
    refine call_J6_bitCount_0f7a4 C gX2_leastDistance_J6_bitCount_0f7a4 dX2_leastDistance_18 (by decide) (Nat.le_of_ble_eq_true rfl) hf (fun v2 hf => ?_)
    refine go_istore C (lv' := [(0, .ref (a 0)), (1, .int x1), (2, .int x2), (3, .int x3), (4, .int v2)]) [1, 2, 3, 4, 0] dX2_leastDistance_21 (by decide) rfl ?_
    refine go_iload C 4 dX2_leastDistance_23 rfl ?_
    refine go_iload_n C 2 dX2_leastDistance_25 rfl rfl ?_
    refine go_c2_ge C (tgt := 40) dX2_leastDistance_26 (by decide) hf (fun h hf => ?_) (fun h hf => ?_)
    · refine go_lv (lv' := [(0, .ref (a 0)), (1, .int x1), (2, .int x2), (3, .int x3)]) [0, 1, 2, 3] rfl ?_
      exact WX2_leastDistance_40 C hr7 hf
    · refine go_aload_n C 0 dX2_leastDistance_29 rfl rfl ?_
      refine go_iload_n C 3 dX2_leastDistance_30 rfl rfl ?_
      refine call_X2_isCodeword C gX2_leastDistance_X2_isCodeword dX2_leastDistance_31 (by decide) (Nat.le_of_ble_eq_true rfl) hf (fun v3 hf => ?_)
      refine go_c1_eq C (tgt := 40) dX2_leastDistance_34 (by decide) hf (fun h hf => ?_) (fun h hf => ?_)
      · refine go_lv (lv' := [(0, .ref (a 0)), (1, .int x1), (2, .int x2), (3, .int x3)]) [0, 1, 2, 3] rfl ?_
        exact WX2_leastDistance_40 C hr7 hf
      · refine go_iload C 4 dX2_leastDistance_37 rfl ?_
        refine go_istore_n C (lv' := [(0, .ref (a 0)), (1, .int x1), (2, .int v2), (3, .int x3), (4, .int v2)]) [1, 2, 0, 3, 4] dX2_leastDistance_39 rfl (by decide) rfl ?_
        refine go_lv (lv' := [(0, .ref (a 0)), (1, .int x1), (2, .int v2), (3, .int x3)]) [0, 1, 2, 3] rfl ?_
        exact WX2_leastDistance_40 C hr7 hf
theorem wX2_leastDistance_7 {p : Program} {l : Launch} {e : Env} {s : State} {m : MethodId} {args : Array Value} {below : List Frame} {meth : Method} {c : Code} {K : KK} {A : Nat → Prop} {a : Nat → Nat} (C : Cx p s m args meth c K A cX2_leastDistance 5 RX2 wsX2_leastDistance (some .int)) {z : Int32} {len : Int32} {sz : Int32} {words : Nat → Int32} {checks : Nat → Int32} {cnt : Int32} {err : Nat → Int32} {vec : Nat → Int32} {bc : Int32} {pm : Nat → Nat} {sl : Nat → Int32} {ss : Nat → Int32} {sw : Nat → Nat → Int32} {sc : Nat → Nat → Int32} : ∀ (n : Nat) (x1 : Int32) (x2 : Int32) (x3 : Int32), fX2_leastDistance_7 len sz words checks  n x1 x2 x3 = some z → Go p l e (RM 3) s m args below meth c K A 5 0 0 (MQ below (QR K (some (.int z)) (xW K a len sz words checks cnt err vec bc pm sl ss sw sc) A) args s 0 0 A) (xW K a len sz words checks cnt err vec bc pm sl ss sw sc) 7 [(0, .ref (a 0)), (1, .int x1), (2, .int x2), (3, .int x3)] [] := by
  intro n
  induction n with
  | zero => intro _ _ _ hf; cases hf
  | succ n ih => intro _ _ _ hf; exact WX2_leastDistance_7 C  ih hf
set_option maxRecDepth 20000 in
set_option maxHeartbeats 2000000 in
theorem WX2_leastDistance_0 {p : Program} {l : Launch} {e : Env} {s : State} {m : MethodId} {args : Array Value} {below : List Frame} {meth : Method} {c : Code} {K : KK} {A : Nat → Prop} {a : Nat → Nat} (C : Cx p s m args meth c K A cX2_leastDistance 5 RX2 wsX2_leastDistance (some .int)) {z : Int32} {len : Int32} {sz : Int32} {words : Nat → Int32} {checks : Nat → Int32} {cnt : Int32} {err : Nat → Int32} {vec : Nat → Int32} {bc : Int32} {pm : Nat → Nat} {sl : Nat → Int32} {ss : Nat → Int32} {sw : Nat → Nat → Int32} {sc : Nat → Nat → Int32} {x1 : Int32} (hf : FX2_leastDistance_0 len sz words checks  x1 = some z) : Go p l e (RM 3) s m args below meth c K A 5 0 0 (MQ below (QR K (some (.int z)) (xW K a len sz words checks cnt err vec bc pm sl ss sw sc) A) args s 0 0 A) (xW K a len sz words checks cnt err vec bc pm sl ss sw sc) 0 [(0, .ref (a 0)), (1, .int x1)] [] := by
  unfold FX2_leastDistance_0 at hf
  refine go_iload_n C 1 dX2_leastDistance_0 rfl rfl ?_
  refine call_J6_bitCount_0f7a4 C gX2_leastDistance_J6_bitCount_0f7a4 dX2_leastDistance_1 (by decide) (Nat.le_of_ble_eq_true rfl) hf (fun v4 hf => ?_)
  refine go_istore_n C (lv' := [(0, .ref (a 0)), (1, .int x1), (2, .int v4)]) [1, 2, 0] dX2_leastDistance_4 rfl (by decide) rfl ?_
  refine go_iconst (v := 0) C dX2_leastDistance_5 (by decide) ?_
  refine go_istore_n C (lv' := [(0, .ref (a 0)), (1, .int x1), (2, .int v4), (3, .int 0)]) [1, 2, 3, 0] dX2_leastDistance_6 rfl (by decide) rfl ?_
  exact wX2_leastDistance_7 C  300 _ _ _ hf
set_option maxRecDepth 20000 in
theorem con_X2_leastDistance (l : Launch) (K : KK) (a : Nat → Nat) {len : Int32} {sz : Int32} {words : Nat → Int32} {checks : Nat → Int32} {cnt : Int32} {err : Nat → Int32} {vec : Nat → Int32} {bc : Int32} {pm : Nat → Nat} {sl : Nat → Int32} {ss : Nat → Int32} {sw : Nat → Nat → Int32} {sc : Nat → Nat → Int32} {x1 : Int32} {z : Int32} (hf : fX2_leastDistance len sz words checks x1 = some z) : Con l yX2_leastDistance wsX2_leastDistance 3 K [.ref (a 0), .int x1] (xW K a len sz words checks cnt err vec bc pm sl ss sw sc) (some (.int z)) (xW K a len sz words checks cnt err vec bc pm sl ss sw sc) :=
  con_of (cc := cX2_leastDistance) (maxL := 5) (ret := (some .int)) (own := RX2) (lv0 := [(0, .ref (a 0)), (1, .int x1)]) (by decide) rfl rfl (Nat.le_of_ble_eq_true rfl) rfl (fun p e s m args below meth c A C => go_lv (lv' := [(0, .ref (a 0)), (1, .int x1)]) [0, 1] rfl (WX2_leastDistance_0 C hf))
set_option maxRecDepth 20000 in
theorem call_X2_leastDistance {p : Program} {l : Launch} {e : Env} {s : State} {m : MethodId} {args : Array Value} {below : List Frame} {meth : Method} {c : Code} {K : KK} {A : Nat → Prop} {Q : State → Prop} {cc : ByteArray} {nL : Nat} {Ts : List Cond} {ret : Option FieldType} {pc : Nat} {lv : List (Nat × Value)} {st : List Value} {ix d : Nat} {α : Type} {kk : Int32 → Option α} {y : α} {a : Nat → Nat} {len : Int32} {sz : Int32} {words : Nat → Int32} {checks : Nat → Int32} {cnt : Int32} {err : Nat → Int32} {vec : Nat → Int32} {bc : Int32} {pm : Nat → Nat} {sl : Nat → Int32} {ss : Nat → Int32} {sw : Nat → Nat → Int32} {sc : Nat → Nat → Int32} {q0 : Int32} (C : Cx p s m args meth c K A cc nL RX2 Ts ret) (hG : GoodIn Ts (wsV RX2 ix RX2 yX2_leastDistance wsX2_leastDistance)) (hd : decode cc pc = .ok (.invokevirtual ix, 3)) (hdd : 3 < d) (hro : (st.map fun v => v.category).sum ≤ 8) (hf : (fX2_leastDistance len sz words checks q0).bind kk = some y) (k : ∀ v, kk v = some y → Go p l e (RM d) s m args below meth c K A nL 0 0 Q (xW K a len sz words checks cnt err vec bc pm sl ss sw sc) (pc + 3) lv (.int v :: st)) : Go p l e (RM d) s m args below meth c K A nL 0 0 Q (xW K a len sz words checks cnt err vec bc pm sl ss sw sc) pc lv (.int q0 :: .ref (a 0) :: st) := by
  obtain ⟨v, hv, hf⟩ := bd_some hf
  exact go_callV_full (ry := (some .int)) (n := 1) (b := a 0) (As := [.int q0]) (rest := st) C (con_X2_leastDistance l K a hv) hG (by decide) rfl ⟨Nat.succ_le_of_lt hdd, by show 8 + (5 + 11) + 40 * 3 ≤ 40 * d; omega⟩ ⟨Nat.le_refl _, Nat.le_refl _⟩ ⟨0, 2, _, _, rfl, rfl, rfl⟩ rfl rfl hro hd (k v hf)
-- X2_decode
set_option maxRecDepth 20000 in
set_option maxHeartbeats 2000000 in
theorem WX2_decode_85 {p : Program} {l : Launch} {e : Env} {s : State} {m : MethodId} {args : Array Value} {below : List Frame} {meth : Method} {c : Code} {K : KK} {A : Nat → Prop} {a : Nat → Nat} (C : Cx p s m args meth c K A cX2_decode 6 RX2 wsX2_decode (some .int)) {z : Int32 × (Nat → Int32)} {len : Int32} {sz : Int32} {words : Nat → Int32} {checks : Nat → Int32} {cnt : Int32} {vec : Nat → Int32} {bc : Int32} {pm : Nat → Nat} {sl : Nat → Int32} {ss : Nat → Int32} {sw : Nat → Nat → Int32} {sc : Nat → Nat → Int32} {r26 : (Nat → Int32) → Int32 → Int32 → Int32 → Int32 → Option (Int32 × (Nat → Int32))} {err : Nat → Int32} {x1 : Int32} {x2 : Int32} {x3 : Int32} {x4 : Int32} (hr26 : ∀ (err : Nat → Int32) (x1 : Int32) (x2 : Int32) (x3 : Int32) (x4 : Int32), r26 err x1 x2 x3 x4 = some z → Go p l e (RM 4) s m args below meth c K A 6 0 0 (MQ below (QR K (some (.int z.1)) (xW K a len sz words checks cnt z.2 vec bc pm sl ss sw sc) A) args s 0 0 A) (xW K a len sz words checks cnt err vec bc pm sl ss sw sc) 26 [(0, .ref (a 0)), (1, .int x1), (2, .int x2), (3, .int x3), (4, .int x4)] []) (hf : FX2_decode_85 len sz words checks r26 err x1 x2 x3 x4 = some z) : Go p l e (RM 4) s m args below meth c K A 6 0 0 (MQ below (QR K (some (.int z.1)) (xW K a len sz words checks cnt z.2 vec bc pm sl ss sw sc) A) args s 0 0 A) (xW K a len sz words checks cnt err vec bc pm sl ss sw sc) 85 [(0, .ref (a 0)), (1, .int x1), (2, .int x2), (3, .int x3), (4, .int x4)] [] := by
  unfold FX2_decode_85 at hf
  refine go_iinc C (v := x4 + 1) (lv' := [(0, .ref (a 0)), (1, .int x1), (2, .int x2), (3, .int x3), (4, .int (x4 + 1))]) 4 [1, 2, 3, 4, 0] dX2_decode_85 rfl rfl (by decide) rfl ?_
  refine go_goto C (tgt := 26) dX2_decode_88 (by decide) ?_
  exact hr26 _ _ _ _ _ hf
set_option maxRecDepth 20000 in
set_option maxHeartbeats 2000000 in
theorem WX2_decode_82 {p : Program} {l : Launch} {e : Env} {s : State} {m : MethodId} {args : Array Value} {below : List Frame} {meth : Method} {c : Code} {K : KK} {A : Nat → Prop} {a : Nat → Nat} (C : Cx p s m args meth c K A cX2_decode 6 RX2 wsX2_decode (some .int)) {z : Int32 × (Nat → Int32)} {len : Int32} {sz : Int32} {words : Nat → Int32} {checks : Nat → Int32} {cnt : Int32} {vec : Nat → Int32} {bc : Int32} {pm : Nat → Nat} {sl : Nat → Int32} {ss : Nat → Int32} {sw : Nat → Nat → Int32} {sc : Nat → Nat → Int32} {r26 : (Nat → Int32) → Int32 → Int32 → Int32 → Int32 → Option (Int32 × (Nat → Int32))} {err : Nat → Int32} {x1 : Int32} {x2 : Int32} {x4 : Int32} {x5 : Int32} (hr26 : ∀ (err : Nat → Int32) (x1 : Int32) (x2 : Int32) (x3 : Int32) (x4 : Int32), r26 err x1 x2 x3 x4 = some z → Go p l e (RM 4) s m args below meth c K A 6 0 0 (MQ below (QR K (some (.int z.1)) (xW K a len sz words checks cnt z.2 vec bc pm sl ss sw sc) A) args s 0 0 A) (xW K a len sz words checks cnt err vec bc pm sl ss sw sc) 26 [(0, .ref (a 0)), (1, .int x1), (2, .int x2), (3, .int x3), (4, .int x4)] []) (hf : FX2_decode_82 len sz words checks r26 err x1 x2 x4 x5 = some z) : Go p l e (RM 4) s m args below meth c K A 6 0 0 (MQ below (QR K (some (.int z.1)) (xW K a len sz words checks cnt z.2 vec bc pm sl ss sw sc) A) args s 0 0 A) (xW K a len sz words checks cnt err vec bc pm sl ss sw sc) 82 [(0, .ref (a 0)), (1, .int x1), (2, .int x2), (4, .int x4), (5, .int x5)] [] := by
  unfold FX2_decode_82 at hf
  refine go_iload C 4 dX2_decode_82 rfl ?_
  refine go_istore_n C (lv' := [(0, .ref (a 0)), (1, .int x1), (2, .int x2), (3, .int x5), (4, .int x4), (5, .int x5)]) [1, 2, 3, 0, 4, 5] dX2_decode_84 rfl (by decide) rfl ?_
  refine go_lv (lv' := [(0, .ref (a 0)), (1, .int x1), (2, .int x2), (3, .int x5), (4, .int x4)]) [0, 1, 2, 3, 4] rfl ?_
  exact WX2_decode_85 C hr26 hf
set_option maxRecDepth 20000 in
set_option maxHeartbeats 2000000 in
theorem WX2_decode_26 {p : Program} {l : Launch} {e : Env} {s : State} {m : MethodId} {args : Array Value} {below : List Frame} {meth : Method} {c : Code} {K : KK} {A : Nat → Prop} {a : Nat → Nat} (C : Cx p s m args meth c K A cX2_decode 6 RX2 wsX2_decode (some .int)) {z : Int32 × (Nat → Int32)} {len : Int32} {sz : Int32} {words : Nat → Int32} {checks : Nat → Int32} {cnt : Int32} {vec : Nat → Int32} {bc : Int32} {pm : Nat → Nat} {sl : Nat → Int32} {ss : Nat → Int32} {sw : Nat → Nat → Int32} {sc : Nat → Nat → Int32} {r26 : (Nat → Int32) → Int32 → Int32 → Int32 → Int32 → Option (Int32 × (Nat → Int32))} {err : Nat → Int32} {x1 : Int32} {x2 : Int32} {x3 : Int32} {x4 : Int32} (hr26 : ∀ (err : Nat → Int32) (x1 : Int32) (x2 : Int32) (x3 : Int32) (x4 : Int32), r26 err x1 x2 x3 x4 = some z → Go p l e (RM 4) s m args below meth c K A 6 0 0 (MQ below (QR K (some (.int z.1)) (xW K a len sz words checks cnt z.2 vec bc pm sl ss sw sc) A) args s 0 0 A) (xW K a len sz words checks cnt err vec bc pm sl ss sw sc) 26 [(0, .ref (a 0)), (1, .int x1), (2, .int x2), (3, .int x3), (4, .int x4)] []) (hf : FX2_decode_26 len sz words checks r26 err x1 x2 x3 x4 = some z) : Go p l e (RM 4) s m args below meth c K A 6 0 0 (MQ below (QR K (some (.int z.1)) (xW K a len sz words checks cnt z.2 vec bc pm sl ss sw sc) A) args s 0 0 A) (xW K a len sz words checks cnt err vec bc pm sl ss sw sc) 26 [(0, .ref (a 0)), (1, .int x1), (2, .int x2), (3, .int x3), (4, .int x4)] [] := by
  unfold FX2_decode_26 at hf
  refine go_iload C 4 dX2_decode_26 rfl ?_
  refine go_aload_n C 0 dX2_decode_28 rfl rfl ?_
  refine call_X2_allPositions C gX2_decode_X2_allPositions dX2_decode_29 (by decide) (Nat.le_of_ble_eq_true rfl) hf (fun v1 hf => ?_)
  refine go_c2_gt C (tgt := 91) dX2_decode_32 (by decide) hf (fun h hf => ?_) (fun h hf => ?_)
  · refine go_iload_n C 3 dX2_decode_91 rfl rfl ?_
    cases hf
    exact go_iret C dX2_decode_92
  · refine go_iload C 4 dX2_decode_35 rfl ?_
    refine go_iload_n C 1 dX2_decode_37 rfl rfl ?_
    refine go_ixor C dX2_decode_38 ?_
    refine call_J6_bitCount_0f7a4 C gX2_decode_J6_bitCount_0f7a4 dX2_decode_39 (by decide) (Nat.le_of_ble_eq_true rfl) hf (fun v2 hf => ?_)
    refine go_iload_n C 2 dX2_decode_42 rfl rfl ?_
    refine go_c2_ne C (tgt := 85) dX2_decode_43 (by decide) hf (fun h hf => ?_) (fun h hf => ?_)
    · exact WX2_decode_85 C hr26 hf
    · refine go_aload_n C 0 dX2_decode_46 rfl rfl ?_
      refine go_iload C 4 dX2_decode_47 rfl ?_
      refine call_X2_isCodeword C gX2_decode_X2_isCodeword dX2_decode_49 (by decide) (Nat.le_of_ble_eq_true rfl) hf (fun v3 hf => ?_)
      refine go_c1_eq C (tgt := 85) dX2_decode_52 (by decide) hf (fun h hf => ?_) (fun h hf => ?_)
      · exact WX2_decode_85 C hr26 hf
      · refine go_aload_n C 0 dX2_decode_55 rfl rfl ?_
        refine go_iload C 4 dX2_decode_56 rfl ?_
        refine go_iconst (v := 0) C dX2_decode_58 (by decide) ?_
        refine call_X2_syndrome C gX2_decode_X2_syndrome dX2_decode_59 (by decide) (Nat.le_of_ble_eq_true rfl) hf (fun v4 hf => ?_)
        refine go_istore C (lv' := [(0, .ref (a 0)), (1, .int x1), (2, .int x2), (3, .int x3), (4, .int x4), (5, .int v4)]) [1, 2, 3, 4, 5, 0] dX2_decode_62 (by decide) rfl ?_
        refine go_iload_n C 3 dX2_decode_64 rfl rfl ?_
        refine go_iconst (v := (-1)) C dX2_decode_65 (by decide) ?_
        refine go_c2_eq C (tgt := 82) dX2_decode_66 (by decide) hf (fun h hf => ?_) (fun h hf => ?_)
        · refine go_lv (lv' := [(0, .ref (a 0)), (1, .int x1), (2, .int x2), (4, .int x4), (5, .int v4)]) [0, 1, 2, 4, 5] rfl ?_
          exact WX2_decode_82 C hr26 hf
        · refine go_iload_n C 3 dX2_decode_69 rfl rfl ?_
          refine go_iload C 5 dX2_decode_70 rfl ?_
          refine go_c2_eq C (tgt := 82) dX2_decode_72 (by decide) hf (fun h hf => ?_) (fun h hf => ?_)
          · refine go_lv (lv' := [(0, .ref (a 0)), (1, .int x1), (2, .int x2), (4, .int x4), (5, .int v4)]) [0, 1, 2, 4, 5] rfl ?_
            exact WX2_decode_82 C hr26 hf
          · refine go_aload_n C 0 dX2_decode_75 rfl rfl ?_
            refine go_bipush (v := (-5)) C dX2_decode_76 (by decide) ?_
            refine call_X2_fail C gX2_decode_X2_fail dX2_decode_78 (by decide) (Nat.le_of_ble_eq_true rfl) hf (fun v5 hf => ?_)
            cases hf
            exact go_iret C dX2_decode_81
theorem wX2_decode_26 {p : Program} {l : Launch} {e : Env} {s : State} {m : MethodId} {args : Array Value} {below : List Frame} {meth : Method} {c : Code} {K : KK} {A : Nat → Prop} {a : Nat → Nat} (C : Cx p s m args meth c K A cX2_decode 6 RX2 wsX2_decode (some .int)) {z : Int32 × (Nat → Int32)} {len : Int32} {sz : Int32} {words : Nat → Int32} {checks : Nat → Int32} {cnt : Int32} {vec : Nat → Int32} {bc : Int32} {pm : Nat → Nat} {sl : Nat → Int32} {ss : Nat → Int32} {sw : Nat → Nat → Int32} {sc : Nat → Nat → Int32} : ∀ (n : Nat) (err : Nat → Int32) (x1 : Int32) (x2 : Int32) (x3 : Int32) (x4 : Int32), fX2_decode_26 len sz words checks  n err x1 x2 x3 x4 = some z → Go p l e (RM 4) s m args below meth c K A 6 0 0 (MQ below (QR K (some (.int z.1)) (xW K a len sz words checks cnt z.2 vec bc pm sl ss sw sc) A) args s 0 0 A) (xW K a len sz words checks cnt err vec bc pm sl ss sw sc) 26 [(0, .ref (a 0)), (1, .int x1), (2, .int x2), (3, .int x3), (4, .int x4)] [] := by
  intro n
  induction n with
  | zero => intro _ _ _ _ _ hf; cases hf
  | succ n ih => intro _ _ _ _ _ hf; exact WX2_decode_26 C  ih hf
set_option maxRecDepth 20000 in
set_option maxHeartbeats 2000000 in
theorem WX2_decode_0 {p : Program} {l : Launch} {e : Env} {s : State} {m : MethodId} {args : Array Value} {below : List Frame} {meth : Method} {c : Code} {K : KK} {A : Nat → Prop} {a : Nat → Nat} (C : Cx p s m args meth c K A cX2_decode 6 RX2 wsX2_decode (some .int)) {z : Int32 × (Nat → Int32)} {len : Int32} {sz : Int32} {words : Nat → Int32} {checks : Nat → Int32} {cnt : Int32} {vec : Nat → Int32} {bc : Int32} {pm : Nat → Nat} {sl : Nat → Int32} {ss : Nat → Int32} {sw : Nat → Nat → Int32} {sc : Nat → Nat → Int32} {err : Nat → Int32} {x1 : Int32} (hf : FX2_decode_0 len sz words checks  err x1 = some z) : Go p l e (RM 4) s m args below meth c K A 6 0 0 (MQ below (QR K (some (.int z.1)) (xW K a len sz words checks cnt z.2 vec bc pm sl ss sw sc) A) args s 0 0 A) (xW K a len sz words checks cnt err vec bc pm sl ss sw sc) 0 [(0, .ref (a 0)), (1, .int x1)] [] := by
  unfold FX2_decode_0 at hf
  refine go_aload_n C 0 dX2_decode_0 rfl rfl ?_
  refine go_iload_n C 1 dX2_decode_1 rfl rfl ?_
  refine call_X2_isWord C gX2_decode_X2_isWord dX2_decode_2 (by decide) (Nat.le_of_ble_eq_true rfl) hf (fun v6 hf => ?_)
  refine go_c1_ne C (tgt := 15) dX2_decode_5 (by decide) hf (fun h hf => ?_) (fun h hf => ?_)
  · refine go_aload_n C 0 dX2_decode_15 rfl rfl ?_
    refine go_iload_n C 1 dX2_decode_16 rfl rfl ?_
    refine call_X2_leastDistance C gX2_decode_X2_leastDistance dX2_decode_17 (by decide) (Nat.le_of_ble_eq_true rfl) hf (fun v7 hf => ?_)
    refine go_istore_n C (lv' := [(0, .ref (a 0)), (1, .int x1), (2, .int v7)]) [1, 2, 0] dX2_decode_20 rfl (by decide) rfl ?_
    refine go_iconst (v := (-1)) C dX2_decode_21 (by decide) ?_
    refine go_istore_n C (lv' := [(0, .ref (a 0)), (1, .int x1), (2, .int v7), (3, .int (-1))]) [1, 2, 3, 0] dX2_decode_22 rfl (by decide) rfl ?_
    refine go_iconst (v := 0) C dX2_decode_23 (by decide) ?_
    refine go_istore C (lv' := [(0, .ref (a 0)), (1, .int x1), (2, .int v7), (3, .int (-1)), (4, .int 0)]) [1, 2, 3, 4, 0] dX2_decode_24 (by decide) rfl ?_
    exact wX2_decode_26 C  300 _ _ _ _ _ hf
  · refine go_aload_n C 0 dX2_decode_8 rfl rfl ?_
    refine go_bipush (v := (-2)) C dX2_decode_9 (by decide) ?_
    refine call_X2_fail C gX2_decode_X2_fail dX2_decode_11 (by decide) (Nat.le_of_ble_eq_true rfl) hf (fun v8 hf => ?_)
    cases hf
    exact go_iret C dX2_decode_14
set_option maxRecDepth 20000 in
theorem con_X2_decode (l : Launch) (K : KK) (a : Nat → Nat) {len : Int32} {sz : Int32} {words : Nat → Int32} {checks : Nat → Int32} {cnt : Int32} {err : Nat → Int32} {vec : Nat → Int32} {bc : Int32} {pm : Nat → Nat} {sl : Nat → Int32} {ss : Nat → Int32} {sw : Nat → Nat → Int32} {sc : Nat → Nat → Int32} {x1 : Int32} {z : Int32 × (Nat → Int32)} (hf : fX2_decode len sz words checks err x1 = some z) : Con l yX2_decode wsX2_decode 4 K [.ref (a 0), .int x1] (xW K a len sz words checks cnt err vec bc pm sl ss sw sc) (some (.int z.1)) (xW K a len sz words checks cnt z.2 vec bc pm sl ss sw sc) :=
  con_of (cc := cX2_decode) (maxL := 6) (ret := (some .int)) (own := RX2) (lv0 := [(0, .ref (a 0)), (1, .int x1)]) (by decide) rfl rfl (Nat.le_of_ble_eq_true rfl) rfl (fun p e s m args below meth c A C => go_lv (lv' := [(0, .ref (a 0)), (1, .int x1)]) [0, 1] rfl (WX2_decode_0 C hf))
set_option maxRecDepth 20000 in
theorem call_X2_decode {p : Program} {l : Launch} {e : Env} {s : State} {m : MethodId} {args : Array Value} {below : List Frame} {meth : Method} {c : Code} {K : KK} {A : Nat → Prop} {Q : State → Prop} {cc : ByteArray} {nL : Nat} {Ts : List Cond} {ret : Option FieldType} {pc : Nat} {lv : List (Nat × Value)} {st : List Value} {ix d : Nat} {α : Type} {kk : Int32 × (Nat → Int32) → Option α} {y : α} {a : Nat → Nat} {len : Int32} {sz : Int32} {words : Nat → Int32} {checks : Nat → Int32} {cnt : Int32} {err : Nat → Int32} {vec : Nat → Int32} {bc : Int32} {pm : Nat → Nat} {sl : Nat → Int32} {ss : Nat → Int32} {sw : Nat → Nat → Int32} {sc : Nat → Nat → Int32} {q0 : Int32} (C : Cx p s m args meth c K A cc nL RX2 Ts ret) (hG : GoodIn Ts (wsV RX2 ix RX2 yX2_decode wsX2_decode)) (hd : decode cc pc = .ok (.invokevirtual ix, 3)) (hdd : 4 < d) (hro : (st.map fun v => v.category).sum ≤ 8) (hf : (fX2_decode len sz words checks err q0).bind kk = some y) (k : ∀ v, kk v = some y → Go p l e (RM d) s m args below meth c K A nL 0 0 Q (xW K a len sz words checks cnt v.2 vec bc pm sl ss sw sc) (pc + 3) lv (.int (v.1) :: st)) : Go p l e (RM d) s m args below meth c K A nL 0 0 Q (xW K a len sz words checks cnt err vec bc pm sl ss sw sc) pc lv (.int q0 :: .ref (a 0) :: st) := by
  obtain ⟨v, hv, hf⟩ := bd_some hf
  exact go_callV_full (ry := (some .int)) (n := 1) (b := a 0) (As := [.int q0]) (rest := st) C (con_X2_decode l K a hv) hG (by decide) rfl ⟨Nat.succ_le_of_lt hdd, by show 8 + (6 + 11) + 40 * 4 ≤ 40 * d; omega⟩ ⟨Nat.le_refl _, Nat.le_refl _⟩ ⟨0, 2, _, _, rfl, rfl, rfl⟩ rfl rfl hro hd (k v hf)
-- X2_distance
set_option maxRecDepth 20000 in
set_option maxHeartbeats 2000000 in
theorem WX2_distance_0 {p : Program} {l : Launch} {e : Env} {s : State} {m : MethodId} {args : Array Value} {below : List Frame} {meth : Method} {c : Code} {K : KK} {A : Nat → Prop} {a : Nat → Nat} (C : Cx p s m args meth c K A cX2_distance 2 RX2 wsX2_distance (some .int)) {z : Int32 × (Nat → Int32)} {len : Int32} {sz : Int32} {words : Nat → Int32} {checks : Nat → Int32} {cnt : Int32} {vec : Nat → Int32} {bc : Int32} {pm : Nat → Nat} {sl : Nat → Int32} {ss : Nat → Int32} {sw : Nat → Nat → Int32} {sc : Nat → Nat → Int32} {err : Nat → Int32} {x1 : Int32} (hf : FX2_distance_0 len sz words checks  err x1 = some z) : Go p l e (RM 4) s m args below meth c K A 2 0 0 (MQ below (QR K (some (.int z.1)) (xW K a len sz words checks cnt z.2 vec bc pm sl ss sw sc) A) args s 0 0 A) (xW K a len sz words checks cnt err vec bc pm sl ss sw sc) 0 [(0, .ref (a 0)), (1, .int x1)] [] := by
  unfold FX2_distance_0 at hf
  refine go_aload_n C 0 dX2_distance_0 rfl rfl ?_
  refine go_iload_n C 1 dX2_distance_1 rfl rfl ?_
  refine call_X2_isWord C gX2_distance_X2_isWord dX2_distance_2 (by decide) (Nat.le_of_ble_eq_true rfl) hf (fun v1 hf => ?_)
  refine go_c1_ne C (tgt := 15) dX2_distance_5 (by decide) hf (fun h hf => ?_) (fun h hf => ?_)
  · refine go_aload_n C 0 dX2_distance_15 rfl rfl ?_
    refine go_iload_n C 1 dX2_distance_16 rfl rfl ?_
    refine call_X2_leastDistance C gX2_distance_X2_leastDistance dX2_distance_17 (by decide) (Nat.le_of_ble_eq_true rfl) hf (fun v2 hf => ?_)
    cases hf
    exact go_iret C dX2_distance_20
  · refine go_aload_n C 0 dX2_distance_8 rfl rfl ?_
    refine go_bipush (v := (-2)) C dX2_distance_9 (by decide) ?_
    refine call_X2_fail C gX2_distance_X2_fail dX2_distance_11 (by decide) (Nat.le_of_ble_eq_true rfl) hf (fun v3 hf => ?_)
    cases hf
    exact go_iret C dX2_distance_14
set_option maxRecDepth 20000 in
theorem con_X2_distance (l : Launch) (K : KK) (a : Nat → Nat) {len : Int32} {sz : Int32} {words : Nat → Int32} {checks : Nat → Int32} {cnt : Int32} {err : Nat → Int32} {vec : Nat → Int32} {bc : Int32} {pm : Nat → Nat} {sl : Nat → Int32} {ss : Nat → Int32} {sw : Nat → Nat → Int32} {sc : Nat → Nat → Int32} {x1 : Int32} {z : Int32 × (Nat → Int32)} (hf : fX2_distance len sz words checks err x1 = some z) : Con l yX2_distance wsX2_distance 4 K [.ref (a 0), .int x1] (xW K a len sz words checks cnt err vec bc pm sl ss sw sc) (some (.int z.1)) (xW K a len sz words checks cnt z.2 vec bc pm sl ss sw sc) :=
  con_of (cc := cX2_distance) (maxL := 2) (ret := (some .int)) (own := RX2) (lv0 := [(0, .ref (a 0)), (1, .int x1)]) (by decide) rfl rfl (Nat.le_of_ble_eq_true rfl) rfl (fun p e s m args below meth c A C => go_lv (lv' := [(0, .ref (a 0)), (1, .int x1)]) [0, 1] rfl (WX2_distance_0 C hf))
set_option maxRecDepth 20000 in
theorem call_X2_distance {p : Program} {l : Launch} {e : Env} {s : State} {m : MethodId} {args : Array Value} {below : List Frame} {meth : Method} {c : Code} {K : KK} {A : Nat → Prop} {Q : State → Prop} {cc : ByteArray} {nL : Nat} {Ts : List Cond} {ret : Option FieldType} {pc : Nat} {lv : List (Nat × Value)} {st : List Value} {ix d : Nat} {α : Type} {kk : Int32 × (Nat → Int32) → Option α} {y : α} {a : Nat → Nat} {len : Int32} {sz : Int32} {words : Nat → Int32} {checks : Nat → Int32} {cnt : Int32} {err : Nat → Int32} {vec : Nat → Int32} {bc : Int32} {pm : Nat → Nat} {sl : Nat → Int32} {ss : Nat → Int32} {sw : Nat → Nat → Int32} {sc : Nat → Nat → Int32} {q0 : Int32} (C : Cx p s m args meth c K A cc nL RX2 Ts ret) (hG : GoodIn Ts (wsV RX2 ix RX2 yX2_distance wsX2_distance)) (hd : decode cc pc = .ok (.invokevirtual ix, 3)) (hdd : 4 < d) (hro : (st.map fun v => v.category).sum ≤ 8) (hf : (fX2_distance len sz words checks err q0).bind kk = some y) (k : ∀ v, kk v = some y → Go p l e (RM d) s m args below meth c K A nL 0 0 Q (xW K a len sz words checks cnt v.2 vec bc pm sl ss sw sc) (pc + 3) lv (.int (v.1) :: st)) : Go p l e (RM d) s m args below meth c K A nL 0 0 Q (xW K a len sz words checks cnt err vec bc pm sl ss sw sc) pc lv (.int q0 :: .ref (a 0) :: st) := by
  obtain ⟨v, hv, hf⟩ := bd_some hf
  exact go_callV_full (ry := (some .int)) (n := 1) (b := a 0) (As := [.int q0]) (rest := st) C (con_X2_distance l K a hv) hG (by decide) rfl ⟨Nat.succ_le_of_lt hdd, by show 8 + (2 + 11) + 40 * 4 ≤ 40 * d; omega⟩ ⟨Nat.le_refl _, Nat.le_refl _⟩ ⟨0, 2, _, _, rfl, rfl, rfl⟩ rfl rfl hro hd (k v hf)
-- X2_leastFatalErrors
set_option maxRecDepth 20000 in
set_option maxHeartbeats 2000000 in
theorem WX2_leastFatalErrors_42 {p : Program} {l : Launch} {e : Env} {s : State} {m : MethodId} {args : Array Value} {below : List Frame} {meth : Method} {c : Code} {K : KK} {A : Nat → Prop} {a : Nat → Nat} (C : Cx p s m args meth c K A cX2_leastFatalErrors 4 RX2 wsX2_leastFatalErrors (some .int)) {z : Int32} {len : Int32} {sz : Int32} {words : Nat → Int32} {checks : Nat → Int32} {cnt : Int32} {err : Nat → Int32} {vec : Nat → Int32} {bc : Int32} {pm : Nat → Nat} {sl : Nat → Int32} {ss : Nat → Int32} {sw : Nat → Nat → Int32} {sc : Nat → Nat → Int32} {r5 : Int32 → Int32 → Option (Int32)} {x1 : Int32} {x2 : Int32} (hr5 : ∀ (x1 : Int32) (x2 : Int32), r5 x1 x2 = some z → Go p l e (RM 3) s m args below meth c K A 4 0 0 (MQ below (QR K (some (.int z)) (xW K a len sz words checks cnt err vec bc pm sl ss sw sc) A) args s 0 0 A) (xW K a len sz words checks cnt err vec bc pm sl ss sw sc) 5 [(0, .ref (a 0)), (1, .int x1), (2, .int x2)] []) (hf : FX2_leastFatalErrors_42 len sz words checks r5 x1 x2 = some z) : Go p l e (RM 3) s m args below meth c K A 4 0 0 (MQ below (QR K (some (.int z)) (xW K a len sz words checks cnt err vec bc pm sl ss sw sc) A) args s 0 0 A) (xW K a len sz words checks cnt err vec bc pm sl ss sw sc) 42 [(0, .ref (a 0)), (1, .int x1), (2, .int x2)] [] := by
  unfold FX2_leastFatalErrors_42 at hf
  refine go_iinc C (v := x2 + 1) (lv' := [(0, .ref (a 0)), (1, .int x1), (2, .int (x2 + 1))]) 2 [1, 2, 0] dX2_leastFatalErrors_42 rfl rfl (by decide) rfl ?_
  refine go_goto C (tgt := 5) dX2_leastFatalErrors_45 (by decide) ?_
  exact hr5 _ _ hf
set_option maxRecDepth 20000 in
set_option maxHeartbeats 2000000 in
theorem WX2_leastFatalErrors_63 {p : Program} {l : Launch} {e : Env} {s : State} {m : MethodId} {args : Array Value} {below : List Frame} {meth : Method} {c : Code} {K : KK} {A : Nat → Prop} {a : Nat → Nat} (C : Cx p s m args meth c K A cX2_leastFatalErrors 4 RX2 wsX2_leastFatalErrors (some .int)) {z : Int32} {len : Int32} {sz : Int32} {words : Nat → Int32} {checks : Nat → Int32} {cnt : Int32} {err : Nat → Int32} {vec : Nat → Int32} {bc : Int32} {pm : Nat → Nat} {sl : Nat → Int32} {ss : Nat → Int32} {sw : Nat → Nat → Int32} {sc : Nat → Nat → Int32} {t0 : Int32} (hf : FX2_leastFatalErrors_63 len sz words checks  t0 = some z) : Go p l e (RM 3) s m args below meth c K A 4 0 0 (MQ below (QR K (some (.int z)) (xW K a len sz words checks cnt err vec bc pm sl ss sw sc) A) args s 0 0 A) (xW K a len sz words checks cnt err vec bc pm sl ss sw sc) 63 [] [.int t0] := by
  unfold FX2_leastFatalErrors_63 at hf
  cases hf
  exact go_iret C dX2_leastFatalErrors_63
set_option maxRecDepth 20000 in
set_option maxHeartbeats 2000000 in
theorem WX2_leastFatalErrors_5 {p : Program} {l : Launch} {e : Env} {s : State} {m : MethodId} {args : Array Value} {below : List Frame} {meth : Method} {c : Code} {K : KK} {A : Nat → Prop} {a : Nat → Nat} (C : Cx p s m args meth c K A cX2_leastFatalErrors 4 RX2 wsX2_leastFatalErrors (some .int)) {z : Int32} {len : Int32} {sz : Int32} {words : Nat → Int32} {checks : Nat → Int32} {cnt : Int32} {err : Nat → Int32} {vec : Nat → Int32} {bc : Int32} {pm : Nat → Nat} {sl : Nat → Int32} {ss : Nat → Int32} {sw : Nat → Nat → Int32} {sc : Nat → Nat → Int32} {r5 : Int32 → Int32 → Option (Int32)} {x1 : Int32} {x2 : Int32} (hr5 : ∀ (x1 : Int32) (x2 : Int32), r5 x1 x2 = some z → Go p l e (RM 3) s m args below meth c K A 4 0 0 (MQ below (QR K (some (.int z)) (xW K a len sz words checks cnt err vec bc pm sl ss sw sc) A) args s 0 0 A) (xW K a len sz words checks cnt err vec bc pm sl ss sw sc) 5 [(0, .ref (a 0)), (1, .int x1), (2, .int x2)] []) (hf : FX2_leastFatalErrors_5 len sz words checks r5 x1 x2 = some z) : Go p l e (RM 3) s m args below meth c K A 4 0 0 (MQ below (QR K (some (.int z)) (xW K a len sz words checks cnt err vec bc pm sl ss sw sc) A) args s 0 0 A) (xW K a len sz words checks cnt err vec bc pm sl ss sw sc) 5 [(0, .ref (a 0)), (1, .int x1), (2, .int x2)] [] := by
  unfold FX2_leastFatalErrors_5 at hf
  refine go_iload_n C 2 dX2_leastFatalErrors_5 rfl rfl ?_
  refine go_aload_n C 0 dX2_leastFatalErrors_6 rfl rfl ?_
  refine call_X2_allPositions C gX2_leastFatalErrors_X2_allPositions dX2_leastFatalErrors_7 (by decide) (Nat.le_of_ble_eq_true rfl) hf (fun v1 hf => ?_)
  refine go_c2_gt C (tgt := 48) dX2_leastFatalErrors_10 (by decide) hf (fun h hf => ?_) (fun h hf => ?_)
  · refine go_iload_n C 1 dX2_leastFatalErrors_48 rfl rfl ?_
    refine go_bipush (v := 8) C dX2_leastFatalErrors_49 (by decide) ?_
    refine go_c2_le C (tgt := 58) dX2_leastFatalErrors_51 (by decide) hf (fun h hf => ?_) (fun h hf => ?_)
    · refine go_iload_n C 1 dX2_leastFatalErrors_58 rfl rfl ?_
      refine go_iconst (v := 1) C dX2_leastFatalErrors_59 (by decide) ?_
      refine go_iadd C dX2_leastFatalErrors_60 ?_
      refine go_iconst (v := 2) C dX2_leastFatalErrors_61 (by decide) ?_
      obtain ⟨hne, hf⟩ := ckD_some hf
      refine go_idiv C dX2_leastFatalErrors_62 hne ?_
      refine go_lv (lv' := []) [] rfl ?_
      exact WX2_leastFatalErrors_63 C  hf
    · refine go_iconst (v := (-1)) C dX2_leastFatalErrors_54 (by decide) ?_
      refine go_goto C (tgt := 63) dX2_leastFatalErrors_55 (by decide) ?_
      refine go_lv (lv' := []) [] rfl ?_
      exact WX2_leastFatalErrors_63 C  hf
  · refine go_iload_n C 2 dX2_leastFatalErrors_13 rfl rfl ?_
    refine call_J6_bitCount_0f7a4 C gX2_leastFatalErrors_J6_bitCount_0f7a4 dX2_leastFatalErrors_14 (by decide) (Nat.le_of_ble_eq_true rfl) hf (fun v2 hf => ?_)
    refine go_istore_n C (lv' := [(0, .ref (a 0)), (1, .int x1), (2, .int x2), (3, .int v2)]) [1, 2, 3, 0] dX2_leastFatalErrors_17 rfl (by decide) rfl ?_
    refine go_iload_n C 3 dX2_leastFatalErrors_18 rfl rfl ?_
    refine go_iload_n C 1 dX2_leastFatalErrors_19 rfl rfl ?_
    refine go_c2_ge C (tgt := 42) dX2_leastFatalErrors_20 (by decide) hf (fun h hf => ?_) (fun h hf => ?_)
    · refine go_lv (lv' := [(0, .ref (a 0)), (1, .int x1), (2, .int x2)]) [0, 1, 2] rfl ?_
      exact WX2_leastFatalErrors_42 C hr5 hf
    · refine go_aload_n C 0 dX2_leastFatalErrors_23 rfl rfl ?_
      refine go_iload_n C 2 dX2_leastFatalErrors_24 rfl rfl ?_
      refine call_X2_isCodeword C gX2_leastFatalErrors_X2_isCodeword dX2_leastFatalErrors_25 (by decide) (Nat.le_of_ble_eq_true rfl) hf (fun v3 hf => ?_)
      refine go_c1_eq C (tgt := 42) dX2_leastFatalErrors_28 (by decide) hf (fun h hf => ?_) (fun h hf => ?_)
      · refine go_lv (lv' := [(0, .ref (a 0)), (1, .int x1), (2, .int x2)]) [0, 1, 2] rfl ?_
        exact WX2_leastFatalErrors_42 C hr5 hf
      · refine go_aload_n C 0 dX2_leastFatalErrors_31 rfl rfl ?_
        refine go_iload_n C 2 dX2_leastFatalErrors_32 rfl rfl ?_
        refine go_iconst (v := 0) C dX2_leastFatalErrors_33 (by decide) ?_
        refine call_X2_syndrome C gX2_leastFatalErrors_X2_syndrome dX2_leastFatalErrors_34 (by decide) (Nat.le_of_ble_eq_true rfl) hf (fun v4 hf => ?_)
        refine go_c1_eq C (tgt := 42) dX2_leastFatalErrors_37 (by decide) hf (fun h hf => ?_) (fun h hf => ?_)
        · refine go_lv (lv' := [(0, .ref (a 0)), (1, .int x1), (2, .int x2)]) [0, 1, 2] rfl ?_
          exact WX2_leastFatalErrors_42 C hr5 hf
        · refine go_iload_n C 3 dX2_leastFatalErrors_40 rfl rfl ?_
          refine go_istore_n C (lv' := [(0, .ref (a 0)), (1, .int v2), (2, .int x2), (3, .int v2)]) [1, 0, 2, 3] dX2_leastFatalErrors_41 rfl (by decide) rfl ?_
          refine go_lv (lv' := [(0, .ref (a 0)), (1, .int v2), (2, .int x2)]) [0, 1, 2] rfl ?_
          exact WX2_leastFatalErrors_42 C hr5 hf
theorem wX2_leastFatalErrors_5 {p : Program} {l : Launch} {e : Env} {s : State} {m : MethodId} {args : Array Value} {below : List Frame} {meth : Method} {c : Code} {K : KK} {A : Nat → Prop} {a : Nat → Nat} (C : Cx p s m args meth c K A cX2_leastFatalErrors 4 RX2 wsX2_leastFatalErrors (some .int)) {z : Int32} {len : Int32} {sz : Int32} {words : Nat → Int32} {checks : Nat → Int32} {cnt : Int32} {err : Nat → Int32} {vec : Nat → Int32} {bc : Int32} {pm : Nat → Nat} {sl : Nat → Int32} {ss : Nat → Int32} {sw : Nat → Nat → Int32} {sc : Nat → Nat → Int32} : ∀ (n : Nat) (x1 : Int32) (x2 : Int32), fX2_leastFatalErrors_5 len sz words checks  n x1 x2 = some z → Go p l e (RM 3) s m args below meth c K A 4 0 0 (MQ below (QR K (some (.int z)) (xW K a len sz words checks cnt err vec bc pm sl ss sw sc) A) args s 0 0 A) (xW K a len sz words checks cnt err vec bc pm sl ss sw sc) 5 [(0, .ref (a 0)), (1, .int x1), (2, .int x2)] [] := by
  intro n
  induction n with
  | zero => intro _ _ hf; cases hf
  | succ n ih => intro _ _ hf; exact WX2_leastFatalErrors_5 C  ih hf
set_option maxRecDepth 20000 in
set_option maxHeartbeats 2000000 in
theorem WX2_leastFatalErrors_0 {p : Program} {l : Launch} {e : Env} {s : State} {m : MethodId} {args : Array Value} {below : List Frame} {meth : Method} {c : Code} {K : KK} {A : Nat → Prop} {a : Nat → Nat} (C : Cx p s m args meth c K A cX2_leastFatalErrors 4 RX2 wsX2_leastFatalErrors (some .int)) {z : Int32} {len : Int32} {sz : Int32} {words : Nat → Int32} {checks : Nat → Int32} {cnt : Int32} {err : Nat → Int32} {vec : Nat → Int32} {bc : Int32} {pm : Nat → Nat} {sl : Nat → Int32} {ss : Nat → Int32} {sw : Nat → Nat → Int32} {sc : Nat → Nat → Int32} (hf : FX2_leastFatalErrors_0 len sz words checks   = some z) : Go p l e (RM 3) s m args below meth c K A 4 0 0 (MQ below (QR K (some (.int z)) (xW K a len sz words checks cnt err vec bc pm sl ss sw sc) A) args s 0 0 A) (xW K a len sz words checks cnt err vec bc pm sl ss sw sc) 0 [(0, .ref (a 0))] [] := by
  unfold FX2_leastFatalErrors_0 at hf
  refine go_bipush (v := 9) C dX2_leastFatalErrors_0 (by decide) ?_
  refine go_istore_n C (lv' := [(0, .ref (a 0)), (1, .int 9)]) [1, 0] dX2_leastFatalErrors_2 rfl (by decide) rfl ?_
  refine go_iconst (v := 1) C dX2_leastFatalErrors_3 (by decide) ?_
  refine go_istore_n C (lv' := [(0, .ref (a 0)), (1, .int 9), (2, .int 1)]) [1, 2, 0] dX2_leastFatalErrors_4 rfl (by decide) rfl ?_
  exact wX2_leastFatalErrors_5 C  300 _ _ hf
set_option maxRecDepth 20000 in
theorem con_X2_leastFatalErrors (l : Launch) (K : KK) (a : Nat → Nat) {len : Int32} {sz : Int32} {words : Nat → Int32} {checks : Nat → Int32} {cnt : Int32} {err : Nat → Int32} {vec : Nat → Int32} {bc : Int32} {pm : Nat → Nat} {sl : Nat → Int32} {ss : Nat → Int32} {sw : Nat → Nat → Int32} {sc : Nat → Nat → Int32} {z : Int32} (hf : fX2_leastFatalErrors len sz words checks = some z) : Con l yX2_leastFatalErrors wsX2_leastFatalErrors 3 K [.ref (a 0)] (xW K a len sz words checks cnt err vec bc pm sl ss sw sc) (some (.int z)) (xW K a len sz words checks cnt err vec bc pm sl ss sw sc) :=
  con_of (cc := cX2_leastFatalErrors) (maxL := 4) (ret := (some .int)) (own := RX2) (lv0 := [(0, .ref (a 0))]) (by decide) rfl rfl (Nat.le_of_ble_eq_true rfl) rfl (fun p e s m args below meth c A C => go_lv (lv' := [(0, .ref (a 0))]) [0] rfl (WX2_leastFatalErrors_0 C hf))
set_option maxRecDepth 20000 in
theorem call_X2_leastFatalErrors {p : Program} {l : Launch} {e : Env} {s : State} {m : MethodId} {args : Array Value} {below : List Frame} {meth : Method} {c : Code} {K : KK} {A : Nat → Prop} {Q : State → Prop} {cc : ByteArray} {nL : Nat} {Ts : List Cond} {ret : Option FieldType} {pc : Nat} {lv : List (Nat × Value)} {st : List Value} {ix d : Nat} {α : Type} {kk : Int32 → Option α} {y : α} {a : Nat → Nat} {len : Int32} {sz : Int32} {words : Nat → Int32} {checks : Nat → Int32} {cnt : Int32} {err : Nat → Int32} {vec : Nat → Int32} {bc : Int32} {pm : Nat → Nat} {sl : Nat → Int32} {ss : Nat → Int32} {sw : Nat → Nat → Int32} {sc : Nat → Nat → Int32} (C : Cx p s m args meth c K A cc nL RX2 Ts ret) (hG : GoodIn Ts (wsV RX2 ix RX2 yX2_leastFatalErrors wsX2_leastFatalErrors)) (hd : decode cc pc = .ok (.invokevirtual ix, 3)) (hdd : 3 < d) (hro : (st.map fun v => v.category).sum ≤ 8) (hf : (fX2_leastFatalErrors len sz words checks).bind kk = some y) (k : ∀ v, kk v = some y → Go p l e (RM d) s m args below meth c K A nL 0 0 Q (xW K a len sz words checks cnt err vec bc pm sl ss sw sc) (pc + 3) lv (.int v :: st)) : Go p l e (RM d) s m args below meth c K A nL 0 0 Q (xW K a len sz words checks cnt err vec bc pm sl ss sw sc) pc lv (.ref (a 0) :: st) := by
  obtain ⟨v, hv, hf⟩ := bd_some hf
  exact go_callV_full (ry := (some .int)) (n := 0) (b := a 0) (As := []) (rest := st) C (con_X2_leastFatalErrors l K a hv) hG (by decide) rfl ⟨Nat.succ_le_of_lt hdd, by show 8 + (4 + 11) + 40 * 3 ≤ 40 * d; omega⟩ ⟨Nat.le_refl _, Nat.le_refl _⟩ ⟨0, 2, _, _, rfl, rfl, rfl⟩ rfl rfl hro hd (k v hf)
-- X2_weakness
set_option maxRecDepth 20000 in
set_option maxHeartbeats 2000000 in
theorem WX2_weakness_0 {p : Program} {l : Launch} {e : Env} {s : State} {m : MethodId} {args : Array Value} {below : List Frame} {meth : Method} {c : Code} {K : KK} {A : Nat → Prop} {a : Nat → Nat} (C : Cx p s m args meth c K A cX2_weakness 1 RX2 wsX2_weakness (some .int)) {z : Int32} {len : Int32} {sz : Int32} {words : Nat → Int32} {checks : Nat → Int32} {cnt : Int32} {err : Nat → Int32} {vec : Nat → Int32} {bc : Int32} {pm : Nat → Nat} {sl : Nat → Int32} {ss : Nat → Int32} {sw : Nat → Nat → Int32} {sc : Nat → Nat → Int32} (hf : FX2_weakness_0 len sz words checks   = some z) : Go p l e (RM 4) s m args below meth c K A 1 0 0 (MQ below (QR K (some (.int z)) (xW K a len sz words checks cnt err vec bc pm sl ss sw sc) A) args s 0 0 A) (xW K a len sz words checks cnt err vec bc pm sl ss sw sc) 0 [(0, .ref (a 0))] [] := by
  unfold FX2_weakness_0 at hf
  refine go_aload_n C 0 dX2_weakness_0 rfl rfl ?_
  refine call_X2_leastFatalErrors C gX2_weakness_X2_leastFatalErrors dX2_weakness_1 (by decide) (Nat.le_of_ble_eq_true rfl) hf (fun v1 hf => ?_)
  cases hf
  exact go_iret C dX2_weakness_4
set_option maxRecDepth 20000 in
theorem con_X2_weakness (l : Launch) (K : KK) (a : Nat → Nat) {len : Int32} {sz : Int32} {words : Nat → Int32} {checks : Nat → Int32} {cnt : Int32} {err : Nat → Int32} {vec : Nat → Int32} {bc : Int32} {pm : Nat → Nat} {sl : Nat → Int32} {ss : Nat → Int32} {sw : Nat → Nat → Int32} {sc : Nat → Nat → Int32} {z : Int32} (hf : fX2_weakness len sz words checks = some z) : Con l yX2_weakness wsX2_weakness 4 K [.ref (a 0)] (xW K a len sz words checks cnt err vec bc pm sl ss sw sc) (some (.int z)) (xW K a len sz words checks cnt err vec bc pm sl ss sw sc) :=
  con_of (cc := cX2_weakness) (maxL := 1) (ret := (some .int)) (own := RX2) (lv0 := [(0, .ref (a 0))]) (by decide) rfl rfl (Nat.le_of_ble_eq_true rfl) rfl (fun p e s m args below meth c A C => go_lv (lv' := [(0, .ref (a 0))]) [0] rfl (WX2_weakness_0 C hf))
set_option maxRecDepth 20000 in
theorem call_X2_weakness {p : Program} {l : Launch} {e : Env} {s : State} {m : MethodId} {args : Array Value} {below : List Frame} {meth : Method} {c : Code} {K : KK} {A : Nat → Prop} {Q : State → Prop} {cc : ByteArray} {nL : Nat} {Ts : List Cond} {ret : Option FieldType} {pc : Nat} {lv : List (Nat × Value)} {st : List Value} {ix d : Nat} {α : Type} {kk : Int32 → Option α} {y : α} {a : Nat → Nat} {len : Int32} {sz : Int32} {words : Nat → Int32} {checks : Nat → Int32} {cnt : Int32} {err : Nat → Int32} {vec : Nat → Int32} {bc : Int32} {pm : Nat → Nat} {sl : Nat → Int32} {ss : Nat → Int32} {sw : Nat → Nat → Int32} {sc : Nat → Nat → Int32} (C : Cx p s m args meth c K A cc nL RX2 Ts ret) (hG : GoodIn Ts (wsV RX2 ix RX2 yX2_weakness wsX2_weakness)) (hd : decode cc pc = .ok (.invokevirtual ix, 3)) (hdd : 4 < d) (hro : (st.map fun v => v.category).sum ≤ 8) (hf : (fX2_weakness len sz words checks).bind kk = some y) (k : ∀ v, kk v = some y → Go p l e (RM d) s m args below meth c K A nL 0 0 Q (xW K a len sz words checks cnt err vec bc pm sl ss sw sc) (pc + 3) lv (.int v :: st)) : Go p l e (RM d) s m args below meth c K A nL 0 0 Q (xW K a len sz words checks cnt err vec bc pm sl ss sw sc) pc lv (.ref (a 0) :: st) := by
  obtain ⟨v, hv, hf⟩ := bd_some hf
  exact go_callV_full (ry := (some .int)) (n := 0) (b := a 0) (As := []) (rest := st) C (con_X2_weakness l K a hv) hG (by decide) rfl ⟨Nat.succ_le_of_lt hdd, by show 8 + (1 + 11) + 40 * 4 ≤ 40 * d; omega⟩ ⟨Nat.le_refl _, Nat.le_refl _⟩ ⟨0, 2, _, _, rfl, rfl, rfl⟩ rfl rfl hro hd (k v hf)
-- X2_leakedBits
set_option maxRecDepth 20000 in
set_option maxHeartbeats 2000000 in
theorem WX2_leakedBits_0 {p : Program} {l : Launch} {e : Env} {s : State} {m : MethodId} {args : Array Value} {below : List Frame} {meth : Method} {c : Code} {K : KK} {A : Nat → Prop} {a : Nat → Nat} (C : Cx p s m args meth c K A cX2_leakedBits 2 RX2 wsX2_leakedBits (some .int)) {z : Int32 × (Nat → Int32) × Int32} {len : Int32} {sz : Int32} {words : Nat → Int32} {checks : Nat → Int32} {cnt : Int32} {err : Nat → Int32} {pm : Nat → Nat} {sl : Nat → Int32} {ss : Nat → Int32} {sw : Nat → Nat → Int32} {sc : Nat → Nat → Int32} {vec : Nat → Int32} {bc : Int32} {x1 : Int32} (hf : FX2_leakedBits_0 len sz words checks  vec bc x1 = some z) : Go p l e (RM 4) s m args below meth c K A 2 0 0 (MQ below (QR K (some (.int z.1)) (xW K a len sz words checks cnt err z.2.1 z.2.2 pm sl ss sw sc) A) args s 0 0 A) (xW K a len sz words checks cnt err vec bc pm sl ss sw sc) 0 [(0, .ref (a 0)), (1, .int x1)] [] := by
  unfold FX2_leakedBits_0 at hf
  refine go_aload_n C 0 dX2_leakedBits_0 rfl rfl ?_
  refine go_aload_n C 0 dX2_leakedBits_1 rfl rfl ?_
  refine call_X2_allPositions C gX2_leakedBits_X2_allPositions dX2_leakedBits_2 (by decide) (Nat.le_of_ble_eq_true rfl) hf (fun v1 hf => ?_)
  refine call_X2_hiddenBits C gX2_leakedBits_X2_hiddenBits dX2_leakedBits_5 (by decide) (Nat.le_of_ble_eq_true rfl) hf (fun v2 hf => ?_)
  refine go_aload_n C 0 dX2_leakedBits_8 rfl rfl ?_
  refine go_aload_n C 0 dX2_leakedBits_9 rfl rfl ?_
  refine call_X2_allPositions C gX2_leakedBits_X2_allPositions dX2_leakedBits_10 (by decide) (Nat.le_of_ble_eq_true rfl) hf (fun v3 hf => ?_)
  refine go_iload_n C 1 dX2_leakedBits_13 rfl rfl ?_
  refine go_iconst (v := (-1)) C dX2_leakedBits_14 (by decide) ?_
  refine go_ixor C dX2_leakedBits_15 ?_
  refine go_iand C dX2_leakedBits_16 ?_
  refine call_X2_hiddenBits C gX2_leakedBits_X2_hiddenBits dX2_leakedBits_17 (by decide) (Nat.le_of_ble_eq_true rfl) hf (fun v4 hf => ?_)
  refine go_isub C dX2_leakedBits_20 ?_
  cases hf
  exact go_iret C dX2_leakedBits_21
set_option maxRecDepth 20000 in
theorem con_X2_leakedBits (l : Launch) (K : KK) (a : Nat → Nat) {len : Int32} {sz : Int32} {words : Nat → Int32} {checks : Nat → Int32} {cnt : Int32} {err : Nat → Int32} {vec : Nat → Int32} {bc : Int32} {pm : Nat → Nat} {sl : Nat → Int32} {ss : Nat → Int32} {sw : Nat → Nat → Int32} {sc : Nat → Nat → Int32} {x1 : Int32} {z : Int32 × (Nat → Int32) × Int32} (hf : fX2_leakedBits len sz words checks vec bc x1 = some z) : Con l yX2_leakedBits wsX2_leakedBits 4 K [.ref (a 0), .int x1] (xW K a len sz words checks cnt err vec bc pm sl ss sw sc) (some (.int z.1)) (xW K a len sz words checks cnt err z.2.1 z.2.2 pm sl ss sw sc) :=
  con_of (cc := cX2_leakedBits) (maxL := 2) (ret := (some .int)) (own := RX2) (lv0 := [(0, .ref (a 0)), (1, .int x1)]) (by decide) rfl rfl (Nat.le_of_ble_eq_true rfl) rfl (fun p e s m args below meth c A C => go_lv (lv' := [(0, .ref (a 0)), (1, .int x1)]) [0, 1] rfl (WX2_leakedBits_0 C hf))
set_option maxRecDepth 20000 in
theorem call_X2_leakedBits {p : Program} {l : Launch} {e : Env} {s : State} {m : MethodId} {args : Array Value} {below : List Frame} {meth : Method} {c : Code} {K : KK} {A : Nat → Prop} {Q : State → Prop} {cc : ByteArray} {nL : Nat} {Ts : List Cond} {ret : Option FieldType} {pc : Nat} {lv : List (Nat × Value)} {st : List Value} {ix d : Nat} {α : Type} {kk : Int32 × (Nat → Int32) × Int32 → Option α} {y : α} {a : Nat → Nat} {len : Int32} {sz : Int32} {words : Nat → Int32} {checks : Nat → Int32} {cnt : Int32} {err : Nat → Int32} {vec : Nat → Int32} {bc : Int32} {pm : Nat → Nat} {sl : Nat → Int32} {ss : Nat → Int32} {sw : Nat → Nat → Int32} {sc : Nat → Nat → Int32} {q0 : Int32} (C : Cx p s m args meth c K A cc nL RX2 Ts ret) (hG : GoodIn Ts (wsV RX2 ix RX2 yX2_leakedBits wsX2_leakedBits)) (hd : decode cc pc = .ok (.invokevirtual ix, 3)) (hdd : 4 < d) (hro : (st.map fun v => v.category).sum ≤ 8) (hf : (fX2_leakedBits len sz words checks vec bc q0).bind kk = some y) (k : ∀ v, kk v = some y → Go p l e (RM d) s m args below meth c K A nL 0 0 Q (xW K a len sz words checks cnt err v.2.1 v.2.2 pm sl ss sw sc) (pc + 3) lv (.int (v.1) :: st)) : Go p l e (RM d) s m args below meth c K A nL 0 0 Q (xW K a len sz words checks cnt err vec bc pm sl ss sw sc) pc lv (.int q0 :: .ref (a 0) :: st) := by
  obtain ⟨v, hv, hf⟩ := bd_some hf
  exact go_callV_full (ry := (some .int)) (n := 1) (b := a 0) (As := [.int q0]) (rest := st) C (con_X2_leakedBits l K a hv) hG (by decide) rfl ⟨Nat.succ_le_of_lt hdd, by show 8 + (2 + 11) + 40 * 4 ≤ 40 * d; omega⟩ ⟨Nat.le_refl _, Nat.le_refl _⟩ ⟨0, 2, _, _, rfl, rfl, rfl⟩ rfl rfl hro hd (k v hf)
-- X2_leakage
set_option maxRecDepth 20000 in
set_option maxHeartbeats 2000000 in
theorem WX2_leakage_0 {p : Program} {l : Launch} {e : Env} {s : State} {m : MethodId} {args : Array Value} {below : List Frame} {meth : Method} {c : Code} {K : KK} {A : Nat → Prop} {a : Nat → Nat} (C : Cx p s m args meth c K A cX2_leakage 2 RX2 wsX2_leakage (some .int)) {z : Int32 × (Nat → Int32) × (Nat → Int32) × Int32} {len : Int32} {sz : Int32} {words : Nat → Int32} {checks : Nat → Int32} {cnt : Int32} {pm : Nat → Nat} {sl : Nat → Int32} {ss : Nat → Int32} {sw : Nat → Nat → Int32} {sc : Nat → Nat → Int32} {err : Nat → Int32} {vec : Nat → Int32} {bc : Int32} {x1 : Int32} (hf : FX2_leakage_0 len sz words checks  err vec bc x1 = some z) : Go p l e (RM 5) s m args below meth c K A 2 0 0 (MQ below (QR K (some (.int z.1)) (xW K a len sz words checks cnt z.2.1 z.2.2.1 z.2.2.2 pm sl ss sw sc) A) args s 0 0 A) (xW K a len sz words checks cnt err vec bc pm sl ss sw sc) 0 [(0, .ref (a 0)), (1, .int x1)] [] := by
  unfold FX2_leakage_0 at hf
  refine go_aload_n C 0 dX2_leakage_0 rfl rfl ?_
  refine go_iload_n C 1 dX2_leakage_1 rfl rfl ?_
  refine call_X2_isWord C gX2_leakage_X2_isWord dX2_leakage_2 (by decide) (Nat.le_of_ble_eq_true rfl) hf (fun v1 hf => ?_)
  refine go_c1_ne C (tgt := 15) dX2_leakage_5 (by decide) hf (fun h hf => ?_) (fun h hf => ?_)
  · refine go_aload_n C 0 dX2_leakage_15 rfl rfl ?_
    refine go_iload_n C 1 dX2_leakage_16 rfl rfl ?_
    refine call_X2_leakedBits C gX2_leakage_X2_leakedBits dX2_leakage_17 (by decide) (Nat.le_of_ble_eq_true rfl) hf (fun v2 hf => ?_)
    cases hf
    exact go_iret C dX2_leakage_20
  · refine go_aload_n C 0 dX2_leakage_8 rfl rfl ?_
    refine go_bipush (v := (-2)) C dX2_leakage_9 (by decide) ?_
    refine call_X2_fail C gX2_leakage_X2_fail dX2_leakage_11 (by decide) (Nat.le_of_ble_eq_true rfl) hf (fun v3 hf => ?_)
    cases hf
    exact go_iret C dX2_leakage_14
set_option maxRecDepth 20000 in
theorem con_X2_leakage (l : Launch) (K : KK) (a : Nat → Nat) {len : Int32} {sz : Int32} {words : Nat → Int32} {checks : Nat → Int32} {cnt : Int32} {err : Nat → Int32} {vec : Nat → Int32} {bc : Int32} {pm : Nat → Nat} {sl : Nat → Int32} {ss : Nat → Int32} {sw : Nat → Nat → Int32} {sc : Nat → Nat → Int32} {x1 : Int32} {z : Int32 × (Nat → Int32) × (Nat → Int32) × Int32} (hf : fX2_leakage len sz words checks err vec bc x1 = some z) : Con l yX2_leakage wsX2_leakage 5 K [.ref (a 0), .int x1] (xW K a len sz words checks cnt err vec bc pm sl ss sw sc) (some (.int z.1)) (xW K a len sz words checks cnt z.2.1 z.2.2.1 z.2.2.2 pm sl ss sw sc) :=
  con_of (cc := cX2_leakage) (maxL := 2) (ret := (some .int)) (own := RX2) (lv0 := [(0, .ref (a 0)), (1, .int x1)]) (by decide) rfl rfl (Nat.le_of_ble_eq_true rfl) rfl (fun p e s m args below meth c A C => go_lv (lv' := [(0, .ref (a 0)), (1, .int x1)]) [0, 1] rfl (WX2_leakage_0 C hf))
set_option maxRecDepth 20000 in
theorem call_X2_leakage {p : Program} {l : Launch} {e : Env} {s : State} {m : MethodId} {args : Array Value} {below : List Frame} {meth : Method} {c : Code} {K : KK} {A : Nat → Prop} {Q : State → Prop} {cc : ByteArray} {nL : Nat} {Ts : List Cond} {ret : Option FieldType} {pc : Nat} {lv : List (Nat × Value)} {st : List Value} {ix d : Nat} {α : Type} {kk : Int32 × (Nat → Int32) × (Nat → Int32) × Int32 → Option α} {y : α} {a : Nat → Nat} {len : Int32} {sz : Int32} {words : Nat → Int32} {checks : Nat → Int32} {cnt : Int32} {err : Nat → Int32} {vec : Nat → Int32} {bc : Int32} {pm : Nat → Nat} {sl : Nat → Int32} {ss : Nat → Int32} {sw : Nat → Nat → Int32} {sc : Nat → Nat → Int32} {q0 : Int32} (C : Cx p s m args meth c K A cc nL RX2 Ts ret) (hG : GoodIn Ts (wsV RX2 ix RX2 yX2_leakage wsX2_leakage)) (hd : decode cc pc = .ok (.invokevirtual ix, 3)) (hdd : 5 < d) (hro : (st.map fun v => v.category).sum ≤ 8) (hf : (fX2_leakage len sz words checks err vec bc q0).bind kk = some y) (k : ∀ v, kk v = some y → Go p l e (RM d) s m args below meth c K A nL 0 0 Q (xW K a len sz words checks cnt v.2.1 v.2.2.1 v.2.2.2 pm sl ss sw sc) (pc + 3) lv (.int (v.1) :: st)) : Go p l e (RM d) s m args below meth c K A nL 0 0 Q (xW K a len sz words checks cnt err vec bc pm sl ss sw sc) pc lv (.int q0 :: .ref (a 0) :: st) := by
  obtain ⟨v, hv, hf⟩ := bd_some hf
  exact go_callV_full (ry := (some .int)) (n := 1) (b := a 0) (As := [.int q0]) (rest := st) C (con_X2_leakage l K a hv) hG (by decide) rfl ⟨Nat.succ_le_of_lt hdd, by show 8 + (2 + 11) + 40 * 5 ≤ 40 * d; omega⟩ ⟨Nat.le_refl _, Nat.le_refl _⟩ ⟨0, 2, _, _, rfl, rfl, rfl⟩ rfl rfl hro hd (k v hf)
-- X2_isSize
theorem iX2_isSize_1 : ∀ w ∈ wsX10, w ∈ wsX2_isSize := by decide +kernel
theorem iX2_isSize_2 : ∀ w ∈ wsX20, w ∈ wsX2_isSize := by decide +kernel
theorem kX2_isSize_12 : Cond.fieldLink RX2 12 "CosetCoder" "state" "LCosetCoder$State;" ∈ wsX2_isSize := by decide +kernel
set_option maxRecDepth 20000 in
set_option maxHeartbeats 2000000 in
theorem WX2_isSize_20 {p : Program} {l : Launch} {e : Env} {s : State} {m : MethodId} {args : Array Value} {below : List Frame} {meth : Method} {c : Code} {K : KK} {A : Nat → Prop} {a : Nat → Nat} (C : Cx p s m args meth c K A cX2_isSize 2 RX2 wsX2_isSize (some .boolean)) {z : Int32} {len : Int32} {sz : Int32} {words : Nat → Int32} {checks : Nat → Int32} {cnt : Int32} {err : Nat → Int32} {vec : Nat → Int32} {bc : Int32} {pm : Nat → Nat} {sl : Nat → Int32} {ss : Nat → Int32} {sw : Nat → Nat → Int32} {sc : Nat → Nat → Int32} {t0 : Int32} (hf : FX2_isSize_20 len  t0 = some z) : Go p l e (RM 0) s m args below meth c K A 2 0 0 (MQ below (QR K (some (.int z)) (xW K a len sz words checks cnt err vec bc pm sl ss sw sc) A) args s 0 0 A) (xW K a len sz words checks cnt err vec bc pm sl ss sw sc) 20 [] [.int t0] := by
  unfold FX2_isSize_20 at hf
  obtain ⟨hb1, hf⟩ := ckB_some hf
  cases hf
  exact go_zret C hb1 dX2_isSize_20
set_option maxRecDepth 20000 in
set_option maxHeartbeats 2000000 in
theorem WX2_isSize_19 {p : Program} {l : Launch} {e : Env} {s : State} {m : MethodId} {args : Array Value} {below : List Frame} {meth : Method} {c : Code} {K : KK} {A : Nat → Prop} {a : Nat → Nat} (C : Cx p s m args meth c K A cX2_isSize 2 RX2 wsX2_isSize (some .boolean)) {z : Int32} {len : Int32} {sz : Int32} {words : Nat → Int32} {checks : Nat → Int32} {cnt : Int32} {err : Nat → Int32} {vec : Nat → Int32} {bc : Int32} {pm : Nat → Nat} {sl : Nat → Int32} {ss : Nat → Int32} {sw : Nat → Nat → Int32} {sc : Nat → Nat → Int32} (hf : FX2_isSize_19 len   = some z) : Go p l e (RM 0) s m args below meth c K A 2 0 0 (MQ below (QR K (some (.int z)) (xW K a len sz words checks cnt err vec bc pm sl ss sw sc) A) args s 0 0 A) (xW K a len sz words checks cnt err vec bc pm sl ss sw sc) 19 [] [] := by
  unfold FX2_isSize_19 at hf
  refine go_iconst (v := 0) C dX2_isSize_19 (by decide) ?_
  exact WX2_isSize_20 C  hf
set_option maxRecDepth 20000 in
set_option maxHeartbeats 2000000 in
theorem WX2_isSize_0 {p : Program} {l : Launch} {e : Env} {s : State} {m : MethodId} {args : Array Value} {below : List Frame} {meth : Method} {c : Code} {K : KK} {A : Nat → Prop} {a : Nat → Nat} (C : Cx p s m args meth c K A cX2_isSize 2 RX2 wsX2_isSize (some .boolean)) {z : Int32} {len : Int32} {sz : Int32} {words : Nat → Int32} {checks : Nat → Int32} {cnt : Int32} {err : Nat → Int32} {vec : Nat → Int32} {bc : Int32} {pm : Nat → Nat} {sl : Nat → Int32} {ss : Nat → Int32} {sw : Nat → Nat → Int32} {sc : Nat → Nat → Int32} {x1 : Int32} (hf : FX2_isSize_0 len  x1 = some z) : Go p l e (RM 0) s m args below meth c K A 2 0 0 (MQ below (QR K (some (.int z)) (xW K a len sz words checks cnt err vec bc pm sl ss sw sc) A) args s 0 0 A) (xW K a len sz words checks cnt err vec bc pm sl ss sw sc) 0 [(0, .ref (a 0)), (1, .int x1)] [] := by
  unfold FX2_isSize_0 at hf
  refine go_iload_n C 1 dX2_isSize_0 rfl rfl ?_
  refine go_c1_lt C (tgt := 19) dX2_isSize_1 (by decide) hf (fun h hf => ?_) (fun h hf => ?_)
  · refine go_lv (lv' := []) [] rfl ?_
    exact WX2_isSize_19 C  hf
  · refine go_iload_n C 1 dX2_isSize_4 rfl rfl ?_
    refine go_aload_n C 0 dX2_isSize_5 rfl rfl ?_
    refine gX_get_state C iX2_isSize_2 kX2_isSize_12 dX2_isSize_6 ?_
    refine gX_get_n_length C iX2_isSize_1 dX2_isSize_9 ?_
    refine go_c2_gt C (tgt := 19) dX2_isSize_12 (by decide) hf (fun h hf => ?_) (fun h hf => ?_)
    · refine go_lv (lv' := []) [] rfl ?_
      exact WX2_isSize_19 C  hf
    · refine go_iconst (v := 1) C dX2_isSize_15 (by decide) ?_
      refine go_goto C (tgt := 20) dX2_isSize_16 (by decide) ?_
      refine go_lv (lv' := []) [] rfl ?_
      exact WX2_isSize_20 C  hf
set_option maxRecDepth 20000 in
theorem con_X2_isSize (l : Launch) (K : KK) (a : Nat → Nat) {len : Int32} {sz : Int32} {words : Nat → Int32} {checks : Nat → Int32} {cnt : Int32} {err : Nat → Int32} {vec : Nat → Int32} {bc : Int32} {pm : Nat → Nat} {sl : Nat → Int32} {ss : Nat → Int32} {sw : Nat → Nat → Int32} {sc : Nat → Nat → Int32} {x1 : Int32} {z : Int32} (hf : fX2_isSize len x1 = some z) : Con l yX2_isSize wsX2_isSize 0 K [.ref (a 0), .int x1] (xW K a len sz words checks cnt err vec bc pm sl ss sw sc) (some (.int z)) (xW K a len sz words checks cnt err vec bc pm sl ss sw sc) :=
  con_of (cc := cX2_isSize) (maxL := 2) (ret := (some .boolean)) (own := RX2) (lv0 := [(0, .ref (a 0)), (1, .int x1)]) (by decide) rfl rfl (Nat.le_of_ble_eq_true rfl) rfl (fun p e s m args below meth c A C => go_lv (lv' := [(0, .ref (a 0)), (1, .int x1)]) [0, 1] rfl (WX2_isSize_0 C hf))
set_option maxRecDepth 20000 in
theorem call_X2_isSize {p : Program} {l : Launch} {e : Env} {s : State} {m : MethodId} {args : Array Value} {below : List Frame} {meth : Method} {c : Code} {K : KK} {A : Nat → Prop} {Q : State → Prop} {cc : ByteArray} {nL : Nat} {Ts : List Cond} {ret : Option FieldType} {pc : Nat} {lv : List (Nat × Value)} {st : List Value} {ix d : Nat} {α : Type} {kk : Int32 → Option α} {y : α} {a : Nat → Nat} {len : Int32} {sz : Int32} {words : Nat → Int32} {checks : Nat → Int32} {cnt : Int32} {err : Nat → Int32} {vec : Nat → Int32} {bc : Int32} {pm : Nat → Nat} {sl : Nat → Int32} {ss : Nat → Int32} {sw : Nat → Nat → Int32} {sc : Nat → Nat → Int32} {q0 : Int32} (C : Cx p s m args meth c K A cc nL RX2 Ts ret) (hG : GoodIn Ts (wsV RX2 ix RX2 yX2_isSize wsX2_isSize)) (hd : decode cc pc = .ok (.invokevirtual ix, 3)) (hdd : 0 < d) (hro : (st.map fun v => v.category).sum ≤ 8) (hf : (fX2_isSize len q0).bind kk = some y) (k : ∀ v, kk v = some y → Go p l e (RM d) s m args below meth c K A nL 0 0 Q (xW K a len sz words checks cnt err vec bc pm sl ss sw sc) (pc + 3) lv (.int v :: st)) : Go p l e (RM d) s m args below meth c K A nL 0 0 Q (xW K a len sz words checks cnt err vec bc pm sl ss sw sc) pc lv (.int q0 :: .ref (a 0) :: st) := by
  obtain ⟨v, hv, hf⟩ := bd_some hf
  exact go_callV_full (ry := (some .boolean)) (n := 1) (b := a 0) (As := [.int q0]) (rest := st) C (con_X2_isSize l K a hv) hG (by decide) rfl ⟨Nat.succ_le_of_lt hdd, by show 8 + (2 + 11) + 40 * 0 ≤ 40 * d; omega⟩ ⟨Nat.le_refl _, Nat.le_refl _⟩ ⟨0, 2, _, _, rfl, rfl, rfl⟩ rfl rfl hro hd (k v hf)
-- X2_leakiestSet
set_option maxRecDepth 20000 in
set_option maxHeartbeats 2000000 in
theorem WX2_leakiestSet_55 {p : Program} {l : Launch} {e : Env} {s : State} {m : MethodId} {args : Array Value} {below : List Frame} {meth : Method} {c : Code} {K : KK} {A : Nat → Prop} {a : Nat → Nat} (C : Cx p s m args meth c K A cX2_leakiestSet 7 RX2 wsX2_leakiestSet (some .int)) {z : Int32 × (Nat → Int32) × Int32} {len : Int32} {sz : Int32} {words : Nat → Int32} {checks : Nat → Int32} {cnt : Int32} {err : Nat → Int32} {pm : Nat → Nat} {sl : Nat → Int32} {ss : Nat → Int32} {sw : Nat → Nat → Int32} {sc : Nat → Nat → Int32} {r14 : (Nat → Int32) → (Int32) → Int32 → Int32 → Int32 → Int32 → Int32 → Option (Int32 × (Nat → Int32) × Int32)} {vec : Nat → Int32} {bc : Int32} {x1 : Int32} {x2 : Int32} {x3 : Int32} {x4 : Int32} {x5 : Int32} (hr14 : ∀ (vec : Nat → Int32) (bc : Int32) (x1 : Int32) (x2 : Int32) (x3 : Int32) (x4 : Int32) (x5 : Int32), r14 vec bc x1 x2 x3 x4 x5 = some z → Go p l e (RM 4) s m args below meth c K A 7 0 0 (MQ below (QR K (some (.int z.1)) (xW K a len sz words checks cnt err z.2.1 z.2.2 pm sl ss sw sc) A) args s 0 0 A) (xW K a len sz words checks cnt err vec bc pm sl ss sw sc) 14 [(0, .ref (a 0)), (1, .int x1), (2, .int x2), (3, .int x3), (4, .int x4), (5, .int x5)] []) (hf : FX2_leakiestSet_55 len sz words checks r14 vec bc x1 x2 x3 x4 x5 = some z) : Go p l e (RM 4) s m args below meth c K A 7 0 0 (MQ below (QR K (some (.int z.1)) (xW K a len sz words checks cnt err z.2.1 z.2.2 pm sl ss sw sc) A) args s 0 0 A) (xW K a len sz words checks cnt err vec bc pm sl ss sw sc) 55 [(0, .ref (a 0)), (1, .int x1), (2, .int x2), (3, .int x3), (4, .int x4), (5, .int x5)] [] := by
  unfold FX2_leakiestSet_55 at hf
  refine go_iinc C (v := x5 + 1) (lv' := [(0, .ref (a 0)), (1, .int x1), (2, .int x2), (3, .int x3), (4, .int x4), (5, .int (x5 + 1))]) 5 [1, 2, 3, 4, 5, 0] dX2_leakiestSet_55 rfl rfl (by decide) rfl ?_
  refine go_goto C (tgt := 14) dX2_leakiestSet_58 (by decide) ?_
  exact hr14 _ _ _ _ _ _ _ hf
set_option maxRecDepth 20000 in
set_option maxHeartbeats 2000000 in
theorem WX2_leakiestSet_14 {p : Program} {l : Launch} {e : Env} {s : State} {m : MethodId} {args : Array Value} {below : List Frame} {meth : Method} {c : Code} {K : KK} {A : Nat → Prop} {a : Nat → Nat} (C : Cx p s m args meth c K A cX2_leakiestSet 7 RX2 wsX2_leakiestSet (some .int)) {z : Int32 × (Nat → Int32) × Int32} {len : Int32} {sz : Int32} {words : Nat → Int32} {checks : Nat → Int32} {cnt : Int32} {err : Nat → Int32} {pm : Nat → Nat} {sl : Nat → Int32} {ss : Nat → Int32} {sw : Nat → Nat → Int32} {sc : Nat → Nat → Int32} {r14 : (Nat → Int32) → (Int32) → Int32 → Int32 → Int32 → Int32 → Int32 → Option (Int32 × (Nat → Int32) × Int32)} {vec : Nat → Int32} {bc : Int32} {x1 : Int32} {x2 : Int32} {x3 : Int32} {x4 : Int32} {x5 : Int32} (hr14 : ∀ (vec : Nat → Int32) (bc : Int32) (x1 : Int32) (x2 : Int32) (x3 : Int32) (x4 : Int32) (x5 : Int32), r14 vec bc x1 x2 x3 x4 x5 = some z → Go p l e (RM 4) s m args below meth c K A 7 0 0 (MQ below (QR K (some (.int z.1)) (xW K a len sz words checks cnt err z.2.1 z.2.2 pm sl ss sw sc) A) args s 0 0 A) (xW K a len sz words checks cnt err vec bc pm sl ss sw sc) 14 [(0, .ref (a 0)), (1, .int x1), (2, .int x2), (3, .int x3), (4, .int x4), (5, .int x5)] []) (hf : FX2_leakiestSet_14 len sz words checks r14 vec bc x1 x2 x3 x4 x5 = some z) : Go p l e (RM 4) s m args below meth c K A 7 0 0 (MQ below (QR K (some (.int z.1)) (xW K a len sz words checks cnt err z.2.1 z.2.2 pm sl ss sw sc) A) args s 0 0 A) (xW K a len sz words checks cnt err vec bc pm sl ss sw sc) 14 [(0, .ref (a 0)), (1, .int x1), (2, .int x2), (3, .int x3), (4, .int x4), (5, .int x5)] [] := by
  unfold FX2_leakiestSet_14 at hf
  refine go_iload C 5 dX2_leakiestSet_14 rfl ?_
  refine go_iload_n C 2 dX2_leakiestSet_16 rfl rfl ?_
  refine go_c2_gt C (tgt := 61) dX2_leakiestSet_17 (by decide) hf (fun h hf => ?_) (fun h hf => ?_)
  · refine go_iload_n C 3 dX2_leakiestSet_61 rfl rfl ?_
    cases hf
    exact go_iret C dX2_leakiestSet_62
  · refine go_iload C 5 dX2_leakiestSet_20 rfl ?_
    refine call_J6_bitCount_0f7a4 C gX2_leakiestSet_J6_bitCount_0f7a4 dX2_leakiestSet_22 (by decide) (Nat.le_of_ble_eq_true rfl) hf (fun v1 hf => ?_)
    refine go_iload_n C 1 dX2_leakiestSet_25 rfl rfl ?_
    refine go_c2_ne C (tgt := 55) dX2_leakiestSet_26 (by decide) hf (fun h hf => ?_) (fun h hf => ?_)
    · exact WX2_leakiestSet_55 C hr14 hf
    · refine go_aload_n C 0 dX2_leakiestSet_29 rfl rfl ?_
      refine go_iload_n C 2 dX2_leakiestSet_30 rfl rfl ?_
      refine go_iload C 5 dX2_leakiestSet_31 rfl ?_
      refine go_iconst (v := (-1)) C dX2_leakiestSet_33 (by decide) ?_
      refine go_ixor C dX2_leakiestSet_34 ?_
      refine go_iand C dX2_leakiestSet_35 ?_
      refine call_X2_hiddenBits C gX2_leakiestSet_X2_hiddenBits dX2_leakiestSet_36 (by decide) (Nat.le_of_ble_eq_true rfl) hf (fun v2 hf => ?_)
      refine go_istore C (lv' := [(0, .ref (a 0)), (1, .int x1), (2, .int x2), (3, .int x3), (4, .int x4), (5, .int x5), (6, .int v2.1)]) [1, 2, 3, 4, 5, 6, 0] dX2_leakiestSet_39 (by decide) rfl ?_
      refine go_iload C 6 dX2_leakiestSet_41 rfl ?_
      refine go_iload C 4 dX2_leakiestSet_43 rfl ?_
      refine go_c2_ge C (tgt := 55) dX2_leakiestSet_45 (by decide) hf (fun h hf => ?_) (fun h hf => ?_)
      · refine go_lv (lv' := [(0, .ref (a 0)), (1, .int x1), (2, .int x2), (3, .int x3), (4, .int x4), (5, .int x5)]) [0, 1, 2, 3, 4, 5] rfl ?_
        exact WX2_leakiestSet_55 C hr14 hf
      · refine go_iload C 6 dX2_leakiestSet_48 rfl ?_
        refine go_istore C (lv' := [(0, .ref (a 0)), (1, .int x1), (2, .int x2), (3, .int x3), (4, .int v2.1), (5, .int x5), (6, .int v2.1)]) [1, 2, 3, 4, 0, 5, 6] dX2_leakiestSet_50 (by decide) rfl ?_
        refine go_iload C 5 dX2_leakiestSet_52 rfl ?_
        refine go_istore_n C (lv' := [(0, .ref (a 0)), (1, .int x1), (2, .int x2), (3, .int x5), (4, .int v2.1), (5, .int x5), (6, .int v2.1)]) [1, 2, 3, 0, 4, 5, 6] dX2_leakiestSet_54 rfl (by decide) rfl ?_
        refine go_lv (lv' := [(0, .ref (a 0)), (1, .int x1), (2, .int x2), (3, .int x5), (4, .int v2.1), (5, .int x5)]) [0, 1, 2, 3, 4, 5] rfl ?_
        exact WX2_leakiestSet_55 C hr14 hf
theorem wX2_leakiestSet_14 {p : Program} {l : Launch} {e : Env} {s : State} {m : MethodId} {args : Array Value} {below : List Frame} {meth : Method} {c : Code} {K : KK} {A : Nat → Prop} {a : Nat → Nat} (C : Cx p s m args meth c K A cX2_leakiestSet 7 RX2 wsX2_leakiestSet (some .int)) {z : Int32 × (Nat → Int32) × Int32} {len : Int32} {sz : Int32} {words : Nat → Int32} {checks : Nat → Int32} {cnt : Int32} {err : Nat → Int32} {pm : Nat → Nat} {sl : Nat → Int32} {ss : Nat → Int32} {sw : Nat → Nat → Int32} {sc : Nat → Nat → Int32} : ∀ (n : Nat) (vec : Nat → Int32) (bc : Int32) (x1 : Int32) (x2 : Int32) (x3 : Int32) (x4 : Int32) (x5 : Int32), fX2_leakiestSet_14 len sz words checks  n vec bc x1 x2 x3 x4 x5 = some z → Go p l e (RM 4) s m args below meth c K A 7 0 0 (MQ below (QR K (some (.int z.1)) (xW K a len sz words checks cnt err z.2.1 z.2.2 pm sl ss sw sc) A) args s 0 0 A) (xW K a len sz words checks cnt err vec bc pm sl ss sw sc) 14 [(0, .ref (a 0)), (1, .int x1), (2, .int x2), (3, .int x3), (4, .int x4), (5, .int x5)] [] := by
  intro n
  induction n with
  | zero => intro _ _ _ _ _ _ _ hf; cases hf
  | succ n ih => intro _ _ _ _ _ _ _ hf; exact WX2_leakiestSet_14 C  ih hf
set_option maxRecDepth 20000 in
set_option maxHeartbeats 2000000 in
theorem WX2_leakiestSet_0 {p : Program} {l : Launch} {e : Env} {s : State} {m : MethodId} {args : Array Value} {below : List Frame} {meth : Method} {c : Code} {K : KK} {A : Nat → Prop} {a : Nat → Nat} (C : Cx p s m args meth c K A cX2_leakiestSet 7 RX2 wsX2_leakiestSet (some .int)) {z : Int32 × (Nat → Int32) × Int32} {len : Int32} {sz : Int32} {words : Nat → Int32} {checks : Nat → Int32} {cnt : Int32} {err : Nat → Int32} {pm : Nat → Nat} {sl : Nat → Int32} {ss : Nat → Int32} {sw : Nat → Nat → Int32} {sc : Nat → Nat → Int32} {vec : Nat → Int32} {bc : Int32} {x1 : Int32} (hf : FX2_leakiestSet_0 len sz words checks  vec bc x1 = some z) : Go p l e (RM 4) s m args below meth c K A 7 0 0 (MQ below (QR K (some (.int z.1)) (xW K a len sz words checks cnt err z.2.1 z.2.2 pm sl ss sw sc) A) args s 0 0 A) (xW K a len sz words checks cnt err vec bc pm sl ss sw sc) 0 [(0, .ref (a 0)), (1, .int x1)] [] := by
  unfold FX2_leakiestSet_0 at hf
  refine go_aload_n C 0 dX2_leakiestSet_0 rfl rfl ?_
  refine call_X2_allPositions C gX2_leakiestSet_X2_allPositions dX2_leakiestSet_1 (by decide) (Nat.le_of_ble_eq_true rfl) hf (fun v3 hf => ?_)
  refine go_istore_n C (lv' := [(0, .ref (a 0)), (1, .int x1), (2, .int v3)]) [1, 2, 0] dX2_leakiestSet_4 rfl (by decide) rfl ?_
  refine go_iconst (v := 0) C dX2_leakiestSet_5 (by decide) ?_
  refine go_istore_n C (lv' := [(0, .ref (a 0)), (1, .int x1), (2, .int v3), (3, .int 0)]) [1, 2, 3, 0] dX2_leakiestSet_6 rfl (by decide) rfl ?_
  refine go_bipush (v := 7) C dX2_leakiestSet_7 (by decide) ?_
  refine go_istore C (lv' := [(0, .ref (a 0)), (1, .int x1), (2, .int v3), (3, .int 0), (4, .int 7)]) [1, 2, 3, 4, 0] dX2_leakiestSet_9 (by decide) rfl ?_
  refine go_iconst (v := 0) C dX2_leakiestSet_11 (by decide) ?_
  refine go_istore C (lv' := [(0, .ref (a 0)), (1, .int x1), (2, .int v3), (3, .int 0), (4, .int 7), (5, .int 0)]) [1, 2, 3, 4, 5, 0] dX2_leakiestSet_12 (by decide) rfl ?_
  exact wX2_leakiestSet_14 C  300 _ _ _ _ _ _ _ hf
set_option maxRecDepth 20000 in
theorem con_X2_leakiestSet (l : Launch) (K : KK) (a : Nat → Nat) {len : Int32} {sz : Int32} {words : Nat → Int32} {checks : Nat → Int32} {cnt : Int32} {err : Nat → Int32} {vec : Nat → Int32} {bc : Int32} {pm : Nat → Nat} {sl : Nat → Int32} {ss : Nat → Int32} {sw : Nat → Nat → Int32} {sc : Nat → Nat → Int32} {x1 : Int32} {z : Int32 × (Nat → Int32) × Int32} (hf : fX2_leakiestSet len sz words checks vec bc x1 = some z) : Con l yX2_leakiestSet wsX2_leakiestSet 4 K [.ref (a 0), .int x1] (xW K a len sz words checks cnt err vec bc pm sl ss sw sc) (some (.int z.1)) (xW K a len sz words checks cnt err z.2.1 z.2.2 pm sl ss sw sc) :=
  con_of (cc := cX2_leakiestSet) (maxL := 7) (ret := (some .int)) (own := RX2) (lv0 := [(0, .ref (a 0)), (1, .int x1)]) (by decide) rfl rfl (Nat.le_of_ble_eq_true rfl) rfl (fun p e s m args below meth c A C => go_lv (lv' := [(0, .ref (a 0)), (1, .int x1)]) [0, 1] rfl (WX2_leakiestSet_0 C hf))
set_option maxRecDepth 20000 in
theorem call_X2_leakiestSet {p : Program} {l : Launch} {e : Env} {s : State} {m : MethodId} {args : Array Value} {below : List Frame} {meth : Method} {c : Code} {K : KK} {A : Nat → Prop} {Q : State → Prop} {cc : ByteArray} {nL : Nat} {Ts : List Cond} {ret : Option FieldType} {pc : Nat} {lv : List (Nat × Value)} {st : List Value} {ix d : Nat} {α : Type} {kk : Int32 × (Nat → Int32) × Int32 → Option α} {y : α} {a : Nat → Nat} {len : Int32} {sz : Int32} {words : Nat → Int32} {checks : Nat → Int32} {cnt : Int32} {err : Nat → Int32} {vec : Nat → Int32} {bc : Int32} {pm : Nat → Nat} {sl : Nat → Int32} {ss : Nat → Int32} {sw : Nat → Nat → Int32} {sc : Nat → Nat → Int32} {q0 : Int32} (C : Cx p s m args meth c K A cc nL RX2 Ts ret) (hG : GoodIn Ts (wsV RX2 ix RX2 yX2_leakiestSet wsX2_leakiestSet)) (hd : decode cc pc = .ok (.invokevirtual ix, 3)) (hdd : 4 < d) (hro : (st.map fun v => v.category).sum ≤ 8) (hf : (fX2_leakiestSet len sz words checks vec bc q0).bind kk = some y) (k : ∀ v, kk v = some y → Go p l e (RM d) s m args below meth c K A nL 0 0 Q (xW K a len sz words checks cnt err v.2.1 v.2.2 pm sl ss sw sc) (pc + 3) lv (.int (v.1) :: st)) : Go p l e (RM d) s m args below meth c K A nL 0 0 Q (xW K a len sz words checks cnt err vec bc pm sl ss sw sc) pc lv (.int q0 :: .ref (a 0) :: st) := by
  obtain ⟨v, hv, hf⟩ := bd_some hf
  exact go_callV_full (ry := (some .int)) (n := 1) (b := a 0) (As := [.int q0]) (rest := st) C (con_X2_leakiestSet l K a hv) hG (by decide) rfl ⟨Nat.succ_le_of_lt hdd, by show 8 + (7 + 11) + 40 * 4 ≤ 40 * d; omega⟩ ⟨Nat.le_refl _, Nat.le_refl _⟩ ⟨0, 2, _, _, rfl, rfl, rfl⟩ rfl rfl hro hd (k v hf)
-- X2_worstLeakage
set_option maxRecDepth 20000 in
set_option maxHeartbeats 2000000 in
theorem WX2_worstLeakage_0 {p : Program} {l : Launch} {e : Env} {s : State} {m : MethodId} {args : Array Value} {below : List Frame} {meth : Method} {c : Code} {K : KK} {A : Nat → Prop} {a : Nat → Nat} (C : Cx p s m args meth c K A cX2_worstLeakage 2 RX2 wsX2_worstLeakage (some .int)) {z : Int32 × (Nat → Int32) × (Nat → Int32) × Int32} {len : Int32} {sz : Int32} {words : Nat → Int32} {checks : Nat → Int32} {cnt : Int32} {pm : Nat → Nat} {sl : Nat → Int32} {ss : Nat → Int32} {sw : Nat → Nat → Int32} {sc : Nat → Nat → Int32} {err : Nat → Int32} {vec : Nat → Int32} {bc : Int32} {x1 : Int32} (hf : FX2_worstLeakage_0 len sz words checks  err vec bc x1 = some z) : Go p l e (RM 5) s m args below meth c K A 2 0 0 (MQ below (QR K (some (.int z.1)) (xW K a len sz words checks cnt z.2.1 z.2.2.1 z.2.2.2 pm sl ss sw sc) A) args s 0 0 A) (xW K a len sz words checks cnt err vec bc pm sl ss sw sc) 0 [(0, .ref (a 0)), (1, .int x1)] [] := by
  unfold FX2_worstLeakage_0 at hf
  refine go_aload_n C 0 dX2_worstLeakage_0 rfl rfl ?_
  refine go_iload_n C 1 dX2_worstLeakage_1 rfl rfl ?_
  refine call_X2_isSize C gX2_worstLeakage_X2_isSize dX2_worstLeakage_2 (by decide) (Nat.le_of_ble_eq_true rfl) hf (fun v1 hf => ?_)
  refine go_c1_ne C (tgt := 15) dX2_worstLeakage_5 (by decide) hf (fun h hf => ?_) (fun h hf => ?_)
  · refine go_aload_n C 0 dX2_worstLeakage_15 rfl rfl ?_
    refine go_aload_n C 0 dX2_worstLeakage_16 rfl rfl ?_
    refine go_iload_n C 1 dX2_worstLeakage_17 rfl rfl ?_
    refine call_X2_leakiestSet C gX2_worstLeakage_X2_leakiestSet dX2_worstLeakage_18 (by decide) (Nat.le_of_ble_eq_true rfl) hf (fun v2 hf => ?_)
    refine call_X2_leakedBits C gX2_worstLeakage_X2_leakedBits dX2_worstLeakage_21 (by decide) (Nat.le_of_ble_eq_true rfl) hf (fun v3 hf => ?_)
    cases hf
    exact go_iret C dX2_worstLeakage_24
  · refine go_aload_n C 0 dX2_worstLeakage_8 rfl rfl ?_
    refine go_bipush (v := (-2)) C dX2_worstLeakage_9 (by decide) ?_
    refine call_X2_fail C gX2_worstLeakage_X2_fail dX2_worstLeakage_11 (by decide) (Nat.le_of_ble_eq_true rfl) hf (fun v4 hf => ?_)
    cases hf
    exact go_iret C dX2_worstLeakage_14
set_option maxRecDepth 20000 in
theorem con_X2_worstLeakage (l : Launch) (K : KK) (a : Nat → Nat) {len : Int32} {sz : Int32} {words : Nat → Int32} {checks : Nat → Int32} {cnt : Int32} {err : Nat → Int32} {vec : Nat → Int32} {bc : Int32} {pm : Nat → Nat} {sl : Nat → Int32} {ss : Nat → Int32} {sw : Nat → Nat → Int32} {sc : Nat → Nat → Int32} {x1 : Int32} {z : Int32 × (Nat → Int32) × (Nat → Int32) × Int32} (hf : fX2_worstLeakage len sz words checks err vec bc x1 = some z) : Con l yX2_worstLeakage wsX2_worstLeakage 5 K [.ref (a 0), .int x1] (xW K a len sz words checks cnt err vec bc pm sl ss sw sc) (some (.int z.1)) (xW K a len sz words checks cnt z.2.1 z.2.2.1 z.2.2.2 pm sl ss sw sc) :=
  con_of (cc := cX2_worstLeakage) (maxL := 2) (ret := (some .int)) (own := RX2) (lv0 := [(0, .ref (a 0)), (1, .int x1)]) (by decide) rfl rfl (Nat.le_of_ble_eq_true rfl) rfl (fun p e s m args below meth c A C => go_lv (lv' := [(0, .ref (a 0)), (1, .int x1)]) [0, 1] rfl (WX2_worstLeakage_0 C hf))
set_option maxRecDepth 20000 in
theorem call_X2_worstLeakage {p : Program} {l : Launch} {e : Env} {s : State} {m : MethodId} {args : Array Value} {below : List Frame} {meth : Method} {c : Code} {K : KK} {A : Nat → Prop} {Q : State → Prop} {cc : ByteArray} {nL : Nat} {Ts : List Cond} {ret : Option FieldType} {pc : Nat} {lv : List (Nat × Value)} {st : List Value} {ix d : Nat} {α : Type} {kk : Int32 × (Nat → Int32) × (Nat → Int32) × Int32 → Option α} {y : α} {a : Nat → Nat} {len : Int32} {sz : Int32} {words : Nat → Int32} {checks : Nat → Int32} {cnt : Int32} {err : Nat → Int32} {vec : Nat → Int32} {bc : Int32} {pm : Nat → Nat} {sl : Nat → Int32} {ss : Nat → Int32} {sw : Nat → Nat → Int32} {sc : Nat → Nat → Int32} {q0 : Int32} (C : Cx p s m args meth c K A cc nL RX2 Ts ret) (hG : GoodIn Ts (wsV RX2 ix RX2 yX2_worstLeakage wsX2_worstLeakage)) (hd : decode cc pc = .ok (.invokevirtual ix, 3)) (hdd : 5 < d) (hro : (st.map fun v => v.category).sum ≤ 8) (hf : (fX2_worstLeakage len sz words checks err vec bc q0).bind kk = some y) (k : ∀ v, kk v = some y → Go p l e (RM d) s m args below meth c K A nL 0 0 Q (xW K a len sz words checks cnt v.2.1 v.2.2.1 v.2.2.2 pm sl ss sw sc) (pc + 3) lv (.int (v.1) :: st)) : Go p l e (RM d) s m args below meth c K A nL 0 0 Q (xW K a len sz words checks cnt err vec bc pm sl ss sw sc) pc lv (.int q0 :: .ref (a 0) :: st) := by
  obtain ⟨v, hv, hf⟩ := bd_some hf
  exact go_callV_full (ry := (some .int)) (n := 1) (b := a 0) (As := [.int q0]) (rest := st) C (con_X2_worstLeakage l K a hv) hG (by decide) rfl ⟨Nat.succ_le_of_lt hdd, by show 8 + (2 + 11) + 40 * 5 ≤ 40 * d; omega⟩ ⟨Nat.le_refl _, Nat.le_refl _⟩ ⟨0, 2, _, _, rfl, rfl, rfl⟩ rfl rfl hro hd (k v hf)
-- X2_worstSet
set_option maxRecDepth 20000 in
set_option maxHeartbeats 2000000 in
theorem WX2_worstSet_0 {p : Program} {l : Launch} {e : Env} {s : State} {m : MethodId} {args : Array Value} {below : List Frame} {meth : Method} {c : Code} {K : KK} {A : Nat → Prop} {a : Nat → Nat} (C : Cx p s m args meth c K A cX2_worstSet 2 RX2 wsX2_worstSet (some .int)) {z : Int32 × (Nat → Int32) × (Nat → Int32) × Int32} {len : Int32} {sz : Int32} {words : Nat → Int32} {checks : Nat → Int32} {cnt : Int32} {pm : Nat → Nat} {sl : Nat → Int32} {ss : Nat → Int32} {sw : Nat → Nat → Int32} {sc : Nat → Nat → Int32} {err : Nat → Int32} {vec : Nat → Int32} {bc : Int32} {x1 : Int32} (hf : FX2_worstSet_0 len sz words checks  err vec bc x1 = some z) : Go p l e (RM 5) s m args below meth c K A 2 0 0 (MQ below (QR K (some (.int z.1)) (xW K a len sz words checks cnt z.2.1 z.2.2.1 z.2.2.2 pm sl ss sw sc) A) args s 0 0 A) (xW K a len sz words checks cnt err vec bc pm sl ss sw sc) 0 [(0, .ref (a 0)), (1, .int x1)] [] := by
  unfold FX2_worstSet_0 at hf
  refine go_aload_n C 0 dX2_worstSet_0 rfl rfl ?_
  refine go_iload_n C 1 dX2_worstSet_1 rfl rfl ?_
  refine call_X2_isSize C gX2_worstSet_X2_isSize dX2_worstSet_2 (by decide) (Nat.le_of_ble_eq_true rfl) hf (fun v1 hf => ?_)
  refine go_c1_ne C (tgt := 15) dX2_worstSet_5 (by decide) hf (fun h hf => ?_) (fun h hf => ?_)
  · refine go_aload_n C 0 dX2_worstSet_15 rfl rfl ?_
    refine go_iload_n C 1 dX2_worstSet_16 rfl rfl ?_
    refine call_X2_leakiestSet C gX2_worstSet_X2_leakiestSet dX2_worstSet_17 (by decide) (Nat.le_of_ble_eq_true rfl) hf (fun v2 hf => ?_)
    cases hf
    exact go_iret C dX2_worstSet_20
  · refine go_aload_n C 0 dX2_worstSet_8 rfl rfl ?_
    refine go_bipush (v := (-2)) C dX2_worstSet_9 (by decide) ?_
    refine call_X2_fail C gX2_worstSet_X2_fail dX2_worstSet_11 (by decide) (Nat.le_of_ble_eq_true rfl) hf (fun v3 hf => ?_)
    cases hf
    exact go_iret C dX2_worstSet_14
set_option maxRecDepth 20000 in
theorem con_X2_worstSet (l : Launch) (K : KK) (a : Nat → Nat) {len : Int32} {sz : Int32} {words : Nat → Int32} {checks : Nat → Int32} {cnt : Int32} {err : Nat → Int32} {vec : Nat → Int32} {bc : Int32} {pm : Nat → Nat} {sl : Nat → Int32} {ss : Nat → Int32} {sw : Nat → Nat → Int32} {sc : Nat → Nat → Int32} {x1 : Int32} {z : Int32 × (Nat → Int32) × (Nat → Int32) × Int32} (hf : fX2_worstSet len sz words checks err vec bc x1 = some z) : Con l yX2_worstSet wsX2_worstSet 5 K [.ref (a 0), .int x1] (xW K a len sz words checks cnt err vec bc pm sl ss sw sc) (some (.int z.1)) (xW K a len sz words checks cnt z.2.1 z.2.2.1 z.2.2.2 pm sl ss sw sc) :=
  con_of (cc := cX2_worstSet) (maxL := 2) (ret := (some .int)) (own := RX2) (lv0 := [(0, .ref (a 0)), (1, .int x1)]) (by decide) rfl rfl (Nat.le_of_ble_eq_true rfl) rfl (fun p e s m args below meth c A C => go_lv (lv' := [(0, .ref (a 0)), (1, .int x1)]) [0, 1] rfl (WX2_worstSet_0 C hf))
set_option maxRecDepth 20000 in
theorem call_X2_worstSet {p : Program} {l : Launch} {e : Env} {s : State} {m : MethodId} {args : Array Value} {below : List Frame} {meth : Method} {c : Code} {K : KK} {A : Nat → Prop} {Q : State → Prop} {cc : ByteArray} {nL : Nat} {Ts : List Cond} {ret : Option FieldType} {pc : Nat} {lv : List (Nat × Value)} {st : List Value} {ix d : Nat} {α : Type} {kk : Int32 × (Nat → Int32) × (Nat → Int32) × Int32 → Option α} {y : α} {a : Nat → Nat} {len : Int32} {sz : Int32} {words : Nat → Int32} {checks : Nat → Int32} {cnt : Int32} {err : Nat → Int32} {vec : Nat → Int32} {bc : Int32} {pm : Nat → Nat} {sl : Nat → Int32} {ss : Nat → Int32} {sw : Nat → Nat → Int32} {sc : Nat → Nat → Int32} {q0 : Int32} (C : Cx p s m args meth c K A cc nL RX2 Ts ret) (hG : GoodIn Ts (wsV RX2 ix RX2 yX2_worstSet wsX2_worstSet)) (hd : decode cc pc = .ok (.invokevirtual ix, 3)) (hdd : 5 < d) (hro : (st.map fun v => v.category).sum ≤ 8) (hf : (fX2_worstSet len sz words checks err vec bc q0).bind kk = some y) (k : ∀ v, kk v = some y → Go p l e (RM d) s m args below meth c K A nL 0 0 Q (xW K a len sz words checks cnt v.2.1 v.2.2.1 v.2.2.2 pm sl ss sw sc) (pc + 3) lv (.int (v.1) :: st)) : Go p l e (RM d) s m args below meth c K A nL 0 0 Q (xW K a len sz words checks cnt err vec bc pm sl ss sw sc) pc lv (.int q0 :: .ref (a 0) :: st) := by
  obtain ⟨v, hv, hf⟩ := bd_some hf
  exact go_callV_full (ry := (some .int)) (n := 1) (b := a 0) (As := [.int q0]) (rest := st) C (con_X2_worstSet l K a hv) hG (by decide) rfl ⟨Nat.succ_le_of_lt hdd, by show 8 + (2 + 11) + 40 * 5 ≤ 40 * d; omega⟩ ⟨Nat.le_refl _, Nat.le_refl _⟩ ⟨0, 2, _, _, rfl, rfl, rfl⟩ rfl rfl hro hd (k v hf)
-- X2_leastSizeLeaking
set_option maxRecDepth 20000 in
set_option maxHeartbeats 2000000 in
theorem WX2_leastSizeLeaking_58 {p : Program} {l : Launch} {e : Env} {s : State} {m : MethodId} {args : Array Value} {below : List Frame} {meth : Method} {c : Code} {K : KK} {A : Nat → Prop} {a : Nat → Nat} (C : Cx p s m args meth c K A cX2_leastSizeLeaking 7 RX2 wsX2_leastSizeLeaking (some .int)) {z : Int32 × (Nat → Int32) × Int32} {len : Int32} {sz : Int32} {words : Nat → Int32} {checks : Nat → Int32} {cnt : Int32} {err : Nat → Int32} {pm : Nat → Nat} {sl : Nat → Int32} {ss : Nat → Int32} {sw : Nat → Nat → Int32} {sc : Nat → Nat → Int32} {r20 : (Nat → Int32) → (Int32) → Int32 → Int32 → Int32 → Int32 → Option (Int32 × (Nat → Int32) × Int32)} {vec : Nat → Int32} {bc : Int32} {x2 : Int32} {x3 : Int32} {x4 : Int32} {x5 : Int32} (hr20 : ∀ (vec : Nat → Int32) (bc : Int32) (x2 : Int32) (x3 : Int32) (x4 : Int32) (x5 : Int32), r20 vec bc x2 x3 x4 x5 = some z → Go p l e (RM 4) s m args below meth c K A 7 0 0 (MQ below (QR K (some (.int z.1)) (xW K a len sz words checks cnt err z.2.1 z.2.2 pm sl ss sw sc) A) args s 0 0 A) (xW K a len sz words checks cnt err vec bc pm sl ss sw sc) 20 [(0, .ref (a 0)), (2, .int x2), (3, .int x3), (4, .int x4), (5, .int x5)] []) (hf : FX2_leastSizeLeaking_58 len sz words checks r20 vec bc x2 x3 x4 x5 = some z) : Go p l e (RM 4) s m args below meth c K A 7 0 0 (MQ below (QR K (some (.int z.1)) (xW K a len sz words checks cnt err z.2.1 z.2.2 pm sl ss sw sc) A) args s 0 0 A) (xW K a len sz words checks cnt err vec bc pm sl ss sw sc) 58 [(0, .ref (a 0)), (2, .int x2), (3, .int x3), (4, .int x4), (5, .int x5)] [] := by
  unfold FX2_leastSizeLeaking_58 at hf
  refine go_iinc C (v := x5 + 1) (lv' := [(0, .ref (a 0)), (2, .int x2), (3, .int x3), (4, .int x4), (5, .int (x5 + 1))]) 4 [1, 2, 3, 4, 0] dX2_leastSizeLeaking_58 rfl rfl (by decide) rfl ?_
  refine go_goto C (tgt := 20) dX2_leastSizeLeaking_61 (by decide) ?_
  exact hr20 _ _ _ _ _ _ hf
set_option maxRecDepth 20000 in
set_option maxHeartbeats 2000000 in
theorem WX2_leastSizeLeaking_77 {p : Program} {l : Launch} {e : Env} {s : State} {m : MethodId} {args : Array Value} {below : List Frame} {meth : Method} {c : Code} {K : KK} {A : Nat → Prop} {a : Nat → Nat} (C : Cx p s m args meth c K A cX2_leastSizeLeaking 7 RX2 wsX2_leastSizeLeaking (some .int)) {z : Int32 × (Nat → Int32) × Int32} {len : Int32} {sz : Int32} {words : Nat → Int32} {checks : Nat → Int32} {cnt : Int32} {err : Nat → Int32} {pm : Nat → Nat} {sl : Nat → Int32} {ss : Nat → Int32} {sw : Nat → Nat → Int32} {sc : Nat → Nat → Int32} {vec : Nat → Int32} {bc : Int32} {t0 : Int32} (hf : FX2_leastSizeLeaking_77 len sz words checks  vec bc t0 = some z) : Go p l e (RM 4) s m args below meth c K A 7 0 0 (MQ below (QR K (some (.int z.1)) (xW K a len sz words checks cnt err z.2.1 z.2.2 pm sl ss sw sc) A) args s 0 0 A) (xW K a len sz words checks cnt err vec bc pm sl ss sw sc) 77 [] [.int t0] := by
  unfold FX2_leastSizeLeaking_77 at hf
  cases hf
  exact go_iret C dX2_leastSizeLeaking_77
set_option maxRecDepth 20000 in
set_option maxHeartbeats 2000000 in
theorem WX2_leastSizeLeaking_20 {p : Program} {l : Launch} {e : Env} {s : State} {m : MethodId} {args : Array Value} {below : List Frame} {meth : Method} {c : Code} {K : KK} {A : Nat → Prop} {a : Nat → Nat} (C : Cx p s m args meth c K A cX2_leastSizeLeaking 7 RX2 wsX2_leastSizeLeaking (some .int)) {z : Int32 × (Nat → Int32) × Int32} {len : Int32} {sz : Int32} {words : Nat → Int32} {checks : Nat → Int32} {cnt : Int32} {err : Nat → Int32} {pm : Nat → Nat} {sl : Nat → Int32} {ss : Nat → Int32} {sw : Nat → Nat → Int32} {sc : Nat → Nat → Int32} {r20 : (Nat → Int32) → (Int32) → Int32 → Int32 → Int32 → Int32 → Option (Int32 × (Nat → Int32) × Int32)} {vec : Nat → Int32} {bc : Int32} {x2 : Int32} {x3 : Int32} {x4 : Int32} {x5 : Int32} (hr20 : ∀ (vec : Nat → Int32) (bc : Int32) (x2 : Int32) (x3 : Int32) (x4 : Int32) (x5 : Int32), r20 vec bc x2 x3 x4 x5 = some z → Go p l e (RM 4) s m args below meth c K A 7 0 0 (MQ below (QR K (some (.int z.1)) (xW K a len sz words checks cnt err z.2.1 z.2.2 pm sl ss sw sc) A) args s 0 0 A) (xW K a len sz words checks cnt err vec bc pm sl ss sw sc) 20 [(0, .ref (a 0)), (2, .int x2), (3, .int x3), (4, .int x4), (5, .int x5)] []) (hf : FX2_leastSizeLeaking_20 len sz words checks r20 vec bc x2 x3 x4 x5 = some z) : Go p l e (RM 4) s m args below meth c K A 7 0 0 (MQ below (QR K (some (.int z.1)) (xW K a len sz words checks cnt err z.2.1 z.2.2 pm sl ss sw sc) A) args s 0 0 A) (xW K a len sz words checks cnt err vec bc pm sl ss sw sc) 20 [(0, .ref (a 0)), (2, .int x2), (3, .int x3), (4, .int x4), (5, .int x5)] [] := by
  unfold FX2_leastSizeLeaking_20 at hf
  refine go_iload C 4 dX2_leastSizeLeaking_20 rfl ?_
  refine go_iload_n C 1 dX2_leastSizeLeaking_22 rfl rfl ?_
  refine go_c2_gt C (tgt := 64) dX2_leastSizeLeaking_23 (by decide) hf (fun h hf => ?_) (fun h hf => ?_)
  · refine go_iload C 3 dX2_leastSizeLeaking_64 rfl ?_
    refine go_bipush (v := 8) C dX2_leastSizeLeaking_66 (by decide) ?_
    refine go_c2_le C (tgt := 75) dX2_leastSizeLeaking_68 (by decide) hf (fun h hf => ?_) (fun h hf => ?_)
    · refine go_iload C 3 dX2_leastSizeLeaking_75 rfl ?_
      refine go_lv (lv' := []) [] rfl ?_
      exact WX2_leastSizeLeaking_77 C  hf
    · refine go_iconst (v := (-1)) C dX2_leastSizeLeaking_71 (by decide) ?_
      refine go_goto C (tgt := 77) dX2_leastSizeLeaking_72 (by decide) ?_
      refine go_lv (lv' := []) [] rfl ?_
      exact WX2_leastSizeLeaking_77 C  hf
  · refine go_iload C 4 dX2_leastSizeLeaking_26 rfl ?_
    refine call_J6_bitCount_0f7a4 C gX2_leastSizeLeaking_J6_bitCount_0f7a4 dX2_leastSizeLeaking_28 (by decide) (Nat.le_of_ble_eq_true rfl) hf (fun v1 hf => ?_)
    refine go_istore C (lv' := [(0, .ref (a 0)), (2, .int x2), (3, .int x3), (4, .int x4), (5, .int x5), (6, .int v1)]) [1, 2, 3, 4, 5, 0] dX2_leastSizeLeaking_31 (by decide) rfl ?_
    refine go_iload C 5 dX2_leastSizeLeaking_33 rfl ?_
    refine go_iload C 3 dX2_leastSizeLeaking_35 rfl ?_
    refine go_c2_ge C (tgt := 58) dX2_leastSizeLeaking_37 (by decide) hf (fun h hf => ?_) (fun h hf => ?_)
    · refine go_lv (lv' := [(0, .ref (a 0)), (2, .int x2), (3, .int x3), (4, .int x4), (5, .int x5)]) [0, 1, 2, 3, 4] rfl ?_
      exact WX2_leastSizeLeaking_58 C hr20 hf
    · refine go_aload_n C 0 dX2_leastSizeLeaking_40 rfl rfl ?_
      refine go_iload_n C 1 dX2_leastSizeLeaking_41 rfl rfl ?_
      refine go_iload C 4 dX2_leastSizeLeaking_42 rfl ?_
      refine go_iconst (v := (-1)) C dX2_leastSizeLeaking_44 (by decide) ?_
      refine go_ixor C dX2_leastSizeLeaking_45 ?_
      refine go_iand C dX2_leastSizeLeaking_46 ?_
      refine call_X2_hiddenBits C gX2_leastSizeLeaking_X2_hiddenBits dX2_leastSizeLeaking_47 (by decide) (Nat.le_of_ble_eq_true rfl) hf (fun v2 hf => ?_)
      refine go_iload_n C 2 dX2_leastSizeLeaking_50 rfl rfl ?_
      refine go_c2_gt C (tgt := 58) dX2_leastSizeLeaking_51 (by decide) hf (fun h hf => ?_) (fun h hf => ?_)
      · refine go_lv (lv' := [(0, .ref (a 0)), (2, .int x2), (3, .int x3), (4, .int x4), (5, .int x5)]) [0, 1, 2, 3, 4] rfl ?_
        exact WX2_leastSizeLeaking_58 C hr20 hf
      · refine go_iload C 5 dX2_leastSizeLeaking_54 rfl ?_
        refine go_istore C (lv' := [(0, .ref (a 0)), (2, .int x2), (3, .int x3), (4, .int v1), (5, .int x5), (6, .int v1)]) [1, 2, 3, 0, 4, 5] dX2_leastSizeLeaking_56 (by decide) rfl ?_
        refine go_lv (lv' := [(0, .ref (a 0)), (2, .int x2), (3, .int x3), (4, .int v1), (5, .int x5)]) [0, 1, 2, 3, 4] rfl ?_
        exact WX2_leastSizeLeaking_58 C hr20 hf
theorem wX2_leastSizeLeaking_20 {p : Program} {l : Launch} {e : Env} {s : State} {m : MethodId} {args : Array Value} {below : List Frame} {meth : Method} {c : Code} {K : KK} {A : Nat → Prop} {a : Nat → Nat} (C : Cx p s m args meth c K A cX2_leastSizeLeaking 7 RX2 wsX2_leastSizeLeaking (some .int)) {z : Int32 × (Nat → Int32) × Int32} {len : Int32} {sz : Int32} {words : Nat → Int32} {checks : Nat → Int32} {cnt : Int32} {err : Nat → Int32} {pm : Nat → Nat} {sl : Nat → Int32} {ss : Nat → Int32} {sw : Nat → Nat → Int32} {sc : Nat → Nat → Int32} : ∀ (n : Nat) (vec : Nat → Int32) (bc : Int32) (x2 : Int32) (x3 : Int32) (x4 : Int32) (x5 : Int32), fX2_leastSizeLeaking_20 len sz words checks  n vec bc x2 x3 x4 x5 = some z → Go p l e (RM 4) s m args below meth c K A 7 0 0 (MQ below (QR K (some (.int z.1)) (xW K a len sz words checks cnt err z.2.1 z.2.2 pm sl ss sw sc) A) args s 0 0 A) (xW K a len sz words checks cnt err vec bc pm sl ss sw sc) 20 [(0, .ref (a 0)), (2, .int x2), (3, .int x3), (4, .int x4), (5, .int x5)] [] := by
  intro n
  induction n with
  | zero => intro _ _ _ _ _ _ hf; cases hf
  | succ n ih => intro _ _ _ _ _ _ hf; exact WX2_leastSizeLeaking_20 C  ih hf
set_option maxRecDepth 20000 in
set_option maxHeartbeats 2000000 in
theorem WX2_leastSizeLeaking_0 {p : Program} {l : Launch} {e : Env} {s : State} {m : MethodId} {args : Array Value} {below : List Frame} {meth : Method} {c : Code} {K : KK} {A : Nat → Prop} {a : Nat → Nat} (C : Cx p s m args meth c K A cX2_leastSizeLeaking 7 RX2 wsX2_leastSizeLeaking (some .int)) {z : Int32 × (Nat → Int32) × Int32} {len : Int32} {sz : Int32} {words : Nat → Int32} {checks : Nat → Int32} {cnt : Int32} {err : Nat → Int32} {pm : Nat → Nat} {sl : Nat → Int32} {ss : Nat → Int32} {sw : Nat → Nat → Int32} {sc : Nat → Nat → Int32} {vec : Nat → Int32} {bc : Int32} {x1 : Int32} (hf : FX2_leastSizeLeaking_0 len sz words checks  vec bc x1 = some z) : Go p l e (RM 4) s m args below meth c K A 7 0 0 (MQ below (QR K (some (.int z.1)) (xW K a len sz words checks cnt err z.2.1 z.2.2 pm sl ss sw sc) A) args s 0 0 A) (xW K a len sz words checks cnt err vec bc pm sl ss sw sc) 0 [(0, .ref (a 0)), (1, .int x1)] [] := by
  unfold FX2_leastSizeLeaking_0 at hf
  refine go_aload_n C 0 dX2_leastSizeLeaking_0 rfl rfl ?_
  refine call_X2_allPositions C gX2_leastSizeLeaking_X2_allPositions dX2_leastSizeLeaking_1 (by decide) (Nat.le_of_ble_eq_true rfl) hf (fun v3 hf => ?_)
  refine go_istore_n C (lv' := [(0, .ref (a 0)), (1, .int x1), (2, .int v3)]) [1, 2, 0] dX2_leastSizeLeaking_4 rfl (by decide) rfl ?_
  refine go_aload_n C 0 dX2_leastSizeLeaking_5 rfl rfl ?_
  refine go_iload_n C 2 dX2_leastSizeLeaking_6 rfl rfl ?_
  refine call_X2_hiddenBits C gX2_leastSizeLeaking_X2_hiddenBits dX2_leastSizeLeaking_7 (by decide) (Nat.le_of_ble_eq_true rfl) hf (fun v4 hf => ?_)
  refine go_iload_n C 1 dX2_leastSizeLeaking_10 rfl rfl ?_
  refine go_isub C dX2_leastSizeLeaking_11 ?_
  refine go_istore_n C (lv' := [(0, .ref (a 0)), (1, .int x1), (2, .int v3), (3, .int (v4.1 - x1))]) [1, 2, 3, 0] dX2_leastSizeLeaking_12 rfl (by decide) rfl ?_
  refine go_bipush (v := 9) C dX2_leastSizeLeaking_13 (by decide) ?_
  refine go_istore C (lv' := [(0, .ref (a 0)), (1, .int x1), (2, .int v3), (3, .int (v4.1 - x1)), (4, .int 9)]) [1, 2, 3, 4, 0] dX2_leastSizeLeaking_15 (by decide) rfl ?_
  refine go_iconst (v := 0) C dX2_leastSizeLeaking_17 (by decide) ?_
  refine go_istore C (lv' := [(0, .ref (a 0)), (1, .int x1), (2, .int v3), (3, .int (v4.1 - x1)), (4, .int 9), (5, .int 0)]) [1, 2, 3, 4, 5, 0] dX2_leastSizeLeaking_18 (by decide) rfl ?_
  refine go_lv (lv' := [(0, .ref (a 0)), (2, .int v3), (3, .int (v4.1 - x1)), (4, .int 9), (5, .int 0)]) [0, 2, 3, 4, 5] rfl ?_
  exact wX2_leastSizeLeaking_20 C  300 _ _ _ _ _ _ hf
set_option maxRecDepth 20000 in
theorem con_X2_leastSizeLeaking (l : Launch) (K : KK) (a : Nat → Nat) {len : Int32} {sz : Int32} {words : Nat → Int32} {checks : Nat → Int32} {cnt : Int32} {err : Nat → Int32} {vec : Nat → Int32} {bc : Int32} {pm : Nat → Nat} {sl : Nat → Int32} {ss : Nat → Int32} {sw : Nat → Nat → Int32} {sc : Nat → Nat → Int32} {x1 : Int32} {z : Int32 × (Nat → Int32) × Int32} (hf : fX2_leastSizeLeaking len sz words checks vec bc x1 = some z) : Con l yX2_leastSizeLeaking wsX2_leastSizeLeaking 4 K [.ref (a 0), .int x1] (xW K a len sz words checks cnt err vec bc pm sl ss sw sc) (some (.int z.1)) (xW K a len sz words checks cnt err z.2.1 z.2.2 pm sl ss sw sc) :=
  con_of (cc := cX2_leastSizeLeaking) (maxL := 7) (ret := (some .int)) (own := RX2) (lv0 := [(0, .ref (a 0)), (1, .int x1)]) (by decide) rfl rfl (Nat.le_of_ble_eq_true rfl) rfl (fun p e s m args below meth c A C => go_lv (lv' := [(0, .ref (a 0)), (1, .int x1)]) [0, 1] rfl (WX2_leastSizeLeaking_0 C hf))
set_option maxRecDepth 20000 in
theorem call_X2_leastSizeLeaking {p : Program} {l : Launch} {e : Env} {s : State} {m : MethodId} {args : Array Value} {below : List Frame} {meth : Method} {c : Code} {K : KK} {A : Nat → Prop} {Q : State → Prop} {cc : ByteArray} {nL : Nat} {Ts : List Cond} {ret : Option FieldType} {pc : Nat} {lv : List (Nat × Value)} {st : List Value} {ix d : Nat} {α : Type} {kk : Int32 × (Nat → Int32) × Int32 → Option α} {y : α} {a : Nat → Nat} {len : Int32} {sz : Int32} {words : Nat → Int32} {checks : Nat → Int32} {cnt : Int32} {err : Nat → Int32} {vec : Nat → Int32} {bc : Int32} {pm : Nat → Nat} {sl : Nat → Int32} {ss : Nat → Int32} {sw : Nat → Nat → Int32} {sc : Nat → Nat → Int32} {q0 : Int32} (C : Cx p s m args meth c K A cc nL RX2 Ts ret) (hG : GoodIn Ts (wsV RX2 ix RX2 yX2_leastSizeLeaking wsX2_leastSizeLeaking)) (hd : decode cc pc = .ok (.invokevirtual ix, 3)) (hdd : 4 < d) (hro : (st.map fun v => v.category).sum ≤ 8) (hf : (fX2_leastSizeLeaking len sz words checks vec bc q0).bind kk = some y) (k : ∀ v, kk v = some y → Go p l e (RM d) s m args below meth c K A nL 0 0 Q (xW K a len sz words checks cnt err v.2.1 v.2.2 pm sl ss sw sc) (pc + 3) lv (.int (v.1) :: st)) : Go p l e (RM d) s m args below meth c K A nL 0 0 Q (xW K a len sz words checks cnt err vec bc pm sl ss sw sc) pc lv (.int q0 :: .ref (a 0) :: st) := by
  obtain ⟨v, hv, hf⟩ := bd_some hf
  exact go_callV_full (ry := (some .int)) (n := 1) (b := a 0) (As := [.int q0]) (rest := st) C (con_X2_leastSizeLeaking l K a hv) hG (by decide) rfl ⟨Nat.succ_le_of_lt hdd, by show 8 + (7 + 11) + 40 * 4 ≤ 40 * d; omega⟩ ⟨Nat.le_refl _, Nat.le_refl _⟩ ⟨0, 2, _, _, rfl, rfl, rfl⟩ rfl rfl hro hd (k v hf)
-- X2_threshold
theorem iX2_threshold_1 : ∀ w ∈ wsX10, w ∈ wsX2_threshold := by decide +kernel
theorem iX2_threshold_2 : ∀ w ∈ wsX20, w ∈ wsX2_threshold := by decide +kernel
theorem kX2_threshold_12 : Cond.fieldLink RX2 12 "CosetCoder" "state" "LCosetCoder$State;" ∈ wsX2_threshold := by decide +kernel
set_option maxRecDepth 20000 in
set_option maxHeartbeats 2000000 in
theorem WX2_threshold_24 {p : Program} {l : Launch} {e : Env} {s : State} {m : MethodId} {args : Array Value} {below : List Frame} {meth : Method} {c : Code} {K : KK} {A : Nat → Prop} {a : Nat → Nat} (C : Cx p s m args meth c K A cX2_threshold 2 RX2 wsX2_threshold (some .int)) {z : Int32 × (Nat → Int32) × Int32} {len : Int32} {sz : Int32} {words : Nat → Int32} {checks : Nat → Int32} {cnt : Int32} {err : Nat → Int32} {pm : Nat → Nat} {sl : Nat → Int32} {ss : Nat → Int32} {sw : Nat → Nat → Int32} {sc : Nat → Nat → Int32} {vec : Nat → Int32} {bc : Int32} {t0 : Int32} (hf : FX2_threshold_24 len sz words checks  vec bc t0 = some z) : Go p l e (RM 5) s m args below meth c K A 2 0 0 (MQ below (QR K (some (.int z.1)) (xW K a len sz words checks cnt err z.2.1 z.2.2 pm sl ss sw sc) A) args s 0 0 A) (xW K a len sz words checks cnt err vec bc pm sl ss sw sc) 24 [] [.int t0] := by
  unfold FX2_threshold_24 at hf
  cases hf
  exact go_iret C dX2_threshold_24
set_option maxRecDepth 20000 in
set_option maxHeartbeats 2000000 in
theorem WX2_threshold_0 {p : Program} {l : Launch} {e : Env} {s : State} {m : MethodId} {args : Array Value} {below : List Frame} {meth : Method} {c : Code} {K : KK} {A : Nat → Prop} {a : Nat → Nat} (C : Cx p s m args meth c K A cX2_threshold 2 RX2 wsX2_threshold (some .int)) {z : Int32 × (Nat → Int32) × Int32} {len : Int32} {sz : Int32} {words : Nat → Int32} {checks : Nat → Int32} {cnt : Int32} {err : Nat → Int32} {pm : Nat → Nat} {sl : Nat → Int32} {ss : Nat → Int32} {sw : Nat → Nat → Int32} {sc : Nat → Nat → Int32} {vec : Nat → Int32} {bc : Int32} (hf : FX2_threshold_0 len sz words checks  vec bc = some z) : Go p l e (RM 5) s m args below meth c K A 2 0 0 (MQ below (QR K (some (.int z.1)) (xW K a len sz words checks cnt err z.2.1 z.2.2 pm sl ss sw sc) A) args s 0 0 A) (xW K a len sz words checks cnt err vec bc pm sl ss sw sc) 0 [(0, .ref (a 0))] [] := by
  unfold FX2_threshold_0 at hf
  refine go_aload_n C 0 dX2_threshold_0 rfl rfl ?_
  refine go_iconst (v := 1) C dX2_threshold_1 (by decide) ?_
  refine call_X2_leastSizeLeaking C gX2_threshold_X2_leastSizeLeaking dX2_threshold_2 (by decide) (Nat.le_of_ble_eq_true rfl) hf (fun v1 hf => ?_)
  refine go_istore_n C (lv' := [(0, .ref (a 0)), (1, .int v1.1)]) [1, 0] dX2_threshold_5 rfl (by decide) rfl ?_
  refine go_iload_n C 1 dX2_threshold_6 rfl rfl ?_
  refine go_iconst (v := (-1)) C dX2_threshold_7 (by decide) ?_
  refine go_c2_ne C (tgt := 21) dX2_threshold_8 (by decide) hf (fun h hf => ?_) (fun h hf => ?_)
  · refine go_iload_n C 1 dX2_threshold_21 rfl rfl ?_
    refine go_iconst (v := 1) C dX2_threshold_22 (by decide) ?_
    refine go_isub C dX2_threshold_23 ?_
    refine go_lv (lv' := []) [] rfl ?_
    exact WX2_threshold_24 C  hf
  · refine go_aload_n C 0 dX2_threshold_11 rfl rfl ?_
    refine gX_get_state C iX2_threshold_2 kX2_threshold_12 dX2_threshold_12 ?_
    refine gX_get_n_length C iX2_threshold_1 dX2_threshold_15 ?_
    refine go_goto C (tgt := 24) dX2_threshold_18 (by decide) ?_
    refine go_lv (lv' := []) [] rfl ?_
    exact WX2_threshold_24 C  hf
set_option maxRecDepth 20000 in
theorem con_X2_threshold (l : Launch) (K : KK) (a : Nat → Nat) {len : Int32} {sz : Int32} {words : Nat → Int32} {checks : Nat → Int32} {cnt : Int32} {err : Nat → Int32} {vec : Nat → Int32} {bc : Int32} {pm : Nat → Nat} {sl : Nat → Int32} {ss : Nat → Int32} {sw : Nat → Nat → Int32} {sc : Nat → Nat → Int32} {z : Int32 × (Nat → Int32) × Int32} (hf : fX2_threshold len sz words checks vec bc = some z) : Con l yX2_threshold wsX2_threshold 5 K [.ref (a 0)] (xW K a len sz words checks cnt err vec bc pm sl ss sw sc) (some (.int z.1)) (xW K a len sz words checks cnt err z.2.1 z.2.2 pm sl ss sw sc) :=
  con_of (cc := cX2_threshold) (maxL := 2) (ret := (some .int)) (own := RX2) (lv0 := [(0, .ref (a 0))]) (by decide) rfl rfl (Nat.le_of_ble_eq_true rfl) rfl (fun p e s m args below meth c A C => go_lv (lv' := [(0, .ref (a 0))]) [0] rfl (WX2_threshold_0 C hf))
set_option maxRecDepth 20000 in
theorem call_X2_threshold {p : Program} {l : Launch} {e : Env} {s : State} {m : MethodId} {args : Array Value} {below : List Frame} {meth : Method} {c : Code} {K : KK} {A : Nat → Prop} {Q : State → Prop} {cc : ByteArray} {nL : Nat} {Ts : List Cond} {ret : Option FieldType} {pc : Nat} {lv : List (Nat × Value)} {st : List Value} {ix d : Nat} {α : Type} {kk : Int32 × (Nat → Int32) × Int32 → Option α} {y : α} {a : Nat → Nat} {len : Int32} {sz : Int32} {words : Nat → Int32} {checks : Nat → Int32} {cnt : Int32} {err : Nat → Int32} {vec : Nat → Int32} {bc : Int32} {pm : Nat → Nat} {sl : Nat → Int32} {ss : Nat → Int32} {sw : Nat → Nat → Int32} {sc : Nat → Nat → Int32} (C : Cx p s m args meth c K A cc nL RX2 Ts ret) (hG : GoodIn Ts (wsV RX2 ix RX2 yX2_threshold wsX2_threshold)) (hd : decode cc pc = .ok (.invokevirtual ix, 3)) (hdd : 5 < d) (hro : (st.map fun v => v.category).sum ≤ 8) (hf : (fX2_threshold len sz words checks vec bc).bind kk = some y) (k : ∀ v, kk v = some y → Go p l e (RM d) s m args below meth c K A nL 0 0 Q (xW K a len sz words checks cnt err v.2.1 v.2.2 pm sl ss sw sc) (pc + 3) lv (.int (v.1) :: st)) : Go p l e (RM d) s m args below meth c K A nL 0 0 Q (xW K a len sz words checks cnt err vec bc pm sl ss sw sc) pc lv (.ref (a 0) :: st) := by
  obtain ⟨v, hv, hf⟩ := bd_some hf
  exact go_callV_full (ry := (some .int)) (n := 0) (b := a 0) (As := []) (rest := st) C (con_X2_threshold l K a hv) hG (by decide) rfl ⟨Nat.succ_le_of_lt hdd, by show 8 + (2 + 11) + 40 * 5 ≤ 40 * d; omega⟩ ⟨Nat.le_refl _, Nat.le_refl _⟩ ⟨0, 2, _, _, rfl, rfl, rfl⟩ rfl rfl hro hd (k v hf)
-- X2_leastSize
set_option maxRecDepth 20000 in
set_option maxHeartbeats 2000000 in
theorem WX2_leastSize_11 {p : Program} {l : Launch} {e : Env} {s : State} {m : MethodId} {args : Array Value} {below : List Frame} {meth : Method} {c : Code} {K : KK} {A : Nat → Prop} {a : Nat → Nat} (C : Cx p s m args meth c K A cX2_leastSize 2 RX2 wsX2_leastSize (some .int)) {z : Int32 × (Nat → Int32) × (Nat → Int32) × Int32} {len : Int32} {sz : Int32} {words : Nat → Int32} {checks : Nat → Int32} {cnt : Int32} {pm : Nat → Nat} {sl : Nat → Int32} {ss : Nat → Int32} {sw : Nat → Nat → Int32} {sc : Nat → Nat → Int32} {err : Nat → Int32} {vec : Nat → Int32} {bc : Int32} (hf : FX2_leastSize_11 len sz words checks  err vec bc = some z) : Go p l e (RM 5) s m args below meth c K A 2 0 0 (MQ below (QR K (some (.int z.1)) (xW K a len sz words checks cnt z.2.1 z.2.2.1 z.2.2.2 pm sl ss sw sc) A) args s 0 0 A) (xW K a len sz words checks cnt err vec bc pm sl ss sw sc) 11 [(0, .ref (a 0))] [] := by
  unfold FX2_leastSize_11 at hf
  refine go_aload_n C 0 dX2_leastSize_11 rfl rfl ?_
  refine go_bipush (v := (-2)) C dX2_leastSize_12 (by decide) ?_
  refine call_X2_fail C gX2_leastSize_X2_fail dX2_leastSize_14 (by decide) (Nat.le_of_ble_eq_true rfl) hf (fun v1 hf => ?_)
  cases hf
  exact go_iret C dX2_leastSize_17
set_option maxRecDepth 20000 in
set_option maxHeartbeats 2000000 in
theorem WX2_leastSize_0 {p : Program} {l : Launch} {e : Env} {s : State} {m : MethodId} {args : Array Value} {below : List Frame} {meth : Method} {c : Code} {K : KK} {A : Nat → Prop} {a : Nat → Nat} (C : Cx p s m args meth c K A cX2_leastSize 2 RX2 wsX2_leastSize (some .int)) {z : Int32 × (Nat → Int32) × (Nat → Int32) × Int32} {len : Int32} {sz : Int32} {words : Nat → Int32} {checks : Nat → Int32} {cnt : Int32} {pm : Nat → Nat} {sl : Nat → Int32} {ss : Nat → Int32} {sw : Nat → Nat → Int32} {sc : Nat → Nat → Int32} {err : Nat → Int32} {vec : Nat → Int32} {bc : Int32} {x1 : Int32} (hf : FX2_leastSize_0 len sz words checks  err vec bc x1 = some z) : Go p l e (RM 5) s m args below meth c K A 2 0 0 (MQ below (QR K (some (.int z.1)) (xW K a len sz words checks cnt z.2.1 z.2.2.1 z.2.2.2 pm sl ss sw sc) A) args s 0 0 A) (xW K a len sz words checks cnt err vec bc pm sl ss sw sc) 0 [(0, .ref (a 0)), (1, .int x1)] [] := by
  unfold FX2_leastSize_0 at hf
  refine go_iload_n C 1 dX2_leastSize_0 rfl rfl ?_
  refine go_iconst (v := 1) C dX2_leastSize_1 (by decide) ?_
  refine go_c2_lt C (tgt := 11) dX2_leastSize_2 (by decide) hf (fun h hf => ?_) (fun h hf => ?_)
  · refine go_lv (lv' := [(0, .ref (a 0))]) [0] rfl ?_
    exact WX2_leastSize_11 C  hf
  · refine go_iload_n C 1 dX2_leastSize_5 rfl rfl ?_
    refine go_bipush (v := 6) C dX2_leastSize_6 (by decide) ?_
    refine go_c2_le C (tgt := 18) dX2_leastSize_8 (by decide) hf (fun h hf => ?_) (fun h hf => ?_)
    · refine go_aload_n C 0 dX2_leastSize_18 rfl rfl ?_
      refine go_iload_n C 1 dX2_leastSize_19 rfl rfl ?_
      refine call_X2_leastSizeLeaking C gX2_leastSize_X2_leastSizeLeaking dX2_leastSize_20 (by decide) (Nat.le_of_ble_eq_true rfl) hf (fun v2 hf => ?_)
      cases hf
      exact go_iret C dX2_leastSize_23
    · refine go_lv (lv' := [(0, .ref (a 0))]) [0] rfl ?_
      exact WX2_leastSize_11 C  hf
set_option maxRecDepth 20000 in
theorem con_X2_leastSize (l : Launch) (K : KK) (a : Nat → Nat) {len : Int32} {sz : Int32} {words : Nat → Int32} {checks : Nat → Int32} {cnt : Int32} {err : Nat → Int32} {vec : Nat → Int32} {bc : Int32} {pm : Nat → Nat} {sl : Nat → Int32} {ss : Nat → Int32} {sw : Nat → Nat → Int32} {sc : Nat → Nat → Int32} {x1 : Int32} {z : Int32 × (Nat → Int32) × (Nat → Int32) × Int32} (hf : fX2_leastSize len sz words checks err vec bc x1 = some z) : Con l yX2_leastSize wsX2_leastSize 5 K [.ref (a 0), .int x1] (xW K a len sz words checks cnt err vec bc pm sl ss sw sc) (some (.int z.1)) (xW K a len sz words checks cnt z.2.1 z.2.2.1 z.2.2.2 pm sl ss sw sc) :=
  con_of (cc := cX2_leastSize) (maxL := 2) (ret := (some .int)) (own := RX2) (lv0 := [(0, .ref (a 0)), (1, .int x1)]) (by decide) rfl rfl (Nat.le_of_ble_eq_true rfl) rfl (fun p e s m args below meth c A C => go_lv (lv' := [(0, .ref (a 0)), (1, .int x1)]) [0, 1] rfl (WX2_leastSize_0 C hf))
set_option maxRecDepth 20000 in
theorem call_X2_leastSize {p : Program} {l : Launch} {e : Env} {s : State} {m : MethodId} {args : Array Value} {below : List Frame} {meth : Method} {c : Code} {K : KK} {A : Nat → Prop} {Q : State → Prop} {cc : ByteArray} {nL : Nat} {Ts : List Cond} {ret : Option FieldType} {pc : Nat} {lv : List (Nat × Value)} {st : List Value} {ix d : Nat} {α : Type} {kk : Int32 × (Nat → Int32) × (Nat → Int32) × Int32 → Option α} {y : α} {a : Nat → Nat} {len : Int32} {sz : Int32} {words : Nat → Int32} {checks : Nat → Int32} {cnt : Int32} {err : Nat → Int32} {vec : Nat → Int32} {bc : Int32} {pm : Nat → Nat} {sl : Nat → Int32} {ss : Nat → Int32} {sw : Nat → Nat → Int32} {sc : Nat → Nat → Int32} {q0 : Int32} (C : Cx p s m args meth c K A cc nL RX2 Ts ret) (hG : GoodIn Ts (wsV RX2 ix RX2 yX2_leastSize wsX2_leastSize)) (hd : decode cc pc = .ok (.invokevirtual ix, 3)) (hdd : 5 < d) (hro : (st.map fun v => v.category).sum ≤ 8) (hf : (fX2_leastSize len sz words checks err vec bc q0).bind kk = some y) (k : ∀ v, kk v = some y → Go p l e (RM d) s m args below meth c K A nL 0 0 Q (xW K a len sz words checks cnt v.2.1 v.2.2.1 v.2.2.2 pm sl ss sw sc) (pc + 3) lv (.int (v.1) :: st)) : Go p l e (RM d) s m args below meth c K A nL 0 0 Q (xW K a len sz words checks cnt err vec bc pm sl ss sw sc) pc lv (.int q0 :: .ref (a 0) :: st) := by
  obtain ⟨v, hv, hf⟩ := bd_some hf
  exact go_callV_full (ry := (some .int)) (n := 1) (b := a 0) (As := [.int q0]) (rest := st) C (con_X2_leastSize l K a hv) hG (by decide) rfl ⟨Nat.succ_le_of_lt hdd, by show 8 + (2 + 11) + 40 * 5 ≤ 40 * d; omega⟩ ⟨Nat.le_refl _, Nat.le_refl _⟩ ⟨0, 2, _, _, rfl, rfl, rfl⟩ rfl rfl hro hd (k v hf)
-- X2_isObservation
set_option maxRecDepth 20000 in
set_option maxHeartbeats 2000000 in
theorem WX2_isObservation_28 {p : Program} {l : Launch} {e : Env} {s : State} {m : MethodId} {args : Array Value} {below : List Frame} {meth : Method} {c : Code} {K : KK} {A : Nat → Prop} {a : Nat → Nat} (C : Cx p s m args meth c K A cX2_isObservation 3 RX2 wsX2_isObservation (some .boolean)) {z : Int32} {len : Int32} {sz : Int32} {words : Nat → Int32} {checks : Nat → Int32} {cnt : Int32} {err : Nat → Int32} {vec : Nat → Int32} {bc : Int32} {pm : Nat → Nat} {sl : Nat → Int32} {ss : Nat → Int32} {sw : Nat → Nat → Int32} {sc : Nat → Nat → Int32} {t0 : Int32} (hf : FX2_isObservation_28 len  t0 = some z) : Go p l e (RM 2) s m args below meth c K A 3 0 0 (MQ below (QR K (some (.int z)) (xW K a len sz words checks cnt err vec bc pm sl ss sw sc) A) args s 0 0 A) (xW K a len sz words checks cnt err vec bc pm sl ss sw sc) 28 [] [.int t0] := by
  unfold FX2_isObservation_28 at hf
  obtain ⟨hb1, hf⟩ := ckB_some hf
  cases hf
  exact go_zret C hb1 dX2_isObservation_28
set_option maxRecDepth 20000 in
set_option maxHeartbeats 2000000 in
theorem WX2_isObservation_27 {p : Program} {l : Launch} {e : Env} {s : State} {m : MethodId} {args : Array Value} {below : List Frame} {meth : Method} {c : Code} {K : KK} {A : Nat → Prop} {a : Nat → Nat} (C : Cx p s m args meth c K A cX2_isObservation 3 RX2 wsX2_isObservation (some .boolean)) {z : Int32} {len : Int32} {sz : Int32} {words : Nat → Int32} {checks : Nat → Int32} {cnt : Int32} {err : Nat → Int32} {vec : Nat → Int32} {bc : Int32} {pm : Nat → Nat} {sl : Nat → Int32} {ss : Nat → Int32} {sw : Nat → Nat → Int32} {sc : Nat → Nat → Int32} (hf : FX2_isObservation_27 len   = some z) : Go p l e (RM 2) s m args below meth c K A 3 0 0 (MQ below (QR K (some (.int z)) (xW K a len sz words checks cnt err vec bc pm sl ss sw sc) A) args s 0 0 A) (xW K a len sz words checks cnt err vec bc pm sl ss sw sc) 27 [] [] := by
  unfold FX2_isObservation_27 at hf
  refine go_iconst (v := 0) C dX2_isObservation_27 (by decide) ?_
  exact WX2_isObservation_28 C  hf
set_option maxRecDepth 20000 in
set_option maxHeartbeats 2000000 in
theorem WX2_isObservation_0 {p : Program} {l : Launch} {e : Env} {s : State} {m : MethodId} {args : Array Value} {below : List Frame} {meth : Method} {c : Code} {K : KK} {A : Nat → Prop} {a : Nat → Nat} (C : Cx p s m args meth c K A cX2_isObservation 3 RX2 wsX2_isObservation (some .boolean)) {z : Int32} {len : Int32} {sz : Int32} {words : Nat → Int32} {checks : Nat → Int32} {cnt : Int32} {err : Nat → Int32} {vec : Nat → Int32} {bc : Int32} {pm : Nat → Nat} {sl : Nat → Int32} {ss : Nat → Int32} {sw : Nat → Nat → Int32} {sc : Nat → Nat → Int32} {x1 : Int32} {x2 : Int32} (hf : FX2_isObservation_0 len  x1 x2 = some z) : Go p l e (RM 2) s m args below meth c K A 3 0 0 (MQ below (QR K (some (.int z)) (xW K a len sz words checks cnt err vec bc pm sl ss sw sc) A) args s 0 0 A) (xW K a len sz words checks cnt err vec bc pm sl ss sw sc) 0 [(0, .ref (a 0)), (1, .int x1), (2, .int x2)] [] := by
  unfold FX2_isObservation_0 at hf
  refine go_aload_n C 0 dX2_isObservation_0 rfl rfl ?_
  refine go_iload_n C 1 dX2_isObservation_1 rfl rfl ?_
  refine call_X2_isWord C gX2_isObservation_X2_isWord dX2_isObservation_2 (by decide) (Nat.le_of_ble_eq_true rfl) hf (fun v1 hf => ?_)
  refine go_c1_eq C (tgt := 27) dX2_isObservation_5 (by decide) hf (fun h hf => ?_) (fun h hf => ?_)
  · refine go_lv (lv' := []) [] rfl ?_
    exact WX2_isObservation_27 C  hf
  · refine go_aload_n C 0 dX2_isObservation_8 rfl rfl ?_
    refine go_iload_n C 2 dX2_isObservation_9 rfl rfl ?_
    refine call_X2_isWord C gX2_isObservation_X2_isWord dX2_isObservation_10 (by decide) (Nat.le_of_ble_eq_true rfl) hf (fun v2 hf => ?_)
    refine go_c1_eq C (tgt := 27) dX2_isObservation_13 (by decide) hf (fun h hf => ?_) (fun h hf => ?_)
    · refine go_lv (lv' := []) [] rfl ?_
      exact WX2_isObservation_27 C  hf
    · refine go_iload_n C 2 dX2_isObservation_16 rfl rfl ?_
      refine go_iload_n C 1 dX2_isObservation_17 rfl rfl ?_
      refine go_iand C dX2_isObservation_18 ?_
      refine go_iload_n C 2 dX2_isObservation_19 rfl rfl ?_
      refine go_c2_ne C (tgt := 27) dX2_isObservation_20 (by decide) hf (fun h hf => ?_) (fun h hf => ?_)
      · refine go_lv (lv' := []) [] rfl ?_
        exact WX2_isObservation_27 C  hf
      · refine go_iconst (v := 1) C dX2_isObservation_23 (by decide) ?_
        refine go_goto C (tgt := 28) dX2_isObservation_24 (by decide) ?_
        refine go_lv (lv' := []) [] rfl ?_
        exact WX2_isObservation_28 C  hf
set_option maxRecDepth 20000 in
theorem con_X2_isObservation (l : Launch) (K : KK) (a : Nat → Nat) {len : Int32} {sz : Int32} {words : Nat → Int32} {checks : Nat → Int32} {cnt : Int32} {err : Nat → Int32} {vec : Nat → Int32} {bc : Int32} {pm : Nat → Nat} {sl : Nat → Int32} {ss : Nat → Int32} {sw : Nat → Nat → Int32} {sc : Nat → Nat → Int32} {x1 : Int32} {x2 : Int32} {z : Int32} (hf : fX2_isObservation len x1 x2 = some z) : Con l yX2_isObservation wsX2_isObservation 2 K [.ref (a 0), .int x1, .int x2] (xW K a len sz words checks cnt err vec bc pm sl ss sw sc) (some (.int z)) (xW K a len sz words checks cnt err vec bc pm sl ss sw sc) :=
  con_of (cc := cX2_isObservation) (maxL := 3) (ret := (some .boolean)) (own := RX2) (lv0 := [(0, .ref (a 0)), (1, .int x1), (2, .int x2)]) (by decide) rfl rfl (Nat.le_of_ble_eq_true rfl) rfl (fun p e s m args below meth c A C => go_lv (lv' := [(0, .ref (a 0)), (1, .int x1), (2, .int x2)]) [0, 1, 2] rfl (WX2_isObservation_0 C hf))
set_option maxRecDepth 20000 in
theorem call_X2_isObservation {p : Program} {l : Launch} {e : Env} {s : State} {m : MethodId} {args : Array Value} {below : List Frame} {meth : Method} {c : Code} {K : KK} {A : Nat → Prop} {Q : State → Prop} {cc : ByteArray} {nL : Nat} {Ts : List Cond} {ret : Option FieldType} {pc : Nat} {lv : List (Nat × Value)} {st : List Value} {ix d : Nat} {α : Type} {kk : Int32 → Option α} {y : α} {a : Nat → Nat} {len : Int32} {sz : Int32} {words : Nat → Int32} {checks : Nat → Int32} {cnt : Int32} {err : Nat → Int32} {vec : Nat → Int32} {bc : Int32} {pm : Nat → Nat} {sl : Nat → Int32} {ss : Nat → Int32} {sw : Nat → Nat → Int32} {sc : Nat → Nat → Int32} {q0 : Int32} {q1 : Int32} (C : Cx p s m args meth c K A cc nL RX2 Ts ret) (hG : GoodIn Ts (wsV RX2 ix RX2 yX2_isObservation wsX2_isObservation)) (hd : decode cc pc = .ok (.invokevirtual ix, 3)) (hdd : 2 < d) (hro : (st.map fun v => v.category).sum ≤ 8) (hf : (fX2_isObservation len q0 q1).bind kk = some y) (k : ∀ v, kk v = some y → Go p l e (RM d) s m args below meth c K A nL 0 0 Q (xW K a len sz words checks cnt err vec bc pm sl ss sw sc) (pc + 3) lv (.int v :: st)) : Go p l e (RM d) s m args below meth c K A nL 0 0 Q (xW K a len sz words checks cnt err vec bc pm sl ss sw sc) pc lv (.int q1 :: .int q0 :: .ref (a 0) :: st) := by
  obtain ⟨v, hv, hf⟩ := bd_some hf
  exact go_callV_full (ry := (some .boolean)) (n := 2) (b := a 0) (As := [.int q0, .int q1]) (rest := st) C (con_X2_isObservation l K a hv) hG (by decide) rfl ⟨Nat.succ_le_of_lt hdd, by show 8 + (3 + 11) + 40 * 2 ≤ 40 * d; omega⟩ ⟨Nat.le_refl _, Nat.le_refl _⟩ ⟨0, 2, _, _, rfl, rfl, rfl⟩ rfl rfl hro hd (k v hf)
-- X2_messagesFitting
set_option maxRecDepth 20000 in
set_option maxHeartbeats 2000000 in
theorem WX2_messagesFitting_43 {p : Program} {l : Launch} {e : Env} {s : State} {m : MethodId} {args : Array Value} {below : List Frame} {meth : Method} {c : Code} {K : KK} {A : Nat → Prop} {a : Nat → Nat} (C : Cx p s m args meth c K A cX2_messagesFitting 6 RX2 wsX2_messagesFitting (some .long)) {z : Int64} {len : Int32} {sz : Int32} {words : Nat → Int32} {checks : Nat → Int32} {cnt : Int32} {err : Nat → Int32} {vec : Nat → Int32} {bc : Int32} {pm : Nat → Nat} {sl : Nat → Int32} {ss : Nat → Int32} {sw : Nat → Nat → Int32} {sc : Nat → Nat → Int32} {r5 : Int32 → Int32 → Int64 → Int32 → Option (Int64)} {x1 : Int32} {x2 : Int32} {x3 : Int64} {x5 : Int32} (hr5 : ∀ (x1 : Int32) (x2 : Int32) (x3 : Int64) (x5 : Int32), r5 x1 x2 x3 x5 = some z → Go p l e (RM 3) s m args below meth c K A 6 0 0 (MQ below (QR K (some (.long z)) (xW K a len sz words checks cnt err vec bc pm sl ss sw sc) A) args s 0 0 A) (xW K a len sz words checks cnt err vec bc pm sl ss sw sc) 5 [(0, .ref (a 0)), (1, .int x1), (2, .int x2), (3, .long x3), (5, .int x5)] []) (hf : FX2_messagesFitting_43 len sz words checks r5 x1 x2 x3 x5 = some z) : Go p l e (RM 3) s m args below meth c K A 6 0 0 (MQ below (QR K (some (.long z)) (xW K a len sz words checks cnt err vec bc pm sl ss sw sc) A) args s 0 0 A) (xW K a len sz words checks cnt err vec bc pm sl ss sw sc) 43 [(0, .ref (a 0)), (1, .int x1), (2, .int x2), (3, .long x3), (5, .int x5)] [] := by
  unfold FX2_messagesFitting_43 at hf
  refine go_iinc C (v := x5 + 1) (lv' := [(0, .ref (a 0)), (1, .int x1), (2, .int x2), (3, .long x3), (5, .int (x5 + 1))]) 4 [1, 2, 3, 4, 0] dX2_messagesFitting_43 rfl rfl (by decide) rfl ?_
  refine go_goto C (tgt := 5) dX2_messagesFitting_46 (by decide) ?_
  exact hr5 _ _ _ _ hf
set_option maxRecDepth 20000 in
set_option maxHeartbeats 2000000 in
theorem WX2_messagesFitting_5 {p : Program} {l : Launch} {e : Env} {s : State} {m : MethodId} {args : Array Value} {below : List Frame} {meth : Method} {c : Code} {K : KK} {A : Nat → Prop} {a : Nat → Nat} (C : Cx p s m args meth c K A cX2_messagesFitting 6 RX2 wsX2_messagesFitting (some .long)) {z : Int64} {len : Int32} {sz : Int32} {words : Nat → Int32} {checks : Nat → Int32} {cnt : Int32} {err : Nat → Int32} {vec : Nat → Int32} {bc : Int32} {pm : Nat → Nat} {sl : Nat → Int32} {ss : Nat → Int32} {sw : Nat → Nat → Int32} {sc : Nat → Nat → Int32} {r5 : Int32 → Int32 → Int64 → Int32 → Option (Int64)} {x1 : Int32} {x2 : Int32} {x3 : Int64} {x5 : Int32} (hr5 : ∀ (x1 : Int32) (x2 : Int32) (x3 : Int64) (x5 : Int32), r5 x1 x2 x3 x5 = some z → Go p l e (RM 3) s m args below meth c K A 6 0 0 (MQ below (QR K (some (.long z)) (xW K a len sz words checks cnt err vec bc pm sl ss sw sc) A) args s 0 0 A) (xW K a len sz words checks cnt err vec bc pm sl ss sw sc) 5 [(0, .ref (a 0)), (1, .int x1), (2, .int x2), (3, .long x3), (5, .int x5)] []) (hf : FX2_messagesFitting_5 len sz words checks r5 x1 x2 x3 x5 = some z) : Go p l e (RM 3) s m args below meth c K A 6 0 0 (MQ below (QR K (some (.long z)) (xW K a len sz words checks cnt err vec bc pm sl ss sw sc) A) args s 0 0 A) (xW K a len sz words checks cnt err vec bc pm sl ss sw sc) 5 [(0, .ref (a 0)), (1, .int x1), (2, .int x2), (3, .long x3), (5, .int x5)] [] := by
  unfold FX2_messagesFitting_5 at hf
  refine go_iload C 4 dX2_messagesFitting_5 rfl ?_
  refine go_aload_n C 0 dX2_messagesFitting_7 rfl rfl ?_
  refine call_X2_allPositions C gX2_messagesFitting_X2_allPositions dX2_messagesFitting_8 (by decide) (Nat.le_of_ble_eq_true rfl) hf (fun v1 hf => ?_)
  refine go_c2_gt C (tgt := 49) dX2_messagesFitting_11 (by decide) hf (fun h hf => ?_) (fun h hf => ?_)
  · refine go_lload_n C 3 dX2_messagesFitting_49 rfl rfl ?_
    cases hf
    exact go_lret C dX2_messagesFitting_50
  · refine go_iload C 4 dX2_messagesFitting_14 rfl ?_
    refine go_iload_n C 1 dX2_messagesFitting_16 rfl rfl ?_
    refine go_iand C dX2_messagesFitting_17 ?_
    refine go_iload_n C 2 dX2_messagesFitting_18 rfl rfl ?_
    refine go_c2_ne C (tgt := 43) dX2_messagesFitting_19 (by decide) hf (fun h hf => ?_) (fun h hf => ?_)
    · exact WX2_messagesFitting_43 C hr5 hf
    · refine go_aload_n C 0 dX2_messagesFitting_22 rfl rfl ?_
      refine go_iload C 4 dX2_messagesFitting_23 rfl ?_
      refine call_X2_isCodeword C gX2_messagesFitting_X2_isCodeword dX2_messagesFitting_25 (by decide) (Nat.le_of_ble_eq_true rfl) hf (fun v2 hf => ?_)
      refine go_c1_eq C (tgt := 43) dX2_messagesFitting_28 (by decide) hf (fun h hf => ?_) (fun h hf => ?_)
      · exact WX2_messagesFitting_43 C hr5 hf
      · refine go_lload_n C 3 dX2_messagesFitting_31 rfl rfl ?_
        refine go_lconst (v := 1) C dX2_messagesFitting_32 (by decide) ?_
        refine go_aload_n C 0 dX2_messagesFitting_33 rfl rfl ?_
        refine go_iload C 4 dX2_messagesFitting_34 rfl ?_
        refine go_iconst (v := 0) C dX2_messagesFitting_36 (by decide) ?_
        refine call_X2_syndrome C gX2_messagesFitting_X2_syndrome dX2_messagesFitting_37 (by decide) (Nat.le_of_ble_eq_true rfl) hf (fun v3 hf => ?_)
        refine go_lshl C dX2_messagesFitting_40 ?_
        refine go_lor C dX2_messagesFitting_41 ?_
        refine go_lstore_n C (lv' := [(0, .ref (a 0)), (1, .int x1), (2, .int x2), (3, .long (x3 ||| ((1 : Int64) <<< (v3.toInt64 &&& 63)))), (5, .int x5)]) [1, 2, 3, 0, 4] dX2_messagesFitting_42 rfl (by decide) rfl ?_
        exact WX2_messagesFitting_43 C hr5 hf
theorem wX2_messagesFitting_5 {p : Program} {l : Launch} {e : Env} {s : State} {m : MethodId} {args : Array Value} {below : List Frame} {meth : Method} {c : Code} {K : KK} {A : Nat → Prop} {a : Nat → Nat} (C : Cx p s m args meth c K A cX2_messagesFitting 6 RX2 wsX2_messagesFitting (some .long)) {z : Int64} {len : Int32} {sz : Int32} {words : Nat → Int32} {checks : Nat → Int32} {cnt : Int32} {err : Nat → Int32} {vec : Nat → Int32} {bc : Int32} {pm : Nat → Nat} {sl : Nat → Int32} {ss : Nat → Int32} {sw : Nat → Nat → Int32} {sc : Nat → Nat → Int32} : ∀ (n : Nat) (x1 : Int32) (x2 : Int32) (x3 : Int64) (x5 : Int32), fX2_messagesFitting_5 len sz words checks  n x1 x2 x3 x5 = some z → Go p l e (RM 3) s m args below meth c K A 6 0 0 (MQ below (QR K (some (.long z)) (xW K a len sz words checks cnt err vec bc pm sl ss sw sc) A) args s 0 0 A) (xW K a len sz words checks cnt err vec bc pm sl ss sw sc) 5 [(0, .ref (a 0)), (1, .int x1), (2, .int x2), (3, .long x3), (5, .int x5)] [] := by
  intro n
  induction n with
  | zero => intro _ _ _ _ hf; cases hf
  | succ n ih => intro _ _ _ _ hf; exact WX2_messagesFitting_5 C  ih hf
set_option maxRecDepth 20000 in
set_option maxHeartbeats 2000000 in
theorem WX2_messagesFitting_0 {p : Program} {l : Launch} {e : Env} {s : State} {m : MethodId} {args : Array Value} {below : List Frame} {meth : Method} {c : Code} {K : KK} {A : Nat → Prop} {a : Nat → Nat} (C : Cx p s m args meth c K A cX2_messagesFitting 6 RX2 wsX2_messagesFitting (some .long)) {z : Int64} {len : Int32} {sz : Int32} {words : Nat → Int32} {checks : Nat → Int32} {cnt : Int32} {err : Nat → Int32} {vec : Nat → Int32} {bc : Int32} {pm : Nat → Nat} {sl : Nat → Int32} {ss : Nat → Int32} {sw : Nat → Nat → Int32} {sc : Nat → Nat → Int32} {x1 : Int32} {x2 : Int32} (hf : FX2_messagesFitting_0 len sz words checks  x1 x2 = some z) : Go p l e (RM 3) s m args below meth c K A 6 0 0 (MQ below (QR K (some (.long z)) (xW K a len sz words checks cnt err vec bc pm sl ss sw sc) A) args s 0 0 A) (xW K a len sz words checks cnt err vec bc pm sl ss sw sc) 0 [(0, .ref (a 0)), (1, .int x1), (2, .int x2)] [] := by
  unfold FX2_messagesFitting_0 at hf
  refine go_lconst (v := 0) C dX2_messagesFitting_0 (by decide) ?_
  refine go_lstore_n C (lv' := [(0, .ref (a 0)), (1, .int x1), (2, .int x2), (3, .long 0)]) [1, 2, 3, 0] dX2_messagesFitting_1 rfl (by decide) rfl ?_
  refine go_iconst (v := 0) C dX2_messagesFitting_2 (by decide) ?_
  refine go_istore C (lv' := [(0, .ref (a 0)), (1, .int x1), (2, .int x2), (3, .long 0), (5, .int 0)]) [1, 2, 3, 4, 0] dX2_messagesFitting_3 (by decide) rfl ?_
  exact wX2_messagesFitting_5 C  300 _ _ _ _ hf
set_option maxRecDepth 20000 in
theorem con_X2_messagesFitting (l : Launch) (K : KK) (a : Nat → Nat) {len : Int32} {sz : Int32} {words : Nat → Int32} {checks : Nat → Int32} {cnt : Int32} {err : Nat → Int32} {vec : Nat → Int32} {bc : Int32} {pm : Nat → Nat} {sl : Nat → Int32} {ss : Nat → Int32} {sw : Nat → Nat → Int32} {sc : Nat → Nat → Int32} {x1 : Int32} {x2 : Int32} {z : Int64} (hf : fX2_messagesFitting len sz words checks x1 x2 = some z) : Con l yX2_messagesFitting wsX2_messagesFitting 3 K [.ref (a 0), .int x1, .int x2] (xW K a len sz words checks cnt err vec bc pm sl ss sw sc) (some (.long z)) (xW K a len sz words checks cnt err vec bc pm sl ss sw sc) :=
  con_of (cc := cX2_messagesFitting) (maxL := 6) (ret := (some .long)) (own := RX2) (lv0 := [(0, .ref (a 0)), (1, .int x1), (2, .int x2)]) (by decide) rfl rfl (Nat.le_of_ble_eq_true rfl) rfl (fun p e s m args below meth c A C => go_lv (lv' := [(0, .ref (a 0)), (1, .int x1), (2, .int x2)]) [0, 1, 2] rfl (WX2_messagesFitting_0 C hf))
set_option maxRecDepth 20000 in
theorem call_X2_messagesFitting {p : Program} {l : Launch} {e : Env} {s : State} {m : MethodId} {args : Array Value} {below : List Frame} {meth : Method} {c : Code} {K : KK} {A : Nat → Prop} {Q : State → Prop} {cc : ByteArray} {nL : Nat} {Ts : List Cond} {ret : Option FieldType} {pc : Nat} {lv : List (Nat × Value)} {st : List Value} {ix d : Nat} {α : Type} {kk : Int64 → Option α} {y : α} {a : Nat → Nat} {len : Int32} {sz : Int32} {words : Nat → Int32} {checks : Nat → Int32} {cnt : Int32} {err : Nat → Int32} {vec : Nat → Int32} {bc : Int32} {pm : Nat → Nat} {sl : Nat → Int32} {ss : Nat → Int32} {sw : Nat → Nat → Int32} {sc : Nat → Nat → Int32} {q0 : Int32} {q1 : Int32} (C : Cx p s m args meth c K A cc nL RX2 Ts ret) (hG : GoodIn Ts (wsV RX2 ix RX2 yX2_messagesFitting wsX2_messagesFitting)) (hd : decode cc pc = .ok (.invokevirtual ix, 3)) (hdd : 3 < d) (hro : (st.map fun v => v.category).sum ≤ 8) (hf : (fX2_messagesFitting len sz words checks q0 q1).bind kk = some y) (k : ∀ v, kk v = some y → Go p l e (RM d) s m args below meth c K A nL 0 0 Q (xW K a len sz words checks cnt err vec bc pm sl ss sw sc) (pc + 3) lv (.long v :: st)) : Go p l e (RM d) s m args below meth c K A nL 0 0 Q (xW K a len sz words checks cnt err vec bc pm sl ss sw sc) pc lv (.int q1 :: .int q0 :: .ref (a 0) :: st) := by
  obtain ⟨v, hv, hf⟩ := bd_some hf
  exact go_callV_full (ry := (some .long)) (n := 2) (b := a 0) (As := [.int q0, .int q1]) (rest := st) C (con_X2_messagesFitting l K a hv) hG (by decide) rfl ⟨Nat.succ_le_of_lt hdd, by show 8 + (6 + 11) + 40 * 3 ≤ 40 * d; omega⟩ ⟨Nat.le_refl _, Nat.le_refl _⟩ ⟨0, 2, _, _, rfl, rfl, rfl⟩ rfl rfl hro hd (k v hf)
-- J13_bitCount_95d88
set_option maxRecDepth 20000 in
set_option maxHeartbeats 2000000 in
theorem WJ13_bitCount_95d88_0 {p : Program} {l : Launch} {e : Env} {s : State} {m : MethodId} {args : Array Value} {below : List Frame} {meth : Method} {c : Code} {K : KK} {A : Nat → Prop} {wz : va_W} (C : Cx p s m args meth c K A cJ13_bitCount_95d88 2 RJ13 wsJ13_bitCount_95d88 (some .int)) {z : Int32} {x0 : Int64} (hf : FJ13_bitCount_95d88_0   x0 = some z) : Go p l e (RM 0) s m args below meth c K A 2 0 0 (MQ below (QR K (some (.int z)) wz A) args s 0 0 A) wz 0 [(0, .long x0)] [] := by
  unfold FJ13_bitCount_95d88_0 at hf
  refine go_lload_n C 0 dJ13_bitCount_95d88_0 rfl rfl ?_
  refine go_lload_n C 0 dJ13_bitCount_95d88_1 rfl rfl ?_
  refine go_iconst (v := 1) C dJ13_bitCount_95d88_2 (by decide) ?_
  refine go_lushr C dJ13_bitCount_95d88_3 ?_
  refine go_ldc2 (v := 6148914691236517205) C dJ13_bitCount_95d88_4 (by decide +kernel) ?_
  refine go_land C dJ13_bitCount_95d88_7 ?_
  refine go_lsub C dJ13_bitCount_95d88_8 ?_
  refine go_lstore_n C (lv' := [(0, .long (x0 - (((x0.toUInt64 >>> ((1 : Int32).toInt64.toUInt64 &&& Int64.toUInt64 63)).toInt64) &&& 6148914691236517205)))]) [0] dJ13_bitCount_95d88_9 rfl (by decide) rfl ?_
  refine go_lload_n C 0 dJ13_bitCount_95d88_10 rfl rfl ?_
  refine go_ldc2 (v := 3689348814741910323) C dJ13_bitCount_95d88_11 (by decide +kernel) ?_
  refine go_land C dJ13_bitCount_95d88_14 ?_
  refine go_lload_n C 0 dJ13_bitCount_95d88_15 rfl rfl ?_
  refine go_iconst (v := 2) C dJ13_bitCount_95d88_16 (by decide) ?_
  refine go_lushr C dJ13_bitCount_95d88_17 ?_
  refine go_ldc2 (v := 3689348814741910323) C dJ13_bitCount_95d88_18 (by decide +kernel) ?_
  refine go_land C dJ13_bitCount_95d88_21 ?_
  refine go_ladd C dJ13_bitCount_95d88_22 ?_
  refine go_lstore_n C (lv' := [(0, .long (((x0 - (((x0.toUInt64 >>> ((1 : Int32).toInt64.toUInt64 &&& Int64.toUInt64 63)).toInt64) &&& 6148914691236517205)) &&& 3689348814741910323) + ((((x0 - (((x0.toUInt64 >>> ((1 : Int32).toInt64.toUInt64 &&& Int64.toUInt64 63)).toInt64) &&& 6148914691236517205)).toUInt64 >>> ((2 : Int32).toInt64.toUInt64 &&& Int64.toUInt64 63)).toInt64) &&& 3689348814741910323)))]) [0] dJ13_bitCount_95d88_23 rfl (by decide) rfl ?_
  refine go_lload_n C 0 dJ13_bitCount_95d88_24 rfl rfl ?_
  refine go_lload_n C 0 dJ13_bitCount_95d88_25 rfl rfl ?_
  refine go_iconst (v := 4) C dJ13_bitCount_95d88_26 (by decide) ?_
  refine go_lushr C dJ13_bitCount_95d88_27 ?_
  refine go_ladd C dJ13_bitCount_95d88_28 ?_
  refine go_ldc2 (v := 1085102592571150095) C dJ13_bitCount_95d88_29 (by decide +kernel) ?_
  refine go_land C dJ13_bitCount_95d88_32 ?_
  refine go_lstore_n C (lv' := [(0, .long (((((x0 - (((x0.toUInt64 >>> ((1 : Int32).toInt64.toUInt64 &&& Int64.toUInt64 63)).toInt64) &&& 6148914691236517205)) &&& 3689348814741910323) + ((((x0 - (((x0.toUInt64 >>> ((1 : Int32).toInt64.toUInt64 &&& Int64.toUInt64 63)).toInt64) &&& 6148914691236517205)).toUInt64 >>> ((2 : Int32).toInt64.toUInt64 &&& Int64.toUInt64 63)).toInt64) &&& 3689348814741910323)) + (((((x0 - (((x0.toUInt64 >>> ((1 : Int32).toInt64.toUInt64 &&& Int64.toUInt64 63)).toInt64) &&& 6148914691236517205)) &&& 3689348814741910323) + ((((x0 - (((x0.toUInt64 >>> ((1 : Int32).toInt64.toUInt64 &&& Int64.toUInt64 63)).toInt64) &&& 6148914691236517205)).toUInt64 >>> ((2 : Int32).toInt64.toUInt64 &&& Int64.toUInt64 63)).toInt64) &&& 3689348814741910323)).toUInt64 >>> ((4 : Int32).toInt64.toUInt64 &&& Int64.toUInt64 63)).toInt64)) &&& 1085102592571150095))]) [0] dJ13_bitCount_95d88_33 rfl (by decide) rfl ?_
  refine go_lload_n C 0 dJ13_bitCount_95d88_34 rfl rfl ?_
  refine go_lload_n C 0 dJ13_bitCount_95d88_35 rfl rfl ?_
  refine go_bipush (v := 8) C dJ13_bitCount_95d88_36 (by decide) ?_
  refine go_lushr C dJ13_bitCount_95d88_38 ?_
  refine go_ladd C dJ13_bitCount_95d88_39 ?_
  refine go_lstore_n C (lv' := [(0, .long ((((((x0 - (((x0.toUInt64 >>> ((1 : Int32).toInt64.toUInt64 &&& Int64.toUInt64 63)).toInt64) &&& 6148914691236517205)) &&& 3689348814741910323) + ((((x0 - (((x0.toUInt64 >>> ((1 : Int32).toInt64.toUInt64 &&& Int64.toUInt64 63)).toInt64) &&& 6148914691236517205)).toUInt64 >>> ((2 : Int32).toInt64.toUInt64 &&& Int64.toUInt64 63)).toInt64) &&& 3689348814741910323)) + (((((x0 - (((x0.toUInt64 >>> ((1 : Int32).toInt64.toUInt64 &&& Int64.toUInt64 63)).toInt64) &&& 6148914691236517205)) &&& 3689348814741910323) + ((((x0 - (((x0.toUInt64 >>> ((1 : Int32).toInt64.toUInt64 &&& Int64.toUInt64 63)).toInt64) &&& 6148914691236517205)).toUInt64 >>> ((2 : Int32).toInt64.toUInt64 &&& Int64.toUInt64 63)).toInt64) &&& 3689348814741910323)).toUInt64 >>> ((4 : Int32).toInt64.toUInt64 &&& Int64.toUInt64 63)).toInt64)) &&& 1085102592571150095) + (((((((x0 - (((x0.toUInt64 >>> ((1 : Int32).toInt64.toUInt64 &&& Int64.toUInt64 63)).toInt64) &&& 6148914691236517205)) &&& 3689348814741910323) + ((((x0 - (((x0.toUInt64 >>> ((1 : Int32).toInt64.toUInt64 &&& Int64.toUInt64 63)).toInt64) &&& 6148914691236517205)).toUInt64 >>> ((2 : Int32).toInt64.toUInt64 &&& Int64.toUInt64 63)).toInt64) &&& 3689348814741910323)) + (((((x0 - (((x0.toUInt64 >>> ((1 : Int32).toInt64.toUInt64 &&& Int64.toUInt64 63)).toInt64) &&& 6148914691236517205)) &&& 3689348814741910323) + ((((x0 - (((x0.toUInt64 >>> ((1 : Int32).toInt64.toUInt64 &&& Int64.toUInt64 63)).toInt64) &&& 6148914691236517205)).toUInt64 >>> ((2 : Int32).toInt64.toUInt64 &&& Int64.toUInt64 63)).toInt64) &&& 3689348814741910323)).toUInt64 >>> ((4 : Int32).toInt64.toUInt64 &&& Int64.toUInt64 63)).toInt64)) &&& 1085102592571150095).toUInt64 >>> ((8 : Int32).toInt64.toUInt64 &&& Int64.toUInt64 63)).toInt64)))]) [0] dJ13_bitCount_95d88_40 rfl (by decide) rfl ?_
  refine go_lload_n C 0 dJ13_bitCount_95d88_41 rfl rfl ?_
  refine go_lload_n C 0 dJ13_bitCount_95d88_42 rfl rfl ?_
  refine go_bipush (v := 16) C dJ13_bitCount_95d88_43 (by decide) ?_
  refine go_lushr C dJ13_bitCount_95d88_45 ?_
  refine go_ladd C dJ13_bitCount_95d88_46 ?_
  refine go_lstore_n C (lv' := [(0, .long (((((((x0 - (((x0.toUInt64 >>> ((1 : Int32).toInt64.toUInt64 &&& Int64.toUInt64 63)).toInt64) &&& 6148914691236517205)) &&& 3689348814741910323) + ((((x0 - (((x0.toUInt64 >>> ((1 : Int32).toInt64.toUInt64 &&& Int64.toUInt64 63)).toInt64) &&& 6148914691236517205)).toUInt64 >>> ((2 : Int32).toInt64.toUInt64 &&& Int64.toUInt64 63)).toInt64) &&& 3689348814741910323)) + (((((x0 - (((x0.toUInt64 >>> ((1 : Int32).toInt64.toUInt64 &&& Int64.toUInt64 63)).toInt64) &&& 6148914691236517205)) &&& 3689348814741910323) + ((((x0 - (((x0.toUInt64 >>> ((1 : Int32).toInt64.toUInt64 &&& Int64.toUInt64 63)).toInt64) &&& 6148914691236517205)).toUInt64 >>> ((2 : Int32).toInt64.toUInt64 &&& Int64.toUInt64 63)).toInt64) &&& 3689348814741910323)).toUInt64 >>> ((4 : Int32).toInt64.toUInt64 &&& Int64.toUInt64 63)).toInt64)) &&& 1085102592571150095) + (((((((x0 - (((x0.toUInt64 >>> ((1 : Int32).toInt64.toUInt64 &&& Int64.toUInt64 63)).toInt64) &&& 6148914691236517205)) &&& 3689348814741910323) + ((((x0 - (((x0.toUInt64 >>> ((1 : Int32).toInt64.toUInt64 &&& Int64.toUInt64 63)).toInt64) &&& 6148914691236517205)).toUInt64 >>> ((2 : Int32).toInt64.toUInt64 &&& Int64.toUInt64 63)).toInt64) &&& 3689348814741910323)) + (((((x0 - (((x0.toUInt64 >>> ((1 : Int32).toInt64.toUInt64 &&& Int64.toUInt64 63)).toInt64) &&& 6148914691236517205)) &&& 3689348814741910323) + ((((x0 - (((x0.toUInt64 >>> ((1 : Int32).toInt64.toUInt64 &&& Int64.toUInt64 63)).toInt64) &&& 6148914691236517205)).toUInt64 >>> ((2 : Int32).toInt64.toUInt64 &&& Int64.toUInt64 63)).toInt64) &&& 3689348814741910323)).toUInt64 >>> ((4 : Int32).toInt64.toUInt64 &&& Int64.toUInt64 63)).toInt64)) &&& 1085102592571150095).toUInt64 >>> ((8 : Int32).toInt64.toUInt64 &&& Int64.toUInt64 63)).toInt64)) + ((((((((x0 - (((x0.toUInt64 >>> ((1 : Int32).toInt64.toUInt64 &&& Int64.toUInt64 63)).toInt64) &&& 6148914691236517205)) &&& 3689348814741910323) + ((((x0 - (((x0.toUInt64 >>> ((1 : Int32).toInt64.toUInt64 &&& Int64.toUInt64 63)).toInt64) &&& 6148914691236517205)).toUInt64 >>> ((2 : Int32).toInt64.toUInt64 &&& Int64.toUInt64 63)).toInt64) &&& 3689348814741910323)) + (((((x0 - (((x0.toUInt64 >>> ((1 : Int32).toInt64.toUInt64 &&& Int64.toUInt64 63)).toInt64) &&& 6148914691236517205)) &&& 3689348814741910323) + ((((x0 - (((x0.toUInt64 >>> ((1 : Int32).toInt64.toUInt64 &&& Int64.toUInt64 63)).toInt64) &&& 6148914691236517205)).toUInt64 >>> ((2 : Int32).toInt64.toUInt64 &&& Int64.toUInt64 63)).toInt64) &&& 3689348814741910323)).toUInt64 >>> ((4 : Int32).toInt64.toUInt64 &&& Int64.toUInt64 63)).toInt64)) &&& 1085102592571150095) + (((((((x0 - (((x0.toUInt64 >>> ((1 : Int32).toInt64.toUInt64 &&& Int64.toUInt64 63)).toInt64) &&& 6148914691236517205)) &&& 3689348814741910323) + ((((x0 - (((x0.toUInt64 >>> ((1 : Int32).toInt64.toUInt64 &&& Int64.toUInt64 63)).toInt64) &&& 6148914691236517205)).toUInt64 >>> ((2 : Int32).toInt64.toUInt64 &&& Int64.toUInt64 63)).toInt64) &&& 3689348814741910323)) + (((((x0 - (((x0.toUInt64 >>> ((1 : Int32).toInt64.toUInt64 &&& Int64.toUInt64 63)).toInt64) &&& 6148914691236517205)) &&& 3689348814741910323) + ((((x0 - (((x0.toUInt64 >>> ((1 : Int32).toInt64.toUInt64 &&& Int64.toUInt64 63)).toInt64) &&& 6148914691236517205)).toUInt64 >>> ((2 : Int32).toInt64.toUInt64 &&& Int64.toUInt64 63)).toInt64) &&& 3689348814741910323)).toUInt64 >>> ((4 : Int32).toInt64.toUInt64 &&& Int64.toUInt64 63)).toInt64)) &&& 1085102592571150095).toUInt64 >>> ((8 : Int32).toInt64.toUInt64 &&& Int64.toUInt64 63)).toInt64)).toUInt64 >>> ((16 : Int32).toInt64.toUInt64 &&& Int64.toUInt64 63)).toInt64)))]) [0] dJ13_bitCount_95d88_47 rfl (by decide) rfl ?_
  refine go_lload_n C 0 dJ13_bitCount_95d88_48 rfl rfl ?_
  refine go_lload_n C 0 dJ13_bitCount_95d88_49 rfl rfl ?_
  refine go_bipush (v := 32) C dJ13_bitCount_95d88_50 (by decide) ?_
  refine go_lushr C dJ13_bitCount_95d88_52 ?_
  refine go_ladd C dJ13_bitCount_95d88_53 ?_
  refine go_lstore_n C (lv' := [(0, .long ((((((((x0 - (((x0.toUInt64 >>> ((1 : Int32).toInt64.toUInt64 &&& Int64.toUInt64 63)).toInt64) &&& 6148914691236517205)) &&& 3689348814741910323) + ((((x0 - (((x0.toUInt64 >>> ((1 : Int32).toInt64.toUInt64 &&& Int64.toUInt64 63)).toInt64) &&& 6148914691236517205)).toUInt64 >>> ((2 : Int32).toInt64.toUInt64 &&& Int64.toUInt64 63)).toInt64) &&& 3689348814741910323)) + (((((x0 - (((x0.toUInt64 >>> ((1 : Int32).toInt64.toUInt64 &&& Int64.toUInt64 63)).toInt64) &&& 6148914691236517205)) &&& 3689348814741910323) + ((((x0 - (((x0.toUInt64 >>> ((1 : Int32).toInt64.toUInt64 &&& Int64.toUInt64 63)).toInt64) &&& 6148914691236517205)).toUInt64 >>> ((2 : Int32).toInt64.toUInt64 &&& Int64.toUInt64 63)).toInt64) &&& 3689348814741910323)).toUInt64 >>> ((4 : Int32).toInt64.toUInt64 &&& Int64.toUInt64 63)).toInt64)) &&& 1085102592571150095) + (((((((x0 - (((x0.toUInt64 >>> ((1 : Int32).toInt64.toUInt64 &&& Int64.toUInt64 63)).toInt64) &&& 6148914691236517205)) &&& 3689348814741910323) + ((((x0 - (((x0.toUInt64 >>> ((1 : Int32).toInt64.toUInt64 &&& Int64.toUInt64 63)).toInt64) &&& 6148914691236517205)).toUInt64 >>> ((2 : Int32).toInt64.toUInt64 &&& Int64.toUInt64 63)).toInt64) &&& 3689348814741910323)) + (((((x0 - (((x0.toUInt64 >>> ((1 : Int32).toInt64.toUInt64 &&& Int64.toUInt64 63)).toInt64) &&& 6148914691236517205)) &&& 3689348814741910323) + ((((x0 - (((x0.toUInt64 >>> ((1 : Int32).toInt64.toUInt64 &&& Int64.toUInt64 63)).toInt64) &&& 6148914691236517205)).toUInt64 >>> ((2 : Int32).toInt64.toUInt64 &&& Int64.toUInt64 63)).toInt64) &&& 3689348814741910323)).toUInt64 >>> ((4 : Int32).toInt64.toUInt64 &&& Int64.toUInt64 63)).toInt64)) &&& 1085102592571150095).toUInt64 >>> ((8 : Int32).toInt64.toUInt64 &&& Int64.toUInt64 63)).toInt64)) + ((((((((x0 - (((x0.toUInt64 >>> ((1 : Int32).toInt64.toUInt64 &&& Int64.toUInt64 63)).toInt64) &&& 6148914691236517205)) &&& 3689348814741910323) + ((((x0 - (((x0.toUInt64 >>> ((1 : Int32).toInt64.toUInt64 &&& Int64.toUInt64 63)).toInt64) &&& 6148914691236517205)).toUInt64 >>> ((2 : Int32).toInt64.toUInt64 &&& Int64.toUInt64 63)).toInt64) &&& 3689348814741910323)) + (((((x0 - (((x0.toUInt64 >>> ((1 : Int32).toInt64.toUInt64 &&& Int64.toUInt64 63)).toInt64) &&& 6148914691236517205)) &&& 3689348814741910323) + ((((x0 - (((x0.toUInt64 >>> ((1 : Int32).toInt64.toUInt64 &&& Int64.toUInt64 63)).toInt64) &&& 6148914691236517205)).toUInt64 >>> ((2 : Int32).toInt64.toUInt64 &&& Int64.toUInt64 63)).toInt64) &&& 3689348814741910323)).toUInt64 >>> ((4 : Int32).toInt64.toUInt64 &&& Int64.toUInt64 63)).toInt64)) &&& 1085102592571150095) + (((((((x0 - (((x0.toUInt64 >>> ((1 : Int32).toInt64.toUInt64 &&& Int64.toUInt64 63)).toInt64) &&& 6148914691236517205)) &&& 3689348814741910323) + ((((x0 - (((x0.toUInt64 >>> ((1 : Int32).toInt64.toUInt64 &&& Int64.toUInt64 63)).toInt64) &&& 6148914691236517205)).toUInt64 >>> ((2 : Int32).toInt64.toUInt64 &&& Int64.toUInt64 63)).toInt64) &&& 3689348814741910323)) + (((((x0 - (((x0.toUInt64 >>> ((1 : Int32).toInt64.toUInt64 &&& Int64.toUInt64 63)).toInt64) &&& 6148914691236517205)) &&& 3689348814741910323) + ((((x0 - (((x0.toUInt64 >>> ((1 : Int32).toInt64.toUInt64 &&& Int64.toUInt64 63)).toInt64) &&& 6148914691236517205)).toUInt64 >>> ((2 : Int32).toInt64.toUInt64 &&& Int64.toUInt64 63)).toInt64) &&& 3689348814741910323)).toUInt64 >>> ((4 : Int32).toInt64.toUInt64 &&& Int64.toUInt64 63)).toInt64)) &&& 1085102592571150095).toUInt64 >>> ((8 : Int32).toInt64.toUInt64 &&& Int64.toUInt64 63)).toInt64)).toUInt64 >>> ((16 : Int32).toInt64.toUInt64 &&& Int64.toUInt64 63)).toInt64)) + (((((((((x0 - (((x0.toUInt64 >>> ((1 : Int32).toInt64.toUInt64 &&& Int64.toUInt64 63)).toInt64) &&& 6148914691236517205)) &&& 3689348814741910323) + ((((x0 - (((x0.toUInt64 >>> ((1 : Int32).toInt64.toUInt64 &&& Int64.toUInt64 63)).toInt64) &&& 6148914691236517205)).toUInt64 >>> ((2 : Int32).toInt64.toUInt64 &&& Int64.toUInt64 63)).toInt64) &&& 3689348814741910323)) + (((((x0 - (((x0.toUInt64 >>> ((1 : Int32).toInt64.toUInt64 &&& Int64.toUInt64 63)).toInt64) &&& 6148914691236517205)) &&& 3689348814741910323) + ((((x0 - (((x0.toUInt64 >>> ((1 : Int32).toInt64.toUInt64 &&& Int64.toUInt64 63)).toInt64) &&& 6148914691236517205)).toUInt64 >>> ((2 : Int32).toInt64.toUInt64 &&& Int64.toUInt64 63)).toInt64) &&& 3689348814741910323)).toUInt64 >>> ((4 : Int32).toInt64.toUInt64 &&& Int64.toUInt64 63)).toInt64)) &&& 1085102592571150095) + (((((((x0 - (((x0.toUInt64 >>> ((1 : Int32).toInt64.toUInt64 &&& Int64.toUInt64 63)).toInt64) &&& 6148914691236517205)) &&& 3689348814741910323) + ((((x0 - (((x0.toUInt64 >>> ((1 : Int32).toInt64.toUInt64 &&& Int64.toUInt64 63)).toInt64) &&& 6148914691236517205)).toUInt64 >>> ((2 : Int32).toInt64.toUInt64 &&& Int64.toUInt64 63)).toInt64) &&& 3689348814741910323)) + (((((x0 - (((x0.toUInt64 >>> ((1 : Int32).toInt64.toUInt64 &&& Int64.toUInt64 63)).toInt64) &&& 6148914691236517205)) &&& 3689348814741910323) + ((((x0 - (((x0.toUInt64 >>> ((1 : Int32).toInt64.toUInt64 &&& Int64.toUInt64 63)).toInt64) &&& 6148914691236517205)).toUInt64 >>> ((2 : Int32).toInt64.toUInt64 &&& Int64.toUInt64 63)).toInt64) &&& 3689348814741910323)).toUInt64 >>> ((4 : Int32).toInt64.toUInt64 &&& Int64.toUInt64 63)).toInt64)) &&& 1085102592571150095).toUInt64 >>> ((8 : Int32).toInt64.toUInt64 &&& Int64.toUInt64 63)).toInt64)) + ((((((((x0 - (((x0.toUInt64 >>> ((1 : Int32).toInt64.toUInt64 &&& Int64.toUInt64 63)).toInt64) &&& 6148914691236517205)) &&& 3689348814741910323) + ((((x0 - (((x0.toUInt64 >>> ((1 : Int32).toInt64.toUInt64 &&& Int64.toUInt64 63)).toInt64) &&& 6148914691236517205)).toUInt64 >>> ((2 : Int32).toInt64.toUInt64 &&& Int64.toUInt64 63)).toInt64) &&& 3689348814741910323)) + (((((x0 - (((x0.toUInt64 >>> ((1 : Int32).toInt64.toUInt64 &&& Int64.toUInt64 63)).toInt64) &&& 6148914691236517205)) &&& 3689348814741910323) + ((((x0 - (((x0.toUInt64 >>> ((1 : Int32).toInt64.toUInt64 &&& Int64.toUInt64 63)).toInt64) &&& 6148914691236517205)).toUInt64 >>> ((2 : Int32).toInt64.toUInt64 &&& Int64.toUInt64 63)).toInt64) &&& 3689348814741910323)).toUInt64 >>> ((4 : Int32).toInt64.toUInt64 &&& Int64.toUInt64 63)).toInt64)) &&& 1085102592571150095) + (((((((x0 - (((x0.toUInt64 >>> ((1 : Int32).toInt64.toUInt64 &&& Int64.toUInt64 63)).toInt64) &&& 6148914691236517205)) &&& 3689348814741910323) + ((((x0 - (((x0.toUInt64 >>> ((1 : Int32).toInt64.toUInt64 &&& Int64.toUInt64 63)).toInt64) &&& 6148914691236517205)).toUInt64 >>> ((2 : Int32).toInt64.toUInt64 &&& Int64.toUInt64 63)).toInt64) &&& 3689348814741910323)) + (((((x0 - (((x0.toUInt64 >>> ((1 : Int32).toInt64.toUInt64 &&& Int64.toUInt64 63)).toInt64) &&& 6148914691236517205)) &&& 3689348814741910323) + ((((x0 - (((x0.toUInt64 >>> ((1 : Int32).toInt64.toUInt64 &&& Int64.toUInt64 63)).toInt64) &&& 6148914691236517205)).toUInt64 >>> ((2 : Int32).toInt64.toUInt64 &&& Int64.toUInt64 63)).toInt64) &&& 3689348814741910323)).toUInt64 >>> ((4 : Int32).toInt64.toUInt64 &&& Int64.toUInt64 63)).toInt64)) &&& 1085102592571150095).toUInt64 >>> ((8 : Int32).toInt64.toUInt64 &&& Int64.toUInt64 63)).toInt64)).toUInt64 >>> ((16 : Int32).toInt64.toUInt64 &&& Int64.toUInt64 63)).toInt64)).toUInt64 >>> ((32 : Int32).toInt64.toUInt64 &&& Int64.toUInt64 63)).toInt64)))]) [0] dJ13_bitCount_95d88_54 rfl (by decide) rfl ?_
  refine go_lload_n C 0 dJ13_bitCount_95d88_55 rfl rfl ?_
  refine go_l2i C dJ13_bitCount_95d88_56 ?_
  refine go_bipush (v := 127) C dJ13_bitCount_95d88_57 (by decide) ?_
  refine go_iand C dJ13_bitCount_95d88_59 ?_
  cases hf
  exact go_iret C dJ13_bitCount_95d88_60
set_option maxRecDepth 20000 in
theorem con_J13_bitCount_95d88 (l : Launch) (K : KK) {x0 : Int64} {z : Int32} (hf : fJ13_bitCount_95d88 x0 = some z) : Con l yJ13_bitCount_95d88 wsJ13_bitCount_95d88 0 K [.long x0] [] (some (.int z)) [] :=
  con_of (cc := cJ13_bitCount_95d88) (maxL := 2) (ret := (some .int)) (own := RJ13) (lv0 := [(0, .long x0)]) (by decide) rfl rfl (Nat.le_of_ble_eq_true rfl) rfl (fun p e s m args below meth c A C => go_lv (lv' := [(0, .long x0)]) [0] rfl (WJ13_bitCount_95d88_0 C hf))
set_option maxRecDepth 20000 in
theorem call_J13_bitCount_95d88 {p : Program} {l : Launch} {e : Env} {s : State} {m : MethodId} {args : Array Value} {below : List Frame} {meth : Method} {c : Code} {K : KK} {A : Nat → Prop} {Q : State → Prop} {cc : ByteArray} {nL : Nat} {own : String} {Ts : List Cond} {ret : Option FieldType} {pc : Nat} {lv : List (Nat × Value)} {st : List Value} {ix d : Nat} {α : Type} {kk : Int32 → Option α} {y : α} {ws : va_W} {q0 : Int64} (C : Cx p s m args meth c K A cc nL own Ts ret) (hG : GoodIn Ts (va_wsS own ix yJ13_bitCount_95d88 wsJ13_bitCount_95d88)) (hd : decode cc pc = .ok (.invokestatic ix, 3)) (hdd : 0 < d) (hro : (st.map fun v => v.category).sum ≤ 8) (hf : (fJ13_bitCount_95d88 q0).bind kk = some y) (k : ∀ v, kk v = some y → Go p l e (RM d) s m args below meth c K A nL 0 0 Q ws (pc + 3) lv (.int v :: st)) : Go p l e (RM d) s m args below meth c K A nL 0 0 Q ws pc lv (.long q0 :: st) := by
  obtain ⟨v, hv, hf⟩ := bd_some hf
  exact go_callS_l (ws := []) (w2 := ws) (ry := (some .int)) (n := 1) (As := [.long q0]) (rest := st) C (con_J13_bitCount_95d88 l K hv) hG (by decide) rfl ⟨Nat.succ_le_of_lt hdd, by show 8 + (2 + 11) + 40 * 0 ≤ 40 * d; omega⟩ ⟨Nat.le_refl _, Nat.le_refl _⟩ rfl rfl hro hd (k v hf)
-- X2_possibleMessages
set_option maxRecDepth 20000 in
set_option maxHeartbeats 2000000 in
theorem WX2_possibleMessages_0 {p : Program} {l : Launch} {e : Env} {s : State} {m : MethodId} {args : Array Value} {below : List Frame} {meth : Method} {c : Code} {K : KK} {A : Nat → Prop} {a : Nat → Nat} (C : Cx p s m args meth c K A cX2_possibleMessages 3 RX2 wsX2_possibleMessages (some .int)) {z : Int32 × (Nat → Int32)} {len : Int32} {sz : Int32} {words : Nat → Int32} {checks : Nat → Int32} {cnt : Int32} {vec : Nat → Int32} {bc : Int32} {pm : Nat → Nat} {sl : Nat → Int32} {ss : Nat → Int32} {sw : Nat → Nat → Int32} {sc : Nat → Nat → Int32} {err : Nat → Int32} {x1 : Int32} {x2 : Int32} (hf : FX2_possibleMessages_0 len sz words checks  err x1 x2 = some z) : Go p l e (RM 4) s m args below meth c K A 3 0 0 (MQ below (QR K (some (.int z.1)) (xW K a len sz words checks cnt z.2 vec bc pm sl ss sw sc) A) args s 0 0 A) (xW K a len sz words checks cnt err vec bc pm sl ss sw sc) 0 [(0, .ref (a 0)), (1, .int x1), (2, .int x2)] [] := by
  unfold FX2_possibleMessages_0 at hf
  refine go_aload_n C 0 dX2_possibleMessages_0 rfl rfl ?_
  refine go_iload_n C 1 dX2_possibleMessages_1 rfl rfl ?_
  refine go_iload_n C 2 dX2_possibleMessages_2 rfl rfl ?_
  refine call_X2_isObservation C gX2_possibleMessages_X2_isObservation dX2_possibleMessages_3 (by decide) (Nat.le_of_ble_eq_true rfl) hf (fun v1 hf => ?_)
  refine go_c1_ne C (tgt := 16) dX2_possibleMessages_6 (by decide) hf (fun h hf => ?_) (fun h hf => ?_)
  · refine go_aload_n C 0 dX2_possibleMessages_16 rfl rfl ?_
    refine go_iload_n C 1 dX2_possibleMessages_17 rfl rfl ?_
    refine go_iload_n C 2 dX2_possibleMessages_18 rfl rfl ?_
    refine call_X2_messagesFitting C gX2_possibleMessages_X2_messagesFitting dX2_possibleMessages_19 (by decide) (Nat.le_of_ble_eq_true rfl) hf (fun v2 hf => ?_)
    refine call_J13_bitCount_95d88 C gX2_possibleMessages_J13_bitCount_95d88 dX2_possibleMessages_22 (by decide) (Nat.le_of_ble_eq_true rfl) hf (fun v3 hf => ?_)
    cases hf
    exact go_iret C dX2_possibleMessages_25
  · refine go_aload_n C 0 dX2_possibleMessages_9 rfl rfl ?_
    refine go_bipush (v := (-2)) C dX2_possibleMessages_10 (by decide) ?_
    refine call_X2_fail C gX2_possibleMessages_X2_fail dX2_possibleMessages_12 (by decide) (Nat.le_of_ble_eq_true rfl) hf (fun v4 hf => ?_)
    cases hf
    exact go_iret C dX2_possibleMessages_15
set_option maxRecDepth 20000 in
theorem con_X2_possibleMessages (l : Launch) (K : KK) (a : Nat → Nat) {len : Int32} {sz : Int32} {words : Nat → Int32} {checks : Nat → Int32} {cnt : Int32} {err : Nat → Int32} {vec : Nat → Int32} {bc : Int32} {pm : Nat → Nat} {sl : Nat → Int32} {ss : Nat → Int32} {sw : Nat → Nat → Int32} {sc : Nat → Nat → Int32} {x1 : Int32} {x2 : Int32} {z : Int32 × (Nat → Int32)} (hf : fX2_possibleMessages len sz words checks err x1 x2 = some z) : Con l yX2_possibleMessages wsX2_possibleMessages 4 K [.ref (a 0), .int x1, .int x2] (xW K a len sz words checks cnt err vec bc pm sl ss sw sc) (some (.int z.1)) (xW K a len sz words checks cnt z.2 vec bc pm sl ss sw sc) :=
  con_of (cc := cX2_possibleMessages) (maxL := 3) (ret := (some .int)) (own := RX2) (lv0 := [(0, .ref (a 0)), (1, .int x1), (2, .int x2)]) (by decide) rfl rfl (Nat.le_of_ble_eq_true rfl) rfl (fun p e s m args below meth c A C => go_lv (lv' := [(0, .ref (a 0)), (1, .int x1), (2, .int x2)]) [0, 1, 2] rfl (WX2_possibleMessages_0 C hf))
set_option maxRecDepth 20000 in
theorem call_X2_possibleMessages {p : Program} {l : Launch} {e : Env} {s : State} {m : MethodId} {args : Array Value} {below : List Frame} {meth : Method} {c : Code} {K : KK} {A : Nat → Prop} {Q : State → Prop} {cc : ByteArray} {nL : Nat} {Ts : List Cond} {ret : Option FieldType} {pc : Nat} {lv : List (Nat × Value)} {st : List Value} {ix d : Nat} {α : Type} {kk : Int32 × (Nat → Int32) → Option α} {y : α} {a : Nat → Nat} {len : Int32} {sz : Int32} {words : Nat → Int32} {checks : Nat → Int32} {cnt : Int32} {err : Nat → Int32} {vec : Nat → Int32} {bc : Int32} {pm : Nat → Nat} {sl : Nat → Int32} {ss : Nat → Int32} {sw : Nat → Nat → Int32} {sc : Nat → Nat → Int32} {q0 : Int32} {q1 : Int32} (C : Cx p s m args meth c K A cc nL RX2 Ts ret) (hG : GoodIn Ts (wsV RX2 ix RX2 yX2_possibleMessages wsX2_possibleMessages)) (hd : decode cc pc = .ok (.invokevirtual ix, 3)) (hdd : 4 < d) (hro : (st.map fun v => v.category).sum ≤ 8) (hf : (fX2_possibleMessages len sz words checks err q0 q1).bind kk = some y) (k : ∀ v, kk v = some y → Go p l e (RM d) s m args below meth c K A nL 0 0 Q (xW K a len sz words checks cnt v.2 vec bc pm sl ss sw sc) (pc + 3) lv (.int (v.1) :: st)) : Go p l e (RM d) s m args below meth c K A nL 0 0 Q (xW K a len sz words checks cnt err vec bc pm sl ss sw sc) pc lv (.int q1 :: .int q0 :: .ref (a 0) :: st) := by
  obtain ⟨v, hv, hf⟩ := bd_some hf
  exact go_callV_full (ry := (some .int)) (n := 2) (b := a 0) (As := [.int q0, .int q1]) (rest := st) C (con_X2_possibleMessages l K a hv) hG (by decide) rfl ⟨Nat.succ_le_of_lt hdd, by show 8 + (3 + 11) + 40 * 4 ≤ 40 * d; omega⟩ ⟨Nat.le_refl _, Nat.le_refl _⟩ ⟨0, 2, _, _, rfl, rfl, rfl⟩ rfl rfl hro hd (k v hf)
-- X2_possibleMessage
set_option maxRecDepth 20000 in
set_option maxHeartbeats 2000000 in
theorem WX2_possibleMessage_13 {p : Program} {l : Launch} {e : Env} {s : State} {m : MethodId} {args : Array Value} {below : List Frame} {meth : Method} {c : Code} {K : KK} {A : Nat → Prop} {a : Nat → Nat} (C : Cx p s m args meth c K A cX2_possibleMessage 8 RX2 wsX2_possibleMessage (some .int)) {z : Int32 × (Nat → Int32)} {len : Int32} {sz : Int32} {words : Nat → Int32} {checks : Nat → Int32} {cnt : Int32} {vec : Nat → Int32} {bc : Int32} {pm : Nat → Nat} {sl : Nat → Int32} {ss : Nat → Int32} {sw : Nat → Nat → Int32} {sc : Nat → Nat → Int32} {err : Nat → Int32} (hf : FX2_possibleMessage_13 len sz words checks  err = some z) : Go p l e (RM 4) s m args below meth c K A 8 0 0 (MQ below (QR K (some (.int z.1)) (xW K a len sz words checks cnt z.2 vec bc pm sl ss sw sc) A) args s 0 0 A) (xW K a len sz words checks cnt err vec bc pm sl ss sw sc) 13 [(0, .ref (a 0))] [] := by
  unfold FX2_possibleMessage_13 at hf
  refine go_aload_n C 0 dX2_possibleMessage_13 rfl rfl ?_
  refine go_bipush (v := (-2)) C dX2_possibleMessage_14 (by decide) ?_
  refine call_X2_fail C gX2_possibleMessage_X2_fail dX2_possibleMessage_16 (by decide) (Nat.le_of_ble_eq_true rfl) hf (fun v1 hf => ?_)
  cases hf
  exact go_iret C dX2_possibleMessage_19
set_option maxRecDepth 20000 in
set_option maxHeartbeats 2000000 in
theorem WX2_possibleMessage_65 {p : Program} {l : Launch} {e : Env} {s : State} {m : MethodId} {args : Array Value} {below : List Frame} {meth : Method} {c : Code} {K : KK} {A : Nat → Prop} {a : Nat → Nat} (C : Cx p s m args meth c K A cX2_possibleMessage 8 RX2 wsX2_possibleMessage (some .int)) {z : Int32 × (Nat → Int32)} {len : Int32} {sz : Int32} {words : Nat → Int32} {checks : Nat → Int32} {cnt : Int32} {vec : Nat → Int32} {bc : Int32} {pm : Nat → Nat} {sl : Nat → Int32} {ss : Nat → Int32} {sw : Nat → Nat → Int32} {sc : Nat → Nat → Int32} {r34 : (Nat → Int32) → Int32 → Int64 → Int32 → Int32 → Option (Int32 × (Nat → Int32))} {err : Nat → Int32} {x3 : Int32} {x4 : Int64} {x6 : Int32} {x7 : Int32} (hr34 : ∀ (err : Nat → Int32) (x3 : Int32) (x4 : Int64) (x6 : Int32) (x7 : Int32), r34 err x3 x4 x6 x7 = some z → Go p l e (RM 4) s m args below meth c K A 8 0 0 (MQ below (QR K (some (.int z.1)) (xW K a len sz words checks cnt z.2 vec bc pm sl ss sw sc) A) args s 0 0 A) (xW K a len sz words checks cnt err vec bc pm sl ss sw sc) 34 [(0, .ref (a 0)), (3, .int x3), (4, .long x4), (6, .int x6), (7, .int x7)] []) (hf : FX2_possibleMessage_65 len sz words checks r34 err x3 x4 x6 x7 = some z) : Go p l e (RM 4) s m args below meth c K A 8 0 0 (MQ below (QR K (some (.int z.1)) (xW K a len sz words checks cnt z.2 vec bc pm sl ss sw sc) A) args s 0 0 A) (xW K a len sz words checks cnt err vec bc pm sl ss sw sc) 65 [(0, .ref (a 0)), (3, .int x3), (4, .long x4), (6, .int x6), (7, .int x7)] [] := by
  unfold FX2_possibleMessage_65 at hf
  refine go_iinc C (v := x7 + 1) (lv' := [(0, .ref (a 0)), (3, .int x3), (4, .long x4), (6, .int x6), (7, .int (x7 + 1))]) 4 [1, 2, 3, 4, 0] dX2_possibleMessage_65 rfl rfl (by decide) rfl ?_
  refine go_goto C (tgt := 34) dX2_possibleMessage_68 (by decide) ?_
  exact hr34 _ _ _ _ _ hf
set_option maxRecDepth 20000 in
set_option maxHeartbeats 2000000 in
theorem WX2_possibleMessage_34 {p : Program} {l : Launch} {e : Env} {s : State} {m : MethodId} {args : Array Value} {below : List Frame} {meth : Method} {c : Code} {K : KK} {A : Nat → Prop} {a : Nat → Nat} (C : Cx p s m args meth c K A cX2_possibleMessage 8 RX2 wsX2_possibleMessage (some .int)) {z : Int32 × (Nat → Int32)} {len : Int32} {sz : Int32} {words : Nat → Int32} {checks : Nat → Int32} {cnt : Int32} {vec : Nat → Int32} {bc : Int32} {pm : Nat → Nat} {sl : Nat → Int32} {ss : Nat → Int32} {sw : Nat → Nat → Int32} {sc : Nat → Nat → Int32} {r34 : (Nat → Int32) → Int32 → Int64 → Int32 → Int32 → Option (Int32 × (Nat → Int32))} {err : Nat → Int32} {x3 : Int32} {x4 : Int64} {x6 : Int32} {x7 : Int32} (hr34 : ∀ (err : Nat → Int32) (x3 : Int32) (x4 : Int64) (x6 : Int32) (x7 : Int32), r34 err x3 x4 x6 x7 = some z → Go p l e (RM 4) s m args below meth c K A 8 0 0 (MQ below (QR K (some (.int z.1)) (xW K a len sz words checks cnt z.2 vec bc pm sl ss sw sc) A) args s 0 0 A) (xW K a len sz words checks cnt err vec bc pm sl ss sw sc) 34 [(0, .ref (a 0)), (3, .int x3), (4, .long x4), (6, .int x6), (7, .int x7)] []) (hf : FX2_possibleMessage_34 len sz words checks r34 err x3 x4 x6 x7 = some z) : Go p l e (RM 4) s m args below meth c K A 8 0 0 (MQ below (QR K (some (.int z.1)) (xW K a len sz words checks cnt z.2 vec bc pm sl ss sw sc) A) args s 0 0 A) (xW K a len sz words checks cnt err vec bc pm sl ss sw sc) 34 [(0, .ref (a 0)), (3, .int x3), (4, .long x4), (6, .int x6), (7, .int x7)] [] := by
  unfold FX2_possibleMessage_34 at hf
  refine go_iload C 4 dX2_possibleMessage_34 rfl ?_
  refine go_bipush (v := 64) C dX2_possibleMessage_36 (by decide) ?_
  refine go_c2_ge C (tgt := 71) dX2_possibleMessage_38 (by decide) hf (fun h hf => ?_) (fun h hf => ?_)
  · refine go_aload_n C 0 dX2_possibleMessage_71 rfl rfl ?_
    refine go_bipush (v := (-3)) C dX2_possibleMessage_72 (by decide) ?_
    refine call_X2_fail C gX2_possibleMessage_X2_fail dX2_possibleMessage_74 (by decide) (Nat.le_of_ble_eq_true rfl) hf (fun v2 hf => ?_)
    cases hf
    exact go_iret C dX2_possibleMessage_77
  · refine go_lload C 2 dX2_possibleMessage_41 rfl ?_
    refine go_iload C 4 dX2_possibleMessage_43 rfl ?_
    refine go_lushr C dX2_possibleMessage_45 ?_
    refine go_lconst (v := 1) C dX2_possibleMessage_46 (by decide) ?_
    refine go_land C dX2_possibleMessage_47 ?_
    refine go_lconst (v := 0) C dX2_possibleMessage_48 (by decide) ?_
    refine go_lcmp C dX2_possibleMessage_49 ?_
    refine go_c1_eq C (tgt := 65) dX2_possibleMessage_50 (by decide) hf (fun h hf => ?_) (fun h hf => ?_)
    · exact WX2_possibleMessage_65 C hr34 hf
    · refine go_iload C 3 dX2_possibleMessage_53 rfl ?_
      refine go_iload_n C 1 dX2_possibleMessage_55 rfl rfl ?_
      refine go_c2_ne C (tgt := 62) dX2_possibleMessage_56 (by decide) hf (fun h hf => ?_) (fun h hf => ?_)
      · refine go_iinc C (v := x6 + 1) (lv' := [(0, .ref (a 0)), (3, .int x3), (4, .long x4), (6, .int (x6 + 1)), (7, .int x7)]) 3 [1, 2, 3, 0, 4] dX2_possibleMessage_62 rfl rfl (by decide) rfl ?_
        exact WX2_possibleMessage_65 C hr34 hf
      · refine go_iload C 4 dX2_possibleMessage_59 rfl ?_
        cases hf
        exact go_iret C dX2_possibleMessage_61
theorem wX2_possibleMessage_34 {p : Program} {l : Launch} {e : Env} {s : State} {m : MethodId} {args : Array Value} {below : List Frame} {meth : Method} {c : Code} {K : KK} {A : Nat → Prop} {a : Nat → Nat} (C : Cx p s m args meth c K A cX2_possibleMessage 8 RX2 wsX2_possibleMessage (some .int)) {z : Int32 × (Nat → Int32)} {len : Int32} {sz : Int32} {words : Nat → Int32} {checks : Nat → Int32} {cnt : Int32} {vec : Nat → Int32} {bc : Int32} {pm : Nat → Nat} {sl : Nat → Int32} {ss : Nat → Int32} {sw : Nat → Nat → Int32} {sc : Nat → Nat → Int32} : ∀ (n : Nat) (err : Nat → Int32) (x3 : Int32) (x4 : Int64) (x6 : Int32) (x7 : Int32), fX2_possibleMessage_34 len sz words checks  n err x3 x4 x6 x7 = some z → Go p l e (RM 4) s m args below meth c K A 8 0 0 (MQ below (QR K (some (.int z.1)) (xW K a len sz words checks cnt z.2 vec bc pm sl ss sw sc) A) args s 0 0 A) (xW K a len sz words checks cnt err vec bc pm sl ss sw sc) 34 [(0, .ref (a 0)), (3, .int x3), (4, .long x4), (6, .int x6), (7, .int x7)] [] := by
  intro n
  induction n with
  | zero => intro _ _ _ _ _ hf; cases hf
  | succ n ih => intro _ _ _ _ _ hf; exact WX2_possibleMessage_34 C  ih hf
set_option maxRecDepth 20000 in
set_option maxHeartbeats 2000000 in
theorem WX2_possibleMessage_0 {p : Program} {l : Launch} {e : Env} {s : State} {m : MethodId} {args : Array Value} {below : List Frame} {meth : Method} {c : Code} {K : KK} {A : Nat → Prop} {a : Nat → Nat} (C : Cx p s m args meth c K A cX2_possibleMessage 8 RX2 wsX2_possibleMessage (some .int)) {z : Int32 × (Nat → Int32)} {len : Int32} {sz : Int32} {words : Nat → Int32} {checks : Nat → Int32} {cnt : Int32} {vec : Nat → Int32} {bc : Int32} {pm : Nat → Nat} {sl : Nat → Int32} {ss : Nat → Int32} {sw : Nat → Nat → Int32} {sc : Nat → Nat → Int32} {err : Nat → Int32} {x1 : Int32} {x2 : Int32} {x3 : Int32} (hf : FX2_possibleMessage_0 len sz words checks  err x1 x2 x3 = some z) : Go p l e (RM 4) s m args below meth c K A 8 0 0 (MQ below (QR K (some (.int z.1)) (xW K a len sz words checks cnt z.2 vec bc pm sl ss sw sc) A) args s 0 0 A) (xW K a len sz words checks cnt err vec bc pm sl ss sw sc) 0 [(0, .ref (a 0)), (1, .int x1), (2, .int x2), (3, .int x3)] [] := by
  unfold FX2_possibleMessage_0 at hf
  refine go_aload_n C 0 dX2_possibleMessage_0 rfl rfl ?_
  refine go_iload_n C 1 dX2_possibleMessage_1 rfl rfl ?_
  refine go_iload_n C 2 dX2_possibleMessage_2 rfl rfl ?_
  refine call_X2_isObservation C gX2_possibleMessage_X2_isObservation dX2_possibleMessage_3 (by decide) (Nat.le_of_ble_eq_true rfl) hf (fun v3 hf => ?_)
  refine go_c1_eq C (tgt := 13) dX2_possibleMessage_6 (by decide) hf (fun h hf => ?_) (fun h hf => ?_)
  · refine go_lv (lv' := [(0, .ref (a 0))]) [0] rfl ?_
    exact WX2_possibleMessage_13 C  hf
  · refine go_iload_n C 3 dX2_possibleMessage_9 rfl rfl ?_
    refine go_c1_ge C (tgt := 20) dX2_possibleMessage_10 (by decide) hf (fun h hf => ?_) (fun h hf => ?_)
    · refine go_aload_n C 0 dX2_possibleMessage_20 rfl rfl ?_
      refine go_iload_n C 1 dX2_possibleMessage_21 rfl rfl ?_
      refine go_iload_n C 2 dX2_possibleMessage_22 rfl rfl ?_
      refine call_X2_messagesFitting C gX2_possibleMessage_X2_messagesFitting dX2_possibleMessage_23 (by decide) (Nat.le_of_ble_eq_true rfl) hf (fun v4 hf => ?_)
      refine go_lstore C (lv' := [(0, .ref (a 0)), (1, .int x1), (2, .int x2), (3, .int x3), (4, .long v4)]) [1, 2, 3, 4, 0] dX2_possibleMessage_26 (by decide) rfl ?_
      refine go_iconst (v := 0) C dX2_possibleMessage_28 (by decide) ?_
      refine go_istore C (lv' := [(0, .ref (a 0)), (1, .int x1), (2, .int x2), (3, .int x3), (4, .long v4), (6, .int 0)]) [1, 2, 3, 4, 5, 0] dX2_possibleMessage_29 (by decide) rfl ?_
      refine go_iconst (v := 0) C dX2_possibleMessage_31 (by decide) ?_
      refine go_istore C (lv' := [(0, .ref (a 0)), (1, .int x1), (2, .int x2), (3, .int x3), (4, .long v4), (6, .int 0), (7, .int 0)]) [1, 2, 3, 4, 5, 6, 0] dX2_possibleMessage_32 (by decide) rfl ?_
      refine go_lv (lv' := [(0, .ref (a 0)), (3, .int x3), (4, .long v4), (6, .int 0), (7, .int 0)]) [0, 3, 4, 5, 6] rfl ?_
      exact wX2_possibleMessage_34 C  300 _ _ _ _ _ hf
    · refine go_lv (lv' := [(0, .ref (a 0))]) [0] rfl ?_
      exact WX2_possibleMessage_13 C  hf
set_option maxRecDepth 20000 in
theorem con_X2_possibleMessage (l : Launch) (K : KK) (a : Nat → Nat) {len : Int32} {sz : Int32} {words : Nat → Int32} {checks : Nat → Int32} {cnt : Int32} {err : Nat → Int32} {vec : Nat → Int32} {bc : Int32} {pm : Nat → Nat} {sl : Nat → Int32} {ss : Nat → Int32} {sw : Nat → Nat → Int32} {sc : Nat → Nat → Int32} {x1 : Int32} {x2 : Int32} {x3 : Int32} {z : Int32 × (Nat → Int32)} (hf : fX2_possibleMessage len sz words checks err x1 x2 x3 = some z) : Con l yX2_possibleMessage wsX2_possibleMessage 4 K [.ref (a 0), .int x1, .int x2, .int x3] (xW K a len sz words checks cnt err vec bc pm sl ss sw sc) (some (.int z.1)) (xW K a len sz words checks cnt z.2 vec bc pm sl ss sw sc) :=
  con_of (cc := cX2_possibleMessage) (maxL := 8) (ret := (some .int)) (own := RX2) (lv0 := [(0, .ref (a 0)), (1, .int x1), (2, .int x2), (3, .int x3)]) (by decide) rfl rfl (Nat.le_of_ble_eq_true rfl) rfl (fun p e s m args below meth c A C => go_lv (lv' := [(0, .ref (a 0)), (1, .int x1), (2, .int x2), (3, .int x3)]) [0, 1, 2, 3] rfl (WX2_possibleMessage_0 C hf))
set_option maxRecDepth 20000 in
theorem call_X2_possibleMessage {p : Program} {l : Launch} {e : Env} {s : State} {m : MethodId} {args : Array Value} {below : List Frame} {meth : Method} {c : Code} {K : KK} {A : Nat → Prop} {Q : State → Prop} {cc : ByteArray} {nL : Nat} {Ts : List Cond} {ret : Option FieldType} {pc : Nat} {lv : List (Nat × Value)} {st : List Value} {ix d : Nat} {α : Type} {kk : Int32 × (Nat → Int32) → Option α} {y : α} {a : Nat → Nat} {len : Int32} {sz : Int32} {words : Nat → Int32} {checks : Nat → Int32} {cnt : Int32} {err : Nat → Int32} {vec : Nat → Int32} {bc : Int32} {pm : Nat → Nat} {sl : Nat → Int32} {ss : Nat → Int32} {sw : Nat → Nat → Int32} {sc : Nat → Nat → Int32} {q0 : Int32} {q1 : Int32} {q2 : Int32} (C : Cx p s m args meth c K A cc nL RX2 Ts ret) (hG : GoodIn Ts (wsV RX2 ix RX2 yX2_possibleMessage wsX2_possibleMessage)) (hd : decode cc pc = .ok (.invokevirtual ix, 3)) (hdd : 4 < d) (hro : (st.map fun v => v.category).sum ≤ 8) (hf : (fX2_possibleMessage len sz words checks err q0 q1 q2).bind kk = some y) (k : ∀ v, kk v = some y → Go p l e (RM d) s m args below meth c K A nL 0 0 Q (xW K a len sz words checks cnt v.2 vec bc pm sl ss sw sc) (pc + 3) lv (.int (v.1) :: st)) : Go p l e (RM d) s m args below meth c K A nL 0 0 Q (xW K a len sz words checks cnt err vec bc pm sl ss sw sc) pc lv (.int q2 :: .int q1 :: .int q0 :: .ref (a 0) :: st) := by
  obtain ⟨v, hv, hf⟩ := bd_some hf
  exact go_callV_full (ry := (some .int)) (n := 3) (b := a 0) (As := [.int q0, .int q1, .int q2]) (rest := st) C (con_X2_possibleMessage l K a hv) hG (by decide) rfl ⟨Nat.succ_le_of_lt hdd, by show 8 + (8 + 11) + 40 * 4 ≤ 40 * d; omega⟩ ⟨Nat.le_refl _, Nat.le_refl _⟩ ⟨0, 2, _, _, rfl, rfl, rfl⟩ rfl rfl hro hd (k v hf)
-- X2_messageRows
theorem iX2_messageRows_1 : ∀ w ∈ wsX10, w ∈ wsX2_messageRows := by decide +kernel
theorem iX2_messageRows_2 : ∀ w ∈ wsX20, w ∈ wsX2_messageRows := by decide +kernel
theorem kX2_messageRows_12 : Cond.fieldLink RX2 12 "CosetCoder" "state" "LCosetCoder$State;" ∈ wsX2_messageRows := by decide +kernel
set_option maxRecDepth 20000 in
set_option maxHeartbeats 2000000 in
theorem WX2_messageRows_30 {p : Program} {l : Launch} {e : Env} {s : State} {m : MethodId} {args : Array Value} {below : List Frame} {meth : Method} {c : Code} {K : KK} {A : Nat → Prop} {a : Nat → Nat} (C : Cx p s m args meth c K A cX2_messageRows 3 RX2 wsX2_messageRows (some .int)) {z : Int32} {len : Int32} {sz : Int32} {words : Nat → Int32} {checks : Nat → Int32} {cnt : Int32} {err : Nat → Int32} {vec : Nat → Int32} {bc : Int32} {pm : Nat → Nat} {sl : Nat → Int32} {ss : Nat → Int32} {sw : Nat → Nat → Int32} {sc : Nat → Nat → Int32} {r4 : Int32 → Int32 → Option (Int32)} {x1 : Int32} {x2 : Int32} (hr4 : ∀ (x1 : Int32) (x2 : Int32), r4 x1 x2 = some z → Go p l e (RM 0) s m args below meth c K A 3 0 0 (MQ below (QR K (some (.int z)) (xW K a len sz words checks cnt err vec bc pm sl ss sw sc) A) args s 0 0 A) (xW K a len sz words checks cnt err vec bc pm sl ss sw sc) 4 [(0, .ref (a 0)), (1, .int x1), (2, .int x2)] []) (hf : FX2_messageRows_30 sz checks r4 x1 x2 = some z) : Go p l e (RM 0) s m args below meth c K A 3 0 0 (MQ below (QR K (some (.int z)) (xW K a len sz words checks cnt err vec bc pm sl ss sw sc) A) args s 0 0 A) (xW K a len sz words checks cnt err vec bc pm sl ss sw sc) 30 [(0, .ref (a 0)), (1, .int x1), (2, .int x2)] [] := by
  unfold FX2_messageRows_30 at hf
  refine go_iinc C (v := x2 + 1) (lv' := [(0, .ref (a 0)), (1, .int x1), (2, .int (x2 + 1))]) 2 [1, 2, 0] dX2_messageRows_30 rfl rfl (by decide) rfl ?_
  refine go_goto C (tgt := 4) dX2_messageRows_33 (by decide) ?_
  exact hr4 _ _ hf
set_option maxRecDepth 20000 in
set_option maxHeartbeats 2000000 in
theorem WX2_messageRows_4 {p : Program} {l : Launch} {e : Env} {s : State} {m : MethodId} {args : Array Value} {below : List Frame} {meth : Method} {c : Code} {K : KK} {A : Nat → Prop} {a : Nat → Nat} (C : Cx p s m args meth c K A cX2_messageRows 3 RX2 wsX2_messageRows (some .int)) {z : Int32} {len : Int32} {sz : Int32} {words : Nat → Int32} {checks : Nat → Int32} {cnt : Int32} {err : Nat → Int32} {vec : Nat → Int32} {bc : Int32} {pm : Nat → Nat} {sl : Nat → Int32} {ss : Nat → Int32} {sw : Nat → Nat → Int32} {sc : Nat → Nat → Int32} {r4 : Int32 → Int32 → Option (Int32)} {x1 : Int32} {x2 : Int32} (hr4 : ∀ (x1 : Int32) (x2 : Int32), r4 x1 x2 = some z → Go p l e (RM 0) s m args below meth c K A 3 0 0 (MQ below (QR K (some (.int z)) (xW K a len sz words checks cnt err vec bc pm sl ss sw sc) A) args s 0 0 A) (xW K a len sz words checks cnt err vec bc pm sl ss sw sc) 4 [(0, .ref (a 0)), (1, .int x1), (2, .int x2)] []) (hf : FX2_messageRows_4 sz checks r4 x1 x2 = some z) : Go p l e (RM 0) s m args below meth c K A 3 0 0 (MQ below (QR K (some (.int z)) (xW K a len sz words checks cnt err vec bc pm sl ss sw sc) A) args s 0 0 A) (xW K a len sz words checks cnt err vec bc pm sl ss sw sc) 4 [(0, .ref (a 0)), (1, .int x1), (2, .int x2)] [] := by
  unfold FX2_messageRows_4 at hf
  refine go_iload_n C 2 dX2_messageRows_4 rfl rfl ?_
  refine go_aload_n C 0 dX2_messageRows_5 rfl rfl ?_
  refine gX_get_state C iX2_messageRows_2 kX2_messageRows_12 dX2_messageRows_6 ?_
  refine gX_get_n_size C iX2_messageRows_1 dX2_messageRows_9 ?_
  refine go_c2_ge C (tgt := 36) dX2_messageRows_12 (by decide) hf (fun h hf => ?_) (fun h hf => ?_)
  · refine go_iload_n C 1 dX2_messageRows_36 rfl rfl ?_
    cases hf
    exact go_iret C dX2_messageRows_37
  · refine go_aload_n C 0 dX2_messageRows_15 rfl rfl ?_
    refine gX_get_state C iX2_messageRows_2 kX2_messageRows_12 dX2_messageRows_16 ?_
    refine gX_get_n_checks C iX2_messageRows_1 dX2_messageRows_19 ?_
    refine go_iload_n C 2 dX2_messageRows_22 rfl rfl ?_
    refine gX_rd_checks C dX2_messageRows_23 hf (fun v1 hf => ?_)
    refine go_c1_ne C (tgt := 30) dX2_messageRows_24 (by decide) hf (fun h hf => ?_) (fun h hf => ?_)
    · exact WX2_messageRows_30 C hr4 hf
    · refine go_iinc C (v := x1 + 1) (lv' := [(0, .ref (a 0)), (1, .int (x1 + 1)), (2, .int x2)]) 1 [1, 0, 2] dX2_messageRows_27 rfl rfl (by decide) rfl ?_
      exact WX2_messageRows_30 C hr4 hf
theorem wX2_messageRows_4 {p : Program} {l : Launch} {e : Env} {s : State} {m : MethodId} {args : Array Value} {below : List Frame} {meth : Method} {c : Code} {K : KK} {A : Nat → Prop} {a : Nat → Nat} (C : Cx p s m args meth c K A cX2_messageRows 3 RX2 wsX2_messageRows (some .int)) {z : Int32} {len : Int32} {sz : Int32} {words : Nat → Int32} {checks : Nat → Int32} {cnt : Int32} {err : Nat → Int32} {vec : Nat → Int32} {bc : Int32} {pm : Nat → Nat} {sl : Nat → Int32} {ss : Nat → Int32} {sw : Nat → Nat → Int32} {sc : Nat → Nat → Int32} : ∀ (n : Nat) (x1 : Int32) (x2 : Int32), fX2_messageRows_4 sz checks  n x1 x2 = some z → Go p l e (RM 0) s m args below meth c K A 3 0 0 (MQ below (QR K (some (.int z)) (xW K a len sz words checks cnt err vec bc pm sl ss sw sc) A) args s 0 0 A) (xW K a len sz words checks cnt err vec bc pm sl ss sw sc) 4 [(0, .ref (a 0)), (1, .int x1), (2, .int x2)] [] := by
  intro n
  induction n with
  | zero => intro _ _ hf; cases hf
  | succ n ih => intro _ _ hf; exact WX2_messageRows_4 C  ih hf
set_option maxRecDepth 20000 in
set_option maxHeartbeats 2000000 in
theorem WX2_messageRows_0 {p : Program} {l : Launch} {e : Env} {s : State} {m : MethodId} {args : Array Value} {below : List Frame} {meth : Method} {c : Code} {K : KK} {A : Nat → Prop} {a : Nat → Nat} (C : Cx p s m args meth c K A cX2_messageRows 3 RX2 wsX2_messageRows (some .int)) {z : Int32} {len : Int32} {sz : Int32} {words : Nat → Int32} {checks : Nat → Int32} {cnt : Int32} {err : Nat → Int32} {vec : Nat → Int32} {bc : Int32} {pm : Nat → Nat} {sl : Nat → Int32} {ss : Nat → Int32} {sw : Nat → Nat → Int32} {sc : Nat → Nat → Int32} (hf : FX2_messageRows_0 sz checks   = some z) : Go p l e (RM 0) s m args below meth c K A 3 0 0 (MQ below (QR K (some (.int z)) (xW K a len sz words checks cnt err vec bc pm sl ss sw sc) A) args s 0 0 A) (xW K a len sz words checks cnt err vec bc pm sl ss sw sc) 0 [(0, .ref (a 0))] [] := by
  unfold FX2_messageRows_0 at hf
  refine go_iconst (v := 0) C dX2_messageRows_0 (by decide) ?_
  refine go_istore_n C (lv' := [(0, .ref (a 0)), (1, .int 0)]) [1, 0] dX2_messageRows_1 rfl (by decide) rfl ?_
  refine go_iconst (v := 0) C dX2_messageRows_2 (by decide) ?_
  refine go_istore_n C (lv' := [(0, .ref (a 0)), (1, .int 0), (2, .int 0)]) [1, 2, 0] dX2_messageRows_3 rfl (by decide) rfl ?_
  exact wX2_messageRows_4 C  300 _ _ hf
set_option maxRecDepth 20000 in
theorem con_X2_messageRows (l : Launch) (K : KK) (a : Nat → Nat) {len : Int32} {sz : Int32} {words : Nat → Int32} {checks : Nat → Int32} {cnt : Int32} {err : Nat → Int32} {vec : Nat → Int32} {bc : Int32} {pm : Nat → Nat} {sl : Nat → Int32} {ss : Nat → Int32} {sw : Nat → Nat → Int32} {sc : Nat → Nat → Int32} {z : Int32} (hf : fX2_messageRows sz checks = some z) : Con l yX2_messageRows wsX2_messageRows 0 K [.ref (a 0)] (xW K a len sz words checks cnt err vec bc pm sl ss sw sc) (some (.int z)) (xW K a len sz words checks cnt err vec bc pm sl ss sw sc) :=
  con_of (cc := cX2_messageRows) (maxL := 3) (ret := (some .int)) (own := RX2) (lv0 := [(0, .ref (a 0))]) (by decide) rfl rfl (Nat.le_of_ble_eq_true rfl) rfl (fun p e s m args below meth c A C => go_lv (lv' := [(0, .ref (a 0))]) [0] rfl (WX2_messageRows_0 C hf))
set_option maxRecDepth 20000 in
theorem call_X2_messageRows {p : Program} {l : Launch} {e : Env} {s : State} {m : MethodId} {args : Array Value} {below : List Frame} {meth : Method} {c : Code} {K : KK} {A : Nat → Prop} {Q : State → Prop} {cc : ByteArray} {nL : Nat} {Ts : List Cond} {ret : Option FieldType} {pc : Nat} {lv : List (Nat × Value)} {st : List Value} {ix d : Nat} {α : Type} {kk : Int32 → Option α} {y : α} {a : Nat → Nat} {len : Int32} {sz : Int32} {words : Nat → Int32} {checks : Nat → Int32} {cnt : Int32} {err : Nat → Int32} {vec : Nat → Int32} {bc : Int32} {pm : Nat → Nat} {sl : Nat → Int32} {ss : Nat → Int32} {sw : Nat → Nat → Int32} {sc : Nat → Nat → Int32} (C : Cx p s m args meth c K A cc nL RX2 Ts ret) (hG : GoodIn Ts (wsV RX2 ix RX2 yX2_messageRows wsX2_messageRows)) (hd : decode cc pc = .ok (.invokevirtual ix, 3)) (hdd : 0 < d) (hro : (st.map fun v => v.category).sum ≤ 8) (hf : (fX2_messageRows sz checks).bind kk = some y) (k : ∀ v, kk v = some y → Go p l e (RM d) s m args below meth c K A nL 0 0 Q (xW K a len sz words checks cnt err vec bc pm sl ss sw sc) (pc + 3) lv (.int v :: st)) : Go p l e (RM d) s m args below meth c K A nL 0 0 Q (xW K a len sz words checks cnt err vec bc pm sl ss sw sc) pc lv (.ref (a 0) :: st) := by
  obtain ⟨v, hv, hf⟩ := bd_some hf
  exact go_callV_full (ry := (some .int)) (n := 0) (b := a 0) (As := []) (rest := st) C (con_X2_messageRows l K a hv) hG (by decide) rfl ⟨Nat.succ_le_of_lt hdd, by show 8 + (3 + 11) + 40 * 0 ≤ 40 * d; omega⟩ ⟨Nat.le_refl _, Nat.le_refl _⟩ ⟨0, 2, _, _, rfl, rfl, rfl⟩ rfl rfl hro hd (k v hf)
-- X2_knownCombinations
set_option maxRecDepth 20000 in
set_option maxHeartbeats 2000000 in
theorem WX2_knownCombinations_0 {p : Program} {l : Launch} {e : Env} {s : State} {m : MethodId} {args : Array Value} {below : List Frame} {meth : Method} {c : Code} {K : KK} {A : Nat → Prop} {a : Nat → Nat} (C : Cx p s m args meth c K A cX2_knownCombinations 3 RX2 wsX2_knownCombinations (some .int)) {z : Int32 × (Nat → Int32) × (Nat → Int32) × Int32} {len : Int32} {sz : Int32} {words : Nat → Int32} {checks : Nat → Int32} {cnt : Int32} {pm : Nat → Nat} {sl : Nat → Int32} {ss : Nat → Int32} {sw : Nat → Nat → Int32} {sc : Nat → Nat → Int32} {err : Nat → Int32} {vec : Nat → Int32} {bc : Int32} {x1 : Int32} (hf : FX2_knownCombinations_0 len sz words checks  err vec bc x1 = some z) : Go p l e (RM 4) s m args below meth c K A 3 0 0 (MQ below (QR K (some (.int z.1)) (xW K a len sz words checks cnt z.2.1 z.2.2.1 z.2.2.2 pm sl ss sw sc) A) args s 0 0 A) (xW K a len sz words checks cnt err vec bc pm sl ss sw sc) 0 [(0, .ref (a 0)), (1, .int x1)] [] := by
  unfold FX2_knownCombinations_0 at hf
  refine go_aload_n C 0 dX2_knownCombinations_0 rfl rfl ?_
  refine go_iload_n C 1 dX2_knownCombinations_1 rfl rfl ?_
  refine call_X2_isWord C gX2_knownCombinations_X2_isWord dX2_knownCombinations_2 (by decide) (Nat.le_of_ble_eq_true rfl) hf (fun v1 hf => ?_)
  refine go_c1_ne C (tgt := 15) dX2_knownCombinations_5 (by decide) hf (fun h hf => ?_) (fun h hf => ?_)
  · refine go_aload_n C 0 dX2_knownCombinations_15 rfl rfl ?_
    refine go_aload_n C 0 dX2_knownCombinations_16 rfl rfl ?_
    refine call_X2_allPositions C gX2_knownCombinations_X2_allPositions dX2_knownCombinations_17 (by decide) (Nat.le_of_ble_eq_true rfl) hf (fun v2 hf => ?_)
    refine go_iload_n C 1 dX2_knownCombinations_20 rfl rfl ?_
    refine go_iconst (v := (-1)) C dX2_knownCombinations_21 (by decide) ?_
    refine go_ixor C dX2_knownCombinations_22 ?_
    refine go_iand C dX2_knownCombinations_23 ?_
    refine call_X2_hiddenBits C gX2_knownCombinations_X2_hiddenBits dX2_knownCombinations_24 (by decide) (Nat.le_of_ble_eq_true rfl) hf (fun v3 hf => ?_)
    refine go_istore_n C (lv' := [(0, .ref (a 0)), (1, .int x1), (2, .int v3.1)]) [1, 2, 0] dX2_knownCombinations_27 rfl (by decide) rfl ?_
    refine go_iconst (v := 1) C dX2_knownCombinations_28 (by decide) ?_
    refine go_aload_n C 0 dX2_knownCombinations_29 rfl rfl ?_
    refine call_X2_messageRows C gX2_knownCombinations_X2_messageRows dX2_knownCombinations_30 (by decide) (Nat.le_of_ble_eq_true rfl) hf (fun v4 hf => ?_)
    refine go_iload_n C 2 dX2_knownCombinations_33 rfl rfl ?_
    refine go_isub C dX2_knownCombinations_34 ?_
    refine go_ishl C dX2_knownCombinations_35 ?_
    refine go_iconst (v := 1) C dX2_knownCombinations_36 (by decide) ?_
    refine go_isub C dX2_knownCombinations_37 ?_
    cases hf
    exact go_iret C dX2_knownCombinations_38
  · refine go_aload_n C 0 dX2_knownCombinations_8 rfl rfl ?_
    refine go_bipush (v := (-2)) C dX2_knownCombinations_9 (by decide) ?_
    refine call_X2_fail C gX2_knownCombinations_X2_fail dX2_knownCombinations_11 (by decide) (Nat.le_of_ble_eq_true rfl) hf (fun v5 hf => ?_)
    cases hf
    exact go_iret C dX2_knownCombinations_14
set_option maxRecDepth 20000 in
theorem con_X2_knownCombinations (l : Launch) (K : KK) (a : Nat → Nat) {len : Int32} {sz : Int32} {words : Nat → Int32} {checks : Nat → Int32} {cnt : Int32} {err : Nat → Int32} {vec : Nat → Int32} {bc : Int32} {pm : Nat → Nat} {sl : Nat → Int32} {ss : Nat → Int32} {sw : Nat → Nat → Int32} {sc : Nat → Nat → Int32} {x1 : Int32} {z : Int32 × (Nat → Int32) × (Nat → Int32) × Int32} (hf : fX2_knownCombinations len sz words checks err vec bc x1 = some z) : Con l yX2_knownCombinations wsX2_knownCombinations 4 K [.ref (a 0), .int x1] (xW K a len sz words checks cnt err vec bc pm sl ss sw sc) (some (.int z.1)) (xW K a len sz words checks cnt z.2.1 z.2.2.1 z.2.2.2 pm sl ss sw sc) :=
  con_of (cc := cX2_knownCombinations) (maxL := 3) (ret := (some .int)) (own := RX2) (lv0 := [(0, .ref (a 0)), (1, .int x1)]) (by decide) rfl rfl (Nat.le_of_ble_eq_true rfl) rfl (fun p e s m args below meth c A C => go_lv (lv' := [(0, .ref (a 0)), (1, .int x1)]) [0, 1] rfl (WX2_knownCombinations_0 C hf))
set_option maxRecDepth 20000 in
theorem call_X2_knownCombinations {p : Program} {l : Launch} {e : Env} {s : State} {m : MethodId} {args : Array Value} {below : List Frame} {meth : Method} {c : Code} {K : KK} {A : Nat → Prop} {Q : State → Prop} {cc : ByteArray} {nL : Nat} {Ts : List Cond} {ret : Option FieldType} {pc : Nat} {lv : List (Nat × Value)} {st : List Value} {ix d : Nat} {α : Type} {kk : Int32 × (Nat → Int32) × (Nat → Int32) × Int32 → Option α} {y : α} {a : Nat → Nat} {len : Int32} {sz : Int32} {words : Nat → Int32} {checks : Nat → Int32} {cnt : Int32} {err : Nat → Int32} {vec : Nat → Int32} {bc : Int32} {pm : Nat → Nat} {sl : Nat → Int32} {ss : Nat → Int32} {sw : Nat → Nat → Int32} {sc : Nat → Nat → Int32} {q0 : Int32} (C : Cx p s m args meth c K A cc nL RX2 Ts ret) (hG : GoodIn Ts (wsV RX2 ix RX2 yX2_knownCombinations wsX2_knownCombinations)) (hd : decode cc pc = .ok (.invokevirtual ix, 3)) (hdd : 4 < d) (hro : (st.map fun v => v.category).sum ≤ 8) (hf : (fX2_knownCombinations len sz words checks err vec bc q0).bind kk = some y) (k : ∀ v, kk v = some y → Go p l e (RM d) s m args below meth c K A nL 0 0 Q (xW K a len sz words checks cnt v.2.1 v.2.2.1 v.2.2.2 pm sl ss sw sc) (pc + 3) lv (.int (v.1) :: st)) : Go p l e (RM d) s m args below meth c K A nL 0 0 Q (xW K a len sz words checks cnt err vec bc pm sl ss sw sc) pc lv (.int q0 :: .ref (a 0) :: st) := by
  obtain ⟨v, hv, hf⟩ := bd_some hf
  exact go_callV_full (ry := (some .int)) (n := 1) (b := a 0) (As := [.int q0]) (rest := st) C (con_X2_knownCombinations l K a hv) hG (by decide) rfl ⟨Nat.succ_le_of_lt hdd, by show 8 + (3 + 11) + 40 * 4 ≤ 40 * d; omega⟩ ⟨Nat.le_refl _, Nat.le_refl _⟩ ⟨0, 2, _, _, rfl, rfl, rfl⟩ rfl rfl hro hd (k v hf)
-- X2_undo
theorem iX2_undo_2 : ∀ w ∈ wsX20, w ∈ wsX2_undo := by decide +kernel
theorem kX2_undo_12 : Cond.fieldLink RX2 12 "CosetCoder" "state" "LCosetCoder$State;" ∈ wsX2_undo := by decide +kernel
theorem kX2_undo_16 : Cond.fieldLink RX2 16 "CosetCoder" "saved" "[LCosetCoder$State;" ∈ wsX2_undo := by decide +kernel
theorem kX2_undo_20 : Cond.fieldLink RX2 20 "CosetCoder" "savedCount" "I" ∈ wsX2_undo := by decide +kernel
set_option maxRecDepth 20000 in
set_option maxHeartbeats 2000000 in
theorem WX2_undo_0 {p : Program} {l : Launch} {e : Env} {s : State} {m : MethodId} {args : Array Value} {below : List Frame} {meth : Method} {c : Code} {K : KK} {A : Nat → Prop} {a : Nat → Nat} (C : Cx p s m args meth c K A cX2_undo 1 RX2 wsX2_undo (some .int)) {z : Int32 × Int32 × Int32 × (Nat → Int32) × (Nat → Int32) × Int32 × (Nat → Int32)} {vec : Nat → Int32} {bc : Int32} {pm : Nat → Nat} {sl : Nat → Int32} {ss : Nat → Int32} {sw : Nat → Nat → Int32} {sc : Nat → Nat → Int32} {len : Int32} {sz : Int32} {words : Nat → Int32} {checks : Nat → Int32} {cnt : Int32} {err : Nat → Int32} (hf : FX2_undo_0 pm sl ss sw sc  len sz words checks cnt err = some z) : Go p l e (RM 1) s m args below meth c K A 1 0 0 (MQ below (QR K (some (.int z.1)) (xW K a z.2.1 z.2.2.1 z.2.2.2.1 z.2.2.2.2.1 z.2.2.2.2.2.1 z.2.2.2.2.2.2 vec bc pm sl ss sw sc) A) args s 0 0 A) (xW K a len sz words checks cnt err vec bc pm sl ss sw sc) 0 [(0, .ref (a 0))] [] := by
  unfold FX2_undo_0 at hf
  refine go_aload_n C 0 dX2_undo_0 rfl rfl ?_
  refine gX_get_savedCount C iX2_undo_2 kX2_undo_20 dX2_undo_1 ?_
  refine go_c1_gt C (tgt := 14) dX2_undo_4 (by decide) hf (fun h hf => ?_) (fun h hf => ?_)
  · refine go_aload_n C 0 dX2_undo_14 rfl rfl ?_
    refine go_dup C dX2_undo_15 rfl ?_
    refine gX_get_savedCount C iX2_undo_2 kX2_undo_20 dX2_undo_16 ?_
    refine go_iconst (v := 1) C dX2_undo_19 (by decide) ?_
    refine go_isub C dX2_undo_20 ?_
    refine gX_put_savedCount C iX2_undo_2 kX2_undo_20 dX2_undo_21 ?_
    refine go_aload_n C 0 dX2_undo_24 rfl rfl ?_
    refine gX_get_state C iX2_undo_2 kX2_undo_12 dX2_undo_25 ?_
    refine go_aload_n C 0 dX2_undo_28 rfl rfl ?_
    refine gX_get_saved C iX2_undo_2 kX2_undo_16 dX2_undo_29 ?_
    refine go_aload_n C 0 dX2_undo_32 rfl rfl ?_
    refine gX_get_savedCount C iX2_undo_2 kX2_undo_20 dX2_undo_33 ?_
    refine gX_rd_pm C dX2_undo_36 hf (fun v1 hf => ?_)
    refine gX_copy_out C gX2_undo_X1_copyFrom_n134 (by decide +kernel) (by decide +kernel) (by decide +kernel) dX2_undo_37 (by decide) (Nat.le_of_ble_eq_true rfl) hf (fun v2 hf => ?_)
    refine go_aload_n C 0 dX2_undo_40 rfl rfl ?_
    refine gX_get_savedCount C iX2_undo_2 kX2_undo_20 dX2_undo_41 ?_
    cases hf
    exact go_iret C dX2_undo_44
  · refine go_aload_n C 0 dX2_undo_7 rfl rfl ?_
    refine go_bipush (v := (-6)) C dX2_undo_8 (by decide) ?_
    refine call_X2_fail C gX2_undo_X2_fail dX2_undo_10 (by decide) (Nat.le_of_ble_eq_true rfl) hf (fun v3 hf => ?_)
    cases hf
    exact go_iret C dX2_undo_13
set_option maxRecDepth 20000 in
theorem con_X2_undo (l : Launch) (K : KK) (a : Nat → Nat) {len : Int32} {sz : Int32} {words : Nat → Int32} {checks : Nat → Int32} {cnt : Int32} {err : Nat → Int32} {vec : Nat → Int32} {bc : Int32} {pm : Nat → Nat} {sl : Nat → Int32} {ss : Nat → Int32} {sw : Nat → Nat → Int32} {sc : Nat → Nat → Int32} {z : Int32 × Int32 × Int32 × (Nat → Int32) × (Nat → Int32) × Int32 × (Nat → Int32)} (hf : fX2_undo len sz words checks cnt err pm sl ss sw sc = some z) : Con l yX2_undo wsX2_undo 1 K [.ref (a 0)] (xW K a len sz words checks cnt err vec bc pm sl ss sw sc) (some (.int z.1)) (xW K a z.2.1 z.2.2.1 z.2.2.2.1 z.2.2.2.2.1 z.2.2.2.2.2.1 z.2.2.2.2.2.2 vec bc pm sl ss sw sc) :=
  con_of (cc := cX2_undo) (maxL := 1) (ret := (some .int)) (own := RX2) (lv0 := [(0, .ref (a 0))]) (by decide) rfl rfl (Nat.le_of_ble_eq_true rfl) rfl (fun p e s m args below meth c A C => go_lv (lv' := [(0, .ref (a 0))]) [0] rfl (WX2_undo_0 C hf))
set_option maxRecDepth 20000 in
theorem call_X2_undo {p : Program} {l : Launch} {e : Env} {s : State} {m : MethodId} {args : Array Value} {below : List Frame} {meth : Method} {c : Code} {K : KK} {A : Nat → Prop} {Q : State → Prop} {cc : ByteArray} {nL : Nat} {Ts : List Cond} {ret : Option FieldType} {pc : Nat} {lv : List (Nat × Value)} {st : List Value} {ix d : Nat} {α : Type} {kk : Int32 × Int32 × Int32 × (Nat → Int32) × (Nat → Int32) × Int32 × (Nat → Int32) → Option α} {y : α} {a : Nat → Nat} {len : Int32} {sz : Int32} {words : Nat → Int32} {checks : Nat → Int32} {cnt : Int32} {err : Nat → Int32} {vec : Nat → Int32} {bc : Int32} {pm : Nat → Nat} {sl : Nat → Int32} {ss : Nat → Int32} {sw : Nat → Nat → Int32} {sc : Nat → Nat → Int32} (C : Cx p s m args meth c K A cc nL RX2 Ts ret) (hG : GoodIn Ts (wsV RX2 ix RX2 yX2_undo wsX2_undo)) (hd : decode cc pc = .ok (.invokevirtual ix, 3)) (hdd : 1 < d) (hro : (st.map fun v => v.category).sum ≤ 8) (hf : (fX2_undo len sz words checks cnt err pm sl ss sw sc).bind kk = some y) (k : ∀ v, kk v = some y → Go p l e (RM d) s m args below meth c K A nL 0 0 Q (xW K a v.2.1 v.2.2.1 v.2.2.2.1 v.2.2.2.2.1 v.2.2.2.2.2.1 v.2.2.2.2.2.2 vec bc pm sl ss sw sc) (pc + 3) lv (.int (v.1) :: st)) : Go p l e (RM d) s m args below meth c K A nL 0 0 Q (xW K a len sz words checks cnt err vec bc pm sl ss sw sc) pc lv (.ref (a 0) :: st) := by
  obtain ⟨v, hv, hf⟩ := bd_some hf
  exact go_callV_full (ry := (some .int)) (n := 0) (b := a 0) (As := []) (rest := st) C (con_X2_undo l K a hv) hG (by decide) rfl ⟨Nat.succ_le_of_lt hdd, by show 8 + (1 + 11) + 40 * 1 ≤ 40 * d; omega⟩ ⟨Nat.le_refl _, Nat.le_refl _⟩ ⟨0, 2, _, _, rfl, rfl, rfl⟩ rfl rfl hro hd (k v hf)
-- X2_errorCount
theorem iX2_errorCount_2 : ∀ w ∈ wsX20, w ∈ wsX2_errorCount := by decide +kernel
theorem kX2_errorCount_24 : Cond.fieldLink RX2 24 "CosetCoder" "errors" "[I" ∈ wsX2_errorCount := by decide +kernel
set_option maxRecDepth 20000 in
set_option maxHeartbeats 2000000 in
theorem WX2_errorCount_12 {p : Program} {l : Launch} {e : Env} {s : State} {m : MethodId} {args : Array Value} {below : List Frame} {meth : Method} {c : Code} {K : KK} {A : Nat → Prop} {a : Nat → Nat} (C : Cx p s m args meth c K A cX2_errorCount 2 RX2 wsX2_errorCount (some .int)) {z : Int32 × (Nat → Int32)} {len : Int32} {sz : Int32} {words : Nat → Int32} {checks : Nat → Int32} {cnt : Int32} {vec : Nat → Int32} {bc : Int32} {pm : Nat → Nat} {sl : Nat → Int32} {ss : Nat → Int32} {sw : Nat → Nat → Int32} {sc : Nat → Nat → Int32} {err : Nat → Int32} (hf : FX2_errorCount_12   err = some z) : Go p l e (RM 1) s m args below meth c K A 2 0 0 (MQ below (QR K (some (.int z.1)) (xW K a len sz words checks cnt z.2 vec bc pm sl ss sw sc) A) args s 0 0 A) (xW K a len sz words checks cnt err vec bc pm sl ss sw sc) 12 [(0, .ref (a 0))] [] := by
  unfold FX2_errorCount_12 at hf
  refine go_aload_n C 0 dX2_errorCount_12 rfl rfl ?_
  refine go_bipush (v := (-2)) C dX2_errorCount_13 (by decide) ?_
  refine call_X2_fail C gX2_errorCount_X2_fail dX2_errorCount_15 (by decide) (Nat.le_of_ble_eq_true rfl) hf (fun v1 hf => ?_)
  cases hf
  exact go_iret C dX2_errorCount_18
set_option maxRecDepth 20000 in
set_option maxHeartbeats 2000000 in
theorem WX2_errorCount_0 {p : Program} {l : Launch} {e : Env} {s : State} {m : MethodId} {args : Array Value} {below : List Frame} {meth : Method} {c : Code} {K : KK} {A : Nat → Prop} {a : Nat → Nat} (C : Cx p s m args meth c K A cX2_errorCount 2 RX2 wsX2_errorCount (some .int)) {z : Int32 × (Nat → Int32)} {len : Int32} {sz : Int32} {words : Nat → Int32} {checks : Nat → Int32} {cnt : Int32} {vec : Nat → Int32} {bc : Int32} {pm : Nat → Nat} {sl : Nat → Int32} {ss : Nat → Int32} {sw : Nat → Nat → Int32} {sc : Nat → Nat → Int32} {err : Nat → Int32} {x1 : Int32} (hf : FX2_errorCount_0   err x1 = some z) : Go p l e (RM 1) s m args below meth c K A 2 0 0 (MQ below (QR K (some (.int z.1)) (xW K a len sz words checks cnt z.2 vec bc pm sl ss sw sc) A) args s 0 0 A) (xW K a len sz words checks cnt err vec bc pm sl ss sw sc) 0 [(0, .ref (a 0)), (1, .int x1)] [] := by
  unfold FX2_errorCount_0 at hf
  refine go_iload_n C 1 dX2_errorCount_0 rfl rfl ?_
  refine go_bipush (v := (-6)) C dX2_errorCount_1 (by decide) ?_
  refine go_c2_lt C (tgt := 12) dX2_errorCount_3 (by decide) hf (fun h hf => ?_) (fun h hf => ?_)
  · refine go_lv (lv' := [(0, .ref (a 0))]) [0] rfl ?_
    exact WX2_errorCount_12 C  hf
  · refine go_iload_n C 1 dX2_errorCount_6 rfl rfl ?_
    refine go_bipush (v := (-2)) C dX2_errorCount_7 (by decide) ?_
    refine go_c2_le C (tgt := 19) dX2_errorCount_9 (by decide) hf (fun h hf => ?_) (fun h hf => ?_)
    · refine go_aload_n C 0 dX2_errorCount_19 rfl rfl ?_
      refine gX_get_errors C iX2_errorCount_2 kX2_errorCount_24 dX2_errorCount_20 ?_
      refine go_bipush (v := (-2)) C dX2_errorCount_23 (by decide) ?_
      refine go_iload_n C 1 dX2_errorCount_25 rfl rfl ?_
      refine go_isub C dX2_errorCount_26 ?_
      refine gX_rd_err C dX2_errorCount_27 hf (fun v2 hf => ?_)
      cases hf
      exact go_iret C dX2_errorCount_28
    · refine go_lv (lv' := [(0, .ref (a 0))]) [0] rfl ?_
      exact WX2_errorCount_12 C  hf
set_option maxRecDepth 20000 in
theorem con_X2_errorCount (l : Launch) (K : KK) (a : Nat → Nat) {len : Int32} {sz : Int32} {words : Nat → Int32} {checks : Nat → Int32} {cnt : Int32} {err : Nat → Int32} {vec : Nat → Int32} {bc : Int32} {pm : Nat → Nat} {sl : Nat → Int32} {ss : Nat → Int32} {sw : Nat → Nat → Int32} {sc : Nat → Nat → Int32} {x1 : Int32} {z : Int32 × (Nat → Int32)} (hf : fX2_errorCount err x1 = some z) : Con l yX2_errorCount wsX2_errorCount 1 K [.ref (a 0), .int x1] (xW K a len sz words checks cnt err vec bc pm sl ss sw sc) (some (.int z.1)) (xW K a len sz words checks cnt z.2 vec bc pm sl ss sw sc) :=
  con_of (cc := cX2_errorCount) (maxL := 2) (ret := (some .int)) (own := RX2) (lv0 := [(0, .ref (a 0)), (1, .int x1)]) (by decide) rfl rfl (Nat.le_of_ble_eq_true rfl) rfl (fun p e s m args below meth c A C => go_lv (lv' := [(0, .ref (a 0)), (1, .int x1)]) [0, 1] rfl (WX2_errorCount_0 C hf))
set_option maxRecDepth 20000 in
theorem call_X2_errorCount {p : Program} {l : Launch} {e : Env} {s : State} {m : MethodId} {args : Array Value} {below : List Frame} {meth : Method} {c : Code} {K : KK} {A : Nat → Prop} {Q : State → Prop} {cc : ByteArray} {nL : Nat} {Ts : List Cond} {ret : Option FieldType} {pc : Nat} {lv : List (Nat × Value)} {st : List Value} {ix d : Nat} {α : Type} {kk : Int32 × (Nat → Int32) → Option α} {y : α} {a : Nat → Nat} {len : Int32} {sz : Int32} {words : Nat → Int32} {checks : Nat → Int32} {cnt : Int32} {err : Nat → Int32} {vec : Nat → Int32} {bc : Int32} {pm : Nat → Nat} {sl : Nat → Int32} {ss : Nat → Int32} {sw : Nat → Nat → Int32} {sc : Nat → Nat → Int32} {q0 : Int32} (C : Cx p s m args meth c K A cc nL RX2 Ts ret) (hG : GoodIn Ts (wsV RX2 ix RX2 yX2_errorCount wsX2_errorCount)) (hd : decode cc pc = .ok (.invokevirtual ix, 3)) (hdd : 1 < d) (hro : (st.map fun v => v.category).sum ≤ 8) (hf : (fX2_errorCount err q0).bind kk = some y) (k : ∀ v, kk v = some y → Go p l e (RM d) s m args below meth c K A nL 0 0 Q (xW K a len sz words checks cnt v.2 vec bc pm sl ss sw sc) (pc + 3) lv (.int (v.1) :: st)) : Go p l e (RM d) s m args below meth c K A nL 0 0 Q (xW K a len sz words checks cnt err vec bc pm sl ss sw sc) pc lv (.int q0 :: .ref (a 0) :: st) := by
  obtain ⟨v, hv, hf⟩ := bd_some hf
  exact go_callV_full (ry := (some .int)) (n := 1) (b := a 0) (As := [.int q0]) (rest := st) C (con_X2_errorCount l K a hv) hG (by decide) rfl ⟨Nat.succ_le_of_lt hdd, by show 8 + (2 + 11) + 40 * 1 ≤ 40 * d; omega⟩ ⟨Nat.le_refl _, Nat.le_refl _⟩ ⟨0, 2, _, _, rfl, rfl, rfl⟩ rfl rfl hro hd (k v hf)
-- X2_mix
set_option maxRecDepth 20000 in
set_option maxHeartbeats 2000000 in
theorem WX2_mix_0 {p : Program} {l : Launch} {e : Env} {s : State} {m : MethodId} {args : Array Value} {below : List Frame} {meth : Method} {c : Code} {K : KK} {A : Nat → Prop} {wz : va_W} (C : Cx p s m args meth c K A cX2_mix 3 RX2 wsX2_mix (some .long)) {z : Int64} {x0 : Int64} {x2 : Int32} (hf : FX2_mix_0   x0 x2 = some z) : Go p l e (RM 0) s m args below meth c K A 3 0 0 (MQ below (QR K (some (.long z)) wz A) args s 0 0 A) wz 0 [(0, .long x0), (2, .int x2)] [] := by
  unfold FX2_mix_0 at hf
  refine go_ldc2 (v := 31) C dX2_mix_0 (by decide +kernel) ?_
  refine go_lload_n C 0 dX2_mix_3 rfl rfl ?_
  refine go_lmul C dX2_mix_4 ?_
  refine go_iload_n C 1 dX2_mix_5 rfl rfl ?_
  refine go_i2l C dX2_mix_6 ?_
  refine go_ladd C dX2_mix_7 ?_
  cases hf
  exact go_lret C dX2_mix_8
set_option maxRecDepth 20000 in
theorem con_X2_mix (l : Launch) (K : KK) {x0 : Int64} {x2 : Int32} {z : Int64} (hf : fX2_mix x0 x2 = some z) : Con l yX2_mix wsX2_mix 0 K [.long x0, .int x2] [] (some (.long z)) [] :=
  con_of (cc := cX2_mix) (maxL := 3) (ret := (some .long)) (own := RX2) (lv0 := [(0, .long x0), (2, .int x2)]) (by decide) rfl rfl (Nat.le_of_ble_eq_true rfl) rfl (fun p e s m args below meth c A C => go_lv (lv' := [(0, .long x0), (2, .int x2)]) [0, 1] rfl (WX2_mix_0 C hf))
set_option maxRecDepth 20000 in
theorem call_X2_mix {p : Program} {l : Launch} {e : Env} {s : State} {m : MethodId} {args : Array Value} {below : List Frame} {meth : Method} {c : Code} {K : KK} {A : Nat → Prop} {Q : State → Prop} {cc : ByteArray} {nL : Nat} {own : String} {Ts : List Cond} {ret : Option FieldType} {pc : Nat} {lv : List (Nat × Value)} {st : List Value} {ix d : Nat} {α : Type} {kk : Int64 → Option α} {y : α} {ws : va_W} {q0 : Int64} {q1 : Int32} (C : Cx p s m args meth c K A cc nL own Ts ret) (hG : GoodIn Ts (va_wsS own ix yX2_mix wsX2_mix)) (hd : decode cc pc = .ok (.invokestatic ix, 3)) (hdd : 0 < d) (hro : (st.map fun v => v.category).sum ≤ 8) (hf : (fX2_mix q0 q1).bind kk = some y) (k : ∀ v, kk v = some y → Go p l e (RM d) s m args below meth c K A nL 0 0 Q ws (pc + 3) lv (.long v :: st)) : Go p l e (RM d) s m args below meth c K A nL 0 0 Q ws pc lv (.int q1 :: .long q0 :: st) := by
  obtain ⟨v, hv, hf⟩ := bd_some hf
  exact go_callS_l (ws := []) (w2 := ws) (ry := (some .long)) (n := 2) (As := [.long q0, .int q1]) (rest := st) C (con_X2_mix l K hv) hG (by decide) rfl ⟨Nat.succ_le_of_lt hdd, by show 8 + (3 + 11) + 40 * 0 ≤ 40 * d; omega⟩ ⟨Nat.le_refl _, Nat.le_refl _⟩ rfl rfl hro hd (k v hf)
