-- X3_choiceMany
theorem iX3_choiceMany_3 : ∀ w ∈ wsX30, w ∈ wsX3_choiceMany := by decide +kernel
theorem kX3_choiceMany_22 : Cond.fieldLink RX3 22 "CosetCoderModel" "messageOf" "[I" ∈ wsX3_choiceMany := by decide +kernel
set_option maxRecDepth 20000 in
set_option maxHeartbeats 2000000 in
theorem WX3_choiceMany_32 {p : Program} {l : Launch} {e : Env} {s : State} {m : MethodId} {args : Array Value} {below : List Frame} {meth : Method} {c : Code} {K : KK} {A : Nat → Prop} {a : Nat → Nat} (C : Cx p s m args meth c K A cX3_choiceMany 4 RX3 wsX3_choiceMany (some .int)) {z : Int32 × (Nat → Int32)} {now : Nat → Int32} {past : Nat → Int32} {err : Nat → Int32} {lef : Nat → Int32} {met : Nat → Int32} {par : Nat → Int32} {sv : Int32} {hash : Int64} {r8 : (Nat → Int32) → Int32 → Int32 → Int32 → Option (Int32 × (Nat → Int32))} {msg : Nat → Int32} {x1 : Int32} {x3 : Int32} {t0 : Int32} {t1 : Int32} (hr8 : ∀ (msg : Nat → Int32) (x1 : Int32) (x2 : Int32) (x3 : Int32), r8 msg x1 x2 x3 = some z → Go p l e (RM 3) s m args below meth c K A 4 0 0 (MQ below (QR K (some (.int z.1)) (mW K a now past err lef z.2 met par sv hash) A) args s 0 0 A) (mW K a now past err lef msg met par sv hash) 8 [(0, .ref (a 0)), (1, .int x1), (2, .int x2), (3, .int x3)] []) (hf : FX3_choiceMany_32 now r8 msg x1 x3 t0 t1 = some z) : Go p l e (RM 3) s m args below meth c K A 4 0 0 (MQ below (QR K (some (.int z.1)) (mW K a now past err lef z.2 met par sv hash) A) args s 0 0 A) (mW K a now past err lef msg met par sv hash) 32 [(0, .ref (a 0)), (1, .int x1), (3, .int x3)] [.int t1, .int t0] := by
  unfold FX3_choiceMany_32 at hf
  refine go_iadd C dX3_choiceMany_32 ?_
  refine go_istore_n C (lv' := [(0, .ref (a 0)), (1, .int x1), (2, .int (t0 + t1)), (3, .int x3)]) [1, 2, 0, 3] dX3_choiceMany_33 rfl (by decide) rfl ?_
  refine go_iinc C (v := x3 + 1) (lv' := [(0, .ref (a 0)), (1, .int x1), (2, .int (t0 + t1)), (3, .int (x3 + 1))]) 3 [1, 2, 3, 0] dX3_choiceMany_34 rfl rfl (by decide) rfl ?_
  refine go_goto C (tgt := 8) dX3_choiceMany_37 (by decide) ?_
  exact hr8 _ _ _ _ hf
set_option maxRecDepth 20000 in
set_option maxHeartbeats 2000000 in
theorem WX3_choiceMany_8 {p : Program} {l : Launch} {e : Env} {s : State} {m : MethodId} {args : Array Value} {below : List Frame} {meth : Method} {c : Code} {K : KK} {A : Nat → Prop} {a : Nat → Nat} (C : Cx p s m args meth c K A cX3_choiceMany 4 RX3 wsX3_choiceMany (some .int)) {z : Int32 × (Nat → Int32)} {now : Nat → Int32} {past : Nat → Int32} {err : Nat → Int32} {lef : Nat → Int32} {met : Nat → Int32} {par : Nat → Int32} {sv : Int32} {hash : Int64} {r8 : (Nat → Int32) → Int32 → Int32 → Int32 → Option (Int32 × (Nat → Int32))} {msg : Nat → Int32} {x1 : Int32} {x2 : Int32} {x3 : Int32} (hr8 : ∀ (msg : Nat → Int32) (x1 : Int32) (x2 : Int32) (x3 : Int32), r8 msg x1 x2 x3 = some z → Go p l e (RM 3) s m args below meth c K A 4 0 0 (MQ below (QR K (some (.int z.1)) (mW K a now past err lef z.2 met par sv hash) A) args s 0 0 A) (mW K a now past err lef msg met par sv hash) 8 [(0, .ref (a 0)), (1, .int x1), (2, .int x2), (3, .int x3)] []) (hf : FX3_choiceMany_8 now r8 msg x1 x2 x3 = some z) : Go p l e (RM 3) s m args below meth c K A 4 0 0 (MQ below (QR K (some (.int z.1)) (mW K a now past err lef z.2 met par sv hash) A) args s 0 0 A) (mW K a now past err lef msg met par sv hash) 8 [(0, .ref (a 0)), (1, .int x1), (2, .int x2), (3, .int x3)] [] := by
  unfold FX3_choiceMany_8 at hf
  refine go_iload_n C 3 dX3_choiceMany_8 rfl rfl ?_
  refine go_aload_n C 0 dX3_choiceMany_9 rfl rfl ?_
  refine call_X3_words C gX3_choiceMany_X3_words dX3_choiceMany_10 (by decide) (Nat.le_of_ble_eq_true rfl) hf (fun v1 hf => ?_)
  refine go_c2_ge C (tgt := 40) dX3_choiceMany_13 (by decide) hf (fun h hf => ?_) (fun h hf => ?_)
  · refine go_iload_n C 2 dX3_choiceMany_40 rfl rfl ?_
    cases hf
    exact go_iret C dX3_choiceMany_41
  · refine go_iload_n C 2 dX3_choiceMany_16 rfl rfl ?_
    refine go_aload_n C 0 dX3_choiceMany_17 rfl rfl ?_
    refine gM_get_messageOf C iX3_choiceMany_3 kX3_choiceMany_22 dX3_choiceMany_18 ?_
    refine go_iload_n C 3 dX3_choiceMany_21 rfl rfl ?_
    refine gM_rd_msg C dX3_choiceMany_22 hf (fun v2 hf => ?_)
    refine go_iload_n C 1 dX3_choiceMany_23 rfl rfl ?_
    refine go_c2_ne C (tgt := 31) dX3_choiceMany_24 (by decide) hf (fun h hf => ?_) (fun h hf => ?_)
    · refine go_iconst (v := 0) C dX3_choiceMany_31 (by decide) ?_
      refine go_lv (lv' := [(0, .ref (a 0)), (1, .int x1), (3, .int x3)]) [0, 1, 3] rfl ?_
      exact WX3_choiceMany_32 C hr8 hf
    · refine go_iconst (v := 1) C dX3_choiceMany_27 (by decide) ?_
      refine go_goto C (tgt := 32) dX3_choiceMany_28 (by decide) ?_
      refine go_lv (lv' := [(0, .ref (a 0)), (1, .int x1), (3, .int x3)]) [0, 1, 3] rfl ?_
      exact WX3_choiceMany_32 C hr8 hf
theorem wX3_choiceMany_8 {p : Program} {l : Launch} {e : Env} {s : State} {m : MethodId} {args : Array Value} {below : List Frame} {meth : Method} {c : Code} {K : KK} {A : Nat → Prop} {a : Nat → Nat} (C : Cx p s m args meth c K A cX3_choiceMany 4 RX3 wsX3_choiceMany (some .int)) {z : Int32 × (Nat → Int32)} {now : Nat → Int32} {past : Nat → Int32} {err : Nat → Int32} {lef : Nat → Int32} {met : Nat → Int32} {par : Nat → Int32} {sv : Int32} {hash : Int64} : ∀ (n : Nat) (msg : Nat → Int32) (x1 : Int32) (x2 : Int32) (x3 : Int32), fX3_choiceMany_8 now  n msg x1 x2 x3 = some z → Go p l e (RM 3) s m args below meth c K A 4 0 0 (MQ below (QR K (some (.int z.1)) (mW K a now past err lef z.2 met par sv hash) A) args s 0 0 A) (mW K a now past err lef msg met par sv hash) 8 [(0, .ref (a 0)), (1, .int x1), (2, .int x2), (3, .int x3)] [] := by
  intro n
  induction n with
  | zero => intro _ _ _ _ hf; cases hf
  | succ n ih => intro _ _ _ _ hf; exact WX3_choiceMany_8 C  ih hf
set_option maxRecDepth 20000 in
set_option maxHeartbeats 2000000 in
theorem WX3_choiceMany_0 {p : Program} {l : Launch} {e : Env} {s : State} {m : MethodId} {args : Array Value} {below : List Frame} {meth : Method} {c : Code} {K : KK} {A : Nat → Prop} {a : Nat → Nat} (C : Cx p s m args meth c K A cX3_choiceMany 4 RX3 wsX3_choiceMany (some .int)) {z : Int32 × (Nat → Int32)} {now : Nat → Int32} {past : Nat → Int32} {err : Nat → Int32} {lef : Nat → Int32} {met : Nat → Int32} {par : Nat → Int32} {sv : Int32} {hash : Int64} {msg : Nat → Int32} {x1 : Int32} (hf : FX3_choiceMany_0 now  msg x1 = some z) : Go p l e (RM 3) s m args below meth c K A 4 0 0 (MQ below (QR K (some (.int z.1)) (mW K a now past err lef z.2 met par sv hash) A) args s 0 0 A) (mW K a now past err lef msg met par sv hash) 0 [(0, .ref (a 0)), (1, .int x1)] [] := by
  unfold FX3_choiceMany_0 at hf
  refine go_aload_n C 0 dX3_choiceMany_0 rfl rfl ?_
  refine call_X3_laysMessages C gX3_choiceMany_X3_laysMessages dX3_choiceMany_1 (by decide) (Nat.le_of_ble_eq_true rfl) hf (fun v3 hf => ?_)
  refine go_iconst (v := 0) C dX3_choiceMany_4 (by decide) ?_
  refine go_istore_n C (lv' := [(0, .ref (a 0)), (1, .int x1), (2, .int 0)]) [1, 2, 0] dX3_choiceMany_5 rfl (by decide) rfl ?_
  refine go_iconst (v := 0) C dX3_choiceMany_6 (by decide) ?_
  refine go_istore_n C (lv' := [(0, .ref (a 0)), (1, .int x1), (2, .int 0), (3, .int 0)]) [1, 2, 3, 0] dX3_choiceMany_7 rfl (by decide) rfl ?_
  exact wX3_choiceMany_8 C  300 _ _ _ _ hf
set_option maxRecDepth 20000 in
theorem con_X3_choiceMany (l : Launch) (K : KK) (a : Nat → Nat) {now : Nat → Int32} {past : Nat → Int32} {err : Nat → Int32} {lef : Nat → Int32} {msg : Nat → Int32} {met : Nat → Int32} {par : Nat → Int32} {sv : Int32} {hash : Int64} {x1 : Int32} {z : Int32 × (Nat → Int32)} (hf : fX3_choiceMany now msg x1 = some z) : Con l yX3_choiceMany wsX3_choiceMany 3 K [.ref (a 0), .int x1] (mW K a now past err lef msg met par sv hash) (some (.int z.1)) (mW K a now past err lef z.2 met par sv hash) :=
  con_of (cc := cX3_choiceMany) (maxL := 4) (ret := (some .int)) (own := RX3) (lv0 := [(0, .ref (a 0)), (1, .int x1)]) (by decide) rfl rfl (Nat.le_of_ble_eq_true rfl) rfl (fun p e s m args below meth c A C => go_lv (lv' := [(0, .ref (a 0)), (1, .int x1)]) [0, 1] rfl (WX3_choiceMany_0 C hf))
set_option maxRecDepth 20000 in
theorem call_X3_choiceMany {p : Program} {l : Launch} {e : Env} {s : State} {m : MethodId} {args : Array Value} {below : List Frame} {meth : Method} {c : Code} {K : KK} {A : Nat → Prop} {Q : State → Prop} {cc : ByteArray} {nL : Nat} {Ts : List Cond} {ret : Option FieldType} {pc : Nat} {lv : List (Nat × Value)} {st : List Value} {ix d : Nat} {α : Type} {kk : Int32 × (Nat → Int32) → Option α} {y : α} {a : Nat → Nat} {now : Nat → Int32} {past : Nat → Int32} {err : Nat → Int32} {lef : Nat → Int32} {msg : Nat → Int32} {met : Nat → Int32} {par : Nat → Int32} {sv : Int32} {hash : Int64} {q0 : Int32} (C : Cx p s m args meth c K A cc nL RX3 Ts ret) (hG : GoodIn Ts (wsV RX3 ix RX3 yX3_choiceMany wsX3_choiceMany)) (hd : decode cc pc = .ok (.invokevirtual ix, 3)) (hdd : 3 < d) (hro : (st.map fun v => v.category).sum ≤ 8) (hf : (fX3_choiceMany now msg q0).bind kk = some y) (k : ∀ v, kk v = some y → Go p l e (RM d) s m args below meth c K A nL 0 0 Q (mW K a now past err lef v.2 met par sv hash) (pc + 3) lv (.int (v.1) :: st)) : Go p l e (RM d) s m args below meth c K A nL 0 0 Q (mW K a now past err lef msg met par sv hash) pc lv (.int q0 :: .ref (a 0) :: st) := by
  obtain ⟨v, hv, hf⟩ := bd_some hf
  exact go_callV_full (ry := (some .int)) (n := 1) (b := a 0) (As := [.int q0]) (rest := st) C (con_X3_choiceMany l K a hv) hG (by decide) rfl ⟨Nat.succ_le_of_lt hdd, by show 8 + (4 + 11) + 40 * 3 ≤ 40 * d; omega⟩ ⟨Nat.le_refl _, Nat.le_refl _⟩ ⟨0, 3, _, _, rfl, rfl, rfl⟩ rfl rfl hro hd (k v hf)
-- X3_choices
set_option maxRecDepth 20000 in
set_option maxHeartbeats 2000000 in
theorem WX3_choices_24 {p : Program} {l : Launch} {e : Env} {s : State} {m : MethodId} {args : Array Value} {below : List Frame} {meth : Method} {c : Code} {K : KK} {A : Nat → Prop} {a : Nat → Nat} (C : Cx p s m args meth c K A cX3_choices 2 RX3 wsX3_choices (some .int)) {z : Int32 × (Nat → Int32) × (Nat → Int32)} {now : Nat → Int32} {past : Nat → Int32} {lef : Nat → Int32} {met : Nat → Int32} {par : Nat → Int32} {sv : Int32} {hash : Int64} {err : Nat → Int32} {msg : Nat → Int32} {t0 : Int32} (hf : FX3_choices_24 now  err msg t0 = some z) : Go p l e (RM 4) s m args below meth c K A 2 0 0 (MQ below (QR K (some (.int z.1)) (mW K a now past z.2.1 lef z.2.2 met par sv hash) A) args s 0 0 A) (mW K a now past err lef msg met par sv hash) 24 [] [.int t0] := by
  unfold FX3_choices_24 at hf
  cases hf
  exact go_iret C dX3_choices_24
set_option maxRecDepth 20000 in
set_option maxHeartbeats 2000000 in
theorem WX3_choices_0 {p : Program} {l : Launch} {e : Env} {s : State} {m : MethodId} {args : Array Value} {below : List Frame} {meth : Method} {c : Code} {K : KK} {A : Nat → Prop} {a : Nat → Nat} (C : Cx p s m args meth c K A cX3_choices 2 RX3 wsX3_choices (some .int)) {z : Int32 × (Nat → Int32) × (Nat → Int32)} {now : Nat → Int32} {past : Nat → Int32} {lef : Nat → Int32} {met : Nat → Int32} {par : Nat → Int32} {sv : Int32} {hash : Int64} {err : Nat → Int32} {msg : Nat → Int32} {x1 : Int32} (hf : FX3_choices_0 now  err msg x1 = some z) : Go p l e (RM 4) s m args below meth c K A 2 0 0 (MQ below (QR K (some (.int z.1)) (mW K a now past z.2.1 lef z.2.2 met par sv hash) A) args s 0 0 A) (mW K a now past err lef msg met par sv hash) 0 [(0, .ref (a 0)), (1, .int x1)] [] := by
  unfold FX3_choices_0 at hf
  refine go_iload_n C 1 dX3_choices_0 rfl rfl ?_
  refine go_iconst (v := 0) C dX3_choices_1 (by decide) ?_
  refine go_bipush (v := 63) C dX3_choices_2 (by decide) ?_
  refine call_X3_within C gX3_choices_X3_within dX3_choices_4 (by decide) (Nat.le_of_ble_eq_true rfl) hf (fun v1 hf => ?_)
  refine go_c1_eq C (tgt := 18) dX3_choices_7 (by decide) hf (fun h hf => ?_) (fun h hf => ?_)
  · refine go_aload_n C 0 dX3_choices_18 rfl rfl ?_
    refine go_bipush (v := (-2)) C dX3_choices_19 (by decide) ?_
    refine call_X3_fails C gX3_choices_X3_fails dX3_choices_21 (by decide) (Nat.le_of_ble_eq_true rfl) hf (fun v2 hf => ?_)
    refine go_lv (lv' := []) [] rfl ?_
    exact WX3_choices_24 C  hf
  · refine go_aload_n C 0 dX3_choices_10 rfl rfl ?_
    refine go_iload_n C 1 dX3_choices_11 rfl rfl ?_
    refine call_X3_choiceMany C gX3_choices_X3_choiceMany dX3_choices_12 (by decide) (Nat.le_of_ble_eq_true rfl) hf (fun v3 hf => ?_)
    refine go_goto C (tgt := 24) dX3_choices_15 (by decide) ?_
    refine go_lv (lv' := []) [] rfl ?_
    exact WX3_choices_24 C  hf
set_option maxRecDepth 20000 in
theorem con_X3_choices (l : Launch) (K : KK) (a : Nat → Nat) {now : Nat → Int32} {past : Nat → Int32} {err : Nat → Int32} {lef : Nat → Int32} {msg : Nat → Int32} {met : Nat → Int32} {par : Nat → Int32} {sv : Int32} {hash : Int64} {x1 : Int32} {z : Int32 × (Nat → Int32) × (Nat → Int32)} (hf : fX3_choices now err msg x1 = some z) : Con l yX3_choices wsX3_choices 4 K [.ref (a 0), .int x1] (mW K a now past err lef msg met par sv hash) (some (.int z.1)) (mW K a now past z.2.1 lef z.2.2 met par sv hash) :=
  con_of (cc := cX3_choices) (maxL := 2) (ret := (some .int)) (own := RX3) (lv0 := [(0, .ref (a 0)), (1, .int x1)]) (by decide) rfl rfl (Nat.le_of_ble_eq_true rfl) rfl (fun p e s m args below meth c A C => go_lv (lv' := [(0, .ref (a 0)), (1, .int x1)]) [0, 1] rfl (WX3_choices_0 C hf))
set_option maxRecDepth 20000 in
theorem call_X3_choices {p : Program} {l : Launch} {e : Env} {s : State} {m : MethodId} {args : Array Value} {below : List Frame} {meth : Method} {c : Code} {K : KK} {A : Nat → Prop} {Q : State → Prop} {cc : ByteArray} {nL : Nat} {Ts : List Cond} {ret : Option FieldType} {pc : Nat} {lv : List (Nat × Value)} {st : List Value} {ix d : Nat} {α : Type} {kk : Int32 × (Nat → Int32) × (Nat → Int32) → Option α} {y : α} {a : Nat → Nat} {now : Nat → Int32} {past : Nat → Int32} {err : Nat → Int32} {lef : Nat → Int32} {msg : Nat → Int32} {met : Nat → Int32} {par : Nat → Int32} {sv : Int32} {hash : Int64} {q0 : Int32} (C : Cx p s m args meth c K A cc nL RX3 Ts ret) (hG : GoodIn Ts (wsV RX3 ix RX3 yX3_choices wsX3_choices)) (hd : decode cc pc = .ok (.invokevirtual ix, 3)) (hdd : 4 < d) (hro : (st.map fun v => v.category).sum ≤ 8) (hf : (fX3_choices now err msg q0).bind kk = some y) (k : ∀ v, kk v = some y → Go p l e (RM d) s m args below meth c K A nL 0 0 Q (mW K a now past v.2.1 lef v.2.2 met par sv hash) (pc + 3) lv (.int (v.1) :: st)) : Go p l e (RM d) s m args below meth c K A nL 0 0 Q (mW K a now past err lef msg met par sv hash) pc lv (.int q0 :: .ref (a 0) :: st) := by
  obtain ⟨v, hv, hf⟩ := bd_some hf
  exact go_callV_full (ry := (some .int)) (n := 1) (b := a 0) (As := [.int q0]) (rest := st) C (con_X3_choices l K a hv) hG (by decide) rfl ⟨Nat.succ_le_of_lt hdd, by show 8 + (2 + 11) + 40 * 4 ≤ 40 * d; omega⟩ ⟨Nat.le_refl _, Nat.le_refl _⟩ ⟨0, 3, _, _, rfl, rfl, rfl⟩ rfl rfl hro hd (k v hf)
-- X3_encode
theorem iX3_encode_3 : ∀ w ∈ wsX30, w ∈ wsX3_encode := by decide +kernel
theorem kX3_encode_22 : Cond.fieldLink RX3 22 "CosetCoderModel" "messageOf" "[I" ∈ wsX3_encode := by decide +kernel
set_option maxRecDepth 20000 in
set_option maxHeartbeats 2000000 in
theorem WX3_encode_14 {p : Program} {l : Launch} {e : Env} {s : State} {m : MethodId} {args : Array Value} {below : List Frame} {meth : Method} {c : Code} {K : KK} {A : Nat → Prop} {a : Nat → Nat} (C : Cx p s m args meth c K A cX3_encode 5 RX3 wsX3_encode (some .int)) {z : Int32 × (Nat → Int32) × (Nat → Int32)} {now : Nat → Int32} {past : Nat → Int32} {lef : Nat → Int32} {met : Nat → Int32} {par : Nat → Int32} {sv : Int32} {hash : Int64} {err : Nat → Int32} {msg : Nat → Int32} (hf : FX3_encode_14 now  err msg = some z) : Go p l e (RM 3) s m args below meth c K A 5 0 0 (MQ below (QR K (some (.int z.1)) (mW K a now past z.2.1 lef z.2.2 met par sv hash) A) args s 0 0 A) (mW K a now past err lef msg met par sv hash) 14 [(0, .ref (a 0))] [] := by
  unfold FX3_encode_14 at hf
  refine go_aload_n C 0 dX3_encode_14 rfl rfl ?_
  refine go_bipush (v := (-2)) C dX3_encode_15 (by decide) ?_
  refine call_X3_fails C gX3_encode_X3_fails dX3_encode_17 (by decide) (Nat.le_of_ble_eq_true rfl) hf (fun v1 hf => ?_)
  cases hf
  exact go_iret C dX3_encode_20
set_option maxRecDepth 20000 in
set_option maxHeartbeats 2000000 in
theorem WX3_encode_61 {p : Program} {l : Launch} {e : Env} {s : State} {m : MethodId} {args : Array Value} {below : List Frame} {meth : Method} {c : Code} {K : KK} {A : Nat → Prop} {a : Nat → Nat} (C : Cx p s m args meth c K A cX3_encode 5 RX3 wsX3_encode (some .int)) {z : Int32 × (Nat → Int32) × (Nat → Int32)} {now : Nat → Int32} {past : Nat → Int32} {lef : Nat → Int32} {met : Nat → Int32} {par : Nat → Int32} {sv : Int32} {hash : Int64} {r30 : (Nat → Int32) → (Nat → Int32) → Int32 → Int32 → Int32 → Int32 → Option (Int32 × (Nat → Int32) × (Nat → Int32))} {err : Nat → Int32} {msg : Nat → Int32} {x1 : Int32} {x2 : Int32} {x3 : Int32} {x4 : Int32} (hr30 : ∀ (err : Nat → Int32) (msg : Nat → Int32) (x1 : Int32) (x2 : Int32) (x3 : Int32) (x4 : Int32), r30 err msg x1 x2 x3 x4 = some z → Go p l e (RM 3) s m args below meth c K A 5 0 0 (MQ below (QR K (some (.int z.1)) (mW K a now past z.2.1 lef z.2.2 met par sv hash) A) args s 0 0 A) (mW K a now past err lef msg met par sv hash) 30 [(0, .ref (a 0)), (1, .int x1), (2, .int x2), (3, .int x3), (4, .int x4)] []) (hf : FX3_encode_61 now r30 err msg x1 x2 x3 x4 = some z) : Go p l e (RM 3) s m args below meth c K A 5 0 0 (MQ below (QR K (some (.int z.1)) (mW K a now past z.2.1 lef z.2.2 met par sv hash) A) args s 0 0 A) (mW K a now past err lef msg met par sv hash) 61 [(0, .ref (a 0)), (1, .int x1), (2, .int x2), (3, .int x3), (4, .int x4)] [] := by
  unfold FX3_encode_61 at hf
  refine go_iinc C (v := x4 + 1) (lv' := [(0, .ref (a 0)), (1, .int x1), (2, .int x2), (3, .int x3), (4, .int (x4 + 1))]) 4 [1, 2, 3, 4, 0] dX3_encode_61 rfl rfl (by decide) rfl ?_
  refine go_goto C (tgt := 30) dX3_encode_64 (by decide) ?_
  exact hr30 _ _ _ _ _ _ hf
set_option maxRecDepth 20000 in
set_option maxHeartbeats 2000000 in
theorem WX3_encode_30 {p : Program} {l : Launch} {e : Env} {s : State} {m : MethodId} {args : Array Value} {below : List Frame} {meth : Method} {c : Code} {K : KK} {A : Nat → Prop} {a : Nat → Nat} (C : Cx p s m args meth c K A cX3_encode 5 RX3 wsX3_encode (some .int)) {z : Int32 × (Nat → Int32) × (Nat → Int32)} {now : Nat → Int32} {past : Nat → Int32} {lef : Nat → Int32} {met : Nat → Int32} {par : Nat → Int32} {sv : Int32} {hash : Int64} {r30 : (Nat → Int32) → (Nat → Int32) → Int32 → Int32 → Int32 → Int32 → Option (Int32 × (Nat → Int32) × (Nat → Int32))} {err : Nat → Int32} {msg : Nat → Int32} {x1 : Int32} {x2 : Int32} {x3 : Int32} {x4 : Int32} (hr30 : ∀ (err : Nat → Int32) (msg : Nat → Int32) (x1 : Int32) (x2 : Int32) (x3 : Int32) (x4 : Int32), r30 err msg x1 x2 x3 x4 = some z → Go p l e (RM 3) s m args below meth c K A 5 0 0 (MQ below (QR K (some (.int z.1)) (mW K a now past z.2.1 lef z.2.2 met par sv hash) A) args s 0 0 A) (mW K a now past err lef msg met par sv hash) 30 [(0, .ref (a 0)), (1, .int x1), (2, .int x2), (3, .int x3), (4, .int x4)] []) (hf : FX3_encode_30 now r30 err msg x1 x2 x3 x4 = some z) : Go p l e (RM 3) s m args below meth c K A 5 0 0 (MQ below (QR K (some (.int z.1)) (mW K a now past z.2.1 lef z.2.2 met par sv hash) A) args s 0 0 A) (mW K a now past err lef msg met par sv hash) 30 [(0, .ref (a 0)), (1, .int x1), (2, .int x2), (3, .int x3), (4, .int x4)] [] := by
  unfold FX3_encode_30 at hf
  refine go_iload C 4 dX3_encode_30 rfl ?_
  refine go_aload_n C 0 dX3_encode_32 rfl rfl ?_
  refine call_X3_words C gX3_encode_X3_words dX3_encode_33 (by decide) (Nat.le_of_ble_eq_true rfl) hf (fun v2 hf => ?_)
  refine go_c2_ge C (tgt := 67) dX3_encode_36 (by decide) hf (fun h hf => ?_) (fun h hf => ?_)
  · refine go_aload_n C 0 dX3_encode_67 rfl rfl ?_
    refine go_bipush (v := (-3)) C dX3_encode_68 (by decide) ?_
    refine call_X3_fails C gX3_encode_X3_fails dX3_encode_70 (by decide) (Nat.le_of_ble_eq_true rfl) hf (fun v3 hf => ?_)
    cases hf
    exact go_iret C dX3_encode_73
  · refine go_aload_n C 0 dX3_encode_39 rfl rfl ?_
    refine gM_get_messageOf C iX3_encode_3 kX3_encode_22 dX3_encode_40 ?_
    refine go_iload C 4 dX3_encode_43 rfl ?_
    refine gM_rd_msg C dX3_encode_45 hf (fun v4 hf => ?_)
    refine go_iload_n C 1 dX3_encode_46 rfl rfl ?_
    refine go_c2_ne C (tgt := 61) dX3_encode_47 (by decide) hf (fun h hf => ?_) (fun h hf => ?_)
    · exact WX3_encode_61 C hr30 hf
    · refine go_iload_n C 3 dX3_encode_50 rfl rfl ?_
      refine go_iload_n C 2 dX3_encode_51 rfl rfl ?_
      refine go_c2_ne C (tgt := 58) dX3_encode_52 (by decide) hf (fun h hf => ?_) (fun h hf => ?_)
      · refine go_iinc C (v := x3 + 1) (lv' := [(0, .ref (a 0)), (1, .int x1), (2, .int x2), (3, .int (x3 + 1)), (4, .int x4)]) 3 [1, 2, 3, 0, 4] dX3_encode_58 rfl rfl (by decide) rfl ?_
        exact WX3_encode_61 C hr30 hf
      · refine go_iload C 4 dX3_encode_55 rfl ?_
        cases hf
        exact go_iret C dX3_encode_57
theorem wX3_encode_30 {p : Program} {l : Launch} {e : Env} {s : State} {m : MethodId} {args : Array Value} {below : List Frame} {meth : Method} {c : Code} {K : KK} {A : Nat → Prop} {a : Nat → Nat} (C : Cx p s m args meth c K A cX3_encode 5 RX3 wsX3_encode (some .int)) {z : Int32 × (Nat → Int32) × (Nat → Int32)} {now : Nat → Int32} {past : Nat → Int32} {lef : Nat → Int32} {met : Nat → Int32} {par : Nat → Int32} {sv : Int32} {hash : Int64} : ∀ (n : Nat) (err : Nat → Int32) (msg : Nat → Int32) (x1 : Int32) (x2 : Int32) (x3 : Int32) (x4 : Int32), fX3_encode_30 now  n err msg x1 x2 x3 x4 = some z → Go p l e (RM 3) s m args below meth c K A 5 0 0 (MQ below (QR K (some (.int z.1)) (mW K a now past z.2.1 lef z.2.2 met par sv hash) A) args s 0 0 A) (mW K a now past err lef msg met par sv hash) 30 [(0, .ref (a 0)), (1, .int x1), (2, .int x2), (3, .int x3), (4, .int x4)] [] := by
  intro n
  induction n with
  | zero => intro _ _ _ _ _ _ hf; cases hf
  | succ n ih => intro _ _ _ _ _ _ hf; exact WX3_encode_30 C  ih hf
set_option maxRecDepth 20000 in
set_option maxHeartbeats 2000000 in
theorem WX3_encode_0 {p : Program} {l : Launch} {e : Env} {s : State} {m : MethodId} {args : Array Value} {below : List Frame} {meth : Method} {c : Code} {K : KK} {A : Nat → Prop} {a : Nat → Nat} (C : Cx p s m args meth c K A cX3_encode 5 RX3 wsX3_encode (some .int)) {z : Int32 × (Nat → Int32) × (Nat → Int32)} {now : Nat → Int32} {past : Nat → Int32} {lef : Nat → Int32} {met : Nat → Int32} {par : Nat → Int32} {sv : Int32} {hash : Int64} {err : Nat → Int32} {msg : Nat → Int32} {x1 : Int32} {x2 : Int32} (hf : FX3_encode_0 now  err msg x1 x2 = some z) : Go p l e (RM 3) s m args below meth c K A 5 0 0 (MQ below (QR K (some (.int z.1)) (mW K a now past z.2.1 lef z.2.2 met par sv hash) A) args s 0 0 A) (mW K a now past err lef msg met par sv hash) 0 [(0, .ref (a 0)), (1, .int x1), (2, .int x2)] [] := by
  unfold FX3_encode_0 at hf
  refine go_iload_n C 1 dX3_encode_0 rfl rfl ?_
  refine go_iconst (v := 0) C dX3_encode_1 (by decide) ?_
  refine go_bipush (v := 63) C dX3_encode_2 (by decide) ?_
  refine call_X3_within C gX3_encode_X3_within dX3_encode_4 (by decide) (Nat.le_of_ble_eq_true rfl) hf (fun v5 hf => ?_)
  refine go_c1_eq C (tgt := 14) dX3_encode_7 (by decide) hf (fun h hf => ?_) (fun h hf => ?_)
  · refine go_lv (lv' := [(0, .ref (a 0))]) [0] rfl ?_
    exact WX3_encode_14 C  hf
  · refine go_iload_n C 2 dX3_encode_10 rfl rfl ?_
    refine go_c1_ge C (tgt := 21) dX3_encode_11 (by decide) hf (fun h hf => ?_) (fun h hf => ?_)
    · refine go_aload_n C 0 dX3_encode_21 rfl rfl ?_
      refine call_X3_laysMessages C gX3_encode_X3_laysMessages dX3_encode_22 (by decide) (Nat.le_of_ble_eq_true rfl) hf (fun v6 hf => ?_)
      refine go_iconst (v := 0) C dX3_encode_25 (by decide) ?_
      refine go_istore_n C (lv' := [(0, .ref (a 0)), (1, .int x1), (2, .int x2), (3, .int 0)]) [1, 2, 3, 0] dX3_encode_26 rfl (by decide) rfl ?_
      refine go_iconst (v := 0) C dX3_encode_27 (by decide) ?_
      refine go_istore C (lv' := [(0, .ref (a 0)), (1, .int x1), (2, .int x2), (3, .int 0), (4, .int 0)]) [1, 2, 3, 4, 0] dX3_encode_28 (by decide) rfl ?_
      exact wX3_encode_30 C  300 _ _ _ _ _ _ hf
    · refine go_lv (lv' := [(0, .ref (a 0))]) [0] rfl ?_
      exact WX3_encode_14 C  hf
set_option maxRecDepth 20000 in
theorem con_X3_encode (l : Launch) (K : KK) (a : Nat → Nat) {now : Nat → Int32} {past : Nat → Int32} {err : Nat → Int32} {lef : Nat → Int32} {msg : Nat → Int32} {met : Nat → Int32} {par : Nat → Int32} {sv : Int32} {hash : Int64} {x1 : Int32} {x2 : Int32} {z : Int32 × (Nat → Int32) × (Nat → Int32)} (hf : fX3_encode now err msg x1 x2 = some z) : Con l yX3_encode wsX3_encode 3 K [.ref (a 0), .int x1, .int x2] (mW K a now past err lef msg met par sv hash) (some (.int z.1)) (mW K a now past z.2.1 lef z.2.2 met par sv hash) :=
  con_of (cc := cX3_encode) (maxL := 5) (ret := (some .int)) (own := RX3) (lv0 := [(0, .ref (a 0)), (1, .int x1), (2, .int x2)]) (by decide) rfl rfl (Nat.le_of_ble_eq_true rfl) rfl (fun p e s m args below meth c A C => go_lv (lv' := [(0, .ref (a 0)), (1, .int x1), (2, .int x2)]) [0, 1, 2] rfl (WX3_encode_0 C hf))
set_option maxRecDepth 20000 in
theorem call_X3_encode {p : Program} {l : Launch} {e : Env} {s : State} {m : MethodId} {args : Array Value} {below : List Frame} {meth : Method} {c : Code} {K : KK} {A : Nat → Prop} {Q : State → Prop} {cc : ByteArray} {nL : Nat} {Ts : List Cond} {ret : Option FieldType} {pc : Nat} {lv : List (Nat × Value)} {st : List Value} {ix d : Nat} {α : Type} {kk : Int32 × (Nat → Int32) × (Nat → Int32) → Option α} {y : α} {a : Nat → Nat} {now : Nat → Int32} {past : Nat → Int32} {err : Nat → Int32} {lef : Nat → Int32} {msg : Nat → Int32} {met : Nat → Int32} {par : Nat → Int32} {sv : Int32} {hash : Int64} {q0 : Int32} {q1 : Int32} (C : Cx p s m args meth c K A cc nL RX3 Ts ret) (hG : GoodIn Ts (wsV RX3 ix RX3 yX3_encode wsX3_encode)) (hd : decode cc pc = .ok (.invokevirtual ix, 3)) (hdd : 3 < d) (hro : (st.map fun v => v.category).sum ≤ 8) (hf : (fX3_encode now err msg q0 q1).bind kk = some y) (k : ∀ v, kk v = some y → Go p l e (RM d) s m args below meth c K A nL 0 0 Q (mW K a now past v.2.1 lef v.2.2 met par sv hash) (pc + 3) lv (.int (v.1) :: st)) : Go p l e (RM d) s m args below meth c K A nL 0 0 Q (mW K a now past err lef msg met par sv hash) pc lv (.int q1 :: .int q0 :: .ref (a 0) :: st) := by
  obtain ⟨v, hv, hf⟩ := bd_some hf
  exact go_callV_full (ry := (some .int)) (n := 2) (b := a 0) (As := [.int q0, .int q1]) (rest := st) C (con_X3_encode l K a hv) hG (by decide) rfl ⟨Nat.succ_le_of_lt hdd, by show 8 + (5 + 11) + 40 * 3 ≤ 40 * d; omega⟩ ⟨Nat.le_refl _, Nat.le_refl _⟩ ⟨0, 3, _, _, rfl, rfl, rfl⟩ rfl rfl hro hd (k v hf)
-- X3_nearest
theorem iX3_nearest_3 : ∀ w ∈ wsX30, w ∈ wsX3_nearest := by decide +kernel
theorem kX3_nearest_22 : Cond.fieldLink RX3 22 "CosetCoderModel" "messageOf" "[I" ∈ wsX3_nearest := by decide +kernel
set_option maxRecDepth 20000 in
set_option maxHeartbeats 2000000 in
theorem WX3_nearest_48 {p : Program} {l : Launch} {e : Env} {s : State} {m : MethodId} {args : Array Value} {below : List Frame} {meth : Method} {c : Code} {K : KK} {A : Nat → Prop} {a : Nat → Nat} (C : Cx p s m args meth c K A cX3_nearest 5 RX3 wsX3_nearest (some .int)) {z : Int32} {now : Nat → Int32} {past : Nat → Int32} {err : Nat → Int32} {lef : Nat → Int32} {msg : Nat → Int32} {met : Nat → Int32} {par : Nat → Int32} {sv : Int32} {hash : Int64} {r5 : Int32 → Int32 → Int32 → Option (Int32)} {x1 : Int32} {x3 : Int32} {t0 : Int32} (hr5 : ∀ (x1 : Int32) (x2 : Int32) (x3 : Int32), r5 x1 x2 x3 = some z → Go p l e (RM 1) s m args below meth c K A 5 0 0 (MQ below (QR K (some (.int z)) (mW K a now past err lef msg met par sv hash) A) args s 0 0 A) (mW K a now past err lef msg met par sv hash) 5 [(0, .ref (a 0)), (1, .int x1), (2, .int x2), (3, .int x3)] []) (hf : FX3_nearest_48 now msg r5 x1 x3 t0 = some z) : Go p l e (RM 1) s m args below meth c K A 5 0 0 (MQ below (QR K (some (.int z)) (mW K a now past err lef msg met par sv hash) A) args s 0 0 A) (mW K a now past err lef msg met par sv hash) 48 [(0, .ref (a 0)), (1, .int x1), (3, .int x3)] [.int t0] := by
  unfold FX3_nearest_48 at hf
  refine go_istore_n C (lv' := [(0, .ref (a 0)), (1, .int x1), (2, .int t0), (3, .int x3)]) [1, 2, 0, 3] dX3_nearest_48 rfl (by decide) rfl ?_
  refine go_iinc C (v := x3 + 1) (lv' := [(0, .ref (a 0)), (1, .int x1), (2, .int t0), (3, .int (x3 + 1))]) 3 [1, 2, 3, 0] dX3_nearest_49 rfl rfl (by decide) rfl ?_
  refine go_goto C (tgt := 5) dX3_nearest_52 (by decide) ?_
  exact hr5 _ _ _ hf
set_option maxRecDepth 20000 in
set_option maxHeartbeats 2000000 in
theorem WX3_nearest_34 {p : Program} {l : Launch} {e : Env} {s : State} {m : MethodId} {args : Array Value} {below : List Frame} {meth : Method} {c : Code} {K : KK} {A : Nat → Prop} {a : Nat → Nat} (C : Cx p s m args meth c K A cX3_nearest 5 RX3 wsX3_nearest (some .int)) {z : Int32} {now : Nat → Int32} {past : Nat → Int32} {err : Nat → Int32} {lef : Nat → Int32} {msg : Nat → Int32} {met : Nat → Int32} {par : Nat → Int32} {sv : Int32} {hash : Int64} {r5 : Int32 → Int32 → Int32 → Option (Int32)} {x1 : Int32} {x2 : Int32} {x3 : Int32} {t0 : Int32} (hr5 : ∀ (x1 : Int32) (x2 : Int32) (x3 : Int32), r5 x1 x2 x3 = some z → Go p l e (RM 1) s m args below meth c K A 5 0 0 (MQ below (QR K (some (.int z)) (mW K a now past err lef msg met par sv hash) A) args s 0 0 A) (mW K a now past err lef msg met par sv hash) 5 [(0, .ref (a 0)), (1, .int x1), (2, .int x2), (3, .int x3)] []) (hf : FX3_nearest_34 now msg r5 x1 x2 x3 t0 = some z) : Go p l e (RM 1) s m args below meth c K A 5 0 0 (MQ below (QR K (some (.int z)) (mW K a now past err lef msg met par sv hash) A) args s 0 0 A) (mW K a now past err lef msg met par sv hash) 34 [(0, .ref (a 0)), (1, .int x1), (2, .int x2), (3, .int x3)] [.int t0] := by
  unfold FX3_nearest_34 at hf
  refine go_istore C (lv' := [(0, .ref (a 0)), (1, .int x1), (2, .int x2), (3, .int x3), (4, .int t0)]) [1, 2, 3, 4, 0] dX3_nearest_34 (by decide) rfl ?_
  refine go_iload C 4 dX3_nearest_36 rfl ?_
  refine go_iload_n C 2 dX3_nearest_38 rfl rfl ?_
  refine go_c2_ge C (tgt := 47) dX3_nearest_39 (by decide) hf (fun h hf => ?_) (fun h hf => ?_)
  · refine go_iload_n C 2 dX3_nearest_47 rfl rfl ?_
    refine go_lv (lv' := [(0, .ref (a 0)), (1, .int x1), (3, .int x3)]) [0, 1, 3] rfl ?_
    exact WX3_nearest_48 C hr5 hf
  · refine go_iload C 4 dX3_nearest_42 rfl ?_
    refine go_goto C (tgt := 48) dX3_nearest_44 (by decide) ?_
    refine go_lv (lv' := [(0, .ref (a 0)), (1, .int x1), (3, .int x3)]) [0, 1, 3] rfl ?_
    exact WX3_nearest_48 C hr5 hf
set_option maxRecDepth 20000 in
set_option maxHeartbeats 2000000 in
theorem WX3_nearest_5 {p : Program} {l : Launch} {e : Env} {s : State} {m : MethodId} {args : Array Value} {below : List Frame} {meth : Method} {c : Code} {K : KK} {A : Nat → Prop} {a : Nat → Nat} (C : Cx p s m args meth c K A cX3_nearest 5 RX3 wsX3_nearest (some .int)) {z : Int32} {now : Nat → Int32} {past : Nat → Int32} {err : Nat → Int32} {lef : Nat → Int32} {msg : Nat → Int32} {met : Nat → Int32} {par : Nat → Int32} {sv : Int32} {hash : Int64} {r5 : Int32 → Int32 → Int32 → Option (Int32)} {x1 : Int32} {x2 : Int32} {x3 : Int32} (hr5 : ∀ (x1 : Int32) (x2 : Int32) (x3 : Int32), r5 x1 x2 x3 = some z → Go p l e (RM 1) s m args below meth c K A 5 0 0 (MQ below (QR K (some (.int z)) (mW K a now past err lef msg met par sv hash) A) args s 0 0 A) (mW K a now past err lef msg met par sv hash) 5 [(0, .ref (a 0)), (1, .int x1), (2, .int x2), (3, .int x3)] []) (hf : FX3_nearest_5 now msg r5 x1 x2 x3 = some z) : Go p l e (RM 1) s m args below meth c K A 5 0 0 (MQ below (QR K (some (.int z)) (mW K a now past err lef msg met par sv hash) A) args s 0 0 A) (mW K a now past err lef msg met par sv hash) 5 [(0, .ref (a 0)), (1, .int x1), (2, .int x2), (3, .int x3)] [] := by
  unfold FX3_nearest_5 at hf
  refine go_iload_n C 3 dX3_nearest_5 rfl rfl ?_
  refine go_aload_n C 0 dX3_nearest_6 rfl rfl ?_
  refine call_X3_words C gX3_nearest_X3_words dX3_nearest_7 (by decide) (Nat.le_of_ble_eq_true rfl) hf (fun v1 hf => ?_)
  refine go_c2_ge C (tgt := 55) dX3_nearest_10 (by decide) hf (fun h hf => ?_) (fun h hf => ?_)
  · refine go_iload_n C 2 dX3_nearest_55 rfl rfl ?_
    cases hf
    exact go_iret C dX3_nearest_56
  · refine go_aload_n C 0 dX3_nearest_13 rfl rfl ?_
    refine gM_get_messageOf C iX3_nearest_3 kX3_nearest_22 dX3_nearest_14 ?_
    refine go_iload_n C 3 dX3_nearest_17 rfl rfl ?_
    refine gM_rd_msg C dX3_nearest_18 hf (fun v2 hf => ?_)
    refine go_iconst (v := (-1)) C dX3_nearest_19 (by decide) ?_
    refine go_c2_ne C (tgt := 28) dX3_nearest_20 (by decide) hf (fun h hf => ?_) (fun h hf => ?_)
    · refine go_iload_n C 3 dX3_nearest_28 rfl rfl ?_
      refine go_iload_n C 1 dX3_nearest_29 rfl rfl ?_
      refine go_ixor C dX3_nearest_30 ?_
      refine call_X3_ones C gX3_nearest_X3_ones dX3_nearest_31 (by decide) (Nat.le_of_ble_eq_true rfl) hf (fun v3 hf => ?_)
      exact WX3_nearest_34 C hr5 hf
    · refine go_bipush (v := 99) C dX3_nearest_23 (by decide) ?_
      refine go_goto C (tgt := 34) dX3_nearest_25 (by decide) ?_
      exact WX3_nearest_34 C hr5 hf
theorem wX3_nearest_5 {p : Program} {l : Launch} {e : Env} {s : State} {m : MethodId} {args : Array Value} {below : List Frame} {meth : Method} {c : Code} {K : KK} {A : Nat → Prop} {a : Nat → Nat} (C : Cx p s m args meth c K A cX3_nearest 5 RX3 wsX3_nearest (some .int)) {z : Int32} {now : Nat → Int32} {past : Nat → Int32} {err : Nat → Int32} {lef : Nat → Int32} {msg : Nat → Int32} {met : Nat → Int32} {par : Nat → Int32} {sv : Int32} {hash : Int64} : ∀ (n : Nat) (x1 : Int32) (x2 : Int32) (x3 : Int32), fX3_nearest_5 now msg  n x1 x2 x3 = some z → Go p l e (RM 1) s m args below meth c K A 5 0 0 (MQ below (QR K (some (.int z)) (mW K a now past err lef msg met par sv hash) A) args s 0 0 A) (mW K a now past err lef msg met par sv hash) 5 [(0, .ref (a 0)), (1, .int x1), (2, .int x2), (3, .int x3)] [] := by
  intro n
  induction n with
  | zero => intro _ _ _ hf; cases hf
  | succ n ih => intro _ _ _ hf; exact WX3_nearest_5 C  ih hf
set_option maxRecDepth 20000 in
set_option maxHeartbeats 2000000 in
theorem WX3_nearest_0 {p : Program} {l : Launch} {e : Env} {s : State} {m : MethodId} {args : Array Value} {below : List Frame} {meth : Method} {c : Code} {K : KK} {A : Nat → Prop} {a : Nat → Nat} (C : Cx p s m args meth c K A cX3_nearest 5 RX3 wsX3_nearest (some .int)) {z : Int32} {now : Nat → Int32} {past : Nat → Int32} {err : Nat → Int32} {lef : Nat → Int32} {msg : Nat → Int32} {met : Nat → Int32} {par : Nat → Int32} {sv : Int32} {hash : Int64} {x1 : Int32} (hf : FX3_nearest_0 now msg  x1 = some z) : Go p l e (RM 1) s m args below meth c K A 5 0 0 (MQ below (QR K (some (.int z)) (mW K a now past err lef msg met par sv hash) A) args s 0 0 A) (mW K a now past err lef msg met par sv hash) 0 [(0, .ref (a 0)), (1, .int x1)] [] := by
  unfold FX3_nearest_0 at hf
  refine go_bipush (v := 99) C dX3_nearest_0 (by decide) ?_
  refine go_istore_n C (lv' := [(0, .ref (a 0)), (1, .int x1), (2, .int 99)]) [1, 2, 0] dX3_nearest_2 rfl (by decide) rfl ?_
  refine go_iconst (v := 0) C dX3_nearest_3 (by decide) ?_
  refine go_istore_n C (lv' := [(0, .ref (a 0)), (1, .int x1), (2, .int 99), (3, .int 0)]) [1, 2, 3, 0] dX3_nearest_4 rfl (by decide) rfl ?_
  exact wX3_nearest_5 C  300 _ _ _ hf
set_option maxRecDepth 20000 in
theorem con_X3_nearest (l : Launch) (K : KK) (a : Nat → Nat) {now : Nat → Int32} {past : Nat → Int32} {err : Nat → Int32} {lef : Nat → Int32} {msg : Nat → Int32} {met : Nat → Int32} {par : Nat → Int32} {sv : Int32} {hash : Int64} {x1 : Int32} {z : Int32} (hf : fX3_nearest now msg x1 = some z) : Con l yX3_nearest wsX3_nearest 1 K [.ref (a 0), .int x1] (mW K a now past err lef msg met par sv hash) (some (.int z)) (mW K a now past err lef msg met par sv hash) :=
  con_of (cc := cX3_nearest) (maxL := 5) (ret := (some .int)) (own := RX3) (lv0 := [(0, .ref (a 0)), (1, .int x1)]) (by decide) rfl rfl (Nat.le_of_ble_eq_true rfl) rfl (fun p e s m args below meth c A C => go_lv (lv' := [(0, .ref (a 0)), (1, .int x1)]) [0, 1] rfl (WX3_nearest_0 C hf))
set_option maxRecDepth 20000 in
theorem call_X3_nearest {p : Program} {l : Launch} {e : Env} {s : State} {m : MethodId} {args : Array Value} {below : List Frame} {meth : Method} {c : Code} {K : KK} {A : Nat → Prop} {Q : State → Prop} {cc : ByteArray} {nL : Nat} {Ts : List Cond} {ret : Option FieldType} {pc : Nat} {lv : List (Nat × Value)} {st : List Value} {ix d : Nat} {α : Type} {kk : Int32 → Option α} {y : α} {a : Nat → Nat} {now : Nat → Int32} {past : Nat → Int32} {err : Nat → Int32} {lef : Nat → Int32} {msg : Nat → Int32} {met : Nat → Int32} {par : Nat → Int32} {sv : Int32} {hash : Int64} {q0 : Int32} (C : Cx p s m args meth c K A cc nL RX3 Ts ret) (hG : GoodIn Ts (wsV RX3 ix RX3 yX3_nearest wsX3_nearest)) (hd : decode cc pc = .ok (.invokevirtual ix, 3)) (hdd : 1 < d) (hro : (st.map fun v => v.category).sum ≤ 8) (hf : (fX3_nearest now msg q0).bind kk = some y) (k : ∀ v, kk v = some y → Go p l e (RM d) s m args below meth c K A nL 0 0 Q (mW K a now past err lef msg met par sv hash) (pc + 3) lv (.int v :: st)) : Go p l e (RM d) s m args below meth c K A nL 0 0 Q (mW K a now past err lef msg met par sv hash) pc lv (.int q0 :: .ref (a 0) :: st) := by
  obtain ⟨v, hv, hf⟩ := bd_some hf
  exact go_callV_full (ry := (some .int)) (n := 1) (b := a 0) (As := [.int q0]) (rest := st) C (con_X3_nearest l K a hv) hG (by decide) rfl ⟨Nat.succ_le_of_lt hdd, by show 8 + (5 + 11) + 40 * 1 ≤ 40 * d; omega⟩ ⟨Nat.le_refl _, Nat.le_refl _⟩ ⟨0, 3, _, _, rfl, rfl, rfl⟩ rfl rfl hro hd (k v hf)
-- X3_decoded
theorem iX3_decoded_3 : ∀ w ∈ wsX30, w ∈ wsX3_decoded := by decide +kernel
theorem kX3_decoded_22 : Cond.fieldLink RX3 22 "CosetCoderModel" "messageOf" "[I" ∈ wsX3_decoded := by decide +kernel
set_option maxRecDepth 20000 in
set_option maxHeartbeats 2000000 in
theorem WX3_decoded_69 {p : Program} {l : Launch} {e : Env} {s : State} {m : MethodId} {args : Array Value} {below : List Frame} {meth : Method} {c : Code} {K : KK} {A : Nat → Prop} {a : Nat → Nat} (C : Cx p s m args meth c K A cX3_decoded 5 RX3 wsX3_decoded (some .int)) {z : Int32} {now : Nat → Int32} {past : Nat → Int32} {err : Nat → Int32} {lef : Nat → Int32} {msg : Nat → Int32} {met : Nat → Int32} {par : Nat → Int32} {sv : Int32} {hash : Int64} {r11 : Int32 → Int32 → Int32 → Int32 → Option (Int32)} {x1 : Int32} {x2 : Int32} {x3 : Int32} {x4 : Int32} (hr11 : ∀ (x1 : Int32) (x2 : Int32) (x3 : Int32) (x4 : Int32), r11 x1 x2 x3 x4 = some z → Go p l e (RM 2) s m args below meth c K A 5 0 0 (MQ below (QR K (some (.int z)) (mW K a now past err lef msg met par sv hash) A) args s 0 0 A) (mW K a now past err lef msg met par sv hash) 11 [(0, .ref (a 0)), (1, .int x1), (2, .int x2), (3, .int x3), (4, .int x4)] []) (hf : FX3_decoded_69 now msg r11 x1 x2 x3 x4 = some z) : Go p l e (RM 2) s m args below meth c K A 5 0 0 (MQ below (QR K (some (.int z)) (mW K a now past err lef msg met par sv hash) A) args s 0 0 A) (mW K a now past err lef msg met par sv hash) 69 [(0, .ref (a 0)), (1, .int x1), (2, .int x2), (3, .int x3), (4, .int x4)] [] := by
  unfold FX3_decoded_69 at hf
  refine go_iinc C (v := x4 + 1) (lv' := [(0, .ref (a 0)), (1, .int x1), (2, .int x2), (3, .int x3), (4, .int (x4 + 1))]) 4 [1, 2, 3, 4, 0] dX3_decoded_69 rfl rfl (by decide) rfl ?_
  refine go_goto C (tgt := 11) dX3_decoded_72 (by decide) ?_
  exact hr11 _ _ _ _ hf
set_option maxRecDepth 20000 in
set_option maxHeartbeats 2000000 in
theorem WX3_decoded_61 {p : Program} {l : Launch} {e : Env} {s : State} {m : MethodId} {args : Array Value} {below : List Frame} {meth : Method} {c : Code} {K : KK} {A : Nat → Prop} {a : Nat → Nat} (C : Cx p s m args meth c K A cX3_decoded 5 RX3 wsX3_decoded (some .int)) {z : Int32} {now : Nat → Int32} {past : Nat → Int32} {err : Nat → Int32} {lef : Nat → Int32} {msg : Nat → Int32} {met : Nat → Int32} {par : Nat → Int32} {sv : Int32} {hash : Int64} {r11 : Int32 → Int32 → Int32 → Int32 → Option (Int32)} {x1 : Int32} {x2 : Int32} {x4 : Int32} (hr11 : ∀ (x1 : Int32) (x2 : Int32) (x3 : Int32) (x4 : Int32), r11 x1 x2 x3 x4 = some z → Go p l e (RM 2) s m args below meth c K A 5 0 0 (MQ below (QR K (some (.int z)) (mW K a now past err lef msg met par sv hash) A) args s 0 0 A) (mW K a now past err lef msg met par sv hash) 11 [(0, .ref (a 0)), (1, .int x1), (2, .int x2), (3, .int x3), (4, .int x4)] []) (hf : FX3_decoded_61 now msg r11 x1 x2 x4 = some z) : Go p l e (RM 2) s m args below meth c K A 5 0 0 (MQ below (QR K (some (.int z)) (mW K a now past err lef msg met par sv hash) A) args s 0 0 A) (mW K a now past err lef msg met par sv hash) 61 [(0, .ref (a 0)), (1, .int x1), (2, .int x2), (4, .int x4)] [] := by
  unfold FX3_decoded_61 at hf
  refine go_aload_n C 0 dX3_decoded_61 rfl rfl ?_
  refine gM_get_messageOf C iX3_decoded_3 kX3_decoded_22 dX3_decoded_62 ?_
  refine go_iload C 3 dX3_decoded_65 rfl ?_
  refine gM_rd_msg C dX3_decoded_67 hf (fun v1 hf => ?_)
  refine go_istore_n C (lv' := [(0, .ref (a 0)), (1, .int x1), (2, .int x2), (3, .int v1), (4, .int x4)]) [1, 2, 3, 0, 4] dX3_decoded_68 rfl (by decide) rfl ?_
  exact WX3_decoded_69 C hr11 hf
set_option maxRecDepth 20000 in
set_option maxHeartbeats 2000000 in
theorem WX3_decoded_11 {p : Program} {l : Launch} {e : Env} {s : State} {m : MethodId} {args : Array Value} {below : List Frame} {meth : Method} {c : Code} {K : KK} {A : Nat → Prop} {a : Nat → Nat} (C : Cx p s m args meth c K A cX3_decoded 5 RX3 wsX3_decoded (some .int)) {z : Int32} {now : Nat → Int32} {past : Nat → Int32} {err : Nat → Int32} {lef : Nat → Int32} {msg : Nat → Int32} {met : Nat → Int32} {par : Nat → Int32} {sv : Int32} {hash : Int64} {r11 : Int32 → Int32 → Int32 → Int32 → Option (Int32)} {x1 : Int32} {x2 : Int32} {x3 : Int32} {x4 : Int32} (hr11 : ∀ (x1 : Int32) (x2 : Int32) (x3 : Int32) (x4 : Int32), r11 x1 x2 x3 x4 = some z → Go p l e (RM 2) s m args below meth c K A 5 0 0 (MQ below (QR K (some (.int z)) (mW K a now past err lef msg met par sv hash) A) args s 0 0 A) (mW K a now past err lef msg met par sv hash) 11 [(0, .ref (a 0)), (1, .int x1), (2, .int x2), (3, .int x3), (4, .int x4)] []) (hf : FX3_decoded_11 now msg r11 x1 x2 x3 x4 = some z) : Go p l e (RM 2) s m args below meth c K A 5 0 0 (MQ below (QR K (some (.int z)) (mW K a now past err lef msg met par sv hash) A) args s 0 0 A) (mW K a now past err lef msg met par sv hash) 11 [(0, .ref (a 0)), (1, .int x1), (2, .int x2), (3, .int x3), (4, .int x4)] [] := by
  unfold FX3_decoded_11 at hf
  refine go_iload C 4 dX3_decoded_11 rfl ?_
  refine go_aload_n C 0 dX3_decoded_13 rfl rfl ?_
  refine call_X3_words C gX3_decoded_X3_words dX3_decoded_14 (by decide) (Nat.le_of_ble_eq_true rfl) hf (fun v2 hf => ?_)
  refine go_c2_ge C (tgt := 75) dX3_decoded_17 (by decide) hf (fun h hf => ?_) (fun h hf => ?_)
  · refine go_iload_n C 3 dX3_decoded_75 rfl rfl ?_
    cases hf
    exact go_iret C dX3_decoded_76
  · refine go_aload_n C 0 dX3_decoded_20 rfl rfl ?_
    refine gM_get_messageOf C iX3_decoded_3 kX3_decoded_22 dX3_decoded_21 ?_
    refine go_iload C 4 dX3_decoded_24 rfl ?_
    refine gM_rd_msg C dX3_decoded_26 hf (fun v3 hf => ?_)
    refine go_iconst (v := (-1)) C dX3_decoded_27 (by decide) ?_
    refine go_c2_eq C (tgt := 69) dX3_decoded_28 (by decide) hf (fun h hf => ?_) (fun h hf => ?_)
    · exact WX3_decoded_69 C hr11 hf
    · refine go_iload C 4 dX3_decoded_31 rfl ?_
      refine go_iload_n C 1 dX3_decoded_33 rfl rfl ?_
      refine go_ixor C dX3_decoded_34 ?_
      refine call_X3_ones C gX3_decoded_X3_ones dX3_decoded_35 (by decide) (Nat.le_of_ble_eq_true rfl) hf (fun v4 hf => ?_)
      refine go_iload_n C 2 dX3_decoded_38 rfl rfl ?_
      refine go_c2_ne C (tgt := 69) dX3_decoded_39 (by decide) hf (fun h hf => ?_) (fun h hf => ?_)
      · exact WX3_decoded_69 C hr11 hf
      · refine go_iload_n C 3 dX3_decoded_42 rfl rfl ?_
        refine go_iconst (v := (-1)) C dX3_decoded_43 (by decide) ?_
        refine go_c2_eq C (tgt := 61) dX3_decoded_44 (by decide) hf (fun h hf => ?_) (fun h hf => ?_)
        · refine go_lv (lv' := [(0, .ref (a 0)), (1, .int x1), (2, .int x2), (4, .int x4)]) [0, 1, 2, 4] rfl ?_
          exact WX3_decoded_61 C hr11 hf
        · refine go_iload_n C 3 dX3_decoded_47 rfl rfl ?_
          refine go_aload_n C 0 dX3_decoded_48 rfl rfl ?_
          refine gM_get_messageOf C iX3_decoded_3 kX3_decoded_22 dX3_decoded_49 ?_
          refine go_iload C 4 dX3_decoded_52 rfl ?_
          refine gM_rd_msg C dX3_decoded_54 hf (fun v5 hf => ?_)
          refine go_c2_eq C (tgt := 61) dX3_decoded_55 (by decide) hf (fun h hf => ?_) (fun h hf => ?_)
          · refine go_lv (lv' := [(0, .ref (a 0)), (1, .int x1), (2, .int x2), (4, .int x4)]) [0, 1, 2, 4] rfl ?_
            exact WX3_decoded_61 C hr11 hf
          · refine go_bipush (v := (-5)) C dX3_decoded_58 (by decide) ?_
            cases hf
            exact go_iret C dX3_decoded_60
theorem wX3_decoded_11 {p : Program} {l : Launch} {e : Env} {s : State} {m : MethodId} {args : Array Value} {below : List Frame} {meth : Method} {c : Code} {K : KK} {A : Nat → Prop} {a : Nat → Nat} (C : Cx p s m args meth c K A cX3_decoded 5 RX3 wsX3_decoded (some .int)) {z : Int32} {now : Nat → Int32} {past : Nat → Int32} {err : Nat → Int32} {lef : Nat → Int32} {msg : Nat → Int32} {met : Nat → Int32} {par : Nat → Int32} {sv : Int32} {hash : Int64} : ∀ (n : Nat) (x1 : Int32) (x2 : Int32) (x3 : Int32) (x4 : Int32), fX3_decoded_11 now msg  n x1 x2 x3 x4 = some z → Go p l e (RM 2) s m args below meth c K A 5 0 0 (MQ below (QR K (some (.int z)) (mW K a now past err lef msg met par sv hash) A) args s 0 0 A) (mW K a now past err lef msg met par sv hash) 11 [(0, .ref (a 0)), (1, .int x1), (2, .int x2), (3, .int x3), (4, .int x4)] [] := by
  intro n
  induction n with
  | zero => intro _ _ _ _ hf; cases hf
  | succ n ih => intro _ _ _ _ hf; exact WX3_decoded_11 C  ih hf
set_option maxRecDepth 20000 in
set_option maxHeartbeats 2000000 in
theorem WX3_decoded_0 {p : Program} {l : Launch} {e : Env} {s : State} {m : MethodId} {args : Array Value} {below : List Frame} {meth : Method} {c : Code} {K : KK} {A : Nat → Prop} {a : Nat → Nat} (C : Cx p s m args meth c K A cX3_decoded 5 RX3 wsX3_decoded (some .int)) {z : Int32} {now : Nat → Int32} {past : Nat → Int32} {err : Nat → Int32} {lef : Nat → Int32} {msg : Nat → Int32} {met : Nat → Int32} {par : Nat → Int32} {sv : Int32} {hash : Int64} {x1 : Int32} (hf : FX3_decoded_0 now msg  x1 = some z) : Go p l e (RM 2) s m args below meth c K A 5 0 0 (MQ below (QR K (some (.int z)) (mW K a now past err lef msg met par sv hash) A) args s 0 0 A) (mW K a now past err lef msg met par sv hash) 0 [(0, .ref (a 0)), (1, .int x1)] [] := by
  unfold FX3_decoded_0 at hf
  refine go_aload_n C 0 dX3_decoded_0 rfl rfl ?_
  refine go_iload_n C 1 dX3_decoded_1 rfl rfl ?_
  refine call_X3_nearest C gX3_decoded_X3_nearest dX3_decoded_2 (by decide) (Nat.le_of_ble_eq_true rfl) hf (fun v6 hf => ?_)
  refine go_istore_n C (lv' := [(0, .ref (a 0)), (1, .int x1), (2, .int v6)]) [1, 2, 0] dX3_decoded_5 rfl (by decide) rfl ?_
  refine go_iconst (v := (-1)) C dX3_decoded_6 (by decide) ?_
  refine go_istore_n C (lv' := [(0, .ref (a 0)), (1, .int x1), (2, .int v6), (3, .int (-1))]) [1, 2, 3, 0] dX3_decoded_7 rfl (by decide) rfl ?_
  refine go_iconst (v := 0) C dX3_decoded_8 (by decide) ?_
  refine go_istore C (lv' := [(0, .ref (a 0)), (1, .int x1), (2, .int v6), (3, .int (-1)), (4, .int 0)]) [1, 2, 3, 4, 0] dX3_decoded_9 (by decide) rfl ?_
  exact wX3_decoded_11 C  300 _ _ _ _ hf
set_option maxRecDepth 20000 in
theorem con_X3_decoded (l : Launch) (K : KK) (a : Nat → Nat) {now : Nat → Int32} {past : Nat → Int32} {err : Nat → Int32} {lef : Nat → Int32} {msg : Nat → Int32} {met : Nat → Int32} {par : Nat → Int32} {sv : Int32} {hash : Int64} {x1 : Int32} {z : Int32} (hf : fX3_decoded now msg x1 = some z) : Con l yX3_decoded wsX3_decoded 2 K [.ref (a 0), .int x1] (mW K a now past err lef msg met par sv hash) (some (.int z)) (mW K a now past err lef msg met par sv hash) :=
  con_of (cc := cX3_decoded) (maxL := 5) (ret := (some .int)) (own := RX3) (lv0 := [(0, .ref (a 0)), (1, .int x1)]) (by decide) rfl rfl (Nat.le_of_ble_eq_true rfl) rfl (fun p e s m args below meth c A C => go_lv (lv' := [(0, .ref (a 0)), (1, .int x1)]) [0, 1] rfl (WX3_decoded_0 C hf))
set_option maxRecDepth 20000 in
theorem call_X3_decoded {p : Program} {l : Launch} {e : Env} {s : State} {m : MethodId} {args : Array Value} {below : List Frame} {meth : Method} {c : Code} {K : KK} {A : Nat → Prop} {Q : State → Prop} {cc : ByteArray} {nL : Nat} {Ts : List Cond} {ret : Option FieldType} {pc : Nat} {lv : List (Nat × Value)} {st : List Value} {ix d : Nat} {α : Type} {kk : Int32 → Option α} {y : α} {a : Nat → Nat} {now : Nat → Int32} {past : Nat → Int32} {err : Nat → Int32} {lef : Nat → Int32} {msg : Nat → Int32} {met : Nat → Int32} {par : Nat → Int32} {sv : Int32} {hash : Int64} {q0 : Int32} (C : Cx p s m args meth c K A cc nL RX3 Ts ret) (hG : GoodIn Ts (wsV RX3 ix RX3 yX3_decoded wsX3_decoded)) (hd : decode cc pc = .ok (.invokevirtual ix, 3)) (hdd : 2 < d) (hro : (st.map fun v => v.category).sum ≤ 8) (hf : (fX3_decoded now msg q0).bind kk = some y) (k : ∀ v, kk v = some y → Go p l e (RM d) s m args below meth c K A nL 0 0 Q (mW K a now past err lef msg met par sv hash) (pc + 3) lv (.int v :: st)) : Go p l e (RM d) s m args below meth c K A nL 0 0 Q (mW K a now past err lef msg met par sv hash) pc lv (.int q0 :: .ref (a 0) :: st) := by
  obtain ⟨v, hv, hf⟩ := bd_some hf
  exact go_callV_full (ry := (some .int)) (n := 1) (b := a 0) (As := [.int q0]) (rest := st) C (con_X3_decoded l K a hv) hG (by decide) rfl ⟨Nat.succ_le_of_lt hdd, by show 8 + (5 + 11) + 40 * 2 ≤ 40 * d; omega⟩ ⟨Nat.le_refl _, Nat.le_refl _⟩ ⟨0, 3, _, _, rfl, rfl, rfl⟩ rfl rfl hro hd (k v hf)
-- X3_decode
set_option maxRecDepth 20000 in
set_option maxHeartbeats 2000000 in
theorem WX3_decode_41 {p : Program} {l : Launch} {e : Env} {s : State} {m : MethodId} {args : Array Value} {below : List Frame} {meth : Method} {c : Code} {K : KK} {A : Nat → Prop} {a : Nat → Nat} (C : Cx p s m args meth c K A cX3_decode 3 RX3 wsX3_decode (some .int)) {z : Int32 × (Nat → Int32) × (Nat → Int32)} {now : Nat → Int32} {past : Nat → Int32} {lef : Nat → Int32} {met : Nat → Int32} {par : Nat → Int32} {sv : Int32} {hash : Int64} {err : Nat → Int32} {msg : Nat → Int32} {t0 : Int32} (hf : FX3_decode_41 now  err msg t0 = some z) : Go p l e (RM 3) s m args below meth c K A 3 0 0 (MQ below (QR K (some (.int z.1)) (mW K a now past z.2.1 lef z.2.2 met par sv hash) A) args s 0 0 A) (mW K a now past err lef msg met par sv hash) 41 [] [.int t0] := by
  unfold FX3_decode_41 at hf
  cases hf
  exact go_iret C dX3_decode_41
set_option maxRecDepth 20000 in
set_option maxHeartbeats 2000000 in
theorem WX3_decode_0 {p : Program} {l : Launch} {e : Env} {s : State} {m : MethodId} {args : Array Value} {below : List Frame} {meth : Method} {c : Code} {K : KK} {A : Nat → Prop} {a : Nat → Nat} (C : Cx p s m args meth c K A cX3_decode 3 RX3 wsX3_decode (some .int)) {z : Int32 × (Nat → Int32) × (Nat → Int32)} {now : Nat → Int32} {past : Nat → Int32} {lef : Nat → Int32} {met : Nat → Int32} {par : Nat → Int32} {sv : Int32} {hash : Int64} {err : Nat → Int32} {msg : Nat → Int32} {x1 : Int32} (hf : FX3_decode_0 now  err msg x1 = some z) : Go p l e (RM 3) s m args below meth c K A 3 0 0 (MQ below (QR K (some (.int z.1)) (mW K a now past z.2.1 lef z.2.2 met par sv hash) A) args s 0 0 A) (mW K a now past err lef msg met par sv hash) 0 [(0, .ref (a 0)), (1, .int x1)] [] := by
  unfold FX3_decode_0 at hf
  refine go_aload_n C 0 dX3_decode_0 rfl rfl ?_
  refine go_iload_n C 1 dX3_decode_1 rfl rfl ?_
  refine call_X3_isWord C gX3_decode_X3_isWord dX3_decode_2 (by decide) (Nat.le_of_ble_eq_true rfl) hf (fun v1 hf => ?_)
  refine go_c1_ne C (tgt := 15) dX3_decode_5 (by decide) hf (fun h hf => ?_) (fun h hf => ?_)
  · refine go_aload_n C 0 dX3_decode_15 rfl rfl ?_
    refine call_X3_laysMessages C gX3_decode_X3_laysMessages dX3_decode_16 (by decide) (Nat.le_of_ble_eq_true rfl) hf (fun v2 hf => ?_)
    refine go_aload_n C 0 dX3_decode_19 rfl rfl ?_
    refine go_iload_n C 1 dX3_decode_20 rfl rfl ?_
    refine call_X3_decoded C gX3_decode_X3_decoded dX3_decode_21 (by decide) (Nat.le_of_ble_eq_true rfl) hf (fun v3 hf => ?_)
    refine go_istore_n C (lv' := [(0, .ref (a 0)), (1, .int x1), (2, .int v3)]) [1, 2, 0] dX3_decode_24 rfl (by decide) rfl ?_
    refine go_iload_n C 2 dX3_decode_25 rfl rfl ?_
    refine go_bipush (v := (-5)) C dX3_decode_26 (by decide) ?_
    refine go_c2_ne C (tgt := 40) dX3_decode_28 (by decide) hf (fun h hf => ?_) (fun h hf => ?_)
    · refine go_iload_n C 2 dX3_decode_40 rfl rfl ?_
      refine go_lv (lv' := []) [] rfl ?_
      exact WX3_decode_41 C  hf
    · refine go_aload_n C 0 dX3_decode_31 rfl rfl ?_
      refine go_bipush (v := (-5)) C dX3_decode_32 (by decide) ?_
      refine call_X3_fails C gX3_decode_X3_fails dX3_decode_34 (by decide) (Nat.le_of_ble_eq_true rfl) hf (fun v4 hf => ?_)
      refine go_goto C (tgt := 41) dX3_decode_37 (by decide) ?_
      refine go_lv (lv' := []) [] rfl ?_
      exact WX3_decode_41 C  hf
  · refine go_aload_n C 0 dX3_decode_8 rfl rfl ?_
    refine go_bipush (v := (-2)) C dX3_decode_9 (by decide) ?_
    refine call_X3_fails C gX3_decode_X3_fails dX3_decode_11 (by decide) (Nat.le_of_ble_eq_true rfl) hf (fun v5 hf => ?_)
    cases hf
    exact go_iret C dX3_decode_14
set_option maxRecDepth 20000 in
theorem con_X3_decode (l : Launch) (K : KK) (a : Nat → Nat) {now : Nat → Int32} {past : Nat → Int32} {err : Nat → Int32} {lef : Nat → Int32} {msg : Nat → Int32} {met : Nat → Int32} {par : Nat → Int32} {sv : Int32} {hash : Int64} {x1 : Int32} {z : Int32 × (Nat → Int32) × (Nat → Int32)} (hf : fX3_decode now err msg x1 = some z) : Con l yX3_decode wsX3_decode 3 K [.ref (a 0), .int x1] (mW K a now past err lef msg met par sv hash) (some (.int z.1)) (mW K a now past z.2.1 lef z.2.2 met par sv hash) :=
  con_of (cc := cX3_decode) (maxL := 3) (ret := (some .int)) (own := RX3) (lv0 := [(0, .ref (a 0)), (1, .int x1)]) (by decide) rfl rfl (Nat.le_of_ble_eq_true rfl) rfl (fun p e s m args below meth c A C => go_lv (lv' := [(0, .ref (a 0)), (1, .int x1)]) [0, 1] rfl (WX3_decode_0 C hf))
set_option maxRecDepth 20000 in
theorem call_X3_decode {p : Program} {l : Launch} {e : Env} {s : State} {m : MethodId} {args : Array Value} {below : List Frame} {meth : Method} {c : Code} {K : KK} {A : Nat → Prop} {Q : State → Prop} {cc : ByteArray} {nL : Nat} {Ts : List Cond} {ret : Option FieldType} {pc : Nat} {lv : List (Nat × Value)} {st : List Value} {ix d : Nat} {α : Type} {kk : Int32 × (Nat → Int32) × (Nat → Int32) → Option α} {y : α} {a : Nat → Nat} {now : Nat → Int32} {past : Nat → Int32} {err : Nat → Int32} {lef : Nat → Int32} {msg : Nat → Int32} {met : Nat → Int32} {par : Nat → Int32} {sv : Int32} {hash : Int64} {q0 : Int32} (C : Cx p s m args meth c K A cc nL RX3 Ts ret) (hG : GoodIn Ts (wsV RX3 ix RX3 yX3_decode wsX3_decode)) (hd : decode cc pc = .ok (.invokevirtual ix, 3)) (hdd : 3 < d) (hro : (st.map fun v => v.category).sum ≤ 8) (hf : (fX3_decode now err msg q0).bind kk = some y) (k : ∀ v, kk v = some y → Go p l e (RM d) s m args below meth c K A nL 0 0 Q (mW K a now past v.2.1 lef v.2.2 met par sv hash) (pc + 3) lv (.int (v.1) :: st)) : Go p l e (RM d) s m args below meth c K A nL 0 0 Q (mW K a now past err lef msg met par sv hash) pc lv (.int q0 :: .ref (a 0) :: st) := by
  obtain ⟨v, hv, hf⟩ := bd_some hf
  exact go_callV_full (ry := (some .int)) (n := 1) (b := a 0) (As := [.int q0]) (rest := st) C (con_X3_decode l K a hv) hG (by decide) rfl ⟨Nat.succ_le_of_lt hdd, by show 8 + (3 + 11) + 40 * 3 ≤ 40 * d; omega⟩ ⟨Nat.le_refl _, Nat.le_refl _⟩ ⟨0, 3, _, _, rfl, rfl, rfl⟩ rfl rfl hro hd (k v hf)
-- X3_distance
set_option maxRecDepth 20000 in
set_option maxHeartbeats 2000000 in
theorem WX3_distance_0 {p : Program} {l : Launch} {e : Env} {s : State} {m : MethodId} {args : Array Value} {below : List Frame} {meth : Method} {c : Code} {K : KK} {A : Nat → Prop} {a : Nat → Nat} (C : Cx p s m args meth c K A cX3_distance 2 RX3 wsX3_distance (some .int)) {z : Int32 × (Nat → Int32) × (Nat → Int32)} {now : Nat → Int32} {past : Nat → Int32} {lef : Nat → Int32} {met : Nat → Int32} {par : Nat → Int32} {sv : Int32} {hash : Int64} {err : Nat → Int32} {msg : Nat → Int32} {x1 : Int32} (hf : FX3_distance_0 now  err msg x1 = some z) : Go p l e (RM 3) s m args below meth c K A 2 0 0 (MQ below (QR K (some (.int z.1)) (mW K a now past z.2.1 lef z.2.2 met par sv hash) A) args s 0 0 A) (mW K a now past err lef msg met par sv hash) 0 [(0, .ref (a 0)), (1, .int x1)] [] := by
  unfold FX3_distance_0 at hf
  refine go_aload_n C 0 dX3_distance_0 rfl rfl ?_
  refine go_iload_n C 1 dX3_distance_1 rfl rfl ?_
  refine call_X3_isWord C gX3_distance_X3_isWord dX3_distance_2 (by decide) (Nat.le_of_ble_eq_true rfl) hf (fun v1 hf => ?_)
  refine go_c1_ne C (tgt := 15) dX3_distance_5 (by decide) hf (fun h hf => ?_) (fun h hf => ?_)
  · refine go_aload_n C 0 dX3_distance_15 rfl rfl ?_
    refine call_X3_laysMessages C gX3_distance_X3_laysMessages dX3_distance_16 (by decide) (Nat.le_of_ble_eq_true rfl) hf (fun v2 hf => ?_)
    refine go_aload_n C 0 dX3_distance_19 rfl rfl ?_
    refine go_iload_n C 1 dX3_distance_20 rfl rfl ?_
    refine call_X3_nearest C gX3_distance_X3_nearest dX3_distance_21 (by decide) (Nat.le_of_ble_eq_true rfl) hf (fun v3 hf => ?_)
    cases hf
    exact go_iret C dX3_distance_24
  · refine go_aload_n C 0 dX3_distance_8 rfl rfl ?_
    refine go_bipush (v := (-2)) C dX3_distance_9 (by decide) ?_
    refine call_X3_fails C gX3_distance_X3_fails dX3_distance_11 (by decide) (Nat.le_of_ble_eq_true rfl) hf (fun v4 hf => ?_)
    cases hf
    exact go_iret C dX3_distance_14
set_option maxRecDepth 20000 in
theorem con_X3_distance (l : Launch) (K : KK) (a : Nat → Nat) {now : Nat → Int32} {past : Nat → Int32} {err : Nat → Int32} {lef : Nat → Int32} {msg : Nat → Int32} {met : Nat → Int32} {par : Nat → Int32} {sv : Int32} {hash : Int64} {x1 : Int32} {z : Int32 × (Nat → Int32) × (Nat → Int32)} (hf : fX3_distance now err msg x1 = some z) : Con l yX3_distance wsX3_distance 3 K [.ref (a 0), .int x1] (mW K a now past err lef msg met par sv hash) (some (.int z.1)) (mW K a now past z.2.1 lef z.2.2 met par sv hash) :=
  con_of (cc := cX3_distance) (maxL := 2) (ret := (some .int)) (own := RX3) (lv0 := [(0, .ref (a 0)), (1, .int x1)]) (by decide) rfl rfl (Nat.le_of_ble_eq_true rfl) rfl (fun p e s m args below meth c A C => go_lv (lv' := [(0, .ref (a 0)), (1, .int x1)]) [0, 1] rfl (WX3_distance_0 C hf))
set_option maxRecDepth 20000 in
theorem call_X3_distance {p : Program} {l : Launch} {e : Env} {s : State} {m : MethodId} {args : Array Value} {below : List Frame} {meth : Method} {c : Code} {K : KK} {A : Nat → Prop} {Q : State → Prop} {cc : ByteArray} {nL : Nat} {Ts : List Cond} {ret : Option FieldType} {pc : Nat} {lv : List (Nat × Value)} {st : List Value} {ix d : Nat} {α : Type} {kk : Int32 × (Nat → Int32) × (Nat → Int32) → Option α} {y : α} {a : Nat → Nat} {now : Nat → Int32} {past : Nat → Int32} {err : Nat → Int32} {lef : Nat → Int32} {msg : Nat → Int32} {met : Nat → Int32} {par : Nat → Int32} {sv : Int32} {hash : Int64} {q0 : Int32} (C : Cx p s m args meth c K A cc nL RX3 Ts ret) (hG : GoodIn Ts (wsV RX3 ix RX3 yX3_distance wsX3_distance)) (hd : decode cc pc = .ok (.invokevirtual ix, 3)) (hdd : 3 < d) (hro : (st.map fun v => v.category).sum ≤ 8) (hf : (fX3_distance now err msg q0).bind kk = some y) (k : ∀ v, kk v = some y → Go p l e (RM d) s m args below meth c K A nL 0 0 Q (mW K a now past v.2.1 lef v.2.2 met par sv hash) (pc + 3) lv (.int (v.1) :: st)) : Go p l e (RM d) s m args below meth c K A nL 0 0 Q (mW K a now past err lef msg met par sv hash) pc lv (.int q0 :: .ref (a 0) :: st) := by
  obtain ⟨v, hv, hf⟩ := bd_some hf
  exact go_callV_full (ry := (some .int)) (n := 1) (b := a 0) (As := [.int q0]) (rest := st) C (con_X3_distance l K a hv) hG (by decide) rfl ⟨Nat.succ_le_of_lt hdd, by show 8 + (2 + 11) + 40 * 3 ≤ 40 * d; omega⟩ ⟨Nat.le_refl _, Nat.le_refl _⟩ ⟨0, 3, _, _, rfl, rfl, rfl⟩ rfl rfl hro hd (k v hf)
-- X3_weakness
theorem iX3_weakness_3 : ∀ w ∈ wsX30, w ∈ wsX3_weakness := by decide +kernel
theorem kX3_weakness_22 : Cond.fieldLink RX3 22 "CosetCoderModel" "messageOf" "[I" ∈ wsX3_weakness := by decide +kernel
set_option maxRecDepth 20000 in
set_option maxHeartbeats 2000000 in
theorem WX3_weakness_91 {p : Program} {l : Launch} {e : Env} {s : State} {m : MethodId} {args : Array Value} {below : List Frame} {meth : Method} {c : Code} {K : KK} {A : Nat → Prop} {a : Nat → Nat} (C : Cx p s m args meth c K A cX3_weakness 6 RX3 wsX3_weakness (some .int)) {z : Int32 × (Nat → Int32)} {now : Nat → Int32} {past : Nat → Int32} {err : Nat → Int32} {lef : Nat → Int32} {met : Nat → Int32} {par : Nat → Int32} {sv : Int32} {hash : Int64} {r9 : (Nat → Int32) → Int32 → Int32 → Option (Int32 × (Nat → Int32))} {r26 : (Nat → Int32) → Int32 → Int32 → Int32 → Int32 → Option (Int32 × (Nat → Int32))} {msg : Nat → Int32} {x2 : Int32} {x3 : Int32} {x4 : Int32} {t0 : Int32} (hr9 : ∀ (msg : Nat → Int32) (x1 : Int32) (x2 : Int32), r9 msg x1 x2 = some z → Go p l e (RM 3) s m args below meth c K A 6 0 0 (MQ below (QR K (some (.int z.1)) (mW K a now past err lef z.2 met par sv hash) A) args s 0 0 A) (mW K a now past err lef msg met par sv hash) 9 [(0, .ref (a 0)), (1, .int x1), (2, .int x2)] []) (hr26 : ∀ (msg : Nat → Int32) (x1 : Int32) (x2 : Int32) (x3 : Int32) (x4 : Int32), r26 msg x1 x2 x3 x4 = some z → Go p l e (RM 3) s m args below meth c K A 6 0 0 (MQ below (QR K (some (.int z.1)) (mW K a now past err lef z.2 met par sv hash) A) args s 0 0 A) (mW K a now past err lef msg met par sv hash) 26 [(0, .ref (a 0)), (1, .int x1), (2, .int x2), (3, .int x3), (4, .int x4)] []) (hf : FX3_weakness_91 now r9 r26 msg x2 x3 x4 t0 = some z) : Go p l e (RM 3) s m args below meth c K A 6 0 0 (MQ below (QR K (some (.int z.1)) (mW K a now past err lef z.2 met par sv hash) A) args s 0 0 A) (mW K a now past err lef msg met par sv hash) 91 [(0, .ref (a 0)), (2, .int x2), (3, .int x3), (4, .int x4)] [.int t0] := by
  unfold FX3_weakness_91 at hf
  refine go_istore_n C (lv' := [(0, .ref (a 0)), (1, .int t0), (2, .int x2), (3, .int x3), (4, .int x4)]) [1, 0, 2, 3, 4] dX3_weakness_91 rfl (by decide) rfl ?_
  refine go_iinc C (v := x4 + 1) (lv' := [(0, .ref (a 0)), (1, .int t0), (2, .int x2), (3, .int x3), (4, .int (x4 + 1))]) 4 [1, 2, 3, 4, 0] dX3_weakness_92 rfl rfl (by decide) rfl ?_
  refine go_goto C (tgt := 26) dX3_weakness_95 (by decide) ?_
  exact hr26 _ _ _ _ _ hf
set_option maxRecDepth 20000 in
set_option maxHeartbeats 2000000 in
theorem WX3_weakness_73 {p : Program} {l : Launch} {e : Env} {s : State} {m : MethodId} {args : Array Value} {below : List Frame} {meth : Method} {c : Code} {K : KK} {A : Nat → Prop} {a : Nat → Nat} (C : Cx p s m args meth c K A cX3_weakness 6 RX3 wsX3_weakness (some .int)) {z : Int32 × (Nat → Int32)} {now : Nat → Int32} {past : Nat → Int32} {err : Nat → Int32} {lef : Nat → Int32} {met : Nat → Int32} {par : Nat → Int32} {sv : Int32} {hash : Int64} {r9 : (Nat → Int32) → Int32 → Int32 → Option (Int32 × (Nat → Int32))} {r26 : (Nat → Int32) → Int32 → Int32 → Int32 → Int32 → Option (Int32 × (Nat → Int32))} {msg : Nat → Int32} {x1 : Int32} {x2 : Int32} {x3 : Int32} {x4 : Int32} {t0 : Int32} (hr9 : ∀ (msg : Nat → Int32) (x1 : Int32) (x2 : Int32), r9 msg x1 x2 = some z → Go p l e (RM 3) s m args below meth c K A 6 0 0 (MQ below (QR K (some (.int z.1)) (mW K a now past err lef z.2 met par sv hash) A) args s 0 0 A) (mW K a now past err lef msg met par sv hash) 9 [(0, .ref (a 0)), (1, .int x1), (2, .int x2)] []) (hr26 : ∀ (msg : Nat → Int32) (x1 : Int32) (x2 : Int32) (x3 : Int32) (x4 : Int32), r26 msg x1 x2 x3 x4 = some z → Go p l e (RM 3) s m args below meth c K A 6 0 0 (MQ below (QR K (some (.int z.1)) (mW K a now past err lef z.2 met par sv hash) A) args s 0 0 A) (mW K a now past err lef msg met par sv hash) 26 [(0, .ref (a 0)), (1, .int x1), (2, .int x2), (3, .int x3), (4, .int x4)] []) (hf : FX3_weakness_73 now r9 r26 msg x1 x2 x3 x4 t0 = some z) : Go p l e (RM 3) s m args below meth c K A 6 0 0 (MQ below (QR K (some (.int z.1)) (mW K a now past err lef z.2 met par sv hash) A) args s 0 0 A) (mW K a now past err lef msg met par sv hash) 73 [(0, .ref (a 0)), (1, .int x1), (2, .int x2), (3, .int x3), (4, .int x4)] [.int t0] := by
  unfold FX3_weakness_73 at hf
  refine go_istore C (lv' := [(0, .ref (a 0)), (1, .int x1), (2, .int x2), (3, .int x3), (4, .int x4), (5, .int t0)]) [1, 2, 3, 4, 5, 0] dX3_weakness_73 (by decide) rfl ?_
  refine go_iload C 5 dX3_weakness_75 rfl ?_
  refine go_c1_eq C (tgt := 90) dX3_weakness_77 (by decide) hf (fun h hf => ?_) (fun h hf => ?_)
  · refine go_iload_n C 1 dX3_weakness_90 rfl rfl ?_
    refine go_lv (lv' := [(0, .ref (a 0)), (2, .int x2), (3, .int x3), (4, .int x4)]) [0, 2, 3, 4] rfl ?_
    exact WX3_weakness_91 C hr9 hr26 hf
  · refine go_iload C 4 dX3_weakness_80 rfl ?_
    refine go_iload_n C 2 dX3_weakness_82 rfl rfl ?_
    refine go_ixor C dX3_weakness_83 ?_
    refine call_X3_ones C gX3_weakness_X3_ones dX3_weakness_84 (by decide) (Nat.le_of_ble_eq_true rfl) hf (fun v1 hf => ?_)
    refine go_goto C (tgt := 91) dX3_weakness_87 (by decide) ?_
    refine go_lv (lv' := [(0, .ref (a 0)), (2, .int x2), (3, .int x3), (4, .int x4)]) [0, 2, 3, 4] rfl ?_
    exact WX3_weakness_91 C hr9 hr26 hf
set_option maxRecDepth 20000 in
set_option maxHeartbeats 2000000 in
theorem WX3_weakness_72 {p : Program} {l : Launch} {e : Env} {s : State} {m : MethodId} {args : Array Value} {below : List Frame} {meth : Method} {c : Code} {K : KK} {A : Nat → Prop} {a : Nat → Nat} (C : Cx p s m args meth c K A cX3_weakness 6 RX3 wsX3_weakness (some .int)) {z : Int32 × (Nat → Int32)} {now : Nat → Int32} {past : Nat → Int32} {err : Nat → Int32} {lef : Nat → Int32} {met : Nat → Int32} {par : Nat → Int32} {sv : Int32} {hash : Int64} {r9 : (Nat → Int32) → Int32 → Int32 → Option (Int32 × (Nat → Int32))} {r26 : (Nat → Int32) → Int32 → Int32 → Int32 → Int32 → Option (Int32 × (Nat → Int32))} {msg : Nat → Int32} {x1 : Int32} {x2 : Int32} {x3 : Int32} {x4 : Int32} (hr9 : ∀ (msg : Nat → Int32) (x1 : Int32) (x2 : Int32), r9 msg x1 x2 = some z → Go p l e (RM 3) s m args below meth c K A 6 0 0 (MQ below (QR K (some (.int z.1)) (mW K a now past err lef z.2 met par sv hash) A) args s 0 0 A) (mW K a now past err lef msg met par sv hash) 9 [(0, .ref (a 0)), (1, .int x1), (2, .int x2)] []) (hr26 : ∀ (msg : Nat → Int32) (x1 : Int32) (x2 : Int32) (x3 : Int32) (x4 : Int32), r26 msg x1 x2 x3 x4 = some z → Go p l e (RM 3) s m args below meth c K A 6 0 0 (MQ below (QR K (some (.int z.1)) (mW K a now past err lef z.2 met par sv hash) A) args s 0 0 A) (mW K a now past err lef msg met par sv hash) 26 [(0, .ref (a 0)), (1, .int x1), (2, .int x2), (3, .int x3), (4, .int x4)] []) (hf : FX3_weakness_72 now r9 r26 msg x1 x2 x3 x4 = some z) : Go p l e (RM 3) s m args below meth c K A 6 0 0 (MQ below (QR K (some (.int z.1)) (mW K a now past err lef z.2 met par sv hash) A) args s 0 0 A) (mW K a now past err lef msg met par sv hash) 72 [(0, .ref (a 0)), (1, .int x1), (2, .int x2), (3, .int x3), (4, .int x4)] [] := by
  unfold FX3_weakness_72 at hf
  refine go_iconst (v := 0) C dX3_weakness_72 (by decide) ?_
  exact WX3_weakness_73 C hr9 hr26 hf
set_option maxRecDepth 20000 in
set_option maxHeartbeats 2000000 in
theorem WX3_weakness_26 {p : Program} {l : Launch} {e : Env} {s : State} {m : MethodId} {args : Array Value} {below : List Frame} {meth : Method} {c : Code} {K : KK} {A : Nat → Prop} {a : Nat → Nat} (C : Cx p s m args meth c K A cX3_weakness 6 RX3 wsX3_weakness (some .int)) {z : Int32 × (Nat → Int32)} {now : Nat → Int32} {past : Nat → Int32} {err : Nat → Int32} {lef : Nat → Int32} {met : Nat → Int32} {par : Nat → Int32} {sv : Int32} {hash : Int64} {r9 : (Nat → Int32) → Int32 → Int32 → Option (Int32 × (Nat → Int32))} {r26 : (Nat → Int32) → Int32 → Int32 → Int32 → Int32 → Option (Int32 × (Nat → Int32))} {msg : Nat → Int32} {x1 : Int32} {x2 : Int32} {x3 : Int32} {x4 : Int32} (hr9 : ∀ (msg : Nat → Int32) (x1 : Int32) (x2 : Int32), r9 msg x1 x2 = some z → Go p l e (RM 3) s m args below meth c K A 6 0 0 (MQ below (QR K (some (.int z.1)) (mW K a now past err lef z.2 met par sv hash) A) args s 0 0 A) (mW K a now past err lef msg met par sv hash) 9 [(0, .ref (a 0)), (1, .int x1), (2, .int x2)] []) (hr26 : ∀ (msg : Nat → Int32) (x1 : Int32) (x2 : Int32) (x3 : Int32) (x4 : Int32), r26 msg x1 x2 x3 x4 = some z → Go p l e (RM 3) s m args below meth c K A 6 0 0 (MQ below (QR K (some (.int z.1)) (mW K a now past err lef z.2 met par sv hash) A) args s 0 0 A) (mW K a now past err lef msg met par sv hash) 26 [(0, .ref (a 0)), (1, .int x1), (2, .int x2), (3, .int x3), (4, .int x4)] []) (hf : FX3_weakness_26 now r9 r26 msg x1 x2 x3 x4 = some z) : Go p l e (RM 3) s m args below meth c K A 6 0 0 (MQ below (QR K (some (.int z.1)) (mW K a now past err lef z.2 met par sv hash) A) args s 0 0 A) (mW K a now past err lef msg met par sv hash) 26 [(0, .ref (a 0)), (1, .int x1), (2, .int x2), (3, .int x3), (4, .int x4)] [] := by
  unfold FX3_weakness_26 at hf
  refine go_iload C 4 dX3_weakness_26 rfl ?_
  refine go_aload_n C 0 dX3_weakness_28 rfl rfl ?_
  refine call_X3_words C gX3_weakness_X3_words dX3_weakness_29 (by decide) (Nat.le_of_ble_eq_true rfl) hf (fun v2 hf => ?_)
  refine go_c2_ge C (tgt := 98) dX3_weakness_32 (by decide) hf (fun h hf => ?_) (fun h hf => ?_)
  · refine go_iinc C (v := x2 + 1) (lv' := [(0, .ref (a 0)), (1, .int x1), (2, .int (x2 + 1)), (3, .int x3), (4, .int x4)]) 2 [1, 2, 0, 3, 4] dX3_weakness_98 rfl rfl (by decide) rfl ?_
    refine go_goto C (tgt := 9) dX3_weakness_101 (by decide) ?_
    refine go_lv (lv' := [(0, .ref (a 0)), (1, .int x1), (2, .int (x2 + 1))]) [0, 1, 2] rfl ?_
    exact hr9 _ _ _ hf
  · refine go_aload_n C 0 dX3_weakness_35 rfl rfl ?_
    refine gM_get_messageOf C iX3_weakness_3 kX3_weakness_22 dX3_weakness_36 ?_
    refine go_iload C 4 dX3_weakness_39 rfl ?_
    refine gM_rd_msg C dX3_weakness_41 hf (fun v3 hf => ?_)
    refine go_iconst (v := (-1)) C dX3_weakness_42 (by decide) ?_
    refine go_c2_eq C (tgt := 72) dX3_weakness_43 (by decide) hf (fun h hf => ?_) (fun h hf => ?_)
    · exact WX3_weakness_72 C hr9 hr26 hf
    · refine go_aload_n C 0 dX3_weakness_46 rfl rfl ?_
      refine gM_get_messageOf C iX3_weakness_3 kX3_weakness_22 dX3_weakness_47 ?_
      refine go_iload C 4 dX3_weakness_50 rfl ?_
      refine gM_rd_msg C dX3_weakness_52 hf (fun v4 hf => ?_)
      refine go_iload_n C 3 dX3_weakness_53 rfl rfl ?_
      refine go_c2_eq C (tgt := 72) dX3_weakness_54 (by decide) hf (fun h hf => ?_) (fun h hf => ?_)
      · exact WX3_weakness_72 C hr9 hr26 hf
      · refine go_iload C 4 dX3_weakness_57 rfl ?_
        refine go_iload_n C 2 dX3_weakness_59 rfl rfl ?_
        refine go_ixor C dX3_weakness_60 ?_
        refine call_X3_ones C gX3_weakness_X3_ones dX3_weakness_61 (by decide) (Nat.le_of_ble_eq_true rfl) hf (fun v5 hf => ?_)
        refine go_iload_n C 1 dX3_weakness_64 rfl rfl ?_
        refine go_c2_ge C (tgt := 72) dX3_weakness_65 (by decide) hf (fun h hf => ?_) (fun h hf => ?_)
        · exact WX3_weakness_72 C hr9 hr26 hf
        · refine go_iconst (v := 1) C dX3_weakness_68 (by decide) ?_
          refine go_goto C (tgt := 73) dX3_weakness_69 (by decide) ?_
          exact WX3_weakness_73 C hr9 hr26 hf
theorem wX3_weakness_26 {p : Program} {l : Launch} {e : Env} {s : State} {m : MethodId} {args : Array Value} {below : List Frame} {meth : Method} {c : Code} {K : KK} {A : Nat → Prop} {a : Nat → Nat} (C : Cx p s m args meth c K A cX3_weakness 6 RX3 wsX3_weakness (some .int)) {z : Int32 × (Nat → Int32)} {now : Nat → Int32} {past : Nat → Int32} {err : Nat → Int32} {lef : Nat → Int32} {met : Nat → Int32} {par : Nat → Int32} {sv : Int32} {hash : Int64} {r9 : (Nat → Int32) → Int32 → Int32 → Option (Int32 × (Nat → Int32))} (hr9 : ∀ (msg : Nat → Int32) (x1 : Int32) (x2 : Int32), r9 msg x1 x2 = some z → Go p l e (RM 3) s m args below meth c K A 6 0 0 (MQ below (QR K (some (.int z.1)) (mW K a now past err lef z.2 met par sv hash) A) args s 0 0 A) (mW K a now past err lef msg met par sv hash) 9 [(0, .ref (a 0)), (1, .int x1), (2, .int x2)] []) : ∀ (n : Nat) (msg : Nat → Int32) (x1 : Int32) (x2 : Int32) (x3 : Int32) (x4 : Int32), fX3_weakness_26 now r9 n msg x1 x2 x3 x4 = some z → Go p l e (RM 3) s m args below meth c K A 6 0 0 (MQ below (QR K (some (.int z.1)) (mW K a now past err lef z.2 met par sv hash) A) args s 0 0 A) (mW K a now past err lef msg met par sv hash) 26 [(0, .ref (a 0)), (1, .int x1), (2, .int x2), (3, .int x3), (4, .int x4)] [] := by
  intro n
  induction n with
  | zero => intro _ _ _ _ _ hf; cases hf
  | succ n ih => intro _ _ _ _ _ hf; exact WX3_weakness_26 C hr9 ih hf
set_option maxRecDepth 20000 in
set_option maxHeartbeats 2000000 in
theorem WX3_weakness_115 {p : Program} {l : Launch} {e : Env} {s : State} {m : MethodId} {args : Array Value} {below : List Frame} {meth : Method} {c : Code} {K : KK} {A : Nat → Prop} {a : Nat → Nat} (C : Cx p s m args meth c K A cX3_weakness 6 RX3 wsX3_weakness (some .int)) {z : Int32 × (Nat → Int32)} {now : Nat → Int32} {past : Nat → Int32} {err : Nat → Int32} {lef : Nat → Int32} {met : Nat → Int32} {par : Nat → Int32} {sv : Int32} {hash : Int64} {msg : Nat → Int32} {t0 : Int32} (hf : FX3_weakness_115 now  msg t0 = some z) : Go p l e (RM 3) s m args below meth c K A 6 0 0 (MQ below (QR K (some (.int z.1)) (mW K a now past err lef z.2 met par sv hash) A) args s 0 0 A) (mW K a now past err lef msg met par sv hash) 115 [] [.int t0] := by
  unfold FX3_weakness_115 at hf
  cases hf
  exact go_iret C dX3_weakness_115
set_option maxRecDepth 20000 in
set_option maxHeartbeats 2000000 in
theorem WX3_weakness_9 {p : Program} {l : Launch} {e : Env} {s : State} {m : MethodId} {args : Array Value} {below : List Frame} {meth : Method} {c : Code} {K : KK} {A : Nat → Prop} {a : Nat → Nat} (C : Cx p s m args meth c K A cX3_weakness 6 RX3 wsX3_weakness (some .int)) {z : Int32 × (Nat → Int32)} {now : Nat → Int32} {past : Nat → Int32} {err : Nat → Int32} {lef : Nat → Int32} {met : Nat → Int32} {par : Nat → Int32} {sv : Int32} {hash : Int64} {r9 : (Nat → Int32) → Int32 → Int32 → Option (Int32 × (Nat → Int32))} {msg : Nat → Int32} {x1 : Int32} {x2 : Int32} (hr9 : ∀ (msg : Nat → Int32) (x1 : Int32) (x2 : Int32), r9 msg x1 x2 = some z → Go p l e (RM 3) s m args below meth c K A 6 0 0 (MQ below (QR K (some (.int z.1)) (mW K a now past err lef z.2 met par sv hash) A) args s 0 0 A) (mW K a now past err lef msg met par sv hash) 9 [(0, .ref (a 0)), (1, .int x1), (2, .int x2)] []) (hf : FX3_weakness_9 now r9 msg x1 x2 = some z) : Go p l e (RM 3) s m args below meth c K A 6 0 0 (MQ below (QR K (some (.int z.1)) (mW K a now past err lef z.2 met par sv hash) A) args s 0 0 A) (mW K a now past err lef msg met par sv hash) 9 [(0, .ref (a 0)), (1, .int x1), (2, .int x2)] [] := by
  unfold FX3_weakness_9 at hf
  refine go_iload_n C 2 dX3_weakness_9 rfl rfl ?_
  refine go_aload_n C 0 dX3_weakness_10 rfl rfl ?_
  refine call_X3_words C gX3_weakness_X3_words dX3_weakness_11 (by decide) (Nat.le_of_ble_eq_true rfl) hf (fun v6 hf => ?_)
  refine go_c2_ge C (tgt := 104) dX3_weakness_14 (by decide) hf (fun h hf => ?_) (fun h hf => ?_)
  · refine go_iload_n C 1 dX3_weakness_104 rfl rfl ?_
    refine go_bipush (v := 99) C dX3_weakness_105 (by decide) ?_
    refine go_c2_ne C (tgt := 114) dX3_weakness_107 (by decide) hf (fun h hf => ?_) (fun h hf => ?_)
    · refine go_iload_n C 1 dX3_weakness_114 rfl rfl ?_
      refine go_lv (lv' := []) [] rfl ?_
      exact WX3_weakness_115 C  hf
    · refine go_iconst (v := (-1)) C dX3_weakness_110 (by decide) ?_
      refine go_goto C (tgt := 115) dX3_weakness_111 (by decide) ?_
      refine go_lv (lv' := []) [] rfl ?_
      exact WX3_weakness_115 C  hf
  · refine go_aload_n C 0 dX3_weakness_17 rfl rfl ?_
    refine go_iload_n C 2 dX3_weakness_18 rfl rfl ?_
    refine call_X3_decoded C gX3_weakness_X3_decoded dX3_weakness_19 (by decide) (Nat.le_of_ble_eq_true rfl) hf (fun v7 hf => ?_)
    refine go_istore_n C (lv' := [(0, .ref (a 0)), (1, .int x1), (2, .int x2), (3, .int v7)]) [1, 2, 3, 0] dX3_weakness_22 rfl (by decide) rfl ?_
    refine go_iconst (v := 0) C dX3_weakness_23 (by decide) ?_
    refine go_istore C (lv' := [(0, .ref (a 0)), (1, .int x1), (2, .int x2), (3, .int v7), (4, .int 0)]) [1, 2, 3, 4, 0] dX3_weakness_24 (by decide) rfl ?_
    exact wX3_weakness_26 C hr9 300 _ _ _ _ _ hf
theorem wX3_weakness_9 {p : Program} {l : Launch} {e : Env} {s : State} {m : MethodId} {args : Array Value} {below : List Frame} {meth : Method} {c : Code} {K : KK} {A : Nat → Prop} {a : Nat → Nat} (C : Cx p s m args meth c K A cX3_weakness 6 RX3 wsX3_weakness (some .int)) {z : Int32 × (Nat → Int32)} {now : Nat → Int32} {past : Nat → Int32} {err : Nat → Int32} {lef : Nat → Int32} {met : Nat → Int32} {par : Nat → Int32} {sv : Int32} {hash : Int64} : ∀ (n : Nat) (msg : Nat → Int32) (x1 : Int32) (x2 : Int32), fX3_weakness_9 now  n msg x1 x2 = some z → Go p l e (RM 3) s m args below meth c K A 6 0 0 (MQ below (QR K (some (.int z.1)) (mW K a now past err lef z.2 met par sv hash) A) args s 0 0 A) (mW K a now past err lef msg met par sv hash) 9 [(0, .ref (a 0)), (1, .int x1), (2, .int x2)] [] := by
  intro n
  induction n with
  | zero => intro _ _ _ hf; cases hf
  | succ n ih => intro _ _ _ hf; exact WX3_weakness_9 C  ih hf
set_option maxRecDepth 20000 in
set_option maxHeartbeats 2000000 in
theorem WX3_weakness_0 {p : Program} {l : Launch} {e : Env} {s : State} {m : MethodId} {args : Array Value} {below : List Frame} {meth : Method} {c : Code} {K : KK} {A : Nat → Prop} {a : Nat → Nat} (C : Cx p s m args meth c K A cX3_weakness 6 RX3 wsX3_weakness (some .int)) {z : Int32 × (Nat → Int32)} {now : Nat → Int32} {past : Nat → Int32} {err : Nat → Int32} {lef : Nat → Int32} {met : Nat → Int32} {par : Nat → Int32} {sv : Int32} {hash : Int64} {msg : Nat → Int32} (hf : FX3_weakness_0 now  msg = some z) : Go p l e (RM 3) s m args below meth c K A 6 0 0 (MQ below (QR K (some (.int z.1)) (mW K a now past err lef z.2 met par sv hash) A) args s 0 0 A) (mW K a now past err lef msg met par sv hash) 0 [(0, .ref (a 0))] [] := by
  unfold FX3_weakness_0 at hf
  refine go_aload_n C 0 dX3_weakness_0 rfl rfl ?_
  refine call_X3_laysMessages C gX3_weakness_X3_laysMessages dX3_weakness_1 (by decide) (Nat.le_of_ble_eq_true rfl) hf (fun v8 hf => ?_)
  refine go_bipush (v := 99) C dX3_weakness_4 (by decide) ?_
  refine go_istore_n C (lv' := [(0, .ref (a 0)), (1, .int 99)]) [1, 0] dX3_weakness_6 rfl (by decide) rfl ?_
  refine go_iconst (v := 0) C dX3_weakness_7 (by decide) ?_
  refine go_istore_n C (lv' := [(0, .ref (a 0)), (1, .int 99), (2, .int 0)]) [1, 2, 0] dX3_weakness_8 rfl (by decide) rfl ?_
  exact wX3_weakness_9 C  300 _ _ _ hf
set_option maxRecDepth 20000 in
theorem con_X3_weakness (l : Launch) (K : KK) (a : Nat → Nat) {now : Nat → Int32} {past : Nat → Int32} {err : Nat → Int32} {lef : Nat → Int32} {msg : Nat → Int32} {met : Nat → Int32} {par : Nat → Int32} {sv : Int32} {hash : Int64} {z : Int32 × (Nat → Int32)} (hf : fX3_weakness now msg = some z) : Con l yX3_weakness wsX3_weakness 3 K [.ref (a 0)] (mW K a now past err lef msg met par sv hash) (some (.int z.1)) (mW K a now past err lef z.2 met par sv hash) :=
  con_of (cc := cX3_weakness) (maxL := 6) (ret := (some .int)) (own := RX3) (lv0 := [(0, .ref (a 0))]) (by decide) rfl rfl (Nat.le_of_ble_eq_true rfl) rfl (fun p e s m args below meth c A C => go_lv (lv' := [(0, .ref (a 0))]) [0] rfl (WX3_weakness_0 C hf))
set_option maxRecDepth 20000 in
theorem call_X3_weakness {p : Program} {l : Launch} {e : Env} {s : State} {m : MethodId} {args : Array Value} {below : List Frame} {meth : Method} {c : Code} {K : KK} {A : Nat → Prop} {Q : State → Prop} {cc : ByteArray} {nL : Nat} {Ts : List Cond} {ret : Option FieldType} {pc : Nat} {lv : List (Nat × Value)} {st : List Value} {ix d : Nat} {α : Type} {kk : Int32 × (Nat → Int32) → Option α} {y : α} {a : Nat → Nat} {now : Nat → Int32} {past : Nat → Int32} {err : Nat → Int32} {lef : Nat → Int32} {msg : Nat → Int32} {met : Nat → Int32} {par : Nat → Int32} {sv : Int32} {hash : Int64} (C : Cx p s m args meth c K A cc nL RX3 Ts ret) (hG : GoodIn Ts (wsV RX3 ix RX3 yX3_weakness wsX3_weakness)) (hd : decode cc pc = .ok (.invokevirtual ix, 3)) (hdd : 3 < d) (hro : (st.map fun v => v.category).sum ≤ 8) (hf : (fX3_weakness now msg).bind kk = some y) (k : ∀ v, kk v = some y → Go p l e (RM d) s m args below meth c K A nL 0 0 Q (mW K a now past err lef v.2 met par sv hash) (pc + 3) lv (.int (v.1) :: st)) : Go p l e (RM d) s m args below meth c K A nL 0 0 Q (mW K a now past err lef msg met par sv hash) pc lv (.ref (a 0) :: st) := by
  obtain ⟨v, hv, hf⟩ := bd_some hf
  exact go_callV_full (ry := (some .int)) (n := 0) (b := a 0) (As := []) (rest := st) C (con_X3_weakness l K a hv) hG (by decide) rfl ⟨Nat.succ_le_of_lt hdd, by show 8 + (6 + 11) + 40 * 3 ≤ 40 * d; omega⟩ ⟨Nat.le_refl _, Nat.le_refl _⟩ ⟨0, 3, _, _, rfl, rfl, rfl⟩ rfl rfl hro hd (k v hf)
-- X3_lost
set_option maxRecDepth 20000 in
set_option maxHeartbeats 2000000 in
theorem WX3_lost_0 {p : Program} {l : Launch} {e : Env} {s : State} {m : MethodId} {args : Array Value} {below : List Frame} {meth : Method} {c : Code} {K : KK} {A : Nat → Prop} {a : Nat → Nat} (C : Cx p s m args meth c K A cX3_lost 4 RX3 wsX3_lost (some .int)) {z : Int32 × (Nat → Int32)} {now : Nat → Int32} {past : Nat → Int32} {err : Nat → Int32} {msg : Nat → Int32} {met : Nat → Int32} {par : Nat → Int32} {sv : Int32} {hash : Int64} {lef : Nat → Int32} {x1 : Int32} {x2 : Int32} (hf : FX3_lost_0 now  lef x1 x2 = some z) : Go p l e (RM 1) s m args below meth c K A 4 0 0 (MQ below (QR K (some (.int z.1)) (mW K a now past err z.2 msg met par sv hash) A) args s 0 0 A) (mW K a now past err lef msg met par sv hash) 0 [(0, .ref (a 0)), (1, .int x1), (2, .int x2)] [] := by
  unfold FX3_lost_0 at hf
  refine go_aload_n C 0 dX3_lost_0 rfl rfl ?_
  refine call_X3_words C gX3_lost_X3_words dX3_lost_1 (by decide) (Nat.le_of_ble_eq_true rfl) hf (fun v1 hf => ?_)
  refine go_iconst (v := 1) C dX3_lost_4 (by decide) ?_
  refine go_isub C dX3_lost_5 ?_
  refine go_istore_n C (lv' := [(0, .ref (a 0)), (1, .int x1), (2, .int x2), (3, .int (v1 - 1))]) [1, 2, 3, 0] dX3_lost_6 rfl (by decide) rfl ?_
  refine go_aload_n C 0 dX3_lost_7 rfl rfl ?_
  refine go_iload_n C 1 dX3_lost_8 rfl rfl ?_
  refine go_iload_n C 3 dX3_lost_9 rfl rfl ?_
  refine call_X3_rankOf C gX3_lost_X3_rankOf dX3_lost_10 (by decide) (Nat.le_of_ble_eq_true rfl) hf (fun v2 hf => ?_)
  refine go_aload_n C 0 dX3_lost_13 rfl rfl ?_
  refine go_iload_n C 1 dX3_lost_14 rfl rfl ?_
  refine go_iload_n C 3 dX3_lost_15 rfl rfl ?_
  refine go_iload_n C 2 dX3_lost_16 rfl rfl ?_
  refine go_iconst (v := (-1)) C dX3_lost_17 (by decide) ?_
  refine go_ixor C dX3_lost_18 ?_
  refine go_iand C dX3_lost_19 ?_
  refine call_X3_rankOf C gX3_lost_X3_rankOf dX3_lost_20 (by decide) (Nat.le_of_ble_eq_true rfl) hf (fun v3 hf => ?_)
  refine go_isub C dX3_lost_23 ?_
  cases hf
  exact go_iret C dX3_lost_24
set_option maxRecDepth 20000 in
theorem con_X3_lost (l : Launch) (K : KK) (a : Nat → Nat) {now : Nat → Int32} {past : Nat → Int32} {err : Nat → Int32} {lef : Nat → Int32} {msg : Nat → Int32} {met : Nat → Int32} {par : Nat → Int32} {sv : Int32} {hash : Int64} {x1 : Int32} {x2 : Int32} {z : Int32 × (Nat → Int32)} (hf : fX3_lost now lef x1 x2 = some z) : Con l yX3_lost wsX3_lost 1 K [.ref (a 0), .int x1, .int x2] (mW K a now past err lef msg met par sv hash) (some (.int z.1)) (mW K a now past err z.2 msg met par sv hash) :=
  con_of (cc := cX3_lost) (maxL := 4) (ret := (some .int)) (own := RX3) (lv0 := [(0, .ref (a 0)), (1, .int x1), (2, .int x2)]) (by decide) rfl rfl (Nat.le_of_ble_eq_true rfl) rfl (fun p e s m args below meth c A C => go_lv (lv' := [(0, .ref (a 0)), (1, .int x1), (2, .int x2)]) [0, 1, 2] rfl (WX3_lost_0 C hf))
set_option maxRecDepth 20000 in
theorem call_X3_lost {p : Program} {l : Launch} {e : Env} {s : State} {m : MethodId} {args : Array Value} {below : List Frame} {meth : Method} {c : Code} {K : KK} {A : Nat → Prop} {Q : State → Prop} {cc : ByteArray} {nL : Nat} {Ts : List Cond} {ret : Option FieldType} {pc : Nat} {lv : List (Nat × Value)} {st : List Value} {ix d : Nat} {α : Type} {kk : Int32 × (Nat → Int32) → Option α} {y : α} {a : Nat → Nat} {now : Nat → Int32} {past : Nat → Int32} {err : Nat → Int32} {lef : Nat → Int32} {msg : Nat → Int32} {met : Nat → Int32} {par : Nat → Int32} {sv : Int32} {hash : Int64} {q0 : Int32} {q1 : Int32} (C : Cx p s m args meth c K A cc nL RX3 Ts ret) (hG : GoodIn Ts (wsV RX3 ix RX3 yX3_lost wsX3_lost)) (hd : decode cc pc = .ok (.invokevirtual ix, 3)) (hdd : 1 < d) (hro : (st.map fun v => v.category).sum ≤ 8) (hf : (fX3_lost now lef q0 q1).bind kk = some y) (k : ∀ v, kk v = some y → Go p l e (RM d) s m args below meth c K A nL 0 0 Q (mW K a now past err v.2 msg met par sv hash) (pc + 3) lv (.int (v.1) :: st)) : Go p l e (RM d) s m args below meth c K A nL 0 0 Q (mW K a now past err lef msg met par sv hash) pc lv (.int q1 :: .int q0 :: .ref (a 0) :: st) := by
  obtain ⟨v, hv, hf⟩ := bd_some hf
  exact go_callV_full (ry := (some .int)) (n := 2) (b := a 0) (As := [.int q0, .int q1]) (rest := st) C (con_X3_lost l K a hv) hG (by decide) rfl ⟨Nat.succ_le_of_lt hdd, by show 8 + (4 + 11) + 40 * 1 ≤ 40 * d; omega⟩ ⟨Nat.le_refl _, Nat.le_refl _⟩ ⟨0, 3, _, _, rfl, rfl, rfl⟩ rfl rfl hro hd (k v hf)
-- X3_leakageOf
set_option maxRecDepth 20000 in
set_option maxHeartbeats 2000000 in
theorem WX3_leakageOf_0 {p : Program} {l : Launch} {e : Env} {s : State} {m : MethodId} {args : Array Value} {below : List Frame} {meth : Method} {c : Code} {K : KK} {A : Nat → Prop} {a : Nat → Nat} (C : Cx p s m args meth c K A cX3_leakageOf 2 RX3 wsX3_leakageOf (some .int)) {z : Int32 × (Nat → Int32)} {now : Nat → Int32} {past : Nat → Int32} {err : Nat → Int32} {msg : Nat → Int32} {met : Nat → Int32} {par : Nat → Int32} {sv : Int32} {hash : Int64} {lef : Nat → Int32} {x1 : Int32} (hf : FX3_leakageOf_0 now  lef x1 = some z) : Go p l e (RM 2) s m args below meth c K A 2 0 0 (MQ below (QR K (some (.int z.1)) (mW K a now past err z.2 msg met par sv hash) A) args s 0 0 A) (mW K a now past err lef msg met par sv hash) 0 [(0, .ref (a 0)), (1, .int x1)] [] := by
  unfold FX3_leakageOf_0 at hf
  refine go_aload_n C 0 dX3_leakageOf_0 rfl rfl ?_
  refine go_iconst (v := 2) C dX3_leakageOf_1 (by decide) ?_
  refine go_iload_n C 1 dX3_leakageOf_2 rfl rfl ?_
  refine call_X3_lost C gX3_leakageOf_X3_lost dX3_leakageOf_3 (by decide) (Nat.le_of_ble_eq_true rfl) hf (fun v1 hf => ?_)
  refine go_aload_n C 0 dX3_leakageOf_6 rfl rfl ?_
  refine go_iconst (v := 1) C dX3_leakageOf_7 (by decide) ?_
  refine go_iload_n C 1 dX3_leakageOf_8 rfl rfl ?_
  refine call_X3_lost C gX3_leakageOf_X3_lost dX3_leakageOf_9 (by decide) (Nat.le_of_ble_eq_true rfl) hf (fun v2 hf => ?_)
  refine go_isub C dX3_leakageOf_12 ?_
  cases hf
  exact go_iret C dX3_leakageOf_13
set_option maxRecDepth 20000 in
theorem con_X3_leakageOf (l : Launch) (K : KK) (a : Nat → Nat) {now : Nat → Int32} {past : Nat → Int32} {err : Nat → Int32} {lef : Nat → Int32} {msg : Nat → Int32} {met : Nat → Int32} {par : Nat → Int32} {sv : Int32} {hash : Int64} {x1 : Int32} {z : Int32 × (Nat → Int32)} (hf : fX3_leakageOf now lef x1 = some z) : Con l yX3_leakageOf wsX3_leakageOf 2 K [.ref (a 0), .int x1] (mW K a now past err lef msg met par sv hash) (some (.int z.1)) (mW K a now past err z.2 msg met par sv hash) :=
  con_of (cc := cX3_leakageOf) (maxL := 2) (ret := (some .int)) (own := RX3) (lv0 := [(0, .ref (a 0)), (1, .int x1)]) (by decide) rfl rfl (Nat.le_of_ble_eq_true rfl) rfl (fun p e s m args below meth c A C => go_lv (lv' := [(0, .ref (a 0)), (1, .int x1)]) [0, 1] rfl (WX3_leakageOf_0 C hf))
set_option maxRecDepth 20000 in
theorem call_X3_leakageOf {p : Program} {l : Launch} {e : Env} {s : State} {m : MethodId} {args : Array Value} {below : List Frame} {meth : Method} {c : Code} {K : KK} {A : Nat → Prop} {Q : State → Prop} {cc : ByteArray} {nL : Nat} {Ts : List Cond} {ret : Option FieldType} {pc : Nat} {lv : List (Nat × Value)} {st : List Value} {ix d : Nat} {α : Type} {kk : Int32 × (Nat → Int32) → Option α} {y : α} {a : Nat → Nat} {now : Nat → Int32} {past : Nat → Int32} {err : Nat → Int32} {lef : Nat → Int32} {msg : Nat → Int32} {met : Nat → Int32} {par : Nat → Int32} {sv : Int32} {hash : Int64} {q0 : Int32} (C : Cx p s m args meth c K A cc nL RX3 Ts ret) (hG : GoodIn Ts (wsV RX3 ix RX3 yX3_leakageOf wsX3_leakageOf)) (hd : decode cc pc = .ok (.invokevirtual ix, 3)) (hdd : 2 < d) (hro : (st.map fun v => v.category).sum ≤ 8) (hf : (fX3_leakageOf now lef q0).bind kk = some y) (k : ∀ v, kk v = some y → Go p l e (RM d) s m args below meth c K A nL 0 0 Q (mW K a now past err v.2 msg met par sv hash) (pc + 3) lv (.int (v.1) :: st)) : Go p l e (RM d) s m args below meth c K A nL 0 0 Q (mW K a now past err lef msg met par sv hash) pc lv (.int q0 :: .ref (a 0) :: st) := by
  obtain ⟨v, hv, hf⟩ := bd_some hf
  exact go_callV_full (ry := (some .int)) (n := 1) (b := a 0) (As := [.int q0]) (rest := st) C (con_X3_leakageOf l K a hv) hG (by decide) rfl ⟨Nat.succ_le_of_lt hdd, by show 8 + (2 + 11) + 40 * 2 ≤ 40 * d; omega⟩ ⟨Nat.le_refl _, Nat.le_refl _⟩ ⟨0, 3, _, _, rfl, rfl, rfl⟩ rfl rfl hro hd (k v hf)
-- X3_leakage
set_option maxRecDepth 20000 in
set_option maxHeartbeats 2000000 in
theorem WX3_leakage_22 {p : Program} {l : Launch} {e : Env} {s : State} {m : MethodId} {args : Array Value} {below : List Frame} {meth : Method} {c : Code} {K : KK} {A : Nat → Prop} {a : Nat → Nat} (C : Cx p s m args meth c K A cX3_leakage 2 RX3 wsX3_leakage (some .int)) {z : Int32 × (Nat → Int32) × (Nat → Int32)} {now : Nat → Int32} {past : Nat → Int32} {msg : Nat → Int32} {met : Nat → Int32} {par : Nat → Int32} {sv : Int32} {hash : Int64} {err : Nat → Int32} {lef : Nat → Int32} {t0 : Int32} (hf : FX3_leakage_22 now  err lef t0 = some z) : Go p l e (RM 3) s m args below meth c K A 2 0 0 (MQ below (QR K (some (.int z.1)) (mW K a now past z.2.1 z.2.2 msg met par sv hash) A) args s 0 0 A) (mW K a now past err lef msg met par sv hash) 22 [] [.int t0] := by
  unfold FX3_leakage_22 at hf
  cases hf
  exact go_iret C dX3_leakage_22
set_option maxRecDepth 20000 in
set_option maxHeartbeats 2000000 in
theorem WX3_leakage_0 {p : Program} {l : Launch} {e : Env} {s : State} {m : MethodId} {args : Array Value} {below : List Frame} {meth : Method} {c : Code} {K : KK} {A : Nat → Prop} {a : Nat → Nat} (C : Cx p s m args meth c K A cX3_leakage 2 RX3 wsX3_leakage (some .int)) {z : Int32 × (Nat → Int32) × (Nat → Int32)} {now : Nat → Int32} {past : Nat → Int32} {msg : Nat → Int32} {met : Nat → Int32} {par : Nat → Int32} {sv : Int32} {hash : Int64} {err : Nat → Int32} {lef : Nat → Int32} {x1 : Int32} (hf : FX3_leakage_0 now  err lef x1 = some z) : Go p l e (RM 3) s m args below meth c K A 2 0 0 (MQ below (QR K (some (.int z.1)) (mW K a now past z.2.1 z.2.2 msg met par sv hash) A) args s 0 0 A) (mW K a now past err lef msg met par sv hash) 0 [(0, .ref (a 0)), (1, .int x1)] [] := by
  unfold FX3_leakage_0 at hf
  refine go_aload_n C 0 dX3_leakage_0 rfl rfl ?_
  refine go_iload_n C 1 dX3_leakage_1 rfl rfl ?_
  refine call_X3_isWord C gX3_leakage_X3_isWord dX3_leakage_2 (by decide) (Nat.le_of_ble_eq_true rfl) hf (fun v1 hf => ?_)
  refine go_c1_eq C (tgt := 16) dX3_leakage_5 (by decide) hf (fun h hf => ?_) (fun h hf => ?_)
  · refine go_aload_n C 0 dX3_leakage_16 rfl rfl ?_
    refine go_bipush (v := (-2)) C dX3_leakage_17 (by decide) ?_
    refine call_X3_fails C gX3_leakage_X3_fails dX3_leakage_19 (by decide) (Nat.le_of_ble_eq_true rfl) hf (fun v2 hf => ?_)
    refine go_lv (lv' := []) [] rfl ?_
    exact WX3_leakage_22 C  hf
  · refine go_aload_n C 0 dX3_leakage_8 rfl rfl ?_
    refine go_iload_n C 1 dX3_leakage_9 rfl rfl ?_
    refine call_X3_leakageOf C gX3_leakage_X3_leakageOf dX3_leakage_10 (by decide) (Nat.le_of_ble_eq_true rfl) hf (fun v3 hf => ?_)
    refine go_goto C (tgt := 22) dX3_leakage_13 (by decide) ?_
    refine go_lv (lv' := []) [] rfl ?_
    exact WX3_leakage_22 C  hf
set_option maxRecDepth 20000 in
theorem con_X3_leakage (l : Launch) (K : KK) (a : Nat → Nat) {now : Nat → Int32} {past : Nat → Int32} {err : Nat → Int32} {lef : Nat → Int32} {msg : Nat → Int32} {met : Nat → Int32} {par : Nat → Int32} {sv : Int32} {hash : Int64} {x1 : Int32} {z : Int32 × (Nat → Int32) × (Nat → Int32)} (hf : fX3_leakage now err lef x1 = some z) : Con l yX3_leakage wsX3_leakage 3 K [.ref (a 0), .int x1] (mW K a now past err lef msg met par sv hash) (some (.int z.1)) (mW K a now past z.2.1 z.2.2 msg met par sv hash) :=
  con_of (cc := cX3_leakage) (maxL := 2) (ret := (some .int)) (own := RX3) (lv0 := [(0, .ref (a 0)), (1, .int x1)]) (by decide) rfl rfl (Nat.le_of_ble_eq_true rfl) rfl (fun p e s m args below meth c A C => go_lv (lv' := [(0, .ref (a 0)), (1, .int x1)]) [0, 1] rfl (WX3_leakage_0 C hf))
set_option maxRecDepth 20000 in
theorem call_X3_leakage {p : Program} {l : Launch} {e : Env} {s : State} {m : MethodId} {args : Array Value} {below : List Frame} {meth : Method} {c : Code} {K : KK} {A : Nat → Prop} {Q : State → Prop} {cc : ByteArray} {nL : Nat} {Ts : List Cond} {ret : Option FieldType} {pc : Nat} {lv : List (Nat × Value)} {st : List Value} {ix d : Nat} {α : Type} {kk : Int32 × (Nat → Int32) × (Nat → Int32) → Option α} {y : α} {a : Nat → Nat} {now : Nat → Int32} {past : Nat → Int32} {err : Nat → Int32} {lef : Nat → Int32} {msg : Nat → Int32} {met : Nat → Int32} {par : Nat → Int32} {sv : Int32} {hash : Int64} {q0 : Int32} (C : Cx p s m args meth c K A cc nL RX3 Ts ret) (hG : GoodIn Ts (wsV RX3 ix RX3 yX3_leakage wsX3_leakage)) (hd : decode cc pc = .ok (.invokevirtual ix, 3)) (hdd : 3 < d) (hro : (st.map fun v => v.category).sum ≤ 8) (hf : (fX3_leakage now err lef q0).bind kk = some y) (k : ∀ v, kk v = some y → Go p l e (RM d) s m args below meth c K A nL 0 0 Q (mW K a now past v.2.1 v.2.2 msg met par sv hash) (pc + 3) lv (.int (v.1) :: st)) : Go p l e (RM d) s m args below meth c K A nL 0 0 Q (mW K a now past err lef msg met par sv hash) pc lv (.int q0 :: .ref (a 0) :: st) := by
  obtain ⟨v, hv, hf⟩ := bd_some hf
  exact go_callV_full (ry := (some .int)) (n := 1) (b := a 0) (As := [.int q0]) (rest := st) C (con_X3_leakage l K a hv) hG (by decide) rfl ⟨Nat.succ_le_of_lt hdd, by show 8 + (2 + 11) + 40 * 3 ≤ 40 * d; omega⟩ ⟨Nat.le_refl _, Nat.le_refl _⟩ ⟨0, 3, _, _, rfl, rfl, rfl⟩ rfl rfl hro hd (k v hf)
-- X3_worstOf
set_option maxRecDepth 20000 in
set_option maxHeartbeats 2000000 in
theorem WX3_worstOf_62 {p : Program} {l : Launch} {e : Env} {s : State} {m : MethodId} {args : Array Value} {below : List Frame} {meth : Method} {c : Code} {K : KK} {A : Nat → Prop} {a : Nat → Nat} (C : Cx p s m args meth c K A cX3_worstOf 6 RX3 wsX3_worstOf (some .int)) {z : Int32 × (Nat → Int32)} {now : Nat → Int32} {past : Nat → Int32} {err : Nat → Int32} {msg : Nat → Int32} {met : Nat → Int32} {par : Nat → Int32} {sv : Int32} {hash : Int64} {r7 : (Nat → Int32) → Int32 → Int32 → Int32 → Int32 → Option (Int32 × (Nat → Int32))} {lef : Nat → Int32} {x1 : Int32} {x2 : Int32} {x4 : Int32} {t0 : Int32} (hr7 : ∀ (lef : Nat → Int32) (x1 : Int32) (x2 : Int32) (x3 : Int32) (x4 : Int32), r7 lef x1 x2 x3 x4 = some z → Go p l e (RM 3) s m args below meth c K A 6 0 0 (MQ below (QR K (some (.int z.1)) (mW K a now past err z.2 msg met par sv hash) A) args s 0 0 A) (mW K a now past err lef msg met par sv hash) 7 [(0, .ref (a 0)), (1, .int x1), (2, .int x2), (3, .int x3), (4, .int x4)] []) (hf : FX3_worstOf_62 now r7 lef x1 x2 x4 t0 = some z) : Go p l e (RM 3) s m args below meth c K A 6 0 0 (MQ below (QR K (some (.int z.1)) (mW K a now past err z.2 msg met par sv hash) A) args s 0 0 A) (mW K a now past err lef msg met par sv hash) 62 [(0, .ref (a 0)), (1, .int x1), (2, .int x2), (4, .int x4)] [.int t0] := by
  unfold FX3_worstOf_62 at hf
  refine go_istore_n C (lv' := [(0, .ref (a 0)), (1, .int x1), (2, .int x2), (3, .int t0), (4, .int x4)]) [1, 2, 3, 0, 4] dX3_worstOf_62 rfl (by decide) rfl ?_
  refine go_iinc C (v := x4 + 1) (lv' := [(0, .ref (a 0)), (1, .int x1), (2, .int x2), (3, .int t0), (4, .int (x4 + 1))]) 4 [1, 2, 3, 4, 0] dX3_worstOf_63 rfl rfl (by decide) rfl ?_
  refine go_goto C (tgt := 7) dX3_worstOf_66 (by decide) ?_
  exact hr7 _ _ _ _ _ hf
set_option maxRecDepth 20000 in
set_option maxHeartbeats 2000000 in
theorem WX3_worstOf_49 {p : Program} {l : Launch} {e : Env} {s : State} {m : MethodId} {args : Array Value} {below : List Frame} {meth : Method} {c : Code} {K : KK} {A : Nat → Prop} {a : Nat → Nat} (C : Cx p s m args meth c K A cX3_worstOf 6 RX3 wsX3_worstOf (some .int)) {z : Int32 × (Nat → Int32)} {now : Nat → Int32} {past : Nat → Int32} {err : Nat → Int32} {msg : Nat → Int32} {met : Nat → Int32} {par : Nat → Int32} {sv : Int32} {hash : Int64} {r7 : (Nat → Int32) → Int32 → Int32 → Int32 → Int32 → Option (Int32 × (Nat → Int32))} {lef : Nat → Int32} {x1 : Int32} {x3 : Int32} {x4 : Int32} {x5 : Int32} {t0 : Int32} (hr7 : ∀ (lef : Nat → Int32) (x1 : Int32) (x2 : Int32) (x3 : Int32) (x4 : Int32), r7 lef x1 x2 x3 x4 = some z → Go p l e (RM 3) s m args below meth c K A 6 0 0 (MQ below (QR K (some (.int z.1)) (mW K a now past err z.2 msg met par sv hash) A) args s 0 0 A) (mW K a now past err lef msg met par sv hash) 7 [(0, .ref (a 0)), (1, .int x1), (2, .int x2), (3, .int x3), (4, .int x4)] []) (hf : FX3_worstOf_49 now r7 lef x1 x3 x4 x5 t0 = some z) : Go p l e (RM 3) s m args below meth c K A 6 0 0 (MQ below (QR K (some (.int z.1)) (mW K a now past err z.2 msg met par sv hash) A) args s 0 0 A) (mW K a now past err lef msg met par sv hash) 49 [(0, .ref (a 0)), (1, .int x1), (3, .int x3), (4, .int x4), (5, .int x5)] [.int t0] := by
  unfold FX3_worstOf_49 at hf
  refine go_istore_n C (lv' := [(0, .ref (a 0)), (1, .int x1), (2, .int t0), (3, .int x3), (4, .int x4), (5, .int x5)]) [1, 2, 0, 3, 4, 5] dX3_worstOf_49 rfl (by decide) rfl ?_
  refine go_iload C 5 dX3_worstOf_50 rfl ?_
  refine go_iload_n C 3 dX3_worstOf_52 rfl rfl ?_
  refine go_c2_le C (tgt := 61) dX3_worstOf_53 (by decide) hf (fun h hf => ?_) (fun h hf => ?_)
  · refine go_iload_n C 3 dX3_worstOf_61 rfl rfl ?_
    refine go_lv (lv' := [(0, .ref (a 0)), (1, .int x1), (2, .int t0), (4, .int x4)]) [0, 1, 2, 4] rfl ?_
    exact WX3_worstOf_62 C hr7 hf
  · refine go_iload C 5 dX3_worstOf_56 rfl ?_
    refine go_goto C (tgt := 62) dX3_worstOf_58 (by decide) ?_
    refine go_lv (lv' := [(0, .ref (a 0)), (1, .int x1), (2, .int t0), (4, .int x4)]) [0, 1, 2, 4] rfl ?_
    exact WX3_worstOf_62 C hr7 hf
set_option maxRecDepth 20000 in
set_option maxHeartbeats 2000000 in
theorem WX3_worstOf_35 {p : Program} {l : Launch} {e : Env} {s : State} {m : MethodId} {args : Array Value} {below : List Frame} {meth : Method} {c : Code} {K : KK} {A : Nat → Prop} {a : Nat → Nat} (C : Cx p s m args meth c K A cX3_worstOf 6 RX3 wsX3_worstOf (some .int)) {z : Int32 × (Nat → Int32)} {now : Nat → Int32} {past : Nat → Int32} {err : Nat → Int32} {msg : Nat → Int32} {met : Nat → Int32} {par : Nat → Int32} {sv : Int32} {hash : Int64} {r7 : (Nat → Int32) → Int32 → Int32 → Int32 → Int32 → Option (Int32 × (Nat → Int32))} {lef : Nat → Int32} {x1 : Int32} {x2 : Int32} {x3 : Int32} {x4 : Int32} {t0 : Int32} (hr7 : ∀ (lef : Nat → Int32) (x1 : Int32) (x2 : Int32) (x3 : Int32) (x4 : Int32), r7 lef x1 x2 x3 x4 = some z → Go p l e (RM 3) s m args below meth c K A 6 0 0 (MQ below (QR K (some (.int z.1)) (mW K a now past err z.2 msg met par sv hash) A) args s 0 0 A) (mW K a now past err lef msg met par sv hash) 7 [(0, .ref (a 0)), (1, .int x1), (2, .int x2), (3, .int x3), (4, .int x4)] []) (hf : FX3_worstOf_35 now r7 lef x1 x2 x3 x4 t0 = some z) : Go p l e (RM 3) s m args below meth c K A 6 0 0 (MQ below (QR K (some (.int z.1)) (mW K a now past err z.2 msg met par sv hash) A) args s 0 0 A) (mW K a now past err lef msg met par sv hash) 35 [(0, .ref (a 0)), (1, .int x1), (2, .int x2), (3, .int x3), (4, .int x4)] [.int t0] := by
  unfold FX3_worstOf_35 at hf
  refine go_istore C (lv' := [(0, .ref (a 0)), (1, .int x1), (2, .int x2), (3, .int x3), (4, .int x4), (5, .int t0)]) [1, 2, 3, 4, 5, 0] dX3_worstOf_35 (by decide) rfl ?_
  refine go_iload C 5 dX3_worstOf_37 rfl ?_
  refine go_iload_n C 3 dX3_worstOf_39 rfl rfl ?_
  refine go_c2_le C (tgt := 48) dX3_worstOf_40 (by decide) hf (fun h hf => ?_) (fun h hf => ?_)
  · refine go_iload_n C 2 dX3_worstOf_48 rfl rfl ?_
    refine go_lv (lv' := [(0, .ref (a 0)), (1, .int x1), (3, .int x3), (4, .int x4), (5, .int t0)]) [0, 1, 3, 4, 5] rfl ?_
    exact WX3_worstOf_49 C hr7 hf
  · refine go_iload C 4 dX3_worstOf_43 rfl ?_
    refine go_goto C (tgt := 49) dX3_worstOf_45 (by decide) ?_
    refine go_lv (lv' := [(0, .ref (a 0)), (1, .int x1), (3, .int x3), (4, .int x4), (5, .int t0)]) [0, 1, 3, 4, 5] rfl ?_
    exact WX3_worstOf_49 C hr7 hf
set_option maxRecDepth 20000 in
set_option maxHeartbeats 2000000 in
theorem WX3_worstOf_7 {p : Program} {l : Launch} {e : Env} {s : State} {m : MethodId} {args : Array Value} {below : List Frame} {meth : Method} {c : Code} {K : KK} {A : Nat → Prop} {a : Nat → Nat} (C : Cx p s m args meth c K A cX3_worstOf 6 RX3 wsX3_worstOf (some .int)) {z : Int32 × (Nat → Int32)} {now : Nat → Int32} {past : Nat → Int32} {err : Nat → Int32} {msg : Nat → Int32} {met : Nat → Int32} {par : Nat → Int32} {sv : Int32} {hash : Int64} {r7 : (Nat → Int32) → Int32 → Int32 → Int32 → Int32 → Option (Int32 × (Nat → Int32))} {lef : Nat → Int32} {x1 : Int32} {x2 : Int32} {x3 : Int32} {x4 : Int32} (hr7 : ∀ (lef : Nat → Int32) (x1 : Int32) (x2 : Int32) (x3 : Int32) (x4 : Int32), r7 lef x1 x2 x3 x4 = some z → Go p l e (RM 3) s m args below meth c K A 6 0 0 (MQ below (QR K (some (.int z.1)) (mW K a now past err z.2 msg met par sv hash) A) args s 0 0 A) (mW K a now past err lef msg met par sv hash) 7 [(0, .ref (a 0)), (1, .int x1), (2, .int x2), (3, .int x3), (4, .int x4)] []) (hf : FX3_worstOf_7 now r7 lef x1 x2 x3 x4 = some z) : Go p l e (RM 3) s m args below meth c K A 6 0 0 (MQ below (QR K (some (.int z.1)) (mW K a now past err z.2 msg met par sv hash) A) args s 0 0 A) (mW K a now past err lef msg met par sv hash) 7 [(0, .ref (a 0)), (1, .int x1), (2, .int x2), (3, .int x3), (4, .int x4)] [] := by
  unfold FX3_worstOf_7 at hf
  refine go_iload C 4 dX3_worstOf_7 rfl ?_
  refine go_aload_n C 0 dX3_worstOf_9 rfl rfl ?_
  refine call_X3_words C gX3_worstOf_X3_words dX3_worstOf_10 (by decide) (Nat.le_of_ble_eq_true rfl) hf (fun v1 hf => ?_)
  refine go_c2_ge C (tgt := 69) dX3_worstOf_13 (by decide) hf (fun h hf => ?_) (fun h hf => ?_)
  · refine go_iload_n C 2 dX3_worstOf_69 rfl rfl ?_
    cases hf
    exact go_iret C dX3_worstOf_70
  · refine go_iload C 4 dX3_worstOf_16 rfl ?_
    refine call_X3_ones C gX3_worstOf_X3_ones dX3_worstOf_18 (by decide) (Nat.le_of_ble_eq_true rfl) hf (fun v2 hf => ?_)
    refine go_iload_n C 1 dX3_worstOf_21 rfl rfl ?_
    refine go_c2_ne C (tgt := 34) dX3_worstOf_22 (by decide) hf (fun h hf => ?_) (fun h hf => ?_)
    · refine go_iconst (v := (-1)) C dX3_worstOf_34 (by decide) ?_
      exact WX3_worstOf_35 C hr7 hf
    · refine go_aload_n C 0 dX3_worstOf_25 rfl rfl ?_
      refine go_iload C 4 dX3_worstOf_26 rfl ?_
      refine call_X3_leakageOf C gX3_worstOf_X3_leakageOf dX3_worstOf_28 (by decide) (Nat.le_of_ble_eq_true rfl) hf (fun v3 hf => ?_)
      refine go_goto C (tgt := 35) dX3_worstOf_31 (by decide) ?_
      exact WX3_worstOf_35 C hr7 hf
theorem wX3_worstOf_7 {p : Program} {l : Launch} {e : Env} {s : State} {m : MethodId} {args : Array Value} {below : List Frame} {meth : Method} {c : Code} {K : KK} {A : Nat → Prop} {a : Nat → Nat} (C : Cx p s m args meth c K A cX3_worstOf 6 RX3 wsX3_worstOf (some .int)) {z : Int32 × (Nat → Int32)} {now : Nat → Int32} {past : Nat → Int32} {err : Nat → Int32} {msg : Nat → Int32} {met : Nat → Int32} {par : Nat → Int32} {sv : Int32} {hash : Int64} : ∀ (n : Nat) (lef : Nat → Int32) (x1 : Int32) (x2 : Int32) (x3 : Int32) (x4 : Int32), fX3_worstOf_7 now  n lef x1 x2 x3 x4 = some z → Go p l e (RM 3) s m args below meth c K A 6 0 0 (MQ below (QR K (some (.int z.1)) (mW K a now past err z.2 msg met par sv hash) A) args s 0 0 A) (mW K a now past err lef msg met par sv hash) 7 [(0, .ref (a 0)), (1, .int x1), (2, .int x2), (3, .int x3), (4, .int x4)] [] := by
  intro n
  induction n with
  | zero => intro _ _ _ _ _ hf; cases hf
  | succ n ih => intro _ _ _ _ _ hf; exact WX3_worstOf_7 C  ih hf
set_option maxRecDepth 20000 in
set_option maxHeartbeats 2000000 in
theorem WX3_worstOf_0 {p : Program} {l : Launch} {e : Env} {s : State} {m : MethodId} {args : Array Value} {below : List Frame} {meth : Method} {c : Code} {K : KK} {A : Nat → Prop} {a : Nat → Nat} (C : Cx p s m args meth c K A cX3_worstOf 6 RX3 wsX3_worstOf (some .int)) {z : Int32 × (Nat → Int32)} {now : Nat → Int32} {past : Nat → Int32} {err : Nat → Int32} {msg : Nat → Int32} {met : Nat → Int32} {par : Nat → Int32} {sv : Int32} {hash : Int64} {lef : Nat → Int32} {x1 : Int32} (hf : FX3_worstOf_0 now  lef x1 = some z) : Go p l e (RM 3) s m args below meth c K A 6 0 0 (MQ below (QR K (some (.int z.1)) (mW K a now past err z.2 msg met par sv hash) A) args s 0 0 A) (mW K a now past err lef msg met par sv hash) 0 [(0, .ref (a 0)), (1, .int x1)] [] := by
  unfold FX3_worstOf_0 at hf
  refine go_iconst (v := (-1)) C dX3_worstOf_0 (by decide) ?_
  refine go_istore_n C (lv' := [(0, .ref (a 0)), (1, .int x1), (2, .int (-1))]) [1, 2, 0] dX3_worstOf_1 rfl (by decide) rfl ?_
  refine go_iconst (v := (-1)) C dX3_worstOf_2 (by decide) ?_
  refine go_istore_n C (lv' := [(0, .ref (a 0)), (1, .int x1), (2, .int (-1)), (3, .int (-1))]) [1, 2, 3, 0] dX3_worstOf_3 rfl (by decide) rfl ?_
  refine go_iconst (v := 0) C dX3_worstOf_4 (by decide) ?_
  refine go_istore C (lv' := [(0, .ref (a 0)), (1, .int x1), (2, .int (-1)), (3, .int (-1)), (4, .int 0)]) [1, 2, 3, 4, 0] dX3_worstOf_5 (by decide) rfl ?_
  exact wX3_worstOf_7 C  300 _ _ _ _ _ hf
set_option maxRecDepth 20000 in
theorem con_X3_worstOf (l : Launch) (K : KK) (a : Nat → Nat) {now : Nat → Int32} {past : Nat → Int32} {err : Nat → Int32} {lef : Nat → Int32} {msg : Nat → Int32} {met : Nat → Int32} {par : Nat → Int32} {sv : Int32} {hash : Int64} {x1 : Int32} {z : Int32 × (Nat → Int32)} (hf : fX3_worstOf now lef x1 = some z) : Con l yX3_worstOf wsX3_worstOf 3 K [.ref (a 0), .int x1] (mW K a now past err lef msg met par sv hash) (some (.int z.1)) (mW K a now past err z.2 msg met par sv hash) :=
  con_of (cc := cX3_worstOf) (maxL := 6) (ret := (some .int)) (own := RX3) (lv0 := [(0, .ref (a 0)), (1, .int x1)]) (by decide) rfl rfl (Nat.le_of_ble_eq_true rfl) rfl (fun p e s m args below meth c A C => go_lv (lv' := [(0, .ref (a 0)), (1, .int x1)]) [0, 1] rfl (WX3_worstOf_0 C hf))
set_option maxRecDepth 20000 in
theorem call_X3_worstOf {p : Program} {l : Launch} {e : Env} {s : State} {m : MethodId} {args : Array Value} {below : List Frame} {meth : Method} {c : Code} {K : KK} {A : Nat → Prop} {Q : State → Prop} {cc : ByteArray} {nL : Nat} {Ts : List Cond} {ret : Option FieldType} {pc : Nat} {lv : List (Nat × Value)} {st : List Value} {ix d : Nat} {α : Type} {kk : Int32 × (Nat → Int32) → Option α} {y : α} {a : Nat → Nat} {now : Nat → Int32} {past : Nat → Int32} {err : Nat → Int32} {lef : Nat → Int32} {msg : Nat → Int32} {met : Nat → Int32} {par : Nat → Int32} {sv : Int32} {hash : Int64} {q0 : Int32} (C : Cx p s m args meth c K A cc nL RX3 Ts ret) (hG : GoodIn Ts (wsV RX3 ix RX3 yX3_worstOf wsX3_worstOf)) (hd : decode cc pc = .ok (.invokevirtual ix, 3)) (hdd : 3 < d) (hro : (st.map fun v => v.category).sum ≤ 8) (hf : (fX3_worstOf now lef q0).bind kk = some y) (k : ∀ v, kk v = some y → Go p l e (RM d) s m args below meth c K A nL 0 0 Q (mW K a now past err v.2 msg met par sv hash) (pc + 3) lv (.int (v.1) :: st)) : Go p l e (RM d) s m args below meth c K A nL 0 0 Q (mW K a now past err lef msg met par sv hash) pc lv (.int q0 :: .ref (a 0) :: st) := by
  obtain ⟨v, hv, hf⟩ := bd_some hf
  exact go_callV_full (ry := (some .int)) (n := 1) (b := a 0) (As := [.int q0]) (rest := st) C (con_X3_worstOf l K a hv) hG (by decide) rfl ⟨Nat.succ_le_of_lt hdd, by show 8 + (6 + 11) + 40 * 3 ≤ 40 * d; omega⟩ ⟨Nat.le_refl _, Nat.le_refl _⟩ ⟨0, 3, _, _, rfl, rfl, rfl⟩ rfl rfl hro hd (k v hf)
-- X3_isSize
theorem iX3_isSize_3 : ∀ w ∈ wsX30, w ∈ wsX3_isSize := by decide +kernel
theorem kX3_isSize_7 : Cond.fieldLink RX3 7 "CosetCoderModel" "now" "[I" ∈ wsX3_isSize := by decide +kernel
set_option maxRecDepth 20000 in
set_option maxHeartbeats 2000000 in
theorem WX3_isSize_0 {p : Program} {l : Launch} {e : Env} {s : State} {m : MethodId} {args : Array Value} {below : List Frame} {meth : Method} {c : Code} {K : KK} {A : Nat → Prop} {a : Nat → Nat} (C : Cx p s m args meth c K A cX3_isSize 2 RX3 wsX3_isSize (some .boolean)) {z : Int32} {now : Nat → Int32} {past : Nat → Int32} {err : Nat → Int32} {lef : Nat → Int32} {msg : Nat → Int32} {met : Nat → Int32} {par : Nat → Int32} {sv : Int32} {hash : Int64} {x1 : Int32} (hf : FX3_isSize_0 now  x1 = some z) : Go p l e (RM 1) s m args below meth c K A 2 0 0 (MQ below (QR K (some (.int z)) (mW K a now past err lef msg met par sv hash) A) args s 0 0 A) (mW K a now past err lef msg met par sv hash) 0 [(0, .ref (a 0)), (1, .int x1)] [] := by
  unfold FX3_isSize_0 at hf
  refine go_iload_n C 1 dX3_isSize_0 rfl rfl ?_
  refine go_iconst (v := 0) C dX3_isSize_1 (by decide) ?_
  refine go_aload_n C 0 dX3_isSize_2 rfl rfl ?_
  refine gM_get_now C iX3_isSize_3 kX3_isSize_7 dX3_isSize_3 ?_
  refine go_iconst (v := 0) C dX3_isSize_6 (by decide) ?_
  refine gM_rd_now C dX3_isSize_7 hf (fun v1 hf => ?_)
  refine call_X3_within C gX3_isSize_X3_within dX3_isSize_8 (by decide) (Nat.le_of_ble_eq_true rfl) hf (fun v2 hf => ?_)
  obtain ⟨hb1, hf⟩ := ckB_some hf
  cases hf
  exact go_zret C hb1 dX3_isSize_11
set_option maxRecDepth 20000 in
theorem con_X3_isSize (l : Launch) (K : KK) (a : Nat → Nat) {now : Nat → Int32} {past : Nat → Int32} {err : Nat → Int32} {lef : Nat → Int32} {msg : Nat → Int32} {met : Nat → Int32} {par : Nat → Int32} {sv : Int32} {hash : Int64} {x1 : Int32} {z : Int32} (hf : fX3_isSize now x1 = some z) : Con l yX3_isSize wsX3_isSize 1 K [.ref (a 0), .int x1] (mW K a now past err lef msg met par sv hash) (some (.int z)) (mW K a now past err lef msg met par sv hash) :=
  con_of (cc := cX3_isSize) (maxL := 2) (ret := (some .boolean)) (own := RX3) (lv0 := [(0, .ref (a 0)), (1, .int x1)]) (by decide) rfl rfl (Nat.le_of_ble_eq_true rfl) rfl (fun p e s m args below meth c A C => go_lv (lv' := [(0, .ref (a 0)), (1, .int x1)]) [0, 1] rfl (WX3_isSize_0 C hf))
set_option maxRecDepth 20000 in
theorem call_X3_isSize {p : Program} {l : Launch} {e : Env} {s : State} {m : MethodId} {args : Array Value} {below : List Frame} {meth : Method} {c : Code} {K : KK} {A : Nat → Prop} {Q : State → Prop} {cc : ByteArray} {nL : Nat} {Ts : List Cond} {ret : Option FieldType} {pc : Nat} {lv : List (Nat × Value)} {st : List Value} {ix d : Nat} {α : Type} {kk : Int32 → Option α} {y : α} {a : Nat → Nat} {now : Nat → Int32} {past : Nat → Int32} {err : Nat → Int32} {lef : Nat → Int32} {msg : Nat → Int32} {met : Nat → Int32} {par : Nat → Int32} {sv : Int32} {hash : Int64} {q0 : Int32} (C : Cx p s m args meth c K A cc nL RX3 Ts ret) (hG : GoodIn Ts (wsV RX3 ix RX3 yX3_isSize wsX3_isSize)) (hd : decode cc pc = .ok (.invokevirtual ix, 3)) (hdd : 1 < d) (hro : (st.map fun v => v.category).sum ≤ 8) (hf : (fX3_isSize now q0).bind kk = some y) (k : ∀ v, kk v = some y → Go p l e (RM d) s m args below meth c K A nL 0 0 Q (mW K a now past err lef msg met par sv hash) (pc + 3) lv (.int v :: st)) : Go p l e (RM d) s m args below meth c K A nL 0 0 Q (mW K a now past err lef msg met par sv hash) pc lv (.int q0 :: .ref (a 0) :: st) := by
  obtain ⟨v, hv, hf⟩ := bd_some hf
  exact go_callV_full (ry := (some .boolean)) (n := 1) (b := a 0) (As := [.int q0]) (rest := st) C (con_X3_isSize l K a hv) hG (by decide) rfl ⟨Nat.succ_le_of_lt hdd, by show 8 + (2 + 11) + 40 * 1 ≤ 40 * d; omega⟩ ⟨Nat.le_refl _, Nat.le_refl _⟩ ⟨0, 3, _, _, rfl, rfl, rfl⟩ rfl rfl hro hd (k v hf)
-- X3_worstLeakage
set_option maxRecDepth 20000 in
set_option maxHeartbeats 2000000 in
theorem WX3_worstLeakage_26 {p : Program} {l : Launch} {e : Env} {s : State} {m : MethodId} {args : Array Value} {below : List Frame} {meth : Method} {c : Code} {K : KK} {A : Nat → Prop} {a : Nat → Nat} (C : Cx p s m args meth c K A cX3_worstLeakage 2 RX3 wsX3_worstLeakage (some .int)) {z : Int32 × (Nat → Int32) × (Nat → Int32)} {now : Nat → Int32} {past : Nat → Int32} {msg : Nat → Int32} {met : Nat → Int32} {par : Nat → Int32} {sv : Int32} {hash : Int64} {err : Nat → Int32} {lef : Nat → Int32} {t0 : Int32} (hf : FX3_worstLeakage_26 now  err lef t0 = some z) : Go p l e (RM 4) s m args below meth c K A 2 0 0 (MQ below (QR K (some (.int z.1)) (mW K a now past z.2.1 z.2.2 msg met par sv hash) A) args s 0 0 A) (mW K a now past err lef msg met par sv hash) 26 [] [.int t0] := by
  unfold FX3_worstLeakage_26 at hf
  cases hf
  exact go_iret C dX3_worstLeakage_26
set_option maxRecDepth 20000 in
set_option maxHeartbeats 2000000 in
theorem WX3_worstLeakage_0 {p : Program} {l : Launch} {e : Env} {s : State} {m : MethodId} {args : Array Value} {below : List Frame} {meth : Method} {c : Code} {K : KK} {A : Nat → Prop} {a : Nat → Nat} (C : Cx p s m args meth c K A cX3_worstLeakage 2 RX3 wsX3_worstLeakage (some .int)) {z : Int32 × (Nat → Int32) × (Nat → Int32)} {now : Nat → Int32} {past : Nat → Int32} {msg : Nat → Int32} {met : Nat → Int32} {par : Nat → Int32} {sv : Int32} {hash : Int64} {err : Nat → Int32} {lef : Nat → Int32} {x1 : Int32} (hf : FX3_worstLeakage_0 now  err lef x1 = some z) : Go p l e (RM 4) s m args below meth c K A 2 0 0 (MQ below (QR K (some (.int z.1)) (mW K a now past z.2.1 z.2.2 msg met par sv hash) A) args s 0 0 A) (mW K a now past err lef msg met par sv hash) 0 [(0, .ref (a 0)), (1, .int x1)] [] := by
  unfold FX3_worstLeakage_0 at hf
  refine go_aload_n C 0 dX3_worstLeakage_0 rfl rfl ?_
  refine go_iload_n C 1 dX3_worstLeakage_1 rfl rfl ?_
  refine call_X3_isSize C gX3_worstLeakage_X3_isSize dX3_worstLeakage_2 (by decide) (Nat.le_of_ble_eq_true rfl) hf (fun v1 hf => ?_)
  refine go_c1_eq C (tgt := 20) dX3_worstLeakage_5 (by decide) hf (fun h hf => ?_) (fun h hf => ?_)
  · refine go_aload_n C 0 dX3_worstLeakage_20 rfl rfl ?_
    refine go_bipush (v := (-2)) C dX3_worstLeakage_21 (by decide) ?_
    refine call_X3_fails C gX3_worstLeakage_X3_fails dX3_worstLeakage_23 (by decide) (Nat.le_of_ble_eq_true rfl) hf (fun v2 hf => ?_)
    refine go_lv (lv' := []) [] rfl ?_
    exact WX3_worstLeakage_26 C  hf
  · refine go_aload_n C 0 dX3_worstLeakage_8 rfl rfl ?_
    refine go_aload_n C 0 dX3_worstLeakage_9 rfl rfl ?_
    refine go_iload_n C 1 dX3_worstLeakage_10 rfl rfl ?_
    refine call_X3_worstOf C gX3_worstLeakage_X3_worstOf dX3_worstLeakage_11 (by decide) (Nat.le_of_ble_eq_true rfl) hf (fun v3 hf => ?_)
    refine call_X3_leakageOf C gX3_worstLeakage_X3_leakageOf dX3_worstLeakage_14 (by decide) (Nat.le_of_ble_eq_true rfl) hf (fun v4 hf => ?_)
    refine go_goto C (tgt := 26) dX3_worstLeakage_17 (by decide) ?_
    refine go_lv (lv' := []) [] rfl ?_
    exact WX3_worstLeakage_26 C  hf
set_option maxRecDepth 20000 in
theorem con_X3_worstLeakage (l : Launch) (K : KK) (a : Nat → Nat) {now : Nat → Int32} {past : Nat → Int32} {err : Nat → Int32} {lef : Nat → Int32} {msg : Nat → Int32} {met : Nat → Int32} {par : Nat → Int32} {sv : Int32} {hash : Int64} {x1 : Int32} {z : Int32 × (Nat → Int32) × (Nat → Int32)} (hf : fX3_worstLeakage now err lef x1 = some z) : Con l yX3_worstLeakage wsX3_worstLeakage 4 K [.ref (a 0), .int x1] (mW K a now past err lef msg met par sv hash) (some (.int z.1)) (mW K a now past z.2.1 z.2.2 msg met par sv hash) :=
  con_of (cc := cX3_worstLeakage) (maxL := 2) (ret := (some .int)) (own := RX3) (lv0 := [(0, .ref (a 0)), (1, .int x1)]) (by decide) rfl rfl (Nat.le_of_ble_eq_true rfl) rfl (fun p e s m args below meth c A C => go_lv (lv' := [(0, .ref (a 0)), (1, .int x1)]) [0, 1] rfl (WX3_worstLeakage_0 C hf))
set_option maxRecDepth 20000 in
theorem call_X3_worstLeakage {p : Program} {l : Launch} {e : Env} {s : State} {m : MethodId} {args : Array Value} {below : List Frame} {meth : Method} {c : Code} {K : KK} {A : Nat → Prop} {Q : State → Prop} {cc : ByteArray} {nL : Nat} {Ts : List Cond} {ret : Option FieldType} {pc : Nat} {lv : List (Nat × Value)} {st : List Value} {ix d : Nat} {α : Type} {kk : Int32 × (Nat → Int32) × (Nat → Int32) → Option α} {y : α} {a : Nat → Nat} {now : Nat → Int32} {past : Nat → Int32} {err : Nat → Int32} {lef : Nat → Int32} {msg : Nat → Int32} {met : Nat → Int32} {par : Nat → Int32} {sv : Int32} {hash : Int64} {q0 : Int32} (C : Cx p s m args meth c K A cc nL RX3 Ts ret) (hG : GoodIn Ts (wsV RX3 ix RX3 yX3_worstLeakage wsX3_worstLeakage)) (hd : decode cc pc = .ok (.invokevirtual ix, 3)) (hdd : 4 < d) (hro : (st.map fun v => v.category).sum ≤ 8) (hf : (fX3_worstLeakage now err lef q0).bind kk = some y) (k : ∀ v, kk v = some y → Go p l e (RM d) s m args below meth c K A nL 0 0 Q (mW K a now past v.2.1 v.2.2 msg met par sv hash) (pc + 3) lv (.int (v.1) :: st)) : Go p l e (RM d) s m args below meth c K A nL 0 0 Q (mW K a now past err lef msg met par sv hash) pc lv (.int q0 :: .ref (a 0) :: st) := by
  obtain ⟨v, hv, hf⟩ := bd_some hf
  exact go_callV_full (ry := (some .int)) (n := 1) (b := a 0) (As := [.int q0]) (rest := st) C (con_X3_worstLeakage l K a hv) hG (by decide) rfl ⟨Nat.succ_le_of_lt hdd, by show 8 + (2 + 11) + 40 * 4 ≤ 40 * d; omega⟩ ⟨Nat.le_refl _, Nat.le_refl _⟩ ⟨0, 3, _, _, rfl, rfl, rfl⟩ rfl rfl hro hd (k v hf)
-- X3_worstSet
set_option maxRecDepth 20000 in
set_option maxHeartbeats 2000000 in
theorem WX3_worstSet_22 {p : Program} {l : Launch} {e : Env} {s : State} {m : MethodId} {args : Array Value} {below : List Frame} {meth : Method} {c : Code} {K : KK} {A : Nat → Prop} {a : Nat → Nat} (C : Cx p s m args meth c K A cX3_worstSet 2 RX3 wsX3_worstSet (some .int)) {z : Int32 × (Nat → Int32) × (Nat → Int32)} {now : Nat → Int32} {past : Nat → Int32} {msg : Nat → Int32} {met : Nat → Int32} {par : Nat → Int32} {sv : Int32} {hash : Int64} {err : Nat → Int32} {lef : Nat → Int32} {t0 : Int32} (hf : FX3_worstSet_22 now  err lef t0 = some z) : Go p l e (RM 4) s m args below meth c K A 2 0 0 (MQ below (QR K (some (.int z.1)) (mW K a now past z.2.1 z.2.2 msg met par sv hash) A) args s 0 0 A) (mW K a now past err lef msg met par sv hash) 22 [] [.int t0] := by
  unfold FX3_worstSet_22 at hf
  cases hf
  exact go_iret C dX3_worstSet_22
set_option maxRecDepth 20000 in
set_option maxHeartbeats 2000000 in
theorem WX3_worstSet_0 {p : Program} {l : Launch} {e : Env} {s : State} {m : MethodId} {args : Array Value} {below : List Frame} {meth : Method} {c : Code} {K : KK} {A : Nat → Prop} {a : Nat → Nat} (C : Cx p s m args meth c K A cX3_worstSet 2 RX3 wsX3_worstSet (some .int)) {z : Int32 × (Nat → Int32) × (Nat → Int32)} {now : Nat → Int32} {past : Nat → Int32} {msg : Nat → Int32} {met : Nat → Int32} {par : Nat → Int32} {sv : Int32} {hash : Int64} {err : Nat → Int32} {lef : Nat → Int32} {x1 : Int32} (hf : FX3_worstSet_0 now  err lef x1 = some z) : Go p l e (RM 4) s m args below meth c K A 2 0 0 (MQ below (QR K (some (.int z.1)) (mW K a now past z.2.1 z.2.2 msg met par sv hash) A) args s 0 0 A) (mW K a now past err lef msg met par sv hash) 0 [(0, .ref (a 0)), (1, .int x1)] [] := by
  unfold FX3_worstSet_0 at hf
  refine go_aload_n C 0 dX3_worstSet_0 rfl rfl ?_
  refine go_iload_n C 1 dX3_worstSet_1 rfl rfl ?_
  refine call_X3_isSize C gX3_worstSet_X3_isSize dX3_worstSet_2 (by decide) (Nat.le_of_ble_eq_true rfl) hf (fun v1 hf => ?_)
  refine go_c1_eq C (tgt := 16) dX3_worstSet_5 (by decide) hf (fun h hf => ?_) (fun h hf => ?_)
  · refine go_aload_n C 0 dX3_worstSet_16 rfl rfl ?_
    refine go_bipush (v := (-2)) C dX3_worstSet_17 (by decide) ?_
    refine call_X3_fails C gX3_worstSet_X3_fails dX3_worstSet_19 (by decide) (Nat.le_of_ble_eq_true rfl) hf (fun v2 hf => ?_)
    refine go_lv (lv' := []) [] rfl ?_
    exact WX3_worstSet_22 C  hf
  · refine go_aload_n C 0 dX3_worstSet_8 rfl rfl ?_
    refine go_iload_n C 1 dX3_worstSet_9 rfl rfl ?_
    refine call_X3_worstOf C gX3_worstSet_X3_worstOf dX3_worstSet_10 (by decide) (Nat.le_of_ble_eq_true rfl) hf (fun v3 hf => ?_)
    refine go_goto C (tgt := 22) dX3_worstSet_13 (by decide) ?_
    refine go_lv (lv' := []) [] rfl ?_
    exact WX3_worstSet_22 C  hf
set_option maxRecDepth 20000 in
theorem con_X3_worstSet (l : Launch) (K : KK) (a : Nat → Nat) {now : Nat → Int32} {past : Nat → Int32} {err : Nat → Int32} {lef : Nat → Int32} {msg : Nat → Int32} {met : Nat → Int32} {par : Nat → Int32} {sv : Int32} {hash : Int64} {x1 : Int32} {z : Int32 × (Nat → Int32) × (Nat → Int32)} (hf : fX3_worstSet now err lef x1 = some z) : Con l yX3_worstSet wsX3_worstSet 4 K [.ref (a 0), .int x1] (mW K a now past err lef msg met par sv hash) (some (.int z.1)) (mW K a now past z.2.1 z.2.2 msg met par sv hash) :=
  con_of (cc := cX3_worstSet) (maxL := 2) (ret := (some .int)) (own := RX3) (lv0 := [(0, .ref (a 0)), (1, .int x1)]) (by decide) rfl rfl (Nat.le_of_ble_eq_true rfl) rfl (fun p e s m args below meth c A C => go_lv (lv' := [(0, .ref (a 0)), (1, .int x1)]) [0, 1] rfl (WX3_worstSet_0 C hf))
set_option maxRecDepth 20000 in
theorem call_X3_worstSet {p : Program} {l : Launch} {e : Env} {s : State} {m : MethodId} {args : Array Value} {below : List Frame} {meth : Method} {c : Code} {K : KK} {A : Nat → Prop} {Q : State → Prop} {cc : ByteArray} {nL : Nat} {Ts : List Cond} {ret : Option FieldType} {pc : Nat} {lv : List (Nat × Value)} {st : List Value} {ix d : Nat} {α : Type} {kk : Int32 × (Nat → Int32) × (Nat → Int32) → Option α} {y : α} {a : Nat → Nat} {now : Nat → Int32} {past : Nat → Int32} {err : Nat → Int32} {lef : Nat → Int32} {msg : Nat → Int32} {met : Nat → Int32} {par : Nat → Int32} {sv : Int32} {hash : Int64} {q0 : Int32} (C : Cx p s m args meth c K A cc nL RX3 Ts ret) (hG : GoodIn Ts (wsV RX3 ix RX3 yX3_worstSet wsX3_worstSet)) (hd : decode cc pc = .ok (.invokevirtual ix, 3)) (hdd : 4 < d) (hro : (st.map fun v => v.category).sum ≤ 8) (hf : (fX3_worstSet now err lef q0).bind kk = some y) (k : ∀ v, kk v = some y → Go p l e (RM d) s m args below meth c K A nL 0 0 Q (mW K a now past v.2.1 v.2.2 msg met par sv hash) (pc + 3) lv (.int (v.1) :: st)) : Go p l e (RM d) s m args below meth c K A nL 0 0 Q (mW K a now past err lef msg met par sv hash) pc lv (.int q0 :: .ref (a 0) :: st) := by
  obtain ⟨v, hv, hf⟩ := bd_some hf
  exact go_callV_full (ry := (some .int)) (n := 1) (b := a 0) (As := [.int q0]) (rest := st) C (con_X3_worstSet l K a hv) hG (by decide) rfl ⟨Nat.succ_le_of_lt hdd, by show 8 + (2 + 11) + 40 * 4 ≤ 40 * d; omega⟩ ⟨Nat.le_refl _, Nat.le_refl _⟩ ⟨0, 3, _, _, rfl, rfl, rfl⟩ rfl rfl hro hd (k v hf)
-- X3_threshold
theorem iX3_threshold_3 : ∀ w ∈ wsX30, w ∈ wsX3_threshold := by decide +kernel
theorem kX3_threshold_7 : Cond.fieldLink RX3 7 "CosetCoderModel" "now" "[I" ∈ wsX3_threshold := by decide +kernel
set_option maxRecDepth 20000 in
set_option maxHeartbeats 2000000 in
theorem WX3_threshold_32 {p : Program} {l : Launch} {e : Env} {s : State} {m : MethodId} {args : Array Value} {below : List Frame} {meth : Method} {c : Code} {K : KK} {A : Nat → Prop} {a : Nat → Nat} (C : Cx p s m args meth c K A cX3_threshold 2 RX3 wsX3_threshold (some .int)) {z : Int32 × (Nat → Int32)} {now : Nat → Int32} {past : Nat → Int32} {err : Nat → Int32} {msg : Nat → Int32} {met : Nat → Int32} {par : Nat → Int32} {sv : Int32} {hash : Int64} {lef : Nat → Int32} {x1 : Int32} (hf : FX3_threshold_32 now  lef x1 = some z) : Go p l e (RM 4) s m args below meth c K A 2 0 0 (MQ below (QR K (some (.int z.1)) (mW K a now past err z.2 msg met par sv hash) A) args s 0 0 A) (mW K a now past err lef msg met par sv hash) 32 [(1, .int x1)] [] := by
  unfold FX3_threshold_32 at hf
  refine go_iload_n C 0 dX3_threshold_32 rfl rfl ?_
  cases hf
  exact go_iret C dX3_threshold_33
set_option maxRecDepth 20000 in
set_option maxHeartbeats 2000000 in
theorem WX3_threshold_2 {p : Program} {l : Launch} {e : Env} {s : State} {m : MethodId} {args : Array Value} {below : List Frame} {meth : Method} {c : Code} {K : KK} {A : Nat → Prop} {a : Nat → Nat} (C : Cx p s m args meth c K A cX3_threshold 2 RX3 wsX3_threshold (some .int)) {z : Int32 × (Nat → Int32)} {now : Nat → Int32} {past : Nat → Int32} {err : Nat → Int32} {msg : Nat → Int32} {met : Nat → Int32} {par : Nat → Int32} {sv : Int32} {hash : Int64} {r2 : (Nat → Int32) → Int32 → Option (Int32 × (Nat → Int32))} {lef : Nat → Int32} {x1 : Int32} (hr2 : ∀ (lef : Nat → Int32) (x1 : Int32), r2 lef x1 = some z → Go p l e (RM 4) s m args below meth c K A 2 0 0 (MQ below (QR K (some (.int z.1)) (mW K a now past err z.2 msg met par sv hash) A) args s 0 0 A) (mW K a now past err lef msg met par sv hash) 2 [(0, .ref (a 0)), (1, .int x1)] []) (hf : FX3_threshold_2 now r2 lef x1 = some z) : Go p l e (RM 4) s m args below meth c K A 2 0 0 (MQ below (QR K (some (.int z.1)) (mW K a now past err z.2 msg met par sv hash) A) args s 0 0 A) (mW K a now past err lef msg met par sv hash) 2 [(0, .ref (a 0)), (1, .int x1)] [] := by
  unfold FX3_threshold_2 at hf
  refine go_iload_n C 1 dX3_threshold_2 rfl rfl ?_
  refine go_aload_n C 0 dX3_threshold_3 rfl rfl ?_
  refine gM_get_now C iX3_threshold_3 kX3_threshold_7 dX3_threshold_4 ?_
  refine go_iconst (v := 0) C dX3_threshold_7 (by decide) ?_
  refine gM_rd_now C dX3_threshold_8 hf (fun v1 hf => ?_)
  refine go_c2_ge C (tgt := 32) dX3_threshold_9 (by decide) hf (fun h hf => ?_) (fun h hf => ?_)
  · refine go_lv (lv' := [(1, .int x1)]) [1] rfl ?_
    exact WX3_threshold_32 C  hf
  · refine go_aload_n C 0 dX3_threshold_12 rfl rfl ?_
    refine go_aload_n C 0 dX3_threshold_13 rfl rfl ?_
    refine go_iload_n C 1 dX3_threshold_14 rfl rfl ?_
    refine go_iconst (v := 1) C dX3_threshold_15 (by decide) ?_
    refine go_iadd C dX3_threshold_16 ?_
    refine call_X3_worstOf C gX3_threshold_X3_worstOf dX3_threshold_17 (by decide) (Nat.le_of_ble_eq_true rfl) hf (fun v2 hf => ?_)
    refine call_X3_leakageOf C gX3_threshold_X3_leakageOf dX3_threshold_20 (by decide) (Nat.le_of_ble_eq_true rfl) hf (fun v3 hf => ?_)
    refine go_c1_ne C (tgt := 32) dX3_threshold_23 (by decide) hf (fun h hf => ?_) (fun h hf => ?_)
    · refine go_lv (lv' := [(1, .int x1)]) [1] rfl ?_
      exact WX3_threshold_32 C  hf
    · refine go_iinc C (v := x1 + 1) (lv' := [(0, .ref (a 0)), (1, .int (x1 + 1))]) 1 [1, 0] dX3_threshold_26 rfl rfl (by decide) rfl ?_
      refine go_goto C (tgt := 2) dX3_threshold_29 (by decide) ?_
      exact hr2 _ _ hf
theorem wX3_threshold_2 {p : Program} {l : Launch} {e : Env} {s : State} {m : MethodId} {args : Array Value} {below : List Frame} {meth : Method} {c : Code} {K : KK} {A : Nat → Prop} {a : Nat → Nat} (C : Cx p s m args meth c K A cX3_threshold 2 RX3 wsX3_threshold (some .int)) {z : Int32 × (Nat → Int32)} {now : Nat → Int32} {past : Nat → Int32} {err : Nat → Int32} {msg : Nat → Int32} {met : Nat → Int32} {par : Nat → Int32} {sv : Int32} {hash : Int64} : ∀ (n : Nat) (lef : Nat → Int32) (x1 : Int32), fX3_threshold_2 now  n lef x1 = some z → Go p l e (RM 4) s m args below meth c K A 2 0 0 (MQ below (QR K (some (.int z.1)) (mW K a now past err z.2 msg met par sv hash) A) args s 0 0 A) (mW K a now past err lef msg met par sv hash) 2 [(0, .ref (a 0)), (1, .int x1)] [] := by
  intro n
  induction n with
  | zero => intro _ _ hf; cases hf
  | succ n ih => intro _ _ hf; exact WX3_threshold_2 C  ih hf
set_option maxRecDepth 20000 in
set_option maxHeartbeats 2000000 in
theorem WX3_threshold_0 {p : Program} {l : Launch} {e : Env} {s : State} {m : MethodId} {args : Array Value} {below : List Frame} {meth : Method} {c : Code} {K : KK} {A : Nat → Prop} {a : Nat → Nat} (C : Cx p s m args meth c K A cX3_threshold 2 RX3 wsX3_threshold (some .int)) {z : Int32 × (Nat → Int32)} {now : Nat → Int32} {past : Nat → Int32} {err : Nat → Int32} {msg : Nat → Int32} {met : Nat → Int32} {par : Nat → Int32} {sv : Int32} {hash : Int64} {lef : Nat → Int32} (hf : FX3_threshold_0 now  lef = some z) : Go p l e (RM 4) s m args below meth c K A 2 0 0 (MQ below (QR K (some (.int z.1)) (mW K a now past err z.2 msg met par sv hash) A) args s 0 0 A) (mW K a now past err lef msg met par sv hash) 0 [(0, .ref (a 0))] [] := by
  unfold FX3_threshold_0 at hf
  refine go_iconst (v := 0) C dX3_threshold_0 (by decide) ?_
  refine go_istore_n C (lv' := [(0, .ref (a 0)), (1, .int 0)]) [1, 0] dX3_threshold_1 rfl (by decide) rfl ?_
  exact wX3_threshold_2 C  300 _ _ hf
set_option maxRecDepth 20000 in
theorem con_X3_threshold (l : Launch) (K : KK) (a : Nat → Nat) {now : Nat → Int32} {past : Nat → Int32} {err : Nat → Int32} {lef : Nat → Int32} {msg : Nat → Int32} {met : Nat → Int32} {par : Nat → Int32} {sv : Int32} {hash : Int64} {z : Int32 × (Nat → Int32)} (hf : fX3_threshold now lef = some z) : Con l yX3_threshold wsX3_threshold 4 K [.ref (a 0)] (mW K a now past err lef msg met par sv hash) (some (.int z.1)) (mW K a now past err z.2 msg met par sv hash) :=
  con_of (cc := cX3_threshold) (maxL := 2) (ret := (some .int)) (own := RX3) (lv0 := [(0, .ref (a 0))]) (by decide) rfl rfl (Nat.le_of_ble_eq_true rfl) rfl (fun p e s m args below meth c A C => go_lv (lv' := [(0, .ref (a 0))]) [0] rfl (WX3_threshold_0 C hf))
set_option maxRecDepth 20000 in
theorem call_X3_threshold {p : Program} {l : Launch} {e : Env} {s : State} {m : MethodId} {args : Array Value} {below : List Frame} {meth : Method} {c : Code} {K : KK} {A : Nat → Prop} {Q : State → Prop} {cc : ByteArray} {nL : Nat} {Ts : List Cond} {ret : Option FieldType} {pc : Nat} {lv : List (Nat × Value)} {st : List Value} {ix d : Nat} {α : Type} {kk : Int32 × (Nat → Int32) → Option α} {y : α} {a : Nat → Nat} {now : Nat → Int32} {past : Nat → Int32} {err : Nat → Int32} {lef : Nat → Int32} {msg : Nat → Int32} {met : Nat → Int32} {par : Nat → Int32} {sv : Int32} {hash : Int64} (C : Cx p s m args meth c K A cc nL RX3 Ts ret) (hG : GoodIn Ts (wsV RX3 ix RX3 yX3_threshold wsX3_threshold)) (hd : decode cc pc = .ok (.invokevirtual ix, 3)) (hdd : 4 < d) (hro : (st.map fun v => v.category).sum ≤ 8) (hf : (fX3_threshold now lef).bind kk = some y) (k : ∀ v, kk v = some y → Go p l e (RM d) s m args below meth c K A nL 0 0 Q (mW K a now past err v.2 msg met par sv hash) (pc + 3) lv (.int (v.1) :: st)) : Go p l e (RM d) s m args below meth c K A nL 0 0 Q (mW K a now past err lef msg met par sv hash) pc lv (.ref (a 0) :: st) := by
  obtain ⟨v, hv, hf⟩ := bd_some hf
  exact go_callV_full (ry := (some .int)) (n := 0) (b := a 0) (As := []) (rest := st) C (con_X3_threshold l K a hv) hG (by decide) rfl ⟨Nat.succ_le_of_lt hdd, by show 8 + (2 + 11) + 40 * 4 ≤ 40 * d; omega⟩ ⟨Nat.le_refl _, Nat.le_refl _⟩ ⟨0, 3, _, _, rfl, rfl, rfl⟩ rfl rfl hro hd (k v hf)
-- X3_leastSize
theorem iX3_leastSize_3 : ∀ w ∈ wsX30, w ∈ wsX3_leastSize := by decide +kernel
theorem kX3_leastSize_7 : Cond.fieldLink RX3 7 "CosetCoderModel" "now" "[I" ∈ wsX3_leastSize := by decide +kernel
set_option maxRecDepth 20000 in
set_option maxHeartbeats 2000000 in
theorem WX3_leastSize_63 {p : Program} {l : Launch} {e : Env} {s : State} {m : MethodId} {args : Array Value} {below : List Frame} {meth : Method} {c : Code} {K : KK} {A : Nat → Prop} {a : Nat → Nat} (C : Cx p s m args meth c K A cX3_leastSize 3 RX3 wsX3_leastSize (some .int)) {z : Int32 × (Nat → Int32) × (Nat → Int32)} {now : Nat → Int32} {past : Nat → Int32} {msg : Nat → Int32} {met : Nat → Int32} {par : Nat → Int32} {sv : Int32} {hash : Int64} {err : Nat → Int32} {lef : Nat → Int32} {t0 : Int32} (hf : FX3_leastSize_63 now  err lef t0 = some z) : Go p l e (RM 4) s m args below meth c K A 3 0 0 (MQ below (QR K (some (.int z.1)) (mW K a now past z.2.1 z.2.2 msg met par sv hash) A) args s 0 0 A) (mW K a now past err lef msg met par sv hash) 63 [] [.int t0] := by
  unfold FX3_leastSize_63 at hf
  cases hf
  exact go_iret C dX3_leastSize_63
set_option maxRecDepth 20000 in
set_option maxHeartbeats 2000000 in
theorem WX3_leastSize_48 {p : Program} {l : Launch} {e : Env} {s : State} {m : MethodId} {args : Array Value} {below : List Frame} {meth : Method} {c : Code} {K : KK} {A : Nat → Prop} {a : Nat → Nat} (C : Cx p s m args meth c K A cX3_leastSize 3 RX3 wsX3_leastSize (some .int)) {z : Int32 × (Nat → Int32) × (Nat → Int32)} {now : Nat → Int32} {past : Nat → Int32} {msg : Nat → Int32} {met : Nat → Int32} {par : Nat → Int32} {sv : Int32} {hash : Int64} {err : Nat → Int32} {lef : Nat → Int32} {x2 : Int32} (hf : FX3_leastSize_48 now  err lef x2 = some z) : Go p l e (RM 4) s m args below meth c K A 3 0 0 (MQ below (QR K (some (.int z.1)) (mW K a now past z.2.1 z.2.2 msg met par sv hash) A) args s 0 0 A) (mW K a now past err lef msg met par sv hash) 48 [(0, .ref (a 0)), (2, .int x2)] [] := by
  unfold FX3_leastSize_48 at hf
  refine go_iload_n C 1 dX3_leastSize_48 rfl rfl ?_
  refine go_aload_n C 0 dX3_leastSize_49 rfl rfl ?_
  refine gM_get_now C iX3_leastSize_3 kX3_leastSize_7 dX3_leastSize_50 ?_
  refine go_iconst (v := 0) C dX3_leastSize_53 (by decide) ?_
  refine gM_rd_now C dX3_leastSize_54 hf (fun v1 hf => ?_)
  refine go_c2_le C (tgt := 62) dX3_leastSize_55 (by decide) hf (fun h hf => ?_) (fun h hf => ?_)
  · refine go_iload_n C 1 dX3_leastSize_62 rfl rfl ?_
    refine go_lv (lv' := []) [] rfl ?_
    exact WX3_leastSize_63 C  hf
  · refine go_iconst (v := (-1)) C dX3_leastSize_58 (by decide) ?_
    refine go_goto C (tgt := 63) dX3_leastSize_59 (by decide) ?_
    refine go_lv (lv' := []) [] rfl ?_
    exact WX3_leastSize_63 C  hf
set_option maxRecDepth 20000 in
set_option maxHeartbeats 2000000 in
theorem WX3_leastSize_19 {p : Program} {l : Launch} {e : Env} {s : State} {m : MethodId} {args : Array Value} {below : List Frame} {meth : Method} {c : Code} {K : KK} {A : Nat → Prop} {a : Nat → Nat} (C : Cx p s m args meth c K A cX3_leastSize 3 RX3 wsX3_leastSize (some .int)) {z : Int32 × (Nat → Int32) × (Nat → Int32)} {now : Nat → Int32} {past : Nat → Int32} {msg : Nat → Int32} {met : Nat → Int32} {par : Nat → Int32} {sv : Int32} {hash : Int64} {r19 : (Nat → Int32) → (Nat → Int32) → Int32 → Int32 → Option (Int32 × (Nat → Int32) × (Nat → Int32))} {err : Nat → Int32} {lef : Nat → Int32} {x1 : Int32} {x2 : Int32} (hr19 : ∀ (err : Nat → Int32) (lef : Nat → Int32) (x1 : Int32) (x2 : Int32), r19 err lef x1 x2 = some z → Go p l e (RM 4) s m args below meth c K A 3 0 0 (MQ below (QR K (some (.int z.1)) (mW K a now past z.2.1 z.2.2 msg met par sv hash) A) args s 0 0 A) (mW K a now past err lef msg met par sv hash) 19 [(0, .ref (a 0)), (1, .int x1), (2, .int x2)] []) (hf : FX3_leastSize_19 now r19 err lef x1 x2 = some z) : Go p l e (RM 4) s m args below meth c K A 3 0 0 (MQ below (QR K (some (.int z.1)) (mW K a now past z.2.1 z.2.2 msg met par sv hash) A) args s 0 0 A) (mW K a now past err lef msg met par sv hash) 19 [(0, .ref (a 0)), (1, .int x1), (2, .int x2)] [] := by
  unfold FX3_leastSize_19 at hf
  refine go_iload_n C 2 dX3_leastSize_19 rfl rfl ?_
  refine go_aload_n C 0 dX3_leastSize_20 rfl rfl ?_
  refine gM_get_now C iX3_leastSize_3 kX3_leastSize_7 dX3_leastSize_21 ?_
  refine go_iconst (v := 0) C dX3_leastSize_24 (by decide) ?_
  refine gM_rd_now C dX3_leastSize_25 hf (fun v2 hf => ?_)
  refine go_c2_gt C (tgt := 48) dX3_leastSize_26 (by decide) hf (fun h hf => ?_) (fun h hf => ?_)
  · refine go_lv (lv' := [(0, .ref (a 0)), (2, .int x2)]) [0, 2] rfl ?_
    exact WX3_leastSize_48 C  hf
  · refine go_aload_n C 0 dX3_leastSize_29 rfl rfl ?_
    refine go_aload_n C 0 dX3_leastSize_30 rfl rfl ?_
    refine go_iload_n C 2 dX3_leastSize_31 rfl rfl ?_
    refine call_X3_worstOf C gX3_leastSize_X3_worstOf dX3_leastSize_32 (by decide) (Nat.le_of_ble_eq_true rfl) hf (fun v3 hf => ?_)
    refine call_X3_leakageOf C gX3_leastSize_X3_leakageOf dX3_leastSize_35 (by decide) (Nat.le_of_ble_eq_true rfl) hf (fun v4 hf => ?_)
    refine go_iload_n C 1 dX3_leastSize_38 rfl rfl ?_
    refine go_c2_ge C (tgt := 48) dX3_leastSize_39 (by decide) hf (fun h hf => ?_) (fun h hf => ?_)
    · refine go_lv (lv' := [(0, .ref (a 0)), (2, .int x2)]) [0, 2] rfl ?_
      exact WX3_leastSize_48 C  hf
    · refine go_iinc C (v := x2 + 1) (lv' := [(0, .ref (a 0)), (1, .int x1), (2, .int (x2 + 1))]) 2 [1, 2, 0] dX3_leastSize_42 rfl rfl (by decide) rfl ?_
      refine go_goto C (tgt := 19) dX3_leastSize_45 (by decide) ?_
      exact hr19 _ _ _ _ hf
theorem wX3_leastSize_19 {p : Program} {l : Launch} {e : Env} {s : State} {m : MethodId} {args : Array Value} {below : List Frame} {meth : Method} {c : Code} {K : KK} {A : Nat → Prop} {a : Nat → Nat} (C : Cx p s m args meth c K A cX3_leastSize 3 RX3 wsX3_leastSize (some .int)) {z : Int32 × (Nat → Int32) × (Nat → Int32)} {now : Nat → Int32} {past : Nat → Int32} {msg : Nat → Int32} {met : Nat → Int32} {par : Nat → Int32} {sv : Int32} {hash : Int64} : ∀ (n : Nat) (err : Nat → Int32) (lef : Nat → Int32) (x1 : Int32) (x2 : Int32), fX3_leastSize_19 now  n err lef x1 x2 = some z → Go p l e (RM 4) s m args below meth c K A 3 0 0 (MQ below (QR K (some (.int z.1)) (mW K a now past z.2.1 z.2.2 msg met par sv hash) A) args s 0 0 A) (mW K a now past err lef msg met par sv hash) 19 [(0, .ref (a 0)), (1, .int x1), (2, .int x2)] [] := by
  intro n
  induction n with
  | zero => intro _ _ _ _ hf; cases hf
  | succ n ih => intro _ _ _ _ hf; exact WX3_leastSize_19 C  ih hf
set_option maxRecDepth 20000 in
set_option maxHeartbeats 2000000 in
theorem WX3_leastSize_0 {p : Program} {l : Launch} {e : Env} {s : State} {m : MethodId} {args : Array Value} {below : List Frame} {meth : Method} {c : Code} {K : KK} {A : Nat → Prop} {a : Nat → Nat} (C : Cx p s m args meth c K A cX3_leastSize 3 RX3 wsX3_leastSize (some .int)) {z : Int32 × (Nat → Int32) × (Nat → Int32)} {now : Nat → Int32} {past : Nat → Int32} {msg : Nat → Int32} {met : Nat → Int32} {par : Nat → Int32} {sv : Int32} {hash : Int64} {err : Nat → Int32} {lef : Nat → Int32} {x1 : Int32} (hf : FX3_leastSize_0 now  err lef x1 = some z) : Go p l e (RM 4) s m args below meth c K A 3 0 0 (MQ below (QR K (some (.int z.1)) (mW K a now past z.2.1 z.2.2 msg met par sv hash) A) args s 0 0 A) (mW K a now past err lef msg met par sv hash) 0 [(0, .ref (a 0)), (1, .int x1)] [] := by
  unfold FX3_leastSize_0 at hf
  refine go_iload_n C 1 dX3_leastSize_0 rfl rfl ?_
  refine go_iconst (v := 1) C dX3_leastSize_1 (by decide) ?_
  refine go_bipush (v := 6) C dX3_leastSize_2 (by decide) ?_
  refine call_X3_within C gX3_leastSize_X3_within dX3_leastSize_4 (by decide) (Nat.le_of_ble_eq_true rfl) hf (fun v5 hf => ?_)
  refine go_c1_ne C (tgt := 17) dX3_leastSize_7 (by decide) hf (fun h hf => ?_) (fun h hf => ?_)
  · refine go_iconst (v := 0) C dX3_leastSize_17 (by decide) ?_
    refine go_istore_n C (lv' := [(0, .ref (a 0)), (1, .int x1), (2, .int 0)]) [1, 2, 0] dX3_leastSize_18 rfl (by decide) rfl ?_
    exact wX3_leastSize_19 C  300 _ _ _ _ hf
  · refine go_aload_n C 0 dX3_leastSize_10 rfl rfl ?_
    refine go_bipush (v := (-2)) C dX3_leastSize_11 (by decide) ?_
    refine call_X3_fails C gX3_leastSize_X3_fails dX3_leastSize_13 (by decide) (Nat.le_of_ble_eq_true rfl) hf (fun v6 hf => ?_)
    cases hf
    exact go_iret C dX3_leastSize_16
set_option maxRecDepth 20000 in
theorem con_X3_leastSize (l : Launch) (K : KK) (a : Nat → Nat) {now : Nat → Int32} {past : Nat → Int32} {err : Nat → Int32} {lef : Nat → Int32} {msg : Nat → Int32} {met : Nat → Int32} {par : Nat → Int32} {sv : Int32} {hash : Int64} {x1 : Int32} {z : Int32 × (Nat → Int32) × (Nat → Int32)} (hf : fX3_leastSize now err lef x1 = some z) : Con l yX3_leastSize wsX3_leastSize 4 K [.ref (a 0), .int x1] (mW K a now past err lef msg met par sv hash) (some (.int z.1)) (mW K a now past z.2.1 z.2.2 msg met par sv hash) :=
  con_of (cc := cX3_leastSize) (maxL := 3) (ret := (some .int)) (own := RX3) (lv0 := [(0, .ref (a 0)), (1, .int x1)]) (by decide) rfl rfl (Nat.le_of_ble_eq_true rfl) rfl (fun p e s m args below meth c A C => go_lv (lv' := [(0, .ref (a 0)), (1, .int x1)]) [0, 1] rfl (WX3_leastSize_0 C hf))
set_option maxRecDepth 20000 in
theorem call_X3_leastSize {p : Program} {l : Launch} {e : Env} {s : State} {m : MethodId} {args : Array Value} {below : List Frame} {meth : Method} {c : Code} {K : KK} {A : Nat → Prop} {Q : State → Prop} {cc : ByteArray} {nL : Nat} {Ts : List Cond} {ret : Option FieldType} {pc : Nat} {lv : List (Nat × Value)} {st : List Value} {ix d : Nat} {α : Type} {kk : Int32 × (Nat → Int32) × (Nat → Int32) → Option α} {y : α} {a : Nat → Nat} {now : Nat → Int32} {past : Nat → Int32} {err : Nat → Int32} {lef : Nat → Int32} {msg : Nat → Int32} {met : Nat → Int32} {par : Nat → Int32} {sv : Int32} {hash : Int64} {q0 : Int32} (C : Cx p s m args meth c K A cc nL RX3 Ts ret) (hG : GoodIn Ts (wsV RX3 ix RX3 yX3_leastSize wsX3_leastSize)) (hd : decode cc pc = .ok (.invokevirtual ix, 3)) (hdd : 4 < d) (hro : (st.map fun v => v.category).sum ≤ 8) (hf : (fX3_leastSize now err lef q0).bind kk = some y) (k : ∀ v, kk v = some y → Go p l e (RM d) s m args below meth c K A nL 0 0 Q (mW K a now past v.2.1 v.2.2 msg met par sv hash) (pc + 3) lv (.int (v.1) :: st)) : Go p l e (RM d) s m args below meth c K A nL 0 0 Q (mW K a now past err lef msg met par sv hash) pc lv (.int q0 :: .ref (a 0) :: st) := by
  obtain ⟨v, hv, hf⟩ := bd_some hf
  exact go_callV_full (ry := (some .int)) (n := 1) (b := a 0) (As := [.int q0]) (rest := st) C (con_X3_leastSize l K a hv) hG (by decide) rfl ⟨Nat.succ_le_of_lt hdd, by show 8 + (3 + 11) + 40 * 4 ≤ 40 * d; omega⟩ ⟨Nat.le_refl _, Nat.le_refl _⟩ ⟨0, 3, _, _, rfl, rfl, rfl⟩ rfl rfl hro hd (k v hf)
-- X3_isObservation
set_option maxRecDepth 20000 in
set_option maxHeartbeats 2000000 in
theorem WX3_isObservation_29 {p : Program} {l : Launch} {e : Env} {s : State} {m : MethodId} {args : Array Value} {below : List Frame} {meth : Method} {c : Code} {K : KK} {A : Nat → Prop} {a : Nat → Nat} (C : Cx p s m args meth c K A cX3_isObservation 3 RX3 wsX3_isObservation (some .boolean)) {z : Int32} {now : Nat → Int32} {past : Nat → Int32} {err : Nat → Int32} {lef : Nat → Int32} {msg : Nat → Int32} {met : Nat → Int32} {par : Nat → Int32} {sv : Int32} {hash : Int64} {t0 : Int32} (hf : FX3_isObservation_29 now  t0 = some z) : Go p l e (RM 2) s m args below meth c K A 3 0 0 (MQ below (QR K (some (.int z)) (mW K a now past err lef msg met par sv hash) A) args s 0 0 A) (mW K a now past err lef msg met par sv hash) 29 [] [.int t0] := by
  unfold FX3_isObservation_29 at hf
  obtain ⟨hb1, hf⟩ := ckB_some hf
  cases hf
  exact go_zret C hb1 dX3_isObservation_29
set_option maxRecDepth 20000 in
set_option maxHeartbeats 2000000 in
theorem WX3_isObservation_28 {p : Program} {l : Launch} {e : Env} {s : State} {m : MethodId} {args : Array Value} {below : List Frame} {meth : Method} {c : Code} {K : KK} {A : Nat → Prop} {a : Nat → Nat} (C : Cx p s m args meth c K A cX3_isObservation 3 RX3 wsX3_isObservation (some .boolean)) {z : Int32} {now : Nat → Int32} {past : Nat → Int32} {err : Nat → Int32} {lef : Nat → Int32} {msg : Nat → Int32} {met : Nat → Int32} {par : Nat → Int32} {sv : Int32} {hash : Int64} (hf : FX3_isObservation_28 now   = some z) : Go p l e (RM 2) s m args below meth c K A 3 0 0 (MQ below (QR K (some (.int z)) (mW K a now past err lef msg met par sv hash) A) args s 0 0 A) (mW K a now past err lef msg met par sv hash) 28 [] [] := by
  unfold FX3_isObservation_28 at hf
  refine go_iconst (v := 0) C dX3_isObservation_28 (by decide) ?_
  exact WX3_isObservation_29 C  hf
set_option maxRecDepth 20000 in
set_option maxHeartbeats 2000000 in
theorem WX3_isObservation_0 {p : Program} {l : Launch} {e : Env} {s : State} {m : MethodId} {args : Array Value} {below : List Frame} {meth : Method} {c : Code} {K : KK} {A : Nat → Prop} {a : Nat → Nat} (C : Cx p s m args meth c K A cX3_isObservation 3 RX3 wsX3_isObservation (some .boolean)) {z : Int32} {now : Nat → Int32} {past : Nat → Int32} {err : Nat → Int32} {lef : Nat → Int32} {msg : Nat → Int32} {met : Nat → Int32} {par : Nat → Int32} {sv : Int32} {hash : Int64} {x1 : Int32} {x2 : Int32} (hf : FX3_isObservation_0 now  x1 x2 = some z) : Go p l e (RM 2) s m args below meth c K A 3 0 0 (MQ below (QR K (some (.int z)) (mW K a now past err lef msg met par sv hash) A) args s 0 0 A) (mW K a now past err lef msg met par sv hash) 0 [(0, .ref (a 0)), (1, .int x1), (2, .int x2)] [] := by
  unfold FX3_isObservation_0 at hf
  refine go_aload_n C 0 dX3_isObservation_0 rfl rfl ?_
  refine go_iload_n C 1 dX3_isObservation_1 rfl rfl ?_
  refine call_X3_isWord C gX3_isObservation_X3_isWord dX3_isObservation_2 (by decide) (Nat.le_of_ble_eq_true rfl) hf (fun v1 hf => ?_)
  refine go_c1_eq C (tgt := 28) dX3_isObservation_5 (by decide) hf (fun h hf => ?_) (fun h hf => ?_)
  · refine go_lv (lv' := []) [] rfl ?_
    exact WX3_isObservation_28 C  hf
  · refine go_aload_n C 0 dX3_isObservation_8 rfl rfl ?_
    refine go_iload_n C 2 dX3_isObservation_9 rfl rfl ?_
    refine call_X3_isWord C gX3_isObservation_X3_isWord dX3_isObservation_10 (by decide) (Nat.le_of_ble_eq_true rfl) hf (fun v2 hf => ?_)
    refine go_c1_eq C (tgt := 28) dX3_isObservation_13 (by decide) hf (fun h hf => ?_) (fun h hf => ?_)
    · refine go_lv (lv' := []) [] rfl ?_
      exact WX3_isObservation_28 C  hf
    · refine go_iload_n C 2 dX3_isObservation_16 rfl rfl ?_
      refine go_iload_n C 1 dX3_isObservation_17 rfl rfl ?_
      refine go_iconst (v := (-1)) C dX3_isObservation_18 (by decide) ?_
      refine go_ixor C dX3_isObservation_19 ?_
      refine go_iand C dX3_isObservation_20 ?_
      refine go_c1_ne C (tgt := 28) dX3_isObservation_21 (by decide) hf (fun h hf => ?_) (fun h hf => ?_)
      · refine go_lv (lv' := []) [] rfl ?_
        exact WX3_isObservation_28 C  hf
      · refine go_iconst (v := 1) C dX3_isObservation_24 (by decide) ?_
        refine go_goto C (tgt := 29) dX3_isObservation_25 (by decide) ?_
        refine go_lv (lv' := []) [] rfl ?_
        exact WX3_isObservation_29 C  hf
set_option maxRecDepth 20000 in
theorem con_X3_isObservation (l : Launch) (K : KK) (a : Nat → Nat) {now : Nat → Int32} {past : Nat → Int32} {err : Nat → Int32} {lef : Nat → Int32} {msg : Nat → Int32} {met : Nat → Int32} {par : Nat → Int32} {sv : Int32} {hash : Int64} {x1 : Int32} {x2 : Int32} {z : Int32} (hf : fX3_isObservation now x1 x2 = some z) : Con l yX3_isObservation wsX3_isObservation 2 K [.ref (a 0), .int x1, .int x2] (mW K a now past err lef msg met par sv hash) (some (.int z)) (mW K a now past err lef msg met par sv hash) :=
  con_of (cc := cX3_isObservation) (maxL := 3) (ret := (some .boolean)) (own := RX3) (lv0 := [(0, .ref (a 0)), (1, .int x1), (2, .int x2)]) (by decide) rfl rfl (Nat.le_of_ble_eq_true rfl) rfl (fun p e s m args below meth c A C => go_lv (lv' := [(0, .ref (a 0)), (1, .int x1), (2, .int x2)]) [0, 1, 2] rfl (WX3_isObservation_0 C hf))
set_option maxRecDepth 20000 in
theorem call_X3_isObservation {p : Program} {l : Launch} {e : Env} {s : State} {m : MethodId} {args : Array Value} {below : List Frame} {meth : Method} {c : Code} {K : KK} {A : Nat → Prop} {Q : State → Prop} {cc : ByteArray} {nL : Nat} {Ts : List Cond} {ret : Option FieldType} {pc : Nat} {lv : List (Nat × Value)} {st : List Value} {ix d : Nat} {α : Type} {kk : Int32 → Option α} {y : α} {a : Nat → Nat} {now : Nat → Int32} {past : Nat → Int32} {err : Nat → Int32} {lef : Nat → Int32} {msg : Nat → Int32} {met : Nat → Int32} {par : Nat → Int32} {sv : Int32} {hash : Int64} {q0 : Int32} {q1 : Int32} (C : Cx p s m args meth c K A cc nL RX3 Ts ret) (hG : GoodIn Ts (wsV RX3 ix RX3 yX3_isObservation wsX3_isObservation)) (hd : decode cc pc = .ok (.invokevirtual ix, 3)) (hdd : 2 < d) (hro : (st.map fun v => v.category).sum ≤ 8) (hf : (fX3_isObservation now q0 q1).bind kk = some y) (k : ∀ v, kk v = some y → Go p l e (RM d) s m args below meth c K A nL 0 0 Q (mW K a now past err lef msg met par sv hash) (pc + 3) lv (.int v :: st)) : Go p l e (RM d) s m args below meth c K A nL 0 0 Q (mW K a now past err lef msg met par sv hash) pc lv (.int q1 :: .int q0 :: .ref (a 0) :: st) := by
  obtain ⟨v, hv, hf⟩ := bd_some hf
  exact go_callV_full (ry := (some .boolean)) (n := 2) (b := a 0) (As := [.int q0, .int q1]) (rest := st) C (con_X3_isObservation l K a hv) hG (by decide) rfl ⟨Nat.succ_le_of_lt hdd, by show 8 + (3 + 11) + 40 * 2 ≤ 40 * d; omega⟩ ⟨Nat.le_refl _, Nat.le_refl _⟩ ⟨0, 3, _, _, rfl, rfl, rfl⟩ rfl rfl hro hd (k v hf)
-- X3_possibleMessages
set_option maxRecDepth 20000 in
set_option maxHeartbeats 2000000 in
theorem WX3_possibleMessages_24 {p : Program} {l : Launch} {e : Env} {s : State} {m : MethodId} {args : Array Value} {below : List Frame} {meth : Method} {c : Code} {K : KK} {A : Nat → Prop} {a : Nat → Nat} (C : Cx p s m args meth c K A cX3_possibleMessages 3 RX3 wsX3_possibleMessages (some .int)) {z : Int32 × (Nat → Int32) × (Nat → Int32) × (Nat → Int32)} {now : Nat → Int32} {past : Nat → Int32} {lef : Nat → Int32} {par : Nat → Int32} {sv : Int32} {hash : Int64} {err : Nat → Int32} {msg : Nat → Int32} {met : Nat → Int32} {t0 : Int32} (hf : FX3_possibleMessages_24 now  err msg met t0 = some z) : Go p l e (RM 4) s m args below meth c K A 3 0 0 (MQ below (QR K (some (.int z.1)) (mW K a now past z.2.1 lef z.2.2.1 z.2.2.2 par sv hash) A) args s 0 0 A) (mW K a now past err lef msg met par sv hash) 24 [] [.int t0] := by
  unfold FX3_possibleMessages_24 at hf
  cases hf
  exact go_iret C dX3_possibleMessages_24
set_option maxRecDepth 20000 in
set_option maxHeartbeats 2000000 in
theorem WX3_possibleMessages_0 {p : Program} {l : Launch} {e : Env} {s : State} {m : MethodId} {args : Array Value} {below : List Frame} {meth : Method} {c : Code} {K : KK} {A : Nat → Prop} {a : Nat → Nat} (C : Cx p s m args meth c K A cX3_possibleMessages 3 RX3 wsX3_possibleMessages (some .int)) {z : Int32 × (Nat → Int32) × (Nat → Int32) × (Nat → Int32)} {now : Nat → Int32} {past : Nat → Int32} {lef : Nat → Int32} {par : Nat → Int32} {sv : Int32} {hash : Int64} {err : Nat → Int32} {msg : Nat → Int32} {met : Nat → Int32} {x1 : Int32} {x2 : Int32} (hf : FX3_possibleMessages_0 now  err msg met x1 x2 = some z) : Go p l e (RM 4) s m args below meth c K A 3 0 0 (MQ below (QR K (some (.int z.1)) (mW K a now past z.2.1 lef z.2.2.1 z.2.2.2 par sv hash) A) args s 0 0 A) (mW K a now past err lef msg met par sv hash) 0 [(0, .ref (a 0)), (1, .int x1), (2, .int x2)] [] := by
  unfold FX3_possibleMessages_0 at hf
  refine go_aload_n C 0 dX3_possibleMessages_0 rfl rfl ?_
  refine go_iload_n C 1 dX3_possibleMessages_1 rfl rfl ?_
  refine go_iload_n C 2 dX3_possibleMessages_2 rfl rfl ?_
  refine call_X3_isObservation C gX3_possibleMessages_X3_isObservation dX3_possibleMessages_3 (by decide) (Nat.le_of_ble_eq_true rfl) hf (fun v1 hf => ?_)
  refine go_c1_eq C (tgt := 18) dX3_possibleMessages_6 (by decide) hf (fun h hf => ?_) (fun h hf => ?_)
  · refine go_aload_n C 0 dX3_possibleMessages_18 rfl rfl ?_
    refine go_bipush (v := (-2)) C dX3_possibleMessages_19 (by decide) ?_
    refine call_X3_fails C gX3_possibleMessages_X3_fails dX3_possibleMessages_21 (by decide) (Nat.le_of_ble_eq_true rfl) hf (fun v2 hf => ?_)
    refine go_lv (lv' := []) [] rfl ?_
    exact WX3_possibleMessages_24 C  hf
  · refine go_aload_n C 0 dX3_possibleMessages_9 rfl rfl ?_
    refine go_iload_n C 1 dX3_possibleMessages_10 rfl rfl ?_
    refine go_iload_n C 2 dX3_possibleMessages_11 rfl rfl ?_
    refine call_X3_meets C gX3_possibleMessages_X3_meets dX3_possibleMessages_12 (by decide) (Nat.le_of_ble_eq_true rfl) hf (fun v3 hf => ?_)
    refine go_goto C (tgt := 24) dX3_possibleMessages_15 (by decide) ?_
    refine go_lv (lv' := []) [] rfl ?_
    exact WX3_possibleMessages_24 C  hf
set_option maxRecDepth 20000 in
theorem con_X3_possibleMessages (l : Launch) (K : KK) (a : Nat → Nat) {now : Nat → Int32} {past : Nat → Int32} {err : Nat → Int32} {lef : Nat → Int32} {msg : Nat → Int32} {met : Nat → Int32} {par : Nat → Int32} {sv : Int32} {hash : Int64} {x1 : Int32} {x2 : Int32} {z : Int32 × (Nat → Int32) × (Nat → Int32) × (Nat → Int32)} (hf : fX3_possibleMessages now err msg met x1 x2 = some z) : Con l yX3_possibleMessages wsX3_possibleMessages 4 K [.ref (a 0), .int x1, .int x2] (mW K a now past err lef msg met par sv hash) (some (.int z.1)) (mW K a now past z.2.1 lef z.2.2.1 z.2.2.2 par sv hash) :=
  con_of (cc := cX3_possibleMessages) (maxL := 3) (ret := (some .int)) (own := RX3) (lv0 := [(0, .ref (a 0)), (1, .int x1), (2, .int x2)]) (by decide) rfl rfl (Nat.le_of_ble_eq_true rfl) rfl (fun p e s m args below meth c A C => go_lv (lv' := [(0, .ref (a 0)), (1, .int x1), (2, .int x2)]) [0, 1, 2] rfl (WX3_possibleMessages_0 C hf))
set_option maxRecDepth 20000 in
theorem call_X3_possibleMessages {p : Program} {l : Launch} {e : Env} {s : State} {m : MethodId} {args : Array Value} {below : List Frame} {meth : Method} {c : Code} {K : KK} {A : Nat → Prop} {Q : State → Prop} {cc : ByteArray} {nL : Nat} {Ts : List Cond} {ret : Option FieldType} {pc : Nat} {lv : List (Nat × Value)} {st : List Value} {ix d : Nat} {α : Type} {kk : Int32 × (Nat → Int32) × (Nat → Int32) × (Nat → Int32) → Option α} {y : α} {a : Nat → Nat} {now : Nat → Int32} {past : Nat → Int32} {err : Nat → Int32} {lef : Nat → Int32} {msg : Nat → Int32} {met : Nat → Int32} {par : Nat → Int32} {sv : Int32} {hash : Int64} {q0 : Int32} {q1 : Int32} (C : Cx p s m args meth c K A cc nL RX3 Ts ret) (hG : GoodIn Ts (wsV RX3 ix RX3 yX3_possibleMessages wsX3_possibleMessages)) (hd : decode cc pc = .ok (.invokevirtual ix, 3)) (hdd : 4 < d) (hro : (st.map fun v => v.category).sum ≤ 8) (hf : (fX3_possibleMessages now err msg met q0 q1).bind kk = some y) (k : ∀ v, kk v = some y → Go p l e (RM d) s m args below meth c K A nL 0 0 Q (mW K a now past v.2.1 lef v.2.2.1 v.2.2.2 par sv hash) (pc + 3) lv (.int (v.1) :: st)) : Go p l e (RM d) s m args below meth c K A nL 0 0 Q (mW K a now past err lef msg met par sv hash) pc lv (.int q1 :: .int q0 :: .ref (a 0) :: st) := by
  obtain ⟨v, hv, hf⟩ := bd_some hf
  exact go_callV_full (ry := (some .int)) (n := 2) (b := a 0) (As := [.int q0, .int q1]) (rest := st) C (con_X3_possibleMessages l K a hv) hG (by decide) rfl ⟨Nat.succ_le_of_lt hdd, by show 8 + (3 + 11) + 40 * 4 ≤ 40 * d; omega⟩ ⟨Nat.le_refl _, Nat.le_refl _⟩ ⟨0, 3, _, _, rfl, rfl, rfl⟩ rfl rfl hro hd (k v hf)
-- X3_possibleMessage
theorem iX3_possibleMessage_3 : ∀ w ∈ wsX30, w ∈ wsX3_possibleMessage := by decide +kernel
theorem kX3_possibleMessage_25 : Cond.fieldLink RX3 25 "CosetCoderModel" "met" "[Z" ∈ wsX3_possibleMessage := by decide +kernel
set_option maxRecDepth 20000 in
set_option maxHeartbeats 2000000 in
theorem WX3_possibleMessage_13 {p : Program} {l : Launch} {e : Env} {s : State} {m : MethodId} {args : Array Value} {below : List Frame} {meth : Method} {c : Code} {K : KK} {A : Nat → Prop} {a : Nat → Nat} (C : Cx p s m args meth c K A cX3_possibleMessage 6 RX3 wsX3_possibleMessage (some .int)) {z : Int32 × (Nat → Int32) × (Nat → Int32) × (Nat → Int32)} {now : Nat → Int32} {past : Nat → Int32} {lef : Nat → Int32} {par : Nat → Int32} {sv : Int32} {hash : Int64} {err : Nat → Int32} {msg : Nat → Int32} {met : Nat → Int32} (hf : FX3_possibleMessage_13 now  err msg met = some z) : Go p l e (RM 4) s m args below meth c K A 6 0 0 (MQ below (QR K (some (.int z.1)) (mW K a now past z.2.1 lef z.2.2.1 z.2.2.2 par sv hash) A) args s 0 0 A) (mW K a now past err lef msg met par sv hash) 13 [(0, .ref (a 0))] [] := by
  unfold FX3_possibleMessage_13 at hf
  refine go_aload_n C 0 dX3_possibleMessage_13 rfl rfl ?_
  refine go_bipush (v := (-2)) C dX3_possibleMessage_14 (by decide) ?_
  refine call_X3_fails C gX3_possibleMessage_X3_fails dX3_possibleMessage_16 (by decide) (Nat.le_of_ble_eq_true rfl) hf (fun v1 hf => ?_)
  cases hf
  exact go_iret C dX3_possibleMessage_19
set_option maxRecDepth 20000 in
set_option maxHeartbeats 2000000 in
theorem WX3_possibleMessage_62 {p : Program} {l : Launch} {e : Env} {s : State} {m : MethodId} {args : Array Value} {below : List Frame} {meth : Method} {c : Code} {K : KK} {A : Nat → Prop} {a : Nat → Nat} (C : Cx p s m args meth c K A cX3_possibleMessage 6 RX3 wsX3_possibleMessage (some .int)) {z : Int32 × (Nat → Int32) × (Nat → Int32) × (Nat → Int32)} {now : Nat → Int32} {past : Nat → Int32} {lef : Nat → Int32} {par : Nat → Int32} {sv : Int32} {hash : Int64} {r33 : (Nat → Int32) → (Nat → Int32) → (Nat → Int32) → Int32 → Int32 → Int32 → Option (Int32 × (Nat → Int32) × (Nat → Int32) × (Nat → Int32))} {err : Nat → Int32} {msg : Nat → Int32} {met : Nat → Int32} {x3 : Int32} {x4 : Int32} {x5 : Int32} (hr33 : ∀ (err : Nat → Int32) (msg : Nat → Int32) (met : Nat → Int32) (x3 : Int32) (x4 : Int32) (x5 : Int32), r33 err msg met x3 x4 x5 = some z → Go p l e (RM 4) s m args below meth c K A 6 0 0 (MQ below (QR K (some (.int z.1)) (mW K a now past z.2.1 lef z.2.2.1 z.2.2.2 par sv hash) A) args s 0 0 A) (mW K a now past err lef msg met par sv hash) 33 [(0, .ref (a 0)), (3, .int x3), (4, .int x4), (5, .int x5)] []) (hf : FX3_possibleMessage_62 now r33 err msg met x3 x4 x5 = some z) : Go p l e (RM 4) s m args below meth c K A 6 0 0 (MQ below (QR K (some (.int z.1)) (mW K a now past z.2.1 lef z.2.2.1 z.2.2.2 par sv hash) A) args s 0 0 A) (mW K a now past err lef msg met par sv hash) 62 [(0, .ref (a 0)), (3, .int x3), (4, .int x4), (5, .int x5)] [] := by
  unfold FX3_possibleMessage_62 at hf
  refine go_iinc C (v := x5 + 1) (lv' := [(0, .ref (a 0)), (3, .int x3), (4, .int x4), (5, .int (x5 + 1))]) 3 [1, 2, 3, 0] dX3_possibleMessage_62 rfl rfl (by decide) rfl ?_
  refine go_goto C (tgt := 33) dX3_possibleMessage_65 (by decide) ?_
  exact hr33 _ _ _ _ _ _ hf
set_option maxRecDepth 20000 in
set_option maxHeartbeats 2000000 in
theorem WX3_possibleMessage_33 {p : Program} {l : Launch} {e : Env} {s : State} {m : MethodId} {args : Array Value} {below : List Frame} {meth : Method} {c : Code} {K : KK} {A : Nat → Prop} {a : Nat → Nat} (C : Cx p s m args meth c K A cX3_possibleMessage 6 RX3 wsX3_possibleMessage (some .int)) {z : Int32 × (Nat → Int32) × (Nat → Int32) × (Nat → Int32)} {now : Nat → Int32} {past : Nat → Int32} {lef : Nat → Int32} {par : Nat → Int32} {sv : Int32} {hash : Int64} {r33 : (Nat → Int32) → (Nat → Int32) → (Nat → Int32) → Int32 → Int32 → Int32 → Option (Int32 × (Nat → Int32) × (Nat → Int32) × (Nat → Int32))} {err : Nat → Int32} {msg : Nat → Int32} {met : Nat → Int32} {x3 : Int32} {x4 : Int32} {x5 : Int32} (hr33 : ∀ (err : Nat → Int32) (msg : Nat → Int32) (met : Nat → Int32) (x3 : Int32) (x4 : Int32) (x5 : Int32), r33 err msg met x3 x4 x5 = some z → Go p l e (RM 4) s m args below meth c K A 6 0 0 (MQ below (QR K (some (.int z.1)) (mW K a now past z.2.1 lef z.2.2.1 z.2.2.2 par sv hash) A) args s 0 0 A) (mW K a now past err lef msg met par sv hash) 33 [(0, .ref (a 0)), (3, .int x3), (4, .int x4), (5, .int x5)] []) (hf : FX3_possibleMessage_33 now r33 err msg met x3 x4 x5 = some z) : Go p l e (RM 4) s m args below meth c K A 6 0 0 (MQ below (QR K (some (.int z.1)) (mW K a now past z.2.1 lef z.2.2.1 z.2.2.2 par sv hash) A) args s 0 0 A) (mW K a now past err lef msg met par sv hash) 33 [(0, .ref (a 0)), (3, .int x3), (4, .int x4), (5, .int x5)] [] := by
  unfold FX3_possibleMessage_33 at hf
  refine go_iload C 3 dX3_possibleMessage_33 rfl ?_
  refine go_bipush (v := 64) C dX3_possibleMessage_35 (by decide) ?_
  refine go_c2_ge C (tgt := 68) dX3_possibleMessage_37 (by decide) hf (fun h hf => ?_) (fun h hf => ?_)
  · refine go_aload_n C 0 dX3_possibleMessage_68 rfl rfl ?_
    refine go_bipush (v := (-3)) C dX3_possibleMessage_69 (by decide) ?_
    refine call_X3_fails C gX3_possibleMessage_X3_fails dX3_possibleMessage_71 (by decide) (Nat.le_of_ble_eq_true rfl) hf (fun v2 hf => ?_)
    cases hf
    exact go_iret C dX3_possibleMessage_74
  · refine go_aload_n C 0 dX3_possibleMessage_40 rfl rfl ?_
    refine gM_get_met C iX3_possibleMessage_3 kX3_possibleMessage_25 dX3_possibleMessage_41 ?_
    refine go_iload C 3 dX3_possibleMessage_44 rfl ?_
    refine gM_rd_met C dX3_possibleMessage_46 hf (fun v3 hf => ?_)
    refine go_c1_eq C (tgt := 62) dX3_possibleMessage_47 (by decide) hf (fun h hf => ?_) (fun h hf => ?_)
    · exact WX3_possibleMessage_62 C hr33 hf
    · refine go_iload C 2 dX3_possibleMessage_50 rfl ?_
      refine go_iload_n C 1 dX3_possibleMessage_52 rfl rfl ?_
      refine go_c2_ne C (tgt := 59) dX3_possibleMessage_53 (by decide) hf (fun h hf => ?_) (fun h hf => ?_)
      · refine go_iinc C (v := x4 + 1) (lv' := [(0, .ref (a 0)), (3, .int x3), (4, .int (x4 + 1)), (5, .int x5)]) 2 [1, 2, 0, 3] dX3_possibleMessage_59 rfl rfl (by decide) rfl ?_
        exact WX3_possibleMessage_62 C hr33 hf
      · refine go_iload C 3 dX3_possibleMessage_56 rfl ?_
        cases hf
        exact go_iret C dX3_possibleMessage_58
theorem wX3_possibleMessage_33 {p : Program} {l : Launch} {e : Env} {s : State} {m : MethodId} {args : Array Value} {below : List Frame} {meth : Method} {c : Code} {K : KK} {A : Nat → Prop} {a : Nat → Nat} (C : Cx p s m args meth c K A cX3_possibleMessage 6 RX3 wsX3_possibleMessage (some .int)) {z : Int32 × (Nat → Int32) × (Nat → Int32) × (Nat → Int32)} {now : Nat → Int32} {past : Nat → Int32} {lef : Nat → Int32} {par : Nat → Int32} {sv : Int32} {hash : Int64} : ∀ (n : Nat) (err : Nat → Int32) (msg : Nat → Int32) (met : Nat → Int32) (x3 : Int32) (x4 : Int32) (x5 : Int32), fX3_possibleMessage_33 now  n err msg met x3 x4 x5 = some z → Go p l e (RM 4) s m args below meth c K A 6 0 0 (MQ below (QR K (some (.int z.1)) (mW K a now past z.2.1 lef z.2.2.1 z.2.2.2 par sv hash) A) args s 0 0 A) (mW K a now past err lef msg met par sv hash) 33 [(0, .ref (a 0)), (3, .int x3), (4, .int x4), (5, .int x5)] [] := by
  intro n
  induction n with
  | zero => intro _ _ _ _ _ _ hf; cases hf
  | succ n ih => intro _ _ _ _ _ _ hf; exact WX3_possibleMessage_33 C  ih hf
set_option maxRecDepth 20000 in
set_option maxHeartbeats 2000000 in
theorem WX3_possibleMessage_0 {p : Program} {l : Launch} {e : Env} {s : State} {m : MethodId} {args : Array Value} {below : List Frame} {meth : Method} {c : Code} {K : KK} {A : Nat → Prop} {a : Nat → Nat} (C : Cx p s m args meth c K A cX3_possibleMessage 6 RX3 wsX3_possibleMessage (some .int)) {z : Int32 × (Nat → Int32) × (Nat → Int32) × (Nat → Int32)} {now : Nat → Int32} {past : Nat → Int32} {lef : Nat → Int32} {par : Nat → Int32} {sv : Int32} {hash : Int64} {err : Nat → Int32} {msg : Nat → Int32} {met : Nat → Int32} {x1 : Int32} {x2 : Int32} {x3 : Int32} (hf : FX3_possibleMessage_0 now  err msg met x1 x2 x3 = some z) : Go p l e (RM 4) s m args below meth c K A 6 0 0 (MQ below (QR K (some (.int z.1)) (mW K a now past z.2.1 lef z.2.2.1 z.2.2.2 par sv hash) A) args s 0 0 A) (mW K a now past err lef msg met par sv hash) 0 [(0, .ref (a 0)), (1, .int x1), (2, .int x2), (3, .int x3)] [] := by
  unfold FX3_possibleMessage_0 at hf
  refine go_aload_n C 0 dX3_possibleMessage_0 rfl rfl ?_
  refine go_iload_n C 1 dX3_possibleMessage_1 rfl rfl ?_
  refine go_iload_n C 2 dX3_possibleMessage_2 rfl rfl ?_
  refine call_X3_isObservation C gX3_possibleMessage_X3_isObservation dX3_possibleMessage_3 (by decide) (Nat.le_of_ble_eq_true rfl) hf (fun v4 hf => ?_)
  refine go_c1_eq C (tgt := 13) dX3_possibleMessage_6 (by decide) hf (fun h hf => ?_) (fun h hf => ?_)
  · refine go_lv (lv' := [(0, .ref (a 0))]) [0] rfl ?_
    exact WX3_possibleMessage_13 C  hf
  · refine go_iload_n C 3 dX3_possibleMessage_9 rfl rfl ?_
    refine go_c1_ge C (tgt := 20) dX3_possibleMessage_10 (by decide) hf (fun h hf => ?_) (fun h hf => ?_)
    · refine go_aload_n C 0 dX3_possibleMessage_20 rfl rfl ?_
      refine go_iload_n C 1 dX3_possibleMessage_21 rfl rfl ?_
      refine go_iload_n C 2 dX3_possibleMessage_22 rfl rfl ?_
      refine call_X3_meets C gX3_possibleMessage_X3_meets dX3_possibleMessage_23 (by decide) (Nat.le_of_ble_eq_true rfl) hf (fun v5 hf => ?_)
      refine go_pop C dX3_possibleMessage_26 rfl ?_
      refine go_iconst (v := 0) C dX3_possibleMessage_27 (by decide) ?_
      refine go_istore C (lv' := [(0, .ref (a 0)), (1, .int x1), (2, .int x2), (3, .int x3), (4, .int 0)]) [1, 2, 3, 4, 0] dX3_possibleMessage_28 (by decide) rfl ?_
      refine go_iconst (v := 0) C dX3_possibleMessage_30 (by decide) ?_
      refine go_istore C (lv' := [(0, .ref (a 0)), (1, .int x1), (2, .int x2), (3, .int x3), (4, .int 0), (5, .int 0)]) [1, 2, 3, 4, 5, 0] dX3_possibleMessage_31 (by decide) rfl ?_
      refine go_lv (lv' := [(0, .ref (a 0)), (3, .int x3), (4, .int 0), (5, .int 0)]) [0, 3, 4, 5] rfl ?_
      exact wX3_possibleMessage_33 C  300 _ _ _ _ _ _ hf
    · refine go_lv (lv' := [(0, .ref (a 0))]) [0] rfl ?_
      exact WX3_possibleMessage_13 C  hf
set_option maxRecDepth 20000 in
theorem con_X3_possibleMessage (l : Launch) (K : KK) (a : Nat → Nat) {now : Nat → Int32} {past : Nat → Int32} {err : Nat → Int32} {lef : Nat → Int32} {msg : Nat → Int32} {met : Nat → Int32} {par : Nat → Int32} {sv : Int32} {hash : Int64} {x1 : Int32} {x2 : Int32} {x3 : Int32} {z : Int32 × (Nat → Int32) × (Nat → Int32) × (Nat → Int32)} (hf : fX3_possibleMessage now err msg met x1 x2 x3 = some z) : Con l yX3_possibleMessage wsX3_possibleMessage 4 K [.ref (a 0), .int x1, .int x2, .int x3] (mW K a now past err lef msg met par sv hash) (some (.int z.1)) (mW K a now past z.2.1 lef z.2.2.1 z.2.2.2 par sv hash) :=
  con_of (cc := cX3_possibleMessage) (maxL := 6) (ret := (some .int)) (own := RX3) (lv0 := [(0, .ref (a 0)), (1, .int x1), (2, .int x2), (3, .int x3)]) (by decide) rfl rfl (Nat.le_of_ble_eq_true rfl) rfl (fun p e s m args below meth c A C => go_lv (lv' := [(0, .ref (a 0)), (1, .int x1), (2, .int x2), (3, .int x3)]) [0, 1, 2, 3] rfl (WX3_possibleMessage_0 C hf))
set_option maxRecDepth 20000 in
theorem call_X3_possibleMessage {p : Program} {l : Launch} {e : Env} {s : State} {m : MethodId} {args : Array Value} {below : List Frame} {meth : Method} {c : Code} {K : KK} {A : Nat → Prop} {Q : State → Prop} {cc : ByteArray} {nL : Nat} {Ts : List Cond} {ret : Option FieldType} {pc : Nat} {lv : List (Nat × Value)} {st : List Value} {ix d : Nat} {α : Type} {kk : Int32 × (Nat → Int32) × (Nat → Int32) × (Nat → Int32) → Option α} {y : α} {a : Nat → Nat} {now : Nat → Int32} {past : Nat → Int32} {err : Nat → Int32} {lef : Nat → Int32} {msg : Nat → Int32} {met : Nat → Int32} {par : Nat → Int32} {sv : Int32} {hash : Int64} {q0 : Int32} {q1 : Int32} {q2 : Int32} (C : Cx p s m args meth c K A cc nL RX3 Ts ret) (hG : GoodIn Ts (wsV RX3 ix RX3 yX3_possibleMessage wsX3_possibleMessage)) (hd : decode cc pc = .ok (.invokevirtual ix, 3)) (hdd : 4 < d) (hro : (st.map fun v => v.category).sum ≤ 8) (hf : (fX3_possibleMessage now err msg met q0 q1 q2).bind kk = some y) (k : ∀ v, kk v = some y → Go p l e (RM d) s m args below meth c K A nL 0 0 Q (mW K a now past v.2.1 lef v.2.2.1 v.2.2.2 par sv hash) (pc + 3) lv (.int (v.1) :: st)) : Go p l e (RM d) s m args below meth c K A nL 0 0 Q (mW K a now past err lef msg met par sv hash) pc lv (.int q2 :: .int q1 :: .int q0 :: .ref (a 0) :: st) := by
  obtain ⟨v, hv, hf⟩ := bd_some hf
  exact go_callV_full (ry := (some .int)) (n := 3) (b := a 0) (As := [.int q0, .int q1, .int q2]) (rest := st) C (con_X3_possibleMessage l K a hv) hG (by decide) rfl ⟨Nat.succ_le_of_lt hdd, by show 8 + (6 + 11) + 40 * 4 ≤ 40 * d; omega⟩ ⟨Nat.le_refl _, Nat.le_refl _⟩ ⟨0, 3, _, _, rfl, rfl, rfl⟩ rfl rfl hro hd (k v hf)
-- X3_isKnown
theorem iX3_isKnown_3 : ∀ w ∈ wsX30, w ∈ wsX3_isKnown := by decide +kernel
theorem kX3_isKnown_22 : Cond.fieldLink RX3 22 "CosetCoderModel" "messageOf" "[I" ∈ wsX3_isKnown := by decide +kernel
theorem kX3_isKnown_29 : Cond.fieldLink RX3 29 "CosetCoderModel" "parityOf" "[I" ∈ wsX3_isKnown := by decide +kernel
set_option maxRecDepth 20000 in
set_option maxHeartbeats 2000000 in
theorem WX3_isKnown_85 {p : Program} {l : Launch} {e : Env} {s : State} {m : MethodId} {args : Array Value} {below : List Frame} {meth : Method} {c : Code} {K : KK} {A : Nat → Prop} {a : Nat → Nat} (C : Cx p s m args meth c K A cX3_isKnown 5 RX3 wsX3_isKnown (some .boolean)) {z : Int32 × (Nat → Int32)} {now : Nat → Int32} {past : Nat → Int32} {err : Nat → Int32} {lef : Nat → Int32} {msg : Nat → Int32} {met : Nat → Int32} {sv : Int32} {hash : Int64} {r25 : (Nat → Int32) → Int32 → Int32 → Int32 → Option (Int32 × (Nat → Int32))} {par : Nat → Int32} {x1 : Int32} {x2 : Int32} {x3 : Int32} (hr25 : ∀ (par : Nat → Int32) (x1 : Int32) (x2 : Int32) (x3 : Int32), r25 par x1 x2 x3 = some z → Go p l e (RM 1) s m args below meth c K A 5 0 0 (MQ below (QR K (some (.int z.1)) (mW K a now past err lef msg met z.2 sv hash) A) args s 0 0 A) (mW K a now past err lef msg met par sv hash) 25 [(0, .ref (a 0)), (1, .int x1), (2, .int x2), (3, .int x3)] []) (hf : FX3_isKnown_85 now msg r25 par x1 x2 x3 = some z) : Go p l e (RM 1) s m args below meth c K A 5 0 0 (MQ below (QR K (some (.int z.1)) (mW K a now past err lef msg met z.2 sv hash) A) args s 0 0 A) (mW K a now past err lef msg met par sv hash) 85 [(0, .ref (a 0)), (1, .int x1), (2, .int x2), (3, .int x3)] [] := by
  unfold FX3_isKnown_85 at hf
  refine go_iinc C (v := x3 + 1) (lv' := [(0, .ref (a 0)), (1, .int x1), (2, .int x2), (3, .int (x3 + 1))]) 3 [1, 2, 3, 0] dX3_isKnown_85 rfl rfl (by decide) rfl ?_
  refine go_goto C (tgt := 25) dX3_isKnown_88 (by decide) ?_
  exact hr25 _ _ _ _ hf
set_option maxRecDepth 20000 in
set_option maxHeartbeats 2000000 in
theorem WX3_isKnown_25 {p : Program} {l : Launch} {e : Env} {s : State} {m : MethodId} {args : Array Value} {below : List Frame} {meth : Method} {c : Code} {K : KK} {A : Nat → Prop} {a : Nat → Nat} (C : Cx p s m args meth c K A cX3_isKnown 5 RX3 wsX3_isKnown (some .boolean)) {z : Int32 × (Nat → Int32)} {now : Nat → Int32} {past : Nat → Int32} {err : Nat → Int32} {lef : Nat → Int32} {msg : Nat → Int32} {met : Nat → Int32} {sv : Int32} {hash : Int64} {r25 : (Nat → Int32) → Int32 → Int32 → Int32 → Option (Int32 × (Nat → Int32))} {par : Nat → Int32} {x1 : Int32} {x2 : Int32} {x3 : Int32} (hr25 : ∀ (par : Nat → Int32) (x1 : Int32) (x2 : Int32) (x3 : Int32), r25 par x1 x2 x3 = some z → Go p l e (RM 1) s m args below meth c K A 5 0 0 (MQ below (QR K (some (.int z.1)) (mW K a now past err lef msg met z.2 sv hash) A) args s 0 0 A) (mW K a now past err lef msg met par sv hash) 25 [(0, .ref (a 0)), (1, .int x1), (2, .int x2), (3, .int x3)] []) (hf : FX3_isKnown_25 now msg r25 par x1 x2 x3 = some z) : Go p l e (RM 1) s m args below meth c K A 5 0 0 (MQ below (QR K (some (.int z.1)) (mW K a now past err lef msg met z.2 sv hash) A) args s 0 0 A) (mW K a now past err lef msg met par sv hash) 25 [(0, .ref (a 0)), (1, .int x1), (2, .int x2), (3, .int x3)] [] := by
  unfold FX3_isKnown_25 at hf
  refine go_iload_n C 3 dX3_isKnown_25 rfl rfl ?_
  refine go_aload_n C 0 dX3_isKnown_26 rfl rfl ?_
  refine call_X3_words C gX3_isKnown_X3_words dX3_isKnown_27 (by decide) (Nat.le_of_ble_eq_true rfl) hf (fun v1 hf => ?_)
  refine go_c2_ge C (tgt := 91) dX3_isKnown_30 (by decide) hf (fun h hf => ?_) (fun h hf => ?_)
  · refine go_iconst (v := 1) C dX3_isKnown_91 (by decide) ?_
    obtain ⟨hb1, hf⟩ := ckB_some hf
    cases hf
    exact go_zret C hb1 dX3_isKnown_92
  · refine go_aload_n C 0 dX3_isKnown_33 rfl rfl ?_
    refine gM_get_messageOf C iX3_isKnown_3 kX3_isKnown_22 dX3_isKnown_34 ?_
    refine go_iload_n C 3 dX3_isKnown_37 rfl rfl ?_
    refine gM_rd_msg C dX3_isKnown_38 hf (fun v2 hf => ?_)
    refine go_iconst (v := (-1)) C dX3_isKnown_39 (by decide) ?_
    refine go_c2_eq C (tgt := 85) dX3_isKnown_40 (by decide) hf (fun h hf => ?_) (fun h hf => ?_)
    · exact WX3_isKnown_85 C hr25 hf
    · refine go_iload_n C 2 dX3_isKnown_43 rfl rfl ?_
      refine go_aload_n C 0 dX3_isKnown_44 rfl rfl ?_
      refine gM_get_messageOf C iX3_isKnown_3 kX3_isKnown_22 dX3_isKnown_45 ?_
      refine go_iload_n C 3 dX3_isKnown_48 rfl rfl ?_
      refine gM_rd_msg C dX3_isKnown_49 hf (fun v3 hf => ?_)
      refine go_iand C dX3_isKnown_50 ?_
      refine call_X3_ones C gX3_isKnown_X3_ones dX3_isKnown_51 (by decide) (Nat.le_of_ble_eq_true rfl) hf (fun v4 hf => ?_)
      refine go_iconst (v := 1) C dX3_isKnown_54 (by decide) ?_
      refine go_iand C dX3_isKnown_55 ?_
      refine go_istore C (lv' := [(0, .ref (a 0)), (1, .int x1), (2, .int x2), (3, .int x3), (4, .int (v4 &&& 1))]) [1, 2, 3, 4, 0] dX3_isKnown_56 (by decide) rfl ?_
      refine go_aload_n C 0 dX3_isKnown_58 rfl rfl ?_
      refine gM_get_parityOf C iX3_isKnown_3 kX3_isKnown_29 dX3_isKnown_59 ?_
      refine go_iload_n C 3 dX3_isKnown_62 rfl rfl ?_
      refine go_iload_n C 1 dX3_isKnown_63 rfl rfl ?_
      refine go_iand C dX3_isKnown_64 ?_
      refine gM_rd_par C dX3_isKnown_65 hf (fun v5 hf => ?_)
      refine go_iconst (v := 1) C dX3_isKnown_66 (by decide) ?_
      refine go_iload C 4 dX3_isKnown_67 rfl ?_
      refine go_isub C dX3_isKnown_69 ?_
      refine go_c2_ne C (tgt := 75) dX3_isKnown_70 (by decide) hf (fun h hf => ?_) (fun h hf => ?_)
      · refine go_aload_n C 0 dX3_isKnown_75 rfl rfl ?_
        refine gM_get_parityOf C iX3_isKnown_3 kX3_isKnown_29 dX3_isKnown_76 ?_
        refine go_iload_n C 3 dX3_isKnown_79 rfl rfl ?_
        refine go_iload_n C 1 dX3_isKnown_80 rfl rfl ?_
        refine go_iand C dX3_isKnown_81 ?_
        refine go_iload C 4 dX3_isKnown_82 rfl ?_
        refine gM_wr_par C dX3_isKnown_84 hf (fun g6 hf => ?_)
        refine go_lv (lv' := [(0, .ref (a 0)), (1, .int x1), (2, .int x2), (3, .int x3)]) [0, 1, 2, 3] rfl ?_
        exact WX3_isKnown_85 C hr25 hf
      · refine go_iconst (v := 0) C dX3_isKnown_73 (by decide) ?_
        obtain ⟨hb1, hf⟩ := ckB_some hf
        cases hf
        exact go_zret C hb1 dX3_isKnown_74
theorem wX3_isKnown_25 {p : Program} {l : Launch} {e : Env} {s : State} {m : MethodId} {args : Array Value} {below : List Frame} {meth : Method} {c : Code} {K : KK} {A : Nat → Prop} {a : Nat → Nat} (C : Cx p s m args meth c K A cX3_isKnown 5 RX3 wsX3_isKnown (some .boolean)) {z : Int32 × (Nat → Int32)} {now : Nat → Int32} {past : Nat → Int32} {err : Nat → Int32} {lef : Nat → Int32} {msg : Nat → Int32} {met : Nat → Int32} {sv : Int32} {hash : Int64} : ∀ (n : Nat) (par : Nat → Int32) (x1 : Int32) (x2 : Int32) (x3 : Int32), fX3_isKnown_25 now msg  n par x1 x2 x3 = some z → Go p l e (RM 1) s m args below meth c K A 5 0 0 (MQ below (QR K (some (.int z.1)) (mW K a now past err lef msg met z.2 sv hash) A) args s 0 0 A) (mW K a now past err lef msg met par sv hash) 25 [(0, .ref (a 0)), (1, .int x1), (2, .int x2), (3, .int x3)] [] := by
  intro n
  induction n with
  | zero => intro _ _ _ _ hf; cases hf
  | succ n ih => intro _ _ _ _ hf; exact WX3_isKnown_25 C  ih hf
set_option maxRecDepth 20000 in
set_option maxHeartbeats 2000000 in
theorem WX3_isKnown_2 {p : Program} {l : Launch} {e : Env} {s : State} {m : MethodId} {args : Array Value} {below : List Frame} {meth : Method} {c : Code} {K : KK} {A : Nat → Prop} {a : Nat → Nat} (C : Cx p s m args meth c K A cX3_isKnown 5 RX3 wsX3_isKnown (some .boolean)) {z : Int32 × (Nat → Int32)} {now : Nat → Int32} {past : Nat → Int32} {err : Nat → Int32} {lef : Nat → Int32} {msg : Nat → Int32} {met : Nat → Int32} {sv : Int32} {hash : Int64} {r2 : (Nat → Int32) → Int32 → Int32 → Int32 → Option (Int32 × (Nat → Int32))} {par : Nat → Int32} {x1 : Int32} {x2 : Int32} {x3 : Int32} (hr2 : ∀ (par : Nat → Int32) (x1 : Int32) (x2 : Int32) (x3 : Int32), r2 par x1 x2 x3 = some z → Go p l e (RM 1) s m args below meth c K A 5 0 0 (MQ below (QR K (some (.int z.1)) (mW K a now past err lef msg met z.2 sv hash) A) args s 0 0 A) (mW K a now past err lef msg met par sv hash) 2 [(0, .ref (a 0)), (1, .int x1), (2, .int x2), (3, .int x3)] []) (hf : FX3_isKnown_2 now msg r2 par x1 x2 x3 = some z) : Go p l e (RM 1) s m args below meth c K A 5 0 0 (MQ below (QR K (some (.int z.1)) (mW K a now past err lef msg met z.2 sv hash) A) args s 0 0 A) (mW K a now past err lef msg met par sv hash) 2 [(0, .ref (a 0)), (1, .int x1), (2, .int x2), (3, .int x3)] [] := by
  unfold FX3_isKnown_2 at hf
  refine go_iload_n C 3 dX3_isKnown_2 rfl rfl ?_
  refine go_aload_n C 0 dX3_isKnown_3 rfl rfl ?_
  refine call_X3_words C gX3_isKnown_X3_words dX3_isKnown_4 (by decide) (Nat.le_of_ble_eq_true rfl) hf (fun v7 hf => ?_)
  refine go_c2_ge C (tgt := 23) dX3_isKnown_7 (by decide) hf (fun h hf => ?_) (fun h hf => ?_)
  · refine go_iconst (v := 0) C dX3_isKnown_23 (by decide) ?_
    refine go_istore_n C (lv' := [(0, .ref (a 0)), (1, .int x1), (2, .int x2), (3, .int 0)]) [1, 2, 3, 0] dX3_isKnown_24 rfl (by decide) rfl ?_
    exact wX3_isKnown_25 C  300 _ _ _ _ hf
  · refine go_aload_n C 0 dX3_isKnown_10 rfl rfl ?_
    refine gM_get_parityOf C iX3_isKnown_3 kX3_isKnown_29 dX3_isKnown_11 ?_
    refine go_iload_n C 3 dX3_isKnown_14 rfl rfl ?_
    refine go_iconst (v := (-1)) C dX3_isKnown_15 (by decide) ?_
    refine gM_wr_par C dX3_isKnown_16 hf (fun g8 hf => ?_)
    refine go_iinc C (v := x3 + 1) (lv' := [(0, .ref (a 0)), (1, .int x1), (2, .int x2), (3, .int (x3 + 1))]) 3 [1, 2, 3, 0] dX3_isKnown_17 rfl rfl (by decide) rfl ?_
    refine go_goto C (tgt := 2) dX3_isKnown_20 (by decide) ?_
    exact hr2 _ _ _ _ hf
theorem wX3_isKnown_2 {p : Program} {l : Launch} {e : Env} {s : State} {m : MethodId} {args : Array Value} {below : List Frame} {meth : Method} {c : Code} {K : KK} {A : Nat → Prop} {a : Nat → Nat} (C : Cx p s m args meth c K A cX3_isKnown 5 RX3 wsX3_isKnown (some .boolean)) {z : Int32 × (Nat → Int32)} {now : Nat → Int32} {past : Nat → Int32} {err : Nat → Int32} {lef : Nat → Int32} {msg : Nat → Int32} {met : Nat → Int32} {sv : Int32} {hash : Int64} : ∀ (n : Nat) (par : Nat → Int32) (x1 : Int32) (x2 : Int32) (x3 : Int32), fX3_isKnown_2 now msg  n par x1 x2 x3 = some z → Go p l e (RM 1) s m args below meth c K A 5 0 0 (MQ below (QR K (some (.int z.1)) (mW K a now past err lef msg met z.2 sv hash) A) args s 0 0 A) (mW K a now past err lef msg met par sv hash) 2 [(0, .ref (a 0)), (1, .int x1), (2, .int x2), (3, .int x3)] [] := by
  intro n
  induction n with
  | zero => intro _ _ _ _ hf; cases hf
  | succ n ih => intro _ _ _ _ hf; exact WX3_isKnown_2 C  ih hf
set_option maxRecDepth 20000 in
set_option maxHeartbeats 2000000 in
theorem WX3_isKnown_0 {p : Program} {l : Launch} {e : Env} {s : State} {m : MethodId} {args : Array Value} {below : List Frame} {meth : Method} {c : Code} {K : KK} {A : Nat → Prop} {a : Nat → Nat} (C : Cx p s m args meth c K A cX3_isKnown 5 RX3 wsX3_isKnown (some .boolean)) {z : Int32 × (Nat → Int32)} {now : Nat → Int32} {past : Nat → Int32} {err : Nat → Int32} {lef : Nat → Int32} {msg : Nat → Int32} {met : Nat → Int32} {sv : Int32} {hash : Int64} {par : Nat → Int32} {x1 : Int32} {x2 : Int32} (hf : FX3_isKnown_0 now msg  par x1 x2 = some z) : Go p l e (RM 1) s m args below meth c K A 5 0 0 (MQ below (QR K (some (.int z.1)) (mW K a now past err lef msg met z.2 sv hash) A) args s 0 0 A) (mW K a now past err lef msg met par sv hash) 0 [(0, .ref (a 0)), (1, .int x1), (2, .int x2)] [] := by
  unfold FX3_isKnown_0 at hf
  refine go_iconst (v := 0) C dX3_isKnown_0 (by decide) ?_
  refine go_istore_n C (lv' := [(0, .ref (a 0)), (1, .int x1), (2, .int x2), (3, .int 0)]) [1, 2, 3, 0] dX3_isKnown_1 rfl (by decide) rfl ?_
  exact wX3_isKnown_2 C  300 _ _ _ _ hf
set_option maxRecDepth 20000 in
theorem con_X3_isKnown (l : Launch) (K : KK) (a : Nat → Nat) {now : Nat → Int32} {past : Nat → Int32} {err : Nat → Int32} {lef : Nat → Int32} {msg : Nat → Int32} {met : Nat → Int32} {par : Nat → Int32} {sv : Int32} {hash : Int64} {x1 : Int32} {x2 : Int32} {z : Int32 × (Nat → Int32)} (hf : fX3_isKnown now msg par x1 x2 = some z) : Con l yX3_isKnown wsX3_isKnown 1 K [.ref (a 0), .int x1, .int x2] (mW K a now past err lef msg met par sv hash) (some (.int z.1)) (mW K a now past err lef msg met z.2 sv hash) :=
  con_of (cc := cX3_isKnown) (maxL := 5) (ret := (some .boolean)) (own := RX3) (lv0 := [(0, .ref (a 0)), (1, .int x1), (2, .int x2)]) (by decide) rfl rfl (Nat.le_of_ble_eq_true rfl) rfl (fun p e s m args below meth c A C => go_lv (lv' := [(0, .ref (a 0)), (1, .int x1), (2, .int x2)]) [0, 1, 2] rfl (WX3_isKnown_0 C hf))
set_option maxRecDepth 20000 in
theorem call_X3_isKnown {p : Program} {l : Launch} {e : Env} {s : State} {m : MethodId} {args : Array Value} {below : List Frame} {meth : Method} {c : Code} {K : KK} {A : Nat → Prop} {Q : State → Prop} {cc : ByteArray} {nL : Nat} {Ts : List Cond} {ret : Option FieldType} {pc : Nat} {lv : List (Nat × Value)} {st : List Value} {ix d : Nat} {α : Type} {kk : Int32 × (Nat → Int32) → Option α} {y : α} {a : Nat → Nat} {now : Nat → Int32} {past : Nat → Int32} {err : Nat → Int32} {lef : Nat → Int32} {msg : Nat → Int32} {met : Nat → Int32} {par : Nat → Int32} {sv : Int32} {hash : Int64} {q0 : Int32} {q1 : Int32} (C : Cx p s m args meth c K A cc nL RX3 Ts ret) (hG : GoodIn Ts (wsV RX3 ix RX3 yX3_isKnown wsX3_isKnown)) (hd : decode cc pc = .ok (.invokevirtual ix, 3)) (hdd : 1 < d) (hro : (st.map fun v => v.category).sum ≤ 8) (hf : (fX3_isKnown now msg par q0 q1).bind kk = some y) (k : ∀ v, kk v = some y → Go p l e (RM d) s m args below meth c K A nL 0 0 Q (mW K a now past err lef msg met v.2 sv hash) (pc + 3) lv (.int (v.1) :: st)) : Go p l e (RM d) s m args below meth c K A nL 0 0 Q (mW K a now past err lef msg met par sv hash) pc lv (.int q1 :: .int q0 :: .ref (a 0) :: st) := by
  obtain ⟨v, hv, hf⟩ := bd_some hf
  exact go_callV_full (ry := (some .boolean)) (n := 2) (b := a 0) (As := [.int q0, .int q1]) (rest := st) C (con_X3_isKnown l K a hv) hG (by decide) rfl ⟨Nat.succ_le_of_lt hdd, by show 8 + (5 + 11) + 40 * 1 ≤ 40 * d; omega⟩ ⟨Nat.le_refl _, Nat.le_refl _⟩ ⟨0, 3, _, _, rfl, rfl, rfl⟩ rfl rfl hro hd (k v hf)
-- X3_knownCombinations
theorem iX3_knownCombinations_3 : ∀ w ∈ wsX30, w ∈ wsX3_knownCombinations := by decide +kernel
theorem kX3_knownCombinations_7 : Cond.fieldLink RX3 7 "CosetCoderModel" "now" "[I" ∈ wsX3_knownCombinations := by decide +kernel
set_option maxRecDepth 20000 in
set_option maxHeartbeats 2000000 in
theorem WX3_knownCombinations_82 {p : Program} {l : Launch} {e : Env} {s : State} {m : MethodId} {args : Array Value} {below : List Frame} {meth : Method} {c : Code} {K : KK} {A : Nat → Prop} {a : Nat → Nat} (C : Cx p s m args meth c K A cX3_knownCombinations 5 RX3 wsX3_knownCombinations (some .int)) {z : Int32 × (Nat → Int32) × (Nat → Int32) × (Nat → Int32)} {now : Nat → Int32} {past : Nat → Int32} {lef : Nat → Int32} {met : Nat → Int32} {sv : Int32} {hash : Int64} {r58 : (Nat → Int32) → (Nat → Int32) → (Nat → Int32) → Int32 → Int32 → Int32 → Int32 → Option (Int32 × (Nat → Int32) × (Nat → Int32) × (Nat → Int32))} {err : Nat → Int32} {msg : Nat → Int32} {par : Nat → Int32} {x1 : Int32} {x2 : Int32} {x4 : Int32} {t0 : Int32} {t1 : Int32} (hr58 : ∀ (err : Nat → Int32) (msg : Nat → Int32) (par : Nat → Int32) (x1 : Int32) (x2 : Int32) (x3 : Int32) (x4 : Int32), r58 err msg par x1 x2 x3 x4 = some z → Go p l e (RM 3) s m args below meth c K A 5 0 0 (MQ below (QR K (some (.int z.1)) (mW K a now past z.2.1 lef z.2.2.1 met z.2.2.2 sv hash) A) args s 0 0 A) (mW K a now past err lef msg met par sv hash) 58 [(0, .ref (a 0)), (1, .int x1), (2, .int x2), (3, .int x3), (4, .int x4)] []) (hf : FX3_knownCombinations_82 now r58 err msg par x1 x2 x4 t0 t1 = some z) : Go p l e (RM 3) s m args below meth c K A 5 0 0 (MQ below (QR K (some (.int z.1)) (mW K a now past z.2.1 lef z.2.2.1 met z.2.2.2 sv hash) A) args s 0 0 A) (mW K a now past err lef msg met par sv hash) 82 [(0, .ref (a 0)), (1, .int x1), (2, .int x2), (4, .int x4)] [.int t1, .int t0] := by
  unfold FX3_knownCombinations_82 at hf
  refine go_iadd C dX3_knownCombinations_82 ?_
  refine go_istore_n C (lv' := [(0, .ref (a 0)), (1, .int x1), (2, .int x2), (3, .int (t0 + t1)), (4, .int x4)]) [1, 2, 3, 0, 4] dX3_knownCombinations_83 rfl (by decide) rfl ?_
  refine go_iinc C (v := x4 + 1) (lv' := [(0, .ref (a 0)), (1, .int x1), (2, .int x2), (3, .int (t0 + t1)), (4, .int (x4 + 1))]) 4 [1, 2, 3, 4, 0] dX3_knownCombinations_84 rfl rfl (by decide) rfl ?_
  refine go_goto C (tgt := 58) dX3_knownCombinations_87 (by decide) ?_
  exact hr58 _ _ _ _ _ _ _ hf
set_option maxRecDepth 20000 in
set_option maxHeartbeats 2000000 in
theorem WX3_knownCombinations_58 {p : Program} {l : Launch} {e : Env} {s : State} {m : MethodId} {args : Array Value} {below : List Frame} {meth : Method} {c : Code} {K : KK} {A : Nat → Prop} {a : Nat → Nat} (C : Cx p s m args meth c K A cX3_knownCombinations 5 RX3 wsX3_knownCombinations (some .int)) {z : Int32 × (Nat → Int32) × (Nat → Int32) × (Nat → Int32)} {now : Nat → Int32} {past : Nat → Int32} {lef : Nat → Int32} {met : Nat → Int32} {sv : Int32} {hash : Int64} {r58 : (Nat → Int32) → (Nat → Int32) → (Nat → Int32) → Int32 → Int32 → Int32 → Int32 → Option (Int32 × (Nat → Int32) × (Nat → Int32) × (Nat → Int32))} {err : Nat → Int32} {msg : Nat → Int32} {par : Nat → Int32} {x1 : Int32} {x2 : Int32} {x3 : Int32} {x4 : Int32} (hr58 : ∀ (err : Nat → Int32) (msg : Nat → Int32) (par : Nat → Int32) (x1 : Int32) (x2 : Int32) (x3 : Int32) (x4 : Int32), r58 err msg par x1 x2 x3 x4 = some z → Go p l e (RM 3) s m args below meth c K A 5 0 0 (MQ below (QR K (some (.int z.1)) (mW K a now past z.2.1 lef z.2.2.1 met z.2.2.2 sv hash) A) args s 0 0 A) (mW K a now past err lef msg met par sv hash) 58 [(0, .ref (a 0)), (1, .int x1), (2, .int x2), (3, .int x3), (4, .int x4)] []) (hf : FX3_knownCombinations_58 now r58 err msg par x1 x2 x3 x4 = some z) : Go p l e (RM 3) s m args below meth c K A 5 0 0 (MQ below (QR K (some (.int z.1)) (mW K a now past z.2.1 lef z.2.2.1 met z.2.2.2 sv hash) A) args s 0 0 A) (mW K a now past err lef msg met par sv hash) 58 [(0, .ref (a 0)), (1, .int x1), (2, .int x2), (3, .int x3), (4, .int x4)] [] := by
  unfold FX3_knownCombinations_58 at hf
  refine go_iload C 4 dX3_knownCombinations_58 rfl ?_
  refine go_iconst (v := 1) C dX3_knownCombinations_60 (by decide) ?_
  refine go_iload_n C 2 dX3_knownCombinations_61 rfl rfl ?_
  refine go_ishl C dX3_knownCombinations_62 ?_
  refine go_c2_ge C (tgt := 90) dX3_knownCombinations_63 (by decide) hf (fun h hf => ?_) (fun h hf => ?_)
  · refine go_iload_n C 3 dX3_knownCombinations_90 rfl rfl ?_
    cases hf
    exact go_iret C dX3_knownCombinations_91
  · refine go_iload_n C 3 dX3_knownCombinations_66 rfl rfl ?_
    refine go_aload_n C 0 dX3_knownCombinations_67 rfl rfl ?_
    refine go_iload_n C 1 dX3_knownCombinations_68 rfl rfl ?_
    refine go_iload C 4 dX3_knownCombinations_69 rfl ?_
    refine call_X3_isKnown C gX3_knownCombinations_X3_isKnown dX3_knownCombinations_71 (by decide) (Nat.le_of_ble_eq_true rfl) hf (fun v1 hf => ?_)
    refine go_c1_eq C (tgt := 81) dX3_knownCombinations_74 (by decide) hf (fun h hf => ?_) (fun h hf => ?_)
    · refine go_iconst (v := 0) C dX3_knownCombinations_81 (by decide) ?_
      refine go_lv (lv' := [(0, .ref (a 0)), (1, .int x1), (2, .int x2), (4, .int x4)]) [0, 1, 2, 4] rfl ?_
      exact WX3_knownCombinations_82 C hr58 hf
    · refine go_iconst (v := 1) C dX3_knownCombinations_77 (by decide) ?_
      refine go_goto C (tgt := 82) dX3_knownCombinations_78 (by decide) ?_
      refine go_lv (lv' := [(0, .ref (a 0)), (1, .int x1), (2, .int x2), (4, .int x4)]) [0, 1, 2, 4] rfl ?_
      exact WX3_knownCombinations_82 C hr58 hf
theorem wX3_knownCombinations_58 {p : Program} {l : Launch} {e : Env} {s : State} {m : MethodId} {args : Array Value} {below : List Frame} {meth : Method} {c : Code} {K : KK} {A : Nat → Prop} {a : Nat → Nat} (C : Cx p s m args meth c K A cX3_knownCombinations 5 RX3 wsX3_knownCombinations (some .int)) {z : Int32 × (Nat → Int32) × (Nat → Int32) × (Nat → Int32)} {now : Nat → Int32} {past : Nat → Int32} {lef : Nat → Int32} {met : Nat → Int32} {sv : Int32} {hash : Int64} : ∀ (n : Nat) (err : Nat → Int32) (msg : Nat → Int32) (par : Nat → Int32) (x1 : Int32) (x2 : Int32) (x3 : Int32) (x4 : Int32), fX3_knownCombinations_58 now  n err msg par x1 x2 x3 x4 = some z → Go p l e (RM 3) s m args below meth c K A 5 0 0 (MQ below (QR K (some (.int z.1)) (mW K a now past z.2.1 lef z.2.2.1 met z.2.2.2 sv hash) A) args s 0 0 A) (mW K a now past err lef msg met par sv hash) 58 [(0, .ref (a 0)), (1, .int x1), (2, .int x2), (3, .int x3), (4, .int x4)] [] := by
  intro n
  induction n with
  | zero => intro _ _ _ _ _ _ _ hf; cases hf
  | succ n ih => intro _ _ _ _ _ _ _ hf; exact WX3_knownCombinations_58 C  ih hf
set_option maxRecDepth 20000 in
set_option maxHeartbeats 2000000 in
theorem WX3_knownCombinations_23 {p : Program} {l : Launch} {e : Env} {s : State} {m : MethodId} {args : Array Value} {below : List Frame} {meth : Method} {c : Code} {K : KK} {A : Nat → Prop} {a : Nat → Nat} (C : Cx p s m args meth c K A cX3_knownCombinations 5 RX3 wsX3_knownCombinations (some .int)) {z : Int32 × (Nat → Int32) × (Nat → Int32) × (Nat → Int32)} {now : Nat → Int32} {past : Nat → Int32} {lef : Nat → Int32} {met : Nat → Int32} {sv : Int32} {hash : Int64} {r23 : (Nat → Int32) → (Nat → Int32) → (Nat → Int32) → Int32 → Int32 → Int32 → Option (Int32 × (Nat → Int32) × (Nat → Int32) × (Nat → Int32))} {err : Nat → Int32} {msg : Nat → Int32} {par : Nat → Int32} {x1 : Int32} {x2 : Int32} {x3 : Int32} (hr23 : ∀ (err : Nat → Int32) (msg : Nat → Int32) (par : Nat → Int32) (x1 : Int32) (x2 : Int32) (x3 : Int32), r23 err msg par x1 x2 x3 = some z → Go p l e (RM 3) s m args below meth c K A 5 0 0 (MQ below (QR K (some (.int z.1)) (mW K a now past z.2.1 lef z.2.2.1 met z.2.2.2 sv hash) A) args s 0 0 A) (mW K a now past err lef msg met par sv hash) 23 [(0, .ref (a 0)), (1, .int x1), (2, .int x2), (3, .int x3)] []) (hf : FX3_knownCombinations_23 now r23 err msg par x1 x2 x3 = some z) : Go p l e (RM 3) s m args below meth c K A 5 0 0 (MQ below (QR K (some (.int z.1)) (mW K a now past z.2.1 lef z.2.2.1 met z.2.2.2 sv hash) A) args s 0 0 A) (mW K a now past err lef msg met par sv hash) 23 [(0, .ref (a 0)), (1, .int x1), (2, .int x2), (3, .int x3)] [] := by
  unfold FX3_knownCombinations_23 at hf
  refine go_iload_n C 3 dX3_knownCombinations_23 rfl rfl ?_
  refine go_aload_n C 0 dX3_knownCombinations_24 rfl rfl ?_
  refine gM_get_now C iX3_knownCombinations_3 kX3_knownCombinations_7 dX3_knownCombinations_25 ?_
  refine go_iconst (v := 1) C dX3_knownCombinations_28 (by decide) ?_
  refine gM_rd_now C dX3_knownCombinations_29 hf (fun v2 hf => ?_)
  refine go_c2_ge C (tgt := 53) dX3_knownCombinations_30 (by decide) hf (fun h hf => ?_) (fun h hf => ?_)
  · refine go_iconst (v := 0) C dX3_knownCombinations_53 (by decide) ?_
    refine go_istore_n C (lv' := [(0, .ref (a 0)), (1, .int x1), (2, .int x2), (3, .int 0)]) [1, 2, 3, 0] dX3_knownCombinations_54 rfl (by decide) rfl ?_
    refine go_iconst (v := 1) C dX3_knownCombinations_55 (by decide) ?_
    refine go_istore C (lv' := [(0, .ref (a 0)), (1, .int x1), (2, .int x2), (3, .int 0), (4, .int 1)]) [1, 2, 3, 4, 0] dX3_knownCombinations_56 (by decide) rfl ?_
    exact wX3_knownCombinations_58 C  300 _ _ _ _ _ _ _ hf
  · refine go_iload_n C 2 dX3_knownCombinations_33 rfl rfl ?_
    refine go_iconst (v := 1) C dX3_knownCombinations_34 (by decide) ?_
    refine go_aload_n C 0 dX3_knownCombinations_35 rfl rfl ?_
    refine gM_get_now C iX3_knownCombinations_3 kX3_knownCombinations_7 dX3_knownCombinations_36 ?_
    refine go_bipush (v := 8) C dX3_knownCombinations_39 (by decide) ?_
    refine go_iload_n C 3 dX3_knownCombinations_41 rfl rfl ?_
    refine go_iadd C dX3_knownCombinations_42 ?_
    refine gM_rd_now C dX3_knownCombinations_43 hf (fun v3 hf => ?_)
    refine go_isub C dX3_knownCombinations_44 ?_
    refine go_iadd C dX3_knownCombinations_45 ?_
    refine go_istore_n C (lv' := [(0, .ref (a 0)), (1, .int x1), (2, .int (x2 + ((1 : Int32) - v3))), (3, .int x3)]) [1, 2, 0, 3] dX3_knownCombinations_46 rfl (by decide) rfl ?_
    refine go_iinc C (v := x3 + 1) (lv' := [(0, .ref (a 0)), (1, .int x1), (2, .int (x2 + ((1 : Int32) - v3))), (3, .int (x3 + 1))]) 3 [1, 2, 3, 0] dX3_knownCombinations_47 rfl rfl (by decide) rfl ?_
    refine go_goto C (tgt := 23) dX3_knownCombinations_50 (by decide) ?_
    exact hr23 _ _ _ _ _ _ hf
theorem wX3_knownCombinations_23 {p : Program} {l : Launch} {e : Env} {s : State} {m : MethodId} {args : Array Value} {below : List Frame} {meth : Method} {c : Code} {K : KK} {A : Nat → Prop} {a : Nat → Nat} (C : Cx p s m args meth c K A cX3_knownCombinations 5 RX3 wsX3_knownCombinations (some .int)) {z : Int32 × (Nat → Int32) × (Nat → Int32) × (Nat → Int32)} {now : Nat → Int32} {past : Nat → Int32} {lef : Nat → Int32} {met : Nat → Int32} {sv : Int32} {hash : Int64} : ∀ (n : Nat) (err : Nat → Int32) (msg : Nat → Int32) (par : Nat → Int32) (x1 : Int32) (x2 : Int32) (x3 : Int32), fX3_knownCombinations_23 now  n err msg par x1 x2 x3 = some z → Go p l e (RM 3) s m args below meth c K A 5 0 0 (MQ below (QR K (some (.int z.1)) (mW K a now past z.2.1 lef z.2.2.1 met z.2.2.2 sv hash) A) args s 0 0 A) (mW K a now past err lef msg met par sv hash) 23 [(0, .ref (a 0)), (1, .int x1), (2, .int x2), (3, .int x3)] [] := by
  intro n
  induction n with
  | zero => intro _ _ _ _ _ _ hf; cases hf
  | succ n ih => intro _ _ _ _ _ _ hf; exact WX3_knownCombinations_23 C  ih hf
set_option maxRecDepth 20000 in
set_option maxHeartbeats 2000000 in
theorem WX3_knownCombinations_0 {p : Program} {l : Launch} {e : Env} {s : State} {m : MethodId} {args : Array Value} {below : List Frame} {meth : Method} {c : Code} {K : KK} {A : Nat → Prop} {a : Nat → Nat} (C : Cx p s m args meth c K A cX3_knownCombinations 5 RX3 wsX3_knownCombinations (some .int)) {z : Int32 × (Nat → Int32) × (Nat → Int32) × (Nat → Int32)} {now : Nat → Int32} {past : Nat → Int32} {lef : Nat → Int32} {met : Nat → Int32} {sv : Int32} {hash : Int64} {err : Nat → Int32} {msg : Nat → Int32} {par : Nat → Int32} {x1 : Int32} (hf : FX3_knownCombinations_0 now  err msg par x1 = some z) : Go p l e (RM 3) s m args below meth c K A 5 0 0 (MQ below (QR K (some (.int z.1)) (mW K a now past z.2.1 lef z.2.2.1 met z.2.2.2 sv hash) A) args s 0 0 A) (mW K a now past err lef msg met par sv hash) 0 [(0, .ref (a 0)), (1, .int x1)] [] := by
  unfold FX3_knownCombinations_0 at hf
  refine go_aload_n C 0 dX3_knownCombinations_0 rfl rfl ?_
  refine go_iload_n C 1 dX3_knownCombinations_1 rfl rfl ?_
  refine call_X3_isWord C gX3_knownCombinations_X3_isWord dX3_knownCombinations_2 (by decide) (Nat.le_of_ble_eq_true rfl) hf (fun v4 hf => ?_)
  refine go_c1_ne C (tgt := 15) dX3_knownCombinations_5 (by decide) hf (fun h hf => ?_) (fun h hf => ?_)
  · refine go_aload_n C 0 dX3_knownCombinations_15 rfl rfl ?_
    refine call_X3_laysMessages C gX3_knownCombinations_X3_laysMessages dX3_knownCombinations_16 (by decide) (Nat.le_of_ble_eq_true rfl) hf (fun v5 hf => ?_)
    refine go_iconst (v := 0) C dX3_knownCombinations_19 (by decide) ?_
    refine go_istore_n C (lv' := [(0, .ref (a 0)), (1, .int x1), (2, .int 0)]) [1, 2, 0] dX3_knownCombinations_20 rfl (by decide) rfl ?_
    refine go_iconst (v := 0) C dX3_knownCombinations_21 (by decide) ?_
    refine go_istore_n C (lv' := [(0, .ref (a 0)), (1, .int x1), (2, .int 0), (3, .int 0)]) [1, 2, 3, 0] dX3_knownCombinations_22 rfl (by decide) rfl ?_
    exact wX3_knownCombinations_23 C  300 _ _ _ _ _ _ hf
  · refine go_aload_n C 0 dX3_knownCombinations_8 rfl rfl ?_
    refine go_bipush (v := (-2)) C dX3_knownCombinations_9 (by decide) ?_
    refine call_X3_fails C gX3_knownCombinations_X3_fails dX3_knownCombinations_11 (by decide) (Nat.le_of_ble_eq_true rfl) hf (fun v6 hf => ?_)
    cases hf
    exact go_iret C dX3_knownCombinations_14
set_option maxRecDepth 20000 in
theorem con_X3_knownCombinations (l : Launch) (K : KK) (a : Nat → Nat) {now : Nat → Int32} {past : Nat → Int32} {err : Nat → Int32} {lef : Nat → Int32} {msg : Nat → Int32} {met : Nat → Int32} {par : Nat → Int32} {sv : Int32} {hash : Int64} {x1 : Int32} {z : Int32 × (Nat → Int32) × (Nat → Int32) × (Nat → Int32)} (hf : fX3_knownCombinations now err msg par x1 = some z) : Con l yX3_knownCombinations wsX3_knownCombinations 3 K [.ref (a 0), .int x1] (mW K a now past err lef msg met par sv hash) (some (.int z.1)) (mW K a now past z.2.1 lef z.2.2.1 met z.2.2.2 sv hash) :=
  con_of (cc := cX3_knownCombinations) (maxL := 5) (ret := (some .int)) (own := RX3) (lv0 := [(0, .ref (a 0)), (1, .int x1)]) (by decide) rfl rfl (Nat.le_of_ble_eq_true rfl) rfl (fun p e s m args below meth c A C => go_lv (lv' := [(0, .ref (a 0)), (1, .int x1)]) [0, 1] rfl (WX3_knownCombinations_0 C hf))
set_option maxRecDepth 20000 in
theorem call_X3_knownCombinations {p : Program} {l : Launch} {e : Env} {s : State} {m : MethodId} {args : Array Value} {below : List Frame} {meth : Method} {c : Code} {K : KK} {A : Nat → Prop} {Q : State → Prop} {cc : ByteArray} {nL : Nat} {Ts : List Cond} {ret : Option FieldType} {pc : Nat} {lv : List (Nat × Value)} {st : List Value} {ix d : Nat} {α : Type} {kk : Int32 × (Nat → Int32) × (Nat → Int32) × (Nat → Int32) → Option α} {y : α} {a : Nat → Nat} {now : Nat → Int32} {past : Nat → Int32} {err : Nat → Int32} {lef : Nat → Int32} {msg : Nat → Int32} {met : Nat → Int32} {par : Nat → Int32} {sv : Int32} {hash : Int64} {q0 : Int32} (C : Cx p s m args meth c K A cc nL RX3 Ts ret) (hG : GoodIn Ts (wsV RX3 ix RX3 yX3_knownCombinations wsX3_knownCombinations)) (hd : decode cc pc = .ok (.invokevirtual ix, 3)) (hdd : 3 < d) (hro : (st.map fun v => v.category).sum ≤ 8) (hf : (fX3_knownCombinations now err msg par q0).bind kk = some y) (k : ∀ v, kk v = some y → Go p l e (RM d) s m args below meth c K A nL 0 0 Q (mW K a now past v.2.1 lef v.2.2.1 met v.2.2.2 sv hash) (pc + 3) lv (.int (v.1) :: st)) : Go p l e (RM d) s m args below meth c K A nL 0 0 Q (mW K a now past err lef msg met par sv hash) pc lv (.int q0 :: .ref (a 0) :: st) := by
  obtain ⟨v, hv, hf⟩ := bd_some hf
  exact go_callV_full (ry := (some .int)) (n := 1) (b := a 0) (As := [.int q0]) (rest := st) C (con_X3_knownCombinations l K a hv) hG (by decide) rfl ⟨Nat.succ_le_of_lt hdd, by show 8 + (5 + 11) + 40 * 3 ≤ 40 * d; omega⟩ ⟨Nat.le_refl _, Nat.le_refl _⟩ ⟨0, 3, _, _, rfl, rfl, rfl⟩ rfl rfl hro hd (k v hf)
-- X3_errorCount
theorem iX3_errorCount_3 : ∀ w ∈ wsX30, w ∈ wsX3_errorCount := by decide +kernel
theorem kX3_errorCount_16 : Cond.fieldLink RX3 16 "CosetCoderModel" "errors" "[I" ∈ wsX3_errorCount := by decide +kernel
set_option maxRecDepth 20000 in
set_option maxHeartbeats 2000000 in
theorem WX3_errorCount_29 {p : Program} {l : Launch} {e : Env} {s : State} {m : MethodId} {args : Array Value} {below : List Frame} {meth : Method} {c : Code} {K : KK} {A : Nat → Prop} {a : Nat → Nat} (C : Cx p s m args meth c K A cX3_errorCount 2 RX3 wsX3_errorCount (some .int)) {z : Int32 × (Nat → Int32)} {now : Nat → Int32} {past : Nat → Int32} {lef : Nat → Int32} {msg : Nat → Int32} {met : Nat → Int32} {par : Nat → Int32} {sv : Int32} {hash : Int64} {err : Nat → Int32} {t0 : Int32} (hf : FX3_errorCount_29   err t0 = some z) : Go p l e (RM 1) s m args below meth c K A 2 0 0 (MQ below (QR K (some (.int z.1)) (mW K a now past z.2 lef msg met par sv hash) A) args s 0 0 A) (mW K a now past err lef msg met par sv hash) 29 [] [.int t0] := by
  unfold FX3_errorCount_29 at hf
  cases hf
  exact go_iret C dX3_errorCount_29
set_option maxRecDepth 20000 in
set_option maxHeartbeats 2000000 in
theorem WX3_errorCount_0 {p : Program} {l : Launch} {e : Env} {s : State} {m : MethodId} {args : Array Value} {below : List Frame} {meth : Method} {c : Code} {K : KK} {A : Nat → Prop} {a : Nat → Nat} (C : Cx p s m args meth c K A cX3_errorCount 2 RX3 wsX3_errorCount (some .int)) {z : Int32 × (Nat → Int32)} {now : Nat → Int32} {past : Nat → Int32} {lef : Nat → Int32} {msg : Nat → Int32} {met : Nat → Int32} {par : Nat → Int32} {sv : Int32} {hash : Int64} {err : Nat → Int32} {x1 : Int32} (hf : FX3_errorCount_0   err x1 = some z) : Go p l e (RM 1) s m args below meth c K A 2 0 0 (MQ below (QR K (some (.int z.1)) (mW K a now past z.2 lef msg met par sv hash) A) args s 0 0 A) (mW K a now past err lef msg met par sv hash) 0 [(0, .ref (a 0)), (1, .int x1)] [] := by
  unfold FX3_errorCount_0 at hf
  refine go_iload_n C 1 dX3_errorCount_0 rfl rfl ?_
  refine go_bipush (v := (-6)) C dX3_errorCount_1 (by decide) ?_
  refine go_bipush (v := (-2)) C dX3_errorCount_3 (by decide) ?_
  refine call_X3_within C gX3_errorCount_X3_within dX3_errorCount_5 (by decide) (Nat.le_of_ble_eq_true rfl) hf (fun v1 hf => ?_)
  refine go_c1_eq C (tgt := 23) dX3_errorCount_8 (by decide) hf (fun h hf => ?_) (fun h hf => ?_)
  · refine go_aload_n C 0 dX3_errorCount_23 rfl rfl ?_
    refine go_bipush (v := (-2)) C dX3_errorCount_24 (by decide) ?_
    refine call_X3_fails C gX3_errorCount_X3_fails dX3_errorCount_26 (by decide) (Nat.le_of_ble_eq_true rfl) hf (fun v2 hf => ?_)
    refine go_lv (lv' := []) [] rfl ?_
    exact WX3_errorCount_29 C  hf
  · refine go_aload_n C 0 dX3_errorCount_11 rfl rfl ?_
    refine gM_get_errors C iX3_errorCount_3 kX3_errorCount_16 dX3_errorCount_12 ?_
    refine go_bipush (v := (-2)) C dX3_errorCount_15 (by decide) ?_
    refine go_iload_n C 1 dX3_errorCount_17 rfl rfl ?_
    refine go_isub C dX3_errorCount_18 ?_
    refine gM_rd_err C dX3_errorCount_19 hf (fun v3 hf => ?_)
    refine go_goto C (tgt := 29) dX3_errorCount_20 (by decide) ?_
    refine go_lv (lv' := []) [] rfl ?_
    exact WX3_errorCount_29 C  hf
set_option maxRecDepth 20000 in
theorem con_X3_errorCount (l : Launch) (K : KK) (a : Nat → Nat) {now : Nat → Int32} {past : Nat → Int32} {err : Nat → Int32} {lef : Nat → Int32} {msg : Nat → Int32} {met : Nat → Int32} {par : Nat → Int32} {sv : Int32} {hash : Int64} {x1 : Int32} {z : Int32 × (Nat → Int32)} (hf : fX3_errorCount err x1 = some z) : Con l yX3_errorCount wsX3_errorCount 1 K [.ref (a 0), .int x1] (mW K a now past err lef msg met par sv hash) (some (.int z.1)) (mW K a now past z.2 lef msg met par sv hash) :=
  con_of (cc := cX3_errorCount) (maxL := 2) (ret := (some .int)) (own := RX3) (lv0 := [(0, .ref (a 0)), (1, .int x1)]) (by decide) rfl rfl (Nat.le_of_ble_eq_true rfl) rfl (fun p e s m args below meth c A C => go_lv (lv' := [(0, .ref (a 0)), (1, .int x1)]) [0, 1] rfl (WX3_errorCount_0 C hf))
set_option maxRecDepth 20000 in
theorem call_X3_errorCount {p : Program} {l : Launch} {e : Env} {s : State} {m : MethodId} {args : Array Value} {below : List Frame} {meth : Method} {c : Code} {K : KK} {A : Nat → Prop} {Q : State → Prop} {cc : ByteArray} {nL : Nat} {Ts : List Cond} {ret : Option FieldType} {pc : Nat} {lv : List (Nat × Value)} {st : List Value} {ix d : Nat} {α : Type} {kk : Int32 × (Nat → Int32) → Option α} {y : α} {a : Nat → Nat} {now : Nat → Int32} {past : Nat → Int32} {err : Nat → Int32} {lef : Nat → Int32} {msg : Nat → Int32} {met : Nat → Int32} {par : Nat → Int32} {sv : Int32} {hash : Int64} {q0 : Int32} (C : Cx p s m args meth c K A cc nL RX3 Ts ret) (hG : GoodIn Ts (wsV RX3 ix RX3 yX3_errorCount wsX3_errorCount)) (hd : decode cc pc = .ok (.invokevirtual ix, 3)) (hdd : 1 < d) (hro : (st.map fun v => v.category).sum ≤ 8) (hf : (fX3_errorCount err q0).bind kk = some y) (k : ∀ v, kk v = some y → Go p l e (RM d) s m args below meth c K A nL 0 0 Q (mW K a now past v.2 lef msg met par sv hash) (pc + 3) lv (.int (v.1) :: st)) : Go p l e (RM d) s m args below meth c K A nL 0 0 Q (mW K a now past err lef msg met par sv hash) pc lv (.int q0 :: .ref (a 0) :: st) := by
  obtain ⟨v, hv, hf⟩ := bd_some hf
  exact go_callV_full (ry := (some .int)) (n := 1) (b := a 0) (As := [.int q0]) (rest := st) C (con_X3_errorCount l K a hv) hG (by decide) rfl ⟨Nat.succ_le_of_lt hdd, by show 8 + (2 + 11) + 40 * 1 ≤ 40 * d; omega⟩ ⟨Nat.le_refl _, Nat.le_refl _⟩ ⟨0, 3, _, _, rfl, rfl, rfl⟩ rfl rfl hro hd (k v hf)
-- X3_mix
theorem iX3_mix_3 : ∀ w ∈ wsX30, w ∈ wsX3_mix := by decide +kernel
theorem kX3_mix_114 : Cond.fieldLink RX3 114 "CosetCoderModel" "hash" "J" ∈ wsX3_mix := by decide +kernel
set_option maxRecDepth 20000 in
set_option maxHeartbeats 2000000 in
theorem WX3_mix_0 {p : Program} {l : Launch} {e : Env} {s : State} {m : MethodId} {args : Array Value} {below : List Frame} {meth : Method} {c : Code} {K : KK} {A : Nat → Prop} {a : Nat → Nat} (C : Cx p s m args meth c K A cX3_mix 2 RX3 wsX3_mix none) {z : Int64} {now : Nat → Int32} {past : Nat → Int32} {err : Nat → Int32} {lef : Nat → Int32} {msg : Nat → Int32} {met : Nat → Int32} {par : Nat → Int32} {sv : Int32} {hash : Int64} {x1 : Int32} (hf : FX3_mix_0   hash x1 = some z) : Go p l e (RM 0) s m args below meth c K A 2 0 0 (MQ below (QR K none (mW K a now past err lef msg met par sv z) A) args s 0 0 A) (mW K a now past err lef msg met par sv hash) 0 [(0, .ref (a 0)), (1, .int x1)] [] := by
  unfold FX3_mix_0 at hf
  refine go_aload_n C 0 dX3_mix_0 rfl rfl ?_
  refine go_ldc2 (v := 31) C dX3_mix_1 (by decide +kernel) ?_
  refine go_aload_n C 0 dX3_mix_4 rfl rfl ?_
  refine gM_get_hash C iX3_mix_3 kX3_mix_114 dX3_mix_5 ?_
  refine go_lmul C dX3_mix_8 ?_
  refine go_iload_n C 1 dX3_mix_9 rfl rfl ?_
  refine go_i2l C dX3_mix_10 ?_
  refine go_ladd C dX3_mix_11 ?_
  refine gM_put_hash C iX3_mix_3 kX3_mix_114 dX3_mix_12 ?_
  cases hf
  exact go_vret C dX3_mix_15
set_option maxRecDepth 20000 in
theorem con_X3_mix (l : Launch) (K : KK) (a : Nat → Nat) {now : Nat → Int32} {past : Nat → Int32} {err : Nat → Int32} {lef : Nat → Int32} {msg : Nat → Int32} {met : Nat → Int32} {par : Nat → Int32} {sv : Int32} {hash : Int64} {x1 : Int32} {z : Int64} (hf : fX3_mix hash x1 = some z) : Con l yX3_mix wsX3_mix 0 K [.ref (a 0), .int x1] (mW K a now past err lef msg met par sv hash) none (mW K a now past err lef msg met par sv z) :=
  con_of (cc := cX3_mix) (maxL := 2) (ret := none) (own := RX3) (lv0 := [(0, .ref (a 0)), (1, .int x1)]) (by decide) rfl rfl (Nat.le_of_ble_eq_true rfl) rfl (fun p e s m args below meth c A C => go_lv (lv' := [(0, .ref (a 0)), (1, .int x1)]) [0, 1] rfl (WX3_mix_0 C hf))
set_option maxRecDepth 20000 in
theorem call_X3_mix {p : Program} {l : Launch} {e : Env} {s : State} {m : MethodId} {args : Array Value} {below : List Frame} {meth : Method} {c : Code} {K : KK} {A : Nat → Prop} {Q : State → Prop} {cc : ByteArray} {nL : Nat} {Ts : List Cond} {ret : Option FieldType} {pc : Nat} {lv : List (Nat × Value)} {st : List Value} {ix d : Nat} {α : Type} {kk : Int64 → Option α} {y : α} {a : Nat → Nat} {now : Nat → Int32} {past : Nat → Int32} {err : Nat → Int32} {lef : Nat → Int32} {msg : Nat → Int32} {met : Nat → Int32} {par : Nat → Int32} {sv : Int32} {hash : Int64} {q0 : Int32} (C : Cx p s m args meth c K A cc nL RX3 Ts ret) (hG : GoodIn Ts (wsV RX3 ix RX3 yX3_mix wsX3_mix)) (hd : decode cc pc = .ok (.invokevirtual ix, 3)) (hdd : 0 < d) (hro : (st.map fun v => v.category).sum ≤ 8) (hf : (fX3_mix hash q0).bind kk = some y) (k : ∀ v, kk v = some y → Go p l e (RM d) s m args below meth c K A nL 0 0 Q (mW K a now past err lef msg met par sv v) (pc + 3) lv (st)) : Go p l e (RM d) s m args below meth c K A nL 0 0 Q (mW K a now past err lef msg met par sv hash) pc lv (.int q0 :: .ref (a 0) :: st) := by
  obtain ⟨v, hv, hf⟩ := bd_some hf
  exact go_callV_full (ry := none) (n := 1) (b := a 0) (As := [.int q0]) (rest := st) C (con_X3_mix l K a hv) hG (by decide) rfl ⟨Nat.succ_le_of_lt hdd, by show 8 + (2 + 11) + 40 * 0 ≤ 40 * d; omega⟩ ⟨Nat.le_refl _, Nat.le_refl _⟩ ⟨0, 3, _, _, rfl, rfl, rfl⟩ rfl rfl hro hd (k v hf)
