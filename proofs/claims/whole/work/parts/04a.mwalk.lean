-- X3_within
set_option maxRecDepth 20000 in
set_option maxHeartbeats 2000000 in
theorem WX3_within_15 {p : Program} {l : Launch} {e : Env} {s : State} {m : MethodId} {args : Array Value} {below : List Frame} {meth : Method} {c : Code} {K : KK} {A : Nat → Prop} {wz : va_W} (C : Cx p s m args meth c K A cX3_within 3 RX3 wsX3_within (some .boolean)) {z : Int32} {t0 : Int32} (hf : FX3_within_15   t0 = some z) : Go p l e (RM 0) s m args below meth c K A 3 0 0 (MQ below (QR K (some (.int z)) wz A) args s 0 0 A) wz 15 [] [.int t0] := by
  unfold FX3_within_15 at hf
  obtain ⟨hb1, hf⟩ := ckB_some hf
  cases hf
  exact go_zret C hb1 dX3_within_15
set_option maxRecDepth 20000 in
set_option maxHeartbeats 2000000 in
theorem WX3_within_14 {p : Program} {l : Launch} {e : Env} {s : State} {m : MethodId} {args : Array Value} {below : List Frame} {meth : Method} {c : Code} {K : KK} {A : Nat → Prop} {wz : va_W} (C : Cx p s m args meth c K A cX3_within 3 RX3 wsX3_within (some .boolean)) {z : Int32} (hf : FX3_within_14    = some z) : Go p l e (RM 0) s m args below meth c K A 3 0 0 (MQ below (QR K (some (.int z)) wz A) args s 0 0 A) wz 14 [] [] := by
  unfold FX3_within_14 at hf
  refine go_iconst (v := 0) C dX3_within_14 (by decide) ?_
  exact WX3_within_15 C  hf
set_option maxRecDepth 20000 in
set_option maxHeartbeats 2000000 in
theorem WX3_within_0 {p : Program} {l : Launch} {e : Env} {s : State} {m : MethodId} {args : Array Value} {below : List Frame} {meth : Method} {c : Code} {K : KK} {A : Nat → Prop} {wz : va_W} (C : Cx p s m args meth c K A cX3_within 3 RX3 wsX3_within (some .boolean)) {z : Int32} {x0 : Int32} {x1 : Int32} {x2 : Int32} (hf : FX3_within_0   x0 x1 x2 = some z) : Go p l e (RM 0) s m args below meth c K A 3 0 0 (MQ below (QR K (some (.int z)) wz A) args s 0 0 A) wz 0 [(0, .int x0), (1, .int x1), (2, .int x2)] [] := by
  unfold FX3_within_0 at hf
  refine go_iload_n C 0 dX3_within_0 rfl rfl ?_
  refine go_iload_n C 1 dX3_within_1 rfl rfl ?_
  refine go_c2_lt C (tgt := 14) dX3_within_2 (by decide) hf (fun h hf => ?_) (fun h hf => ?_)
  · refine go_lv (lv' := []) [] rfl ?_
    exact WX3_within_14 C  hf
  · refine go_iload_n C 0 dX3_within_5 rfl rfl ?_
    refine go_iload_n C 2 dX3_within_6 rfl rfl ?_
    refine go_c2_gt C (tgt := 14) dX3_within_7 (by decide) hf (fun h hf => ?_) (fun h hf => ?_)
    · refine go_lv (lv' := []) [] rfl ?_
      exact WX3_within_14 C  hf
    · refine go_iconst (v := 1) C dX3_within_10 (by decide) ?_
      refine go_goto C (tgt := 15) dX3_within_11 (by decide) ?_
      refine go_lv (lv' := []) [] rfl ?_
      exact WX3_within_15 C  hf
set_option maxRecDepth 20000 in
theorem con_X3_within (l : Launch) (K : KK) {x0 : Int32} {x1 : Int32} {x2 : Int32} {z : Int32} (hf : fX3_within x0 x1 x2 = some z) : Con l yX3_within wsX3_within 0 K [.int x0, .int x1, .int x2] [] (some (.int z)) [] :=
  con_of (cc := cX3_within) (maxL := 3) (ret := (some .boolean)) (own := RX3) (lv0 := [(0, .int x0), (1, .int x1), (2, .int x2)]) (by decide) rfl rfl (Nat.le_of_ble_eq_true rfl) rfl (fun p e s m args below meth c A C => go_lv (lv' := [(0, .int x0), (1, .int x1), (2, .int x2)]) [0, 1, 2] rfl (WX3_within_0 C hf))
set_option maxRecDepth 20000 in
theorem call_X3_within {p : Program} {l : Launch} {e : Env} {s : State} {m : MethodId} {args : Array Value} {below : List Frame} {meth : Method} {c : Code} {K : KK} {A : Nat → Prop} {Q : State → Prop} {cc : ByteArray} {nL : Nat} {own : String} {Ts : List Cond} {ret : Option FieldType} {pc : Nat} {lv : List (Nat × Value)} {st : List Value} {ix d : Nat} {α : Type} {kk : Int32 → Option α} {y : α} {ws : va_W} {q0 : Int32} {q1 : Int32} {q2 : Int32} (C : Cx p s m args meth c K A cc nL own Ts ret) (hG : GoodIn Ts (va_wsS own ix yX3_within wsX3_within)) (hd : decode cc pc = .ok (.invokestatic ix, 3)) (hdd : 0 < d) (hro : (st.map fun v => v.category).sum ≤ 8) (hf : (fX3_within q0 q1 q2).bind kk = some y) (k : ∀ v, kk v = some y → Go p l e (RM d) s m args below meth c K A nL 0 0 Q ws (pc + 3) lv (.int v :: st)) : Go p l e (RM d) s m args below meth c K A nL 0 0 Q ws pc lv (.int q2 :: .int q1 :: .int q0 :: st) := by
  obtain ⟨v, hv, hf⟩ := bd_some hf
  exact go_callS_l (ws := []) (w2 := ws) (ry := (some .boolean)) (n := 3) (As := [.int q0, .int q1, .int q2]) (rest := st) C (con_X3_within l K hv) hG (by decide) rfl ⟨Nat.succ_le_of_lt hdd, by show 8 + (3 + 11) + 40 * 0 ≤ 40 * d; omega⟩ ⟨Nat.le_refl _, Nat.le_refl _⟩ rfl rfl hro hd (k v hf)
-- X3_fails
theorem iX3_fails_3 : ∀ w ∈ wsX30, w ∈ wsX3_fails := by decide +kernel
theorem kX3_fails_16 : Cond.fieldLink RX3 16 "CosetCoderModel" "errors" "[I" ∈ wsX3_fails := by decide +kernel
set_option maxRecDepth 20000 in
set_option maxHeartbeats 2000000 in
theorem WX3_fails_0 {p : Program} {l : Launch} {e : Env} {s : State} {m : MethodId} {args : Array Value} {below : List Frame} {meth : Method} {c : Code} {K : KK} {A : Nat → Prop} {a : Nat → Nat} (C : Cx p s m args meth c K A cX3_fails 2 RX3 wsX3_fails (some .int)) {z : Int32 × (Nat → Int32)} {now : Nat → Int32} {past : Nat → Int32} {lef : Nat → Int32} {msg : Nat → Int32} {met : Nat → Int32} {par : Nat → Int32} {sv : Int32} {hash : Int64} {err : Nat → Int32} {x1 : Int32} (hf : FX3_fails_0   err x1 = some z) : Go p l e (RM 0) s m args below meth c K A 2 0 0 (MQ below (QR K (some (.int z.1)) (mW K a now past z.2 lef msg met par sv hash) A) args s 0 0 A) (mW K a now past err lef msg met par sv hash) 0 [(0, .ref (a 0)), (1, .int x1)] [] := by
  unfold FX3_fails_0 at hf
  refine go_aload_n C 0 dX3_fails_0 rfl rfl ?_
  refine gM_get_errors C iX3_fails_3 kX3_fails_16 dX3_fails_1 ?_
  refine go_bipush (v := (-2)) C dX3_fails_4 (by decide) ?_
  refine go_iload_n C 1 dX3_fails_6 rfl rfl ?_
  refine go_isub C dX3_fails_7 ?_
  refine go_dup2 C dX3_fails_8 rfl rfl ?_
  refine gM_rd_err C dX3_fails_9 hf (fun v1 hf => ?_)
  refine go_iconst (v := 1) C dX3_fails_10 (by decide) ?_
  refine go_iadd C dX3_fails_11 ?_
  refine gM_wr_err C dX3_fails_12 hf (fun g2 hf => ?_)
  refine go_iload_n C 1 dX3_fails_13 rfl rfl ?_
  cases hf
  exact go_iret C dX3_fails_14
set_option maxRecDepth 20000 in
theorem con_X3_fails (l : Launch) (K : KK) (a : Nat → Nat) {now : Nat → Int32} {past : Nat → Int32} {err : Nat → Int32} {lef : Nat → Int32} {msg : Nat → Int32} {met : Nat → Int32} {par : Nat → Int32} {sv : Int32} {hash : Int64} {x1 : Int32} {z : Int32 × (Nat → Int32)} (hf : fX3_fails err x1 = some z) : Con l yX3_fails wsX3_fails 0 K [.ref (a 0), .int x1] (mW K a now past err lef msg met par sv hash) (some (.int z.1)) (mW K a now past z.2 lef msg met par sv hash) :=
  con_of (cc := cX3_fails) (maxL := 2) (ret := (some .int)) (own := RX3) (lv0 := [(0, .ref (a 0)), (1, .int x1)]) (by decide) rfl rfl (Nat.le_of_ble_eq_true rfl) rfl (fun p e s m args below meth c A C => go_lv (lv' := [(0, .ref (a 0)), (1, .int x1)]) [0, 1] rfl (WX3_fails_0 C hf))
set_option maxRecDepth 20000 in
theorem call_X3_fails {p : Program} {l : Launch} {e : Env} {s : State} {m : MethodId} {args : Array Value} {below : List Frame} {meth : Method} {c : Code} {K : KK} {A : Nat → Prop} {Q : State → Prop} {cc : ByteArray} {nL : Nat} {Ts : List Cond} {ret : Option FieldType} {pc : Nat} {lv : List (Nat × Value)} {st : List Value} {ix d : Nat} {α : Type} {kk : Int32 × (Nat → Int32) → Option α} {y : α} {a : Nat → Nat} {now : Nat → Int32} {past : Nat → Int32} {err : Nat → Int32} {lef : Nat → Int32} {msg : Nat → Int32} {met : Nat → Int32} {par : Nat → Int32} {sv : Int32} {hash : Int64} {q0 : Int32} (C : Cx p s m args meth c K A cc nL RX3 Ts ret) (hG : GoodIn Ts (wsV RX3 ix RX3 yX3_fails wsX3_fails)) (hd : decode cc pc = .ok (.invokevirtual ix, 3)) (hdd : 0 < d) (hro : (st.map fun v => v.category).sum ≤ 8) (hf : (fX3_fails err q0).bind kk = some y) (k : ∀ v, kk v = some y → Go p l e (RM d) s m args below meth c K A nL 0 0 Q (mW K a now past v.2 lef msg met par sv hash) (pc + 3) lv (.int (v.1) :: st)) : Go p l e (RM d) s m args below meth c K A nL 0 0 Q (mW K a now past err lef msg met par sv hash) pc lv (.int q0 :: .ref (a 0) :: st) := by
  obtain ⟨v, hv, hf⟩ := bd_some hf
  exact go_callV_full (ry := (some .int)) (n := 1) (b := a 0) (As := [.int q0]) (rest := st) C (con_X3_fails l K a hv) hG (by decide) rfl ⟨Nat.succ_le_of_lt hdd, by show 8 + (2 + 11) + 40 * 0 ≤ 40 * d; omega⟩ ⟨Nat.le_refl _, Nat.le_refl _⟩ ⟨0, 3, _, _, rfl, rfl, rfl⟩ rfl rfl hro hd (k v hf)
-- X3_words
theorem iX3_words_3 : ∀ w ∈ wsX30, w ∈ wsX3_words := by decide +kernel
theorem kX3_words_7 : Cond.fieldLink RX3 7 "CosetCoderModel" "now" "[I" ∈ wsX3_words := by decide +kernel
set_option maxRecDepth 20000 in
set_option maxHeartbeats 2000000 in
theorem WX3_words_0 {p : Program} {l : Launch} {e : Env} {s : State} {m : MethodId} {args : Array Value} {below : List Frame} {meth : Method} {c : Code} {K : KK} {A : Nat → Prop} {a : Nat → Nat} (C : Cx p s m args meth c K A cX3_words 1 RX3 wsX3_words (some .int)) {z : Int32} {now : Nat → Int32} {past : Nat → Int32} {err : Nat → Int32} {lef : Nat → Int32} {msg : Nat → Int32} {met : Nat → Int32} {par : Nat → Int32} {sv : Int32} {hash : Int64} (hf : FX3_words_0 now   = some z) : Go p l e (RM 0) s m args below meth c K A 1 0 0 (MQ below (QR K (some (.int z)) (mW K a now past err lef msg met par sv hash) A) args s 0 0 A) (mW K a now past err lef msg met par sv hash) 0 [(0, .ref (a 0))] [] := by
  unfold FX3_words_0 at hf
  refine go_iconst (v := 1) C dX3_words_0 (by decide) ?_
  refine go_aload_n C 0 dX3_words_1 rfl rfl ?_
  refine gM_get_now C iX3_words_3 kX3_words_7 dX3_words_2 ?_
  refine go_iconst (v := 0) C dX3_words_5 (by decide) ?_
  refine gM_rd_now C dX3_words_6 hf (fun v1 hf => ?_)
  refine go_ishl C dX3_words_7 ?_
  cases hf
  exact go_iret C dX3_words_8
set_option maxRecDepth 20000 in
theorem con_X3_words (l : Launch) (K : KK) (a : Nat → Nat) {now : Nat → Int32} {past : Nat → Int32} {err : Nat → Int32} {lef : Nat → Int32} {msg : Nat → Int32} {met : Nat → Int32} {par : Nat → Int32} {sv : Int32} {hash : Int64} {z : Int32} (hf : fX3_words now = some z) : Con l yX3_words wsX3_words 0 K [.ref (a 0)] (mW K a now past err lef msg met par sv hash) (some (.int z)) (mW K a now past err lef msg met par sv hash) :=
  con_of (cc := cX3_words) (maxL := 1) (ret := (some .int)) (own := RX3) (lv0 := [(0, .ref (a 0))]) (by decide) rfl rfl (Nat.le_of_ble_eq_true rfl) rfl (fun p e s m args below meth c A C => go_lv (lv' := [(0, .ref (a 0))]) [0] rfl (WX3_words_0 C hf))
set_option maxRecDepth 20000 in
theorem call_X3_words {p : Program} {l : Launch} {e : Env} {s : State} {m : MethodId} {args : Array Value} {below : List Frame} {meth : Method} {c : Code} {K : KK} {A : Nat → Prop} {Q : State → Prop} {cc : ByteArray} {nL : Nat} {Ts : List Cond} {ret : Option FieldType} {pc : Nat} {lv : List (Nat × Value)} {st : List Value} {ix d : Nat} {α : Type} {kk : Int32 → Option α} {y : α} {a : Nat → Nat} {now : Nat → Int32} {past : Nat → Int32} {err : Nat → Int32} {lef : Nat → Int32} {msg : Nat → Int32} {met : Nat → Int32} {par : Nat → Int32} {sv : Int32} {hash : Int64} (C : Cx p s m args meth c K A cc nL RX3 Ts ret) (hG : GoodIn Ts (wsV RX3 ix RX3 yX3_words wsX3_words)) (hd : decode cc pc = .ok (.invokevirtual ix, 3)) (hdd : 0 < d) (hro : (st.map fun v => v.category).sum ≤ 8) (hf : (fX3_words now).bind kk = some y) (k : ∀ v, kk v = some y → Go p l e (RM d) s m args below meth c K A nL 0 0 Q (mW K a now past err lef msg met par sv hash) (pc + 3) lv (.int v :: st)) : Go p l e (RM d) s m args below meth c K A nL 0 0 Q (mW K a now past err lef msg met par sv hash) pc lv (.ref (a 0) :: st) := by
  obtain ⟨v, hv, hf⟩ := bd_some hf
  exact go_callV_full (ry := (some .int)) (n := 0) (b := a 0) (As := []) (rest := st) C (con_X3_words l K a hv) hG (by decide) rfl ⟨Nat.succ_le_of_lt hdd, by show 8 + (1 + 11) + 40 * 0 ≤ 40 * d; omega⟩ ⟨Nat.le_refl _, Nat.le_refl _⟩ ⟨0, 3, _, _, rfl, rfl, rfl⟩ rfl rfl hro hd (k v hf)
-- X3_isWord
set_option maxRecDepth 20000 in
set_option maxHeartbeats 2000000 in
theorem WX3_isWord_0 {p : Program} {l : Launch} {e : Env} {s : State} {m : MethodId} {args : Array Value} {below : List Frame} {meth : Method} {c : Code} {K : KK} {A : Nat → Prop} {a : Nat → Nat} (C : Cx p s m args meth c K A cX3_isWord 2 RX3 wsX3_isWord (some .boolean)) {z : Int32} {now : Nat → Int32} {past : Nat → Int32} {err : Nat → Int32} {lef : Nat → Int32} {msg : Nat → Int32} {met : Nat → Int32} {par : Nat → Int32} {sv : Int32} {hash : Int64} {x1 : Int32} (hf : FX3_isWord_0 now  x1 = some z) : Go p l e (RM 1) s m args below meth c K A 2 0 0 (MQ below (QR K (some (.int z)) (mW K a now past err lef msg met par sv hash) A) args s 0 0 A) (mW K a now past err lef msg met par sv hash) 0 [(0, .ref (a 0)), (1, .int x1)] [] := by
  unfold FX3_isWord_0 at hf
  refine go_iload_n C 1 dX3_isWord_0 rfl rfl ?_
  refine go_iconst (v := 0) C dX3_isWord_1 (by decide) ?_
  refine go_aload_n C 0 dX3_isWord_2 rfl rfl ?_
  refine call_X3_words C gX3_isWord_X3_words dX3_isWord_3 (by decide) (Nat.le_of_ble_eq_true rfl) hf (fun v1 hf => ?_)
  refine go_iconst (v := 1) C dX3_isWord_6 (by decide) ?_
  refine go_isub C dX3_isWord_7 ?_
  refine call_X3_within C gX3_isWord_X3_within dX3_isWord_8 (by decide) (Nat.le_of_ble_eq_true rfl) hf (fun v2 hf => ?_)
  obtain ⟨hb1, hf⟩ := ckB_some hf
  cases hf
  exact go_zret C hb1 dX3_isWord_11
set_option maxRecDepth 20000 in
theorem con_X3_isWord (l : Launch) (K : KK) (a : Nat → Nat) {now : Nat → Int32} {past : Nat → Int32} {err : Nat → Int32} {lef : Nat → Int32} {msg : Nat → Int32} {met : Nat → Int32} {par : Nat → Int32} {sv : Int32} {hash : Int64} {x1 : Int32} {z : Int32} (hf : fX3_isWord now x1 = some z) : Con l yX3_isWord wsX3_isWord 1 K [.ref (a 0), .int x1] (mW K a now past err lef msg met par sv hash) (some (.int z)) (mW K a now past err lef msg met par sv hash) :=
  con_of (cc := cX3_isWord) (maxL := 2) (ret := (some .boolean)) (own := RX3) (lv0 := [(0, .ref (a 0)), (1, .int x1)]) (by decide) rfl rfl (Nat.le_of_ble_eq_true rfl) rfl (fun p e s m args below meth c A C => go_lv (lv' := [(0, .ref (a 0)), (1, .int x1)]) [0, 1] rfl (WX3_isWord_0 C hf))
set_option maxRecDepth 20000 in
theorem call_X3_isWord {p : Program} {l : Launch} {e : Env} {s : State} {m : MethodId} {args : Array Value} {below : List Frame} {meth : Method} {c : Code} {K : KK} {A : Nat → Prop} {Q : State → Prop} {cc : ByteArray} {nL : Nat} {Ts : List Cond} {ret : Option FieldType} {pc : Nat} {lv : List (Nat × Value)} {st : List Value} {ix d : Nat} {α : Type} {kk : Int32 → Option α} {y : α} {a : Nat → Nat} {now : Nat → Int32} {past : Nat → Int32} {err : Nat → Int32} {lef : Nat → Int32} {msg : Nat → Int32} {met : Nat → Int32} {par : Nat → Int32} {sv : Int32} {hash : Int64} {q0 : Int32} (C : Cx p s m args meth c K A cc nL RX3 Ts ret) (hG : GoodIn Ts (wsV RX3 ix RX3 yX3_isWord wsX3_isWord)) (hd : decode cc pc = .ok (.invokevirtual ix, 3)) (hdd : 1 < d) (hro : (st.map fun v => v.category).sum ≤ 8) (hf : (fX3_isWord now q0).bind kk = some y) (k : ∀ v, kk v = some y → Go p l e (RM d) s m args below meth c K A nL 0 0 Q (mW K a now past err lef msg met par sv hash) (pc + 3) lv (.int v :: st)) : Go p l e (RM d) s m args below meth c K A nL 0 0 Q (mW K a now past err lef msg met par sv hash) pc lv (.int q0 :: .ref (a 0) :: st) := by
  obtain ⟨v, hv, hf⟩ := bd_some hf
  exact go_callV_full (ry := (some .boolean)) (n := 1) (b := a 0) (As := [.int q0]) (rest := st) C (con_X3_isWord l K a hv) hG (by decide) rfl ⟨Nat.succ_le_of_lt hdd, by show 8 + (2 + 11) + 40 * 1 ≤ 40 * d; omega⟩ ⟨Nat.le_refl _, Nat.le_refl _⟩ ⟨0, 3, _, _, rfl, rfl, rfl⟩ rfl rfl hro hd (k v hf)
-- X3_isRow
theorem iX3_isRow_3 : ∀ w ∈ wsX30, w ∈ wsX3_isRow := by decide +kernel
theorem kX3_isRow_7 : Cond.fieldLink RX3 7 "CosetCoderModel" "now" "[I" ∈ wsX3_isRow := by decide +kernel
set_option maxRecDepth 20000 in
set_option maxHeartbeats 2000000 in
theorem WX3_isRow_0 {p : Program} {l : Launch} {e : Env} {s : State} {m : MethodId} {args : Array Value} {below : List Frame} {meth : Method} {c : Code} {K : KK} {A : Nat → Prop} {a : Nat → Nat} (C : Cx p s m args meth c K A cX3_isRow 2 RX3 wsX3_isRow (some .boolean)) {z : Int32} {now : Nat → Int32} {past : Nat → Int32} {err : Nat → Int32} {lef : Nat → Int32} {msg : Nat → Int32} {met : Nat → Int32} {par : Nat → Int32} {sv : Int32} {hash : Int64} {x1 : Int32} (hf : FX3_isRow_0 now  x1 = some z) : Go p l e (RM 1) s m args below meth c K A 2 0 0 (MQ below (QR K (some (.int z)) (mW K a now past err lef msg met par sv hash) A) args s 0 0 A) (mW K a now past err lef msg met par sv hash) 0 [(0, .ref (a 0)), (1, .int x1)] [] := by
  unfold FX3_isRow_0 at hf
  refine go_iload_n C 1 dX3_isRow_0 rfl rfl ?_
  refine go_iconst (v := 0) C dX3_isRow_1 (by decide) ?_
  refine go_aload_n C 0 dX3_isRow_2 rfl rfl ?_
  refine gM_get_now C iX3_isRow_3 kX3_isRow_7 dX3_isRow_3 ?_
  refine go_iconst (v := 1) C dX3_isRow_6 (by decide) ?_
  refine gM_rd_now C dX3_isRow_7 hf (fun v1 hf => ?_)
  refine go_iconst (v := 1) C dX3_isRow_8 (by decide) ?_
  refine go_isub C dX3_isRow_9 ?_
  refine call_X3_within C gX3_isRow_X3_within dX3_isRow_10 (by decide) (Nat.le_of_ble_eq_true rfl) hf (fun v2 hf => ?_)
  obtain ⟨hb1, hf⟩ := ckB_some hf
  cases hf
  exact go_zret C hb1 dX3_isRow_13
set_option maxRecDepth 20000 in
theorem con_X3_isRow (l : Launch) (K : KK) (a : Nat → Nat) {now : Nat → Int32} {past : Nat → Int32} {err : Nat → Int32} {lef : Nat → Int32} {msg : Nat → Int32} {met : Nat → Int32} {par : Nat → Int32} {sv : Int32} {hash : Int64} {x1 : Int32} {z : Int32} (hf : fX3_isRow now x1 = some z) : Con l yX3_isRow wsX3_isRow 1 K [.ref (a 0), .int x1] (mW K a now past err lef msg met par sv hash) (some (.int z)) (mW K a now past err lef msg met par sv hash) :=
  con_of (cc := cX3_isRow) (maxL := 2) (ret := (some .boolean)) (own := RX3) (lv0 := [(0, .ref (a 0)), (1, .int x1)]) (by decide) rfl rfl (Nat.le_of_ble_eq_true rfl) rfl (fun p e s m args below meth c A C => go_lv (lv' := [(0, .ref (a 0)), (1, .int x1)]) [0, 1] rfl (WX3_isRow_0 C hf))
set_option maxRecDepth 20000 in
theorem call_X3_isRow {p : Program} {l : Launch} {e : Env} {s : State} {m : MethodId} {args : Array Value} {below : List Frame} {meth : Method} {c : Code} {K : KK} {A : Nat → Prop} {Q : State → Prop} {cc : ByteArray} {nL : Nat} {Ts : List Cond} {ret : Option FieldType} {pc : Nat} {lv : List (Nat × Value)} {st : List Value} {ix d : Nat} {α : Type} {kk : Int32 → Option α} {y : α} {a : Nat → Nat} {now : Nat → Int32} {past : Nat → Int32} {err : Nat → Int32} {lef : Nat → Int32} {msg : Nat → Int32} {met : Nat → Int32} {par : Nat → Int32} {sv : Int32} {hash : Int64} {q0 : Int32} (C : Cx p s m args meth c K A cc nL RX3 Ts ret) (hG : GoodIn Ts (wsV RX3 ix RX3 yX3_isRow wsX3_isRow)) (hd : decode cc pc = .ok (.invokevirtual ix, 3)) (hdd : 1 < d) (hro : (st.map fun v => v.category).sum ≤ 8) (hf : (fX3_isRow now q0).bind kk = some y) (k : ∀ v, kk v = some y → Go p l e (RM d) s m args below meth c K A nL 0 0 Q (mW K a now past err lef msg met par sv hash) (pc + 3) lv (.int v :: st)) : Go p l e (RM d) s m args below meth c K A nL 0 0 Q (mW K a now past err lef msg met par sv hash) pc lv (.int q0 :: .ref (a 0) :: st) := by
  obtain ⟨v, hv, hf⟩ := bd_some hf
  exact go_callV_full (ry := (some .boolean)) (n := 1) (b := a 0) (As := [.int q0]) (rest := st) C (con_X3_isRow l K a hv) hG (by decide) rfl ⟨Nat.succ_le_of_lt hdd, by show 8 + (2 + 11) + 40 * 1 ≤ 40 * d; omega⟩ ⟨Nat.le_refl _, Nat.le_refl _⟩ ⟨0, 3, _, _, rfl, rfl, rfl⟩ rfl rfl hro hd (k v hf)
-- X3_ones
set_option maxRecDepth 20000 in
set_option maxHeartbeats 2000000 in
theorem WX3_ones_4 {p : Program} {l : Launch} {e : Env} {s : State} {m : MethodId} {args : Array Value} {below : List Frame} {meth : Method} {c : Code} {K : KK} {A : Nat → Prop} {wz : va_W} (C : Cx p s m args meth c K A cX3_ones 3 RX3 wsX3_ones (some .int)) {z : Int32} {r4 : Int32 → Int32 → Int32 → Option (Int32)} {x0 : Int32} {x1 : Int32} {x2 : Int32} (hr4 : ∀ (x0 : Int32) (x1 : Int32) (x2 : Int32), r4 x0 x1 x2 = some z → Go p l e (RM 0) s m args below meth c K A 3 0 0 (MQ below (QR K (some (.int z)) wz A) args s 0 0 A) wz 4 [(0, .int x0), (1, .int x1), (2, .int x2)] []) (hf : FX3_ones_4  r4 x0 x1 x2 = some z) : Go p l e (RM 0) s m args below meth c K A 3 0 0 (MQ below (QR K (some (.int z)) wz A) args s 0 0 A) wz 4 [(0, .int x0), (1, .int x1), (2, .int x2)] [] := by
  unfold FX3_ones_4 at hf
  refine go_iload_n C 2 dX3_ones_4 rfl rfl ?_
  refine go_bipush (v := 8) C dX3_ones_5 (by decide) ?_
  refine go_c2_ge C (tgt := 24) dX3_ones_7 (by decide) hf (fun h hf => ?_) (fun h hf => ?_)
  · refine go_iload_n C 1 dX3_ones_24 rfl rfl ?_
    cases hf
    exact go_iret C dX3_ones_25
  · refine go_iload_n C 1 dX3_ones_10 rfl rfl ?_
    refine go_iload_n C 0 dX3_ones_11 rfl rfl ?_
    refine go_iload_n C 2 dX3_ones_12 rfl rfl ?_
    refine go_ishr C dX3_ones_13 ?_
    refine go_iconst (v := 1) C dX3_ones_14 (by decide) ?_
    refine go_iand C dX3_ones_15 ?_
    refine go_iadd C dX3_ones_16 ?_
    refine go_istore_n C (lv' := [(0, .int x0), (1, .int (x1 + ((x0 >>> (x2 &&& 31)) &&& 1))), (2, .int x2)]) [1, 0, 2] dX3_ones_17 rfl (by decide) rfl ?_
    refine go_iinc C (v := x2 + 1) (lv' := [(0, .int x0), (1, .int (x1 + ((x0 >>> (x2 &&& 31)) &&& 1))), (2, .int (x2 + 1))]) 2 [1, 2, 0] dX3_ones_18 rfl rfl (by decide) rfl ?_
    refine go_goto C (tgt := 4) dX3_ones_21 (by decide) ?_
    exact hr4 _ _ _ hf
theorem wX3_ones_4 {p : Program} {l : Launch} {e : Env} {s : State} {m : MethodId} {args : Array Value} {below : List Frame} {meth : Method} {c : Code} {K : KK} {A : Nat → Prop} {wz : va_W} (C : Cx p s m args meth c K A cX3_ones 3 RX3 wsX3_ones (some .int)) {z : Int32} : ∀ (n : Nat) (x0 : Int32) (x1 : Int32) (x2 : Int32), fX3_ones_4   n x0 x1 x2 = some z → Go p l e (RM 0) s m args below meth c K A 3 0 0 (MQ below (QR K (some (.int z)) wz A) args s 0 0 A) wz 4 [(0, .int x0), (1, .int x1), (2, .int x2)] [] := by
  intro n
  induction n with
  | zero => intro _ _ _ hf; cases hf
  | succ n ih => intro _ _ _ hf; exact WX3_ones_4 C  ih hf
set_option maxRecDepth 20000 in
set_option maxHeartbeats 2000000 in
theorem WX3_ones_0 {p : Program} {l : Launch} {e : Env} {s : State} {m : MethodId} {args : Array Value} {below : List Frame} {meth : Method} {c : Code} {K : KK} {A : Nat → Prop} {wz : va_W} (C : Cx p s m args meth c K A cX3_ones 3 RX3 wsX3_ones (some .int)) {z : Int32} {x0 : Int32} (hf : FX3_ones_0   x0 = some z) : Go p l e (RM 0) s m args below meth c K A 3 0 0 (MQ below (QR K (some (.int z)) wz A) args s 0 0 A) wz 0 [(0, .int x0)] [] := by
  unfold FX3_ones_0 at hf
  refine go_iconst (v := 0) C dX3_ones_0 (by decide) ?_
  refine go_istore_n C (lv' := [(0, .int x0), (1, .int 0)]) [1, 0] dX3_ones_1 rfl (by decide) rfl ?_
  refine go_iconst (v := 0) C dX3_ones_2 (by decide) ?_
  refine go_istore_n C (lv' := [(0, .int x0), (1, .int 0), (2, .int 0)]) [1, 2, 0] dX3_ones_3 rfl (by decide) rfl ?_
  exact wX3_ones_4 C  300 _ _ _ hf
set_option maxRecDepth 20000 in
theorem con_X3_ones (l : Launch) (K : KK) {x0 : Int32} {z : Int32} (hf : fX3_ones x0 = some z) : Con l yX3_ones wsX3_ones 0 K [.int x0] [] (some (.int z)) [] :=
  con_of (cc := cX3_ones) (maxL := 3) (ret := (some .int)) (own := RX3) (lv0 := [(0, .int x0)]) (by decide) rfl rfl (Nat.le_of_ble_eq_true rfl) rfl (fun p e s m args below meth c A C => go_lv (lv' := [(0, .int x0)]) [0] rfl (WX3_ones_0 C hf))
set_option maxRecDepth 20000 in
theorem call_X3_ones {p : Program} {l : Launch} {e : Env} {s : State} {m : MethodId} {args : Array Value} {below : List Frame} {meth : Method} {c : Code} {K : KK} {A : Nat → Prop} {Q : State → Prop} {cc : ByteArray} {nL : Nat} {own : String} {Ts : List Cond} {ret : Option FieldType} {pc : Nat} {lv : List (Nat × Value)} {st : List Value} {ix d : Nat} {α : Type} {kk : Int32 → Option α} {y : α} {ws : va_W} {q0 : Int32} (C : Cx p s m args meth c K A cc nL own Ts ret) (hG : GoodIn Ts (va_wsS own ix yX3_ones wsX3_ones)) (hd : decode cc pc = .ok (.invokestatic ix, 3)) (hdd : 0 < d) (hro : (st.map fun v => v.category).sum ≤ 8) (hf : (fX3_ones q0).bind kk = some y) (k : ∀ v, kk v = some y → Go p l e (RM d) s m args below meth c K A nL 0 0 Q ws (pc + 3) lv (.int v :: st)) : Go p l e (RM d) s m args below meth c K A nL 0 0 Q ws pc lv (.int q0 :: st) := by
  obtain ⟨v, hv, hf⟩ := bd_some hf
  exact go_callS_l (ws := []) (w2 := ws) (ry := (some .int)) (n := 1) (As := [.int q0]) (rest := st) C (con_X3_ones l K hv) hG (by decide) rfl ⟨Nat.succ_le_of_lt hdd, by show 8 + (3 + 11) + 40 * 0 ≤ 40 * d; omega⟩ ⟨Nat.le_refl _, Nat.le_refl _⟩ rfl rfl hro hd (k v hf)
-- X3_saves
theorem iX3_saves_3 : ∀ w ∈ wsX30, w ∈ wsX3_saves := by decide +kernel
theorem kX3_saves_13 : Cond.fieldLink RX3 13 "CosetCoderModel" "past" "[I" ∈ wsX3_saves := by decide +kernel
theorem kX3_saves_40 : Cond.fieldLink RX3 40 "CosetCoderModel" "saved" "I" ∈ wsX3_saves := by decide +kernel
theorem kX3_saves_7 : Cond.fieldLink RX3 7 "CosetCoderModel" "now" "[I" ∈ wsX3_saves := by decide +kernel
set_option maxRecDepth 20000 in
set_option maxHeartbeats 2000000 in
theorem WX3_saves_49 {p : Program} {l : Launch} {e : Env} {s : State} {m : MethodId} {args : Array Value} {below : List Frame} {meth : Method} {c : Code} {K : KK} {A : Nat → Prop} {a : Nat → Nat} (C : Cx p s m args meth c K A cX3_saves 2 RX3 wsX3_saves none) {z : (Nat → Int32) × Int32} {now : Nat → Int32} {err : Nat → Int32} {lef : Nat → Int32} {msg : Nat → Int32} {met : Nat → Int32} {par : Nat → Int32} {hash : Int64} {r49 : (Nat → Int32) → (Int32) → Int32 → Option ((Nat → Int32) × Int32)} {past : Nat → Int32} {sv : Int32} {x1 : Int32} (hr49 : ∀ (past : Nat → Int32) (sv : Int32) (x1 : Int32), r49 past sv x1 = some z → Go p l e (RM 0) s m args below meth c K A 2 0 0 (MQ below (QR K none (mW K a now z.1 err lef msg met par z.2 hash) A) args s 0 0 A) (mW K a now past err lef msg met par sv hash) 49 [(0, .ref (a 0)), (1, .int x1)] []) (hf : FX3_saves_49 now r49 past sv x1 = some z) : Go p l e (RM 0) s m args below meth c K A 2 0 0 (MQ below (QR K none (mW K a now z.1 err lef msg met par z.2 hash) A) args s 0 0 A) (mW K a now past err lef msg met par sv hash) 49 [(0, .ref (a 0)), (1, .int x1)] [] := by
  unfold FX3_saves_49 at hf
  refine go_iload_n C 1 dX3_saves_49 rfl rfl ?_
  refine go_bipush (v := 14) C dX3_saves_50 (by decide) ?_
  refine go_c2_ge C (tgt := 81) dX3_saves_52 (by decide) hf (fun h hf => ?_) (fun h hf => ?_)
  · refine go_aload_n C 0 dX3_saves_81 rfl rfl ?_
    refine go_dup C dX3_saves_82 rfl ?_
    refine gM_get_saved C iX3_saves_3 kX3_saves_40 dX3_saves_83 ?_
    refine go_iconst (v := 1) C dX3_saves_86 (by decide) ?_
    refine go_iadd C dX3_saves_87 ?_
    refine gM_put_saved C iX3_saves_3 kX3_saves_40 dX3_saves_88 ?_
    cases hf
    exact go_vret C dX3_saves_91
  · refine go_aload_n C 0 dX3_saves_55 rfl rfl ?_
    refine gM_get_past C iX3_saves_3 kX3_saves_13 dX3_saves_56 ?_
    refine go_bipush (v := 14) C dX3_saves_59 (by decide) ?_
    refine go_aload_n C 0 dX3_saves_61 rfl rfl ?_
    refine gM_get_saved C iX3_saves_3 kX3_saves_40 dX3_saves_62 ?_
    refine go_imul C dX3_saves_65 ?_
    refine go_iload_n C 1 dX3_saves_66 rfl rfl ?_
    refine go_iadd C dX3_saves_67 ?_
    refine go_aload_n C 0 dX3_saves_68 rfl rfl ?_
    refine gM_get_now C iX3_saves_3 kX3_saves_7 dX3_saves_69 ?_
    refine go_iload_n C 1 dX3_saves_72 rfl rfl ?_
    refine gM_rd_now C dX3_saves_73 hf (fun v1 hf => ?_)
    refine gM_wr_past C dX3_saves_74 hf (fun g2 hf => ?_)
    refine go_iinc C (v := x1 + 1) (lv' := [(0, .ref (a 0)), (1, .int (x1 + 1))]) 1 [1, 0] dX3_saves_75 rfl rfl (by decide) rfl ?_
    refine go_goto C (tgt := 49) dX3_saves_78 (by decide) ?_
    exact hr49 _ _ _ hf
theorem wX3_saves_49 {p : Program} {l : Launch} {e : Env} {s : State} {m : MethodId} {args : Array Value} {below : List Frame} {meth : Method} {c : Code} {K : KK} {A : Nat → Prop} {a : Nat → Nat} (C : Cx p s m args meth c K A cX3_saves 2 RX3 wsX3_saves none) {z : (Nat → Int32) × Int32} {now : Nat → Int32} {err : Nat → Int32} {lef : Nat → Int32} {msg : Nat → Int32} {met : Nat → Int32} {par : Nat → Int32} {hash : Int64} : ∀ (n : Nat) (past : Nat → Int32) (sv : Int32) (x1 : Int32), fX3_saves_49 now  n past sv x1 = some z → Go p l e (RM 0) s m args below meth c K A 2 0 0 (MQ below (QR K none (mW K a now z.1 err lef msg met par z.2 hash) A) args s 0 0 A) (mW K a now past err lef msg met par sv hash) 49 [(0, .ref (a 0)), (1, .int x1)] [] := by
  intro n
  induction n with
  | zero => intro _ _ _ hf; cases hf
  | succ n ih => intro _ _ _ hf; exact WX3_saves_49 C  ih hf
set_option maxRecDepth 20000 in
set_option maxHeartbeats 2000000 in
theorem WX3_saves_47 {p : Program} {l : Launch} {e : Env} {s : State} {m : MethodId} {args : Array Value} {below : List Frame} {meth : Method} {c : Code} {K : KK} {A : Nat → Prop} {a : Nat → Nat} (C : Cx p s m args meth c K A cX3_saves 2 RX3 wsX3_saves none) {z : (Nat → Int32) × Int32} {now : Nat → Int32} {err : Nat → Int32} {lef : Nat → Int32} {msg : Nat → Int32} {met : Nat → Int32} {par : Nat → Int32} {hash : Int64} {past : Nat → Int32} {sv : Int32} (hf : FX3_saves_47 now  past sv = some z) : Go p l e (RM 0) s m args below meth c K A 2 0 0 (MQ below (QR K none (mW K a now z.1 err lef msg met par z.2 hash) A) args s 0 0 A) (mW K a now past err lef msg met par sv hash) 47 [(0, .ref (a 0))] [] := by
  unfold FX3_saves_47 at hf
  refine go_iconst (v := 0) C dX3_saves_47 (by decide) ?_
  refine go_istore_n C (lv' := [(0, .ref (a 0)), (1, .int 0)]) [1, 0] dX3_saves_48 rfl (by decide) rfl ?_
  exact wX3_saves_49 C  300 _ _ _ hf
set_option maxRecDepth 20000 in
set_option maxHeartbeats 2000000 in
theorem WX3_saves_10 {p : Program} {l : Launch} {e : Env} {s : State} {m : MethodId} {args : Array Value} {below : List Frame} {meth : Method} {c : Code} {K : KK} {A : Nat → Prop} {a : Nat → Nat} (C : Cx p s m args meth c K A cX3_saves 2 RX3 wsX3_saves none) {z : (Nat → Int32) × Int32} {now : Nat → Int32} {err : Nat → Int32} {lef : Nat → Int32} {msg : Nat → Int32} {met : Nat → Int32} {par : Nat → Int32} {hash : Int64} {r10 : (Nat → Int32) → (Int32) → Int32 → Option ((Nat → Int32) × Int32)} {past : Nat → Int32} {sv : Int32} {x1 : Int32} (hr10 : ∀ (past : Nat → Int32) (sv : Int32) (x1 : Int32), r10 past sv x1 = some z → Go p l e (RM 0) s m args below meth c K A 2 0 0 (MQ below (QR K none (mW K a now z.1 err lef msg met par z.2 hash) A) args s 0 0 A) (mW K a now past err lef msg met par sv hash) 10 [(0, .ref (a 0)), (1, .int x1)] []) (hf : FX3_saves_10 now r10 past sv x1 = some z) : Go p l e (RM 0) s m args below meth c K A 2 0 0 (MQ below (QR K none (mW K a now z.1 err lef msg met par z.2 hash) A) args s 0 0 A) (mW K a now past err lef msg met par sv hash) 10 [(0, .ref (a 0)), (1, .int x1)] [] := by
  unfold FX3_saves_10 at hf
  refine go_iload_n C 1 dX3_saves_10 rfl rfl ?_
  refine go_bipush (v := 42) C dX3_saves_11 (by decide) ?_
  refine go_c2_ge C (tgt := 37) dX3_saves_13 (by decide) hf (fun h hf => ?_) (fun h hf => ?_)
  · refine go_aload_n C 0 dX3_saves_37 rfl rfl ?_
    refine go_dup C dX3_saves_38 rfl ?_
    refine gM_get_saved C iX3_saves_3 kX3_saves_40 dX3_saves_39 ?_
    refine go_iconst (v := 1) C dX3_saves_42 (by decide) ?_
    refine go_isub C dX3_saves_43 ?_
    refine gM_put_saved C iX3_saves_3 kX3_saves_40 dX3_saves_44 ?_
    refine go_lv (lv' := [(0, .ref (a 0))]) [0] rfl ?_
    exact WX3_saves_47 C  hf
  · refine go_aload_n C 0 dX3_saves_16 rfl rfl ?_
    refine gM_get_past C iX3_saves_3 kX3_saves_13 dX3_saves_17 ?_
    refine go_iload_n C 1 dX3_saves_20 rfl rfl ?_
    refine go_aload_n C 0 dX3_saves_21 rfl rfl ?_
    refine gM_get_past C iX3_saves_3 kX3_saves_13 dX3_saves_22 ?_
    refine go_iload_n C 1 dX3_saves_25 rfl rfl ?_
    refine go_bipush (v := 14) C dX3_saves_26 (by decide) ?_
    refine go_iadd C dX3_saves_28 ?_
    refine gM_rd_past C dX3_saves_29 hf (fun v3 hf => ?_)
    refine gM_wr_past C dX3_saves_30 hf (fun g4 hf => ?_)
    refine go_iinc C (v := x1 + 1) (lv' := [(0, .ref (a 0)), (1, .int (x1 + 1))]) 1 [1, 0] dX3_saves_31 rfl rfl (by decide) rfl ?_
    refine go_goto C (tgt := 10) dX3_saves_34 (by decide) ?_
    exact hr10 _ _ _ hf
theorem wX3_saves_10 {p : Program} {l : Launch} {e : Env} {s : State} {m : MethodId} {args : Array Value} {below : List Frame} {meth : Method} {c : Code} {K : KK} {A : Nat → Prop} {a : Nat → Nat} (C : Cx p s m args meth c K A cX3_saves 2 RX3 wsX3_saves none) {z : (Nat → Int32) × Int32} {now : Nat → Int32} {err : Nat → Int32} {lef : Nat → Int32} {msg : Nat → Int32} {met : Nat → Int32} {par : Nat → Int32} {hash : Int64} : ∀ (n : Nat) (past : Nat → Int32) (sv : Int32) (x1 : Int32), fX3_saves_10 now  n past sv x1 = some z → Go p l e (RM 0) s m args below meth c K A 2 0 0 (MQ below (QR K none (mW K a now z.1 err lef msg met par z.2 hash) A) args s 0 0 A) (mW K a now past err lef msg met par sv hash) 10 [(0, .ref (a 0)), (1, .int x1)] [] := by
  intro n
  induction n with
  | zero => intro _ _ _ hf; cases hf
  | succ n ih => intro _ _ _ hf; exact WX3_saves_10 C  ih hf
set_option maxRecDepth 20000 in
set_option maxHeartbeats 2000000 in
theorem WX3_saves_0 {p : Program} {l : Launch} {e : Env} {s : State} {m : MethodId} {args : Array Value} {below : List Frame} {meth : Method} {c : Code} {K : KK} {A : Nat → Prop} {a : Nat → Nat} (C : Cx p s m args meth c K A cX3_saves 2 RX3 wsX3_saves none) {z : (Nat → Int32) × Int32} {now : Nat → Int32} {err : Nat → Int32} {lef : Nat → Int32} {msg : Nat → Int32} {met : Nat → Int32} {par : Nat → Int32} {hash : Int64} {past : Nat → Int32} {sv : Int32} (hf : FX3_saves_0 now  past sv = some z) : Go p l e (RM 0) s m args below meth c K A 2 0 0 (MQ below (QR K none (mW K a now z.1 err lef msg met par z.2 hash) A) args s 0 0 A) (mW K a now past err lef msg met par sv hash) 0 [(0, .ref (a 0))] [] := by
  unfold FX3_saves_0 at hf
  refine go_aload_n C 0 dX3_saves_0 rfl rfl ?_
  refine gM_get_saved C iX3_saves_3 kX3_saves_40 dX3_saves_1 ?_
  refine go_iconst (v := 4) C dX3_saves_4 (by decide) ?_
  refine go_c2_ne C (tgt := 47) dX3_saves_5 (by decide) hf (fun h hf => ?_) (fun h hf => ?_)
  · exact WX3_saves_47 C  hf
  · refine go_iconst (v := 0) C dX3_saves_8 (by decide) ?_
    refine go_istore_n C (lv' := [(0, .ref (a 0)), (1, .int 0)]) [1, 0] dX3_saves_9 rfl (by decide) rfl ?_
    exact wX3_saves_10 C  300 _ _ _ hf
set_option maxRecDepth 20000 in
theorem con_X3_saves (l : Launch) (K : KK) (a : Nat → Nat) {now : Nat → Int32} {past : Nat → Int32} {err : Nat → Int32} {lef : Nat → Int32} {msg : Nat → Int32} {met : Nat → Int32} {par : Nat → Int32} {sv : Int32} {hash : Int64} {z : (Nat → Int32) × Int32} (hf : fX3_saves now past sv = some z) : Con l yX3_saves wsX3_saves 0 K [.ref (a 0)] (mW K a now past err lef msg met par sv hash) none (mW K a now z.1 err lef msg met par z.2 hash) :=
  con_of (cc := cX3_saves) (maxL := 2) (ret := none) (own := RX3) (lv0 := [(0, .ref (a 0))]) (by decide) rfl rfl (Nat.le_of_ble_eq_true rfl) rfl (fun p e s m args below meth c A C => go_lv (lv' := [(0, .ref (a 0))]) [0] rfl (WX3_saves_0 C hf))
set_option maxRecDepth 20000 in
theorem call_X3_saves {p : Program} {l : Launch} {e : Env} {s : State} {m : MethodId} {args : Array Value} {below : List Frame} {meth : Method} {c : Code} {K : KK} {A : Nat → Prop} {Q : State → Prop} {cc : ByteArray} {nL : Nat} {Ts : List Cond} {ret : Option FieldType} {pc : Nat} {lv : List (Nat × Value)} {st : List Value} {ix d : Nat} {α : Type} {kk : (Nat → Int32) × Int32 → Option α} {y : α} {a : Nat → Nat} {now : Nat → Int32} {past : Nat → Int32} {err : Nat → Int32} {lef : Nat → Int32} {msg : Nat → Int32} {met : Nat → Int32} {par : Nat → Int32} {sv : Int32} {hash : Int64} (C : Cx p s m args meth c K A cc nL RX3 Ts ret) (hG : GoodIn Ts (wsV RX3 ix RX3 yX3_saves wsX3_saves)) (hd : decode cc pc = .ok (.invokevirtual ix, 3)) (hdd : 0 < d) (hro : (st.map fun v => v.category).sum ≤ 8) (hf : (fX3_saves now past sv).bind kk = some y) (k : ∀ v, kk v = some y → Go p l e (RM d) s m args below meth c K A nL 0 0 Q (mW K a now v.1 err lef msg met par v.2 hash) (pc + 3) lv (st)) : Go p l e (RM d) s m args below meth c K A nL 0 0 Q (mW K a now past err lef msg met par sv hash) pc lv (.ref (a 0) :: st) := by
  obtain ⟨v, hv, hf⟩ := bd_some hf
  exact go_callV_full (ry := none) (n := 0) (b := a 0) (As := []) (rest := st) C (con_X3_saves l K a hv) hG (by decide) rfl ⟨Nat.succ_le_of_lt hdd, by show 8 + (2 + 11) + 40 * 0 ≤ 40 * d; omega⟩ ⟨Nat.le_refl _, Nat.le_refl _⟩ ⟨0, 3, _, _, rfl, rfl, rfl⟩ rfl rfl hro hd (k v hf)
-- X3_undo
theorem iX3_undo_3 : ∀ w ∈ wsX30, w ∈ wsX3_undo := by decide +kernel
theorem kX3_undo_13 : Cond.fieldLink RX3 13 "CosetCoderModel" "past" "[I" ∈ wsX3_undo := by decide +kernel
theorem kX3_undo_40 : Cond.fieldLink RX3 40 "CosetCoderModel" "saved" "I" ∈ wsX3_undo := by decide +kernel
theorem kX3_undo_7 : Cond.fieldLink RX3 7 "CosetCoderModel" "now" "[I" ∈ wsX3_undo := by decide +kernel
set_option maxRecDepth 20000 in
set_option maxHeartbeats 2000000 in
theorem WX3_undo_26 {p : Program} {l : Launch} {e : Env} {s : State} {m : MethodId} {args : Array Value} {below : List Frame} {meth : Method} {c : Code} {K : KK} {A : Nat → Prop} {a : Nat → Nat} (C : Cx p s m args meth c K A cX3_undo 2 RX3 wsX3_undo (some .int)) {z : Int32 × (Nat → Int32) × (Nat → Int32) × Int32} {past : Nat → Int32} {lef : Nat → Int32} {msg : Nat → Int32} {met : Nat → Int32} {par : Nat → Int32} {hash : Int64} {r26 : (Nat → Int32) → (Nat → Int32) → (Int32) → Int32 → Option (Int32 × (Nat → Int32) × (Nat → Int32) × Int32)} {now : Nat → Int32} {err : Nat → Int32} {sv : Int32} {x1 : Int32} (hr26 : ∀ (now : Nat → Int32) (err : Nat → Int32) (sv : Int32) (x1 : Int32), r26 now err sv x1 = some z → Go p l e (RM 1) s m args below meth c K A 2 0 0 (MQ below (QR K (some (.int z.1)) (mW K a z.2.1 past z.2.2.1 lef msg met par z.2.2.2 hash) A) args s 0 0 A) (mW K a now past err lef msg met par sv hash) 26 [(0, .ref (a 0)), (1, .int x1)] []) (hf : FX3_undo_26 past r26 now err sv x1 = some z) : Go p l e (RM 1) s m args below meth c K A 2 0 0 (MQ below (QR K (some (.int z.1)) (mW K a z.2.1 past z.2.2.1 lef msg met par z.2.2.2 hash) A) args s 0 0 A) (mW K a now past err lef msg met par sv hash) 26 [(0, .ref (a 0)), (1, .int x1)] [] := by
  unfold FX3_undo_26 at hf
  refine go_iload_n C 1 dX3_undo_26 rfl rfl ?_
  refine go_bipush (v := 14) C dX3_undo_27 (by decide) ?_
  refine go_c2_ge C (tgt := 58) dX3_undo_29 (by decide) hf (fun h hf => ?_) (fun h hf => ?_)
  · refine go_aload_n C 0 dX3_undo_58 rfl rfl ?_
    refine gM_get_saved C iX3_undo_3 kX3_undo_40 dX3_undo_59 ?_
    cases hf
    exact go_iret C dX3_undo_62
  · refine go_aload_n C 0 dX3_undo_32 rfl rfl ?_
    refine gM_get_now C iX3_undo_3 kX3_undo_7 dX3_undo_33 ?_
    refine go_iload_n C 1 dX3_undo_36 rfl rfl ?_
    refine go_aload_n C 0 dX3_undo_37 rfl rfl ?_
    refine gM_get_past C iX3_undo_3 kX3_undo_13 dX3_undo_38 ?_
    refine go_bipush (v := 14) C dX3_undo_41 (by decide) ?_
    refine go_aload_n C 0 dX3_undo_43 rfl rfl ?_
    refine gM_get_saved C iX3_undo_3 kX3_undo_40 dX3_undo_44 ?_
    refine go_imul C dX3_undo_47 ?_
    refine go_iload_n C 1 dX3_undo_48 rfl rfl ?_
    refine go_iadd C dX3_undo_49 ?_
    refine gM_rd_past C dX3_undo_50 hf (fun v1 hf => ?_)
    refine gM_wr_now C dX3_undo_51 hf (fun g2 hf => ?_)
    refine go_iinc C (v := x1 + 1) (lv' := [(0, .ref (a 0)), (1, .int (x1 + 1))]) 1 [1, 0] dX3_undo_52 rfl rfl (by decide) rfl ?_
    refine go_goto C (tgt := 26) dX3_undo_55 (by decide) ?_
    exact hr26 _ _ _ _ hf
theorem wX3_undo_26 {p : Program} {l : Launch} {e : Env} {s : State} {m : MethodId} {args : Array Value} {below : List Frame} {meth : Method} {c : Code} {K : KK} {A : Nat → Prop} {a : Nat → Nat} (C : Cx p s m args meth c K A cX3_undo 2 RX3 wsX3_undo (some .int)) {z : Int32 × (Nat → Int32) × (Nat → Int32) × Int32} {past : Nat → Int32} {lef : Nat → Int32} {msg : Nat → Int32} {met : Nat → Int32} {par : Nat → Int32} {hash : Int64} : ∀ (n : Nat) (now : Nat → Int32) (err : Nat → Int32) (sv : Int32) (x1 : Int32), fX3_undo_26 past  n now err sv x1 = some z → Go p l e (RM 1) s m args below meth c K A 2 0 0 (MQ below (QR K (some (.int z.1)) (mW K a z.2.1 past z.2.2.1 lef msg met par z.2.2.2 hash) A) args s 0 0 A) (mW K a now past err lef msg met par sv hash) 26 [(0, .ref (a 0)), (1, .int x1)] [] := by
  intro n
  induction n with
  | zero => intro _ _ _ _ hf; cases hf
  | succ n ih => intro _ _ _ _ hf; exact WX3_undo_26 C  ih hf
set_option maxRecDepth 20000 in
set_option maxHeartbeats 2000000 in
theorem WX3_undo_0 {p : Program} {l : Launch} {e : Env} {s : State} {m : MethodId} {args : Array Value} {below : List Frame} {meth : Method} {c : Code} {K : KK} {A : Nat → Prop} {a : Nat → Nat} (C : Cx p s m args meth c K A cX3_undo 2 RX3 wsX3_undo (some .int)) {z : Int32 × (Nat → Int32) × (Nat → Int32) × Int32} {past : Nat → Int32} {lef : Nat → Int32} {msg : Nat → Int32} {met : Nat → Int32} {par : Nat → Int32} {hash : Int64} {now : Nat → Int32} {err : Nat → Int32} {sv : Int32} (hf : FX3_undo_0 past  now err sv = some z) : Go p l e (RM 1) s m args below meth c K A 2 0 0 (MQ below (QR K (some (.int z.1)) (mW K a z.2.1 past z.2.2.1 lef msg met par z.2.2.2 hash) A) args s 0 0 A) (mW K a now past err lef msg met par sv hash) 0 [(0, .ref (a 0))] [] := by
  unfold FX3_undo_0 at hf
  refine go_aload_n C 0 dX3_undo_0 rfl rfl ?_
  refine gM_get_saved C iX3_undo_3 kX3_undo_40 dX3_undo_1 ?_
  refine go_c1_ne C (tgt := 14) dX3_undo_4 (by decide) hf (fun h hf => ?_) (fun h hf => ?_)
  · refine go_aload_n C 0 dX3_undo_14 rfl rfl ?_
    refine go_dup C dX3_undo_15 rfl ?_
    refine gM_get_saved C iX3_undo_3 kX3_undo_40 dX3_undo_16 ?_
    refine go_iconst (v := 1) C dX3_undo_19 (by decide) ?_
    refine go_isub C dX3_undo_20 ?_
    refine gM_put_saved C iX3_undo_3 kX3_undo_40 dX3_undo_21 ?_
    refine go_iconst (v := 0) C dX3_undo_24 (by decide) ?_
    refine go_istore_n C (lv' := [(0, .ref (a 0)), (1, .int 0)]) [1, 0] dX3_undo_25 rfl (by decide) rfl ?_
    exact wX3_undo_26 C  300 _ _ _ _ hf
  · refine go_aload_n C 0 dX3_undo_7 rfl rfl ?_
    refine go_bipush (v := (-6)) C dX3_undo_8 (by decide) ?_
    refine call_X3_fails C gX3_undo_X3_fails dX3_undo_10 (by decide) (Nat.le_of_ble_eq_true rfl) hf (fun v3 hf => ?_)
    cases hf
    exact go_iret C dX3_undo_13
set_option maxRecDepth 20000 in
theorem con_X3_undo (l : Launch) (K : KK) (a : Nat → Nat) {now : Nat → Int32} {past : Nat → Int32} {err : Nat → Int32} {lef : Nat → Int32} {msg : Nat → Int32} {met : Nat → Int32} {par : Nat → Int32} {sv : Int32} {hash : Int64} {z : Int32 × (Nat → Int32) × (Nat → Int32) × Int32} (hf : fX3_undo now past err sv = some z) : Con l yX3_undo wsX3_undo 1 K [.ref (a 0)] (mW K a now past err lef msg met par sv hash) (some (.int z.1)) (mW K a z.2.1 past z.2.2.1 lef msg met par z.2.2.2 hash) :=
  con_of (cc := cX3_undo) (maxL := 2) (ret := (some .int)) (own := RX3) (lv0 := [(0, .ref (a 0))]) (by decide) rfl rfl (Nat.le_of_ble_eq_true rfl) rfl (fun p e s m args below meth c A C => go_lv (lv' := [(0, .ref (a 0))]) [0] rfl (WX3_undo_0 C hf))
set_option maxRecDepth 20000 in
theorem call_X3_undo {p : Program} {l : Launch} {e : Env} {s : State} {m : MethodId} {args : Array Value} {below : List Frame} {meth : Method} {c : Code} {K : KK} {A : Nat → Prop} {Q : State → Prop} {cc : ByteArray} {nL : Nat} {Ts : List Cond} {ret : Option FieldType} {pc : Nat} {lv : List (Nat × Value)} {st : List Value} {ix d : Nat} {α : Type} {kk : Int32 × (Nat → Int32) × (Nat → Int32) × Int32 → Option α} {y : α} {a : Nat → Nat} {now : Nat → Int32} {past : Nat → Int32} {err : Nat → Int32} {lef : Nat → Int32} {msg : Nat → Int32} {met : Nat → Int32} {par : Nat → Int32} {sv : Int32} {hash : Int64} (C : Cx p s m args meth c K A cc nL RX3 Ts ret) (hG : GoodIn Ts (wsV RX3 ix RX3 yX3_undo wsX3_undo)) (hd : decode cc pc = .ok (.invokevirtual ix, 3)) (hdd : 1 < d) (hro : (st.map fun v => v.category).sum ≤ 8) (hf : (fX3_undo now past err sv).bind kk = some y) (k : ∀ v, kk v = some y → Go p l e (RM d) s m args below meth c K A nL 0 0 Q (mW K a v.2.1 past v.2.2.1 lef msg met par v.2.2.2 hash) (pc + 3) lv (.int (v.1) :: st)) : Go p l e (RM d) s m args below meth c K A nL 0 0 Q (mW K a now past err lef msg met par sv hash) pc lv (.ref (a 0) :: st) := by
  obtain ⟨v, hv, hf⟩ := bd_some hf
  exact go_callV_full (ry := (some .int)) (n := 0) (b := a 0) (As := []) (rest := st) C (con_X3_undo l K a hv) hG (by decide) rfl ⟨Nat.succ_le_of_lt hdd, by show 8 + (2 + 11) + 40 * 1 ≤ 40 * d; omega⟩ ⟨Nat.le_refl _, Nat.le_refl _⟩ ⟨0, 3, _, _, rfl, rfl, rfl⟩ rfl rfl hro hd (k v hf)
-- X3_setLength
theorem iX3_setLength_3 : ∀ w ∈ wsX30, w ∈ wsX3_setLength := by decide +kernel
theorem kX3_setLength_7 : Cond.fieldLink RX3 7 "CosetCoderModel" "now" "[I" ∈ wsX3_setLength := by decide +kernel
set_option maxRecDepth 20000 in
set_option maxHeartbeats 2000000 in
theorem WX3_setLength_0 {p : Program} {l : Launch} {e : Env} {s : State} {m : MethodId} {args : Array Value} {below : List Frame} {meth : Method} {c : Code} {K : KK} {A : Nat → Prop} {a : Nat → Nat} (C : Cx p s m args meth c K A cX3_setLength 3 RX3 wsX3_setLength (some .int)) {z : Int32 × (Nat → Int32) × (Nat → Int32) × (Nat → Int32) × Int32} {lef : Nat → Int32} {msg : Nat → Int32} {met : Nat → Int32} {par : Nat → Int32} {hash : Int64} {now : Nat → Int32} {past : Nat → Int32} {err : Nat → Int32} {sv : Int32} {x1 : Int32} (hf : FX3_setLength_0   now past err sv x1 = some z) : Go p l e (RM 1) s m args below meth c K A 3 0 0 (MQ below (QR K (some (.int z.1)) (mW K a z.2.1 z.2.2.1 z.2.2.2.1 lef msg met par z.2.2.2.2 hash) A) args s 0 0 A) (mW K a now past err lef msg met par sv hash) 0 [(0, .ref (a 0)), (1, .int x1)] [] := by
  unfold FX3_setLength_0 at hf
  refine go_iload_n C 1 dX3_setLength_0 rfl rfl ?_
  refine go_iconst (v := 1) C dX3_setLength_1 (by decide) ?_
  refine go_bipush (v := 8) C dX3_setLength_2 (by decide) ?_
  refine call_X3_within C gX3_setLength_X3_within dX3_setLength_4 (by decide) (Nat.le_of_ble_eq_true rfl) hf (fun v1 hf => ?_)
  refine go_c1_ne C (tgt := 17) dX3_setLength_7 (by decide) hf (fun h hf => ?_) (fun h hf => ?_)
  · refine go_aload_n C 0 dX3_setLength_17 rfl rfl ?_
    refine call_X3_saves C gX3_setLength_X3_saves dX3_setLength_18 (by decide) (Nat.le_of_ble_eq_true rfl) hf (fun v2 hf => ?_)
    refine go_aload_n C 0 dX3_setLength_21 rfl rfl ?_
    refine gM_get_now C iX3_setLength_3 kX3_setLength_7 dX3_setLength_22 ?_
    refine go_iconst (v := 0) C dX3_setLength_25 (by decide) ?_
    refine gM_rd_now C dX3_setLength_26 hf (fun v3 hf => ?_)
    refine go_istore_n C (lv' := [(0, .ref (a 0)), (1, .int x1), (2, .int v3)]) [1, 2, 0] dX3_setLength_27 rfl (by decide) rfl ?_
    refine go_aload_n C 0 dX3_setLength_28 rfl rfl ?_
    refine gM_get_now C iX3_setLength_3 kX3_setLength_7 dX3_setLength_29 ?_
    refine go_iconst (v := 0) C dX3_setLength_32 (by decide) ?_
    refine go_iload_n C 1 dX3_setLength_33 rfl rfl ?_
    refine gM_wr_now C dX3_setLength_34 hf (fun g4 hf => ?_)
    refine go_aload_n C 0 dX3_setLength_35 rfl rfl ?_
    refine gM_get_now C iX3_setLength_3 kX3_setLength_7 dX3_setLength_36 ?_
    refine go_iconst (v := 1) C dX3_setLength_39 (by decide) ?_
    refine go_iconst (v := 0) C dX3_setLength_40 (by decide) ?_
    refine gM_wr_now C dX3_setLength_41 hf (fun g5 hf => ?_)
    refine go_iload_n C 2 dX3_setLength_42 rfl rfl ?_
    cases hf
    exact go_iret C dX3_setLength_43
  · refine go_aload_n C 0 dX3_setLength_10 rfl rfl ?_
    refine go_bipush (v := (-2)) C dX3_setLength_11 (by decide) ?_
    refine call_X3_fails C gX3_setLength_X3_fails dX3_setLength_13 (by decide) (Nat.le_of_ble_eq_true rfl) hf (fun v6 hf => ?_)
    cases hf
    exact go_iret C dX3_setLength_16
set_option maxRecDepth 20000 in
theorem con_X3_setLength (l : Launch) (K : KK) (a : Nat → Nat) {now : Nat → Int32} {past : Nat → Int32} {err : Nat → Int32} {lef : Nat → Int32} {msg : Nat → Int32} {met : Nat → Int32} {par : Nat → Int32} {sv : Int32} {hash : Int64} {x1 : Int32} {z : Int32 × (Nat → Int32) × (Nat → Int32) × (Nat → Int32) × Int32} (hf : fX3_setLength now past err sv x1 = some z) : Con l yX3_setLength wsX3_setLength 1 K [.ref (a 0), .int x1] (mW K a now past err lef msg met par sv hash) (some (.int z.1)) (mW K a z.2.1 z.2.2.1 z.2.2.2.1 lef msg met par z.2.2.2.2 hash) :=
  con_of (cc := cX3_setLength) (maxL := 3) (ret := (some .int)) (own := RX3) (lv0 := [(0, .ref (a 0)), (1, .int x1)]) (by decide) rfl rfl (Nat.le_of_ble_eq_true rfl) rfl (fun p e s m args below meth c A C => go_lv (lv' := [(0, .ref (a 0)), (1, .int x1)]) [0, 1] rfl (WX3_setLength_0 C hf))
set_option maxRecDepth 20000 in
theorem call_X3_setLength {p : Program} {l : Launch} {e : Env} {s : State} {m : MethodId} {args : Array Value} {below : List Frame} {meth : Method} {c : Code} {K : KK} {A : Nat → Prop} {Q : State → Prop} {cc : ByteArray} {nL : Nat} {Ts : List Cond} {ret : Option FieldType} {pc : Nat} {lv : List (Nat × Value)} {st : List Value} {ix d : Nat} {α : Type} {kk : Int32 × (Nat → Int32) × (Nat → Int32) × (Nat → Int32) × Int32 → Option α} {y : α} {a : Nat → Nat} {now : Nat → Int32} {past : Nat → Int32} {err : Nat → Int32} {lef : Nat → Int32} {msg : Nat → Int32} {met : Nat → Int32} {par : Nat → Int32} {sv : Int32} {hash : Int64} {q0 : Int32} (C : Cx p s m args meth c K A cc nL RX3 Ts ret) (hG : GoodIn Ts (wsV RX3 ix RX3 yX3_setLength wsX3_setLength)) (hd : decode cc pc = .ok (.invokevirtual ix, 3)) (hdd : 1 < d) (hro : (st.map fun v => v.category).sum ≤ 8) (hf : (fX3_setLength now past err sv q0).bind kk = some y) (k : ∀ v, kk v = some y → Go p l e (RM d) s m args below meth c K A nL 0 0 Q (mW K a v.2.1 v.2.2.1 v.2.2.2.1 lef msg met par v.2.2.2.2 hash) (pc + 3) lv (.int (v.1) :: st)) : Go p l e (RM d) s m args below meth c K A nL 0 0 Q (mW K a now past err lef msg met par sv hash) pc lv (.int q0 :: .ref (a 0) :: st) := by
  obtain ⟨v, hv, hf⟩ := bd_some hf
  exact go_callV_full (ry := (some .int)) (n := 1) (b := a 0) (As := [.int q0]) (rest := st) C (con_X3_setLength l K a hv) hG (by decide) rfl ⟨Nat.succ_le_of_lt hdd, by show 8 + (3 + 11) + 40 * 1 ≤ 40 * d; omega⟩ ⟨Nat.le_refl _, Nat.le_refl _⟩ ⟨0, 3, _, _, rfl, rfl, rfl⟩ rfl rfl hro hd (k v hf)
-- X3_addRow
theorem iX3_addRow_3 : ∀ w ∈ wsX30, w ∈ wsX3_addRow := by decide +kernel
theorem kX3_addRow_7 : Cond.fieldLink RX3 7 "CosetCoderModel" "now" "[I" ∈ wsX3_addRow := by decide +kernel
set_option maxRecDepth 20000 in
set_option maxHeartbeats 2000000 in
theorem WX3_addRow_21 {p : Program} {l : Launch} {e : Env} {s : State} {m : MethodId} {args : Array Value} {below : List Frame} {meth : Method} {c : Code} {K : KK} {A : Nat → Prop} {a : Nat → Nat} (C : Cx p s m args meth c K A cX3_addRow 3 RX3 wsX3_addRow (some .int)) {z : Int32 × (Nat → Int32) × (Nat → Int32) × (Nat → Int32) × Int32} {lef : Nat → Int32} {msg : Nat → Int32} {met : Nat → Int32} {par : Nat → Int32} {hash : Int64} {now : Nat → Int32} {past : Nat → Int32} {err : Nat → Int32} {sv : Int32} (hf : FX3_addRow_21   now past err sv = some z) : Go p l e (RM 2) s m args below meth c K A 3 0 0 (MQ below (QR K (some (.int z.1)) (mW K a z.2.1 z.2.2.1 z.2.2.2.1 lef msg met par z.2.2.2.2 hash) A) args s 0 0 A) (mW K a now past err lef msg met par sv hash) 21 [(0, .ref (a 0))] [] := by
  unfold FX3_addRow_21 at hf
  refine go_aload_n C 0 dX3_addRow_21 rfl rfl ?_
  refine go_bipush (v := (-2)) C dX3_addRow_22 (by decide) ?_
  refine call_X3_fails C gX3_addRow_X3_fails dX3_addRow_24 (by decide) (Nat.le_of_ble_eq_true rfl) hf (fun v1 hf => ?_)
  cases hf
  exact go_iret C dX3_addRow_27
set_option maxRecDepth 20000 in
set_option maxHeartbeats 2000000 in
theorem WX3_addRow_0 {p : Program} {l : Launch} {e : Env} {s : State} {m : MethodId} {args : Array Value} {below : List Frame} {meth : Method} {c : Code} {K : KK} {A : Nat → Prop} {a : Nat → Nat} (C : Cx p s m args meth c K A cX3_addRow 3 RX3 wsX3_addRow (some .int)) {z : Int32 × (Nat → Int32) × (Nat → Int32) × (Nat → Int32) × Int32} {lef : Nat → Int32} {msg : Nat → Int32} {met : Nat → Int32} {par : Nat → Int32} {hash : Int64} {now : Nat → Int32} {past : Nat → Int32} {err : Nat → Int32} {sv : Int32} {x1 : Int32} {x2 : Int32} (hf : FX3_addRow_0   now past err sv x1 x2 = some z) : Go p l e (RM 2) s m args below meth c K A 3 0 0 (MQ below (QR K (some (.int z.1)) (mW K a z.2.1 z.2.2.1 z.2.2.2.1 lef msg met par z.2.2.2.2 hash) A) args s 0 0 A) (mW K a now past err lef msg met par sv hash) 0 [(0, .ref (a 0)), (1, .int x1), (2, .int x2)] [] := by
  unfold FX3_addRow_0 at hf
  refine go_aload_n C 0 dX3_addRow_0 rfl rfl ?_
  refine go_iload_n C 1 dX3_addRow_1 rfl rfl ?_
  refine call_X3_isWord C gX3_addRow_X3_isWord dX3_addRow_2 (by decide) (Nat.le_of_ble_eq_true rfl) hf (fun v2 hf => ?_)
  refine go_c1_eq C (tgt := 21) dX3_addRow_5 (by decide) hf (fun h hf => ?_) (fun h hf => ?_)
  · refine go_lv (lv' := [(0, .ref (a 0))]) [0] rfl ?_
    exact WX3_addRow_21 C  hf
  · refine go_iload_n C 1 dX3_addRow_8 rfl rfl ?_
    refine go_c1_eq C (tgt := 21) dX3_addRow_9 (by decide) hf (fun h hf => ?_) (fun h hf => ?_)
    · refine go_lv (lv' := [(0, .ref (a 0))]) [0] rfl ?_
      exact WX3_addRow_21 C  hf
    · refine go_iload_n C 2 dX3_addRow_12 rfl rfl ?_
      refine go_iconst (v := 0) C dX3_addRow_13 (by decide) ?_
      refine go_iconst (v := 1) C dX3_addRow_14 (by decide) ?_
      refine call_X3_within C gX3_addRow_X3_within dX3_addRow_15 (by decide) (Nat.le_of_ble_eq_true rfl) hf (fun v3 hf => ?_)
      refine go_c1_ne C (tgt := 28) dX3_addRow_18 (by decide) hf (fun h hf => ?_) (fun h hf => ?_)
      · refine go_aload_n C 0 dX3_addRow_28 rfl rfl ?_
        refine gM_get_now C iX3_addRow_3 kX3_addRow_7 dX3_addRow_29 ?_
        refine go_iconst (v := 1) C dX3_addRow_32 (by decide) ?_
        refine gM_rd_now C dX3_addRow_33 hf (fun v4 hf => ?_)
        refine go_bipush (v := 6) C dX3_addRow_34 (by decide) ?_
        refine go_c2_ne C (tgt := 46) dX3_addRow_36 (by decide) hf (fun h hf => ?_) (fun h hf => ?_)
        · refine go_aload_n C 0 dX3_addRow_46 rfl rfl ?_
          refine call_X3_saves C gX3_addRow_X3_saves dX3_addRow_47 (by decide) (Nat.le_of_ble_eq_true rfl) hf (fun v5 hf => ?_)
          refine go_aload_n C 0 dX3_addRow_50 rfl rfl ?_
          refine gM_get_now C iX3_addRow_3 kX3_addRow_7 dX3_addRow_51 ?_
          refine go_iconst (v := 2) C dX3_addRow_54 (by decide) ?_
          refine go_aload_n C 0 dX3_addRow_55 rfl rfl ?_
          refine gM_get_now C iX3_addRow_3 kX3_addRow_7 dX3_addRow_56 ?_
          refine go_iconst (v := 1) C dX3_addRow_59 (by decide) ?_
          refine gM_rd_now C dX3_addRow_60 hf (fun v6 hf => ?_)
          refine go_iadd C dX3_addRow_61 ?_
          refine go_iload_n C 1 dX3_addRow_62 rfl rfl ?_
          refine gM_wr_now C dX3_addRow_63 hf (fun g7 hf => ?_)
          refine go_aload_n C 0 dX3_addRow_64 rfl rfl ?_
          refine gM_get_now C iX3_addRow_3 kX3_addRow_7 dX3_addRow_65 ?_
          refine go_bipush (v := 8) C dX3_addRow_68 (by decide) ?_
          refine go_aload_n C 0 dX3_addRow_70 rfl rfl ?_
          refine gM_get_now C iX3_addRow_3 kX3_addRow_7 dX3_addRow_71 ?_
          refine go_iconst (v := 1) C dX3_addRow_74 (by decide) ?_
          refine gM_rd_now C dX3_addRow_75 hf (fun v8 hf => ?_)
          refine go_iadd C dX3_addRow_76 ?_
          refine go_iload_n C 2 dX3_addRow_77 rfl rfl ?_
          refine gM_wr_now C dX3_addRow_78 hf (fun g9 hf => ?_)
          refine go_aload_n C 0 dX3_addRow_79 rfl rfl ?_
          refine gM_get_now C iX3_addRow_3 kX3_addRow_7 dX3_addRow_80 ?_
          refine go_iconst (v := 1) C dX3_addRow_83 (by decide) ?_
          refine go_dup2 C dX3_addRow_84 rfl rfl ?_
          refine gM_rd_now C dX3_addRow_85 hf (fun v10 hf => ?_)
          refine go_iconst (v := 1) C dX3_addRow_86 (by decide) ?_
          refine go_iadd C dX3_addRow_87 ?_
          refine gM_wr_now C dX3_addRow_88 hf (fun g11 hf => ?_)
          refine go_aload_n C 0 dX3_addRow_89 rfl rfl ?_
          refine gM_get_now C iX3_addRow_3 kX3_addRow_7 dX3_addRow_90 ?_
          refine go_iconst (v := 1) C dX3_addRow_93 (by decide) ?_
          refine gM_rd_now C dX3_addRow_94 hf (fun v12 hf => ?_)
          refine go_iconst (v := 1) C dX3_addRow_95 (by decide) ?_
          refine go_isub C dX3_addRow_96 ?_
          cases hf
          exact go_iret C dX3_addRow_97
        · refine go_aload_n C 0 dX3_addRow_39 rfl rfl ?_
          refine go_bipush (v := (-4)) C dX3_addRow_40 (by decide) ?_
          refine call_X3_fails C gX3_addRow_X3_fails dX3_addRow_42 (by decide) (Nat.le_of_ble_eq_true rfl) hf (fun v13 hf => ?_)
          cases hf
          exact go_iret C dX3_addRow_45
      · refine go_lv (lv' := [(0, .ref (a 0))]) [0] rfl ?_
        exact WX3_addRow_21 C  hf
set_option maxRecDepth 20000 in
theorem con_X3_addRow (l : Launch) (K : KK) (a : Nat → Nat) {now : Nat → Int32} {past : Nat → Int32} {err : Nat → Int32} {lef : Nat → Int32} {msg : Nat → Int32} {met : Nat → Int32} {par : Nat → Int32} {sv : Int32} {hash : Int64} {x1 : Int32} {x2 : Int32} {z : Int32 × (Nat → Int32) × (Nat → Int32) × (Nat → Int32) × Int32} (hf : fX3_addRow now past err sv x1 x2 = some z) : Con l yX3_addRow wsX3_addRow 2 K [.ref (a 0), .int x1, .int x2] (mW K a now past err lef msg met par sv hash) (some (.int z.1)) (mW K a z.2.1 z.2.2.1 z.2.2.2.1 lef msg met par z.2.2.2.2 hash) :=
  con_of (cc := cX3_addRow) (maxL := 3) (ret := (some .int)) (own := RX3) (lv0 := [(0, .ref (a 0)), (1, .int x1), (2, .int x2)]) (by decide) rfl rfl (Nat.le_of_ble_eq_true rfl) rfl (fun p e s m args below meth c A C => go_lv (lv' := [(0, .ref (a 0)), (1, .int x1), (2, .int x2)]) [0, 1, 2] rfl (WX3_addRow_0 C hf))
set_option maxRecDepth 20000 in
theorem call_X3_addRow {p : Program} {l : Launch} {e : Env} {s : State} {m : MethodId} {args : Array Value} {below : List Frame} {meth : Method} {c : Code} {K : KK} {A : Nat → Prop} {Q : State → Prop} {cc : ByteArray} {nL : Nat} {Ts : List Cond} {ret : Option FieldType} {pc : Nat} {lv : List (Nat × Value)} {st : List Value} {ix d : Nat} {α : Type} {kk : Int32 × (Nat → Int32) × (Nat → Int32) × (Nat → Int32) × Int32 → Option α} {y : α} {a : Nat → Nat} {now : Nat → Int32} {past : Nat → Int32} {err : Nat → Int32} {lef : Nat → Int32} {msg : Nat → Int32} {met : Nat → Int32} {par : Nat → Int32} {sv : Int32} {hash : Int64} {q0 : Int32} {q1 : Int32} (C : Cx p s m args meth c K A cc nL RX3 Ts ret) (hG : GoodIn Ts (wsV RX3 ix RX3 yX3_addRow wsX3_addRow)) (hd : decode cc pc = .ok (.invokevirtual ix, 3)) (hdd : 2 < d) (hro : (st.map fun v => v.category).sum ≤ 8) (hf : (fX3_addRow now past err sv q0 q1).bind kk = some y) (k : ∀ v, kk v = some y → Go p l e (RM d) s m args below meth c K A nL 0 0 Q (mW K a v.2.1 v.2.2.1 v.2.2.2.1 lef msg met par v.2.2.2.2 hash) (pc + 3) lv (.int (v.1) :: st)) : Go p l e (RM d) s m args below meth c K A nL 0 0 Q (mW K a now past err lef msg met par sv hash) pc lv (.int q1 :: .int q0 :: .ref (a 0) :: st) := by
  obtain ⟨v, hv, hf⟩ := bd_some hf
  exact go_callV_full (ry := (some .int)) (n := 2) (b := a 0) (As := [.int q0, .int q1]) (rest := st) C (con_X3_addRow l K a hv) hG (by decide) rfl ⟨Nat.succ_le_of_lt hdd, by show 8 + (3 + 11) + 40 * 2 ≤ 40 * d; omega⟩ ⟨Nat.le_refl _, Nat.le_refl _⟩ ⟨0, 3, _, _, rfl, rfl, rfl⟩ rfl rfl hro hd (k v hf)
-- X3_removes
theorem iX3_removes_3 : ∀ w ∈ wsX30, w ∈ wsX3_removes := by decide +kernel
theorem kX3_removes_7 : Cond.fieldLink RX3 7 "CosetCoderModel" "now" "[I" ∈ wsX3_removes := by decide +kernel
set_option maxRecDepth 20000 in
set_option maxHeartbeats 2000000 in
theorem WX3_removes_12 {p : Program} {l : Launch} {e : Env} {s : State} {m : MethodId} {args : Array Value} {below : List Frame} {meth : Method} {c : Code} {K : KK} {A : Nat → Prop} {a : Nat → Nat} (C : Cx p s m args meth c K A cX3_removes 3 RX3 wsX3_removes none) {z : (Nat → Int32)} {past : Nat → Int32} {err : Nat → Int32} {lef : Nat → Int32} {msg : Nat → Int32} {met : Nat → Int32} {par : Nat → Int32} {sv : Int32} {hash : Int64} {r12 : (Nat → Int32) → Int32 → Option ((Nat → Int32))} {now : Nat → Int32} {x2 : Int32} (hr12 : ∀ (now : Nat → Int32) (x2 : Int32), r12 now x2 = some z → Go p l e (RM 0) s m args below meth c K A 3 0 0 (MQ below (QR K none (mW K a z past err lef msg met par sv hash) A) args s 0 0 A) (mW K a now past err lef msg met par sv hash) 12 [(0, .ref (a 0)), (2, .int x2)] []) (hf : FX3_removes_12  r12 now x2 = some z) : Go p l e (RM 0) s m args below meth c K A 3 0 0 (MQ below (QR K none (mW K a z past err lef msg met par sv hash) A) args s 0 0 A) (mW K a now past err lef msg met par sv hash) 12 [(0, .ref (a 0)), (2, .int x2)] [] := by
  unfold FX3_removes_12 at hf
  refine go_iload_n C 1 dX3_removes_12 rfl rfl ?_
  refine go_aload_n C 0 dX3_removes_13 rfl rfl ?_
  refine gM_get_now C iX3_removes_3 kX3_removes_7 dX3_removes_14 ?_
  refine go_iconst (v := 1) C dX3_removes_17 (by decide) ?_
  refine gM_rd_now C dX3_removes_18 hf (fun v1 hf => ?_)
  refine go_c2_ge C (tgt := 66) dX3_removes_19 (by decide) hf (fun h hf => ?_) (fun h hf => ?_)
  · cases hf
    exact go_vret C dX3_removes_66
  · refine go_aload_n C 0 dX3_removes_22 rfl rfl ?_
    refine gM_get_now C iX3_removes_3 kX3_removes_7 dX3_removes_23 ?_
    refine go_iconst (v := 2) C dX3_removes_26 (by decide) ?_
    refine go_iload_n C 1 dX3_removes_27 rfl rfl ?_
    refine go_iadd C dX3_removes_28 ?_
    refine go_aload_n C 0 dX3_removes_29 rfl rfl ?_
    refine gM_get_now C iX3_removes_3 kX3_removes_7 dX3_removes_30 ?_
    refine go_iconst (v := 2) C dX3_removes_33 (by decide) ?_
    refine go_iload_n C 1 dX3_removes_34 rfl rfl ?_
    refine go_iadd C dX3_removes_35 ?_
    refine go_iconst (v := 1) C dX3_removes_36 (by decide) ?_
    refine go_iadd C dX3_removes_37 ?_
    refine gM_rd_now C dX3_removes_38 hf (fun v2 hf => ?_)
    refine gM_wr_now C dX3_removes_39 hf (fun g3 hf => ?_)
    refine go_aload_n C 0 dX3_removes_40 rfl rfl ?_
    refine gM_get_now C iX3_removes_3 kX3_removes_7 dX3_removes_41 ?_
    refine go_bipush (v := 8) C dX3_removes_44 (by decide) ?_
    refine go_iload_n C 1 dX3_removes_46 rfl rfl ?_
    refine go_iadd C dX3_removes_47 ?_
    refine go_aload_n C 0 dX3_removes_48 rfl rfl ?_
    refine gM_get_now C iX3_removes_3 kX3_removes_7 dX3_removes_49 ?_
    refine go_bipush (v := 8) C dX3_removes_52 (by decide) ?_
    refine go_iload_n C 1 dX3_removes_54 rfl rfl ?_
    refine go_iadd C dX3_removes_55 ?_
    refine go_iconst (v := 1) C dX3_removes_56 (by decide) ?_
    refine go_iadd C dX3_removes_57 ?_
    refine gM_rd_now C dX3_removes_58 hf (fun v4 hf => ?_)
    refine gM_wr_now C dX3_removes_59 hf (fun g5 hf => ?_)
    refine go_iinc C (v := x2 + 1) (lv' := [(0, .ref (a 0)), (2, .int (x2 + 1))]) 1 [1, 0] dX3_removes_60 rfl rfl (by decide) rfl ?_
    refine go_goto C (tgt := 12) dX3_removes_63 (by decide) ?_
    exact hr12 _ _ hf
theorem wX3_removes_12 {p : Program} {l : Launch} {e : Env} {s : State} {m : MethodId} {args : Array Value} {below : List Frame} {meth : Method} {c : Code} {K : KK} {A : Nat → Prop} {a : Nat → Nat} (C : Cx p s m args meth c K A cX3_removes 3 RX3 wsX3_removes none) {z : (Nat → Int32)} {past : Nat → Int32} {err : Nat → Int32} {lef : Nat → Int32} {msg : Nat → Int32} {met : Nat → Int32} {par : Nat → Int32} {sv : Int32} {hash : Int64} : ∀ (n : Nat) (now : Nat → Int32) (x2 : Int32), fX3_removes_12   n now x2 = some z → Go p l e (RM 0) s m args below meth c K A 3 0 0 (MQ below (QR K none (mW K a z past err lef msg met par sv hash) A) args s 0 0 A) (mW K a now past err lef msg met par sv hash) 12 [(0, .ref (a 0)), (2, .int x2)] [] := by
  intro n
  induction n with
  | zero => intro _ _ hf; cases hf
  | succ n ih => intro _ _ hf; exact WX3_removes_12 C  ih hf
set_option maxRecDepth 20000 in
set_option maxHeartbeats 2000000 in
theorem WX3_removes_0 {p : Program} {l : Launch} {e : Env} {s : State} {m : MethodId} {args : Array Value} {below : List Frame} {meth : Method} {c : Code} {K : KK} {A : Nat → Prop} {a : Nat → Nat} (C : Cx p s m args meth c K A cX3_removes 3 RX3 wsX3_removes none) {z : (Nat → Int32)} {past : Nat → Int32} {err : Nat → Int32} {lef : Nat → Int32} {msg : Nat → Int32} {met : Nat → Int32} {par : Nat → Int32} {sv : Int32} {hash : Int64} {now : Nat → Int32} {x1 : Int32} (hf : FX3_removes_0   now x1 = some z) : Go p l e (RM 0) s m args below meth c K A 3 0 0 (MQ below (QR K none (mW K a z past err lef msg met par sv hash) A) args s 0 0 A) (mW K a now past err lef msg met par sv hash) 0 [(0, .ref (a 0)), (1, .int x1)] [] := by
  unfold FX3_removes_0 at hf
  refine go_aload_n C 0 dX3_removes_0 rfl rfl ?_
  refine gM_get_now C iX3_removes_3 kX3_removes_7 dX3_removes_1 ?_
  refine go_iconst (v := 1) C dX3_removes_4 (by decide) ?_
  refine go_dup2 C dX3_removes_5 rfl rfl ?_
  refine gM_rd_now C dX3_removes_6 hf (fun v6 hf => ?_)
  refine go_iconst (v := 1) C dX3_removes_7 (by decide) ?_
  refine go_isub C dX3_removes_8 ?_
  refine gM_wr_now C dX3_removes_9 hf (fun g7 hf => ?_)
  refine go_iload_n C 1 dX3_removes_10 rfl rfl ?_
  refine go_istore_n C (lv' := [(0, .ref (a 0)), (1, .int x1), (2, .int x1)]) [1, 2, 0] dX3_removes_11 rfl (by decide) rfl ?_
  refine go_lv (lv' := [(0, .ref (a 0)), (2, .int x1)]) [0, 2] rfl ?_
  exact wX3_removes_12 C  300 _ _ hf
set_option maxRecDepth 20000 in
theorem con_X3_removes (l : Launch) (K : KK) (a : Nat → Nat) {now : Nat → Int32} {past : Nat → Int32} {err : Nat → Int32} {lef : Nat → Int32} {msg : Nat → Int32} {met : Nat → Int32} {par : Nat → Int32} {sv : Int32} {hash : Int64} {x1 : Int32} {z : (Nat → Int32)} (hf : fX3_removes now x1 = some z) : Con l yX3_removes wsX3_removes 0 K [.ref (a 0), .int x1] (mW K a now past err lef msg met par sv hash) none (mW K a z past err lef msg met par sv hash) :=
  con_of (cc := cX3_removes) (maxL := 3) (ret := none) (own := RX3) (lv0 := [(0, .ref (a 0)), (1, .int x1)]) (by decide) rfl rfl (Nat.le_of_ble_eq_true rfl) rfl (fun p e s m args below meth c A C => go_lv (lv' := [(0, .ref (a 0)), (1, .int x1)]) [0, 1] rfl (WX3_removes_0 C hf))
set_option maxRecDepth 20000 in
theorem call_X3_removes {p : Program} {l : Launch} {e : Env} {s : State} {m : MethodId} {args : Array Value} {below : List Frame} {meth : Method} {c : Code} {K : KK} {A : Nat → Prop} {Q : State → Prop} {cc : ByteArray} {nL : Nat} {Ts : List Cond} {ret : Option FieldType} {pc : Nat} {lv : List (Nat × Value)} {st : List Value} {ix d : Nat} {α : Type} {kk : (Nat → Int32) → Option α} {y : α} {a : Nat → Nat} {now : Nat → Int32} {past : Nat → Int32} {err : Nat → Int32} {lef : Nat → Int32} {msg : Nat → Int32} {met : Nat → Int32} {par : Nat → Int32} {sv : Int32} {hash : Int64} {q0 : Int32} (C : Cx p s m args meth c K A cc nL RX3 Ts ret) (hG : GoodIn Ts (wsV RX3 ix RX3 yX3_removes wsX3_removes)) (hd : decode cc pc = .ok (.invokevirtual ix, 3)) (hdd : 0 < d) (hro : (st.map fun v => v.category).sum ≤ 8) (hf : (fX3_removes now q0).bind kk = some y) (k : ∀ v, kk v = some y → Go p l e (RM d) s m args below meth c K A nL 0 0 Q (mW K a v past err lef msg met par sv hash) (pc + 3) lv (st)) : Go p l e (RM d) s m args below meth c K A nL 0 0 Q (mW K a now past err lef msg met par sv hash) pc lv (.int q0 :: .ref (a 0) :: st) := by
  obtain ⟨v, hv, hf⟩ := bd_some hf
  exact go_callV_full (ry := none) (n := 1) (b := a 0) (As := [.int q0]) (rest := st) C (con_X3_removes l K a hv) hG (by decide) rfl ⟨Nat.succ_le_of_lt hdd, by show 8 + (3 + 11) + 40 * 0 ≤ 40 * d; omega⟩ ⟨Nat.le_refl _, Nat.le_refl _⟩ ⟨0, 3, _, _, rfl, rfl, rfl⟩ rfl rfl hro hd (k v hf)
-- X3_removeRow
theorem iX3_removeRow_3 : ∀ w ∈ wsX30, w ∈ wsX3_removeRow := by decide +kernel
theorem kX3_removeRow_7 : Cond.fieldLink RX3 7 "CosetCoderModel" "now" "[I" ∈ wsX3_removeRow := by decide +kernel
set_option maxRecDepth 20000 in
set_option maxHeartbeats 2000000 in
theorem WX3_removeRow_0 {p : Program} {l : Launch} {e : Env} {s : State} {m : MethodId} {args : Array Value} {below : List Frame} {meth : Method} {c : Code} {K : KK} {A : Nat → Prop} {a : Nat → Nat} (C : Cx p s m args meth c K A cX3_removeRow 2 RX3 wsX3_removeRow (some .int)) {z : Int32 × (Nat → Int32) × (Nat → Int32) × (Nat → Int32) × Int32} {lef : Nat → Int32} {msg : Nat → Int32} {met : Nat → Int32} {par : Nat → Int32} {hash : Int64} {now : Nat → Int32} {past : Nat → Int32} {err : Nat → Int32} {sv : Int32} {x1 : Int32} (hf : FX3_removeRow_0   now past err sv x1 = some z) : Go p l e (RM 2) s m args below meth c K A 2 0 0 (MQ below (QR K (some (.int z.1)) (mW K a z.2.1 z.2.2.1 z.2.2.2.1 lef msg met par z.2.2.2.2 hash) A) args s 0 0 A) (mW K a now past err lef msg met par sv hash) 0 [(0, .ref (a 0)), (1, .int x1)] [] := by
  unfold FX3_removeRow_0 at hf
  refine go_aload_n C 0 dX3_removeRow_0 rfl rfl ?_
  refine go_iload_n C 1 dX3_removeRow_1 rfl rfl ?_
  refine call_X3_isRow C gX3_removeRow_X3_isRow dX3_removeRow_2 (by decide) (Nat.le_of_ble_eq_true rfl) hf (fun v1 hf => ?_)
  refine go_c1_ne C (tgt := 15) dX3_removeRow_5 (by decide) hf (fun h hf => ?_) (fun h hf => ?_)
  · refine go_aload_n C 0 dX3_removeRow_15 rfl rfl ?_
    refine call_X3_saves C gX3_removeRow_X3_saves dX3_removeRow_16 (by decide) (Nat.le_of_ble_eq_true rfl) hf (fun v2 hf => ?_)
    refine go_aload_n C 0 dX3_removeRow_19 rfl rfl ?_
    refine go_iload_n C 1 dX3_removeRow_20 rfl rfl ?_
    refine call_X3_removes C gX3_removeRow_X3_removes dX3_removeRow_21 (by decide) (Nat.le_of_ble_eq_true rfl) hf (fun v3 hf => ?_)
    refine go_aload_n C 0 dX3_removeRow_24 rfl rfl ?_
    refine gM_get_now C iX3_removeRow_3 kX3_removeRow_7 dX3_removeRow_25 ?_
    refine go_iconst (v := 1) C dX3_removeRow_28 (by decide) ?_
    refine gM_rd_now C dX3_removeRow_29 hf (fun v4 hf => ?_)
    cases hf
    exact go_iret C dX3_removeRow_30
  · refine go_aload_n C 0 dX3_removeRow_8 rfl rfl ?_
    refine go_bipush (v := (-2)) C dX3_removeRow_9 (by decide) ?_
    refine call_X3_fails C gX3_removeRow_X3_fails dX3_removeRow_11 (by decide) (Nat.le_of_ble_eq_true rfl) hf (fun v5 hf => ?_)
    cases hf
    exact go_iret C dX3_removeRow_14
set_option maxRecDepth 20000 in
theorem con_X3_removeRow (l : Launch) (K : KK) (a : Nat → Nat) {now : Nat → Int32} {past : Nat → Int32} {err : Nat → Int32} {lef : Nat → Int32} {msg : Nat → Int32} {met : Nat → Int32} {par : Nat → Int32} {sv : Int32} {hash : Int64} {x1 : Int32} {z : Int32 × (Nat → Int32) × (Nat → Int32) × (Nat → Int32) × Int32} (hf : fX3_removeRow now past err sv x1 = some z) : Con l yX3_removeRow wsX3_removeRow 2 K [.ref (a 0), .int x1] (mW K a now past err lef msg met par sv hash) (some (.int z.1)) (mW K a z.2.1 z.2.2.1 z.2.2.2.1 lef msg met par z.2.2.2.2 hash) :=
  con_of (cc := cX3_removeRow) (maxL := 2) (ret := (some .int)) (own := RX3) (lv0 := [(0, .ref (a 0)), (1, .int x1)]) (by decide) rfl rfl (Nat.le_of_ble_eq_true rfl) rfl (fun p e s m args below meth c A C => go_lv (lv' := [(0, .ref (a 0)), (1, .int x1)]) [0, 1] rfl (WX3_removeRow_0 C hf))
set_option maxRecDepth 20000 in
theorem call_X3_removeRow {p : Program} {l : Launch} {e : Env} {s : State} {m : MethodId} {args : Array Value} {below : List Frame} {meth : Method} {c : Code} {K : KK} {A : Nat → Prop} {Q : State → Prop} {cc : ByteArray} {nL : Nat} {Ts : List Cond} {ret : Option FieldType} {pc : Nat} {lv : List (Nat × Value)} {st : List Value} {ix d : Nat} {α : Type} {kk : Int32 × (Nat → Int32) × (Nat → Int32) × (Nat → Int32) × Int32 → Option α} {y : α} {a : Nat → Nat} {now : Nat → Int32} {past : Nat → Int32} {err : Nat → Int32} {lef : Nat → Int32} {msg : Nat → Int32} {met : Nat → Int32} {par : Nat → Int32} {sv : Int32} {hash : Int64} {q0 : Int32} (C : Cx p s m args meth c K A cc nL RX3 Ts ret) (hG : GoodIn Ts (wsV RX3 ix RX3 yX3_removeRow wsX3_removeRow)) (hd : decode cc pc = .ok (.invokevirtual ix, 3)) (hdd : 2 < d) (hro : (st.map fun v => v.category).sum ≤ 8) (hf : (fX3_removeRow now past err sv q0).bind kk = some y) (k : ∀ v, kk v = some y → Go p l e (RM d) s m args below meth c K A nL 0 0 Q (mW K a v.2.1 v.2.2.1 v.2.2.2.1 lef msg met par v.2.2.2.2 hash) (pc + 3) lv (.int (v.1) :: st)) : Go p l e (RM d) s m args below meth c K A nL 0 0 Q (mW K a now past err lef msg met par sv hash) pc lv (.int q0 :: .ref (a 0) :: st) := by
  obtain ⟨v, hv, hf⟩ := bd_some hf
  exact go_callV_full (ry := (some .int)) (n := 1) (b := a 0) (As := [.int q0]) (rest := st) C (con_X3_removeRow l K a hv) hG (by decide) rfl ⟨Nat.succ_le_of_lt hdd, by show 8 + (2 + 11) + 40 * 2 ≤ 40 * d; omega⟩ ⟨Nat.le_refl _, Nat.le_refl _⟩ ⟨0, 3, _, _, rfl, rfl, rfl⟩ rfl rfl hro hd (k v hf)
-- X3_isDependent
theorem iX3_isDependent_3 : ∀ w ∈ wsX30, w ∈ wsX3_isDependent := by decide +kernel
theorem kX3_isDependent_7 : Cond.fieldLink RX3 7 "CosetCoderModel" "now" "[I" ∈ wsX3_isDependent := by decide +kernel
set_option maxRecDepth 20000 in
set_option maxHeartbeats 2000000 in
theorem WX3_isDependent_44 {p : Program} {l : Launch} {e : Env} {s : State} {m : MethodId} {args : Array Value} {below : List Frame} {meth : Method} {c : Code} {K : KK} {A : Nat → Prop} {a : Nat → Nat} (C : Cx p s m args meth c K A cX3_isDependent 5 RX3 wsX3_isDependent (some .boolean)) {z : Int32} {now : Nat → Int32} {past : Nat → Int32} {err : Nat → Int32} {lef : Nat → Int32} {msg : Nat → Int32} {met : Nat → Int32} {par : Nat → Int32} {sv : Int32} {hash : Int64} {r2 : Int32 → Int32 → Option (Int32)} {r14 : Int32 → Int32 → Int32 → Int32 → Option (Int32)} {x1 : Int32} {x2 : Int32} {x4 : Int32} {t0 : Int32} {t1 : Int32} (hr2 : ∀ (x1 : Int32) (x2 : Int32), r2 x1 x2 = some z → Go p l e (RM 0) s m args below meth c K A 5 0 0 (MQ below (QR K (some (.int z)) (mW K a now past err lef msg met par sv hash) A) args s 0 0 A) (mW K a now past err lef msg met par sv hash) 2 [(0, .ref (a 0)), (1, .int x1), (2, .int x2)] []) (hr14 : ∀ (x1 : Int32) (x2 : Int32) (x3 : Int32) (x4 : Int32), r14 x1 x2 x3 x4 = some z → Go p l e (RM 0) s m args below meth c K A 5 0 0 (MQ below (QR K (some (.int z)) (mW K a now past err lef msg met par sv hash) A) args s 0 0 A) (mW K a now past err lef msg met par sv hash) 14 [(0, .ref (a 0)), (1, .int x1), (2, .int x2), (3, .int x3), (4, .int x4)] []) (hf : FX3_isDependent_44 now r2 r14 x1 x2 x4 t0 t1 = some z) : Go p l e (RM 0) s m args below meth c K A 5 0 0 (MQ below (QR K (some (.int z)) (mW K a now past err lef msg met par sv hash) A) args s 0 0 A) (mW K a now past err lef msg met par sv hash) 44 [(0, .ref (a 0)), (1, .int x1), (2, .int x2), (4, .int x4)] [.int t1, .int t0] := by
  unfold FX3_isDependent_44 at hf
  refine go_ixor C dX3_isDependent_44 ?_
  refine go_istore_n C (lv' := [(0, .ref (a 0)), (1, .int x1), (2, .int x2), (3, .int (t0 ^^^ t1)), (4, .int x4)]) [1, 2, 3, 0, 4] dX3_isDependent_45 rfl (by decide) rfl ?_
  refine go_iinc C (v := x4 + 1) (lv' := [(0, .ref (a 0)), (1, .int x1), (2, .int x2), (3, .int (t0 ^^^ t1)), (4, .int (x4 + 1))]) 4 [1, 2, 3, 4, 0] dX3_isDependent_46 rfl rfl (by decide) rfl ?_
  refine go_goto C (tgt := 14) dX3_isDependent_49 (by decide) ?_
  exact hr14 _ _ _ _ hf
set_option maxRecDepth 20000 in
set_option maxHeartbeats 2000000 in
theorem WX3_isDependent_14 {p : Program} {l : Launch} {e : Env} {s : State} {m : MethodId} {args : Array Value} {below : List Frame} {meth : Method} {c : Code} {K : KK} {A : Nat → Prop} {a : Nat → Nat} (C : Cx p s m args meth c K A cX3_isDependent 5 RX3 wsX3_isDependent (some .boolean)) {z : Int32} {now : Nat → Int32} {past : Nat → Int32} {err : Nat → Int32} {lef : Nat → Int32} {msg : Nat → Int32} {met : Nat → Int32} {par : Nat → Int32} {sv : Int32} {hash : Int64} {r2 : Int32 → Int32 → Option (Int32)} {r14 : Int32 → Int32 → Int32 → Int32 → Option (Int32)} {x1 : Int32} {x2 : Int32} {x3 : Int32} {x4 : Int32} (hr2 : ∀ (x1 : Int32) (x2 : Int32), r2 x1 x2 = some z → Go p l e (RM 0) s m args below meth c K A 5 0 0 (MQ below (QR K (some (.int z)) (mW K a now past err lef msg met par sv hash) A) args s 0 0 A) (mW K a now past err lef msg met par sv hash) 2 [(0, .ref (a 0)), (1, .int x1), (2, .int x2)] []) (hr14 : ∀ (x1 : Int32) (x2 : Int32) (x3 : Int32) (x4 : Int32), r14 x1 x2 x3 x4 = some z → Go p l e (RM 0) s m args below meth c K A 5 0 0 (MQ below (QR K (some (.int z)) (mW K a now past err lef msg met par sv hash) A) args s 0 0 A) (mW K a now past err lef msg met par sv hash) 14 [(0, .ref (a 0)), (1, .int x1), (2, .int x2), (3, .int x3), (4, .int x4)] []) (hf : FX3_isDependent_14 now r2 r14 x1 x2 x3 x4 = some z) : Go p l e (RM 0) s m args below meth c K A 5 0 0 (MQ below (QR K (some (.int z)) (mW K a now past err lef msg met par sv hash) A) args s 0 0 A) (mW K a now past err lef msg met par sv hash) 14 [(0, .ref (a 0)), (1, .int x1), (2, .int x2), (3, .int x3), (4, .int x4)] [] := by
  unfold FX3_isDependent_14 at hf
  refine go_iload C 4 dX3_isDependent_14 rfl ?_
  refine go_iload_n C 1 dX3_isDependent_16 rfl rfl ?_
  refine go_c2_ge C (tgt := 52) dX3_isDependent_17 (by decide) hf (fun h hf => ?_) (fun h hf => ?_)
  · refine go_iload_n C 3 dX3_isDependent_52 rfl rfl ?_
    refine go_aload_n C 0 dX3_isDependent_53 rfl rfl ?_
    refine gM_get_now C iX3_isDependent_3 kX3_isDependent_7 dX3_isDependent_54 ?_
    refine go_iconst (v := 2) C dX3_isDependent_57 (by decide) ?_
    refine go_iload_n C 1 dX3_isDependent_58 rfl rfl ?_
    refine go_iadd C dX3_isDependent_59 ?_
    refine gM_rd_now C dX3_isDependent_60 hf (fun v1 hf => ?_)
    refine go_c2_ne C (tgt := 66) dX3_isDependent_61 (by decide) hf (fun h hf => ?_) (fun h hf => ?_)
    · refine go_iinc C (v := x2 + 1) (lv' := [(0, .ref (a 0)), (1, .int x1), (2, .int (x2 + 1)), (3, .int x3), (4, .int x4)]) 2 [1, 2, 0, 3, 4] dX3_isDependent_66 rfl rfl (by decide) rfl ?_
      refine go_goto C (tgt := 2) dX3_isDependent_69 (by decide) ?_
      refine go_lv (lv' := [(0, .ref (a 0)), (1, .int x1), (2, .int (x2 + 1))]) [0, 1, 2] rfl ?_
      exact hr2 _ _ hf
    · refine go_iconst (v := 1) C dX3_isDependent_64 (by decide) ?_
      obtain ⟨hb1, hf⟩ := ckB_some hf
      cases hf
      exact go_zret C hb1 dX3_isDependent_65
  · refine go_iload_n C 3 dX3_isDependent_20 rfl rfl ?_
    refine go_iload_n C 2 dX3_isDependent_21 rfl rfl ?_
    refine go_iload C 4 dX3_isDependent_22 rfl ?_
    refine go_ishr C dX3_isDependent_24 ?_
    refine go_iconst (v := 1) C dX3_isDependent_25 (by decide) ?_
    refine go_iand C dX3_isDependent_26 ?_
    refine go_iconst (v := 1) C dX3_isDependent_27 (by decide) ?_
    refine go_c2_ne C (tgt := 43) dX3_isDependent_28 (by decide) hf (fun h hf => ?_) (fun h hf => ?_)
    · refine go_iconst (v := 0) C dX3_isDependent_43 (by decide) ?_
      refine go_lv (lv' := [(0, .ref (a 0)), (1, .int x1), (2, .int x2), (4, .int x4)]) [0, 1, 2, 4] rfl ?_
      exact WX3_isDependent_44 C hr2 hr14 hf
    · refine go_aload_n C 0 dX3_isDependent_31 rfl rfl ?_
      refine gM_get_now C iX3_isDependent_3 kX3_isDependent_7 dX3_isDependent_32 ?_
      refine go_iconst (v := 2) C dX3_isDependent_35 (by decide) ?_
      refine go_iload C 4 dX3_isDependent_36 rfl ?_
      refine go_iadd C dX3_isDependent_38 ?_
      refine gM_rd_now C dX3_isDependent_39 hf (fun v2 hf => ?_)
      refine go_goto C (tgt := 44) dX3_isDependent_40 (by decide) ?_
      refine go_lv (lv' := [(0, .ref (a 0)), (1, .int x1), (2, .int x2), (4, .int x4)]) [0, 1, 2, 4] rfl ?_
      exact WX3_isDependent_44 C hr2 hr14 hf
theorem wX3_isDependent_14 {p : Program} {l : Launch} {e : Env} {s : State} {m : MethodId} {args : Array Value} {below : List Frame} {meth : Method} {c : Code} {K : KK} {A : Nat → Prop} {a : Nat → Nat} (C : Cx p s m args meth c K A cX3_isDependent 5 RX3 wsX3_isDependent (some .boolean)) {z : Int32} {now : Nat → Int32} {past : Nat → Int32} {err : Nat → Int32} {lef : Nat → Int32} {msg : Nat → Int32} {met : Nat → Int32} {par : Nat → Int32} {sv : Int32} {hash : Int64} {r2 : Int32 → Int32 → Option (Int32)} (hr2 : ∀ (x1 : Int32) (x2 : Int32), r2 x1 x2 = some z → Go p l e (RM 0) s m args below meth c K A 5 0 0 (MQ below (QR K (some (.int z)) (mW K a now past err lef msg met par sv hash) A) args s 0 0 A) (mW K a now past err lef msg met par sv hash) 2 [(0, .ref (a 0)), (1, .int x1), (2, .int x2)] []) : ∀ (n : Nat) (x1 : Int32) (x2 : Int32) (x3 : Int32) (x4 : Int32), fX3_isDependent_14 now r2 n x1 x2 x3 x4 = some z → Go p l e (RM 0) s m args below meth c K A 5 0 0 (MQ below (QR K (some (.int z)) (mW K a now past err lef msg met par sv hash) A) args s 0 0 A) (mW K a now past err lef msg met par sv hash) 14 [(0, .ref (a 0)), (1, .int x1), (2, .int x2), (3, .int x3), (4, .int x4)] [] := by
  intro n
  induction n with
  | zero => intro _ _ _ _ hf; cases hf
  | succ n ih => intro _ _ _ _ hf; exact WX3_isDependent_14 C hr2 ih hf
set_option maxRecDepth 20000 in
set_option maxHeartbeats 2000000 in
theorem WX3_isDependent_2 {p : Program} {l : Launch} {e : Env} {s : State} {m : MethodId} {args : Array Value} {below : List Frame} {meth : Method} {c : Code} {K : KK} {A : Nat → Prop} {a : Nat → Nat} (C : Cx p s m args meth c K A cX3_isDependent 5 RX3 wsX3_isDependent (some .boolean)) {z : Int32} {now : Nat → Int32} {past : Nat → Int32} {err : Nat → Int32} {lef : Nat → Int32} {msg : Nat → Int32} {met : Nat → Int32} {par : Nat → Int32} {sv : Int32} {hash : Int64} {r2 : Int32 → Int32 → Option (Int32)} {x1 : Int32} {x2 : Int32} (hr2 : ∀ (x1 : Int32) (x2 : Int32), r2 x1 x2 = some z → Go p l e (RM 0) s m args below meth c K A 5 0 0 (MQ below (QR K (some (.int z)) (mW K a now past err lef msg met par sv hash) A) args s 0 0 A) (mW K a now past err lef msg met par sv hash) 2 [(0, .ref (a 0)), (1, .int x1), (2, .int x2)] []) (hf : FX3_isDependent_2 now r2 x1 x2 = some z) : Go p l e (RM 0) s m args below meth c K A 5 0 0 (MQ below (QR K (some (.int z)) (mW K a now past err lef msg met par sv hash) A) args s 0 0 A) (mW K a now past err lef msg met par sv hash) 2 [(0, .ref (a 0)), (1, .int x1), (2, .int x2)] [] := by
  unfold FX3_isDependent_2 at hf
  refine go_iload_n C 2 dX3_isDependent_2 rfl rfl ?_
  refine go_iconst (v := 1) C dX3_isDependent_3 (by decide) ?_
  refine go_iload_n C 1 dX3_isDependent_4 rfl rfl ?_
  refine go_ishl C dX3_isDependent_5 ?_
  refine go_c2_ge C (tgt := 72) dX3_isDependent_6 (by decide) hf (fun h hf => ?_) (fun h hf => ?_)
  · refine go_iconst (v := 0) C dX3_isDependent_72 (by decide) ?_
    obtain ⟨hb1, hf⟩ := ckB_some hf
    cases hf
    exact go_zret C hb1 dX3_isDependent_73
  · refine go_iconst (v := 0) C dX3_isDependent_9 (by decide) ?_
    refine go_istore_n C (lv' := [(0, .ref (a 0)), (1, .int x1), (2, .int x2), (3, .int 0)]) [1, 2, 3, 0] dX3_isDependent_10 rfl (by decide) rfl ?_
    refine go_iconst (v := 0) C dX3_isDependent_11 (by decide) ?_
    refine go_istore C (lv' := [(0, .ref (a 0)), (1, .int x1), (2, .int x2), (3, .int 0), (4, .int 0)]) [1, 2, 3, 4, 0] dX3_isDependent_12 (by decide) rfl ?_
    exact wX3_isDependent_14 C hr2 300 _ _ _ _ hf
theorem wX3_isDependent_2 {p : Program} {l : Launch} {e : Env} {s : State} {m : MethodId} {args : Array Value} {below : List Frame} {meth : Method} {c : Code} {K : KK} {A : Nat → Prop} {a : Nat → Nat} (C : Cx p s m args meth c K A cX3_isDependent 5 RX3 wsX3_isDependent (some .boolean)) {z : Int32} {now : Nat → Int32} {past : Nat → Int32} {err : Nat → Int32} {lef : Nat → Int32} {msg : Nat → Int32} {met : Nat → Int32} {par : Nat → Int32} {sv : Int32} {hash : Int64} : ∀ (n : Nat) (x1 : Int32) (x2 : Int32), fX3_isDependent_2 now  n x1 x2 = some z → Go p l e (RM 0) s m args below meth c K A 5 0 0 (MQ below (QR K (some (.int z)) (mW K a now past err lef msg met par sv hash) A) args s 0 0 A) (mW K a now past err lef msg met par sv hash) 2 [(0, .ref (a 0)), (1, .int x1), (2, .int x2)] [] := by
  intro n
  induction n with
  | zero => intro _ _ hf; cases hf
  | succ n ih => intro _ _ hf; exact WX3_isDependent_2 C  ih hf
set_option maxRecDepth 20000 in
set_option maxHeartbeats 2000000 in
theorem WX3_isDependent_0 {p : Program} {l : Launch} {e : Env} {s : State} {m : MethodId} {args : Array Value} {below : List Frame} {meth : Method} {c : Code} {K : KK} {A : Nat → Prop} {a : Nat → Nat} (C : Cx p s m args meth c K A cX3_isDependent 5 RX3 wsX3_isDependent (some .boolean)) {z : Int32} {now : Nat → Int32} {past : Nat → Int32} {err : Nat → Int32} {lef : Nat → Int32} {msg : Nat → Int32} {met : Nat → Int32} {par : Nat → Int32} {sv : Int32} {hash : Int64} {x1 : Int32} (hf : FX3_isDependent_0 now  x1 = some z) : Go p l e (RM 0) s m args below meth c K A 5 0 0 (MQ below (QR K (some (.int z)) (mW K a now past err lef msg met par sv hash) A) args s 0 0 A) (mW K a now past err lef msg met par sv hash) 0 [(0, .ref (a 0)), (1, .int x1)] [] := by
  unfold FX3_isDependent_0 at hf
  refine go_iconst (v := 1) C dX3_isDependent_0 (by decide) ?_
  refine go_istore_n C (lv' := [(0, .ref (a 0)), (1, .int x1), (2, .int 1)]) [1, 2, 0] dX3_isDependent_1 rfl (by decide) rfl ?_
  exact wX3_isDependent_2 C  300 _ _ hf
set_option maxRecDepth 20000 in
theorem con_X3_isDependent (l : Launch) (K : KK) (a : Nat → Nat) {now : Nat → Int32} {past : Nat → Int32} {err : Nat → Int32} {lef : Nat → Int32} {msg : Nat → Int32} {met : Nat → Int32} {par : Nat → Int32} {sv : Int32} {hash : Int64} {x1 : Int32} {z : Int32} (hf : fX3_isDependent now x1 = some z) : Con l yX3_isDependent wsX3_isDependent 0 K [.ref (a 0), .int x1] (mW K a now past err lef msg met par sv hash) (some (.int z)) (mW K a now past err lef msg met par sv hash) :=
  con_of (cc := cX3_isDependent) (maxL := 5) (ret := (some .boolean)) (own := RX3) (lv0 := [(0, .ref (a 0)), (1, .int x1)]) (by decide) rfl rfl (Nat.le_of_ble_eq_true rfl) rfl (fun p e s m args below meth c A C => go_lv (lv' := [(0, .ref (a 0)), (1, .int x1)]) [0, 1] rfl (WX3_isDependent_0 C hf))
set_option maxRecDepth 20000 in
theorem call_X3_isDependent {p : Program} {l : Launch} {e : Env} {s : State} {m : MethodId} {args : Array Value} {below : List Frame} {meth : Method} {c : Code} {K : KK} {A : Nat → Prop} {Q : State → Prop} {cc : ByteArray} {nL : Nat} {Ts : List Cond} {ret : Option FieldType} {pc : Nat} {lv : List (Nat × Value)} {st : List Value} {ix d : Nat} {α : Type} {kk : Int32 → Option α} {y : α} {a : Nat → Nat} {now : Nat → Int32} {past : Nat → Int32} {err : Nat → Int32} {lef : Nat → Int32} {msg : Nat → Int32} {met : Nat → Int32} {par : Nat → Int32} {sv : Int32} {hash : Int64} {q0 : Int32} (C : Cx p s m args meth c K A cc nL RX3 Ts ret) (hG : GoodIn Ts (wsV RX3 ix RX3 yX3_isDependent wsX3_isDependent)) (hd : decode cc pc = .ok (.invokevirtual ix, 3)) (hdd : 0 < d) (hro : (st.map fun v => v.category).sum ≤ 8) (hf : (fX3_isDependent now q0).bind kk = some y) (k : ∀ v, kk v = some y → Go p l e (RM d) s m args below meth c K A nL 0 0 Q (mW K a now past err lef msg met par sv hash) (pc + 3) lv (.int v :: st)) : Go p l e (RM d) s m args below meth c K A nL 0 0 Q (mW K a now past err lef msg met par sv hash) pc lv (.int q0 :: .ref (a 0) :: st) := by
  obtain ⟨v, hv, hf⟩ := bd_some hf
  exact go_callV_full (ry := (some .boolean)) (n := 1) (b := a 0) (As := [.int q0]) (rest := st) C (con_X3_isDependent l K a hv) hG (by decide) rfl ⟨Nat.succ_le_of_lt hdd, by show 8 + (5 + 11) + 40 * 0 ≤ 40 * d; omega⟩ ⟨Nat.le_refl _, Nat.le_refl _⟩ ⟨0, 3, _, _, rfl, rfl, rfl⟩ rfl rfl hro hd (k v hf)
-- X3_removeDependentRows
theorem iX3_removeDependentRows_3 : ∀ w ∈ wsX30, w ∈ wsX3_removeDependentRows := by decide +kernel
theorem kX3_removeDependentRows_7 : Cond.fieldLink RX3 7 "CosetCoderModel" "now" "[I" ∈ wsX3_removeDependentRows := by decide +kernel
set_option maxRecDepth 20000 in
set_option maxHeartbeats 2000000 in
theorem WX3_removeDependentRows_13 {p : Program} {l : Launch} {e : Env} {s : State} {m : MethodId} {args : Array Value} {below : List Frame} {meth : Method} {c : Code} {K : KK} {A : Nat → Prop} {a : Nat → Nat} (C : Cx p s m args meth c K A cX3_removeDependentRows 3 RX3 wsX3_removeDependentRows (some .int)) {z : Int32 × (Nat → Int32) × (Nat → Int32) × Int32} {err : Nat → Int32} {lef : Nat → Int32} {msg : Nat → Int32} {met : Nat → Int32} {par : Nat → Int32} {hash : Int64} {r13 : (Nat → Int32) → (Nat → Int32) → (Int32) → Int32 → Int32 → Option (Int32 × (Nat → Int32) × (Nat → Int32) × Int32)} {now : Nat → Int32} {past : Nat → Int32} {sv : Int32} {x1 : Int32} {x2 : Int32} (hr13 : ∀ (now : Nat → Int32) (past : Nat → Int32) (sv : Int32) (x1 : Int32) (x2 : Int32), r13 now past sv x1 x2 = some z → Go p l e (RM 1) s m args below meth c K A 3 0 0 (MQ below (QR K (some (.int z.1)) (mW K a z.2.1 z.2.2.1 err lef msg met par z.2.2.2 hash) A) args s 0 0 A) (mW K a now past err lef msg met par sv hash) 13 [(0, .ref (a 0)), (1, .int x1), (2, .int x2)] []) (hf : FX3_removeDependentRows_13  r13 now past sv x1 x2 = some z) : Go p l e (RM 1) s m args below meth c K A 3 0 0 (MQ below (QR K (some (.int z.1)) (mW K a z.2.1 z.2.2.1 err lef msg met par z.2.2.2 hash) A) args s 0 0 A) (mW K a now past err lef msg met par sv hash) 13 [(0, .ref (a 0)), (1, .int x1), (2, .int x2)] [] := by
  unfold FX3_removeDependentRows_13 at hf
  refine go_iload_n C 2 dX3_removeDependentRows_13 rfl rfl ?_
  refine go_aload_n C 0 dX3_removeDependentRows_14 rfl rfl ?_
  refine gM_get_now C iX3_removeDependentRows_3 kX3_removeDependentRows_7 dX3_removeDependentRows_15 ?_
  refine go_iconst (v := 1) C dX3_removeDependentRows_18 (by decide) ?_
  refine gM_rd_now C dX3_removeDependentRows_19 hf (fun v1 hf => ?_)
  refine go_c2_ge C (tgt := 45) dX3_removeDependentRows_20 (by decide) hf (fun h hf => ?_) (fun h hf => ?_)
  · refine go_iload_n C 1 dX3_removeDependentRows_45 rfl rfl ?_
    refine go_aload_n C 0 dX3_removeDependentRows_46 rfl rfl ?_
    refine gM_get_now C iX3_removeDependentRows_3 kX3_removeDependentRows_7 dX3_removeDependentRows_47 ?_
    refine go_iconst (v := 1) C dX3_removeDependentRows_50 (by decide) ?_
    refine gM_rd_now C dX3_removeDependentRows_51 hf (fun v2 hf => ?_)
    refine go_isub C dX3_removeDependentRows_52 ?_
    cases hf
    exact go_iret C dX3_removeDependentRows_53
  · refine go_aload_n C 0 dX3_removeDependentRows_23 rfl rfl ?_
    refine go_iload_n C 2 dX3_removeDependentRows_24 rfl rfl ?_
    refine call_X3_isDependent C gX3_removeDependentRows_X3_isDependent dX3_removeDependentRows_25 (by decide) (Nat.le_of_ble_eq_true rfl) hf (fun v3 hf => ?_)
    refine go_c1_eq C (tgt := 39) dX3_removeDependentRows_28 (by decide) hf (fun h hf => ?_) (fun h hf => ?_)
    · refine go_iinc C (v := x2 + 1) (lv' := [(0, .ref (a 0)), (1, .int x1), (2, .int (x2 + 1))]) 2 [1, 2, 0] dX3_removeDependentRows_39 rfl rfl (by decide) rfl ?_
      refine go_goto C (tgt := 13) dX3_removeDependentRows_42 (by decide) ?_
      exact hr13 _ _ _ _ _ hf
    · refine go_aload_n C 0 dX3_removeDependentRows_31 rfl rfl ?_
      refine go_iload_n C 2 dX3_removeDependentRows_32 rfl rfl ?_
      refine call_X3_removes C gX3_removeDependentRows_X3_removes dX3_removeDependentRows_33 (by decide) (Nat.le_of_ble_eq_true rfl) hf (fun v4 hf => ?_)
      refine go_goto C (tgt := 13) dX3_removeDependentRows_36 (by decide) ?_
      exact hr13 _ _ _ _ _ hf
theorem wX3_removeDependentRows_13 {p : Program} {l : Launch} {e : Env} {s : State} {m : MethodId} {args : Array Value} {below : List Frame} {meth : Method} {c : Code} {K : KK} {A : Nat → Prop} {a : Nat → Nat} (C : Cx p s m args meth c K A cX3_removeDependentRows 3 RX3 wsX3_removeDependentRows (some .int)) {z : Int32 × (Nat → Int32) × (Nat → Int32) × Int32} {err : Nat → Int32} {lef : Nat → Int32} {msg : Nat → Int32} {met : Nat → Int32} {par : Nat → Int32} {hash : Int64} : ∀ (n : Nat) (now : Nat → Int32) (past : Nat → Int32) (sv : Int32) (x1 : Int32) (x2 : Int32), fX3_removeDependentRows_13   n now past sv x1 x2 = some z → Go p l e (RM 1) s m args below meth c K A 3 0 0 (MQ below (QR K (some (.int z.1)) (mW K a z.2.1 z.2.2.1 err lef msg met par z.2.2.2 hash) A) args s 0 0 A) (mW K a now past err lef msg met par sv hash) 13 [(0, .ref (a 0)), (1, .int x1), (2, .int x2)] [] := by
  intro n
  induction n with
  | zero => intro _ _ _ _ _ hf; cases hf
  | succ n ih => intro _ _ _ _ _ hf; exact WX3_removeDependentRows_13 C  ih hf
set_option maxRecDepth 20000 in
set_option maxHeartbeats 2000000 in
theorem WX3_removeDependentRows_0 {p : Program} {l : Launch} {e : Env} {s : State} {m : MethodId} {args : Array Value} {below : List Frame} {meth : Method} {c : Code} {K : KK} {A : Nat → Prop} {a : Nat → Nat} (C : Cx p s m args meth c K A cX3_removeDependentRows 3 RX3 wsX3_removeDependentRows (some .int)) {z : Int32 × (Nat → Int32) × (Nat → Int32) × Int32} {err : Nat → Int32} {lef : Nat → Int32} {msg : Nat → Int32} {met : Nat → Int32} {par : Nat → Int32} {hash : Int64} {now : Nat → Int32} {past : Nat → Int32} {sv : Int32} (hf : FX3_removeDependentRows_0   now past sv = some z) : Go p l e (RM 1) s m args below meth c K A 3 0 0 (MQ below (QR K (some (.int z.1)) (mW K a z.2.1 z.2.2.1 err lef msg met par z.2.2.2 hash) A) args s 0 0 A) (mW K a now past err lef msg met par sv hash) 0 [(0, .ref (a 0))] [] := by
  unfold FX3_removeDependentRows_0 at hf
  refine go_aload_n C 0 dX3_removeDependentRows_0 rfl rfl ?_
  refine call_X3_saves C gX3_removeDependentRows_X3_saves dX3_removeDependentRows_1 (by decide) (Nat.le_of_ble_eq_true rfl) hf (fun v5 hf => ?_)
  refine go_aload_n C 0 dX3_removeDependentRows_4 rfl rfl ?_
  refine gM_get_now C iX3_removeDependentRows_3 kX3_removeDependentRows_7 dX3_removeDependentRows_5 ?_
  refine go_iconst (v := 1) C dX3_removeDependentRows_8 (by decide) ?_
  refine gM_rd_now C dX3_removeDependentRows_9 hf (fun v6 hf => ?_)
  refine go_istore_n C (lv' := [(0, .ref (a 0)), (1, .int v6)]) [1, 0] dX3_removeDependentRows_10 rfl (by decide) rfl ?_
  refine go_iconst (v := 0) C dX3_removeDependentRows_11 (by decide) ?_
  refine go_istore_n C (lv' := [(0, .ref (a 0)), (1, .int v6), (2, .int 0)]) [1, 2, 0] dX3_removeDependentRows_12 rfl (by decide) rfl ?_
  exact wX3_removeDependentRows_13 C  300 _ _ _ _ _ hf
set_option maxRecDepth 20000 in
theorem con_X3_removeDependentRows (l : Launch) (K : KK) (a : Nat → Nat) {now : Nat → Int32} {past : Nat → Int32} {err : Nat → Int32} {lef : Nat → Int32} {msg : Nat → Int32} {met : Nat → Int32} {par : Nat → Int32} {sv : Int32} {hash : Int64} {z : Int32 × (Nat → Int32) × (Nat → Int32) × Int32} (hf : fX3_removeDependentRows now past sv = some z) : Con l yX3_removeDependentRows wsX3_removeDependentRows 1 K [.ref (a 0)] (mW K a now past err lef msg met par sv hash) (some (.int z.1)) (mW K a z.2.1 z.2.2.1 err lef msg met par z.2.2.2 hash) :=
  con_of (cc := cX3_removeDependentRows) (maxL := 3) (ret := (some .int)) (own := RX3) (lv0 := [(0, .ref (a 0))]) (by decide) rfl rfl (Nat.le_of_ble_eq_true rfl) rfl (fun p e s m args below meth c A C => go_lv (lv' := [(0, .ref (a 0))]) [0] rfl (WX3_removeDependentRows_0 C hf))
set_option maxRecDepth 20000 in
theorem call_X3_removeDependentRows {p : Program} {l : Launch} {e : Env} {s : State} {m : MethodId} {args : Array Value} {below : List Frame} {meth : Method} {c : Code} {K : KK} {A : Nat → Prop} {Q : State → Prop} {cc : ByteArray} {nL : Nat} {Ts : List Cond} {ret : Option FieldType} {pc : Nat} {lv : List (Nat × Value)} {st : List Value} {ix d : Nat} {α : Type} {kk : Int32 × (Nat → Int32) × (Nat → Int32) × Int32 → Option α} {y : α} {a : Nat → Nat} {now : Nat → Int32} {past : Nat → Int32} {err : Nat → Int32} {lef : Nat → Int32} {msg : Nat → Int32} {met : Nat → Int32} {par : Nat → Int32} {sv : Int32} {hash : Int64} (C : Cx p s m args meth c K A cc nL RX3 Ts ret) (hG : GoodIn Ts (wsV RX3 ix RX3 yX3_removeDependentRows wsX3_removeDependentRows)) (hd : decode cc pc = .ok (.invokevirtual ix, 3)) (hdd : 1 < d) (hro : (st.map fun v => v.category).sum ≤ 8) (hf : (fX3_removeDependentRows now past sv).bind kk = some y) (k : ∀ v, kk v = some y → Go p l e (RM d) s m args below meth c K A nL 0 0 Q (mW K a v.2.1 v.2.2.1 err lef msg met par v.2.2.2 hash) (pc + 3) lv (.int (v.1) :: st)) : Go p l e (RM d) s m args below meth c K A nL 0 0 Q (mW K a now past err lef msg met par sv hash) pc lv (.ref (a 0) :: st) := by
  obtain ⟨v, hv, hf⟩ := bd_some hf
  exact go_callV_full (ry := (some .int)) (n := 0) (b := a 0) (As := []) (rest := st) C (con_X3_removeDependentRows l K a hv) hG (by decide) rfl ⟨Nat.succ_le_of_lt hdd, by show 8 + (3 + 11) + 40 * 1 ≤ 40 * d; omega⟩ ⟨Nat.le_refl _, Nat.le_refl _⟩ ⟨0, 3, _, _, rfl, rfl, rfl⟩ rfl rfl hro hd (k v hf)
-- X3_row
theorem iX3_row_3 : ∀ w ∈ wsX30, w ∈ wsX3_row := by decide +kernel
theorem kX3_row_7 : Cond.fieldLink RX3 7 "CosetCoderModel" "now" "[I" ∈ wsX3_row := by decide +kernel
set_option maxRecDepth 20000 in
set_option maxHeartbeats 2000000 in
theorem WX3_row_25 {p : Program} {l : Launch} {e : Env} {s : State} {m : MethodId} {args : Array Value} {below : List Frame} {meth : Method} {c : Code} {K : KK} {A : Nat → Prop} {a : Nat → Nat} (C : Cx p s m args meth c K A cX3_row 2 RX3 wsX3_row (some .int)) {z : Int32 × (Nat → Int32)} {now : Nat → Int32} {past : Nat → Int32} {lef : Nat → Int32} {msg : Nat → Int32} {met : Nat → Int32} {par : Nat → Int32} {sv : Int32} {hash : Int64} {err : Nat → Int32} {t0 : Int32} (hf : FX3_row_25 now  err t0 = some z) : Go p l e (RM 2) s m args below meth c K A 2 0 0 (MQ below (QR K (some (.int z.1)) (mW K a now past z.2 lef msg met par sv hash) A) args s 0 0 A) (mW K a now past err lef msg met par sv hash) 25 [] [.int t0] := by
  unfold FX3_row_25 at hf
  cases hf
  exact go_iret C dX3_row_25
set_option maxRecDepth 20000 in
set_option maxHeartbeats 2000000 in
theorem WX3_row_0 {p : Program} {l : Launch} {e : Env} {s : State} {m : MethodId} {args : Array Value} {below : List Frame} {meth : Method} {c : Code} {K : KK} {A : Nat → Prop} {a : Nat → Nat} (C : Cx p s m args meth c K A cX3_row 2 RX3 wsX3_row (some .int)) {z : Int32 × (Nat → Int32)} {now : Nat → Int32} {past : Nat → Int32} {lef : Nat → Int32} {msg : Nat → Int32} {met : Nat → Int32} {par : Nat → Int32} {sv : Int32} {hash : Int64} {err : Nat → Int32} {x1 : Int32} (hf : FX3_row_0 now  err x1 = some z) : Go p l e (RM 2) s m args below meth c K A 2 0 0 (MQ below (QR K (some (.int z.1)) (mW K a now past z.2 lef msg met par sv hash) A) args s 0 0 A) (mW K a now past err lef msg met par sv hash) 0 [(0, .ref (a 0)), (1, .int x1)] [] := by
  unfold FX3_row_0 at hf
  refine go_aload_n C 0 dX3_row_0 rfl rfl ?_
  refine go_iload_n C 1 dX3_row_1 rfl rfl ?_
  refine call_X3_isRow C gX3_row_X3_isRow dX3_row_2 (by decide) (Nat.le_of_ble_eq_true rfl) hf (fun v1 hf => ?_)
  refine go_c1_eq C (tgt := 19) dX3_row_5 (by decide) hf (fun h hf => ?_) (fun h hf => ?_)
  · refine go_aload_n C 0 dX3_row_19 rfl rfl ?_
    refine go_bipush (v := (-2)) C dX3_row_20 (by decide) ?_
    refine call_X3_fails C gX3_row_X3_fails dX3_row_22 (by decide) (Nat.le_of_ble_eq_true rfl) hf (fun v2 hf => ?_)
    refine go_lv (lv' := []) [] rfl ?_
    exact WX3_row_25 C  hf
  · refine go_aload_n C 0 dX3_row_8 rfl rfl ?_
    refine gM_get_now C iX3_row_3 kX3_row_7 dX3_row_9 ?_
    refine go_iconst (v := 2) C dX3_row_12 (by decide) ?_
    refine go_iload_n C 1 dX3_row_13 rfl rfl ?_
    refine go_iadd C dX3_row_14 ?_
    refine gM_rd_now C dX3_row_15 hf (fun v3 hf => ?_)
    refine go_goto C (tgt := 25) dX3_row_16 (by decide) ?_
    refine go_lv (lv' := []) [] rfl ?_
    exact WX3_row_25 C  hf
set_option maxRecDepth 20000 in
theorem con_X3_row (l : Launch) (K : KK) (a : Nat → Nat) {now : Nat → Int32} {past : Nat → Int32} {err : Nat → Int32} {lef : Nat → Int32} {msg : Nat → Int32} {met : Nat → Int32} {par : Nat → Int32} {sv : Int32} {hash : Int64} {x1 : Int32} {z : Int32 × (Nat → Int32)} (hf : fX3_row now err x1 = some z) : Con l yX3_row wsX3_row 2 K [.ref (a 0), .int x1] (mW K a now past err lef msg met par sv hash) (some (.int z.1)) (mW K a now past z.2 lef msg met par sv hash) :=
  con_of (cc := cX3_row) (maxL := 2) (ret := (some .int)) (own := RX3) (lv0 := [(0, .ref (a 0)), (1, .int x1)]) (by decide) rfl rfl (Nat.le_of_ble_eq_true rfl) rfl (fun p e s m args below meth c A C => go_lv (lv' := [(0, .ref (a 0)), (1, .int x1)]) [0, 1] rfl (WX3_row_0 C hf))
set_option maxRecDepth 20000 in
theorem call_X3_row {p : Program} {l : Launch} {e : Env} {s : State} {m : MethodId} {args : Array Value} {below : List Frame} {meth : Method} {c : Code} {K : KK} {A : Nat → Prop} {Q : State → Prop} {cc : ByteArray} {nL : Nat} {Ts : List Cond} {ret : Option FieldType} {pc : Nat} {lv : List (Nat × Value)} {st : List Value} {ix d : Nat} {α : Type} {kk : Int32 × (Nat → Int32) → Option α} {y : α} {a : Nat → Nat} {now : Nat → Int32} {past : Nat → Int32} {err : Nat → Int32} {lef : Nat → Int32} {msg : Nat → Int32} {met : Nat → Int32} {par : Nat → Int32} {sv : Int32} {hash : Int64} {q0 : Int32} (C : Cx p s m args meth c K A cc nL RX3 Ts ret) (hG : GoodIn Ts (wsV RX3 ix RX3 yX3_row wsX3_row)) (hd : decode cc pc = .ok (.invokevirtual ix, 3)) (hdd : 2 < d) (hro : (st.map fun v => v.category).sum ≤ 8) (hf : (fX3_row now err q0).bind kk = some y) (k : ∀ v, kk v = some y → Go p l e (RM d) s m args below meth c K A nL 0 0 Q (mW K a now past v.2 lef msg met par sv hash) (pc + 3) lv (.int (v.1) :: st)) : Go p l e (RM d) s m args below meth c K A nL 0 0 Q (mW K a now past err lef msg met par sv hash) pc lv (.int q0 :: .ref (a 0) :: st) := by
  obtain ⟨v, hv, hf⟩ := bd_some hf
  exact go_callV_full (ry := (some .int)) (n := 1) (b := a 0) (As := [.int q0]) (rest := st) C (con_X3_row l K a hv) hG (by decide) rfl ⟨Nat.succ_le_of_lt hdd, by show 8 + (2 + 11) + 40 * 2 ≤ 40 * d; omega⟩ ⟨Nat.le_refl _, Nat.le_refl _⟩ ⟨0, 3, _, _, rfl, rfl, rfl⟩ rfl rfl hro hd (k v hf)
-- X3_isCheck
theorem iX3_isCheck_3 : ∀ w ∈ wsX30, w ∈ wsX3_isCheck := by decide +kernel
theorem kX3_isCheck_7 : Cond.fieldLink RX3 7 "CosetCoderModel" "now" "[I" ∈ wsX3_isCheck := by decide +kernel
set_option maxRecDepth 20000 in
set_option maxHeartbeats 2000000 in
theorem WX3_isCheck_26 {p : Program} {l : Launch} {e : Env} {s : State} {m : MethodId} {args : Array Value} {below : List Frame} {meth : Method} {c : Code} {K : KK} {A : Nat → Prop} {a : Nat → Nat} (C : Cx p s m args meth c K A cX3_isCheck 2 RX3 wsX3_isCheck (some .int)) {z : Int32 × (Nat → Int32)} {now : Nat → Int32} {past : Nat → Int32} {lef : Nat → Int32} {msg : Nat → Int32} {met : Nat → Int32} {par : Nat → Int32} {sv : Int32} {hash : Int64} {err : Nat → Int32} {t0 : Int32} (hf : FX3_isCheck_26 now  err t0 = some z) : Go p l e (RM 2) s m args below meth c K A 2 0 0 (MQ below (QR K (some (.int z.1)) (mW K a now past z.2 lef msg met par sv hash) A) args s 0 0 A) (mW K a now past err lef msg met par sv hash) 26 [] [.int t0] := by
  unfold FX3_isCheck_26 at hf
  cases hf
  exact go_iret C dX3_isCheck_26
set_option maxRecDepth 20000 in
set_option maxHeartbeats 2000000 in
theorem WX3_isCheck_0 {p : Program} {l : Launch} {e : Env} {s : State} {m : MethodId} {args : Array Value} {below : List Frame} {meth : Method} {c : Code} {K : KK} {A : Nat → Prop} {a : Nat → Nat} (C : Cx p s m args meth c K A cX3_isCheck 2 RX3 wsX3_isCheck (some .int)) {z : Int32 × (Nat → Int32)} {now : Nat → Int32} {past : Nat → Int32} {lef : Nat → Int32} {msg : Nat → Int32} {met : Nat → Int32} {par : Nat → Int32} {sv : Int32} {hash : Int64} {err : Nat → Int32} {x1 : Int32} (hf : FX3_isCheck_0 now  err x1 = some z) : Go p l e (RM 2) s m args below meth c K A 2 0 0 (MQ below (QR K (some (.int z.1)) (mW K a now past z.2 lef msg met par sv hash) A) args s 0 0 A) (mW K a now past err lef msg met par sv hash) 0 [(0, .ref (a 0)), (1, .int x1)] [] := by
  unfold FX3_isCheck_0 at hf
  refine go_aload_n C 0 dX3_isCheck_0 rfl rfl ?_
  refine go_iload_n C 1 dX3_isCheck_1 rfl rfl ?_
  refine call_X3_isRow C gX3_isCheck_X3_isRow dX3_isCheck_2 (by decide) (Nat.le_of_ble_eq_true rfl) hf (fun v1 hf => ?_)
  refine go_c1_eq C (tgt := 20) dX3_isCheck_5 (by decide) hf (fun h hf => ?_) (fun h hf => ?_)
  · refine go_aload_n C 0 dX3_isCheck_20 rfl rfl ?_
    refine go_bipush (v := (-2)) C dX3_isCheck_21 (by decide) ?_
    refine call_X3_fails C gX3_isCheck_X3_fails dX3_isCheck_23 (by decide) (Nat.le_of_ble_eq_true rfl) hf (fun v2 hf => ?_)
    refine go_lv (lv' := []) [] rfl ?_
    exact WX3_isCheck_26 C  hf
  · refine go_aload_n C 0 dX3_isCheck_8 rfl rfl ?_
    refine gM_get_now C iX3_isCheck_3 kX3_isCheck_7 dX3_isCheck_9 ?_
    refine go_bipush (v := 8) C dX3_isCheck_12 (by decide) ?_
    refine go_iload_n C 1 dX3_isCheck_14 rfl rfl ?_
    refine go_iadd C dX3_isCheck_15 ?_
    refine gM_rd_now C dX3_isCheck_16 hf (fun v3 hf => ?_)
    refine go_goto C (tgt := 26) dX3_isCheck_17 (by decide) ?_
    refine go_lv (lv' := []) [] rfl ?_
    exact WX3_isCheck_26 C  hf
set_option maxRecDepth 20000 in
theorem con_X3_isCheck (l : Launch) (K : KK) (a : Nat → Nat) {now : Nat → Int32} {past : Nat → Int32} {err : Nat → Int32} {lef : Nat → Int32} {msg : Nat → Int32} {met : Nat → Int32} {par : Nat → Int32} {sv : Int32} {hash : Int64} {x1 : Int32} {z : Int32 × (Nat → Int32)} (hf : fX3_isCheck now err x1 = some z) : Con l yX3_isCheck wsX3_isCheck 2 K [.ref (a 0), .int x1] (mW K a now past err lef msg met par sv hash) (some (.int z.1)) (mW K a now past z.2 lef msg met par sv hash) :=
  con_of (cc := cX3_isCheck) (maxL := 2) (ret := (some .int)) (own := RX3) (lv0 := [(0, .ref (a 0)), (1, .int x1)]) (by decide) rfl rfl (Nat.le_of_ble_eq_true rfl) rfl (fun p e s m args below meth c A C => go_lv (lv' := [(0, .ref (a 0)), (1, .int x1)]) [0, 1] rfl (WX3_isCheck_0 C hf))
set_option maxRecDepth 20000 in
theorem call_X3_isCheck {p : Program} {l : Launch} {e : Env} {s : State} {m : MethodId} {args : Array Value} {below : List Frame} {meth : Method} {c : Code} {K : KK} {A : Nat → Prop} {Q : State → Prop} {cc : ByteArray} {nL : Nat} {Ts : List Cond} {ret : Option FieldType} {pc : Nat} {lv : List (Nat × Value)} {st : List Value} {ix d : Nat} {α : Type} {kk : Int32 × (Nat → Int32) → Option α} {y : α} {a : Nat → Nat} {now : Nat → Int32} {past : Nat → Int32} {err : Nat → Int32} {lef : Nat → Int32} {msg : Nat → Int32} {met : Nat → Int32} {par : Nat → Int32} {sv : Int32} {hash : Int64} {q0 : Int32} (C : Cx p s m args meth c K A cc nL RX3 Ts ret) (hG : GoodIn Ts (wsV RX3 ix RX3 yX3_isCheck wsX3_isCheck)) (hd : decode cc pc = .ok (.invokevirtual ix, 3)) (hdd : 2 < d) (hro : (st.map fun v => v.category).sum ≤ 8) (hf : (fX3_isCheck now err q0).bind kk = some y) (k : ∀ v, kk v = some y → Go p l e (RM d) s m args below meth c K A nL 0 0 Q (mW K a now past v.2 lef msg met par sv hash) (pc + 3) lv (.int (v.1) :: st)) : Go p l e (RM d) s m args below meth c K A nL 0 0 Q (mW K a now past err lef msg met par sv hash) pc lv (.int q0 :: .ref (a 0) :: st) := by
  obtain ⟨v, hv, hf⟩ := bd_some hf
  exact go_callV_full (ry := (some .int)) (n := 1) (b := a 0) (As := [.int q0]) (rest := st) C (con_X3_isCheck l K a hv) hG (by decide) rfl ⟨Nat.succ_le_of_lt hdd, by show 8 + (2 + 11) + 40 * 2 ≤ 40 * d; omega⟩ ⟨Nat.le_refl _, Nat.le_refl _⟩ ⟨0, 3, _, _, rfl, rfl, rfl⟩ rfl rfl hro hd (k v hf)
-- X3_rankOf
theorem iX3_rankOf_3 : ∀ w ∈ wsX30, w ∈ wsX3_rankOf := by decide +kernel
theorem kX3_rankOf_19 : Cond.fieldLink RX3 19 "CosetCoderModel" "left" "[I" ∈ wsX3_rankOf := by decide +kernel
theorem kX3_rankOf_7 : Cond.fieldLink RX3 7 "CosetCoderModel" "now" "[I" ∈ wsX3_rankOf := by decide +kernel
set_option maxRecDepth 20000 in
set_option maxHeartbeats 2000000 in
theorem WX3_rankOf_49 {p : Program} {l : Launch} {e : Env} {s : State} {m : MethodId} {args : Array Value} {below : List Frame} {meth : Method} {c : Code} {K : KK} {A : Nat → Prop} {a : Nat → Nat} (C : Cx p s m args meth c K A cX3_rankOf 7 RX3 wsX3_rankOf (some .int)) {z : Int32 × (Nat → Int32)} {now : Nat → Int32} {past : Nat → Int32} {err : Nat → Int32} {msg : Nat → Int32} {met : Nat → Int32} {par : Nat → Int32} {sv : Int32} {hash : Int64} {r2 : (Nat → Int32) → Int32 → Int32 → Int32 → Option (Int32 × (Nat → Int32))} {lef : Nat → Int32} {x1 : Int32} {x2 : Int32} {x3 : Int32} {t1 : Int32} {t2 : Int32} (hr2 : ∀ (lef : Nat → Int32) (x1 : Int32) (x2 : Int32) (x3 : Int32), r2 lef x1 x2 x3 = some z → Go p l e (RM 0) s m args below meth c K A 7 0 0 (MQ below (QR K (some (.int z.1)) (mW K a now past err z.2 msg met par sv hash) A) args s 0 0 A) (mW K a now past err lef msg met par sv hash) 2 [(0, .ref (a 0)), (1, .int x1), (2, .int x2), (3, .int x3)] []) (hf : FX3_rankOf_49 now r2 lef x1 x2 x3 t1 t2 = some z) : Go p l e (RM 0) s m args below meth c K A 7 0 0 (MQ below (QR K (some (.int z.1)) (mW K a now past err z.2 msg met par sv hash) A) args s 0 0 A) (mW K a now past err lef msg met par sv hash) 49 [(0, .ref (a 0)), (1, .int x1), (2, .int x2), (3, .int x3)] [.int t2, .int t1, .ref (a 4)] := by
  unfold FX3_rankOf_49 at hf
  refine gM_wr_lef C dX3_rankOf_49 hf (fun g1 hf => ?_)
  refine go_iinc C (v := x3 + 1) (lv' := [(0, .ref (a 0)), (1, .int x1), (2, .int x2), (3, .int (x3 + 1))]) 3 [1, 2, 3, 0] dX3_rankOf_50 rfl rfl (by decide) rfl ?_
  refine go_goto C (tgt := 2) dX3_rankOf_53 (by decide) ?_
  exact hr2 _ _ _ _ hf
set_option maxRecDepth 20000 in
set_option maxHeartbeats 2000000 in
theorem WX3_rankOf_35 {p : Program} {l : Launch} {e : Env} {s : State} {m : MethodId} {args : Array Value} {below : List Frame} {meth : Method} {c : Code} {K : KK} {A : Nat → Prop} {a : Nat → Nat} (C : Cx p s m args meth c K A cX3_rankOf 7 RX3 wsX3_rankOf (some .int)) {z : Int32 × (Nat → Int32)} {now : Nat → Int32} {past : Nat → Int32} {err : Nat → Int32} {msg : Nat → Int32} {met : Nat → Int32} {par : Nat → Int32} {sv : Int32} {hash : Int64} {r2 : (Nat → Int32) → Int32 → Int32 → Int32 → Option (Int32 × (Nat → Int32))} {lef : Nat → Int32} {x1 : Int32} {x2 : Int32} {x3 : Int32} {t1 : Int32} (hr2 : ∀ (lef : Nat → Int32) (x1 : Int32) (x2 : Int32) (x3 : Int32), r2 lef x1 x2 x3 = some z → Go p l e (RM 0) s m args below meth c K A 7 0 0 (MQ below (QR K (some (.int z.1)) (mW K a now past err z.2 msg met par sv hash) A) args s 0 0 A) (mW K a now past err lef msg met par sv hash) 2 [(0, .ref (a 0)), (1, .int x1), (2, .int x2), (3, .int x3)] []) (hf : FX3_rankOf_35 now r2 lef x1 x2 x3 t1 = some z) : Go p l e (RM 0) s m args below meth c K A 7 0 0 (MQ below (QR K (some (.int z.1)) (mW K a now past err z.2 msg met par sv hash) A) args s 0 0 A) (mW K a now past err lef msg met par sv hash) 35 [(0, .ref (a 0)), (1, .int x1), (2, .int x2), (3, .int x3)] [.int t1, .ref (a 4)] := by
  unfold FX3_rankOf_35 at hf
  refine go_aload_n C 0 dX3_rankOf_35 rfl rfl ?_
  refine gM_get_now C iX3_rankOf_3 kX3_rankOf_7 dX3_rankOf_36 ?_
  refine go_iconst (v := 2) C dX3_rankOf_39 (by decide) ?_
  refine go_iload_n C 3 dX3_rankOf_40 rfl rfl ?_
  refine go_iadd C dX3_rankOf_41 ?_
  refine gM_rd_now C dX3_rankOf_42 hf (fun v2 hf => ?_)
  refine go_iload_n C 2 dX3_rankOf_43 rfl rfl ?_
  refine go_iand C dX3_rankOf_44 ?_
  refine go_goto C (tgt := 49) dX3_rankOf_45 (by decide) ?_
  exact WX3_rankOf_49 C hr2 hf
set_option maxRecDepth 20000 in
set_option maxHeartbeats 2000000 in
theorem WX3_rankOf_152 {p : Program} {l : Launch} {e : Env} {s : State} {m : MethodId} {args : Array Value} {below : List Frame} {meth : Method} {c : Code} {K : KK} {A : Nat → Prop} {a : Nat → Nat} (C : Cx p s m args meth c K A cX3_rankOf 7 RX3 wsX3_rankOf (some .int)) {z : Int32 × (Nat → Int32)} {now : Nat → Int32} {past : Nat → Int32} {err : Nat → Int32} {msg : Nat → Int32} {met : Nat → Int32} {par : Nat → Int32} {sv : Int32} {hash : Int64} {r61 : (Nat → Int32) → Int32 → Int32 → Option (Int32 × (Nat → Int32))} {r109 : (Nat → Int32) → Int32 → Int32 → Int32 → Int32 → Option (Int32 × (Nat → Int32))} {lef : Nat → Int32} {x3 : Int32} {x4 : Int32} {x5 : Int32} {x6 : Int32} {t1 : Int32} {t2 : Int32} {t3 : Int32} (hr61 : ∀ (lef : Nat → Int32) (x3 : Int32) (x4 : Int32), r61 lef x3 x4 = some z → Go p l e (RM 0) s m args below meth c K A 7 0 0 (MQ below (QR K (some (.int z.1)) (mW K a now past err z.2 msg met par sv hash) A) args s 0 0 A) (mW K a now past err lef msg met par sv hash) 61 [(0, .ref (a 0)), (3, .int x3), (4, .int x4)] []) (hr109 : ∀ (lef : Nat → Int32) (x3 : Int32) (x4 : Int32) (x5 : Int32) (x6 : Int32), r109 lef x3 x4 x5 x6 = some z → Go p l e (RM 0) s m args below meth c K A 7 0 0 (MQ below (QR K (some (.int z.1)) (mW K a now past err z.2 msg met par sv hash) A) args s 0 0 A) (mW K a now past err lef msg met par sv hash) 109 [(0, .ref (a 0)), (3, .int x3), (4, .int x4), (5, .int x5), (6, .int x6)] []) (hf : FX3_rankOf_152 now r61 r109 lef x3 x4 x5 x6 t1 t2 t3 = some z) : Go p l e (RM 0) s m args below meth c K A 7 0 0 (MQ below (QR K (some (.int z.1)) (mW K a now past err z.2 msg met par sv hash) A) args s 0 0 A) (mW K a now past err lef msg met par sv hash) 152 [(0, .ref (a 0)), (3, .int x3), (4, .int x4), (5, .int x5), (6, .int x6)] [.int t3, .int t2, .int t1, .ref (a 4)] := by
  unfold FX3_rankOf_152 at hf
  refine go_ixor C dX3_rankOf_152 ?_
  refine gM_wr_lef C dX3_rankOf_153 hf (fun g3 hf => ?_)
  refine go_iinc C (v := x6 + 1) (lv' := [(0, .ref (a 0)), (3, .int x3), (4, .int x4), (5, .int x5), (6, .int (x6 + 1))]) 4 [1, 2, 3, 4, 0] dX3_rankOf_154 rfl rfl (by decide) rfl ?_
  refine go_goto C (tgt := 109) dX3_rankOf_157 (by decide) ?_
  exact hr109 _ _ _ _ _ hf
set_option maxRecDepth 20000 in
set_option maxHeartbeats 2000000 in
theorem WX3_rankOf_160 {p : Program} {l : Launch} {e : Env} {s : State} {m : MethodId} {args : Array Value} {below : List Frame} {meth : Method} {c : Code} {K : KK} {A : Nat → Prop} {a : Nat → Nat} (C : Cx p s m args meth c K A cX3_rankOf 7 RX3 wsX3_rankOf (some .int)) {z : Int32 × (Nat → Int32)} {now : Nat → Int32} {past : Nat → Int32} {err : Nat → Int32} {msg : Nat → Int32} {met : Nat → Int32} {par : Nat → Int32} {sv : Int32} {hash : Int64} {r61 : (Nat → Int32) → Int32 → Int32 → Option (Int32 × (Nat → Int32))} {lef : Nat → Int32} {x3 : Int32} {x4 : Int32} (hr61 : ∀ (lef : Nat → Int32) (x3 : Int32) (x4 : Int32), r61 lef x3 x4 = some z → Go p l e (RM 0) s m args below meth c K A 7 0 0 (MQ below (QR K (some (.int z.1)) (mW K a now past err z.2 msg met par sv hash) A) args s 0 0 A) (mW K a now past err lef msg met par sv hash) 61 [(0, .ref (a 0)), (3, .int x3), (4, .int x4)] []) (hf : FX3_rankOf_160 now r61 lef x3 x4 = some z) : Go p l e (RM 0) s m args below meth c K A 7 0 0 (MQ below (QR K (some (.int z.1)) (mW K a now past err z.2 msg met par sv hash) A) args s 0 0 A) (mW K a now past err lef msg met par sv hash) 160 [(0, .ref (a 0)), (3, .int x3), (4, .int x4)] [] := by
  unfold FX3_rankOf_160 at hf
  refine go_iinc C (v := x4 + 1) (lv' := [(0, .ref (a 0)), (3, .int x3), (4, .int (x4 + 1))]) 2 [1, 2, 0] dX3_rankOf_160 rfl rfl (by decide) rfl ?_
  refine go_goto C (tgt := 61) dX3_rankOf_163 (by decide) ?_
  exact hr61 _ _ _ hf
set_option maxRecDepth 20000 in
set_option maxHeartbeats 2000000 in
theorem WX3_rankOf_109 {p : Program} {l : Launch} {e : Env} {s : State} {m : MethodId} {args : Array Value} {below : List Frame} {meth : Method} {c : Code} {K : KK} {A : Nat → Prop} {a : Nat → Nat} (C : Cx p s m args meth c K A cX3_rankOf 7 RX3 wsX3_rankOf (some .int)) {z : Int32 × (Nat → Int32)} {now : Nat → Int32} {past : Nat → Int32} {err : Nat → Int32} {msg : Nat → Int32} {met : Nat → Int32} {par : Nat → Int32} {sv : Int32} {hash : Int64} {r61 : (Nat → Int32) → Int32 → Int32 → Option (Int32 × (Nat → Int32))} {r109 : (Nat → Int32) → Int32 → Int32 → Int32 → Int32 → Option (Int32 × (Nat → Int32))} {lef : Nat → Int32} {x3 : Int32} {x4 : Int32} {x5 : Int32} {x6 : Int32} (hr61 : ∀ (lef : Nat → Int32) (x3 : Int32) (x4 : Int32), r61 lef x3 x4 = some z → Go p l e (RM 0) s m args below meth c K A 7 0 0 (MQ below (QR K (some (.int z.1)) (mW K a now past err z.2 msg met par sv hash) A) args s 0 0 A) (mW K a now past err lef msg met par sv hash) 61 [(0, .ref (a 0)), (3, .int x3), (4, .int x4)] []) (hr109 : ∀ (lef : Nat → Int32) (x3 : Int32) (x4 : Int32) (x5 : Int32) (x6 : Int32), r109 lef x3 x4 x5 x6 = some z → Go p l e (RM 0) s m args below meth c K A 7 0 0 (MQ below (QR K (some (.int z.1)) (mW K a now past err z.2 msg met par sv hash) A) args s 0 0 A) (mW K a now past err lef msg met par sv hash) 109 [(0, .ref (a 0)), (3, .int x3), (4, .int x4), (5, .int x5), (6, .int x6)] []) (hf : FX3_rankOf_109 now r61 r109 lef x3 x4 x5 x6 = some z) : Go p l e (RM 0) s m args below meth c K A 7 0 0 (MQ below (QR K (some (.int z.1)) (mW K a now past err z.2 msg met par sv hash) A) args s 0 0 A) (mW K a now past err lef msg met par sv hash) 109 [(0, .ref (a 0)), (3, .int x3), (4, .int x4), (5, .int x5), (6, .int x6)] [] := by
  unfold FX3_rankOf_109 at hf
  refine go_iload C 4 dX3_rankOf_109 rfl ?_
  refine go_aload_n C 0 dX3_rankOf_111 rfl rfl ?_
  refine gM_get_now C iX3_rankOf_3 kX3_rankOf_7 dX3_rankOf_112 ?_
  refine go_iconst (v := 1) C dX3_rankOf_115 (by decide) ?_
  refine gM_rd_now C dX3_rankOf_116 hf (fun v4 hf => ?_)
  refine go_c2_ge C (tgt := 160) dX3_rankOf_117 (by decide) hf (fun h hf => ?_) (fun h hf => ?_)
  · refine go_lv (lv' := [(0, .ref (a 0)), (3, .int x3), (4, .int x4)]) [0, 1, 2] rfl ?_
    exact WX3_rankOf_160 C hr61 hf
  · refine go_aload_n C 0 dX3_rankOf_120 rfl rfl ?_
    refine gM_get_left C iX3_rankOf_3 kX3_rankOf_19 dX3_rankOf_121 ?_
    refine go_iload C 4 dX3_rankOf_124 rfl ?_
    refine go_dup2 C dX3_rankOf_126 rfl rfl ?_
    refine gM_rd_lef C dX3_rankOf_127 hf (fun v5 hf => ?_)
    refine go_aload_n C 0 dX3_rankOf_128 rfl rfl ?_
    refine gM_get_left C iX3_rankOf_3 kX3_rankOf_19 dX3_rankOf_129 ?_
    refine go_iload C 4 dX3_rankOf_132 rfl ?_
    refine gM_rd_lef C dX3_rankOf_134 hf (fun v6 hf => ?_)
    refine go_iload C 3 dX3_rankOf_135 rfl ?_
    refine go_iand C dX3_rankOf_137 ?_
    refine go_c1_eq C (tgt := 151) dX3_rankOf_138 (by decide) hf (fun h hf => ?_) (fun h hf => ?_)
    · refine go_iconst (v := 0) C dX3_rankOf_151 (by decide) ?_
      exact WX3_rankOf_152 C hr61 hr109 hf
    · refine go_aload_n C 0 dX3_rankOf_141 rfl rfl ?_
      refine gM_get_left C iX3_rankOf_3 kX3_rankOf_19 dX3_rankOf_142 ?_
      refine go_iload C 2 dX3_rankOf_145 rfl ?_
      refine gM_rd_lef C dX3_rankOf_147 hf (fun v7 hf => ?_)
      refine go_goto C (tgt := 152) dX3_rankOf_148 (by decide) ?_
      exact WX3_rankOf_152 C hr61 hr109 hf
theorem wX3_rankOf_109 {p : Program} {l : Launch} {e : Env} {s : State} {m : MethodId} {args : Array Value} {below : List Frame} {meth : Method} {c : Code} {K : KK} {A : Nat → Prop} {a : Nat → Nat} (C : Cx p s m args meth c K A cX3_rankOf 7 RX3 wsX3_rankOf (some .int)) {z : Int32 × (Nat → Int32)} {now : Nat → Int32} {past : Nat → Int32} {err : Nat → Int32} {msg : Nat → Int32} {met : Nat → Int32} {par : Nat → Int32} {sv : Int32} {hash : Int64} {r61 : (Nat → Int32) → Int32 → Int32 → Option (Int32 × (Nat → Int32))} (hr61 : ∀ (lef : Nat → Int32) (x3 : Int32) (x4 : Int32), r61 lef x3 x4 = some z → Go p l e (RM 0) s m args below meth c K A 7 0 0 (MQ below (QR K (some (.int z.1)) (mW K a now past err z.2 msg met par sv hash) A) args s 0 0 A) (mW K a now past err lef msg met par sv hash) 61 [(0, .ref (a 0)), (3, .int x3), (4, .int x4)] []) : ∀ (n : Nat) (lef : Nat → Int32) (x3 : Int32) (x4 : Int32) (x5 : Int32) (x6 : Int32), fX3_rankOf_109 now r61 n lef x3 x4 x5 x6 = some z → Go p l e (RM 0) s m args below meth c K A 7 0 0 (MQ below (QR K (some (.int z.1)) (mW K a now past err z.2 msg met par sv hash) A) args s 0 0 A) (mW K a now past err lef msg met par sv hash) 109 [(0, .ref (a 0)), (3, .int x3), (4, .int x4), (5, .int x5), (6, .int x6)] [] := by
  intro n
  induction n with
  | zero => intro _ _ _ _ _ hf; cases hf
  | succ n ih => intro _ _ _ _ _ hf; exact WX3_rankOf_109 C hr61 ih hf
set_option maxRecDepth 20000 in
set_option maxHeartbeats 2000000 in
theorem WX3_rankOf_61 {p : Program} {l : Launch} {e : Env} {s : State} {m : MethodId} {args : Array Value} {below : List Frame} {meth : Method} {c : Code} {K : KK} {A : Nat → Prop} {a : Nat → Nat} (C : Cx p s m args meth c K A cX3_rankOf 7 RX3 wsX3_rankOf (some .int)) {z : Int32 × (Nat → Int32)} {now : Nat → Int32} {past : Nat → Int32} {err : Nat → Int32} {msg : Nat → Int32} {met : Nat → Int32} {par : Nat → Int32} {sv : Int32} {hash : Int64} {r61 : (Nat → Int32) → Int32 → Int32 → Option (Int32 × (Nat → Int32))} {lef : Nat → Int32} {x3 : Int32} {x4 : Int32} (hr61 : ∀ (lef : Nat → Int32) (x3 : Int32) (x4 : Int32), r61 lef x3 x4 = some z → Go p l e (RM 0) s m args below meth c K A 7 0 0 (MQ below (QR K (some (.int z.1)) (mW K a now past err z.2 msg met par sv hash) A) args s 0 0 A) (mW K a now past err lef msg met par sv hash) 61 [(0, .ref (a 0)), (3, .int x3), (4, .int x4)] []) (hf : FX3_rankOf_61 now r61 lef x3 x4 = some z) : Go p l e (RM 0) s m args below meth c K A 7 0 0 (MQ below (QR K (some (.int z.1)) (mW K a now past err z.2 msg met par sv hash) A) args s 0 0 A) (mW K a now past err lef msg met par sv hash) 61 [(0, .ref (a 0)), (3, .int x3), (4, .int x4)] [] := by
  unfold FX3_rankOf_61 at hf
  refine go_iload C 2 dX3_rankOf_61 rfl ?_
  refine go_aload_n C 0 dX3_rankOf_63 rfl rfl ?_
  refine gM_get_now C iX3_rankOf_3 kX3_rankOf_7 dX3_rankOf_64 ?_
  refine go_iconst (v := 1) C dX3_rankOf_67 (by decide) ?_
  refine gM_rd_now C dX3_rankOf_68 hf (fun v8 hf => ?_)
  refine go_c2_ge C (tgt := 166) dX3_rankOf_69 (by decide) hf (fun h hf => ?_) (fun h hf => ?_)
  · refine go_iload_n C 1 dX3_rankOf_166 rfl rfl ?_
    cases hf
    exact go_iret C dX3_rankOf_167
  · refine go_aload_n C 0 dX3_rankOf_72 rfl rfl ?_
    refine gM_get_left C iX3_rankOf_3 kX3_rankOf_19 dX3_rankOf_73 ?_
    refine go_iload C 2 dX3_rankOf_76 rfl ?_
    refine gM_rd_lef C dX3_rankOf_78 hf (fun v9 hf => ?_)
    refine go_c1_eq C (tgt := 160) dX3_rankOf_79 (by decide) hf (fun h hf => ?_) (fun h hf => ?_)
    · exact WX3_rankOf_160 C hr61 hf
    · refine go_iinc C (v := x3 + 1) (lv' := [(0, .ref (a 0)), (3, .int (x3 + 1)), (4, .int x4)]) 1 [1, 0, 2] dX3_rankOf_82 rfl rfl (by decide) rfl ?_
      refine go_aload_n C 0 dX3_rankOf_85 rfl rfl ?_
      refine gM_get_left C iX3_rankOf_3 kX3_rankOf_19 dX3_rankOf_86 ?_
      refine go_iload C 2 dX3_rankOf_89 rfl ?_
      refine gM_rd_lef C dX3_rankOf_91 hf (fun v10 hf => ?_)
      refine go_aload_n C 0 dX3_rankOf_92 rfl rfl ?_
      refine gM_get_left C iX3_rankOf_3 kX3_rankOf_19 dX3_rankOf_93 ?_
      refine go_iload C 2 dX3_rankOf_96 rfl ?_
      refine gM_rd_lef C dX3_rankOf_98 hf (fun v11 hf => ?_)
      refine go_ineg C dX3_rankOf_99 ?_
      refine go_iand C dX3_rankOf_100 ?_
      refine go_istore C (lv' := [(0, .ref (a 0)), (3, .int (x3 + 1)), (4, .int x4), (5, .int (v10 &&& (-v11)))]) [1, 2, 3, 0] dX3_rankOf_101 (by decide) rfl ?_
      refine go_iload C 2 dX3_rankOf_103 rfl ?_
      refine go_iconst (v := 1) C dX3_rankOf_105 (by decide) ?_
      refine go_iadd C dX3_rankOf_106 ?_
      refine go_istore C (lv' := [(0, .ref (a 0)), (3, .int (x3 + 1)), (4, .int x4), (5, .int (v10 &&& (-v11))), (6, .int (x4 + 1))]) [1, 2, 3, 4, 0] dX3_rankOf_107 (by decide) rfl ?_
      exact wX3_rankOf_109 C hr61 300 _ _ _ _ _ hf
theorem wX3_rankOf_61 {p : Program} {l : Launch} {e : Env} {s : State} {m : MethodId} {args : Array Value} {below : List Frame} {meth : Method} {c : Code} {K : KK} {A : Nat → Prop} {a : Nat → Nat} (C : Cx p s m args meth c K A cX3_rankOf 7 RX3 wsX3_rankOf (some .int)) {z : Int32 × (Nat → Int32)} {now : Nat → Int32} {past : Nat → Int32} {err : Nat → Int32} {msg : Nat → Int32} {met : Nat → Int32} {par : Nat → Int32} {sv : Int32} {hash : Int64} : ∀ (n : Nat) (lef : Nat → Int32) (x3 : Int32) (x4 : Int32), fX3_rankOf_61 now  n lef x3 x4 = some z → Go p l e (RM 0) s m args below meth c K A 7 0 0 (MQ below (QR K (some (.int z.1)) (mW K a now past err z.2 msg met par sv hash) A) args s 0 0 A) (mW K a now past err lef msg met par sv hash) 61 [(0, .ref (a 0)), (3, .int x3), (4, .int x4)] [] := by
  intro n
  induction n with
  | zero => intro _ _ _ hf; cases hf
  | succ n ih => intro _ _ _ hf; exact WX3_rankOf_61 C  ih hf
set_option maxRecDepth 20000 in
set_option maxHeartbeats 2000000 in
theorem WX3_rankOf_2 {p : Program} {l : Launch} {e : Env} {s : State} {m : MethodId} {args : Array Value} {below : List Frame} {meth : Method} {c : Code} {K : KK} {A : Nat → Prop} {a : Nat → Nat} (C : Cx p s m args meth c K A cX3_rankOf 7 RX3 wsX3_rankOf (some .int)) {z : Int32 × (Nat → Int32)} {now : Nat → Int32} {past : Nat → Int32} {err : Nat → Int32} {msg : Nat → Int32} {met : Nat → Int32} {par : Nat → Int32} {sv : Int32} {hash : Int64} {r2 : (Nat → Int32) → Int32 → Int32 → Int32 → Option (Int32 × (Nat → Int32))} {lef : Nat → Int32} {x1 : Int32} {x2 : Int32} {x3 : Int32} (hr2 : ∀ (lef : Nat → Int32) (x1 : Int32) (x2 : Int32) (x3 : Int32), r2 lef x1 x2 x3 = some z → Go p l e (RM 0) s m args below meth c K A 7 0 0 (MQ below (QR K (some (.int z.1)) (mW K a now past err z.2 msg met par sv hash) A) args s 0 0 A) (mW K a now past err lef msg met par sv hash) 2 [(0, .ref (a 0)), (1, .int x1), (2, .int x2), (3, .int x3)] []) (hf : FX3_rankOf_2 now r2 lef x1 x2 x3 = some z) : Go p l e (RM 0) s m args below meth c K A 7 0 0 (MQ below (QR K (some (.int z.1)) (mW K a now past err z.2 msg met par sv hash) A) args s 0 0 A) (mW K a now past err lef msg met par sv hash) 2 [(0, .ref (a 0)), (1, .int x1), (2, .int x2), (3, .int x3)] [] := by
  unfold FX3_rankOf_2 at hf
  refine go_iload_n C 3 dX3_rankOf_2 rfl rfl ?_
  refine go_aload_n C 0 dX3_rankOf_3 rfl rfl ?_
  refine gM_get_now C iX3_rankOf_3 kX3_rankOf_7 dX3_rankOf_4 ?_
  refine go_iconst (v := 1) C dX3_rankOf_7 (by decide) ?_
  refine gM_rd_now C dX3_rankOf_8 hf (fun v12 hf => ?_)
  refine go_c2_ge C (tgt := 56) dX3_rankOf_9 (by decide) hf (fun h hf => ?_) (fun h hf => ?_)
  · refine go_iconst (v := 0) C dX3_rankOf_56 (by decide) ?_
    refine go_istore_n C (lv' := [(0, .ref (a 0)), (1, .int x1), (2, .int x2), (3, .int 0)]) [1, 2, 3, 0] dX3_rankOf_57 rfl (by decide) rfl ?_
    refine go_iconst (v := 0) C dX3_rankOf_58 (by decide) ?_
    refine go_istore C (lv' := [(0, .ref (a 0)), (1, .int x1), (2, .int x2), (3, .int 0), (4, .int 0)]) [1, 2, 3, 4, 0] dX3_rankOf_59 (by decide) rfl ?_
    refine go_lv (lv' := [(0, .ref (a 0)), (3, .int 0), (4, .int 0)]) [0, 3, 4] rfl ?_
    exact wX3_rankOf_61 C  300 _ _ _ hf
  · refine go_aload_n C 0 dX3_rankOf_12 rfl rfl ?_
    refine gM_get_left C iX3_rankOf_3 kX3_rankOf_19 dX3_rankOf_13 ?_
    refine go_iload_n C 3 dX3_rankOf_16 rfl rfl ?_
    refine go_iload_n C 1 dX3_rankOf_17 rfl rfl ?_
    refine go_iconst (v := 2) C dX3_rankOf_18 (by decide) ?_
    refine go_c2_eq C (tgt := 35) dX3_rankOf_19 (by decide) hf (fun h hf => ?_) (fun h hf => ?_)
    · exact WX3_rankOf_35 C hr2 hf
    · refine go_aload_n C 0 dX3_rankOf_22 rfl rfl ?_
      refine gM_get_now C iX3_rankOf_3 kX3_rankOf_7 dX3_rankOf_23 ?_
      refine go_bipush (v := 8) C dX3_rankOf_26 (by decide) ?_
      refine go_iload_n C 3 dX3_rankOf_28 rfl rfl ?_
      refine go_iadd C dX3_rankOf_29 ?_
      refine gM_rd_now C dX3_rankOf_30 hf (fun v13 hf => ?_)
      refine go_iload_n C 1 dX3_rankOf_31 rfl rfl ?_
      refine go_c2_ne C (tgt := 48) dX3_rankOf_32 (by decide) hf (fun h hf => ?_) (fun h hf => ?_)
      · refine go_iconst (v := 0) C dX3_rankOf_48 (by decide) ?_
        exact WX3_rankOf_49 C hr2 hf
      · exact WX3_rankOf_35 C hr2 hf
theorem wX3_rankOf_2 {p : Program} {l : Launch} {e : Env} {s : State} {m : MethodId} {args : Array Value} {below : List Frame} {meth : Method} {c : Code} {K : KK} {A : Nat → Prop} {a : Nat → Nat} (C : Cx p s m args meth c K A cX3_rankOf 7 RX3 wsX3_rankOf (some .int)) {z : Int32 × (Nat → Int32)} {now : Nat → Int32} {past : Nat → Int32} {err : Nat → Int32} {msg : Nat → Int32} {met : Nat → Int32} {par : Nat → Int32} {sv : Int32} {hash : Int64} : ∀ (n : Nat) (lef : Nat → Int32) (x1 : Int32) (x2 : Int32) (x3 : Int32), fX3_rankOf_2 now  n lef x1 x2 x3 = some z → Go p l e (RM 0) s m args below meth c K A 7 0 0 (MQ below (QR K (some (.int z.1)) (mW K a now past err z.2 msg met par sv hash) A) args s 0 0 A) (mW K a now past err lef msg met par sv hash) 2 [(0, .ref (a 0)), (1, .int x1), (2, .int x2), (3, .int x3)] [] := by
  intro n
  induction n with
  | zero => intro _ _ _ _ hf; cases hf
  | succ n ih => intro _ _ _ _ hf; exact WX3_rankOf_2 C  ih hf
set_option maxRecDepth 20000 in
set_option maxHeartbeats 2000000 in
theorem WX3_rankOf_0 {p : Program} {l : Launch} {e : Env} {s : State} {m : MethodId} {args : Array Value} {below : List Frame} {meth : Method} {c : Code} {K : KK} {A : Nat → Prop} {a : Nat → Nat} (C : Cx p s m args meth c K A cX3_rankOf 7 RX3 wsX3_rankOf (some .int)) {z : Int32 × (Nat → Int32)} {now : Nat → Int32} {past : Nat → Int32} {err : Nat → Int32} {msg : Nat → Int32} {met : Nat → Int32} {par : Nat → Int32} {sv : Int32} {hash : Int64} {lef : Nat → Int32} {x1 : Int32} {x2 : Int32} (hf : FX3_rankOf_0 now  lef x1 x2 = some z) : Go p l e (RM 0) s m args below meth c K A 7 0 0 (MQ below (QR K (some (.int z.1)) (mW K a now past err z.2 msg met par sv hash) A) args s 0 0 A) (mW K a now past err lef msg met par sv hash) 0 [(0, .ref (a 0)), (1, .int x1), (2, .int x2)] [] := by
  unfold FX3_rankOf_0 at hf
  refine go_iconst (v := 0) C dX3_rankOf_0 (by decide) ?_
  refine go_istore_n C (lv' := [(0, .ref (a 0)), (1, .int x1), (2, .int x2), (3, .int 0)]) [1, 2, 3, 0] dX3_rankOf_1 rfl (by decide) rfl ?_
  exact wX3_rankOf_2 C  300 _ _ _ _ hf
set_option maxRecDepth 20000 in
theorem con_X3_rankOf (l : Launch) (K : KK) (a : Nat → Nat) {now : Nat → Int32} {past : Nat → Int32} {err : Nat → Int32} {lef : Nat → Int32} {msg : Nat → Int32} {met : Nat → Int32} {par : Nat → Int32} {sv : Int32} {hash : Int64} {x1 : Int32} {x2 : Int32} {z : Int32 × (Nat → Int32)} (hf : fX3_rankOf now lef x1 x2 = some z) : Con l yX3_rankOf wsX3_rankOf 0 K [.ref (a 0), .int x1, .int x2] (mW K a now past err lef msg met par sv hash) (some (.int z.1)) (mW K a now past err z.2 msg met par sv hash) :=
  con_of (cc := cX3_rankOf) (maxL := 7) (ret := (some .int)) (own := RX3) (lv0 := [(0, .ref (a 0)), (1, .int x1), (2, .int x2)]) (by decide) rfl rfl (Nat.le_of_ble_eq_true rfl) rfl (fun p e s m args below meth c A C => go_lv (lv' := [(0, .ref (a 0)), (1, .int x1), (2, .int x2)]) [0, 1, 2] rfl (WX3_rankOf_0 C hf))
set_option maxRecDepth 20000 in
theorem call_X3_rankOf {p : Program} {l : Launch} {e : Env} {s : State} {m : MethodId} {args : Array Value} {below : List Frame} {meth : Method} {c : Code} {K : KK} {A : Nat → Prop} {Q : State → Prop} {cc : ByteArray} {nL : Nat} {Ts : List Cond} {ret : Option FieldType} {pc : Nat} {lv : List (Nat × Value)} {st : List Value} {ix d : Nat} {α : Type} {kk : Int32 × (Nat → Int32) → Option α} {y : α} {a : Nat → Nat} {now : Nat → Int32} {past : Nat → Int32} {err : Nat → Int32} {lef : Nat → Int32} {msg : Nat → Int32} {met : Nat → Int32} {par : Nat → Int32} {sv : Int32} {hash : Int64} {q0 : Int32} {q1 : Int32} (C : Cx p s m args meth c K A cc nL RX3 Ts ret) (hG : GoodIn Ts (wsV RX3 ix RX3 yX3_rankOf wsX3_rankOf)) (hd : decode cc pc = .ok (.invokevirtual ix, 3)) (hdd : 0 < d) (hro : (st.map fun v => v.category).sum ≤ 8) (hf : (fX3_rankOf now lef q0 q1).bind kk = some y) (k : ∀ v, kk v = some y → Go p l e (RM d) s m args below meth c K A nL 0 0 Q (mW K a now past err v.2 msg met par sv hash) (pc + 3) lv (.int (v.1) :: st)) : Go p l e (RM d) s m args below meth c K A nL 0 0 Q (mW K a now past err lef msg met par sv hash) pc lv (.int q1 :: .int q0 :: .ref (a 0) :: st) := by
  obtain ⟨v, hv, hf⟩ := bd_some hf
  exact go_callV_full (ry := (some .int)) (n := 2) (b := a 0) (As := [.int q0, .int q1]) (rest := st) C (con_X3_rankOf l K a hv) hG (by decide) rfl ⟨Nat.succ_le_of_lt hdd, by show 8 + (7 + 11) + 40 * 0 ≤ 40 * d; omega⟩ ⟨Nat.le_refl _, Nat.le_refl _⟩ ⟨0, 3, _, _, rfl, rfl, rfl⟩ rfl rfl hro hd (k v hf)
-- X3_rank
set_option maxRecDepth 20000 in
set_option maxHeartbeats 2000000 in
theorem WX3_rank_29 {p : Program} {l : Launch} {e : Env} {s : State} {m : MethodId} {args : Array Value} {below : List Frame} {meth : Method} {c : Code} {K : KK} {A : Nat → Prop} {a : Nat → Nat} (C : Cx p s m args meth c K A cX3_rank 2 RX3 wsX3_rank (some .int)) {z : Int32 × (Nat → Int32) × (Nat → Int32)} {now : Nat → Int32} {past : Nat → Int32} {msg : Nat → Int32} {met : Nat → Int32} {par : Nat → Int32} {sv : Int32} {hash : Int64} {err : Nat → Int32} {lef : Nat → Int32} {t0 : Int32} (hf : FX3_rank_29 now  err lef t0 = some z) : Go p l e (RM 1) s m args below meth c K A 2 0 0 (MQ below (QR K (some (.int z.1)) (mW K a now past z.2.1 z.2.2 msg met par sv hash) A) args s 0 0 A) (mW K a now past err lef msg met par sv hash) 29 [] [.int t0] := by
  unfold FX3_rank_29 at hf
  cases hf
  exact go_iret C dX3_rank_29
set_option maxRecDepth 20000 in
set_option maxHeartbeats 2000000 in
theorem WX3_rank_0 {p : Program} {l : Launch} {e : Env} {s : State} {m : MethodId} {args : Array Value} {below : List Frame} {meth : Method} {c : Code} {K : KK} {A : Nat → Prop} {a : Nat → Nat} (C : Cx p s m args meth c K A cX3_rank 2 RX3 wsX3_rank (some .int)) {z : Int32 × (Nat → Int32) × (Nat → Int32)} {now : Nat → Int32} {past : Nat → Int32} {msg : Nat → Int32} {met : Nat → Int32} {par : Nat → Int32} {sv : Int32} {hash : Int64} {err : Nat → Int32} {lef : Nat → Int32} {x1 : Int32} (hf : FX3_rank_0 now  err lef x1 = some z) : Go p l e (RM 1) s m args below meth c K A 2 0 0 (MQ below (QR K (some (.int z.1)) (mW K a now past z.2.1 z.2.2 msg met par sv hash) A) args s 0 0 A) (mW K a now past err lef msg met par sv hash) 0 [(0, .ref (a 0)), (1, .int x1)] [] := by
  unfold FX3_rank_0 at hf
  refine go_iload_n C 1 dX3_rank_0 rfl rfl ?_
  refine go_iconst (v := 0) C dX3_rank_1 (by decide) ?_
  refine go_iconst (v := 2) C dX3_rank_2 (by decide) ?_
  refine call_X3_within C gX3_rank_X3_within dX3_rank_3 (by decide) (Nat.le_of_ble_eq_true rfl) hf (fun v1 hf => ?_)
  refine go_c1_eq C (tgt := 23) dX3_rank_6 (by decide) hf (fun h hf => ?_) (fun h hf => ?_)
  · refine go_aload_n C 0 dX3_rank_23 rfl rfl ?_
    refine go_bipush (v := (-2)) C dX3_rank_24 (by decide) ?_
    refine call_X3_fails C gX3_rank_X3_fails dX3_rank_26 (by decide) (Nat.le_of_ble_eq_true rfl) hf (fun v2 hf => ?_)
    refine go_lv (lv' := []) [] rfl ?_
    exact WX3_rank_29 C  hf
  · refine go_aload_n C 0 dX3_rank_9 rfl rfl ?_
    refine go_iload_n C 1 dX3_rank_10 rfl rfl ?_
    refine go_aload_n C 0 dX3_rank_11 rfl rfl ?_
    refine call_X3_words C gX3_rank_X3_words dX3_rank_12 (by decide) (Nat.le_of_ble_eq_true rfl) hf (fun v3 hf => ?_)
    refine go_iconst (v := 1) C dX3_rank_15 (by decide) ?_
    refine go_isub C dX3_rank_16 ?_
    refine call_X3_rankOf C gX3_rank_X3_rankOf dX3_rank_17 (by decide) (Nat.le_of_ble_eq_true rfl) hf (fun v4 hf => ?_)
    refine go_goto C (tgt := 29) dX3_rank_20 (by decide) ?_
    refine go_lv (lv' := []) [] rfl ?_
    exact WX3_rank_29 C  hf
set_option maxRecDepth 20000 in
theorem con_X3_rank (l : Launch) (K : KK) (a : Nat → Nat) {now : Nat → Int32} {past : Nat → Int32} {err : Nat → Int32} {lef : Nat → Int32} {msg : Nat → Int32} {met : Nat → Int32} {par : Nat → Int32} {sv : Int32} {hash : Int64} {x1 : Int32} {z : Int32 × (Nat → Int32) × (Nat → Int32)} (hf : fX3_rank now err lef x1 = some z) : Con l yX3_rank wsX3_rank 1 K [.ref (a 0), .int x1] (mW K a now past err lef msg met par sv hash) (some (.int z.1)) (mW K a now past z.2.1 z.2.2 msg met par sv hash) :=
  con_of (cc := cX3_rank) (maxL := 2) (ret := (some .int)) (own := RX3) (lv0 := [(0, .ref (a 0)), (1, .int x1)]) (by decide) rfl rfl (Nat.le_of_ble_eq_true rfl) rfl (fun p e s m args below meth c A C => go_lv (lv' := [(0, .ref (a 0)), (1, .int x1)]) [0, 1] rfl (WX3_rank_0 C hf))
set_option maxRecDepth 20000 in
theorem call_X3_rank {p : Program} {l : Launch} {e : Env} {s : State} {m : MethodId} {args : Array Value} {below : List Frame} {meth : Method} {c : Code} {K : KK} {A : Nat → Prop} {Q : State → Prop} {cc : ByteArray} {nL : Nat} {Ts : List Cond} {ret : Option FieldType} {pc : Nat} {lv : List (Nat × Value)} {st : List Value} {ix d : Nat} {α : Type} {kk : Int32 × (Nat → Int32) × (Nat → Int32) → Option α} {y : α} {a : Nat → Nat} {now : Nat → Int32} {past : Nat → Int32} {err : Nat → Int32} {lef : Nat → Int32} {msg : Nat → Int32} {met : Nat → Int32} {par : Nat → Int32} {sv : Int32} {hash : Int64} {q0 : Int32} (C : Cx p s m args meth c K A cc nL RX3 Ts ret) (hG : GoodIn Ts (wsV RX3 ix RX3 yX3_rank wsX3_rank)) (hd : decode cc pc = .ok (.invokevirtual ix, 3)) (hdd : 1 < d) (hro : (st.map fun v => v.category).sum ≤ 8) (hf : (fX3_rank now err lef q0).bind kk = some y) (k : ∀ v, kk v = some y → Go p l e (RM d) s m args below meth c K A nL 0 0 Q (mW K a now past v.2.1 v.2.2 msg met par sv hash) (pc + 3) lv (.int (v.1) :: st)) : Go p l e (RM d) s m args below meth c K A nL 0 0 Q (mW K a now past err lef msg met par sv hash) pc lv (.int q0 :: .ref (a 0) :: st) := by
  obtain ⟨v, hv, hf⟩ := bd_some hf
  exact go_callV_full (ry := (some .int)) (n := 1) (b := a 0) (As := [.int q0]) (rest := st) C (con_X3_rank l K a hv) hG (by decide) rfl ⟨Nat.succ_le_of_lt hdd, by show 8 + (2 + 11) + 40 * 1 ≤ 40 * d; omega⟩ ⟨Nat.le_refl _, Nat.le_refl _⟩ ⟨0, 3, _, _, rfl, rfl, rfl⟩ rfl rfl hro hd (k v hf)
-- X3_syndrome
theorem iX3_syndrome_3 : ∀ w ∈ wsX30, w ∈ wsX3_syndrome := by decide +kernel
theorem kX3_syndrome_7 : Cond.fieldLink RX3 7 "CosetCoderModel" "now" "[I" ∈ wsX3_syndrome := by decide +kernel
set_option maxRecDepth 20000 in
set_option maxHeartbeats 2000000 in
theorem WX3_syndrome_58 {p : Program} {l : Launch} {e : Env} {s : State} {m : MethodId} {args : Array Value} {below : List Frame} {meth : Method} {c : Code} {K : KK} {A : Nat → Prop} {a : Nat → Nat} (C : Cx p s m args meth c K A cX3_syndrome 6 RX3 wsX3_syndrome (some .int)) {z : Int32} {now : Nat → Int32} {past : Nat → Int32} {err : Nat → Int32} {lef : Nat → Int32} {msg : Nat → Int32} {met : Nat → Int32} {par : Nat → Int32} {sv : Int32} {hash : Int64} {r8 : Int32 → Int32 → Int32 → Int32 → Int32 → Option (Int32)} {x1 : Int32} {x2 : Int32} {x3 : Int32} {x4 : Int32} {x5 : Int32} (hr8 : ∀ (x1 : Int32) (x2 : Int32) (x3 : Int32) (x4 : Int32) (x5 : Int32), r8 x1 x2 x3 x4 x5 = some z → Go p l e (RM 1) s m args below meth c K A 6 0 0 (MQ below (QR K (some (.int z)) (mW K a now past err lef msg met par sv hash) A) args s 0 0 A) (mW K a now past err lef msg met par sv hash) 8 [(0, .ref (a 0)), (1, .int x1), (2, .int x2), (3, .int x3), (4, .int x4), (5, .int x5)] []) (hf : FX3_syndrome_58 now r8 x1 x2 x3 x4 x5 = some z) : Go p l e (RM 1) s m args below meth c K A 6 0 0 (MQ below (QR K (some (.int z)) (mW K a now past err lef msg met par sv hash) A) args s 0 0 A) (mW K a now past err lef msg met par sv hash) 58 [(0, .ref (a 0)), (1, .int x1), (2, .int x2), (3, .int x3), (4, .int x4), (5, .int x5)] [] := by
  unfold FX3_syndrome_58 at hf
  refine go_iinc C (v := x5 + 1) (lv' := [(0, .ref (a 0)), (1, .int x1), (2, .int x2), (3, .int x3), (4, .int x4), (5, .int (x5 + 1))]) 5 [1, 2, 3, 4, 5, 0] dX3_syndrome_58 rfl rfl (by decide) rfl ?_
  refine go_goto C (tgt := 8) dX3_syndrome_61 (by decide) ?_
  exact hr8 _ _ _ _ _ hf
set_option maxRecDepth 20000 in
set_option maxHeartbeats 2000000 in
theorem WX3_syndrome_8 {p : Program} {l : Launch} {e : Env} {s : State} {m : MethodId} {args : Array Value} {below : List Frame} {meth : Method} {c : Code} {K : KK} {A : Nat → Prop} {a : Nat → Nat} (C : Cx p s m args meth c K A cX3_syndrome 6 RX3 wsX3_syndrome (some .int)) {z : Int32} {now : Nat → Int32} {past : Nat → Int32} {err : Nat → Int32} {lef : Nat → Int32} {msg : Nat → Int32} {met : Nat → Int32} {par : Nat → Int32} {sv : Int32} {hash : Int64} {r8 : Int32 → Int32 → Int32 → Int32 → Int32 → Option (Int32)} {x1 : Int32} {x2 : Int32} {x3 : Int32} {x4 : Int32} {x5 : Int32} (hr8 : ∀ (x1 : Int32) (x2 : Int32) (x3 : Int32) (x4 : Int32) (x5 : Int32), r8 x1 x2 x3 x4 x5 = some z → Go p l e (RM 1) s m args below meth c K A 6 0 0 (MQ below (QR K (some (.int z)) (mW K a now past err lef msg met par sv hash) A) args s 0 0 A) (mW K a now past err lef msg met par sv hash) 8 [(0, .ref (a 0)), (1, .int x1), (2, .int x2), (3, .int x3), (4, .int x4), (5, .int x5)] []) (hf : FX3_syndrome_8 now r8 x1 x2 x3 x4 x5 = some z) : Go p l e (RM 1) s m args below meth c K A 6 0 0 (MQ below (QR K (some (.int z)) (mW K a now past err lef msg met par sv hash) A) args s 0 0 A) (mW K a now past err lef msg met par sv hash) 8 [(0, .ref (a 0)), (1, .int x1), (2, .int x2), (3, .int x3), (4, .int x4), (5, .int x5)] [] := by
  unfold FX3_syndrome_8 at hf
  refine go_iload C 5 dX3_syndrome_8 rfl ?_
  refine go_aload_n C 0 dX3_syndrome_10 rfl rfl ?_
  refine gM_get_now C iX3_syndrome_3 kX3_syndrome_7 dX3_syndrome_11 ?_
  refine go_iconst (v := 1) C dX3_syndrome_14 (by decide) ?_
  refine gM_rd_now C dX3_syndrome_15 hf (fun v1 hf => ?_)
  refine go_c2_ge C (tgt := 64) dX3_syndrome_16 (by decide) hf (fun h hf => ?_) (fun h hf => ?_)
  · refine go_iload_n C 3 dX3_syndrome_64 rfl rfl ?_
    cases hf
    exact go_iret C dX3_syndrome_65
  · refine go_aload_n C 0 dX3_syndrome_19 rfl rfl ?_
    refine gM_get_now C iX3_syndrome_3 kX3_syndrome_7 dX3_syndrome_20 ?_
    refine go_bipush (v := 8) C dX3_syndrome_23 (by decide) ?_
    refine go_iload C 5 dX3_syndrome_25 rfl ?_
    refine go_iadd C dX3_syndrome_27 ?_
    refine gM_rd_now C dX3_syndrome_28 hf (fun v2 hf => ?_)
    refine go_iload_n C 2 dX3_syndrome_29 rfl rfl ?_
    refine go_c2_ne C (tgt := 58) dX3_syndrome_30 (by decide) hf (fun h hf => ?_) (fun h hf => ?_)
    · exact WX3_syndrome_58 C hr8 hf
    · refine go_iload_n C 3 dX3_syndrome_33 rfl rfl ?_
      refine go_aload_n C 0 dX3_syndrome_34 rfl rfl ?_
      refine gM_get_now C iX3_syndrome_3 kX3_syndrome_7 dX3_syndrome_35 ?_
      refine go_iconst (v := 2) C dX3_syndrome_38 (by decide) ?_
      refine go_iload C 5 dX3_syndrome_39 rfl ?_
      refine go_iadd C dX3_syndrome_41 ?_
      refine gM_rd_now C dX3_syndrome_42 hf (fun v3 hf => ?_)
      refine go_iload_n C 1 dX3_syndrome_43 rfl rfl ?_
      refine go_iand C dX3_syndrome_44 ?_
      refine call_X3_ones C gX3_syndrome_X3_ones dX3_syndrome_45 (by decide) (Nat.le_of_ble_eq_true rfl) hf (fun v4 hf => ?_)
      refine go_iconst (v := 1) C dX3_syndrome_48 (by decide) ?_
      refine go_iand C dX3_syndrome_49 ?_
      refine go_iload C 4 dX3_syndrome_50 rfl ?_
      refine go_ishl C dX3_syndrome_52 ?_
      refine go_ior C dX3_syndrome_53 ?_
      refine go_istore_n C (lv' := [(0, .ref (a 0)), (1, .int x1), (2, .int x2), (3, .int (x3 ||| ((v4 &&& 1) <<< (x4 &&& 31)))), (4, .int x4), (5, .int x5)]) [1, 2, 3, 0, 4, 5] dX3_syndrome_54 rfl (by decide) rfl ?_
      refine go_iinc C (v := x4 + 1) (lv' := [(0, .ref (a 0)), (1, .int x1), (2, .int x2), (3, .int (x3 ||| ((v4 &&& 1) <<< (x4 &&& 31)))), (4, .int (x4 + 1)), (5, .int x5)]) 4 [1, 2, 3, 4, 0, 5] dX3_syndrome_55 rfl rfl (by decide) rfl ?_
      exact WX3_syndrome_58 C hr8 hf
theorem wX3_syndrome_8 {p : Program} {l : Launch} {e : Env} {s : State} {m : MethodId} {args : Array Value} {below : List Frame} {meth : Method} {c : Code} {K : KK} {A : Nat → Prop} {a : Nat → Nat} (C : Cx p s m args meth c K A cX3_syndrome 6 RX3 wsX3_syndrome (some .int)) {z : Int32} {now : Nat → Int32} {past : Nat → Int32} {err : Nat → Int32} {lef : Nat → Int32} {msg : Nat → Int32} {met : Nat → Int32} {par : Nat → Int32} {sv : Int32} {hash : Int64} : ∀ (n : Nat) (x1 : Int32) (x2 : Int32) (x3 : Int32) (x4 : Int32) (x5 : Int32), fX3_syndrome_8 now  n x1 x2 x3 x4 x5 = some z → Go p l e (RM 1) s m args below meth c K A 6 0 0 (MQ below (QR K (some (.int z)) (mW K a now past err lef msg met par sv hash) A) args s 0 0 A) (mW K a now past err lef msg met par sv hash) 8 [(0, .ref (a 0)), (1, .int x1), (2, .int x2), (3, .int x3), (4, .int x4), (5, .int x5)] [] := by
  intro n
  induction n with
  | zero => intro _ _ _ _ _ hf; cases hf
  | succ n ih => intro _ _ _ _ _ hf; exact WX3_syndrome_8 C  ih hf
set_option maxRecDepth 20000 in
set_option maxHeartbeats 2000000 in
theorem WX3_syndrome_0 {p : Program} {l : Launch} {e : Env} {s : State} {m : MethodId} {args : Array Value} {below : List Frame} {meth : Method} {c : Code} {K : KK} {A : Nat → Prop} {a : Nat → Nat} (C : Cx p s m args meth c K A cX3_syndrome 6 RX3 wsX3_syndrome (some .int)) {z : Int32} {now : Nat → Int32} {past : Nat → Int32} {err : Nat → Int32} {lef : Nat → Int32} {msg : Nat → Int32} {met : Nat → Int32} {par : Nat → Int32} {sv : Int32} {hash : Int64} {x1 : Int32} {x2 : Int32} (hf : FX3_syndrome_0 now  x1 x2 = some z) : Go p l e (RM 1) s m args below meth c K A 6 0 0 (MQ below (QR K (some (.int z)) (mW K a now past err lef msg met par sv hash) A) args s 0 0 A) (mW K a now past err lef msg met par sv hash) 0 [(0, .ref (a 0)), (1, .int x1), (2, .int x2)] [] := by
  unfold FX3_syndrome_0 at hf
  refine go_iconst (v := 0) C dX3_syndrome_0 (by decide) ?_
  refine go_istore_n C (lv' := [(0, .ref (a 0)), (1, .int x1), (2, .int x2), (3, .int 0)]) [1, 2, 3, 0] dX3_syndrome_1 rfl (by decide) rfl ?_
  refine go_iconst (v := 0) C dX3_syndrome_2 (by decide) ?_
  refine go_istore C (lv' := [(0, .ref (a 0)), (1, .int x1), (2, .int x2), (3, .int 0), (4, .int 0)]) [1, 2, 3, 4, 0] dX3_syndrome_3 (by decide) rfl ?_
  refine go_iconst (v := 0) C dX3_syndrome_5 (by decide) ?_
  refine go_istore C (lv' := [(0, .ref (a 0)), (1, .int x1), (2, .int x2), (3, .int 0), (4, .int 0), (5, .int 0)]) [1, 2, 3, 4, 5, 0] dX3_syndrome_6 (by decide) rfl ?_
  exact wX3_syndrome_8 C  300 _ _ _ _ _ hf
set_option maxRecDepth 20000 in
theorem con_X3_syndrome (l : Launch) (K : KK) (a : Nat → Nat) {now : Nat → Int32} {past : Nat → Int32} {err : Nat → Int32} {lef : Nat → Int32} {msg : Nat → Int32} {met : Nat → Int32} {par : Nat → Int32} {sv : Int32} {hash : Int64} {x1 : Int32} {x2 : Int32} {z : Int32} (hf : fX3_syndrome now x1 x2 = some z) : Con l yX3_syndrome wsX3_syndrome 1 K [.ref (a 0), .int x1, .int x2] (mW K a now past err lef msg met par sv hash) (some (.int z)) (mW K a now past err lef msg met par sv hash) :=
  con_of (cc := cX3_syndrome) (maxL := 6) (ret := (some .int)) (own := RX3) (lv0 := [(0, .ref (a 0)), (1, .int x1), (2, .int x2)]) (by decide) rfl rfl (Nat.le_of_ble_eq_true rfl) rfl (fun p e s m args below meth c A C => go_lv (lv' := [(0, .ref (a 0)), (1, .int x1), (2, .int x2)]) [0, 1, 2] rfl (WX3_syndrome_0 C hf))
set_option maxRecDepth 20000 in
theorem call_X3_syndrome {p : Program} {l : Launch} {e : Env} {s : State} {m : MethodId} {args : Array Value} {below : List Frame} {meth : Method} {c : Code} {K : KK} {A : Nat → Prop} {Q : State → Prop} {cc : ByteArray} {nL : Nat} {Ts : List Cond} {ret : Option FieldType} {pc : Nat} {lv : List (Nat × Value)} {st : List Value} {ix d : Nat} {α : Type} {kk : Int32 → Option α} {y : α} {a : Nat → Nat} {now : Nat → Int32} {past : Nat → Int32} {err : Nat → Int32} {lef : Nat → Int32} {msg : Nat → Int32} {met : Nat → Int32} {par : Nat → Int32} {sv : Int32} {hash : Int64} {q0 : Int32} {q1 : Int32} (C : Cx p s m args meth c K A cc nL RX3 Ts ret) (hG : GoodIn Ts (wsV RX3 ix RX3 yX3_syndrome wsX3_syndrome)) (hd : decode cc pc = .ok (.invokevirtual ix, 3)) (hdd : 1 < d) (hro : (st.map fun v => v.category).sum ≤ 8) (hf : (fX3_syndrome now q0 q1).bind kk = some y) (k : ∀ v, kk v = some y → Go p l e (RM d) s m args below meth c K A nL 0 0 Q (mW K a now past err lef msg met par sv hash) (pc + 3) lv (.int v :: st)) : Go p l e (RM d) s m args below meth c K A nL 0 0 Q (mW K a now past err lef msg met par sv hash) pc lv (.int q1 :: .int q0 :: .ref (a 0) :: st) := by
  obtain ⟨v, hv, hf⟩ := bd_some hf
  exact go_callV_full (ry := (some .int)) (n := 2) (b := a 0) (As := [.int q0, .int q1]) (rest := st) C (con_X3_syndrome l K a hv) hG (by decide) rfl ⟨Nat.succ_le_of_lt hdd, by show 8 + (6 + 11) + 40 * 1 ≤ 40 * d; omega⟩ ⟨Nat.le_refl _, Nat.le_refl _⟩ ⟨0, 3, _, _, rfl, rfl, rfl⟩ rfl rfl hro hd (k v hf)
-- X3_message
set_option maxRecDepth 20000 in
set_option maxHeartbeats 2000000 in
theorem WX3_message_23 {p : Program} {l : Launch} {e : Env} {s : State} {m : MethodId} {args : Array Value} {below : List Frame} {meth : Method} {c : Code} {K : KK} {A : Nat → Prop} {a : Nat → Nat} (C : Cx p s m args meth c K A cX3_message 2 RX3 wsX3_message (some .int)) {z : Int32 × (Nat → Int32)} {now : Nat → Int32} {past : Nat → Int32} {lef : Nat → Int32} {msg : Nat → Int32} {met : Nat → Int32} {par : Nat → Int32} {sv : Int32} {hash : Int64} {err : Nat → Int32} {t0 : Int32} (hf : FX3_message_23 now  err t0 = some z) : Go p l e (RM 2) s m args below meth c K A 2 0 0 (MQ below (QR K (some (.int z.1)) (mW K a now past z.2 lef msg met par sv hash) A) args s 0 0 A) (mW K a now past err lef msg met par sv hash) 23 [] [.int t0] := by
  unfold FX3_message_23 at hf
  cases hf
  exact go_iret C dX3_message_23
set_option maxRecDepth 20000 in
set_option maxHeartbeats 2000000 in
theorem WX3_message_0 {p : Program} {l : Launch} {e : Env} {s : State} {m : MethodId} {args : Array Value} {below : List Frame} {meth : Method} {c : Code} {K : KK} {A : Nat → Prop} {a : Nat → Nat} (C : Cx p s m args meth c K A cX3_message 2 RX3 wsX3_message (some .int)) {z : Int32 × (Nat → Int32)} {now : Nat → Int32} {past : Nat → Int32} {lef : Nat → Int32} {msg : Nat → Int32} {met : Nat → Int32} {par : Nat → Int32} {sv : Int32} {hash : Int64} {err : Nat → Int32} {x1 : Int32} (hf : FX3_message_0 now  err x1 = some z) : Go p l e (RM 2) s m args below meth c K A 2 0 0 (MQ below (QR K (some (.int z.1)) (mW K a now past z.2 lef msg met par sv hash) A) args s 0 0 A) (mW K a now past err lef msg met par sv hash) 0 [(0, .ref (a 0)), (1, .int x1)] [] := by
  unfold FX3_message_0 at hf
  refine go_aload_n C 0 dX3_message_0 rfl rfl ?_
  refine go_iload_n C 1 dX3_message_1 rfl rfl ?_
  refine call_X3_isWord C gX3_message_X3_isWord dX3_message_2 (by decide) (Nat.le_of_ble_eq_true rfl) hf (fun v1 hf => ?_)
  refine go_c1_eq C (tgt := 17) dX3_message_5 (by decide) hf (fun h hf => ?_) (fun h hf => ?_)
  · refine go_aload_n C 0 dX3_message_17 rfl rfl ?_
    refine go_bipush (v := (-2)) C dX3_message_18 (by decide) ?_
    refine call_X3_fails C gX3_message_X3_fails dX3_message_20 (by decide) (Nat.le_of_ble_eq_true rfl) hf (fun v2 hf => ?_)
    refine go_lv (lv' := []) [] rfl ?_
    exact WX3_message_23 C  hf
  · refine go_aload_n C 0 dX3_message_8 rfl rfl ?_
    refine go_iload_n C 1 dX3_message_9 rfl rfl ?_
    refine go_iconst (v := 0) C dX3_message_10 (by decide) ?_
    refine call_X3_syndrome C gX3_message_X3_syndrome dX3_message_11 (by decide) (Nat.le_of_ble_eq_true rfl) hf (fun v3 hf => ?_)
    refine go_goto C (tgt := 23) dX3_message_14 (by decide) ?_
    refine go_lv (lv' := []) [] rfl ?_
    exact WX3_message_23 C  hf
set_option maxRecDepth 20000 in
theorem con_X3_message (l : Launch) (K : KK) (a : Nat → Nat) {now : Nat → Int32} {past : Nat → Int32} {err : Nat → Int32} {lef : Nat → Int32} {msg : Nat → Int32} {met : Nat → Int32} {par : Nat → Int32} {sv : Int32} {hash : Int64} {x1 : Int32} {z : Int32 × (Nat → Int32)} (hf : fX3_message now err x1 = some z) : Con l yX3_message wsX3_message 2 K [.ref (a 0), .int x1] (mW K a now past err lef msg met par sv hash) (some (.int z.1)) (mW K a now past z.2 lef msg met par sv hash) :=
  con_of (cc := cX3_message) (maxL := 2) (ret := (some .int)) (own := RX3) (lv0 := [(0, .ref (a 0)), (1, .int x1)]) (by decide) rfl rfl (Nat.le_of_ble_eq_true rfl) rfl (fun p e s m args below meth c A C => go_lv (lv' := [(0, .ref (a 0)), (1, .int x1)]) [0, 1] rfl (WX3_message_0 C hf))
set_option maxRecDepth 20000 in
theorem call_X3_message {p : Program} {l : Launch} {e : Env} {s : State} {m : MethodId} {args : Array Value} {below : List Frame} {meth : Method} {c : Code} {K : KK} {A : Nat → Prop} {Q : State → Prop} {cc : ByteArray} {nL : Nat} {Ts : List Cond} {ret : Option FieldType} {pc : Nat} {lv : List (Nat × Value)} {st : List Value} {ix d : Nat} {α : Type} {kk : Int32 × (Nat → Int32) → Option α} {y : α} {a : Nat → Nat} {now : Nat → Int32} {past : Nat → Int32} {err : Nat → Int32} {lef : Nat → Int32} {msg : Nat → Int32} {met : Nat → Int32} {par : Nat → Int32} {sv : Int32} {hash : Int64} {q0 : Int32} (C : Cx p s m args meth c K A cc nL RX3 Ts ret) (hG : GoodIn Ts (wsV RX3 ix RX3 yX3_message wsX3_message)) (hd : decode cc pc = .ok (.invokevirtual ix, 3)) (hdd : 2 < d) (hro : (st.map fun v => v.category).sum ≤ 8) (hf : (fX3_message now err q0).bind kk = some y) (k : ∀ v, kk v = some y → Go p l e (RM d) s m args below meth c K A nL 0 0 Q (mW K a now past v.2 lef msg met par sv hash) (pc + 3) lv (.int (v.1) :: st)) : Go p l e (RM d) s m args below meth c K A nL 0 0 Q (mW K a now past err lef msg met par sv hash) pc lv (.int q0 :: .ref (a 0) :: st) := by
  obtain ⟨v, hv, hf⟩ := bd_some hf
  exact go_callV_full (ry := (some .int)) (n := 1) (b := a 0) (As := [.int q0]) (rest := st) C (con_X3_message l K a hv) hG (by decide) rfl ⟨Nat.succ_le_of_lt hdd, by show 8 + (2 + 11) + 40 * 2 ≤ 40 * d; omega⟩ ⟨Nat.le_refl _, Nat.le_refl _⟩ ⟨0, 3, _, _, rfl, rfl, rfl⟩ rfl rfl hro hd (k v hf)
-- X3_checkValue
set_option maxRecDepth 20000 in
set_option maxHeartbeats 2000000 in
theorem WX3_checkValue_23 {p : Program} {l : Launch} {e : Env} {s : State} {m : MethodId} {args : Array Value} {below : List Frame} {meth : Method} {c : Code} {K : KK} {A : Nat → Prop} {a : Nat → Nat} (C : Cx p s m args meth c K A cX3_checkValue 2 RX3 wsX3_checkValue (some .int)) {z : Int32 × (Nat → Int32)} {now : Nat → Int32} {past : Nat → Int32} {lef : Nat → Int32} {msg : Nat → Int32} {met : Nat → Int32} {par : Nat → Int32} {sv : Int32} {hash : Int64} {err : Nat → Int32} {t0 : Int32} (hf : FX3_checkValue_23 now  err t0 = some z) : Go p l e (RM 2) s m args below meth c K A 2 0 0 (MQ below (QR K (some (.int z.1)) (mW K a now past z.2 lef msg met par sv hash) A) args s 0 0 A) (mW K a now past err lef msg met par sv hash) 23 [] [.int t0] := by
  unfold FX3_checkValue_23 at hf
  cases hf
  exact go_iret C dX3_checkValue_23
set_option maxRecDepth 20000 in
set_option maxHeartbeats 2000000 in
theorem WX3_checkValue_0 {p : Program} {l : Launch} {e : Env} {s : State} {m : MethodId} {args : Array Value} {below : List Frame} {meth : Method} {c : Code} {K : KK} {A : Nat → Prop} {a : Nat → Nat} (C : Cx p s m args meth c K A cX3_checkValue 2 RX3 wsX3_checkValue (some .int)) {z : Int32 × (Nat → Int32)} {now : Nat → Int32} {past : Nat → Int32} {lef : Nat → Int32} {msg : Nat → Int32} {met : Nat → Int32} {par : Nat → Int32} {sv : Int32} {hash : Int64} {err : Nat → Int32} {x1 : Int32} (hf : FX3_checkValue_0 now  err x1 = some z) : Go p l e (RM 2) s m args below meth c K A 2 0 0 (MQ below (QR K (some (.int z.1)) (mW K a now past z.2 lef msg met par sv hash) A) args s 0 0 A) (mW K a now past err lef msg met par sv hash) 0 [(0, .ref (a 0)), (1, .int x1)] [] := by
  unfold FX3_checkValue_0 at hf
  refine go_aload_n C 0 dX3_checkValue_0 rfl rfl ?_
  refine go_iload_n C 1 dX3_checkValue_1 rfl rfl ?_
  refine call_X3_isWord C gX3_checkValue_X3_isWord dX3_checkValue_2 (by decide) (Nat.le_of_ble_eq_true rfl) hf (fun v1 hf => ?_)
  refine go_c1_eq C (tgt := 17) dX3_checkValue_5 (by decide) hf (fun h hf => ?_) (fun h hf => ?_)
  · refine go_aload_n C 0 dX3_checkValue_17 rfl rfl ?_
    refine go_bipush (v := (-2)) C dX3_checkValue_18 (by decide) ?_
    refine call_X3_fails C gX3_checkValue_X3_fails dX3_checkValue_20 (by decide) (Nat.le_of_ble_eq_true rfl) hf (fun v2 hf => ?_)
    refine go_lv (lv' := []) [] rfl ?_
    exact WX3_checkValue_23 C  hf
  · refine go_aload_n C 0 dX3_checkValue_8 rfl rfl ?_
    refine go_iload_n C 1 dX3_checkValue_9 rfl rfl ?_
    refine go_iconst (v := 1) C dX3_checkValue_10 (by decide) ?_
    refine call_X3_syndrome C gX3_checkValue_X3_syndrome dX3_checkValue_11 (by decide) (Nat.le_of_ble_eq_true rfl) hf (fun v3 hf => ?_)
    refine go_goto C (tgt := 23) dX3_checkValue_14 (by decide) ?_
    refine go_lv (lv' := []) [] rfl ?_
    exact WX3_checkValue_23 C  hf
set_option maxRecDepth 20000 in
theorem con_X3_checkValue (l : Launch) (K : KK) (a : Nat → Nat) {now : Nat → Int32} {past : Nat → Int32} {err : Nat → Int32} {lef : Nat → Int32} {msg : Nat → Int32} {met : Nat → Int32} {par : Nat → Int32} {sv : Int32} {hash : Int64} {x1 : Int32} {z : Int32 × (Nat → Int32)} (hf : fX3_checkValue now err x1 = some z) : Con l yX3_checkValue wsX3_checkValue 2 K [.ref (a 0), .int x1] (mW K a now past err lef msg met par sv hash) (some (.int z.1)) (mW K a now past z.2 lef msg met par sv hash) :=
  con_of (cc := cX3_checkValue) (maxL := 2) (ret := (some .int)) (own := RX3) (lv0 := [(0, .ref (a 0)), (1, .int x1)]) (by decide) rfl rfl (Nat.le_of_ble_eq_true rfl) rfl (fun p e s m args below meth c A C => go_lv (lv' := [(0, .ref (a 0)), (1, .int x1)]) [0, 1] rfl (WX3_checkValue_0 C hf))
set_option maxRecDepth 20000 in
theorem call_X3_checkValue {p : Program} {l : Launch} {e : Env} {s : State} {m : MethodId} {args : Array Value} {below : List Frame} {meth : Method} {c : Code} {K : KK} {A : Nat → Prop} {Q : State → Prop} {cc : ByteArray} {nL : Nat} {Ts : List Cond} {ret : Option FieldType} {pc : Nat} {lv : List (Nat × Value)} {st : List Value} {ix d : Nat} {α : Type} {kk : Int32 × (Nat → Int32) → Option α} {y : α} {a : Nat → Nat} {now : Nat → Int32} {past : Nat → Int32} {err : Nat → Int32} {lef : Nat → Int32} {msg : Nat → Int32} {met : Nat → Int32} {par : Nat → Int32} {sv : Int32} {hash : Int64} {q0 : Int32} (C : Cx p s m args meth c K A cc nL RX3 Ts ret) (hG : GoodIn Ts (wsV RX3 ix RX3 yX3_checkValue wsX3_checkValue)) (hd : decode cc pc = .ok (.invokevirtual ix, 3)) (hdd : 2 < d) (hro : (st.map fun v => v.category).sum ≤ 8) (hf : (fX3_checkValue now err q0).bind kk = some y) (k : ∀ v, kk v = some y → Go p l e (RM d) s m args below meth c K A nL 0 0 Q (mW K a now past v.2 lef msg met par sv hash) (pc + 3) lv (.int (v.1) :: st)) : Go p l e (RM d) s m args below meth c K A nL 0 0 Q (mW K a now past err lef msg met par sv hash) pc lv (.int q0 :: .ref (a 0) :: st) := by
  obtain ⟨v, hv, hf⟩ := bd_some hf
  exact go_callV_full (ry := (some .int)) (n := 1) (b := a 0) (As := [.int q0]) (rest := st) C (con_X3_checkValue l K a hv) hG (by decide) rfl ⟨Nat.succ_le_of_lt hdd, by show 8 + (2 + 11) + 40 * 2 ≤ 40 * d; omega⟩ ⟨Nat.le_refl _, Nat.le_refl _⟩ ⟨0, 3, _, _, rfl, rfl, rfl⟩ rfl rfl hro hd (k v hf)
-- X3_laysMessages
theorem iX3_laysMessages_3 : ∀ w ∈ wsX30, w ∈ wsX3_laysMessages := by decide +kernel
theorem kX3_laysMessages_22 : Cond.fieldLink RX3 22 "CosetCoderModel" "messageOf" "[I" ∈ wsX3_laysMessages := by decide +kernel
set_option maxRecDepth 20000 in
set_option maxHeartbeats 2000000 in
theorem WX3_laysMessages_34 {p : Program} {l : Launch} {e : Env} {s : State} {m : MethodId} {args : Array Value} {below : List Frame} {meth : Method} {c : Code} {K : KK} {A : Nat → Prop} {a : Nat → Nat} (C : Cx p s m args meth c K A cX3_laysMessages 2 RX3 wsX3_laysMessages none) {z : (Nat → Int32)} {now : Nat → Int32} {past : Nat → Int32} {err : Nat → Int32} {lef : Nat → Int32} {met : Nat → Int32} {par : Nat → Int32} {sv : Int32} {hash : Int64} {r2 : (Nat → Int32) → Int32 → Option ((Nat → Int32))} {msg : Nat → Int32} {x1 : Int32} {t1 : Int32} {t2 : Int32} (hr2 : ∀ (msg : Nat → Int32) (x1 : Int32), r2 msg x1 = some z → Go p l e (RM 2) s m args below meth c K A 2 0 0 (MQ below (QR K none (mW K a now past err lef z met par sv hash) A) args s 0 0 A) (mW K a now past err lef msg met par sv hash) 2 [(0, .ref (a 0)), (1, .int x1)] []) (hf : FX3_laysMessages_34 now r2 msg x1 t1 t2 = some z) : Go p l e (RM 2) s m args below meth c K A 2 0 0 (MQ below (QR K none (mW K a now past err lef z met par sv hash) A) args s 0 0 A) (mW K a now past err lef msg met par sv hash) 34 [(0, .ref (a 0)), (1, .int x1)] [.int t2, .int t1, .ref (a 5)] := by
  unfold FX3_laysMessages_34 at hf
  refine gM_wr_msg C dX3_laysMessages_34 hf (fun g1 hf => ?_)
  refine go_iinc C (v := x1 + 1) (lv' := [(0, .ref (a 0)), (1, .int (x1 + 1))]) 1 [1, 0] dX3_laysMessages_35 rfl rfl (by decide) rfl ?_
  refine go_goto C (tgt := 2) dX3_laysMessages_38 (by decide) ?_
  exact hr2 _ _ hf
set_option maxRecDepth 20000 in
set_option maxHeartbeats 2000000 in
theorem WX3_laysMessages_2 {p : Program} {l : Launch} {e : Env} {s : State} {m : MethodId} {args : Array Value} {below : List Frame} {meth : Method} {c : Code} {K : KK} {A : Nat → Prop} {a : Nat → Nat} (C : Cx p s m args meth c K A cX3_laysMessages 2 RX3 wsX3_laysMessages none) {z : (Nat → Int32)} {now : Nat → Int32} {past : Nat → Int32} {err : Nat → Int32} {lef : Nat → Int32} {met : Nat → Int32} {par : Nat → Int32} {sv : Int32} {hash : Int64} {r2 : (Nat → Int32) → Int32 → Option ((Nat → Int32))} {msg : Nat → Int32} {x1 : Int32} (hr2 : ∀ (msg : Nat → Int32) (x1 : Int32), r2 msg x1 = some z → Go p l e (RM 2) s m args below meth c K A 2 0 0 (MQ below (QR K none (mW K a now past err lef z met par sv hash) A) args s 0 0 A) (mW K a now past err lef msg met par sv hash) 2 [(0, .ref (a 0)), (1, .int x1)] []) (hf : FX3_laysMessages_2 now r2 msg x1 = some z) : Go p l e (RM 2) s m args below meth c K A 2 0 0 (MQ below (QR K none (mW K a now past err lef z met par sv hash) A) args s 0 0 A) (mW K a now past err lef msg met par sv hash) 2 [(0, .ref (a 0)), (1, .int x1)] [] := by
  unfold FX3_laysMessages_2 at hf
  refine go_iload_n C 1 dX3_laysMessages_2 rfl rfl ?_
  refine go_aload_n C 0 dX3_laysMessages_3 rfl rfl ?_
  refine call_X3_words C gX3_laysMessages_X3_words dX3_laysMessages_4 (by decide) (Nat.le_of_ble_eq_true rfl) hf (fun v2 hf => ?_)
  refine go_c2_ge C (tgt := 41) dX3_laysMessages_7 (by decide) hf (fun h hf => ?_) (fun h hf => ?_)
  · cases hf
    exact go_vret C dX3_laysMessages_41
  · refine go_aload_n C 0 dX3_laysMessages_10 rfl rfl ?_
    refine gM_get_messageOf C iX3_laysMessages_3 kX3_laysMessages_22 dX3_laysMessages_11 ?_
    refine go_iload_n C 1 dX3_laysMessages_14 rfl rfl ?_
    refine go_aload_n C 0 dX3_laysMessages_15 rfl rfl ?_
    refine go_iload_n C 1 dX3_laysMessages_16 rfl rfl ?_
    refine go_iconst (v := 1) C dX3_laysMessages_17 (by decide) ?_
    refine call_X3_syndrome C gX3_laysMessages_X3_syndrome dX3_laysMessages_18 (by decide) (Nat.le_of_ble_eq_true rfl) hf (fun v3 hf => ?_)
    refine go_c1_ne C (tgt := 33) dX3_laysMessages_21 (by decide) hf (fun h hf => ?_) (fun h hf => ?_)
    · refine go_iconst (v := (-1)) C dX3_laysMessages_33 (by decide) ?_
      exact WX3_laysMessages_34 C hr2 hf
    · refine go_aload_n C 0 dX3_laysMessages_24 rfl rfl ?_
      refine go_iload_n C 1 dX3_laysMessages_25 rfl rfl ?_
      refine go_iconst (v := 0) C dX3_laysMessages_26 (by decide) ?_
      refine call_X3_syndrome C gX3_laysMessages_X3_syndrome dX3_laysMessages_27 (by decide) (Nat.le_of_ble_eq_true rfl) hf (fun v4 hf => ?_)
      refine go_goto C (tgt := 34) dX3_laysMessages_30 (by decide) ?_
      exact WX3_laysMessages_34 C hr2 hf
theorem wX3_laysMessages_2 {p : Program} {l : Launch} {e : Env} {s : State} {m : MethodId} {args : Array Value} {below : List Frame} {meth : Method} {c : Code} {K : KK} {A : Nat → Prop} {a : Nat → Nat} (C : Cx p s m args meth c K A cX3_laysMessages 2 RX3 wsX3_laysMessages none) {z : (Nat → Int32)} {now : Nat → Int32} {past : Nat → Int32} {err : Nat → Int32} {lef : Nat → Int32} {met : Nat → Int32} {par : Nat → Int32} {sv : Int32} {hash : Int64} : ∀ (n : Nat) (msg : Nat → Int32) (x1 : Int32), fX3_laysMessages_2 now  n msg x1 = some z → Go p l e (RM 2) s m args below meth c K A 2 0 0 (MQ below (QR K none (mW K a now past err lef z met par sv hash) A) args s 0 0 A) (mW K a now past err lef msg met par sv hash) 2 [(0, .ref (a 0)), (1, .int x1)] [] := by
  intro n
  induction n with
  | zero => intro _ _ hf; cases hf
  | succ n ih => intro _ _ hf; exact WX3_laysMessages_2 C  ih hf
set_option maxRecDepth 20000 in
set_option maxHeartbeats 2000000 in
theorem WX3_laysMessages_0 {p : Program} {l : Launch} {e : Env} {s : State} {m : MethodId} {args : Array Value} {below : List Frame} {meth : Method} {c : Code} {K : KK} {A : Nat → Prop} {a : Nat → Nat} (C : Cx p s m args meth c K A cX3_laysMessages 2 RX3 wsX3_laysMessages none) {z : (Nat → Int32)} {now : Nat → Int32} {past : Nat → Int32} {err : Nat → Int32} {lef : Nat → Int32} {met : Nat → Int32} {par : Nat → Int32} {sv : Int32} {hash : Int64} {msg : Nat → Int32} (hf : FX3_laysMessages_0 now  msg = some z) : Go p l e (RM 2) s m args below meth c K A 2 0 0 (MQ below (QR K none (mW K a now past err lef z met par sv hash) A) args s 0 0 A) (mW K a now past err lef msg met par sv hash) 0 [(0, .ref (a 0))] [] := by
  unfold FX3_laysMessages_0 at hf
  refine go_iconst (v := 0) C dX3_laysMessages_0 (by decide) ?_
  refine go_istore_n C (lv' := [(0, .ref (a 0)), (1, .int 0)]) [1, 0] dX3_laysMessages_1 rfl (by decide) rfl ?_
  exact wX3_laysMessages_2 C  300 _ _ hf
set_option maxRecDepth 20000 in
theorem con_X3_laysMessages (l : Launch) (K : KK) (a : Nat → Nat) {now : Nat → Int32} {past : Nat → Int32} {err : Nat → Int32} {lef : Nat → Int32} {msg : Nat → Int32} {met : Nat → Int32} {par : Nat → Int32} {sv : Int32} {hash : Int64} {z : (Nat → Int32)} (hf : fX3_laysMessages now msg = some z) : Con l yX3_laysMessages wsX3_laysMessages 2 K [.ref (a 0)] (mW K a now past err lef msg met par sv hash) none (mW K a now past err lef z met par sv hash) :=
  con_of (cc := cX3_laysMessages) (maxL := 2) (ret := none) (own := RX3) (lv0 := [(0, .ref (a 0))]) (by decide) rfl rfl (Nat.le_of_ble_eq_true rfl) rfl (fun p e s m args below meth c A C => go_lv (lv' := [(0, .ref (a 0))]) [0] rfl (WX3_laysMessages_0 C hf))
set_option maxRecDepth 20000 in
theorem call_X3_laysMessages {p : Program} {l : Launch} {e : Env} {s : State} {m : MethodId} {args : Array Value} {below : List Frame} {meth : Method} {c : Code} {K : KK} {A : Nat → Prop} {Q : State → Prop} {cc : ByteArray} {nL : Nat} {Ts : List Cond} {ret : Option FieldType} {pc : Nat} {lv : List (Nat × Value)} {st : List Value} {ix d : Nat} {α : Type} {kk : (Nat → Int32) → Option α} {y : α} {a : Nat → Nat} {now : Nat → Int32} {past : Nat → Int32} {err : Nat → Int32} {lef : Nat → Int32} {msg : Nat → Int32} {met : Nat → Int32} {par : Nat → Int32} {sv : Int32} {hash : Int64} (C : Cx p s m args meth c K A cc nL RX3 Ts ret) (hG : GoodIn Ts (wsV RX3 ix RX3 yX3_laysMessages wsX3_laysMessages)) (hd : decode cc pc = .ok (.invokevirtual ix, 3)) (hdd : 2 < d) (hro : (st.map fun v => v.category).sum ≤ 8) (hf : (fX3_laysMessages now msg).bind kk = some y) (k : ∀ v, kk v = some y → Go p l e (RM d) s m args below meth c K A nL 0 0 Q (mW K a now past err lef v met par sv hash) (pc + 3) lv (st)) : Go p l e (RM d) s m args below meth c K A nL 0 0 Q (mW K a now past err lef msg met par sv hash) pc lv (.ref (a 0) :: st) := by
  obtain ⟨v, hv, hf⟩ := bd_some hf
  exact go_callV_full (ry := none) (n := 0) (b := a 0) (As := []) (rest := st) C (con_X3_laysMessages l K a hv) hG (by decide) rfl ⟨Nat.succ_le_of_lt hdd, by show 8 + (2 + 11) + 40 * 2 ≤ 40 * d; omega⟩ ⟨Nat.le_refl _, Nat.le_refl _⟩ ⟨0, 3, _, _, rfl, rfl, rfl⟩ rfl rfl hro hd (k v hf)
-- X3_meets
theorem iX3_meets_3 : ∀ w ∈ wsX30, w ∈ wsX3_meets := by decide +kernel
theorem kX3_meets_22 : Cond.fieldLink RX3 22 "CosetCoderModel" "messageOf" "[I" ∈ wsX3_meets := by decide +kernel
theorem kX3_meets_25 : Cond.fieldLink RX3 25 "CosetCoderModel" "met" "[Z" ∈ wsX3_meets := by decide +kernel
set_option maxRecDepth 20000 in
set_option maxHeartbeats 2000000 in
theorem WX3_meets_89 {p : Program} {l : Launch} {e : Env} {s : State} {m : MethodId} {args : Array Value} {below : List Frame} {meth : Method} {c : Code} {K : KK} {A : Nat → Prop} {a : Nat → Nat} (C : Cx p s m args meth c K A cX3_meets 5 RX3 wsX3_meets (some .int)) {z : Int32 × (Nat → Int32) × (Nat → Int32)} {now : Nat → Int32} {past : Nat → Int32} {err : Nat → Int32} {lef : Nat → Int32} {par : Nat → Int32} {sv : Int32} {hash : Int64} {r30 : (Nat → Int32) → (Nat → Int32) → Int32 → Int32 → Int32 → Int32 → Option (Int32 × (Nat → Int32) × (Nat → Int32))} {msg : Nat → Int32} {met : Nat → Int32} {x1 : Int32} {x2 : Int32} {x3 : Int32} {x4 : Int32} (hr30 : ∀ (msg : Nat → Int32) (met : Nat → Int32) (x1 : Int32) (x2 : Int32) (x3 : Int32) (x4 : Int32), r30 msg met x1 x2 x3 x4 = some z → Go p l e (RM 3) s m args below meth c K A 5 0 0 (MQ below (QR K (some (.int z.1)) (mW K a now past err lef z.2.1 z.2.2 par sv hash) A) args s 0 0 A) (mW K a now past err lef msg met par sv hash) 30 [(0, .ref (a 0)), (1, .int x1), (2, .int x2), (3, .int x3), (4, .int x4)] []) (hf : FX3_meets_89 now r30 msg met x1 x2 x3 x4 = some z) : Go p l e (RM 3) s m args below meth c K A 5 0 0 (MQ below (QR K (some (.int z.1)) (mW K a now past err lef z.2.1 z.2.2 par sv hash) A) args s 0 0 A) (mW K a now past err lef msg met par sv hash) 89 [(0, .ref (a 0)), (1, .int x1), (2, .int x2), (3, .int x3), (4, .int x4)] [] := by
  unfold FX3_meets_89 at hf
  refine go_iinc C (v := x4 + 1) (lv' := [(0, .ref (a 0)), (1, .int x1), (2, .int x2), (3, .int x3), (4, .int (x4 + 1))]) 4 [1, 2, 3, 4, 0] dX3_meets_89 rfl rfl (by decide) rfl ?_
  refine go_goto C (tgt := 30) dX3_meets_92 (by decide) ?_
  exact hr30 _ _ _ _ _ _ hf
set_option maxRecDepth 20000 in
set_option maxHeartbeats 2000000 in
theorem WX3_meets_30 {p : Program} {l : Launch} {e : Env} {s : State} {m : MethodId} {args : Array Value} {below : List Frame} {meth : Method} {c : Code} {K : KK} {A : Nat → Prop} {a : Nat → Nat} (C : Cx p s m args meth c K A cX3_meets 5 RX3 wsX3_meets (some .int)) {z : Int32 × (Nat → Int32) × (Nat → Int32)} {now : Nat → Int32} {past : Nat → Int32} {err : Nat → Int32} {lef : Nat → Int32} {par : Nat → Int32} {sv : Int32} {hash : Int64} {r30 : (Nat → Int32) → (Nat → Int32) → Int32 → Int32 → Int32 → Int32 → Option (Int32 × (Nat → Int32) × (Nat → Int32))} {msg : Nat → Int32} {met : Nat → Int32} {x1 : Int32} {x2 : Int32} {x3 : Int32} {x4 : Int32} (hr30 : ∀ (msg : Nat → Int32) (met : Nat → Int32) (x1 : Int32) (x2 : Int32) (x3 : Int32) (x4 : Int32), r30 msg met x1 x2 x3 x4 = some z → Go p l e (RM 3) s m args below meth c K A 5 0 0 (MQ below (QR K (some (.int z.1)) (mW K a now past err lef z.2.1 z.2.2 par sv hash) A) args s 0 0 A) (mW K a now past err lef msg met par sv hash) 30 [(0, .ref (a 0)), (1, .int x1), (2, .int x2), (3, .int x3), (4, .int x4)] []) (hf : FX3_meets_30 now r30 msg met x1 x2 x3 x4 = some z) : Go p l e (RM 3) s m args below meth c K A 5 0 0 (MQ below (QR K (some (.int z.1)) (mW K a now past err lef z.2.1 z.2.2 par sv hash) A) args s 0 0 A) (mW K a now past err lef msg met par sv hash) 30 [(0, .ref (a 0)), (1, .int x1), (2, .int x2), (3, .int x3), (4, .int x4)] [] := by
  unfold FX3_meets_30 at hf
  refine go_iload C 4 dX3_meets_30 rfl ?_
  refine go_aload_n C 0 dX3_meets_32 rfl rfl ?_
  refine call_X3_words C gX3_meets_X3_words dX3_meets_33 (by decide) (Nat.le_of_ble_eq_true rfl) hf (fun v1 hf => ?_)
  refine go_c2_ge C (tgt := 95) dX3_meets_36 (by decide) hf (fun h hf => ?_) (fun h hf => ?_)
  · refine go_iload_n C 3 dX3_meets_95 rfl rfl ?_
    cases hf
    exact go_iret C dX3_meets_96
  · refine go_aload_n C 0 dX3_meets_39 rfl rfl ?_
    refine gM_get_messageOf C iX3_meets_3 kX3_meets_22 dX3_meets_40 ?_
    refine go_iload C 4 dX3_meets_43 rfl ?_
    refine gM_rd_msg C dX3_meets_45 hf (fun v2 hf => ?_)
    refine go_iconst (v := (-1)) C dX3_meets_46 (by decide) ?_
    refine go_c2_eq C (tgt := 89) dX3_meets_47 (by decide) hf (fun h hf => ?_) (fun h hf => ?_)
    · exact WX3_meets_89 C hr30 hf
    · refine go_iload C 4 dX3_meets_50 rfl ?_
      refine go_iload_n C 1 dX3_meets_52 rfl rfl ?_
      refine go_iand C dX3_meets_53 ?_
      refine go_iload_n C 2 dX3_meets_54 rfl rfl ?_
      refine go_c2_ne C (tgt := 89) dX3_meets_55 (by decide) hf (fun h hf => ?_) (fun h hf => ?_)
      · exact WX3_meets_89 C hr30 hf
      · refine go_aload_n C 0 dX3_meets_58 rfl rfl ?_
        refine gM_get_met C iX3_meets_3 kX3_meets_25 dX3_meets_59 ?_
        refine go_aload_n C 0 dX3_meets_62 rfl rfl ?_
        refine gM_get_messageOf C iX3_meets_3 kX3_meets_22 dX3_meets_63 ?_
        refine go_iload C 4 dX3_meets_66 rfl ?_
        refine gM_rd_msg C dX3_meets_68 hf (fun v3 hf => ?_)
        refine gM_rd_met C dX3_meets_69 hf (fun v4 hf => ?_)
        refine go_c1_ne C (tgt := 89) dX3_meets_70 (by decide) hf (fun h hf => ?_) (fun h hf => ?_)
        · exact WX3_meets_89 C hr30 hf
        · refine go_aload_n C 0 dX3_meets_73 rfl rfl ?_
          refine gM_get_met C iX3_meets_3 kX3_meets_25 dX3_meets_74 ?_
          refine go_aload_n C 0 dX3_meets_77 rfl rfl ?_
          refine gM_get_messageOf C iX3_meets_3 kX3_meets_22 dX3_meets_78 ?_
          refine go_iload C 4 dX3_meets_81 rfl ?_
          refine gM_rd_msg C dX3_meets_83 hf (fun v5 hf => ?_)
          refine go_iconst (v := 1) C dX3_meets_84 (by decide) ?_
          refine gM_wr_met C dX3_meets_85 hf (fun g6 hf => ?_)
          refine go_iinc C (v := x3 + 1) (lv' := [(0, .ref (a 0)), (1, .int x1), (2, .int x2), (3, .int (x3 + 1)), (4, .int x4)]) 3 [1, 2, 3, 0, 4] dX3_meets_86 rfl rfl (by decide) rfl ?_
          exact WX3_meets_89 C hr30 hf
theorem wX3_meets_30 {p : Program} {l : Launch} {e : Env} {s : State} {m : MethodId} {args : Array Value} {below : List Frame} {meth : Method} {c : Code} {K : KK} {A : Nat → Prop} {a : Nat → Nat} (C : Cx p s m args meth c K A cX3_meets 5 RX3 wsX3_meets (some .int)) {z : Int32 × (Nat → Int32) × (Nat → Int32)} {now : Nat → Int32} {past : Nat → Int32} {err : Nat → Int32} {lef : Nat → Int32} {par : Nat → Int32} {sv : Int32} {hash : Int64} : ∀ (n : Nat) (msg : Nat → Int32) (met : Nat → Int32) (x1 : Int32) (x2 : Int32) (x3 : Int32) (x4 : Int32), fX3_meets_30 now  n msg met x1 x2 x3 x4 = some z → Go p l e (RM 3) s m args below meth c K A 5 0 0 (MQ below (QR K (some (.int z.1)) (mW K a now past err lef z.2.1 z.2.2 par sv hash) A) args s 0 0 A) (mW K a now past err lef msg met par sv hash) 30 [(0, .ref (a 0)), (1, .int x1), (2, .int x2), (3, .int x3), (4, .int x4)] [] := by
  intro n
  induction n with
  | zero => intro _ _ _ _ _ _ hf; cases hf
  | succ n ih => intro _ _ _ _ _ _ hf; exact WX3_meets_30 C  ih hf
set_option maxRecDepth 20000 in
set_option maxHeartbeats 2000000 in
theorem WX3_meets_6 {p : Program} {l : Launch} {e : Env} {s : State} {m : MethodId} {args : Array Value} {below : List Frame} {meth : Method} {c : Code} {K : KK} {A : Nat → Prop} {a : Nat → Nat} (C : Cx p s m args meth c K A cX3_meets 5 RX3 wsX3_meets (some .int)) {z : Int32 × (Nat → Int32) × (Nat → Int32)} {now : Nat → Int32} {past : Nat → Int32} {err : Nat → Int32} {lef : Nat → Int32} {par : Nat → Int32} {sv : Int32} {hash : Int64} {r6 : (Nat → Int32) → (Nat → Int32) → Int32 → Int32 → Int32 → Option (Int32 × (Nat → Int32) × (Nat → Int32))} {msg : Nat → Int32} {met : Nat → Int32} {x1 : Int32} {x2 : Int32} {x3 : Int32} (hr6 : ∀ (msg : Nat → Int32) (met : Nat → Int32) (x1 : Int32) (x2 : Int32) (x3 : Int32), r6 msg met x1 x2 x3 = some z → Go p l e (RM 3) s m args below meth c K A 5 0 0 (MQ below (QR K (some (.int z.1)) (mW K a now past err lef z.2.1 z.2.2 par sv hash) A) args s 0 0 A) (mW K a now past err lef msg met par sv hash) 6 [(0, .ref (a 0)), (1, .int x1), (2, .int x2), (3, .int x3)] []) (hf : FX3_meets_6 now r6 msg met x1 x2 x3 = some z) : Go p l e (RM 3) s m args below meth c K A 5 0 0 (MQ below (QR K (some (.int z.1)) (mW K a now past err lef z.2.1 z.2.2 par sv hash) A) args s 0 0 A) (mW K a now past err lef msg met par sv hash) 6 [(0, .ref (a 0)), (1, .int x1), (2, .int x2), (3, .int x3)] [] := by
  unfold FX3_meets_6 at hf
  refine go_iload_n C 3 dX3_meets_6 rfl rfl ?_
  refine go_bipush (v := 64) C dX3_meets_7 (by decide) ?_
  refine go_c2_ge C (tgt := 25) dX3_meets_9 (by decide) hf (fun h hf => ?_) (fun h hf => ?_)
  · refine go_iconst (v := 0) C dX3_meets_25 (by decide) ?_
    refine go_istore_n C (lv' := [(0, .ref (a 0)), (1, .int x1), (2, .int x2), (3, .int 0)]) [1, 2, 3, 0] dX3_meets_26 rfl (by decide) rfl ?_
    refine go_iconst (v := 0) C dX3_meets_27 (by decide) ?_
    refine go_istore C (lv' := [(0, .ref (a 0)), (1, .int x1), (2, .int x2), (3, .int 0), (4, .int 0)]) [1, 2, 3, 4, 0] dX3_meets_28 (by decide) rfl ?_
    exact wX3_meets_30 C  300 _ _ _ _ _ _ hf
  · refine go_aload_n C 0 dX3_meets_12 rfl rfl ?_
    refine gM_get_met C iX3_meets_3 kX3_meets_25 dX3_meets_13 ?_
    refine go_iload_n C 3 dX3_meets_16 rfl rfl ?_
    refine go_iconst (v := 0) C dX3_meets_17 (by decide) ?_
    refine gM_wr_met C dX3_meets_18 hf (fun g7 hf => ?_)
    refine go_iinc C (v := x3 + 1) (lv' := [(0, .ref (a 0)), (1, .int x1), (2, .int x2), (3, .int (x3 + 1))]) 3 [1, 2, 3, 0] dX3_meets_19 rfl rfl (by decide) rfl ?_
    refine go_goto C (tgt := 6) dX3_meets_22 (by decide) ?_
    exact hr6 _ _ _ _ _ hf
theorem wX3_meets_6 {p : Program} {l : Launch} {e : Env} {s : State} {m : MethodId} {args : Array Value} {below : List Frame} {meth : Method} {c : Code} {K : KK} {A : Nat → Prop} {a : Nat → Nat} (C : Cx p s m args meth c K A cX3_meets 5 RX3 wsX3_meets (some .int)) {z : Int32 × (Nat → Int32) × (Nat → Int32)} {now : Nat → Int32} {past : Nat → Int32} {err : Nat → Int32} {lef : Nat → Int32} {par : Nat → Int32} {sv : Int32} {hash : Int64} : ∀ (n : Nat) (msg : Nat → Int32) (met : Nat → Int32) (x1 : Int32) (x2 : Int32) (x3 : Int32), fX3_meets_6 now  n msg met x1 x2 x3 = some z → Go p l e (RM 3) s m args below meth c K A 5 0 0 (MQ below (QR K (some (.int z.1)) (mW K a now past err lef z.2.1 z.2.2 par sv hash) A) args s 0 0 A) (mW K a now past err lef msg met par sv hash) 6 [(0, .ref (a 0)), (1, .int x1), (2, .int x2), (3, .int x3)] [] := by
  intro n
  induction n with
  | zero => intro _ _ _ _ _ hf; cases hf
  | succ n ih => intro _ _ _ _ _ hf; exact WX3_meets_6 C  ih hf
set_option maxRecDepth 20000 in
set_option maxHeartbeats 2000000 in
theorem WX3_meets_0 {p : Program} {l : Launch} {e : Env} {s : State} {m : MethodId} {args : Array Value} {below : List Frame} {meth : Method} {c : Code} {K : KK} {A : Nat → Prop} {a : Nat → Nat} (C : Cx p s m args meth c K A cX3_meets 5 RX3 wsX3_meets (some .int)) {z : Int32 × (Nat → Int32) × (Nat → Int32)} {now : Nat → Int32} {past : Nat → Int32} {err : Nat → Int32} {lef : Nat → Int32} {par : Nat → Int32} {sv : Int32} {hash : Int64} {msg : Nat → Int32} {met : Nat → Int32} {x1 : Int32} {x2 : Int32} (hf : FX3_meets_0 now  msg met x1 x2 = some z) : Go p l e (RM 3) s m args below meth c K A 5 0 0 (MQ below (QR K (some (.int z.1)) (mW K a now past err lef z.2.1 z.2.2 par sv hash) A) args s 0 0 A) (mW K a now past err lef msg met par sv hash) 0 [(0, .ref (a 0)), (1, .int x1), (2, .int x2)] [] := by
  unfold FX3_meets_0 at hf
  refine go_aload_n C 0 dX3_meets_0 rfl rfl ?_
  refine call_X3_laysMessages C gX3_meets_X3_laysMessages dX3_meets_1 (by decide) (Nat.le_of_ble_eq_true rfl) hf (fun v8 hf => ?_)
  refine go_iconst (v := 0) C dX3_meets_4 (by decide) ?_
  refine go_istore_n C (lv' := [(0, .ref (a 0)), (1, .int x1), (2, .int x2), (3, .int 0)]) [1, 2, 3, 0] dX3_meets_5 rfl (by decide) rfl ?_
  exact wX3_meets_6 C  300 _ _ _ _ _ hf
set_option maxRecDepth 20000 in
theorem con_X3_meets (l : Launch) (K : KK) (a : Nat → Nat) {now : Nat → Int32} {past : Nat → Int32} {err : Nat → Int32} {lef : Nat → Int32} {msg : Nat → Int32} {met : Nat → Int32} {par : Nat → Int32} {sv : Int32} {hash : Int64} {x1 : Int32} {x2 : Int32} {z : Int32 × (Nat → Int32) × (Nat → Int32)} (hf : fX3_meets now msg met x1 x2 = some z) : Con l yX3_meets wsX3_meets 3 K [.ref (a 0), .int x1, .int x2] (mW K a now past err lef msg met par sv hash) (some (.int z.1)) (mW K a now past err lef z.2.1 z.2.2 par sv hash) :=
  con_of (cc := cX3_meets) (maxL := 5) (ret := (some .int)) (own := RX3) (lv0 := [(0, .ref (a 0)), (1, .int x1), (2, .int x2)]) (by decide) rfl rfl (Nat.le_of_ble_eq_true rfl) rfl (fun p e s m args below meth c A C => go_lv (lv' := [(0, .ref (a 0)), (1, .int x1), (2, .int x2)]) [0, 1, 2] rfl (WX3_meets_0 C hf))
set_option maxRecDepth 20000 in
theorem call_X3_meets {p : Program} {l : Launch} {e : Env} {s : State} {m : MethodId} {args : Array Value} {below : List Frame} {meth : Method} {c : Code} {K : KK} {A : Nat → Prop} {Q : State → Prop} {cc : ByteArray} {nL : Nat} {Ts : List Cond} {ret : Option FieldType} {pc : Nat} {lv : List (Nat × Value)} {st : List Value} {ix d : Nat} {α : Type} {kk : Int32 × (Nat → Int32) × (Nat → Int32) → Option α} {y : α} {a : Nat → Nat} {now : Nat → Int32} {past : Nat → Int32} {err : Nat → Int32} {lef : Nat → Int32} {msg : Nat → Int32} {met : Nat → Int32} {par : Nat → Int32} {sv : Int32} {hash : Int64} {q0 : Int32} {q1 : Int32} (C : Cx p s m args meth c K A cc nL RX3 Ts ret) (hG : GoodIn Ts (wsV RX3 ix RX3 yX3_meets wsX3_meets)) (hd : decode cc pc = .ok (.invokevirtual ix, 3)) (hdd : 3 < d) (hro : (st.map fun v => v.category).sum ≤ 8) (hf : (fX3_meets now msg met q0 q1).bind kk = some y) (k : ∀ v, kk v = some y → Go p l e (RM d) s m args below meth c K A nL 0 0 Q (mW K a now past err lef v.2.1 v.2.2 par sv hash) (pc + 3) lv (.int (v.1) :: st)) : Go p l e (RM d) s m args below meth c K A nL 0 0 Q (mW K a now past err lef msg met par sv hash) pc lv (.int q1 :: .int q0 :: .ref (a 0) :: st) := by
  obtain ⟨v, hv, hf⟩ := bd_some hf
  exact go_callV_full (ry := (some .int)) (n := 2) (b := a 0) (As := [.int q0, .int q1]) (rest := st) C (con_X3_meets l K a hv) hG (by decide) rfl ⟨Nat.succ_le_of_lt hdd, by show 8 + (5 + 11) + 40 * 3 ≤ 40 * d; omega⟩ ⟨Nat.le_refl _, Nat.le_refl _⟩ ⟨0, 3, _, _, rfl, rfl, rfl⟩ rfl rfl hro hd (k v hf)
-- X3_codewordMany
theorem iX3_codewordMany_3 : ∀ w ∈ wsX30, w ∈ wsX3_codewordMany := by decide +kernel
theorem kX3_codewordMany_22 : Cond.fieldLink RX3 22 "CosetCoderModel" "messageOf" "[I" ∈ wsX3_codewordMany := by decide +kernel
set_option maxRecDepth 20000 in
set_option maxHeartbeats 2000000 in
theorem WX3_codewordMany_32 {p : Program} {l : Launch} {e : Env} {s : State} {m : MethodId} {args : Array Value} {below : List Frame} {meth : Method} {c : Code} {K : KK} {A : Nat → Prop} {a : Nat → Nat} (C : Cx p s m args meth c K A cX3_codewordMany 3 RX3 wsX3_codewordMany (some .int)) {z : Int32 × (Nat → Int32)} {now : Nat → Int32} {past : Nat → Int32} {err : Nat → Int32} {lef : Nat → Int32} {met : Nat → Int32} {par : Nat → Int32} {sv : Int32} {hash : Int64} {r8 : (Nat → Int32) → Int32 → Int32 → Option (Int32 × (Nat → Int32))} {msg : Nat → Int32} {x2 : Int32} {t0 : Int32} {t1 : Int32} (hr8 : ∀ (msg : Nat → Int32) (x1 : Int32) (x2 : Int32), r8 msg x1 x2 = some z → Go p l e (RM 3) s m args below meth c K A 3 0 0 (MQ below (QR K (some (.int z.1)) (mW K a now past err lef z.2 met par sv hash) A) args s 0 0 A) (mW K a now past err lef msg met par sv hash) 8 [(0, .ref (a 0)), (1, .int x1), (2, .int x2)] []) (hf : FX3_codewordMany_32 now r8 msg x2 t0 t1 = some z) : Go p l e (RM 3) s m args below meth c K A 3 0 0 (MQ below (QR K (some (.int z.1)) (mW K a now past err lef z.2 met par sv hash) A) args s 0 0 A) (mW K a now past err lef msg met par sv hash) 32 [(0, .ref (a 0)), (2, .int x2)] [.int t1, .int t0] := by
  unfold FX3_codewordMany_32 at hf
  refine go_iadd C dX3_codewordMany_32 ?_
  refine go_istore_n C (lv' := [(0, .ref (a 0)), (1, .int (t0 + t1)), (2, .int x2)]) [1, 0, 2] dX3_codewordMany_33 rfl (by decide) rfl ?_
  refine go_iinc C (v := x2 + 1) (lv' := [(0, .ref (a 0)), (1, .int (t0 + t1)), (2, .int (x2 + 1))]) 2 [1, 2, 0] dX3_codewordMany_34 rfl rfl (by decide) rfl ?_
  refine go_goto C (tgt := 8) dX3_codewordMany_37 (by decide) ?_
  exact hr8 _ _ _ hf
set_option maxRecDepth 20000 in
set_option maxHeartbeats 2000000 in
theorem WX3_codewordMany_8 {p : Program} {l : Launch} {e : Env} {s : State} {m : MethodId} {args : Array Value} {below : List Frame} {meth : Method} {c : Code} {K : KK} {A : Nat → Prop} {a : Nat → Nat} (C : Cx p s m args meth c K A cX3_codewordMany 3 RX3 wsX3_codewordMany (some .int)) {z : Int32 × (Nat → Int32)} {now : Nat → Int32} {past : Nat → Int32} {err : Nat → Int32} {lef : Nat → Int32} {met : Nat → Int32} {par : Nat → Int32} {sv : Int32} {hash : Int64} {r8 : (Nat → Int32) → Int32 → Int32 → Option (Int32 × (Nat → Int32))} {msg : Nat → Int32} {x1 : Int32} {x2 : Int32} (hr8 : ∀ (msg : Nat → Int32) (x1 : Int32) (x2 : Int32), r8 msg x1 x2 = some z → Go p l e (RM 3) s m args below meth c K A 3 0 0 (MQ below (QR K (some (.int z.1)) (mW K a now past err lef z.2 met par sv hash) A) args s 0 0 A) (mW K a now past err lef msg met par sv hash) 8 [(0, .ref (a 0)), (1, .int x1), (2, .int x2)] []) (hf : FX3_codewordMany_8 now r8 msg x1 x2 = some z) : Go p l e (RM 3) s m args below meth c K A 3 0 0 (MQ below (QR K (some (.int z.1)) (mW K a now past err lef z.2 met par sv hash) A) args s 0 0 A) (mW K a now past err lef msg met par sv hash) 8 [(0, .ref (a 0)), (1, .int x1), (2, .int x2)] [] := by
  unfold FX3_codewordMany_8 at hf
  refine go_iload_n C 2 dX3_codewordMany_8 rfl rfl ?_
  refine go_aload_n C 0 dX3_codewordMany_9 rfl rfl ?_
  refine call_X3_words C gX3_codewordMany_X3_words dX3_codewordMany_10 (by decide) (Nat.le_of_ble_eq_true rfl) hf (fun v1 hf => ?_)
  refine go_c2_ge C (tgt := 40) dX3_codewordMany_13 (by decide) hf (fun h hf => ?_) (fun h hf => ?_)
  · refine go_iload_n C 1 dX3_codewordMany_40 rfl rfl ?_
    cases hf
    exact go_iret C dX3_codewordMany_41
  · refine go_iload_n C 1 dX3_codewordMany_16 rfl rfl ?_
    refine go_aload_n C 0 dX3_codewordMany_17 rfl rfl ?_
    refine gM_get_messageOf C iX3_codewordMany_3 kX3_codewordMany_22 dX3_codewordMany_18 ?_
    refine go_iload_n C 2 dX3_codewordMany_21 rfl rfl ?_
    refine gM_rd_msg C dX3_codewordMany_22 hf (fun v2 hf => ?_)
    refine go_iconst (v := (-1)) C dX3_codewordMany_23 (by decide) ?_
    refine go_c2_ne C (tgt := 31) dX3_codewordMany_24 (by decide) hf (fun h hf => ?_) (fun h hf => ?_)
    · refine go_iconst (v := 1) C dX3_codewordMany_31 (by decide) ?_
      refine go_lv (lv' := [(0, .ref (a 0)), (2, .int x2)]) [0, 2] rfl ?_
      exact WX3_codewordMany_32 C hr8 hf
    · refine go_iconst (v := 0) C dX3_codewordMany_27 (by decide) ?_
      refine go_goto C (tgt := 32) dX3_codewordMany_28 (by decide) ?_
      refine go_lv (lv' := [(0, .ref (a 0)), (2, .int x2)]) [0, 2] rfl ?_
      exact WX3_codewordMany_32 C hr8 hf
theorem wX3_codewordMany_8 {p : Program} {l : Launch} {e : Env} {s : State} {m : MethodId} {args : Array Value} {below : List Frame} {meth : Method} {c : Code} {K : KK} {A : Nat → Prop} {a : Nat → Nat} (C : Cx p s m args meth c K A cX3_codewordMany 3 RX3 wsX3_codewordMany (some .int)) {z : Int32 × (Nat → Int32)} {now : Nat → Int32} {past : Nat → Int32} {err : Nat → Int32} {lef : Nat → Int32} {met : Nat → Int32} {par : Nat → Int32} {sv : Int32} {hash : Int64} : ∀ (n : Nat) (msg : Nat → Int32) (x1 : Int32) (x2 : Int32), fX3_codewordMany_8 now  n msg x1 x2 = some z → Go p l e (RM 3) s m args below meth c K A 3 0 0 (MQ below (QR K (some (.int z.1)) (mW K a now past err lef z.2 met par sv hash) A) args s 0 0 A) (mW K a now past err lef msg met par sv hash) 8 [(0, .ref (a 0)), (1, .int x1), (2, .int x2)] [] := by
  intro n
  induction n with
  | zero => intro _ _ _ hf; cases hf
  | succ n ih => intro _ _ _ hf; exact WX3_codewordMany_8 C  ih hf
set_option maxRecDepth 20000 in
set_option maxHeartbeats 2000000 in
theorem WX3_codewordMany_0 {p : Program} {l : Launch} {e : Env} {s : State} {m : MethodId} {args : Array Value} {below : List Frame} {meth : Method} {c : Code} {K : KK} {A : Nat → Prop} {a : Nat → Nat} (C : Cx p s m args meth c K A cX3_codewordMany 3 RX3 wsX3_codewordMany (some .int)) {z : Int32 × (Nat → Int32)} {now : Nat → Int32} {past : Nat → Int32} {err : Nat → Int32} {lef : Nat → Int32} {met : Nat → Int32} {par : Nat → Int32} {sv : Int32} {hash : Int64} {msg : Nat → Int32} (hf : FX3_codewordMany_0 now  msg = some z) : Go p l e (RM 3) s m args below meth c K A 3 0 0 (MQ below (QR K (some (.int z.1)) (mW K a now past err lef z.2 met par sv hash) A) args s 0 0 A) (mW K a now past err lef msg met par sv hash) 0 [(0, .ref (a 0))] [] := by
  unfold FX3_codewordMany_0 at hf
  refine go_aload_n C 0 dX3_codewordMany_0 rfl rfl ?_
  refine call_X3_laysMessages C gX3_codewordMany_X3_laysMessages dX3_codewordMany_1 (by decide) (Nat.le_of_ble_eq_true rfl) hf (fun v3 hf => ?_)
  refine go_iconst (v := 0) C dX3_codewordMany_4 (by decide) ?_
  refine go_istore_n C (lv' := [(0, .ref (a 0)), (1, .int 0)]) [1, 0] dX3_codewordMany_5 rfl (by decide) rfl ?_
  refine go_iconst (v := 0) C dX3_codewordMany_6 (by decide) ?_
  refine go_istore_n C (lv' := [(0, .ref (a 0)), (1, .int 0), (2, .int 0)]) [1, 2, 0] dX3_codewordMany_7 rfl (by decide) rfl ?_
  exact wX3_codewordMany_8 C  300 _ _ _ hf
set_option maxRecDepth 20000 in
theorem con_X3_codewordMany (l : Launch) (K : KK) (a : Nat → Nat) {now : Nat → Int32} {past : Nat → Int32} {err : Nat → Int32} {lef : Nat → Int32} {msg : Nat → Int32} {met : Nat → Int32} {par : Nat → Int32} {sv : Int32} {hash : Int64} {z : Int32 × (Nat → Int32)} (hf : fX3_codewordMany now msg = some z) : Con l yX3_codewordMany wsX3_codewordMany 3 K [.ref (a 0)] (mW K a now past err lef msg met par sv hash) (some (.int z.1)) (mW K a now past err lef z.2 met par sv hash) :=
  con_of (cc := cX3_codewordMany) (maxL := 3) (ret := (some .int)) (own := RX3) (lv0 := [(0, .ref (a 0))]) (by decide) rfl rfl (Nat.le_of_ble_eq_true rfl) rfl (fun p e s m args below meth c A C => go_lv (lv' := [(0, .ref (a 0))]) [0] rfl (WX3_codewordMany_0 C hf))
set_option maxRecDepth 20000 in
theorem call_X3_codewordMany {p : Program} {l : Launch} {e : Env} {s : State} {m : MethodId} {args : Array Value} {below : List Frame} {meth : Method} {c : Code} {K : KK} {A : Nat → Prop} {Q : State → Prop} {cc : ByteArray} {nL : Nat} {Ts : List Cond} {ret : Option FieldType} {pc : Nat} {lv : List (Nat × Value)} {st : List Value} {ix d : Nat} {α : Type} {kk : Int32 × (Nat → Int32) → Option α} {y : α} {a : Nat → Nat} {now : Nat → Int32} {past : Nat → Int32} {err : Nat → Int32} {lef : Nat → Int32} {msg : Nat → Int32} {met : Nat → Int32} {par : Nat → Int32} {sv : Int32} {hash : Int64} (C : Cx p s m args meth c K A cc nL RX3 Ts ret) (hG : GoodIn Ts (wsV RX3 ix RX3 yX3_codewordMany wsX3_codewordMany)) (hd : decode cc pc = .ok (.invokevirtual ix, 3)) (hdd : 3 < d) (hro : (st.map fun v => v.category).sum ≤ 8) (hf : (fX3_codewordMany now msg).bind kk = some y) (k : ∀ v, kk v = some y → Go p l e (RM d) s m args below meth c K A nL 0 0 Q (mW K a now past err lef v.2 met par sv hash) (pc + 3) lv (.int (v.1) :: st)) : Go p l e (RM d) s m args below meth c K A nL 0 0 Q (mW K a now past err lef msg met par sv hash) pc lv (.ref (a 0) :: st) := by
  obtain ⟨v, hv, hf⟩ := bd_some hf
  exact go_callV_full (ry := (some .int)) (n := 0) (b := a 0) (As := []) (rest := st) C (con_X3_codewordMany l K a hv) hG (by decide) rfl ⟨Nat.succ_le_of_lt hdd, by show 8 + (3 + 11) + 40 * 3 ≤ 40 * d; omega⟩ ⟨Nat.le_refl _, Nat.le_refl _⟩ ⟨0, 3, _, _, rfl, rfl, rfl⟩ rfl rfl hro hd (k v hf)
-- X3_codewords
set_option maxRecDepth 20000 in
set_option maxHeartbeats 2000000 in
theorem WX3_codewords_0 {p : Program} {l : Launch} {e : Env} {s : State} {m : MethodId} {args : Array Value} {below : List Frame} {meth : Method} {c : Code} {K : KK} {A : Nat → Prop} {a : Nat → Nat} (C : Cx p s m args meth c K A cX3_codewords 1 RX3 wsX3_codewords (some .int)) {z : Int32 × (Nat → Int32)} {now : Nat → Int32} {past : Nat → Int32} {err : Nat → Int32} {lef : Nat → Int32} {met : Nat → Int32} {par : Nat → Int32} {sv : Int32} {hash : Int64} {msg : Nat → Int32} (hf : FX3_codewords_0 now  msg = some z) : Go p l e (RM 4) s m args below meth c K A 1 0 0 (MQ below (QR K (some (.int z.1)) (mW K a now past err lef z.2 met par sv hash) A) args s 0 0 A) (mW K a now past err lef msg met par sv hash) 0 [(0, .ref (a 0))] [] := by
  unfold FX3_codewords_0 at hf
  refine go_aload_n C 0 dX3_codewords_0 rfl rfl ?_
  refine call_X3_codewordMany C gX3_codewords_X3_codewordMany dX3_codewords_1 (by decide) (Nat.le_of_ble_eq_true rfl) hf (fun v1 hf => ?_)
  cases hf
  exact go_iret C dX3_codewords_4
set_option maxRecDepth 20000 in
theorem con_X3_codewords (l : Launch) (K : KK) (a : Nat → Nat) {now : Nat → Int32} {past : Nat → Int32} {err : Nat → Int32} {lef : Nat → Int32} {msg : Nat → Int32} {met : Nat → Int32} {par : Nat → Int32} {sv : Int32} {hash : Int64} {z : Int32 × (Nat → Int32)} (hf : fX3_codewords now msg = some z) : Con l yX3_codewords wsX3_codewords 4 K [.ref (a 0)] (mW K a now past err lef msg met par sv hash) (some (.int z.1)) (mW K a now past err lef z.2 met par sv hash) :=
  con_of (cc := cX3_codewords) (maxL := 1) (ret := (some .int)) (own := RX3) (lv0 := [(0, .ref (a 0))]) (by decide) rfl rfl (Nat.le_of_ble_eq_true rfl) rfl (fun p e s m args below meth c A C => go_lv (lv' := [(0, .ref (a 0))]) [0] rfl (WX3_codewords_0 C hf))
set_option maxRecDepth 20000 in
theorem call_X3_codewords {p : Program} {l : Launch} {e : Env} {s : State} {m : MethodId} {args : Array Value} {below : List Frame} {meth : Method} {c : Code} {K : KK} {A : Nat → Prop} {Q : State → Prop} {cc : ByteArray} {nL : Nat} {Ts : List Cond} {ret : Option FieldType} {pc : Nat} {lv : List (Nat × Value)} {st : List Value} {ix d : Nat} {α : Type} {kk : Int32 × (Nat → Int32) → Option α} {y : α} {a : Nat → Nat} {now : Nat → Int32} {past : Nat → Int32} {err : Nat → Int32} {lef : Nat → Int32} {msg : Nat → Int32} {met : Nat → Int32} {par : Nat → Int32} {sv : Int32} {hash : Int64} (C : Cx p s m args meth c K A cc nL RX3 Ts ret) (hG : GoodIn Ts (wsV RX3 ix RX3 yX3_codewords wsX3_codewords)) (hd : decode cc pc = .ok (.invokevirtual ix, 3)) (hdd : 4 < d) (hro : (st.map fun v => v.category).sum ≤ 8) (hf : (fX3_codewords now msg).bind kk = some y) (k : ∀ v, kk v = some y → Go p l e (RM d) s m args below meth c K A nL 0 0 Q (mW K a now past err lef v.2 met par sv hash) (pc + 3) lv (.int (v.1) :: st)) : Go p l e (RM d) s m args below meth c K A nL 0 0 Q (mW K a now past err lef msg met par sv hash) pc lv (.ref (a 0) :: st) := by
  obtain ⟨v, hv, hf⟩ := bd_some hf
  exact go_callV_full (ry := (some .int)) (n := 0) (b := a 0) (As := []) (rest := st) C (con_X3_codewords l K a hv) hG (by decide) rfl ⟨Nat.succ_le_of_lt hdd, by show 8 + (1 + 11) + 40 * 4 ≤ 40 * d; omega⟩ ⟨Nat.le_refl _, Nat.le_refl _⟩ ⟨0, 3, _, _, rfl, rfl, rfl⟩ rfl rfl hro hd (k v hf)
-- X3_messages
set_option maxRecDepth 20000 in
set_option maxHeartbeats 2000000 in
theorem WX3_messages_0 {p : Program} {l : Launch} {e : Env} {s : State} {m : MethodId} {args : Array Value} {below : List Frame} {meth : Method} {c : Code} {K : KK} {A : Nat → Prop} {a : Nat → Nat} (C : Cx p s m args meth c K A cX3_messages 1 RX3 wsX3_messages (some .int)) {z : Int32 × (Nat → Int32) × (Nat → Int32)} {now : Nat → Int32} {past : Nat → Int32} {err : Nat → Int32} {lef : Nat → Int32} {par : Nat → Int32} {sv : Int32} {hash : Int64} {msg : Nat → Int32} {met : Nat → Int32} (hf : FX3_messages_0 now  msg met = some z) : Go p l e (RM 4) s m args below meth c K A 1 0 0 (MQ below (QR K (some (.int z.1)) (mW K a now past err lef z.2.1 z.2.2 par sv hash) A) args s 0 0 A) (mW K a now past err lef msg met par sv hash) 0 [(0, .ref (a 0))] [] := by
  unfold FX3_messages_0 at hf
  refine go_aload_n C 0 dX3_messages_0 rfl rfl ?_
  refine go_iconst (v := 0) C dX3_messages_1 (by decide) ?_
  refine go_iconst (v := 0) C dX3_messages_2 (by decide) ?_
  refine call_X3_meets C gX3_messages_X3_meets dX3_messages_3 (by decide) (Nat.le_of_ble_eq_true rfl) hf (fun v1 hf => ?_)
  cases hf
  exact go_iret C dX3_messages_6
set_option maxRecDepth 20000 in
theorem con_X3_messages (l : Launch) (K : KK) (a : Nat → Nat) {now : Nat → Int32} {past : Nat → Int32} {err : Nat → Int32} {lef : Nat → Int32} {msg : Nat → Int32} {met : Nat → Int32} {par : Nat → Int32} {sv : Int32} {hash : Int64} {z : Int32 × (Nat → Int32) × (Nat → Int32)} (hf : fX3_messages now msg met = some z) : Con l yX3_messages wsX3_messages 4 K [.ref (a 0)] (mW K a now past err lef msg met par sv hash) (some (.int z.1)) (mW K a now past err lef z.2.1 z.2.2 par sv hash) :=
  con_of (cc := cX3_messages) (maxL := 1) (ret := (some .int)) (own := RX3) (lv0 := [(0, .ref (a 0))]) (by decide) rfl rfl (Nat.le_of_ble_eq_true rfl) rfl (fun p e s m args below meth c A C => go_lv (lv' := [(0, .ref (a 0))]) [0] rfl (WX3_messages_0 C hf))
set_option maxRecDepth 20000 in
theorem call_X3_messages {p : Program} {l : Launch} {e : Env} {s : State} {m : MethodId} {args : Array Value} {below : List Frame} {meth : Method} {c : Code} {K : KK} {A : Nat → Prop} {Q : State → Prop} {cc : ByteArray} {nL : Nat} {Ts : List Cond} {ret : Option FieldType} {pc : Nat} {lv : List (Nat × Value)} {st : List Value} {ix d : Nat} {α : Type} {kk : Int32 × (Nat → Int32) × (Nat → Int32) → Option α} {y : α} {a : Nat → Nat} {now : Nat → Int32} {past : Nat → Int32} {err : Nat → Int32} {lef : Nat → Int32} {msg : Nat → Int32} {met : Nat → Int32} {par : Nat → Int32} {sv : Int32} {hash : Int64} (C : Cx p s m args meth c K A cc nL RX3 Ts ret) (hG : GoodIn Ts (wsV RX3 ix RX3 yX3_messages wsX3_messages)) (hd : decode cc pc = .ok (.invokevirtual ix, 3)) (hdd : 4 < d) (hro : (st.map fun v => v.category).sum ≤ 8) (hf : (fX3_messages now msg met).bind kk = some y) (k : ∀ v, kk v = some y → Go p l e (RM d) s m args below meth c K A nL 0 0 Q (mW K a now past err lef v.2.1 v.2.2 par sv hash) (pc + 3) lv (.int (v.1) :: st)) : Go p l e (RM d) s m args below meth c K A nL 0 0 Q (mW K a now past err lef msg met par sv hash) pc lv (.ref (a 0) :: st) := by
  obtain ⟨v, hv, hf⟩ := bd_some hf
  exact go_callV_full (ry := (some .int)) (n := 0) (b := a 0) (As := []) (rest := st) C (con_X3_messages l K a hv) hG (by decide) rfl ⟨Nat.succ_le_of_lt hdd, by show 8 + (1 + 11) + 40 * 4 ≤ 40 * d; omega⟩ ⟨Nat.le_refl _, Nat.le_refl _⟩ ⟨0, 3, _, _, rfl, rfl, rfl⟩ rfl rfl hro hd (k v hf)
