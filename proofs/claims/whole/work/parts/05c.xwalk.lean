-- X2_digest
theorem iX2_digest_1 : ∀ w ∈ wsX10, w ∈ wsX2_digest := by decide +kernel
theorem iX2_digest_2 : ∀ w ∈ wsX20, w ∈ wsX2_digest := by decide +kernel
theorem kX2_digest_12 : Cond.fieldLink RX2 12 "CosetCoder" "state" "LCosetCoder$State;" ∈ wsX2_digest := by decide +kernel
theorem kX2_digest_20 : Cond.fieldLink RX2 20 "CosetCoder" "savedCount" "I" ∈ wsX2_digest := by decide +kernel
theorem kX2_digest_24 : Cond.fieldLink RX2 24 "CosetCoder" "errors" "[I" ∈ wsX2_digest := by decide +kernel
set_option maxRecDepth 20000 in
set_option maxHeartbeats 2000000 in
theorem WX2_digest_97 {p : Program} {l : Launch} {e : Env} {s : State} {m : MethodId} {args : Array Value} {below : List Frame} {meth : Method} {c : Code} {K : KK} {A : Nat → Prop} {a : Nat → Nat} (C : Cx p s m args meth c K A cX2_digest 5 RX2 wsX2_digest (some .long)) {z : Int64 × (Nat → Int32) × Int32} {len : Int32} {sz : Int32} {words : Nat → Int32} {checks : Nat → Int32} {cnt : Int32} {err : Nat → Int32} {pm : Nat → Nat} {sl : Nat → Int32} {ss : Nat → Int32} {sw : Nat → Nat → Int32} {sc : Nat → Nat → Int32} {r54 : (Nat → Int32) → (Int32) → Int64 → Int32 → Option (Int64 × (Nat → Int32) × Int32)} {vec : Nat → Int32} {bc : Int32} {x3 : Int32} {t0 : Int64} {t1 : Int32} (hr54 : ∀ (vec : Nat → Int32) (bc : Int32) (x1 : Int64) (x3 : Int32), r54 vec bc x1 x3 = some z → Go p l e (RM 6) s m args below meth c K A 5 0 0 (MQ below (QR K (some (.long z.1)) (xW K a len sz words checks cnt err z.2.1 z.2.2 pm sl ss sw sc) A) args s 0 0 A) (xW K a len sz words checks cnt err vec bc pm sl ss sw sc) 54 [(0, .ref (a 0)), (1, .long x1), (3, .int x3)] []) (hf : FX2_digest_97 len sz words checks cnt err r54 vec bc x3 t0 t1 = some z) : Go p l e (RM 6) s m args below meth c K A 5 0 0 (MQ below (QR K (some (.long z.1)) (xW K a len sz words checks cnt err z.2.1 z.2.2 pm sl ss sw sc) A) args s 0 0 A) (xW K a len sz words checks cnt err vec bc pm sl ss sw sc) 97 [(0, .ref (a 0)), (3, .int x3)] [.int t1, .long t0] := by
  unfold FX2_digest_97 at hf
  refine call_X2_mix C gX2_digest_X2_mix dX2_digest_97 (by decide) (Nat.le_of_ble_eq_true rfl) hf (fun v1 hf => ?_)
  refine go_lstore_n C (lv' := [(0, .ref (a 0)), (1, .long v1), (3, .int x3)]) [1, 0, 2] dX2_digest_100 rfl (by decide) rfl ?_
  refine go_iinc C (v := x3 + 1) (lv' := [(0, .ref (a 0)), (1, .long v1), (3, .int (x3 + 1))]) 2 [1, 2, 0] dX2_digest_101 rfl rfl (by decide) rfl ?_
  refine go_goto C (tgt := 54) dX2_digest_104 (by decide) ?_
  exact hr54 _ _ _ _ hf
set_option maxRecDepth 20000 in
set_option maxHeartbeats 2000000 in
theorem WX2_digest_168 {p : Program} {l : Launch} {e : Env} {s : State} {m : MethodId} {args : Array Value} {below : List Frame} {meth : Method} {c : Code} {K : KK} {A : Nat → Prop} {a : Nat → Nat} (C : Cx p s m args meth c K A cX2_digest 5 RX2 wsX2_digest (some .long)) {z : Int64 × (Nat → Int32) × Int32} {len : Int32} {sz : Int32} {words : Nat → Int32} {checks : Nat → Int32} {cnt : Int32} {err : Nat → Int32} {pm : Nat → Nat} {sl : Nat → Int32} {ss : Nat → Int32} {sw : Nat → Nat → Int32} {sc : Nat → Nat → Int32} {r168 : (Nat → Int32) → (Int32) → Int64 → Int32 → Option (Int64 × (Nat → Int32) × Int32)} {vec : Nat → Int32} {bc : Int32} {x1 : Int64} {x3 : Int32} (hr168 : ∀ (vec : Nat → Int32) (bc : Int32) (x1 : Int64) (x3 : Int32), r168 vec bc x1 x3 = some z → Go p l e (RM 6) s m args below meth c K A 5 0 0 (MQ below (QR K (some (.long z.1)) (xW K a len sz words checks cnt err z.2.1 z.2.2 pm sl ss sw sc) A) args s 0 0 A) (xW K a len sz words checks cnt err vec bc pm sl ss sw sc) 168 [(0, .ref (a 0)), (1, .long x1), (3, .int x3)] []) (hf : FX2_digest_168 len sz words checks cnt err r168 vec bc x1 x3 = some z) : Go p l e (RM 6) s m args below meth c K A 5 0 0 (MQ below (QR K (some (.long z.1)) (xW K a len sz words checks cnt err z.2.1 z.2.2 pm sl ss sw sc) A) args s 0 0 A) (xW K a len sz words checks cnt err vec bc pm sl ss sw sc) 168 [(0, .ref (a 0)), (1, .long x1), (3, .int x3)] [] := by
  unfold FX2_digest_168 at hf
  refine go_iload_n C 2 dX2_digest_168 rfl rfl ?_
  refine go_aload_n C 0 dX2_digest_169 rfl rfl ?_
  refine gX_get_state C iX2_digest_2 kX2_digest_12 dX2_digest_170 ?_
  refine gX_get_n_length C iX2_digest_1 dX2_digest_173 ?_
  refine go_c2_gt C (tgt := 210) dX2_digest_176 (by decide) hf (fun h hf => ?_) (fun h hf => ?_)
  · refine go_lload_n C 1 dX2_digest_210 rfl rfl ?_
    refine go_aload_n C 0 dX2_digest_211 rfl rfl ?_
    refine gX_get_savedCount C iX2_digest_2 kX2_digest_20 dX2_digest_212 ?_
    refine call_X2_mix C gX2_digest_X2_mix dX2_digest_215 (by decide) (Nat.le_of_ble_eq_true rfl) hf (fun v2 hf => ?_)
    cases hf
    exact go_lret C dX2_digest_218
  · refine go_aload_n C 0 dX2_digest_179 rfl rfl ?_
    refine go_iload_n C 2 dX2_digest_180 rfl rfl ?_
    refine call_X2_leakiestSet C gX2_digest_X2_leakiestSet dX2_digest_181 (by decide) (Nat.le_of_ble_eq_true rfl) hf (fun v3 hf => ?_)
    refine go_istore C (lv' := [(0, .ref (a 0)), (1, .long x1), (3, .int x3), (4, .int v3.1)]) [1, 2, 3, 0] dX2_digest_184 (by decide) rfl ?_
    refine go_lload_n C 1 dX2_digest_186 rfl rfl ?_
    refine go_aload_n C 0 dX2_digest_187 rfl rfl ?_
    refine go_iload C 3 dX2_digest_188 rfl ?_
    refine call_X2_leakedBits C gX2_digest_X2_leakedBits dX2_digest_190 (by decide) (Nat.le_of_ble_eq_true rfl) hf (fun v4 hf => ?_)
    refine call_X2_mix C gX2_digest_X2_mix dX2_digest_193 (by decide) (Nat.le_of_ble_eq_true rfl) hf (fun v5 hf => ?_)
    refine go_lstore_n C (lv' := [(0, .ref (a 0)), (1, .long v5), (3, .int x3), (4, .int v3.1)]) [1, 0, 2, 3] dX2_digest_196 rfl (by decide) rfl ?_
    refine go_lload_n C 1 dX2_digest_197 rfl rfl ?_
    refine go_iload C 3 dX2_digest_198 rfl ?_
    refine call_X2_mix C gX2_digest_X2_mix dX2_digest_200 (by decide) (Nat.le_of_ble_eq_true rfl) hf (fun v6 hf => ?_)
    refine go_lstore_n C (lv' := [(0, .ref (a 0)), (1, .long v6), (3, .int x3), (4, .int v3.1)]) [1, 0, 2, 3] dX2_digest_203 rfl (by decide) rfl ?_
    refine go_iinc C (v := x3 + 1) (lv' := [(0, .ref (a 0)), (1, .long v6), (3, .int (x3 + 1)), (4, .int v3.1)]) 2 [1, 2, 0, 3] dX2_digest_204 rfl rfl (by decide) rfl ?_
    refine go_goto C (tgt := 168) dX2_digest_207 (by decide) ?_
    refine go_lv (lv' := [(0, .ref (a 0)), (1, .long v6), (3, .int (x3 + 1))]) [0, 1, 2] rfl ?_
    exact hr168 _ _ _ _ hf
theorem wX2_digest_168 {p : Program} {l : Launch} {e : Env} {s : State} {m : MethodId} {args : Array Value} {below : List Frame} {meth : Method} {c : Code} {K : KK} {A : Nat → Prop} {a : Nat → Nat} (C : Cx p s m args meth c K A cX2_digest 5 RX2 wsX2_digest (some .long)) {z : Int64 × (Nat → Int32) × Int32} {len : Int32} {sz : Int32} {words : Nat → Int32} {checks : Nat → Int32} {cnt : Int32} {err : Nat → Int32} {pm : Nat → Nat} {sl : Nat → Int32} {ss : Nat → Int32} {sw : Nat → Nat → Int32} {sc : Nat → Nat → Int32} : ∀ (n : Nat) (vec : Nat → Int32) (bc : Int32) (x1 : Int64) (x3 : Int32), fX2_digest_168 len sz words checks cnt err  n vec bc x1 x3 = some z → Go p l e (RM 6) s m args below meth c K A 5 0 0 (MQ below (QR K (some (.long z.1)) (xW K a len sz words checks cnt err z.2.1 z.2.2 pm sl ss sw sc) A) args s 0 0 A) (xW K a len sz words checks cnt err vec bc pm sl ss sw sc) 168 [(0, .ref (a 0)), (1, .long x1), (3, .int x3)] [] := by
  intro n
  induction n with
  | zero => intro _ _ _ _ hf; cases hf
  | succ n ih => intro _ _ _ _ hf; exact WX2_digest_168 C  ih hf
set_option maxRecDepth 20000 in
set_option maxHeartbeats 2000000 in
theorem WX2_digest_109 {p : Program} {l : Launch} {e : Env} {s : State} {m : MethodId} {args : Array Value} {below : List Frame} {meth : Method} {c : Code} {K : KK} {A : Nat → Prop} {a : Nat → Nat} (C : Cx p s m args meth c K A cX2_digest 5 RX2 wsX2_digest (some .long)) {z : Int64 × (Nat → Int32) × Int32} {len : Int32} {sz : Int32} {words : Nat → Int32} {checks : Nat → Int32} {cnt : Int32} {err : Nat → Int32} {pm : Nat → Nat} {sl : Nat → Int32} {ss : Nat → Int32} {sw : Nat → Nat → Int32} {sc : Nat → Nat → Int32} {r109 : (Nat → Int32) → (Int32) → Int64 → Int32 → Option (Int64 × (Nat → Int32) × Int32)} {vec : Nat → Int32} {bc : Int32} {x1 : Int64} {x3 : Int32} (hr109 : ∀ (vec : Nat → Int32) (bc : Int32) (x1 : Int64) (x3 : Int32), r109 vec bc x1 x3 = some z → Go p l e (RM 6) s m args below meth c K A 5 0 0 (MQ below (QR K (some (.long z.1)) (xW K a len sz words checks cnt err z.2.1 z.2.2 pm sl ss sw sc) A) args s 0 0 A) (xW K a len sz words checks cnt err vec bc pm sl ss sw sc) 109 [(0, .ref (a 0)), (1, .long x1), (3, .int x3)] []) (hf : FX2_digest_109 len sz words checks cnt err r109 vec bc x1 x3 = some z) : Go p l e (RM 6) s m args below meth c K A 5 0 0 (MQ below (QR K (some (.long z.1)) (xW K a len sz words checks cnt err z.2.1 z.2.2 pm sl ss sw sc) A) args s 0 0 A) (xW K a len sz words checks cnt err vec bc pm sl ss sw sc) 109 [(0, .ref (a 0)), (1, .long x1), (3, .int x3)] [] := by
  unfold FX2_digest_109 at hf
  refine go_iload_n C 2 dX2_digest_109 rfl rfl ?_
  refine go_iconst (v := 2) C dX2_digest_110 (by decide) ?_
  refine go_c2_gt C (tgt := 130) dX2_digest_111 (by decide) hf (fun h hf => ?_) (fun h hf => ?_)
  · refine go_lload_n C 1 dX2_digest_130 rfl rfl ?_
    refine go_aload_n C 0 dX2_digest_131 rfl rfl ?_
    refine call_X2_codewords C gX2_digest_X2_codewords dX2_digest_132 (by decide) (Nat.le_of_ble_eq_true rfl) hf (fun v7 hf => ?_)
    refine call_X2_mix C gX2_digest_X2_mix dX2_digest_135 (by decide) (Nat.le_of_ble_eq_true rfl) hf (fun v8 hf => ?_)
    refine go_lstore_n C (lv' := [(0, .ref (a 0)), (1, .long v8), (3, .int x3)]) [1, 0, 2] dX2_digest_138 rfl (by decide) rfl ?_
    refine go_lload_n C 1 dX2_digest_139 rfl rfl ?_
    refine go_aload_n C 0 dX2_digest_140 rfl rfl ?_
    refine call_X2_messages C gX2_digest_X2_messages dX2_digest_141 (by decide) (Nat.le_of_ble_eq_true rfl) hf (fun v9 hf => ?_)
    refine call_X2_mix C gX2_digest_X2_mix dX2_digest_144 (by decide) (Nat.le_of_ble_eq_true rfl) hf (fun v10 hf => ?_)
    refine go_lstore_n C (lv' := [(0, .ref (a 0)), (1, .long v10), (3, .int x3)]) [1, 0, 2] dX2_digest_147 rfl (by decide) rfl ?_
    refine go_lload_n C 1 dX2_digest_148 rfl rfl ?_
    refine go_aload_n C 0 dX2_digest_149 rfl rfl ?_
    refine call_X2_threshold C gX2_digest_X2_threshold dX2_digest_150 (by decide) (Nat.le_of_ble_eq_true rfl) hf (fun v11 hf => ?_)
    refine call_X2_mix C gX2_digest_X2_mix dX2_digest_153 (by decide) (Nat.le_of_ble_eq_true rfl) hf (fun v12 hf => ?_)
    refine go_lstore_n C (lv' := [(0, .ref (a 0)), (1, .long v12), (3, .int x3)]) [1, 0, 2] dX2_digest_156 rfl (by decide) rfl ?_
    refine go_lload_n C 1 dX2_digest_157 rfl rfl ?_
    refine go_aload_n C 0 dX2_digest_158 rfl rfl ?_
    refine call_X2_weakness C gX2_digest_X2_weakness dX2_digest_159 (by decide) (Nat.le_of_ble_eq_true rfl) hf (fun v13 hf => ?_)
    refine call_X2_mix C gX2_digest_X2_mix dX2_digest_162 (by decide) (Nat.le_of_ble_eq_true rfl) hf (fun v14 hf => ?_)
    refine go_lstore_n C (lv' := [(0, .ref (a 0)), (1, .long v14), (3, .int x3)]) [1, 0, 2] dX2_digest_165 rfl (by decide) rfl ?_
    refine go_iconst (v := 0) C dX2_digest_166 (by decide) ?_
    refine go_istore_n C (lv' := [(0, .ref (a 0)), (1, .long v14), (3, .int 0)]) [1, 2, 0] dX2_digest_167 rfl (by decide) rfl ?_
    exact wX2_digest_168 C  300 _ _ _ _ hf
  · refine go_lload_n C 1 dX2_digest_114 rfl rfl ?_
    refine go_aload_n C 0 dX2_digest_115 rfl rfl ?_
    refine go_iload_n C 2 dX2_digest_116 rfl rfl ?_
    refine call_X2_rankOfKind C gX2_digest_X2_rankOfKind dX2_digest_117 (by decide) (Nat.le_of_ble_eq_true rfl) hf (fun v15 hf => ?_)
    refine call_X2_mix C gX2_digest_X2_mix dX2_digest_120 (by decide) (Nat.le_of_ble_eq_true rfl) hf (fun v16 hf => ?_)
    refine go_lstore_n C (lv' := [(0, .ref (a 0)), (1, .long v16), (3, .int x3)]) [1, 0, 2] dX2_digest_123 rfl (by decide) rfl ?_
    refine go_iinc C (v := x3 + 1) (lv' := [(0, .ref (a 0)), (1, .long v16), (3, .int (x3 + 1))]) 2 [1, 2, 0] dX2_digest_124 rfl rfl (by decide) rfl ?_
    refine go_goto C (tgt := 109) dX2_digest_127 (by decide) ?_
    exact hr109 _ _ _ _ hf
theorem wX2_digest_109 {p : Program} {l : Launch} {e : Env} {s : State} {m : MethodId} {args : Array Value} {below : List Frame} {meth : Method} {c : Code} {K : KK} {A : Nat → Prop} {a : Nat → Nat} (C : Cx p s m args meth c K A cX2_digest 5 RX2 wsX2_digest (some .long)) {z : Int64 × (Nat → Int32) × Int32} {len : Int32} {sz : Int32} {words : Nat → Int32} {checks : Nat → Int32} {cnt : Int32} {err : Nat → Int32} {pm : Nat → Nat} {sl : Nat → Int32} {ss : Nat → Int32} {sw : Nat → Nat → Int32} {sc : Nat → Nat → Int32} : ∀ (n : Nat) (vec : Nat → Int32) (bc : Int32) (x1 : Int64) (x3 : Int32), fX2_digest_109 len sz words checks cnt err  n vec bc x1 x3 = some z → Go p l e (RM 6) s m args below meth c K A 5 0 0 (MQ below (QR K (some (.long z.1)) (xW K a len sz words checks cnt err z.2.1 z.2.2 pm sl ss sw sc) A) args s 0 0 A) (xW K a len sz words checks cnt err vec bc pm sl ss sw sc) 109 [(0, .ref (a 0)), (1, .long x1), (3, .int x3)] [] := by
  intro n
  induction n with
  | zero => intro _ _ _ _ hf; cases hf
  | succ n ih => intro _ _ _ _ hf; exact WX2_digest_109 C  ih hf
set_option maxRecDepth 20000 in
set_option maxHeartbeats 2000000 in
theorem WX2_digest_54 {p : Program} {l : Launch} {e : Env} {s : State} {m : MethodId} {args : Array Value} {below : List Frame} {meth : Method} {c : Code} {K : KK} {A : Nat → Prop} {a : Nat → Nat} (C : Cx p s m args meth c K A cX2_digest 5 RX2 wsX2_digest (some .long)) {z : Int64 × (Nat → Int32) × Int32} {len : Int32} {sz : Int32} {words : Nat → Int32} {checks : Nat → Int32} {cnt : Int32} {err : Nat → Int32} {pm : Nat → Nat} {sl : Nat → Int32} {ss : Nat → Int32} {sw : Nat → Nat → Int32} {sc : Nat → Nat → Int32} {r54 : (Nat → Int32) → (Int32) → Int64 → Int32 → Option (Int64 × (Nat → Int32) × Int32)} {vec : Nat → Int32} {bc : Int32} {x1 : Int64} {x3 : Int32} (hr54 : ∀ (vec : Nat → Int32) (bc : Int32) (x1 : Int64) (x3 : Int32), r54 vec bc x1 x3 = some z → Go p l e (RM 6) s m args below meth c K A 5 0 0 (MQ below (QR K (some (.long z.1)) (xW K a len sz words checks cnt err z.2.1 z.2.2 pm sl ss sw sc) A) args s 0 0 A) (xW K a len sz words checks cnt err vec bc pm sl ss sw sc) 54 [(0, .ref (a 0)), (1, .long x1), (3, .int x3)] []) (hf : FX2_digest_54 len sz words checks cnt err r54 vec bc x1 x3 = some z) : Go p l e (RM 6) s m args below meth c K A 5 0 0 (MQ below (QR K (some (.long z.1)) (xW K a len sz words checks cnt err z.2.1 z.2.2 pm sl ss sw sc) A) args s 0 0 A) (xW K a len sz words checks cnt err vec bc pm sl ss sw sc) 54 [(0, .ref (a 0)), (1, .long x1), (3, .int x3)] [] := by
  unfold FX2_digest_54 at hf
  refine go_iload_n C 2 dX2_digest_54 rfl rfl ?_
  refine go_aload_n C 0 dX2_digest_55 rfl rfl ?_
  refine gX_get_state C iX2_digest_2 kX2_digest_12 dX2_digest_56 ?_
  refine gX_get_n_size C iX2_digest_1 dX2_digest_59 ?_
  refine go_c2_ge C (tgt := 107) dX2_digest_62 (by decide) hf (fun h hf => ?_) (fun h hf => ?_)
  · refine go_iconst (v := 0) C dX2_digest_107 (by decide) ?_
    refine go_istore_n C (lv' := [(0, .ref (a 0)), (1, .long x1), (3, .int 0)]) [1, 2, 0] dX2_digest_108 rfl (by decide) rfl ?_
    exact wX2_digest_109 C  300 _ _ _ _ hf
  · refine go_lload_n C 1 dX2_digest_65 rfl rfl ?_
    refine go_aload_n C 0 dX2_digest_66 rfl rfl ?_
    refine gX_get_state C iX2_digest_2 kX2_digest_12 dX2_digest_67 ?_
    refine gX_get_n_words C iX2_digest_1 dX2_digest_70 ?_
    refine go_iload_n C 2 dX2_digest_73 rfl rfl ?_
    refine gX_rd_words C dX2_digest_74 hf (fun v17 hf => ?_)
    refine call_X2_mix C gX2_digest_X2_mix dX2_digest_75 (by decide) (Nat.le_of_ble_eq_true rfl) hf (fun v18 hf => ?_)
    refine go_lstore_n C (lv' := [(0, .ref (a 0)), (1, .long v18), (3, .int x3)]) [1, 0, 2] dX2_digest_78 rfl (by decide) rfl ?_
    refine go_lload_n C 1 dX2_digest_79 rfl rfl ?_
    refine go_aload_n C 0 dX2_digest_80 rfl rfl ?_
    refine gX_get_state C iX2_digest_2 kX2_digest_12 dX2_digest_81 ?_
    refine gX_get_n_checks C iX2_digest_1 dX2_digest_84 ?_
    refine go_iload_n C 2 dX2_digest_87 rfl rfl ?_
    refine gX_rd_checks C dX2_digest_88 hf (fun v19 hf => ?_)
    refine go_c1_eq C (tgt := 96) dX2_digest_89 (by decide) hf (fun h hf => ?_) (fun h hf => ?_)
    · refine go_iconst (v := 0) C dX2_digest_96 (by decide) ?_
      refine go_lv (lv' := [(0, .ref (a 0)), (3, .int x3)]) [0, 2] rfl ?_
      exact WX2_digest_97 C hr54 hf
    · refine go_iconst (v := 1) C dX2_digest_92 (by decide) ?_
      refine go_goto C (tgt := 97) dX2_digest_93 (by decide) ?_
      refine go_lv (lv' := [(0, .ref (a 0)), (3, .int x3)]) [0, 2] rfl ?_
      exact WX2_digest_97 C hr54 hf
theorem wX2_digest_54 {p : Program} {l : Launch} {e : Env} {s : State} {m : MethodId} {args : Array Value} {below : List Frame} {meth : Method} {c : Code} {K : KK} {A : Nat → Prop} {a : Nat → Nat} (C : Cx p s m args meth c K A cX2_digest 5 RX2 wsX2_digest (some .long)) {z : Int64 × (Nat → Int32) × Int32} {len : Int32} {sz : Int32} {words : Nat → Int32} {checks : Nat → Int32} {cnt : Int32} {err : Nat → Int32} {pm : Nat → Nat} {sl : Nat → Int32} {ss : Nat → Int32} {sw : Nat → Nat → Int32} {sc : Nat → Nat → Int32} : ∀ (n : Nat) (vec : Nat → Int32) (bc : Int32) (x1 : Int64) (x3 : Int32), fX2_digest_54 len sz words checks cnt err  n vec bc x1 x3 = some z → Go p l e (RM 6) s m args below meth c K A 5 0 0 (MQ below (QR K (some (.long z.1)) (xW K a len sz words checks cnt err z.2.1 z.2.2 pm sl ss sw sc) A) args s 0 0 A) (xW K a len sz words checks cnt err vec bc pm sl ss sw sc) 54 [(0, .ref (a 0)), (1, .long x1), (3, .int x3)] [] := by
  intro n
  induction n with
  | zero => intro _ _ _ _ hf; cases hf
  | succ n ih => intro _ _ _ _ hf; exact WX2_digest_54 C  ih hf
set_option maxRecDepth 20000 in
set_option maxHeartbeats 2000000 in
theorem WX2_digest_6 {p : Program} {l : Launch} {e : Env} {s : State} {m : MethodId} {args : Array Value} {below : List Frame} {meth : Method} {c : Code} {K : KK} {A : Nat → Prop} {a : Nat → Nat} (C : Cx p s m args meth c K A cX2_digest 5 RX2 wsX2_digest (some .long)) {z : Int64 × (Nat → Int32) × Int32} {len : Int32} {sz : Int32} {words : Nat → Int32} {checks : Nat → Int32} {cnt : Int32} {err : Nat → Int32} {pm : Nat → Nat} {sl : Nat → Int32} {ss : Nat → Int32} {sw : Nat → Nat → Int32} {sc : Nat → Nat → Int32} {r6 : (Nat → Int32) → (Int32) → Int64 → Int32 → Option (Int64 × (Nat → Int32) × Int32)} {vec : Nat → Int32} {bc : Int32} {x1 : Int64} {x3 : Int32} (hr6 : ∀ (vec : Nat → Int32) (bc : Int32) (x1 : Int64) (x3 : Int32), r6 vec bc x1 x3 = some z → Go p l e (RM 6) s m args below meth c K A 5 0 0 (MQ below (QR K (some (.long z.1)) (xW K a len sz words checks cnt err z.2.1 z.2.2 pm sl ss sw sc) A) args s 0 0 A) (xW K a len sz words checks cnt err vec bc pm sl ss sw sc) 6 [(0, .ref (a 0)), (1, .long x1), (3, .int x3)] []) (hf : FX2_digest_6 len sz words checks cnt err r6 vec bc x1 x3 = some z) : Go p l e (RM 6) s m args below meth c K A 5 0 0 (MQ below (QR K (some (.long z.1)) (xW K a len sz words checks cnt err z.2.1 z.2.2 pm sl ss sw sc) A) args s 0 0 A) (xW K a len sz words checks cnt err vec bc pm sl ss sw sc) 6 [(0, .ref (a 0)), (1, .long x1), (3, .int x3)] [] := by
  unfold FX2_digest_6 at hf
  refine go_iload_n C 2 dX2_digest_6 rfl rfl ?_
  refine go_iconst (v := 5) C dX2_digest_7 (by decide) ?_
  refine go_c2_ge C (tgt := 28) dX2_digest_8 (by decide) hf (fun h hf => ?_) (fun h hf => ?_)
  · refine go_lload_n C 1 dX2_digest_28 rfl rfl ?_
    refine go_aload_n C 0 dX2_digest_29 rfl rfl ?_
    refine gX_get_state C iX2_digest_2 kX2_digest_12 dX2_digest_30 ?_
    refine gX_get_n_length C iX2_digest_1 dX2_digest_33 ?_
    refine call_X2_mix C gX2_digest_X2_mix dX2_digest_36 (by decide) (Nat.le_of_ble_eq_true rfl) hf (fun v20 hf => ?_)
    refine go_lstore_n C (lv' := [(0, .ref (a 0)), (1, .long v20), (3, .int x3)]) [1, 0, 2] dX2_digest_39 rfl (by decide) rfl ?_
    refine go_lload_n C 1 dX2_digest_40 rfl rfl ?_
    refine go_aload_n C 0 dX2_digest_41 rfl rfl ?_
    refine gX_get_state C iX2_digest_2 kX2_digest_12 dX2_digest_42 ?_
    refine gX_get_n_size C iX2_digest_1 dX2_digest_45 ?_
    refine call_X2_mix C gX2_digest_X2_mix dX2_digest_48 (by decide) (Nat.le_of_ble_eq_true rfl) hf (fun v21 hf => ?_)
    refine go_lstore_n C (lv' := [(0, .ref (a 0)), (1, .long v21), (3, .int x3)]) [1, 0, 2] dX2_digest_51 rfl (by decide) rfl ?_
    refine go_iconst (v := 0) C dX2_digest_52 (by decide) ?_
    refine go_istore_n C (lv' := [(0, .ref (a 0)), (1, .long v21), (3, .int 0)]) [1, 2, 0] dX2_digest_53 rfl (by decide) rfl ?_
    exact wX2_digest_54 C  300 _ _ _ _ hf
  · refine go_lload_n C 1 dX2_digest_11 rfl rfl ?_
    refine go_aload_n C 0 dX2_digest_12 rfl rfl ?_
    refine gX_get_errors C iX2_digest_2 kX2_digest_24 dX2_digest_13 ?_
    refine go_iload_n C 2 dX2_digest_16 rfl rfl ?_
    refine gX_rd_err C dX2_digest_17 hf (fun v22 hf => ?_)
    refine call_X2_mix C gX2_digest_X2_mix dX2_digest_18 (by decide) (Nat.le_of_ble_eq_true rfl) hf (fun v23 hf => ?_)
    refine go_lstore_n C (lv' := [(0, .ref (a 0)), (1, .long v23), (3, .int x3)]) [1, 0, 2] dX2_digest_21 rfl (by decide) rfl ?_
    refine go_iinc C (v := x3 + 1) (lv' := [(0, .ref (a 0)), (1, .long v23), (3, .int (x3 + 1))]) 2 [1, 2, 0] dX2_digest_22 rfl rfl (by decide) rfl ?_
    refine go_goto C (tgt := 6) dX2_digest_25 (by decide) ?_
    exact hr6 _ _ _ _ hf
theorem wX2_digest_6 {p : Program} {l : Launch} {e : Env} {s : State} {m : MethodId} {args : Array Value} {below : List Frame} {meth : Method} {c : Code} {K : KK} {A : Nat → Prop} {a : Nat → Nat} (C : Cx p s m args meth c K A cX2_digest 5 RX2 wsX2_digest (some .long)) {z : Int64 × (Nat → Int32) × Int32} {len : Int32} {sz : Int32} {words : Nat → Int32} {checks : Nat → Int32} {cnt : Int32} {err : Nat → Int32} {pm : Nat → Nat} {sl : Nat → Int32} {ss : Nat → Int32} {sw : Nat → Nat → Int32} {sc : Nat → Nat → Int32} : ∀ (n : Nat) (vec : Nat → Int32) (bc : Int32) (x1 : Int64) (x3 : Int32), fX2_digest_6 len sz words checks cnt err  n vec bc x1 x3 = some z → Go p l e (RM 6) s m args below meth c K A 5 0 0 (MQ below (QR K (some (.long z.1)) (xW K a len sz words checks cnt err z.2.1 z.2.2 pm sl ss sw sc) A) args s 0 0 A) (xW K a len sz words checks cnt err vec bc pm sl ss sw sc) 6 [(0, .ref (a 0)), (1, .long x1), (3, .int x3)] [] := by
  intro n
  induction n with
  | zero => intro _ _ _ _ hf; cases hf
  | succ n ih => intro _ _ _ _ hf; exact WX2_digest_6 C  ih hf
set_option maxRecDepth 20000 in
set_option maxHeartbeats 2000000 in
theorem WX2_digest_0 {p : Program} {l : Launch} {e : Env} {s : State} {m : MethodId} {args : Array Value} {below : List Frame} {meth : Method} {c : Code} {K : KK} {A : Nat → Prop} {a : Nat → Nat} (C : Cx p s m args meth c K A cX2_digest 5 RX2 wsX2_digest (some .long)) {z : Int64 × (Nat → Int32) × Int32} {len : Int32} {sz : Int32} {words : Nat → Int32} {checks : Nat → Int32} {cnt : Int32} {err : Nat → Int32} {pm : Nat → Nat} {sl : Nat → Int32} {ss : Nat → Int32} {sw : Nat → Nat → Int32} {sc : Nat → Nat → Int32} {vec : Nat → Int32} {bc : Int32} (hf : FX2_digest_0 len sz words checks cnt err  vec bc = some z) : Go p l e (RM 6) s m args below meth c K A 5 0 0 (MQ below (QR K (some (.long z.1)) (xW K a len sz words checks cnt err z.2.1 z.2.2 pm sl ss sw sc) A) args s 0 0 A) (xW K a len sz words checks cnt err vec bc pm sl ss sw sc) 0 [(0, .ref (a 0))] [] := by
  unfold FX2_digest_0 at hf
  refine go_ldc2 (v := 2687) C dX2_digest_0 (by decide +kernel) ?_
  refine go_lstore_n C (lv' := [(0, .ref (a 0)), (1, .long 2687)]) [1, 0] dX2_digest_3 rfl (by decide) rfl ?_
  refine go_iconst (v := 0) C dX2_digest_4 (by decide) ?_
  refine go_istore_n C (lv' := [(0, .ref (a 0)), (1, .long 2687), (3, .int 0)]) [1, 2, 0] dX2_digest_5 rfl (by decide) rfl ?_
  exact wX2_digest_6 C  300 _ _ _ _ hf
set_option maxRecDepth 20000 in
theorem con_X2_digest (l : Launch) (K : KK) (a : Nat → Nat) {len : Int32} {sz : Int32} {words : Nat → Int32} {checks : Nat → Int32} {cnt : Int32} {err : Nat → Int32} {vec : Nat → Int32} {bc : Int32} {pm : Nat → Nat} {sl : Nat → Int32} {ss : Nat → Int32} {sw : Nat → Nat → Int32} {sc : Nat → Nat → Int32} {z : Int64 × (Nat → Int32) × Int32} (hf : fX2_digest len sz words checks cnt err vec bc = some z) : Con l yX2_digest wsX2_digest 6 K [.ref (a 0)] (xW K a len sz words checks cnt err vec bc pm sl ss sw sc) (some (.long z.1)) (xW K a len sz words checks cnt err z.2.1 z.2.2 pm sl ss sw sc) :=
  con_of (cc := cX2_digest) (maxL := 5) (ret := (some .long)) (own := RX2) (lv0 := [(0, .ref (a 0))]) (by decide) rfl rfl (Nat.le_of_ble_eq_true rfl) rfl (fun p e s m args below meth c A C => go_lv (lv' := [(0, .ref (a 0))]) [0] rfl (WX2_digest_0 C hf))
set_option maxRecDepth 20000 in
theorem call_X2_digest {p : Program} {l : Launch} {e : Env} {s : State} {m : MethodId} {args : Array Value} {below : List Frame} {meth : Method} {c : Code} {K : KK} {A : Nat → Prop} {Q : State → Prop} {cc : ByteArray} {nL : Nat} {Ts : List Cond} {ret : Option FieldType} {pc : Nat} {lv : List (Nat × Value)} {st : List Value} {ix d : Nat} {α : Type} {kk : Int64 × (Nat → Int32) × Int32 → Option α} {y : α} {a : Nat → Nat} {len : Int32} {sz : Int32} {words : Nat → Int32} {checks : Nat → Int32} {cnt : Int32} {err : Nat → Int32} {vec : Nat → Int32} {bc : Int32} {pm : Nat → Nat} {sl : Nat → Int32} {ss : Nat → Int32} {sw : Nat → Nat → Int32} {sc : Nat → Nat → Int32} (C : Cx p s m args meth c K A cc nL RX2 Ts ret) (hG : GoodIn Ts (wsV RX2 ix RX2 yX2_digest wsX2_digest)) (hd : decode cc pc = .ok (.invokevirtual ix, 3)) (hdd : 6 < d) (hro : (st.map fun v => v.category).sum ≤ 8) (hf : (fX2_digest len sz words checks cnt err vec bc).bind kk = some y) (k : ∀ v, kk v = some y → Go p l e (RM d) s m args below meth c K A nL 0 0 Q (xW K a len sz words checks cnt err v.2.1 v.2.2 pm sl ss sw sc) (pc + 3) lv (.long (v.1) :: st)) : Go p l e (RM d) s m args below meth c K A nL 0 0 Q (xW K a len sz words checks cnt err vec bc pm sl ss sw sc) pc lv (.ref (a 0) :: st) := by
  obtain ⟨v, hv, hf⟩ := bd_some hf
  exact go_callV_full (ry := (some .long)) (n := 0) (b := a 0) (As := []) (rest := st) C (con_X2_digest l K a hv) hG (by decide) rfl ⟨Nat.succ_le_of_lt hdd, by show 8 + (5 + 11) + 40 * 6 ≤ 40 * d; omega⟩ ⟨Nat.le_refl _, Nat.le_refl _⟩ ⟨0, 2, _, _, rfl, rfl, rfl⟩ rfl rfl hro hd (k v hf)
