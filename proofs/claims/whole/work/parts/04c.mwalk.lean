-- X3_digest
theorem iX3_digest_3 : ∀ w ∈ wsX30, w ∈ wsX3_digest := by decide +kernel
theorem kX3_digest_114 : Cond.fieldLink RX3 114 "CosetCoderModel" "hash" "J" ∈ wsX3_digest := by decide +kernel
theorem kX3_digest_16 : Cond.fieldLink RX3 16 "CosetCoderModel" "errors" "[I" ∈ wsX3_digest := by decide +kernel
theorem kX3_digest_40 : Cond.fieldLink RX3 40 "CosetCoderModel" "saved" "I" ∈ wsX3_digest := by decide +kernel
theorem kX3_digest_7 : Cond.fieldLink RX3 7 "CosetCoderModel" "now" "[I" ∈ wsX3_digest := by decide +kernel
set_option maxRecDepth 20000 in
set_option maxHeartbeats 2000000 in
theorem WX3_digest_157 {p : Program} {l : Launch} {e : Env} {s : State} {m : MethodId} {args : Array Value} {below : List Frame} {meth : Method} {c : Code} {K : KK} {A : Nat → Prop} {a : Nat → Nat} (C : Cx p s m args meth c K A cX3_digest 3 RX3 wsX3_digest (some .long)) {z : Int64 × (Nat → Int32) × (Nat → Int32) × (Nat → Int32) × Int64} {now : Nat → Int32} {past : Nat → Int32} {err : Nat → Int32} {par : Nat → Int32} {sv : Int32} {r157 : (Nat → Int32) → (Nat → Int32) → (Nat → Int32) → (Int64) → Int32 → Option (Int64 × (Nat → Int32) × (Nat → Int32) × (Nat → Int32) × Int64)} {lef : Nat → Int32} {msg : Nat → Int32} {met : Nat → Int32} {hash : Int64} {x1 : Int32} (hr157 : ∀ (lef : Nat → Int32) (msg : Nat → Int32) (met : Nat → Int32) (hash : Int64) (x1 : Int32), r157 lef msg met hash x1 = some z → Go p l e (RM 5) s m args below meth c K A 3 0 0 (MQ below (QR K (some (.long z.1)) (mW K a now past err z.2.1 z.2.2.1 z.2.2.2.1 par sv z.2.2.2.2) A) args s 0 0 A) (mW K a now past err lef msg met par sv hash) 157 [(0, .ref (a 0)), (1, .int x1)] []) (hf : FX3_digest_157 now err sv r157 lef msg met hash x1 = some z) : Go p l e (RM 5) s m args below meth c K A 3 0 0 (MQ below (QR K (some (.long z.1)) (mW K a now past err z.2.1 z.2.2.1 z.2.2.2.1 par sv z.2.2.2.2) A) args s 0 0 A) (mW K a now past err lef msg met par sv hash) 157 [(0, .ref (a 0)), (1, .int x1)] [] := by
  unfold FX3_digest_157 at hf
  refine go_iload_n C 1 dX3_digest_157 rfl rfl ?_
  refine go_aload_n C 0 dX3_digest_158 rfl rfl ?_
  refine gM_get_now C iX3_digest_3 kX3_digest_7 dX3_digest_159 ?_
  refine go_iconst (v := 0) C dX3_digest_162 (by decide) ?_
  refine gM_rd_now C dX3_digest_163 hf (fun v1 hf => ?_)
  refine go_c2_gt C (tgt := 193) dX3_digest_164 (by decide) hf (fun h hf => ?_) (fun h hf => ?_)
  · refine go_aload_n C 0 dX3_digest_193 rfl rfl ?_
    refine go_aload_n C 0 dX3_digest_194 rfl rfl ?_
    refine gM_get_saved C iX3_digest_3 kX3_digest_40 dX3_digest_195 ?_
    refine call_X3_mix C gX3_digest_X3_mix dX3_digest_198 (by decide) (Nat.le_of_ble_eq_true rfl) hf (fun v2 hf => ?_)
    refine go_aload_n C 0 dX3_digest_201 rfl rfl ?_
    refine gM_get_hash C iX3_digest_3 kX3_digest_114 dX3_digest_202 ?_
    cases hf
    exact go_lret C dX3_digest_205
  · refine go_aload_n C 0 dX3_digest_167 rfl rfl ?_
    refine go_iload_n C 1 dX3_digest_168 rfl rfl ?_
    refine call_X3_worstOf C gX3_digest_X3_worstOf dX3_digest_169 (by decide) (Nat.le_of_ble_eq_true rfl) hf (fun v3 hf => ?_)
    refine go_istore_n C (lv' := [(0, .ref (a 0)), (1, .int x1), (2, .int v3.1)]) [1, 2, 0] dX3_digest_172 rfl (by decide) rfl ?_
    refine go_aload_n C 0 dX3_digest_173 rfl rfl ?_
    refine go_aload_n C 0 dX3_digest_174 rfl rfl ?_
    refine go_iload_n C 2 dX3_digest_175 rfl rfl ?_
    refine call_X3_leakageOf C gX3_digest_X3_leakageOf dX3_digest_176 (by decide) (Nat.le_of_ble_eq_true rfl) hf (fun v4 hf => ?_)
    refine call_X3_mix C gX3_digest_X3_mix dX3_digest_179 (by decide) (Nat.le_of_ble_eq_true rfl) hf (fun v5 hf => ?_)
    refine go_aload_n C 0 dX3_digest_182 rfl rfl ?_
    refine go_iload_n C 2 dX3_digest_183 rfl rfl ?_
    refine call_X3_mix C gX3_digest_X3_mix dX3_digest_184 (by decide) (Nat.le_of_ble_eq_true rfl) hf (fun v6 hf => ?_)
    refine go_iinc C (v := x1 + 1) (lv' := [(0, .ref (a 0)), (1, .int (x1 + 1)), (2, .int v3.1)]) 1 [1, 0, 2] dX3_digest_187 rfl rfl (by decide) rfl ?_
    refine go_goto C (tgt := 157) dX3_digest_190 (by decide) ?_
    refine go_lv (lv' := [(0, .ref (a 0)), (1, .int (x1 + 1))]) [0, 1] rfl ?_
    exact hr157 _ _ _ _ _ hf
theorem wX3_digest_157 {p : Program} {l : Launch} {e : Env} {s : State} {m : MethodId} {args : Array Value} {below : List Frame} {meth : Method} {c : Code} {K : KK} {A : Nat → Prop} {a : Nat → Nat} (C : Cx p s m args meth c K A cX3_digest 3 RX3 wsX3_digest (some .long)) {z : Int64 × (Nat → Int32) × (Nat → Int32) × (Nat → Int32) × Int64} {now : Nat → Int32} {past : Nat → Int32} {err : Nat → Int32} {par : Nat → Int32} {sv : Int32} : ∀ (n : Nat) (lef : Nat → Int32) (msg : Nat → Int32) (met : Nat → Int32) (hash : Int64) (x1 : Int32), fX3_digest_157 now err sv  n lef msg met hash x1 = some z → Go p l e (RM 5) s m args below meth c K A 3 0 0 (MQ below (QR K (some (.long z.1)) (mW K a now past err z.2.1 z.2.2.1 z.2.2.2.1 par sv z.2.2.2.2) A) args s 0 0 A) (mW K a now past err lef msg met par sv hash) 157 [(0, .ref (a 0)), (1, .int x1)] [] := by
  intro n
  induction n with
  | zero => intro _ _ _ _ _ hf; cases hf
  | succ n ih => intro _ _ _ _ _ hf; exact WX3_digest_157 C  ih hf
set_option maxRecDepth 20000 in
set_option maxHeartbeats 2000000 in
theorem WX3_digest_95 {p : Program} {l : Launch} {e : Env} {s : State} {m : MethodId} {args : Array Value} {below : List Frame} {meth : Method} {c : Code} {K : KK} {A : Nat → Prop} {a : Nat → Nat} (C : Cx p s m args meth c K A cX3_digest 3 RX3 wsX3_digest (some .long)) {z : Int64 × (Nat → Int32) × (Nat → Int32) × (Nat → Int32) × Int64} {now : Nat → Int32} {past : Nat → Int32} {err : Nat → Int32} {par : Nat → Int32} {sv : Int32} {r95 : (Nat → Int32) → (Nat → Int32) → (Nat → Int32) → (Int64) → Int32 → Option (Int64 × (Nat → Int32) × (Nat → Int32) × (Nat → Int32) × Int64)} {lef : Nat → Int32} {msg : Nat → Int32} {met : Nat → Int32} {hash : Int64} {x1 : Int32} (hr95 : ∀ (lef : Nat → Int32) (msg : Nat → Int32) (met : Nat → Int32) (hash : Int64) (x1 : Int32), r95 lef msg met hash x1 = some z → Go p l e (RM 5) s m args below meth c K A 3 0 0 (MQ below (QR K (some (.long z.1)) (mW K a now past err z.2.1 z.2.2.1 z.2.2.2.1 par sv z.2.2.2.2) A) args s 0 0 A) (mW K a now past err lef msg met par sv hash) 95 [(0, .ref (a 0)), (1, .int x1)] []) (hf : FX3_digest_95 now err sv r95 lef msg met hash x1 = some z) : Go p l e (RM 5) s m args below meth c K A 3 0 0 (MQ below (QR K (some (.long z.1)) (mW K a now past err z.2.1 z.2.2.1 z.2.2.2.1 par sv z.2.2.2.2) A) args s 0 0 A) (mW K a now past err lef msg met par sv hash) 95 [(0, .ref (a 0)), (1, .int x1)] [] := by
  unfold FX3_digest_95 at hf
  refine go_iload_n C 1 dX3_digest_95 rfl rfl ?_
  refine go_iconst (v := 3) C dX3_digest_96 (by decide) ?_
  refine go_c2_ge C (tgt := 121) dX3_digest_97 (by decide) hf (fun h hf => ?_) (fun h hf => ?_)
  · refine go_aload_n C 0 dX3_digest_121 rfl rfl ?_
    refine go_aload_n C 0 dX3_digest_122 rfl rfl ?_
    refine call_X3_codewordMany C gX3_digest_X3_codewordMany dX3_digest_123 (by decide) (Nat.le_of_ble_eq_true rfl) hf (fun v7 hf => ?_)
    refine call_X3_mix C gX3_digest_X3_mix dX3_digest_126 (by decide) (Nat.le_of_ble_eq_true rfl) hf (fun v8 hf => ?_)
    refine go_aload_n C 0 dX3_digest_129 rfl rfl ?_
    refine go_aload_n C 0 dX3_digest_130 rfl rfl ?_
    refine go_iconst (v := 0) C dX3_digest_131 (by decide) ?_
    refine go_iconst (v := 0) C dX3_digest_132 (by decide) ?_
    refine call_X3_meets C gX3_digest_X3_meets dX3_digest_133 (by decide) (Nat.le_of_ble_eq_true rfl) hf (fun v9 hf => ?_)
    refine call_X3_mix C gX3_digest_X3_mix dX3_digest_136 (by decide) (Nat.le_of_ble_eq_true rfl) hf (fun v10 hf => ?_)
    refine go_aload_n C 0 dX3_digest_139 rfl rfl ?_
    refine go_aload_n C 0 dX3_digest_140 rfl rfl ?_
    refine call_X3_threshold C gX3_digest_X3_threshold dX3_digest_141 (by decide) (Nat.le_of_ble_eq_true rfl) hf (fun v11 hf => ?_)
    refine call_X3_mix C gX3_digest_X3_mix dX3_digest_144 (by decide) (Nat.le_of_ble_eq_true rfl) hf (fun v12 hf => ?_)
    refine go_aload_n C 0 dX3_digest_147 rfl rfl ?_
    refine go_aload_n C 0 dX3_digest_148 rfl rfl ?_
    refine call_X3_weakness C gX3_digest_X3_weakness dX3_digest_149 (by decide) (Nat.le_of_ble_eq_true rfl) hf (fun v13 hf => ?_)
    refine call_X3_mix C gX3_digest_X3_mix dX3_digest_152 (by decide) (Nat.le_of_ble_eq_true rfl) hf (fun v14 hf => ?_)
    refine go_iconst (v := 0) C dX3_digest_155 (by decide) ?_
    refine go_istore_n C (lv' := [(0, .ref (a 0)), (1, .int 0)]) [1, 0] dX3_digest_156 rfl (by decide) rfl ?_
    exact wX3_digest_157 C  300 _ _ _ _ _ hf
  · refine go_aload_n C 0 dX3_digest_100 rfl rfl ?_
    refine go_aload_n C 0 dX3_digest_101 rfl rfl ?_
    refine go_iload_n C 1 dX3_digest_102 rfl rfl ?_
    refine go_aload_n C 0 dX3_digest_103 rfl rfl ?_
    refine call_X3_words C gX3_digest_X3_words dX3_digest_104 (by decide) (Nat.le_of_ble_eq_true rfl) hf (fun v15 hf => ?_)
    refine go_iconst (v := 1) C dX3_digest_107 (by decide) ?_
    refine go_isub C dX3_digest_108 ?_
    refine call_X3_rankOf C gX3_digest_X3_rankOf dX3_digest_109 (by decide) (Nat.le_of_ble_eq_true rfl) hf (fun v16 hf => ?_)
    refine call_X3_mix C gX3_digest_X3_mix dX3_digest_112 (by decide) (Nat.le_of_ble_eq_true rfl) hf (fun v17 hf => ?_)
    refine go_iinc C (v := x1 + 1) (lv' := [(0, .ref (a 0)), (1, .int (x1 + 1))]) 1 [1, 0] dX3_digest_115 rfl rfl (by decide) rfl ?_
    refine go_goto C (tgt := 95) dX3_digest_118 (by decide) ?_
    exact hr95 _ _ _ _ _ hf
theorem wX3_digest_95 {p : Program} {l : Launch} {e : Env} {s : State} {m : MethodId} {args : Array Value} {below : List Frame} {meth : Method} {c : Code} {K : KK} {A : Nat → Prop} {a : Nat → Nat} (C : Cx p s m args meth c K A cX3_digest 3 RX3 wsX3_digest (some .long)) {z : Int64 × (Nat → Int32) × (Nat → Int32) × (Nat → Int32) × Int64} {now : Nat → Int32} {past : Nat → Int32} {err : Nat → Int32} {par : Nat → Int32} {sv : Int32} : ∀ (n : Nat) (lef : Nat → Int32) (msg : Nat → Int32) (met : Nat → Int32) (hash : Int64) (x1 : Int32), fX3_digest_95 now err sv  n lef msg met hash x1 = some z → Go p l e (RM 5) s m args below meth c K A 3 0 0 (MQ below (QR K (some (.long z.1)) (mW K a now past err z.2.1 z.2.2.1 z.2.2.2.1 par sv z.2.2.2.2) A) args s 0 0 A) (mW K a now past err lef msg met par sv hash) 95 [(0, .ref (a 0)), (1, .int x1)] [] := by
  intro n
  induction n with
  | zero => intro _ _ _ _ _ hf; cases hf
  | succ n ih => intro _ _ _ _ _ hf; exact WX3_digest_95 C  ih hf
set_option maxRecDepth 20000 in
set_option maxHeartbeats 2000000 in
theorem WX3_digest_52 {p : Program} {l : Launch} {e : Env} {s : State} {m : MethodId} {args : Array Value} {below : List Frame} {meth : Method} {c : Code} {K : KK} {A : Nat → Prop} {a : Nat → Nat} (C : Cx p s m args meth c K A cX3_digest 3 RX3 wsX3_digest (some .long)) {z : Int64 × (Nat → Int32) × (Nat → Int32) × (Nat → Int32) × Int64} {now : Nat → Int32} {past : Nat → Int32} {err : Nat → Int32} {par : Nat → Int32} {sv : Int32} {r52 : (Nat → Int32) → (Nat → Int32) → (Nat → Int32) → (Int64) → Int32 → Option (Int64 × (Nat → Int32) × (Nat → Int32) × (Nat → Int32) × Int64)} {lef : Nat → Int32} {msg : Nat → Int32} {met : Nat → Int32} {hash : Int64} {x1 : Int32} (hr52 : ∀ (lef : Nat → Int32) (msg : Nat → Int32) (met : Nat → Int32) (hash : Int64) (x1 : Int32), r52 lef msg met hash x1 = some z → Go p l e (RM 5) s m args below meth c K A 3 0 0 (MQ below (QR K (some (.long z.1)) (mW K a now past err z.2.1 z.2.2.1 z.2.2.2.1 par sv z.2.2.2.2) A) args s 0 0 A) (mW K a now past err lef msg met par sv hash) 52 [(0, .ref (a 0)), (1, .int x1)] []) (hf : FX3_digest_52 now err sv r52 lef msg met hash x1 = some z) : Go p l e (RM 5) s m args below meth c K A 3 0 0 (MQ below (QR K (some (.long z.1)) (mW K a now past err z.2.1 z.2.2.1 z.2.2.2.1 par sv z.2.2.2.2) A) args s 0 0 A) (mW K a now past err lef msg met par sv hash) 52 [(0, .ref (a 0)), (1, .int x1)] [] := by
  unfold FX3_digest_52 at hf
  refine go_iload_n C 1 dX3_digest_52 rfl rfl ?_
  refine go_aload_n C 0 dX3_digest_53 rfl rfl ?_
  refine gM_get_now C iX3_digest_3 kX3_digest_7 dX3_digest_54 ?_
  refine go_iconst (v := 1) C dX3_digest_57 (by decide) ?_
  refine gM_rd_now C dX3_digest_58 hf (fun v18 hf => ?_)
  refine go_c2_ge C (tgt := 93) dX3_digest_59 (by decide) hf (fun h hf => ?_) (fun h hf => ?_)
  · refine go_iconst (v := 0) C dX3_digest_93 (by decide) ?_
    refine go_istore_n C (lv' := [(0, .ref (a 0)), (1, .int 0)]) [1, 0] dX3_digest_94 rfl (by decide) rfl ?_
    exact wX3_digest_95 C  300 _ _ _ _ _ hf
  · refine go_aload_n C 0 dX3_digest_62 rfl rfl ?_
    refine go_aload_n C 0 dX3_digest_63 rfl rfl ?_
    refine gM_get_now C iX3_digest_3 kX3_digest_7 dX3_digest_64 ?_
    refine go_iconst (v := 2) C dX3_digest_67 (by decide) ?_
    refine go_iload_n C 1 dX3_digest_68 rfl rfl ?_
    refine go_iadd C dX3_digest_69 ?_
    refine gM_rd_now C dX3_digest_70 hf (fun v19 hf => ?_)
    refine call_X3_mix C gX3_digest_X3_mix dX3_digest_71 (by decide) (Nat.le_of_ble_eq_true rfl) hf (fun v20 hf => ?_)
    refine go_aload_n C 0 dX3_digest_74 rfl rfl ?_
    refine go_aload_n C 0 dX3_digest_75 rfl rfl ?_
    refine gM_get_now C iX3_digest_3 kX3_digest_7 dX3_digest_76 ?_
    refine go_bipush (v := 8) C dX3_digest_79 (by decide) ?_
    refine go_iload_n C 1 dX3_digest_81 rfl rfl ?_
    refine go_iadd C dX3_digest_82 ?_
    refine gM_rd_now C dX3_digest_83 hf (fun v21 hf => ?_)
    refine call_X3_mix C gX3_digest_X3_mix dX3_digest_84 (by decide) (Nat.le_of_ble_eq_true rfl) hf (fun v22 hf => ?_)
    refine go_iinc C (v := x1 + 1) (lv' := [(0, .ref (a 0)), (1, .int (x1 + 1))]) 1 [1, 0] dX3_digest_87 rfl rfl (by decide) rfl ?_
    refine go_goto C (tgt := 52) dX3_digest_90 (by decide) ?_
    exact hr52 _ _ _ _ _ hf
theorem wX3_digest_52 {p : Program} {l : Launch} {e : Env} {s : State} {m : MethodId} {args : Array Value} {below : List Frame} {meth : Method} {c : Code} {K : KK} {A : Nat → Prop} {a : Nat → Nat} (C : Cx p s m args meth c K A cX3_digest 3 RX3 wsX3_digest (some .long)) {z : Int64 × (Nat → Int32) × (Nat → Int32) × (Nat → Int32) × Int64} {now : Nat → Int32} {past : Nat → Int32} {err : Nat → Int32} {par : Nat → Int32} {sv : Int32} : ∀ (n : Nat) (lef : Nat → Int32) (msg : Nat → Int32) (met : Nat → Int32) (hash : Int64) (x1 : Int32), fX3_digest_52 now err sv  n lef msg met hash x1 = some z → Go p l e (RM 5) s m args below meth c K A 3 0 0 (MQ below (QR K (some (.long z.1)) (mW K a now past err z.2.1 z.2.2.1 z.2.2.2.1 par sv z.2.2.2.2) A) args s 0 0 A) (mW K a now past err lef msg met par sv hash) 52 [(0, .ref (a 0)), (1, .int x1)] [] := by
  intro n
  induction n with
  | zero => intro _ _ _ _ _ hf; cases hf
  | succ n ih => intro _ _ _ _ _ hf; exact WX3_digest_52 C  ih hf
set_option maxRecDepth 20000 in
set_option maxHeartbeats 2000000 in
theorem WX3_digest_9 {p : Program} {l : Launch} {e : Env} {s : State} {m : MethodId} {args : Array Value} {below : List Frame} {meth : Method} {c : Code} {K : KK} {A : Nat → Prop} {a : Nat → Nat} (C : Cx p s m args meth c K A cX3_digest 3 RX3 wsX3_digest (some .long)) {z : Int64 × (Nat → Int32) × (Nat → Int32) × (Nat → Int32) × Int64} {now : Nat → Int32} {past : Nat → Int32} {err : Nat → Int32} {par : Nat → Int32} {sv : Int32} {r9 : (Nat → Int32) → (Nat → Int32) → (Nat → Int32) → (Int64) → Int32 → Option (Int64 × (Nat → Int32) × (Nat → Int32) × (Nat → Int32) × Int64)} {lef : Nat → Int32} {msg : Nat → Int32} {met : Nat → Int32} {hash : Int64} {x1 : Int32} (hr9 : ∀ (lef : Nat → Int32) (msg : Nat → Int32) (met : Nat → Int32) (hash : Int64) (x1 : Int32), r9 lef msg met hash x1 = some z → Go p l e (RM 5) s m args below meth c K A 3 0 0 (MQ below (QR K (some (.long z.1)) (mW K a now past err z.2.1 z.2.2.1 z.2.2.2.1 par sv z.2.2.2.2) A) args s 0 0 A) (mW K a now past err lef msg met par sv hash) 9 [(0, .ref (a 0)), (1, .int x1)] []) (hf : FX3_digest_9 now err sv r9 lef msg met hash x1 = some z) : Go p l e (RM 5) s m args below meth c K A 3 0 0 (MQ below (QR K (some (.long z.1)) (mW K a now past err z.2.1 z.2.2.1 z.2.2.2.1 par sv z.2.2.2.2) A) args s 0 0 A) (mW K a now past err lef msg met par sv hash) 9 [(0, .ref (a 0)), (1, .int x1)] [] := by
  unfold FX3_digest_9 at hf
  refine go_iload_n C 1 dX3_digest_9 rfl rfl ?_
  refine go_iconst (v := 5) C dX3_digest_10 (by decide) ?_
  refine go_c2_ge C (tgt := 30) dX3_digest_11 (by decide) hf (fun h hf => ?_) (fun h hf => ?_)
  · refine go_aload_n C 0 dX3_digest_30 rfl rfl ?_
    refine go_aload_n C 0 dX3_digest_31 rfl rfl ?_
    refine gM_get_now C iX3_digest_3 kX3_digest_7 dX3_digest_32 ?_
    refine go_iconst (v := 0) C dX3_digest_35 (by decide) ?_
    refine gM_rd_now C dX3_digest_36 hf (fun v23 hf => ?_)
    refine call_X3_mix C gX3_digest_X3_mix dX3_digest_37 (by decide) (Nat.le_of_ble_eq_true rfl) hf (fun v24 hf => ?_)
    refine go_aload_n C 0 dX3_digest_40 rfl rfl ?_
    refine go_aload_n C 0 dX3_digest_41 rfl rfl ?_
    refine gM_get_now C iX3_digest_3 kX3_digest_7 dX3_digest_42 ?_
    refine go_iconst (v := 1) C dX3_digest_45 (by decide) ?_
    refine gM_rd_now C dX3_digest_46 hf (fun v25 hf => ?_)
    refine call_X3_mix C gX3_digest_X3_mix dX3_digest_47 (by decide) (Nat.le_of_ble_eq_true rfl) hf (fun v26 hf => ?_)
    refine go_iconst (v := 0) C dX3_digest_50 (by decide) ?_
    refine go_istore_n C (lv' := [(0, .ref (a 0)), (1, .int 0)]) [1, 0] dX3_digest_51 rfl (by decide) rfl ?_
    exact wX3_digest_52 C  300 _ _ _ _ _ hf
  · refine go_aload_n C 0 dX3_digest_14 rfl rfl ?_
    refine go_aload_n C 0 dX3_digest_15 rfl rfl ?_
    refine gM_get_errors C iX3_digest_3 kX3_digest_16 dX3_digest_16 ?_
    refine go_iload_n C 1 dX3_digest_19 rfl rfl ?_
    refine gM_rd_err C dX3_digest_20 hf (fun v27 hf => ?_)
    refine call_X3_mix C gX3_digest_X3_mix dX3_digest_21 (by decide) (Nat.le_of_ble_eq_true rfl) hf (fun v28 hf => ?_)
    refine go_iinc C (v := x1 + 1) (lv' := [(0, .ref (a 0)), (1, .int (x1 + 1))]) 1 [1, 0] dX3_digest_24 rfl rfl (by decide) rfl ?_
    refine go_goto C (tgt := 9) dX3_digest_27 (by decide) ?_
    exact hr9 _ _ _ _ _ hf
theorem wX3_digest_9 {p : Program} {l : Launch} {e : Env} {s : State} {m : MethodId} {args : Array Value} {below : List Frame} {meth : Method} {c : Code} {K : KK} {A : Nat → Prop} {a : Nat → Nat} (C : Cx p s m args meth c K A cX3_digest 3 RX3 wsX3_digest (some .long)) {z : Int64 × (Nat → Int32) × (Nat → Int32) × (Nat → Int32) × Int64} {now : Nat → Int32} {past : Nat → Int32} {err : Nat → Int32} {par : Nat → Int32} {sv : Int32} : ∀ (n : Nat) (lef : Nat → Int32) (msg : Nat → Int32) (met : Nat → Int32) (hash : Int64) (x1 : Int32), fX3_digest_9 now err sv  n lef msg met hash x1 = some z → Go p l e (RM 5) s m args below meth c K A 3 0 0 (MQ below (QR K (some (.long z.1)) (mW K a now past err z.2.1 z.2.2.1 z.2.2.2.1 par sv z.2.2.2.2) A) args s 0 0 A) (mW K a now past err lef msg met par sv hash) 9 [(0, .ref (a 0)), (1, .int x1)] [] := by
  intro n
  induction n with
  | zero => intro _ _ _ _ _ hf; cases hf
  | succ n ih => intro _ _ _ _ _ hf; exact WX3_digest_9 C  ih hf
set_option maxRecDepth 20000 in
set_option maxHeartbeats 2000000 in
theorem WX3_digest_0 {p : Program} {l : Launch} {e : Env} {s : State} {m : MethodId} {args : Array Value} {below : List Frame} {meth : Method} {c : Code} {K : KK} {A : Nat → Prop} {a : Nat → Nat} (C : Cx p s m args meth c K A cX3_digest 3 RX3 wsX3_digest (some .long)) {z : Int64 × (Nat → Int32) × (Nat → Int32) × (Nat → Int32) × Int64} {now : Nat → Int32} {past : Nat → Int32} {err : Nat → Int32} {par : Nat → Int32} {sv : Int32} {lef : Nat → Int32} {msg : Nat → Int32} {met : Nat → Int32} {hash : Int64} (hf : FX3_digest_0 now err sv  lef msg met hash = some z) : Go p l e (RM 5) s m args below meth c K A 3 0 0 (MQ below (QR K (some (.long z.1)) (mW K a now past err z.2.1 z.2.2.1 z.2.2.2.1 par sv z.2.2.2.2) A) args s 0 0 A) (mW K a now past err lef msg met par sv hash) 0 [(0, .ref (a 0))] [] := by
  unfold FX3_digest_0 at hf
  refine go_aload_n C 0 dX3_digest_0 rfl rfl ?_
  refine go_ldc2 (v := 2687) C dX3_digest_1 (by decide +kernel) ?_
  refine gM_put_hash C iX3_digest_3 kX3_digest_114 dX3_digest_4 ?_
  refine go_iconst (v := 0) C dX3_digest_7 (by decide) ?_
  refine go_istore_n C (lv' := [(0, .ref (a 0)), (1, .int 0)]) [1, 0] dX3_digest_8 rfl (by decide) rfl ?_
  exact wX3_digest_9 C  300 _ _ _ _ _ hf
set_option maxRecDepth 20000 in
theorem con_X3_digest (l : Launch) (K : KK) (a : Nat → Nat) {now : Nat → Int32} {past : Nat → Int32} {err : Nat → Int32} {lef : Nat → Int32} {msg : Nat → Int32} {met : Nat → Int32} {par : Nat → Int32} {sv : Int32} {hash : Int64} {z : Int64 × (Nat → Int32) × (Nat → Int32) × (Nat → Int32) × Int64} (hf : fX3_digest now err lef msg met sv hash = some z) : Con l yX3_digest wsX3_digest 5 K [.ref (a 0)] (mW K a now past err lef msg met par sv hash) (some (.long z.1)) (mW K a now past err z.2.1 z.2.2.1 z.2.2.2.1 par sv z.2.2.2.2) :=
  con_of (cc := cX3_digest) (maxL := 3) (ret := (some .long)) (own := RX3) (lv0 := [(0, .ref (a 0))]) (by decide) rfl rfl (Nat.le_of_ble_eq_true rfl) rfl (fun p e s m args below meth c A C => go_lv (lv' := [(0, .ref (a 0))]) [0] rfl (WX3_digest_0 C hf))
set_option maxRecDepth 20000 in
theorem call_X3_digest {p : Program} {l : Launch} {e : Env} {s : State} {m : MethodId} {args : Array Value} {below : List Frame} {meth : Method} {c : Code} {K : KK} {A : Nat → Prop} {Q : State → Prop} {cc : ByteArray} {nL : Nat} {Ts : List Cond} {ret : Option FieldType} {pc : Nat} {lv : List (Nat × Value)} {st : List Value} {ix d : Nat} {α : Type} {kk : Int64 × (Nat → Int32) × (Nat → Int32) × (Nat → Int32) × Int64 → Option α} {y : α} {a : Nat → Nat} {now : Nat → Int32} {past : Nat → Int32} {err : Nat → Int32} {lef : Nat → Int32} {msg : Nat → Int32} {met : Nat → Int32} {par : Nat → Int32} {sv : Int32} {hash : Int64} (C : Cx p s m args meth c K A cc nL RX3 Ts ret) (hG : GoodIn Ts (wsV RX3 ix RX3 yX3_digest wsX3_digest)) (hd : decode cc pc = .ok (.invokevirtual ix, 3)) (hdd : 5 < d) (hro : (st.map fun v => v.category).sum ≤ 8) (hf : (fX3_digest now err lef msg met sv hash).bind kk = some y) (k : ∀ v, kk v = some y → Go p l e (RM d) s m args below meth c K A nL 0 0 Q (mW K a now past err v.2.1 v.2.2.1 v.2.2.2.1 par sv v.2.2.2.2) (pc + 3) lv (.long (v.1) :: st)) : Go p l e (RM d) s m args below meth c K A nL 0 0 Q (mW K a now past err lef msg met par sv hash) pc lv (.ref (a 0) :: st) := by
  obtain ⟨v, hv, hf⟩ := bd_some hf
  exact go_callV_full (ry := (some .long)) (n := 0) (b := a 0) (As := []) (rest := st) C (con_X3_digest l K a hv) hG (by decide) rfl ⟨Nat.succ_le_of_lt hdd, by show 8 + (3 + 11) + 40 * 5 ≤ 40 * d; omega⟩ ⟨Nat.le_refl _, Nat.le_refl _⟩ ⟨0, 3, _, _, rfl, rfl, rfl⟩ rfl rfl hro hd (k v hf)
