/-! ===== the loop ===== -/
theorem hd_gt {i L : Nat} (hL : L ≤ 2048) (hi : i ≤ L + 4) (h : ¬ (Int32.ofNat L - 4) < nI i) : i + 4 ≤ L := by
  rw [Int32.lt_iff_toInt_lt, nI_toInt (by omega)] at h
  rcases Nat.lt_or_ge L 4 with h4 | h4
  · exfalso
    apply h
    have : ∀ L, L < 4 → (Int32.ofNat L - 4).toInt < 0 := by decide +kernel
    have := this L h4
    omega
  · have e : Int32.ofNat L - 4 = nI (L - 4) := nI_sub (b := 4) h4
    rw [e, nI_toInt (by omega)] at h
    omega
set_option maxRecDepth 20000 in
set_option maxHeartbeats 4000000 in
theorem law_loop {p : Program} {l : Launch} {e : Env} {s : State} {m : MethodId} {below : List Frame} {meth : Method} {c : Code} {K : KK} {b L : Nat} {xs : Nat → Int32} {a a' : Nat → Nat} (C : Cx p s m #[Value.ref b] meth c K (fun q => s.heap.size ≤ q) cL_law 4 RL wsL_law ret) (hX : va_X b L xs s s.heap) (hbl : b < s.heap.size) (hL : L ≤ 2048) : ∀ (f i : Nat), i ≤ L + 4 → L + 5 ≤ i + f → ∀ (len sz : Int32) (words checks : Nat → Int32) (cnt : Int32) (err vec : Nat → Int32) (bc : Int32) (pm : Nat → Nat) (sl ss : Nat → Int32) (sw sc : Nat → Nat → Int32) (now past errM lef msg met par : Nat → Int32) (sv : Int32) (hash : Int64), Rel len sz words checks cnt err pm sl ss sw sc now past errM sv → Go p l e room_1 s m #[Value.ref b] below meth c K (fun q => s.heap.size ≤ q) 4 28 768 (lw_Z below #[Value.ref b] s) (xW K a len sz words checks cnt err vec bc pm sl ss sw sc ++ mW K a' now past errM lef msg met par sv hash) 18 [(0, .ref b), (1, .ref (a 0)), (2, .ref (a' 0)), (3, .int (nI i))] [] := by
  have hbA : ¬ s.heap.size ≤ b := Nat.not_le.mpr hbl
  intro f
  induction f with
  | zero => intro i h1 h2; exact absurd h2 (by omega)
  | succ f ih =>
    intro i h1 h2 len sz words checks cnt err vec bc pm sl ss sw sc now past errM lef msg met par sv hash h
    refine go_iload_n C 3 dL_law_18 rfl rfl ?_
    refine go_aload_n C 0 dL_law_19 rfl rfl ?_
    refine go_slen C hX hbl hbA dL_law_20 ?_
    refine go_iconst (v := 4) C dL_law_21 (by decide) ?_
    refine go_isub C dL_law_22 ?_
    refine go_icmp_gt C (tgt := 764) dL_law_23 (by decide) (fun _ => ?_) (fun hn => ?_)
    · refine go_iconst (v := 1) C dL_law_764 (by decide) ?_
      intro H locs ls hP hD hS hl
      refine va_forget (fun q hq => hS.2.2 q hq) ?_
      refine W.widen (k := 600000) (n := 7302250) (by decide) (by decide) ?_
      exact lw_ret C.1.1 C.1.2.1 C.2.2.2.1 C.2.2.2.2.1 dL_law_765
    · have hi := hd_gt hL h1 hn
      have N : LNx p l e s m below meth c K b a a' i := by
        intro len sz words checks cnt err vec bc pm sl ss sw sc now past errM lef msg met par sv hash hrel
        refine go_iinc (v := nI (i + 4)) (lv' := [(0, .ref b), (1, .ref (a 0)), (2, .ref (a' 0)), (3, .int (nI (i + 4)))]) C 3 [1, 2, 3, 0] dL_law_758 rfl (nI_add i 4) (by decide) rfl ?_
        refine go_goto C (tgt := 18) dL_law_761 (by decide) ?_
        exact ih (i + 4) (by omega) (by omega) _ _ _ _ _ _ _ _ _ _ _ _ _ _ _ _ _ _ _ _ _ _ hrel
      refine go_aload_n C 0 dL_law_26 rfl rfl ?_
      refine go_iload_n C 3 dL_law_27 rfl rfl ?_
      refine go_sld C hX hbl hbA (nI_in (by omega) (by omega)) dL_law_28 ?_
      refine go_bipush (v := 31) C dL_law_29 (by decide) ?_
      refine go_iand C dL_law_31 ?_
      obtain ⟨t, ht, et⟩ := and31 (xs (nI i).toNatClampNeg)
      rw [et]
      rcases Nat.lt_or_ge t 27 with h27 | h27
      · rcases (show t = 0 ∨ t = 1 ∨ t = 2 ∨ t = 3 ∨ t = 4 ∨ t = 5 ∨ t = 6 ∨ t = 7 ∨ t = 8 ∨ t = 9 ∨ t = 10 ∨ t = 11 ∨ t = 12 ∨ t = 13 ∨ t = 14 ∨ t = 15 ∨ t = 16 ∨ t = 17 ∨ t = 18 ∨ t = 19 ∨ t = 20 ∨ t = 21 ∨ t = 22 ∨ t = 23 ∨ t = 24 ∨ t = 25 ∨ t = 26 by omega) with rfl | rfl | rfl | rfl | rfl | rfl | rfl | rfl | rfl | rfl | rfl | rfl | rfl | rfl | rfl | rfl | rfl | rfl | rfl | rfl | rfl | rfl | rfl | rfl | rfl | rfl | rfl
        · exact go_tabI C (off := 124) (tgt := 156) dL_law_32 (by decide) (by decide) rfl (by decide) (lwc_setLength C hX hbl hL hi N h)
        · exact go_tabI C (off := 147) (tgt := 179) dL_law_32 (by decide) (by decide) rfl (by decide) (lwc_addRow C hX hbl hL hi N h)
        · exact go_tabI C (off := 180) (tgt := 212) dL_law_32 (by decide) (by decide) rfl (by decide) (lwc_removeRow C hX hbl hL hi N h)
        · exact go_tabI C (off := 203) (tgt := 235) dL_law_32 (by decide) (by decide) rfl (by decide) (lwc_removeDependentRows C hX hbl hL hi N h)
        · exact go_tabI C (off := 216) (tgt := 248) dL_law_32 (by decide) (by decide) rfl (by decide) (lwc_row C hX hbl hL hi N h)
        · exact go_tabI C (off := 239) (tgt := 271) dL_law_32 (by decide) (by decide) rfl (by decide) (lwc_isCheck C hX hbl hL hi N h)
        · exact go_tabI C (off := 262) (tgt := 294) dL_law_32 (by decide) (by decide) rfl (by decide) (lwc_rank C hX hbl hL hi N h)
        · exact go_tabI C (off := 285) (tgt := 317) dL_law_32 (by decide) (by decide) rfl (by decide) (lwc_message C hX hbl hL hi N h)
        · exact go_tabI C (off := 308) (tgt := 340) dL_law_32 (by decide) (by decide) rfl (by decide) (lwc_checkValue C hX hbl hL hi N h)
        · exact go_tabI C (off := 331) (tgt := 363) dL_law_32 (by decide) (by decide) rfl (by decide) (lwc_codewords C hX hbl hL hi N h)
        · exact go_tabI C (off := 344) (tgt := 376) dL_law_32 (by decide) (by decide) rfl (by decide) (lwc_messages C hX hbl hL hi N h)
        · exact go_tabI C (off := 357) (tgt := 389) dL_law_32 (by decide) (by decide) rfl (by decide) (lwc_choices C hX hbl hL hi N h)
        · exact go_tabI C (off := 380) (tgt := 412) dL_law_32 (by decide) (by decide) rfl (by decide) (lwc_encode C hX hbl hL hi N h)
        · exact go_tabI C (off := 413) (tgt := 445) dL_law_32 (by decide) (by decide) rfl (by decide) (lwc_decode C hX hbl hL hi N h)
        · exact go_tabI C (off := 436) (tgt := 468) dL_law_32 (by decide) (by decide) rfl (by decide) (lwc_distance C hX hbl hL hi N h)
        · exact go_tabI C (off := 459) (tgt := 491) dL_law_32 (by decide) (by decide) rfl (by decide) (lwc_weakness C hX hbl hL hi N h)
        · exact go_tabI C (off := 472) (tgt := 504) dL_law_32 (by decide) (by decide) rfl (by decide) (lwc_leakage C hX hbl hL hi N h)
        · exact go_tabI C (off := 495) (tgt := 527) dL_law_32 (by decide) (by decide) rfl (by decide) (lwc_worstLeakage C hX hbl hL hi N h)
        · exact go_tabI C (off := 518) (tgt := 550) dL_law_32 (by decide) (by decide) rfl (by decide) (lwc_worstSet C hX hbl hL hi N h)
        · exact go_tabI C (off := 541) (tgt := 573) dL_law_32 (by decide) (by decide) rfl (by decide) (lwc_threshold C hX hbl hL hi N h)
        · exact go_tabI C (off := 554) (tgt := 586) dL_law_32 (by decide) (by decide) rfl (by decide) (lwc_leastSize C hX hbl hL hi N h)
        · exact go_tabI C (off := 577) (tgt := 609) dL_law_32 (by decide) (by decide) rfl (by decide) (lwc_possibleMessages C hX hbl hL hi N h)
        · exact go_tabI C (off := 610) (tgt := 642) dL_law_32 (by decide) (by decide) rfl (by decide) (lwc_possibleMessage C hX hbl hL hi N h)
        · exact go_tabI C (off := 653) (tgt := 685) dL_law_32 (by decide) (by decide) rfl (by decide) (lwc_knownCombinations C hX hbl hL hi N h)
        · exact go_tabI C (off := 676) (tgt := 708) dL_law_32 (by decide) (by decide) rfl (by decide) (lwc_undo C hX hbl hL hi N h)
        · exact go_tabI C (off := 689) (tgt := 721) dL_law_32 (by decide) (by decide) rfl (by decide) (lwc_errorCount C hX hbl hL hi N h)
        · exact go_tabI C (off := 712) (tgt := 744) dL_law_32 (by decide) (by decide) rfl (by decide) (lwc_digest C hX hbl hL hi N h)
      · refine go_tabO C (tgt := 758) dL_law_32 (Or.inr ?_) (by decide) (N _ _ _ _ _ _ _ _ _ _ _ _ _ _ _ _ _ _ _ _ _ _ h)
        rw [nI_toInt (by omega)]
        omega
