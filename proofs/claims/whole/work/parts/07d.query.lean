/-! ===== queries that go through all words ===== -/
theorem cn_s (P : Nat → Bool) (n : Nat) : cn P (n + 1) = cn P n + (if P n then 1 else 0) := rfl
theorem syn_zero (w c : Nat → Nat) (kind : Nat) : ∀ i, (syn w c kind 0 i).1 = 0
  | 0 => rfl
  | i + 1 => by
    have := syn_zero w c kind i
    rw [syn_s, Nat.and_zero]
    split
    · show (syn w c kind 0 i).1 + 2 ^ (syn w c kind 0 i).2 * (pop 0 % 2) = 0
      rw [this, show pop 0 % 2 = 0 from rfl, Nat.mul_zero]
    · exact this
theorem cw_zero (k : Nat) (w c : Nat → Nat) : cw k w c 0 = true := by unfold cw sy; simp [syn_zero]
def msok (x : Int32) : Bool := decide (¬ x < 0 ∧ ¬ 63 < x)
theorem msok_of {x : Int32} (h : msok x = true) : ∃ j, j < 64 ∧ x = nI j := by
  unfold msok at h
  rw [decide_eq_true_eq] at h
  obtain ⟨j, hj, rfl⟩ := nI_of h.1
  refine ⟨j, ?_, rfl⟩
  have h2 := h.2
  rw [show (63 : Int32) = nI 63 from rfl, nI_ltI (by omega) hj] at h2
  omega
theorem isMsX (x : Int32) : fX2_isMessage x = some (b2 (msok x)) := by
  show FX2_isMessage_0 x = _
  unfold FX2_isMessage_0 FX2_isMessage_14 FX2_isMessage_15 msok
  by_cases h1 : x < 0
  · rw [if_pos h1, ckB_0]; simp [h1, b2]
  · rw [if_neg h1]
    obtain ⟨j, hj, rfl⟩ := nI_of h1
    have e1 : ((64 : Int32) ≤ nI j) = (64 ≤ j) := propext (nI_leI (a := 64) (by decide) hj)
    have e2 : ((63 : Int32) < nI j) = (63 < j) := propext (nI_ltI (a := 63) (by decide) hj)
    simp only [e2]
    by_cases h2 : 64 ≤ j
    · rw [if_pos (e1 ▸ h2), ckB_0]; simp [h2, b2]; omega
    · rw [if_neg (e1 ▸ h2), ckB_1]; simp [h1, b2]; omega
section QU
variable {now : Nat → Int32} {len sz : Int32} {words checks : Nat → Int32} {n k : Nat} {w c : Nat → Nat} {err errM msg met : Nat → Int32}
theorem st_message (hR : RS n k w c) (hX : StX len sz words checks n k w c) (hM : StM now n k w c) (hE : EE err errM) (x : Int32) : ∃ vX vM, fX2_message len sz words checks err x = some vX ∧ fX3_message now errM x = some vM ∧ vX.1 = vM.1 ∧ EE vX.2 vM.2 := by
  show ∃ vX vM, FX2_message_0 len sz words checks err x = some vX ∧ FX3_message_0 now errM x = some vM ∧ vX.1 = vM.1 ∧ EE vX.2 vM.2
  unfold FX2_message_0 FX3_message_0 FX3_message_23
  rw [isWordX hR hX, isWordM hR hM, bd_ok, bd_ok, ifb, ifb]
  cases h : isW n x with
  | false =>
    simp only [Bool.false_eq_true, ↓reduceIte, fX2a, fX3a, bd_ok]
    exact ⟨_, _, rfl, rfl, rfl, hE.up (by decide)⟩
  | true =>
    obtain ⟨j, hj, rfl⟩ := isW_of hR.2.1 h
    simp only [↓reduceIte, li0, synX hR hX (x := j) (kind := 0) (by decide), synM hR hM (x := j) (kind := 0) (by decide), bd_ok]
    exact ⟨_, _, rfl, rfl, rfl, hE⟩
theorem st_checkValue (hR : RS n k w c) (hX : StX len sz words checks n k w c) (hM : StM now n k w c) (hE : EE err errM) (x : Int32) : ∃ vX vM, fX2_checkValue len sz words checks err x = some vX ∧ fX3_checkValue now errM x = some vM ∧ vX.1 = vM.1 ∧ EE vX.2 vM.2 := by
  show ∃ vX vM, FX2_checkValue_0 len sz words checks err x = some vX ∧ FX3_checkValue_0 now errM x = some vM ∧ vX.1 = vM.1 ∧ EE vX.2 vM.2
  unfold FX2_checkValue_0 FX3_checkValue_0 FX3_checkValue_23
  rw [isWordX hR hX, isWordM hR hM, bd_ok, bd_ok, ifb, ifb]
  cases h : isW n x with
  | false =>
    simp only [Bool.false_eq_true, ↓reduceIte, fX2a, fX3a, bd_ok]
    exact ⟨_, _, rfl, rfl, rfl, hE.up (by decide)⟩
  | true =>
    obtain ⟨j, hj, rfl⟩ := isW_of hR.2.1 h
    simp only [↓reduceIte, li1, synX hR hX (x := j) (kind := 1) (by decide), synM hR hM (x := j) (kind := 1) (by decide), bd_ok]
    exact ⟨_, _, rfl, rfl, rfl, hE⟩
theorem st_row (hR : RS n k w c) (hX : StX len sz words checks n k w c) (hM : StM now n k w c) (hE : EE err errM) (x : Int32) : ∃ vX vM, fX2_row sz words err x = some vX ∧ fX3_row now errM x = some vM ∧ vX.1 = vM.1 ∧ EE vX.2 vM.2 := by
  show ∃ vX vM, FX2_row_0 sz words err x = some vX ∧ FX3_row_0 now errM x = some vM ∧ vX.1 = vM.1 ∧ EE vX.2 vM.2
  have hk := hR.2.2.1
  unfold FX2_row_0 FX3_row_0 FX3_row_25
  rw [isRowX hX, isRowM hR hM, bd_ok, bd_ok, ifb, ifb]
  cases h : isR k x with
  | false =>
    simp only [Bool.false_eq_true, ↓reduceIte, fX2a, fX3a, bd_ok]
    exact ⟨_, _, rfl, rfl, rfl, hE.up (by decide)⟩
  | true =>
    obtain ⟨j, hj, rfl⟩ := isR_of hk h
    simp (disch := omega) only [↓reduceIte, li2, nI_add, rdA_ok]
    exact ⟨_, _, rfl, rfl, (hX.2.2.1 j hj).trans (hM.2.2.1 j hj).symm, hE⟩
theorem st_isCheck (hR : RS n k w c) (hX : StX len sz words checks n k w c) (hM : StM now n k w c) (hE : EE err errM) (x : Int32) : ∃ vX vM, fX2_isCheck sz checks err x = some vX ∧ fX3_isCheck now errM x = some vM ∧ vX.1 = vM.1 ∧ EE vX.2 vM.2 := by
  show ∃ vX vM, FX2_isCheck_0 sz checks err x = some vX ∧ FX3_isCheck_0 now errM x = some vM ∧ vX.1 = vM.1 ∧ EE vX.2 vM.2
  have hk := hR.2.2.1
  unfold FX2_isCheck_0 FX3_isCheck_0 FX3_isCheck_26
  rw [isRowX hX, isRowM hR hM, bd_ok, bd_ok, ifb, ifb]
  cases h : isR k x with
  | false =>
    simp only [Bool.false_eq_true, ↓reduceIte, fX2a, fX3a, bd_ok]
    exact ⟨_, _, rfl, rfl, rfl, hE.up (by decide)⟩
  | true =>
    obtain ⟨j, hj, rfl⟩ := isR_of hk h
    have hc := hR.2.2.2.2 j hj
    simp (disch := omega) only [↓reduceIte, li8, nI_add, rdA_ok, hX.2.2.2 j hj, hM.2.2.2 j hj, li0, nI_eq]
    rcases (show c j = 0 ∨ c j = 1 by omega) with e | e
    · rw [e]; exact ⟨_, _, rfl, rfl, rfl, hE⟩
    · rw [e]; exact ⟨_, _, rfl, rfl, rfl, hE⟩
theorem st_choices (hR : RS n k w c) (hX : StX len sz words checks n k w c) (hM : StM now n k w c) (hE : EE err errM) (x : Int32) : ∃ vX vM, fX2_choices len sz words checks err x = some vX ∧ fX3_choices now errM msg x = some vM ∧ vX.1 = vM.1 ∧ EE vX.2 vM.2.1 := by
  show ∃ vX vM, FX2_choices_0 len sz words checks err x = some vX ∧ FX3_choices_0 now errM msg x = some vM ∧ vX.1 = vM.1 ∧ EE vX.2 vM.2.1
  have hp := hR.p8
  have hp0 := p2pos n
  unfold FX2_choices_0 FX3_choices_0 FX3_choices_24
  rw [isMsX, withinE, bd_ok, bd_ok, ifb, show decide (¬x < 0 ∧ ¬63 < x) = msok x from rfl, ifb]
  cases h : msok x with
  | false =>
    simp only [Bool.false_eq_true, ↓reduceIte, fX2a, fX3a, bd_ok]
    exact ⟨_, _, rfl, rfl, rfl, hE.up (by decide)⟩
  | true =>
    obtain ⟨j, hj, rfl⟩ := msok_of h
    obtain ⟨g, hg, hgv⟩ := laysM hR hM msg
    have e1 : fX2_choices_18 len sz words checks 300 err (nI j) 0 0 = some (nI (cn (fun x => cw k w c x && decide (ms k w c x = j)) (2 ^ n)), err) := by
      refine upF (fun q x => fX2_choices_18 len sz words checks q err (nI j) (nI (cn (fun x => cw k w c x && decide (ms k w c x = j)) x)) (nI x)) _ (2 ^ n) ?_ ?_ 300 0 (by omega) (by omega)
      · intro x q hx
        left
        show FX2_choices_18 len sz words checks (fX2_choices_18 len sz words checks q) err (nI j) (nI (cn _ x)) (nI x) = _
        unfold FX2_choices_18 FX2_choices_38
        simp (disch := omega) only [allX hR hX, bd_ok, nI_ltI, if_neg (show ¬ 2 ^ n - 1 < x by omega), cwOfX hR hX x j hj, ifb, nI_1]
        rw [cn_s]
        by_cases hq : (cw k w c x && decide (ms k w c x = j)) = true
        · rw [if_pos hq, if_pos hq]
        · rw [if_neg hq, if_neg hq]; rfl
      · intro q
        show FX2_choices_18 len sz words checks (fX2_choices_18 len sz words checks q) err (nI j) (nI (cn _ (2 ^ n))) (nI (2 ^ n)) = _
        unfold FX2_choices_18
        simp (disch := omega) only [allX hR hX, bd_ok, nI_ltI, if_pos (show 2 ^ n - 1 < 2 ^ n by omega)]
    have e2 : fX3_choiceMany_8 now 300 g (nI j) 0 0 = some (nI (cn (fun x => cw k w c x && decide (ms k w c x = j)) (2 ^ n)), g) := by
      refine upF (fun q x => fX3_choiceMany_8 now q g (nI j) (nI (cn (fun x => cw k w c x && decide (ms k w c x = j)) x)) (nI x)) _ (2 ^ n) ?_ ?_ 300 0 (by omega) (by omega)
      · intro x q hx
        left
        have hm := ms_lt hR x
        show FX3_choiceMany_8 now (fX3_choiceMany_8 now q) g (nI j) (nI (cn _ x)) (nI x) = _
        unfold FX3_choiceMany_8 FX3_choiceMany_32
        simp (disch := omega) only [wordsM hR hM, bd_ok, nI_leI, if_neg (Nat.not_le.mpr hx), rdA_ok, hgv x hx, li0, li1, nI_add]
        rw [cn_s]
        cases hc : cw k w c x with
        | false =>
          rw [mo_nc (by simp [hc]), if_neg (fun e => neg1_ne (show j < 2 ^ 31 by omega) e.symm)]
          simp
        | true =>
          rw [mo_cw hc]
          simp (disch := omega) only [nI_eq, Bool.true_and, decide_eq_true_eq]
          by_cases hq : ms k w c x = j
          · rw [if_pos hq, if_pos hq]
          · rw [if_neg hq, if_neg hq]
      · intro q
        show FX3_choiceMany_8 now (fX3_choiceMany_8 now q) g (nI j) (nI (cn _ (2 ^ n))) (nI (2 ^ n)) = _
        unfold FX3_choiceMany_8
        simp (disch := omega) only [wordsM hR hM, bd_ok, nI_leI, if_pos (Nat.le_refl _)]
    have e3 : fX3_choiceMany now msg (nI j) = some (nI (cn (fun x => cw k w c x && decide (ms k w c x = j)) (2 ^ n)), g) := by
      show FX3_choiceMany_0 now msg (nI j) = _
      unfold FX3_choiceMany_0
      rw [hg, bd_ok, e2]
    simp only [↓reduceIte, e1, e3, bd_ok]
    exact ⟨_, _, rfl, rfl, rfl, hE⟩
theorem st_encode (hR : RS n k w c) (hX : StX len sz words checks n k w c) (hM : StM now n k w c) (hE : EE err errM) (x y : Int32) : ∃ vX vM, fX2_encode len sz words checks err x y = some vX ∧ fX3_encode now errM msg x y = some vM ∧ vX.1 = vM.1 ∧ EE vX.2 vM.2.1 := by
  show ∃ vX vM, FX2_encode_0 len sz words checks err x y = some vX ∧ FX3_encode_0 now errM msg x y = some vM ∧ vX.1 = vM.1 ∧ EE vX.2 vM.2.1
  have hp := hR.p8
  have hp0 := p2pos n
  unfold FX2_encode_0 FX3_encode_0 FX3_encode_14 FX2_encode_11
  rw [isMsX, withinE, bd_ok, bd_ok, ifb, show decide (¬x < 0 ∧ ¬63 < x) = msok x from rfl, ifb]
  cases h : msok x with
  | false =>
    simp only [Bool.false_eq_true, ↓reduceIte, fX2a, fX3a, bd_ok]
    exact ⟨_, _, rfl, rfl, rfl, hE.up (by decide)⟩
  | true =>
    obtain ⟨j, hj, rfl⟩ := msok_of h
    obtain ⟨g, hg, hgv⟩ := laysM hR hM msg
    by_cases hy : 0 ≤ y
    · simp only [↓reduceIte, if_pos hy, hg, bd_ok]
      refine upRR (fun q (s : Int32 × Int32) => fX2_encode_23 len sz words checks q err (nI j) y s.1 s.2) (fun q (s : Int32 × Int32) => fX3_encode_30 now q errM g (nI j) y s.1 s.2) (fun x s1 s2 => s1 = s2 ∧ s1.2 = nI x) (fun o1 o2 => ∃ vX vM, o1 = some vX ∧ o2 = some vM ∧ vX.1 = vM.1 ∧ EE vX.2 vM.2.1) (2 ^ n) ?_ ?_ 300 0 (0, 0) (0, 0) ⟨rfl, rfl⟩ (by omega) (by omega)
      · intro x s1 s2 q hx hI
        obtain ⟨ct, xi⟩ := s1
        obtain ⟨e, e2⟩ := hI
        subst e
        dsimp only at e2
        subst e2
        have hm := ms_lt hR x
        show (∃ s1' s2', _ ∧ FX2_encode_23 len sz words checks (fX2_encode_23 len sz words checks q) err (nI j) y ct (nI x) = _ ∧ FX3_encode_30 now (fX3_encode_30 now q) errM g (nI j) y ct (nI x) = _) ∨ (∃ vX vM, FX2_encode_23 len sz words checks (fX2_encode_23 len sz words checks q) err (nI j) y ct (nI x) = some vX ∧ FX3_encode_30 now (fX3_encode_30 now q) errM g (nI j) y ct (nI x) = some vM ∧ vX.1 = vM.1 ∧ EE vX.2 vM.2.1)
        unfold FX2_encode_23 FX3_encode_30 FX2_encode_53 FX3_encode_61
        simp (disch := omega) only [allX hR hX, wordsM hR hM, bd_ok, nI_ltI, nI_leI, if_neg (show ¬ 2 ^ n - 1 < x by omega), if_neg (Nat.not_le.mpr hx), cwOfX hR hX x j hj, ifb, nI_1, rdA_ok, hgv x hx]
        cases hc : cw k w c x with
        | false =>
          rw [mo_nc (by simp [hc])]
          simp only [Bool.false_and, Bool.false_eq_true, ↓reduceIte, if_neg (fun e => neg1_ne (show j < 2 ^ 31 by omega) (Eq.symm e))]
          exact Or.inl ⟨(ct, nI (x + 1)), (ct, nI (x + 1)), ⟨rfl, rfl⟩, rfl, rfl⟩
        | true =>
          rw [mo_cw hc]
          simp (disch := omega) only [nI_eq, Bool.true_and, decide_eq_true_eq]
          by_cases hq : ms k w c x = j
          · rw [if_pos hq, if_pos hq]
            by_cases hy2 : ct = y
            · rw [if_pos hy2, if_pos hy2]
              exact Or.inr ⟨_, _, rfl, rfl, rfl, hE⟩
            · rw [if_neg hy2, if_neg hy2]
              exact Or.inl ⟨(ct + 1, nI (x + 1)), (ct + 1, nI (x + 1)), ⟨rfl, rfl⟩, rfl, rfl⟩
          · rw [if_neg hq, if_neg hq]
            exact Or.inl ⟨(ct, nI (x + 1)), (ct, nI (x + 1)), ⟨rfl, rfl⟩, rfl, rfl⟩
      · intro s1 s2 q hI
        obtain ⟨ct, xi⟩ := s1
        obtain ⟨e, e2⟩ := hI
        subst e
        dsimp only at e2
        subst e2
        show ∃ vX vM, FX2_encode_23 len sz words checks (fX2_encode_23 len sz words checks q) err (nI j) y ct (nI (2 ^ n)) = some vX ∧ FX3_encode_30 now (fX3_encode_30 now q) errM g (nI j) y ct (nI (2 ^ n)) = some vM ∧ vX.1 = vM.1 ∧ EE vX.2 vM.2.1
        unfold FX2_encode_23 FX3_encode_30
        simp (disch := omega) only [allX hR hX, wordsM hR hM, bd_ok, nI_ltI, nI_leI, if_pos (show 2 ^ n - 1 < 2 ^ n by omega), if_pos (Nat.le_refl _), fX2b, fX3b]
        exact ⟨_, _, rfl, rfl, rfl, hE.up (by decide)⟩
    · simp only [↓reduceIte, if_neg hy, fX2a, fX3a, bd_ok]
      exact ⟨_, _, rfl, rfl, rfl, hE.up (by decide)⟩
end QU
