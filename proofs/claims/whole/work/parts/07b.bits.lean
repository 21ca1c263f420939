/-! ===== bits of words below 256, syndromes ===== -/
def pop (x : Nat) : Nat := x % 2 + x / 2 % 2 + x / 4 % 2 + x / 8 % 2 + x / 16 % 2 + x / 32 % 2 + x / 64 % 2 + x / 128 % 2
theorem pop_le (x : Nat) : pop x ≤ 8 := by unfold pop; omega
theorem ones_ok : ∀ v, v < 256 → fX3_ones (nI v) = some (nI (pop v)) := by decide +kernel
theorem bitc_ok : ∀ v, v < 256 → fJ6_bitCount_0f7a4 (nI v) = some (nI (pop v)) := by decide +kernel
theorem and_lt8 {a b : Nat} (h : a < 256) : a &&& b < 256 := Nat.lt_of_le_of_lt Nat.and_le_left h
theorem xor_lt8 {a b : Nat} (h : a < 256) (h2 : b < 256) : a ^^^ b < 256 := Nat.xor_lt_two_pow (n := 8) h h2
theorem orsh : ∀ m, m < 7 → ∀ v, v < 64 → v < 2 ^ m → ∀ p, p < 9 → nI v ||| (nI (p &&& 1) <<< (nI m &&& 31)) = nI (v + 2 ^ m * (p % 2)) := by decide +kernel
/-- the rows of a state: length n, k rows w with kinds c -/
def RS (n k : Nat) (w c : Nat → Nat) : Prop := 1 ≤ n ∧ n ≤ 8 ∧ k ≤ 6 ∧ (∀ i, i < k → 0 < w i ∧ w i < 2 ^ n) ∧ ∀ i, i < k → c i < 2
def StM (now : Nat → Int32) (n k : Nat) (w c : Nat → Nat) : Prop := now 0 = nI n ∧ now 1 = nI k ∧ (∀ i, i < k → now (2 + i) = nI (w i)) ∧ ∀ i, i < k → now (8 + i) = nI (c i)
def StX (len sz : Int32) (words checks : Nat → Int32) (n k : Nat) (w c : Nat → Nat) : Prop := len = nI n ∧ sz = nI k ∧ (∀ i, i < k → words i = nI (w i)) ∧ ∀ i, i < k → checks i = nI (c i)
theorem RS.w8 {n k : Nat} {w c : Nat → Nat} (h : RS n k w c) {i : Nat} (hi : i < k) : w i < 256 := Nat.lt_of_lt_of_le (h.2.2.2.1 i hi).2 (p2le h.2.1)
theorem RS.p8 {n k : Nat} {w c : Nat → Nat} (h : RS n k w c) : 2 ^ n ≤ 256 := p2le h.2.1
/-- value and number of the syndrome bits of the rows of a kind among the first i -/
def syn (w c : Nat → Nat) (kind x : Nat) : Nat → Nat × Nat
  | 0 => (0, 0)
  | i + 1 => if c i = kind then ((syn w c kind x i).1 + 2 ^ (syn w c kind x i).2 * (pop (w i &&& x) % 2), (syn w c kind x i).2 + 1) else syn w c kind x i
theorem syn_s (w c : Nat → Nat) (kind x i : Nat) : syn w c kind x (i + 1) = if c i = kind then ((syn w c kind x i).1 + 2 ^ (syn w c kind x i).2 * (pop (w i &&& x) % 2), (syn w c kind x i).2 + 1) else syn w c kind x i := rfl
theorem syn_n (w c : Nat → Nat) (kind x : Nat) : ∀ i, (syn w c kind x i).2 ≤ i
  | 0 => Nat.le_refl 0
  | i + 1 => by
    have := syn_n w c kind x i
    rw [syn_s]
    split
    · show (syn w c kind x i).2 + 1 ≤ i + 1; omega
    · omega
theorem syn_lt (w c : Nat → Nat) (kind x : Nat) : ∀ i, (syn w c kind x i).1 < 2 ^ (syn w c kind x i).2
  | 0 => Nat.lt_succ_self 0
  | i + 1 => by
    have := syn_lt w c kind x i
    rw [syn_s]
    split
    · show (syn w c kind x i).1 + 2 ^ (syn w c kind x i).2 * (pop (w i &&& x) % 2) < 2 ^ ((syn w c kind x i).2 + 1)
      rw [Nat.pow_succ]
      rcases Nat.mod_two_eq_zero_or_one (pop (w i &&& x)) with h | h <;> rw [h] <;> omega
    · exact this
/-- the syndrome of x, over the rows of a kind -/
def sy (k : Nat) (w c : Nat → Nat) (kind x : Nat) : Nat := (syn w c kind x k).1
theorem p2le6 {m : Nat} (h : m ≤ 6) : 2 ^ m ≤ 64 := by
  have : 2 ^ m ≤ 2 ^ 6 := Nat.pow_le_pow_right (by omega) h
  omega
theorem syn_64 (w c : Nat → Nat) (kind x : Nat) {i : Nat} (h : i ≤ 6) : (syn w c kind x i).1 < 64 := Nat.lt_of_lt_of_le (syn_lt w c kind x i) (p2le6 (Nat.le_trans (syn_n w c kind x i) h))
theorem sy_64 {k : Nat} (w c : Nat → Nat) (kind x : Nat) (h : k ≤ 6) : sy k w c kind x < 64 := syn_64 w c kind x h
theorem synM {now : Nat → Int32} {n k : Nat} {w c : Nat → Nat} (hR : RS n k w c) (hM : StM now n k w c) {x kind : Nat} (hk : kind < 2) : fX3_syndrome now (nI x) (nI kind) = some (nI (sy k w c kind x)) := by
  obtain ⟨h1, h2, h3, h4, h5⟩ := id hR
  obtain ⟨m0, m1, mw, mc⟩ := hM
  show fX3_syndrome_8 now 300 (nI x) (nI kind) (nI (syn w c kind x 0).1) (nI (syn w c kind x 0).2) (nI 0) = _
  refine upF (fun q i => fX3_syndrome_8 now q (nI x) (nI kind) (nI (syn w c kind x i).1) (nI (syn w c kind x i).2) (nI i)) _ k ?_ ?_ 300 0 (by omega) (by omega)
  · intro i q hi
    left
    have hw := hR.w8 hi
    have hsn := syn_n w c kind x i
    have hsl := syn_lt w c kind x i
    have hs6 := syn_64 w c kind x (i := i) (by omega)
    have hp := pop_le (w i &&& x)
    have hc := h5 i hi
    show FX3_syndrome_8 now (fX3_syndrome_8 now q) (nI x) (nI kind) (nI (syn w c kind x i).1) (nI (syn w c kind x i).2) (nI i) = fX3_syndrome_8 now q (nI x) (nI kind) (nI (syn w c kind x (i + 1)).1) (nI (syn w c kind x (i + 1)).2) (nI (i + 1))
    unfold FX3_syndrome_8
    simp (disch := omega) only [FX3_syndrome_58, li1, li2, li8, nI_add, rdA_ok, m1, mw i hi, mc i hi, nI_leI, nI_eq, if_neg (Nat.not_le.mpr hi), nx_and, ones_ok _ (and_lt8 hw), bd_ok]
    rw [syn_s]
    by_cases hq : c i = kind
    · rw [if_pos hq, if_pos hq]
      rw [orsh _ (by omega) _ hs6 hsl _ (by omega)]
    · rw [if_neg hq, if_neg hq]
  · intro q
    show FX3_syndrome_8 now (fX3_syndrome_8 now q) (nI x) (nI kind) (nI (syn w c kind x k).1) (nI (syn w c kind x k).2) (nI k) = _
    unfold FX3_syndrome_8
    simp (disch := omega) only [li1, rdA_ok, m1, nI_leI, if_pos (Nat.le_refl k)]
    rfl
theorem synX {len sz : Int32} {words checks : Nat → Int32} {n k : Nat} {w c : Nat → Nat} (hR : RS n k w c) (hX : StX len sz words checks n k w c) {x kind : Nat} (hk : kind < 2) : fX2_syndrome sz words checks (nI x) (nI kind) = some (nI (sy k w c kind x)) := by
  obtain ⟨h1, h2, h3, h4, h5⟩ := id hR
  obtain ⟨m0, m1, mw, mc⟩ := hX
  show fX2_syndrome_8 sz words checks 300 (nI x) (nI kind) (nI (syn w c kind x 0).1) (nI (syn w c kind x 0).2) (nI 0) = _
  refine upF (fun q i => fX2_syndrome_8 sz words checks q (nI x) (nI kind) (nI (syn w c kind x i).1) (nI (syn w c kind x i).2) (nI i)) _ k ?_ ?_ 300 0 (by omega) (by omega)
  · intro i q hi
    left
    have hw := hR.w8 hi
    have hsn := syn_n w c kind x i
    have hsl := syn_lt w c kind x i
    have hs6 := syn_64 w c kind x (i := i) (by omega)
    have hp := pop_le (w i &&& x)
    have hc := h5 i hi
    show FX2_syndrome_8 sz words checks (fX2_syndrome_8 sz words checks q) (nI x) (nI kind) (nI (syn w c kind x i).1) (nI (syn w c kind x i).2) (nI i) = fX2_syndrome_8 sz words checks q (nI x) (nI kind) (nI (syn w c kind x (i + 1)).1) (nI (syn w c kind x (i + 1)).2) (nI (i + 1))
    unfold FX2_syndrome_8
    simp (disch := omega) only [FX2_syndrome_60, li1, nI_add, m1, rdA_ok, mw i hi, mc i hi, nI_leI, nI_eq, if_neg (Nat.not_le.mpr hi), nx_and, bitc_ok _ (and_lt8 hw), bd_ok]
    rw [syn_s]
    by_cases hq : c i = kind
    · rw [if_pos hq, if_pos hq]
      rw [orsh _ (by omega) _ hs6 hsl _ (by omega)]
    · rw [if_neg hq, if_neg hq]
  · intro q
    show FX2_syndrome_8 sz words checks (fX2_syndrome_8 sz words checks q) (nI x) (nI kind) (nI (syn w c kind x k).1) (nI (syn w c kind x k).2) (nI k) = _
    unfold FX2_syndrome_8
    simp (disch := omega) only [m1, nI_leI, if_pos (Nat.le_refl k)]
    rfl
