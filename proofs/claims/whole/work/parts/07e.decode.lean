/-! ===== errors' counters, distances, decoding ===== -/
theorem bk {α β : Type} {v : α} {k : α → Option β} : (some v).bind k = k v := by rw [Option.bind_some]
theorem code_of {x : Int32} (h1 : ¬ x < -6) (h2 : x ≤ -2) : ∃ j, j < 5 ∧ (-2) - x = nI j := by
  rw [Int32.lt_iff_toInt_lt] at h1
  rw [Int32.le_iff_toInt_le] at h2
  have a1 : (-6 : Int32).toInt = -6 := by decide
  have a2 : (-2 : Int32).toInt = -2 := by decide
  rw [a1] at h1
  rw [a2] at h2
  have a3 : (-3 : Int32).toInt = -3 := by decide
  have a4 : (-4 : Int32).toInt = -4 := by decide
  have a5 : (-5 : Int32).toInt = -5 := by decide
  rcases (show x.toInt = -2 ∨ x.toInt = -3 ∨ x.toInt = -4 ∨ x.toInt = -5 ∨ x.toInt = -6 by omega) with e | e | e | e | e
  · rw [← a2] at e; rw [Int32.toInt_inj.mp e]; exact ⟨0, by decide, by decide⟩
  · rw [← a3] at e; rw [Int32.toInt_inj.mp e]; exact ⟨1, by decide, by decide⟩
  · rw [← a4] at e; rw [Int32.toInt_inj.mp e]; exact ⟨2, by decide, by decide⟩
  · rw [← a5] at e; rw [Int32.toInt_inj.mp e]; exact ⟨3, by decide, by decide⟩
  · rw [← a1] at e; rw [Int32.toInt_inj.mp e]; exact ⟨4, by decide, by decide⟩
theorem st_errorCount {err errM : Nat → Int32} (hE : EE err errM) (x : Int32) : ∃ vX vM, fX2_errorCount err x = some vX ∧ fX3_errorCount errM x = some vM ∧ vX.1 = vM.1 ∧ EE vX.2 vM.2 := by
  show ∃ vX vM, FX2_errorCount_0 err x = some vX ∧ FX3_errorCount_0 errM x = some vM ∧ vX.1 = vM.1 ∧ EE vX.2 vM.2
  unfold FX2_errorCount_0 FX3_errorCount_0 FX2_errorCount_12 FX3_errorCount_29
  rw [withinE, bd_ok, ifb]
  by_cases h1 : x < -6
  · rw [if_pos h1, if_neg (by simp [h1]), fX2a, fX3a, bd_ok, bd_ok]
    exact ⟨_, _, rfl, rfl, rfl, hE.up (by decide)⟩
  · rw [if_neg h1]
    by_cases h2 : x ≤ -2
    · have h3 : ¬ (-2 : Int32) < x := by rw [Int32.lt_iff_toInt_lt]; rw [Int32.le_iff_toInt_le] at h2; omega
      obtain ⟨j, hj, e⟩ := code_of h1 h2
      rw [if_pos h2, if_pos (by simp [h1, h3]), e, rdA_ok hj (by decide), rdA_ok hj (by decide)]
      exact ⟨_, _, rfl, rfl, hE j hj, hE⟩
    · have h3 : (-2 : Int32) < x := by rw [Int32.lt_iff_toInt_lt]; rw [Int32.le_iff_toInt_le] at h2; omega
      rw [if_neg h2, if_neg (by simp [h3]), fX2a, fX3a, bd_ok, bd_ok]
      exact ⟨_, _, rfl, rfl, rfl, hE.up (by decide)⟩
/-- the least distance of the codewords below x from y -/
def nr (k : Nat) (w c : Nat → Nat) (y : Nat) : Nat → Nat
  | 0 => 99
  | x + 1 => if (cw k w c x && decide (pop (x ^^^ y) < nr k w c y x)) then pop (x ^^^ y) else nr k w c y x
theorem nr_s (k : Nat) (w c : Nat → Nat) (y x : Nat) : nr k w c y (x + 1) = if (cw k w c x && decide (pop (x ^^^ y) < nr k w c y x)) then pop (x ^^^ y) else nr k w c y x := rfl
theorem nr_99 (k : Nat) (w c : Nat → Nat) (y : Nat) : ∀ x, nr k w c y x ≤ 99
  | 0 => Nat.le_refl _
  | x + 1 => by
    have := nr_99 k w c y x
    have := pop_le (x ^^^ y)
    rw [nr_s]
    split <;> omega
theorem nr_le (k : Nat) (w c : Nat → Nat) (y : Nat) : ∀ N x, x < N → cw k w c x = true → nr k w c y N ≤ pop (x ^^^ y)
  | 0, x, h, _ => absurd h (Nat.not_lt_zero x)
  | N + 1, x, h, hc => by
    rw [nr_s]
    rcases Nat.lt_or_ge x N with h1 | h1
    · have := nr_le k w c y N x h1 hc
      split
      · rename_i h2
        simp at h2
        omega
      · exact this
    · have e : x = N := by omega
      subst e
      split
      · exact Nat.le_refl _
      · rename_i h2
        simp [hc] at h2
        exact h2
theorem nr_at (k : Nat) (w c : Nat → Nat) (y : Nat) : ∀ N, nr k w c y N = 99 ∨ ∃ x, x < N ∧ cw k w c x = true ∧ nr k w c y N = pop (x ^^^ y)
  | 0 => Or.inl rfl
  | N + 1 => by
    rw [nr_s]
    split
    · rename_i h2
      simp at h2
      exact Or.inr ⟨N, by omega, h2.1, rfl⟩
    · rcases nr_at k w c y N with h | ⟨x, h1, h2, h3⟩
      · exact Or.inl h
      · exact Or.inr ⟨x, by omega, h2, h3⟩
/-- the nearest codewords are there -/
theorem nr_ex (k : Nat) (w c : Nat → Nat) (y : Nat) {N : Nat} (hN : 0 < N) : ∃ x, x < N ∧ cw k w c x = true ∧ pop (x ^^^ y) = nr k w c y N := by
  rcases nr_at k w c y N with h | ⟨x, h1, h2, h3⟩
  · have h1 := nr_le k w c y N 0 hN (cw_zero k w c)
    have := pop_le (0 ^^^ y)
    omega
  · exact ⟨x, h1, h2, h3.symm⟩
section DE
variable {now : Nat → Int32} {len sz : Int32} {words checks : Nat → Int32} {n k : Nat} {w c : Nat → Nat} {err errM msg g : Nat → Int32}
theorem nearM (hR : RS n k w c) (hM : StM now n k w c) (hg : ∀ x, x < 2 ^ n → g x = mo k w c x) {y : Nat} (hy : y < 2 ^ n) : fX3_nearest now g (nI y) = some (nI (nr k w c y (2 ^ n))) := by
  have hp := hR.p8
  show fX3_nearest_5 now g 300 (nI y) (nI (nr k w c y 0)) (nI 0) = _
  refine upF (fun q x => fX3_nearest_5 now g q (nI y) (nI (nr k w c y x)) (nI x)) _ (2 ^ n) ?_ ?_ 300 0 (by omega) (by omega)
  · intro x q hx
    left
    have h9 := nr_99 k w c y x
    have hpp := pop_le (x ^^^ y)
    have hms := ms_lt hR x
    show FX3_nearest_5 now g (fX3_nearest_5 now g q) (nI y) (nI (nr k w c y x)) (nI x) = _
    unfold FX3_nearest_5 FX3_nearest_34 FX3_nearest_48
    simp (disch := omega) only [wordsM hR hM, bd_ok, nI_leI, if_neg (Nat.not_le.mpr hx), rdA_ok, hg x hx, nx_xor, ones_ok _ (xor_lt8 (show x < 256 by omega) (show y < 256 by omega)), nI_1, li99, nr_s]
    cases hc : cw k w c x with
    | false => 
      rw [if_pos (by rw [mo_m1 hR]; exact hc), if_pos h9]
      simp
    | true =>
      rw [if_neg (by rw [mo_m1 hR]; simp [hc])]
      by_cases h : nr k w c y x ≤ pop (x ^^^ y)
      · rw [if_pos h, if_neg (by simp; omega)]
      · rw [if_neg h, if_pos (by simp; omega)]
  · intro q
    show FX3_nearest_5 now g (fX3_nearest_5 now g q) (nI y) (nI (nr k w c y (2 ^ n))) (nI (2 ^ n)) = _
    unfold FX3_nearest_5
    simp (disch := omega) only [wordsM hR hM, bd_ok, nI_leI, if_pos (Nat.le_refl _)]
theorem nearX (hR : RS n k w c) (hX : StX len sz words checks n k w c) {y : Nat} (hy : y < 2 ^ n) : fX2_leastDistance len sz words checks (nI y) = some (nI (nr k w c y (2 ^ n))) := by
  have hp := hR.p8
  have hp0 := p2pos n
  have hp1 : 1 < 2 ^ n := Nat.one_lt_two_pow (by have := hR.1; omega)
  show FX2_leastDistance_0 len sz words checks (nI y) = _
  unfold FX2_leastDistance_0
  rw [bitc_ok y (by omega), bd_ok]
  refine upF (fun q x => fX2_leastDistance_7 len sz words checks q (nI y) (nI (if x = 0 then pop y else nr k w c y x)) (nI x)) _ (2 ^ n) ?_ ?_ 300 0 (by omega) (by omega)
  · intro x q hx
    left
    have h9 := nr_99 k w c y x
    have hpp := pop_le (x ^^^ y)
    have hpy := pop_le y
    show FX2_leastDistance_7 len sz words checks (fX2_leastDistance_7 len sz words checks q) (nI y) (nI (if x = 0 then pop y else nr k w c y x)) (nI x) = _
    have hb : (if x = 0 then pop y else nr k w c y x) < 2 ^ 31 := by split <;> omega
    unfold FX2_leastDistance_7 FX2_leastDistance_40
    simp (disch := omega) only [allX hR hX, bd_ok, nI_ltI, if_neg (show ¬ 2 ^ n - 1 < x by omega), nx_xor, bitc_ok _ (xor_lt8 (show x < 256 by omega) (show y < 256 by omega)), nI_1, nI_leI, cwX hR hX, ifb, nr_s, if_neg (show ¬ x + 1 = 0 by omega)]
    by_cases hx0 : x = 0
    · subst hx0
      simp only [↓reduceIte, Nat.zero_xor, Nat.le_refl, cw_zero, Bool.true_and]
      rw [if_pos (show decide (pop y < nr k w c y 0) = true by simp; show pop y < 99; omega)]
    · simp only [if_neg hx0]
      by_cases h : nr k w c y x ≤ pop (x ^^^ y)
      · rw [if_pos h, if_neg (by simp; omega)]
      · rw [if_neg h]
        cases hc : cw k w c x with
        | false => simp
        | true => simp; rw [if_pos (by omega)]
  · intro q
    show FX2_leastDistance_7 len sz words checks (fX2_leastDistance_7 len sz words checks q) (nI y) (nI (if 2 ^ n = 0 then pop y else nr k w c y (2 ^ n))) (nI (2 ^ n)) = _
    unfold FX2_leastDistance_7
    simp (disch := omega) only [allX hR hX, bd_ok, nI_ltI, if_pos (show 2 ^ n - 1 < 2 ^ n by omega), if_neg (show ¬ 2 ^ n = 0 by omega)]
theorem st_distance (hR : RS n k w c) (hX : StX len sz words checks n k w c) (hM : StM now n k w c) (hE : EE err errM) (x : Int32) : ∃ vX vM, fX2_distance len sz words checks err x = some vX ∧ fX3_distance now errM msg x = some vM ∧ vX.1 = vM.1 ∧ EE vX.2 vM.2.1 := by
  show ∃ vX vM, FX2_distance_0 len sz words checks err x = some vX ∧ FX3_distance_0 now errM msg x = some vM ∧ vX.1 = vM.1 ∧ EE vX.2 vM.2.1
  unfold FX2_distance_0 FX3_distance_0
  rw [isWordX hR hX, isWordM hR hM, bd_ok, bd_ok, ifb, ifb]
  cases h : isW n x with
  | false =>
    simp only [Bool.false_eq_true, ↓reduceIte, fX2a, fX3a, bd_ok]
    exact ⟨_, _, rfl, rfl, rfl, hE.up (by decide)⟩
  | true =>
    obtain ⟨j, hj, rfl⟩ := isW_of hR.2.1 h
    obtain ⟨g, hg, hgv⟩ := laysM hR hM msg
    simp only [↓reduceIte, nearX hR hX hj, hg, bd_ok, nearM hR hM hgv hj]
    exact ⟨_, _, rfl, rfl, rfl, hE⟩
/-- z is a nearest codeword of y -/
def NE (n k : Nat) (w c : Nat → Nat) (y z : Nat) : Prop := cw k w c z = true ∧ pop (z ^^^ y) = nr k w c y (2 ^ n)
/-- all nearest codewords have the message m; or two of them have two -/
def one (n k : Nat) (w c : Nat → Nat) (y m N : Nat) : Prop := (∃ z, z < N ∧ NE n k w c y z ∧ ms k w c z = m) ∧ ∀ z, z < N → NE n k w c y z → ms k w c z = m
def two (n k : Nat) (w c : Nat → Nat) (y N : Nat) : Prop := ∃ z1 z2, z1 < N ∧ z2 < N ∧ NE n k w c y z1 ∧ NE n k w c y z2 ∧ ms k w c z1 ≠ ms k w c z2
theorem one_two {y m N : Nat} (h1 : one n k w c y m N) (h2 : two n k w c y N) : False := by
  obtain ⟨z1, z2, a1, a2, b1, b2, h⟩ := h2
  exact h ((h1.2 z1 a1 b1).trans (h1.2 z2 a2 b2).symm)
theorem one_one {y m1 m2 N : Nat} (h1 : one n k w c y m1 N) (h2 : one n k w c y m2 N) : m1 = m2 := by
  obtain ⟨z, a, b, h⟩ := h1.1
  exact h.symm.trans (h2.2 z a b)
theorem one_lt (hR : RS n k w c) {y m N : Nat} (h1 : one n k w c y m N) : m < 64 := by
  obtain ⟨z, -, -, rfl⟩ := h1.1
  exact ms_lt hR z
theorem decM (hR : RS n k w c) (hM : StM now n k w c) (hg : ∀ x, x < 2 ^ n → g x = mo k w c x) {y : Nat} (hy : y < 2 ^ n) : (∃ m, fX3_decoded now g (nI y) = some (nI m) ∧ one n k w c y m (2 ^ n)) ∨ (fX3_decoded now g (nI y) = some (-5) ∧ two n k w c y (2 ^ n)) := by
  have hp := hR.p8
  have hp0 := p2pos n
  show (∃ m, FX3_decoded_0 now g (nI y) = some (nI m) ∧ _) ∨ (FX3_decoded_0 now g (nI y) = some (-5) ∧ _)
  unfold FX3_decoded_0
  rw [nearM hR hM hg hy, bd_ok]
  have h9 := nr_99 k w c y (2 ^ n)
  refine upR (fun q (s : Int32 × Int32) => fX3_decoded_11 now g q (nI y) (nI (nr k w c y (2 ^ n))) s.1 s.2) (fun x s => s.2 = nI x ∧ ((s.1 = -1 ∧ ∀ z, z < x → ¬ NE n k w c y z) ∨ ∃ m, s.1 = nI m ∧ one n k w c y m x)) (fun o => (∃ m, o = some (nI m) ∧ one n k w c y m (2 ^ n)) ∨ (o = some (-5) ∧ two n k w c y (2 ^ n))) (2 ^ n) ?_ ?_ 300 0 (-1, 0) ⟨rfl, Or.inl ⟨rfl, fun z h => absurd h (Nat.not_lt_zero z)⟩⟩ (by omega) (by omega)
  · intro x s q hx hI
    obtain ⟨its, xi⟩ := s
    obtain ⟨e, hI⟩ := hI
    dsimp only at e hI
    subst e
    have hpp := pop_le (x ^^^ y)
    have hms := ms_lt hR x
    show (∃ s', _ ∧ FX3_decoded_11 now g (fX3_decoded_11 now g q) (nI y) (nI (nr k w c y (2 ^ n))) its (nI x) = _) ∨ ((∃ m, FX3_decoded_11 now g (fX3_decoded_11 now g q) (nI y) (nI (nr k w c y (2 ^ n))) its (nI x) = some (nI m) ∧ _) ∨ (FX3_decoded_11 now g (fX3_decoded_11 now g q) (nI y) (nI (nr k w c y (2 ^ n))) its (nI x) = some (-5) ∧ _))
    unfold FX3_decoded_11 FX3_decoded_61 FX3_decoded_69
    simp (disch := omega) only [wordsM hR hM, bd_ok, nI_leI, if_neg (Nat.not_le.mpr hx), rdA_ok, hg x hx, nx_xor, ones_ok _ (xor_lt8 (show x < 256 by omega) (show y < 256 by omega)), nI_1, nI_eq]
    have skip : ¬ NE n k w c y x → (((its, nI (x + 1)).1 = -1 ∧ ∀ z, z < x + 1 → ¬ NE n k w c y z) ∨ ∃ m, (its, nI (x + 1)).1 = nI m ∧ one n k w c y m (x + 1)) := by
      intro hn
      rcases hI with ⟨e1, e2⟩ | ⟨m, e1, ⟨z, a, b, d⟩, e3⟩
      · exact Or.inl ⟨e1, fun z hz => by
          rcases Nat.lt_or_ge z x with h | h
          · exact e2 z h
          · have : z = x := by omega
            subst this; exact hn⟩
      · exact Or.inr ⟨m, e1, ⟨z, by omega, b, d⟩, fun z hz hN => by
          rcases Nat.lt_or_ge z x with h | h
          · exact e3 z h hN
          · have : z = x := by omega
            subst this; exact absurd hN hn⟩
    by_cases hN : NE n k w c y x
    · rw [if_neg (by rw [mo_m1 hR]; simp [hN.1]), if_pos hN.2, mo_cw hN.1]
      rcases hI with ⟨e1, e2⟩ | ⟨m, e1, ⟨z, a, b, d⟩, e3⟩
      · rw [if_pos e1]
        exact Or.inl ⟨(nI (ms k w c x), nI (x + 1)), ⟨rfl, Or.inr ⟨ms k w c x, rfl, ⟨x, by omega, hN, rfl⟩, fun z hz hNz => by
          rcases Nat.lt_or_ge z x with h | h
          · exact absurd hNz (e2 z h)
          · have : z = x := by omega
            subst this; rfl⟩⟩, rfl⟩
      · have hm : m < 64 := one_lt hR ⟨⟨z, a, b, d⟩, e3⟩
        rw [e1, if_neg (neg1_ne (by omega))]
        simp (disch := omega) only [nI_eq]
        by_cases hq : m = ms k w c x
        · rw [if_pos hq]
          exact Or.inl ⟨(nI (ms k w c x), nI (x + 1)), ⟨rfl, Or.inr ⟨ms k w c x, rfl, ⟨x, by omega, hN, rfl⟩, fun z hz hNz => by
            rcases Nat.lt_or_ge z x with h | h
            · rw [e3 z h hNz, hq]
            · have : z = x := by omega
              subst this; rfl⟩⟩, rfl⟩
        · rw [if_neg hq]
          exact Or.inr (Or.inr ⟨rfl, z, x, by omega, hx, b, hN, by rw [d]; exact hq⟩)
    · left
      refine ⟨(its, nI (x + 1)), ⟨rfl, skip hN⟩, ?_⟩
      cases hc : cw k w c x with
      | false => rw [if_pos (by rw [mo_m1 hR]; exact hc)]
      | true =>
        rw [if_neg (by rw [mo_m1 hR]; simp [hc]), if_neg (fun h => hN ⟨hc, h⟩)]
  · intro s q hI
    obtain ⟨its, xi⟩ := s
    obtain ⟨e, hI⟩ := hI
    dsimp only at e hI
    subst e
    show (∃ m, FX3_decoded_11 now g (fX3_decoded_11 now g q) (nI y) (nI (nr k w c y (2 ^ n))) its (nI (2 ^ n)) = some (nI m) ∧ _) ∨ _
    left
    unfold FX3_decoded_11
    simp (disch := omega) only [wordsM hR hM, bd_ok, nI_leI, if_pos (Nat.le_refl _)]
    rcases hI with ⟨e1, e2⟩ | ⟨m, e1, e2⟩
    · obtain ⟨z, a, b, d⟩ := nr_ex k w c y hp0
      exact absurd ⟨b, d⟩ (e2 z a)
    · exact ⟨m, by rw [e1], e2⟩
theorem decX (hR : RS n k w c) (hX : StX len sz words checks n k w c) {y : Nat} (hy : y < 2 ^ n) : (∃ m, fX2_decode_26 len sz words checks 300 err (nI y) (nI (nr k w c y (2 ^ n))) (-1) 0 = some (nI m, err) ∧ one n k w c y m (2 ^ n)) ∨ (fX2_decode_26 len sz words checks 300 err (nI y) (nI (nr k w c y (2 ^ n))) (-1) 0 = some (-5, upd err 3 (err 3 + 1)) ∧ two n k w c y (2 ^ n)) := by
  have hp := hR.p8
  have hp0 := p2pos n
  have h9 := nr_99 k w c y (2 ^ n)
  refine upR (fun q (s : Int32 × Int32) => fX2_decode_26 len sz words checks q err (nI y) (nI (nr k w c y (2 ^ n))) s.1 s.2) (fun x s => s.2 = nI x ∧ ((s.1 = -1 ∧ ∀ z, z < x → ¬ NE n k w c y z) ∨ ∃ m, s.1 = nI m ∧ one n k w c y m x)) (fun o => (∃ m, o = some (nI m, err) ∧ one n k w c y m (2 ^ n)) ∨ (o = some (-5, upd err 3 (err 3 + 1)) ∧ two n k w c y (2 ^ n))) (2 ^ n) ?_ ?_ 300 0 (-1, 0) ⟨rfl, Or.inl ⟨rfl, fun z h => absurd h (Nat.not_lt_zero z)⟩⟩ (by omega) (by omega)
  · intro x s q hx hI
    obtain ⟨its, xi⟩ := s
    obtain ⟨e, hI⟩ := hI
    dsimp only at e hI
    subst e
    have hpp := pop_le (x ^^^ y)
    have hms := ms_lt hR x
    have hs0 : fX2_syndrome sz words checks (nI x) 0 = some (nI (ms k w c x)) := synX hR hX (kind := 0) (by decide)
    show (∃ s', _ ∧ FX2_decode_26 len sz words checks (fX2_decode_26 len sz words checks q) err (nI y) (nI (nr k w c y (2 ^ n))) its (nI x) = _) ∨ ((∃ m, FX2_decode_26 len sz words checks (fX2_decode_26 len sz words checks q) err (nI y) (nI (nr k w c y (2 ^ n))) its (nI x) = some (nI m, err) ∧ _) ∨ (FX2_decode_26 len sz words checks (fX2_decode_26 len sz words checks q) err (nI y) (nI (nr k w c y (2 ^ n))) its (nI x) = some (-5, upd err 3 (err 3 + 1)) ∧ _))
    unfold FX2_decode_26 FX2_decode_82 FX2_decode_85
    simp (disch := omega) only [allX hR hX, bd_ok, nI_ltI, if_neg (show ¬ 2 ^ n - 1 < x by omega), nx_xor, bitc_ok _ (xor_lt8 (show x < 256 by omega) (show y < 256 by omega)), nI_1, nI_eq, cwX hR hX, ifb, hs0, fX2d]
    have skip : ¬ NE n k w c y x → (((its, nI (x + 1)).1 = -1 ∧ ∀ z, z < x + 1 → ¬ NE n k w c y z) ∨ ∃ m, (its, nI (x + 1)).1 = nI m ∧ one n k w c y m (x + 1)) := by
      intro hn
      rcases hI with ⟨e1, e2⟩ | ⟨m, e1, ⟨z, a, b, d⟩, e3⟩
      · exact Or.inl ⟨e1, fun z hz => by
          rcases Nat.lt_or_ge z x with h | h
          · exact e2 z h
          · have : z = x := by omega
            subst this; exact hn⟩
      · exact Or.inr ⟨m, e1, ⟨z, by omega, b, d⟩, fun z hz hN => by
          rcases Nat.lt_or_ge z x with h | h
          · exact e3 z h hN
          · have : z = x := by omega
            subst this; exact absurd hN hn⟩
    by_cases hN : NE n k w c y x
    · rw [if_pos hN.2, if_pos hN.1]
      rcases hI with ⟨e1, e2⟩ | ⟨m, e1, ⟨z, a, b, d⟩, e3⟩
      · rw [if_pos e1]
        exact Or.inl ⟨(nI (ms k w c x), nI (x + 1)), ⟨rfl, Or.inr ⟨ms k w c x, rfl, ⟨x, by omega, hN, rfl⟩, fun z hz hNz => by
          rcases Nat.lt_or_ge z x with h | h
          · exact absurd hNz (e2 z h)
          · have : z = x := by omega
            subst this; rfl⟩⟩, rfl⟩
      · have hm : m < 64 := one_lt hR ⟨⟨z, a, b, d⟩, e3⟩
        rw [e1, if_neg (neg1_ne (by omega))]
        simp (disch := omega) only [nI_eq]
        by_cases hq : m = ms k w c x
        · rw [if_pos hq]
          exact Or.inl ⟨(nI (ms k w c x), nI (x + 1)), ⟨rfl, Or.inr ⟨ms k w c x, rfl, ⟨x, by omega, hN, rfl⟩, fun z hz hNz => by
            rcases Nat.lt_or_ge z x with h | h
            · rw [e3 z h hNz, hq]
            · have : z = x := by omega
              subst this; rfl⟩⟩, rfl⟩
        · rw [if_neg hq]
          exact Or.inr (Or.inr ⟨rfl, z, x, by omega, hx, b, hN, by rw [d]; exact hq⟩)
    · left
      refine ⟨(its, nI (x + 1)), ⟨rfl, skip hN⟩, ?_⟩
      by_cases h : pop (x ^^^ y) = nr k w c y (2 ^ n)
      · rw [if_pos h, if_neg (fun hc => hN ⟨hc, h⟩)]
      · rw [if_neg h]
  · intro s q hI
    obtain ⟨its, xi⟩ := s
    obtain ⟨e, hI⟩ := hI
    dsimp only at e hI
    subst e
    show (∃ m, FX2_decode_26 len sz words checks (fX2_decode_26 len sz words checks q) err (nI y) (nI (nr k w c y (2 ^ n))) its (nI (2 ^ n)) = some (nI m, err) ∧ _) ∨ _
    left
    unfold FX2_decode_26
    simp (disch := omega) only [allX hR hX, bd_ok, nI_ltI, if_pos (show 2 ^ n - 1 < 2 ^ n by omega)]
    rcases hI with ⟨e1, e2⟩ | ⟨m, e1, e2⟩
    · obtain ⟨z, a, b, d⟩ := nr_ex k w c y hp0
      exact absurd ⟨b, d⟩ (e2 z a)
    · exact ⟨m, by rw [e1], e2⟩
theorem st_decode (hR : RS n k w c) (hX : StX len sz words checks n k w c) (hM : StM now n k w c) (hE : EE err errM) (x : Int32) : ∃ vX vM, fX2_decode len sz words checks err x = some vX ∧ fX3_decode now errM msg x = some vM ∧ vX.1 = vM.1 ∧ EE vX.2 vM.2.1 := by
  show ∃ vX vM, FX2_decode_0 len sz words checks err x = some vX ∧ FX3_decode_0 now errM msg x = some vM ∧ vX.1 = vM.1 ∧ EE vX.2 vM.2.1
  unfold FX2_decode_0 FX3_decode_0 FX3_decode_41
  rw [isWordX hR hX, isWordM hR hM, bd_ok, bd_ok, ifb, ifb]
  cases h : isW n x with
  | false =>
    simp only [Bool.false_eq_true, ↓reduceIte, fX2a, fX3a, bd_ok]
    exact ⟨_, _, rfl, rfl, rfl, hE.up (by decide)⟩
  | true =>
    obtain ⟨y, hy, rfl⟩ := isW_of hR.2.1 h
    obtain ⟨g, hg, hgv⟩ := laysM hR hM msg
    simp only [↓reduceIte, nearX hR hX hy, hg, bk]
    rcases decX (err := err) hR hX hy with ⟨m, e1, o1⟩ | ⟨e1, o1⟩ <;> rcases decM hR hM hgv hy with ⟨m2, e2, o2⟩ | ⟨e2, o2⟩
    · have := one_one o1 o2
      subst this
      have hm := one_lt hR o1
      have hne : ¬ nI m = -5 := by
        intro e
        have h1 := nI_toInt (n := m) (by omega)
        rw [e] at h1
        have : (-5 : Int32).toInt = -5 := by decide
        omega
      rw [e1, e2, bk, if_neg hne]
      exact ⟨_, _, rfl, rfl, rfl, hE⟩
    · exact (one_two o1 o2).elim
    · exact (one_two o2 o1).elim
    · rw [e1, e2, bk, if_pos rfl, fX3d, bk]
      exact ⟨_, _, rfl, rfl, rfl, hE.up (by decide)⟩
end DE
