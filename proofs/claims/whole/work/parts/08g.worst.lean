/-! ===== worst sets, threshold, least sizes ===== -/
section WO
variable {now : Nat → Int32} {len sz : Int32} {words checks : Nat → Int32} {n k : Nat} {w c : Nat → Nat} {err errM msg met lef vec : Nat → Int32} {bc : Int32}
def isZ (n : Nat) (x : Int32) : Bool := decide (¬ x < 0 ∧ ¬ nI n < x)
theorem isZ_of {x : Int32} (hn : n ≤ 8) (h : isZ n x = true) : ∃ j, j ≤ n ∧ x = nI j := by
  unfold isZ at h
  rw [decide_eq_true_eq] at h
  obtain ⟨j, hj, rfl⟩ := nI_of h.1
  refine ⟨j, ?_, rfl⟩
  have h2 := h.2
  rw [nI_ltI (by omega) hj] at h2
  omega
theorem isSizeX (hX : StX len sz words checks n k w c) (x : Int32) : fX2_isSize len x = some (b2 (isZ n x)) := by
  show FX2_isSize_0 len x = _
  unfold FX2_isSize_0 FX2_isSize_19 FX2_isSize_20
  rw [hX.1]
  unfold isZ
  by_cases h1 : x < 0
  · rw [if_pos h1, ckB_0]; simp [h1, b2]
  · rw [if_neg h1]
    by_cases h2 : nI n < x
    · rw [if_pos h2, ckB_0]; simp [h2, b2]
    · rw [if_neg h2, ckB_1]; simp [h1, h2, b2]
theorem isSizeM (hM : StM now n k w c) (x : Int32) : fX3_isSize now x = some (b2 (isZ n x)) := by
  show FX3_isSize_0 now x = _
  unfold FX3_isSize_0
  rw [li0, rdA_ok (by decide) (by decide), hM.1, withinE, bk, ckB_b2]
  rfl
theorem st_worstSet (hR : RS n k w c) (hX : StX len sz words checks n k w c) (hM : StM now n k w c) (hE : EE err errM) (x : Int32) : ∃ vX vM, fX2_worstSet len sz words checks err vec bc x = some vX ∧ fX3_worstSet now errM lef x = some vM ∧ vX.1 = vM.1 ∧ EE vX.2.1 vM.2.1 := by
  show ∃ vX vM, FX2_worstSet_0 len sz words checks err vec bc x = some vX ∧ FX3_worstSet_0 now errM lef x = some vM ∧ vX.1 = vM.1 ∧ EE vX.2.1 vM.2.1
  unfold FX2_worstSet_0 FX3_worstSet_0 FX3_worstSet_22
  rw [isSizeX hX, isSizeM hM, bk, bk, ifb, ifb]
  cases h : isZ n x with
  | false =>
    simp only [Bool.false_eq_true, ↓reduceIte, fX2a, fX3a, bk]
    exact ⟨_, _, rfl, rfl, rfl, hE.up (by decide)⟩
  | true =>
    obtain ⟨s, hs, rfl⟩ := isZ_of hR.2.1 h
    obtain ⟨b, v, d, r1, i1⟩ := worstX hR hX hs vec bc
    obtain ⟨b', lf, r2, i2⟩ := worstM hR hM hs lef
    have := isB_uniq i1 i2
    subst this
    simp only [↓reduceIte, r1, r2, bk]
    exact ⟨_, _, rfl, rfl, rfl, hE⟩
theorem st_worstLeakage (hR : RS n k w c) (hX : StX len sz words checks n k w c) (hM : StM now n k w c) (hE : EE err errM) (x : Int32) : ∃ vX vM, fX2_worstLeakage len sz words checks err vec bc x = some vX ∧ fX3_worstLeakage now errM lef x = some vM ∧ vX.1 = vM.1 ∧ EE vX.2.1 vM.2.1 := by
  show ∃ vX vM, FX2_worstLeakage_0 len sz words checks err vec bc x = some vX ∧ FX3_worstLeakage_0 now errM lef x = some vM ∧ vX.1 = vM.1 ∧ EE vX.2.1 vM.2.1
  unfold FX2_worstLeakage_0 FX3_worstLeakage_0 FX3_worstLeakage_26
  rw [isSizeX hX, isSizeM hM, bk, bk, ifb, ifb]
  cases h : isZ n x with
  | false =>
    simp only [Bool.false_eq_true, ↓reduceIte, fX2a, fX3a, bk]
    exact ⟨_, _, rfl, rfl, rfl, hE.up (by decide)⟩
  | true =>
    obtain ⟨s, hs, rfl⟩ := isZ_of hR.2.1 h
    obtain ⟨b, v, d, r1, i1⟩ := worstX hR hX hs vec bc
    obtain ⟨b', lf, r2, i2⟩ := worstM hR hM hs lef
    have := isB_uniq i1 i2
    subst this
    obtain ⟨v3, d3, r3⟩ := leakX hR hX i1.1 v d
    obtain ⟨lf4, r4⟩ := leakM hR hM i1.1 lf
    simp only [↓reduceIte, r1, r2, r3, r4, bk]
    exact ⟨_, _, rfl, rfl, rfl, hE⟩
/-- l is the least size of a set that leaks j bits; none: no set leaks so much -/
def least (n k : Nat) (w c : Nat → Nat) (j l : Nat) : Prop := (∃ y, y < 2 ^ n ∧ pop y = l ∧ j ≤ lk n k w c y) ∧ ∀ y, y < 2 ^ n → j ≤ lk n k w c y → l ≤ pop y
def noneL (n k : Nat) (w c : Nat → Nat) (j : Nat) : Prop := ∀ y, y < 2 ^ n → lk n k w c y < j
theorem least_uniq {j a b : Nat} (h1 : least n k w c j a) (h2 : least n k w c j b) : a = b := by
  obtain ⟨y1, a1, a2, a3⟩ := h1.1
  obtain ⟨y2, b1, b2, b3⟩ := h2.1
  have := h1.2 y2 b1 b3
  have := h2.2 y1 a1 a3
  omega
theorem least_none {j a : Nat} (h1 : least n k w c j a) (h2 : noneL n k w c j) : False := by
  obtain ⟨y1, a1, a2, a3⟩ := h1.1
  have := h2 y1 a1
  omega
theorem leastX (hR : RS n k w c) (hX : StX len sz words checks n k w c) {j : Nat} (hj : j ≤ 6) (vec : Nat → Int32) (bc : Int32) : (∃ l v d, l ≤ 8 ∧ fX2_leastSizeLeaking len sz words checks vec bc (nI j) = some (nI l, v, d) ∧ least n k w c j l) ∨ (∃ v d, fX2_leastSizeLeaking len sz words checks vec bc (nI j) = some (-1, v, d) ∧ noneL n k w c j) := by
  have hp := hR.p8
  have hp0 := p2pos n
  have hn := hR.2.1
  obtain ⟨v0, d0, r0⟩ := hidX hR hX (2 ^ n - 1) vec bc
  have r0 : fX2_hiddenBits sz words checks vec bc (nI (2 ^ n - 1)) = some (nI (hb k w c (2 ^ n - 1)), v0, d0) := r0
  have hH := hb_6 hR (2 ^ n - 1)
  have e0 : fX2_leastSizeLeaking len sz words checks vec bc (nI j) = fX2_leastSizeLeaking_20 len sz words checks 300 v0 d0 (nI (2 ^ n - 1)) (nI (hb k w c (2 ^ n - 1)) - nI j) (nI 9) (nI 0) := by
    show FX2_leastSizeLeaking_0 len sz words checks vec bc (nI j) = _
    unfold FX2_leastSizeLeaking_0
    rw [allX hR hX, bk, r0, bk]
    rfl
  rw [e0]
  refine upR (fun q (t : (Nat → Int32) × Int32 × Int32 × Int32) => fX2_leastSizeLeaking_20 len sz words checks q t.1 t.2.1 (nI (2 ^ n - 1)) (nI (hb k w c (2 ^ n - 1)) - nI j) t.2.2.1 t.2.2.2) (fun x t => t.2.2.2 = nI x ∧ ∃ l, l ≤ 9 ∧ t.2.2.1 = nI l ∧ (∀ y, y < x → j ≤ lk n k w c y → l ≤ pop y) ∧ (l = 9 ∨ ∃ y, y < 2 ^ n ∧ pop y = l ∧ j ≤ lk n k w c y)) (fun o => (∃ l v d, l ≤ 8 ∧ o = some (nI l, v, d) ∧ least n k w c j l) ∨ (∃ v d, o = some (-1, v, d) ∧ noneL n k w c j)) (2 ^ n) ?_ ?_ 300 0 (v0, d0, nI 9, nI 0) ⟨rfl, 9, by omega, rfl, fun y h => absurd h (Nat.not_lt_zero y), Or.inl rfl⟩ (by omega) (by omega)
  · intro x t q hx hI
    obtain ⟨vc, b0, x4, x5⟩ := t
    obtain ⟨e1, l, hl9, e2, h1, h2⟩ := hI
    dsimp only at e1 e2
    subst e1; subst e2
    have hpp := pop_le x
    left
    show ∃ s', _ ∧ FX2_leastSizeLeaking_20 len sz words checks (fX2_leastSizeLeaking_20 len sz words checks q) vc b0 (nI (2 ^ n - 1)) (nI (hb k w c (2 ^ n - 1)) - nI j) (nI l) (nI x) = _
    unfold FX2_leastSizeLeaking_20 FX2_leastSizeLeaking_58
    simp (disch := omega) only [nI_ltI, if_neg (show ¬ 2 ^ n - 1 < x by omega), bitc_ok x (by omega), bk, nI_leI, nI_1]
    have keep : (j ≤ lk n k w c x → l ≤ pop x) → ∀ y, y < x + 1 → j ≤ lk n k w c y → l ≤ pop y := by
      intro hk y hy hj2
      rcases Nat.lt_or_ge y x with h | h
      · exact h1 y h hj2
      · have : y = x := by omega
        subst this; exact hk hj2
    by_cases hle : l ≤ pop x
    · rw [if_pos hle]
      exact ⟨(vc, b0, nI l, nI (x + 1)), ⟨rfl, l, hl9, rfl, keep (fun _ => hle), h2⟩, rfl⟩
    · rw [if_neg hle, cpl_eq n (by omega) x (by omega) hx]
      obtain ⟨v1, d1, r⟩ := hidX hR hX (cpl n x) vc b0
      have r : fX2_hiddenBits sz words checks vc b0 (nI (cpl n x)) = some (nI (hb k w c (cpl n x)), v1, d1) := r
      have h6 := hb_6 hR (cpl n x)
      have hleh := hb_le hR (cpl n x)
      rw [r, bk]
      dsimp only
      have hcmp : (nI (hb k w c (2 ^ n - 1)) - nI j < nI (hb k w c (cpl n x))) ↔ lk n k w c x < j := by
        rw [Int32.lt_iff_toInt_lt, pk_sub_toInt (by omega) (by omega), nI_toInt (by omega)]
        unfold lk
        omega
      by_cases hq : lk n k w c x < j
      · rw [if_pos (hcmp.mpr hq)]
        exact ⟨(v1, d1, nI l, nI (x + 1)), ⟨rfl, l, hl9, rfl, keep (fun h => by omega), h2⟩, rfl⟩
      · rw [if_neg (fun h => hq (hcmp.mp h))]
        refine ⟨(v1, d1, nI (pop x), nI (x + 1)), ⟨rfl, pop x, by omega, rfl, fun y hy hj2 => ?_, Or.inr ⟨x, hx, rfl, by omega⟩⟩, rfl⟩
        rcases Nat.lt_or_ge y x with h | h
        · have := h1 y h hj2; omega
        · have : y = x := by omega
          subst this; exact Nat.le_refl _
  · intro t q hI
    obtain ⟨vc, b0, x4, x5⟩ := t
    obtain ⟨e1, l, hl9, e2, h1, h2⟩ := hI
    dsimp only at e1 e2
    subst e1; subst e2
    show (∃ l' v d, l' ≤ 8 ∧ FX2_leastSizeLeaking_20 len sz words checks (fX2_leastSizeLeaking_20 len sz words checks q) vc b0 (nI (2 ^ n - 1)) (nI (hb k w c (2 ^ n - 1)) - nI j) (nI l) (nI (2 ^ n)) = some (nI l', v, d) ∧ _) ∨ (∃ v d, FX2_leastSizeLeaking_20 len sz words checks (fX2_leastSizeLeaking_20 len sz words checks q) vc b0 (nI (2 ^ n - 1)) (nI (hb k w c (2 ^ n - 1)) - nI j) (nI l) (nI (2 ^ n)) = some (-1, v, d) ∧ _)
    unfold FX2_leastSizeLeaking_20 FX2_leastSizeLeaking_77
    simp (disch := omega) only [nI_ltI, if_pos (show 2 ^ n - 1 < 2 ^ n by omega), li8, nI_leI]
    by_cases h8 : l ≤ 8
    · rw [if_pos h8]
      rcases h2 with h2 | h2
      · omega
      · exact Or.inl ⟨l, vc, b0, h8, rfl, h2, h1⟩
    · rw [if_neg h8]
      refine Or.inr ⟨vc, b0, rfl, fun y hy => ?_⟩
      rcases Nat.lt_or_ge (lk n k w c y) j with h | h
      · exact h
      · have := h1 y hy h
        have := pop_le y
        omega
/-- the greatest leakage of a size, as the reference asks for it -/
theorem mxM (hR : RS n k w c) (hM : StM now n k w c) {s : Nat} (hs : s ≤ n) (lef : Nat → Int32) : ∃ b lf lf2, fX3_worstOf now lef (nI s) = some (nI b, lf) ∧ fX3_leakageOf now lf (nI b) = some (nI (lk n k w c b), lf2) ∧ isB n k w c (2 ^ n) s b := by
  obtain ⟨b, lf, r1, i1⟩ := worstM hR hM hs lef
  obtain ⟨lf2, r2⟩ := leakM hR hM i1.1 lf
  exact ⟨b, lf, lf2, r1, r2, i1⟩
theorem leastM (hR : RS n k w c) (hM : StM now n k w c) {j : Nat} (hj : j ≤ 6) (errM lef : Nat → Int32) : (∃ l lf, fX3_leastSize_19 now 300 errM lef (nI j) 0 = some (nI l, errM, lf) ∧ least n k w c j l) ∨ (∃ lf, fX3_leastSize_19 now 300 errM lef (nI j) 0 = some (-1, errM, lf) ∧ noneL n k w c j) := by
  have hp := hR.p8
  have hn := hR.2.1
  refine upR (fun q (t : (Nat → Int32) × Int32) => fX3_leastSize_19 now q errM t.1 (nI j) t.2) (fun s t => t.2 = nI s ∧ ∀ y, y < 2 ^ n → pop y < s → lk n k w c y < j) (fun o => (∃ l lf, o = some (nI l, errM, lf) ∧ least n k w c j l) ∨ (∃ lf, o = some (-1, errM, lf) ∧ noneL n k w c j)) (n + 1) ?_ ?_ 300 0 (lef, 0) ⟨rfl, fun y _ h => absurd h (Nat.not_lt_zero _)⟩ (by omega) (by omega)
  · intro s t q hs hI
    obtain ⟨lf, x2⟩ := t
    obtain ⟨e1, h1⟩ := hI
    dsimp only at e1
    subst e1
    obtain ⟨b, lf1, lf2, r1, r2, i1⟩ := mxM hR hM (s := s) (by omega) lf
    have h6 := lk_6 hR b
    show (∃ s', _ ∧ FX3_leastSize_19 now (fX3_leastSize_19 now q) errM lf (nI j) (nI s) = _) ∨ ((∃ l lf', FX3_leastSize_19 now (fX3_leastSize_19 now q) errM lf (nI j) (nI s) = some (nI l, errM, lf') ∧ _) ∨ _)
    unfold FX3_leastSize_19 FX3_leastSize_48 FX3_leastSize_63
    simp (disch := omega) only [li0, rdA_ok, hM.1, nI_ltI, if_neg (show ¬ n < s by omega), r1, r2, bk, nI_leI, nI_1, if_pos (show s ≤ n by omega)]
    by_cases hq : j ≤ lk n k w c b
    · rw [if_pos hq]
      refine Or.inr (Or.inl ⟨s, lf2, rfl, ⟨b, i1.1, i1.2.1, hq⟩, fun y hy hj2 => ?_⟩)
      rcases Nat.lt_or_ge (pop y) s with h | h
      · have := h1 y hy h; omega
      · exact h
    · rw [if_neg hq]
      refine Or.inl ⟨(lf2, nI (s + 1)), ⟨rfl, fun y hy hs2 => ?_⟩, rfl⟩
      rcases Nat.lt_or_ge (pop y) s with h | h
      · exact h1 y hy h
      · have := i1.2.2.1 y hy (by omega)
        omega
  · intro t q hI
    obtain ⟨lf, x2⟩ := t
    obtain ⟨e1, h1⟩ := hI
    dsimp only at e1
    subst e1
    refine Or.inr ⟨lf, ?_, fun y hy => h1 y hy (by have := pop_le_n n (by omega) y (by omega) hy; omega)⟩
    show FX3_leastSize_19 now (fX3_leastSize_19 now q) errM lf (nI j) (nI (n + 1)) = _
    unfold FX3_leastSize_19 FX3_leastSize_48 FX3_leastSize_63
    simp (disch := omega) only [li0, rdA_ok, hM.1, nI_ltI, if_pos (show n < n + 1 by omega), nI_leI, if_neg (show ¬ n + 1 ≤ n by omega)]
theorem st_leastSize (hR : RS n k w c) (hX : StX len sz words checks n k w c) (hM : StM now n k w c) (hE : EE err errM) (x : Int32) : ∃ vX vM, fX2_leastSize len sz words checks err vec bc x = some vX ∧ fX3_leastSize now errM lef x = some vM ∧ vX.1 = vM.1 ∧ EE vX.2.1 vM.2.1 := by
  show ∃ vX vM, FX2_leastSize_0 len sz words checks err vec bc x = some vX ∧ FX3_leastSize_0 now errM lef x = some vM ∧ vX.1 = vM.1 ∧ EE vX.2.1 vM.2.1
  unfold FX2_leastSize_0 FX3_leastSize_0 FX2_leastSize_11
  rw [withinE, bk, ifb]
  by_cases h1 : x < 1
  · rw [if_pos h1, if_neg (by simp [h1]), fX2a, fX3a, bk, bk]
    exact ⟨_, _, rfl, rfl, rfl, hE.up (by decide)⟩
  · have h0 : ¬ x < 0 := by
      intro h
      apply h1
      rw [Int32.lt_iff_toInt_lt] at *
      have a : (0 : Int32).toInt = 0 := by decide
      have b : (1 : Int32).toInt = 1 := by decide
      omega
    obtain ⟨j, hj, rfl⟩ := nI_of h0
    have e1 : (nI j ≤ (6 : Int32)) ↔ j ≤ 6 := nI_leI (b := 6) hj (by decide)
    have e2 : ((6 : Int32) < nI j) ↔ 6 < j := nI_ltI (a := 6) (by decide) hj
    rw [if_neg h1]
    by_cases h2 : j ≤ 6
    · rw [if_pos (e1.mpr h2), if_pos (by simp only [decide_eq_true_eq]; exact ⟨h1, fun h => by have := e2.mp h; omega⟩)]
      rcases leastX hR hX h2 vec bc with ⟨l, v, d, _, r1, o1⟩ | ⟨v, d, r1, o1⟩ <;> rcases leastM hR hM h2 errM lef with ⟨l2, lf, r2, o2⟩ | ⟨lf, r2, o2⟩
      · have := least_uniq o1 o2
        subst this
        rw [r1, r2, bk]
        exact ⟨_, _, rfl, rfl, rfl, hE⟩
      · exact (least_none o1 o2).elim
      · exact (least_none o2 o1).elim
      · rw [r1, r2, bk]
        exact ⟨_, _, rfl, rfl, rfl, hE⟩
    · rw [if_neg (fun h => h2 (e1.mp h)), if_neg (by simp only [decide_eq_true_eq]; exact fun h => h.2 (e2.mpr (by omega))), fX2a, fX3a, bk, bk]
      exact ⟨_, _, rfl, rfl, rfl, hE.up (by decide)⟩
/-- t is the threshold -/
def thr (n k : Nat) (w c : Nat → Nat) (t : Nat) : Prop := t ≤ n ∧ (∀ y, y < 2 ^ n → pop y ≤ t → lk n k w c y = 0) ∧ (t = n ∨ ∃ y, y < 2 ^ n ∧ pop y = t + 1 ∧ 0 < lk n k w c y)
theorem thr_uniq {a b : Nat} (h1 : thr n k w c a) (h2 : thr n k w c b) : a = b := by
  rcases Nat.lt_trichotomy a b with h | h | h
  · rcases h1.2.2 with e | ⟨y, y1, y2, y3⟩
    · have := h2.1; omega
    · have := h2.2.1 y y1 (by omega); omega
  · exact h
  · rcases h2.2.2 with e | ⟨y, y1, y2, y3⟩
    · have := h1.1; omega
    · have := h1.2.1 y y1 (by omega); omega
theorem pop_z : ∀ y, y < 256 → pop y = 0 → y = 0 := by decide +kernel
theorem thrX (hR : RS n k w c) (hX : StX len sz words checks n k w c) (vec : Nat → Int32) (bc : Int32) : ∃ t v d, fX2_threshold len sz words checks vec bc = some (nI t, v, d) ∧ thr n k w c t := by
  have hp := hR.p8
  have hn := hR.2.1
  show ∃ t v d, FX2_threshold_0 len sz words checks vec bc = _ ∧ _
  unfold FX2_threshold_0 FX2_threshold_24
  rw [show (1 : Int32) = nI 1 from rfl]
  rcases leastX hR hX (j := 1) (by decide) vec bc with ⟨l, v, d, hl, r1, ⟨⟨y, y1, y2, y3⟩, o2⟩⟩ | ⟨v, d, r1, o1⟩
  · have hl0 : 0 < l := by
      rcases Nat.eq_zero_or_pos l with h | h
      · have h3 := pop_z y (by omega) (by omega)
        rw [h3, lk_0] at y3; omega
      · exact h
    have hln := pop_le_n n (by omega) y (by omega) y1
    rw [r1, bk]
    dsimp only
    rw [if_neg (show ¬ nI l = -nI 1 from neg1_ne (show l < 2 ^ 31 by omega))]
    refine ⟨l - 1, v, d, by rw [nI_sub (by omega)], by omega, fun z hz hpz => ?_, Or.inr ⟨y, y1, by omega, y3⟩⟩
    rcases Nat.eq_zero_or_pos (lk n k w c z) with h | h
    · exact h
    · have := o2 z hz h; omega
  · rw [r1, bk]
    dsimp only
    rw [if_pos (show (-1 : Int32) = -nI 1 from rfl)]
    exact ⟨n, v, d, by rw [hX.1], Nat.le_refl n, fun z hz _ => by have := o1 z hz; omega, Or.inl rfl⟩
theorem thrM (hR : RS n k w c) (hM : StM now n k w c) (lef : Nat → Int32) : ∃ t lf, fX3_threshold now lef = some (nI t, lf) ∧ thr n k w c t := by
  have hp := hR.p8
  have hn := hR.2.1
  show ∃ t lf, fX3_threshold_2 now 300 lef 0 = _ ∧ _
  refine upR (fun q (t : (Nat → Int32) × Int32) => fX3_threshold_2 now q t.1 t.2) (fun s t => t.2 = nI s ∧ ∀ y, y < 2 ^ n → pop y ≤ s → lk n k w c y = 0) (fun o => ∃ t lf, o = some (nI t, lf) ∧ thr n k w c t) n ?_ ?_ 300 0 (lef, 0) ⟨rfl, fun y hy h => by rw [pop_z y (by omega) (by omega), lk_0]⟩ (by omega) (by omega)
  · intro s t q hs hI
    obtain ⟨lf, x1⟩ := t
    obtain ⟨e1, h1⟩ := hI
    dsimp only at e1
    subst e1
    obtain ⟨b, lf1, lf2, r1, r2, i1⟩ := mxM hR hM (s := s + 1) (by omega) lf
    have h6 := lk_6 hR b
    show (∃ s', _ ∧ FX3_threshold_2 now (fX3_threshold_2 now q) lf (nI s) = _) ∨ (∃ t lf', FX3_threshold_2 now (fX3_threshold_2 now q) lf (nI s) = some (nI t, lf') ∧ _)
    unfold FX3_threshold_2 FX3_threshold_32
    simp (disch := omega) only [li0, rdA_ok, hM.1, nI_leI, if_neg (show ¬ n ≤ s by omega), nI_1, r1, r2, bk, nI_eq]
    by_cases hq : lk n k w c b = 0
    · rw [if_pos hq]
      refine Or.inl ⟨(lf2, nI (s + 1)), ⟨rfl, fun y hy hs2 => ?_⟩, rfl⟩
      rcases Nat.lt_or_ge s (pop y) with h | h
      · have := i1.2.2.1 y hy (by omega); omega
      · exact h1 y hy h
    · rw [if_neg hq]
      exact Or.inr ⟨s, lf2, rfl, by omega, h1, Or.inr ⟨b, i1.1, i1.2.1, by omega⟩⟩
  · intro t q hI
    obtain ⟨lf, x1⟩ := t
    obtain ⟨e1, h1⟩ := hI
    dsimp only at e1
    subst e1
    refine ⟨n, lf, ?_, Nat.le_refl n, h1, Or.inl rfl⟩
    show FX3_threshold_2 now (fX3_threshold_2 now q) lf (nI n) = _
    unfold FX3_threshold_2 FX3_threshold_32
    simp (disch := omega) only [li0, rdA_ok, hM.1, nI_leI, if_pos (Nat.le_refl n)]
theorem st_threshold (hR : RS n k w c) (hX : StX len sz words checks n k w c) (hM : StM now n k w c) : ∃ vX vM, fX2_threshold len sz words checks vec bc = some vX ∧ fX3_threshold now lef = some vM ∧ vX.1 = vM.1 := by
  obtain ⟨t1, v, d, r1, o1⟩ := thrX hR hX vec bc
  obtain ⟨t2, lf, r2, o2⟩ := thrM hR hM lef
  have := thr_uniq o1 o2
  subst this
  exact ⟨_, _, r1, r2, rfl⟩
end WO
