/-! ===== weakness ===== -/
theorem tbN (x i : Nat) : x / 2 ^ i % 2 = (x.testBit i).toNat := by
  rw [tb_div]
  rcases Nat.mod_two_eq_zero_or_one (x / 2 ^ i) with h | h <;> rw [h] <;> rfl
theorem pop_tb (x : Nat) : pop x = (x.testBit 0).toNat + (x.testBit 1).toNat + (x.testBit 2).toNat + (x.testBit 3).toNat + (x.testBit 4).toNat + (x.testBit 5).toNat + (x.testBit 6).toNat + (x.testBit 7).toNat := by
  rw [← tbN, ← tbN, ← tbN, ← tbN, ← tbN, ← tbN, ← tbN, ← tbN]
  unfold pop
  rw [show x / 2 ^ 0 = x by rw [Nat.pow_zero, Nat.div_one]]
theorem bl (a b : Bool) : (a ^^ b).toNat ≤ a.toNat + b.toNat := by cases a <;> cases b <;> decide
theorem pop_xor (a b : Nat) : pop (a ^^^ b) ≤ pop a + pop b := by
  rw [pop_tb, pop_tb a, pop_tb b]
  simp only [Nat.testBit_xor]
  have h0 := bl (a.testBit 0) (b.testBit 0)
  have h1 := bl (a.testBit 1) (b.testBit 1)
  have h2 := bl (a.testBit 2) (b.testBit 2)
  have h3 := bl (a.testBit 3) (b.testBit 3)
  have h4 := bl (a.testBit 4) (b.testBit 4)
  have h5 := bl (a.testBit 5) (b.testBit 5)
  have h6 := bl (a.testBit 6) (b.testBit 6)
  have h7 := bl (a.testBit 7) (b.testBit 7)
  omega
theorem pop_tri (x y z : Nat) : pop (x ^^^ z) ≤ pop (x ^^^ y) + pop (z ^^^ y) := by
  have e : x ^^^ z = (x ^^^ y) ^^^ (z ^^^ y) := by
    rw [Nat.xor_comm z y, ← Nat.xor_assoc, xx]
  rw [e]
  exact pop_xor _ _
theorem halfw : ∀ a, a < 256 → exb (fun y => decide (pop y = (pop a + 1) / 2) && decide (pop (a ^^^ y) = pop a / 2)) (a + 1) = true := by decide +kernel
section WK
variable {now : Nat → Int32} {len sz : Int32} {words checks : Nat → Int32} {n k : Nat} {w c : Nat → Nat} {err errM msg g : Nat → Int32}
theorem ms_xor (hR : RS n k w c) (x y : Nat) : ms k w c (x ^^^ y) = ms k w c x ^^^ ms k w c y := sy_xor k (fun i hi => hR.w8 hi)
theorem cw_xor (hR : RS n k w c) {x y : Nat} (hx : cw k w c x = true) (hy : cw k w c y = true) : cw k w c (x ^^^ y) = true := by
  unfold cw at *
  rw [decide_eq_true_eq] at *
  rw [sy_xor k (fun i hi => hR.w8 hi), hx, hy]
  rfl
theorem ms_0 (k : Nat) (w c : Nat → Nat) : ms k w c 0 = 0 := sy_0 k w c 0
/-- x is not what y decodes to -/
def bad (n k : Nat) (w c : Nat → Nat) (x y : Nat) : Prop := cw k w c x = true ∧ ¬ one n k w c y (ms k w c x) (2 ^ n)
def isWk (n k : Nat) (w c : Nat → Nat) (d : Nat) : Prop := (∃ y x, y < 2 ^ n ∧ x < 2 ^ n ∧ bad n k w c x y ∧ pop (x ^^^ y) = d) ∧ ∀ y x, y < 2 ^ n → x < 2 ^ n → bad n k w c x y → d ≤ pop (x ^^^ y)
def noWk (n k : Nat) (w c : Nat → Nat) : Prop := ∀ y x, y < 2 ^ n → x < 2 ^ n → ¬ bad n k w c x y
def isMW (n k : Nat) (w c : Nat → Nat) (l : Nat) : Prop := (∃ x, x < 2 ^ n ∧ cw k w c x = true ∧ ms k w c x ≠ 0 ∧ pop x = l) ∧ ∀ x, x < 2 ^ n → cw k w c x = true → ms k w c x ≠ 0 → l ≤ pop x
theorem isWk_uniq {a b : Nat} (h1 : isWk n k w c a) (h2 : isWk n k w c b) : a = b := by
  obtain ⟨y1, x1, a1, a2, a3, a4⟩ := h1.1
  obtain ⟨y2, x2, b1, b2, b3, b4⟩ := h2.1
  have := h1.2 y2 x2 b1 b2 b3
  have := h2.2 y1 x1 a1 a2 a3
  omega
theorem wk_none (hR : RS n k w c) (h : ∀ x, x < 2 ^ n → cw k w c x = true → ms k w c x = 0) : noWk n k w c := by
  intro y x hy hx hb
  apply hb.2
  rw [h x hx hb.1]
  obtain ⟨z, z1, z2, z3⟩ := nr_ex k w c y (p2pos n)
  exact ⟨⟨z, z1, ⟨z2, z3⟩, h z z1 z2⟩, fun z' hz' hN => h z' hz' hN.1⟩
theorem wk_some (hR : RS n k w c) {l : Nat} (h : isMW n k w c l) : isWk n k w c ((l + 1) / 2) := by
  have hp := hR.p8
  obtain ⟨⟨a, a1, a2, a3, a4⟩, hl⟩ := h
  constructor
  · obtain ⟨y, y1, y2⟩ := (exb_iff _ _).mp (halfw a (by omega))
    simp only [Bool.and_eq_true, decide_eq_true_eq] at y2
    rw [a4] at y2
    refine ⟨y, 0, by omega, p2pos n, ⟨cw_zero k w c, fun ho => ?_⟩, by rw [Nat.zero_xor]; exact y2.1⟩
    rw [ms_0] at ho
    obtain ⟨b, b1, b2, b3⟩ := ho.1
    have h1 := nr_le k w c y (2 ^ n) a a1 a2
    have h2 := b2.2
    have hm : ms k w c (b ^^^ a) ≠ 0 := by rw [ms_xor hR, b3, Nat.zero_xor]; exact a3
    have h3 := hl (b ^^^ a) (Nat.xor_lt_two_pow b1 a1) (cw_xor hR b2.1 a2) hm
    have h4 := pop_tri b y a
    have h5 : pop (a ^^^ y) = nr k w c y (2 ^ n) := by omega
    exact a3 (ho.2 a a1 ⟨a2, h5⟩)
  · intro y x hy hx hb
    rcases Nat.lt_or_ge (2 * pop (x ^^^ y)) l with hlt | hge
    · exfalso
      apply hb.2
      have key : ∀ z, z < 2 ^ n → NE n k w c y z → ms k w c z = ms k w c x := by
        intro z hz hN
        have h1 := nr_le k w c y (2 ^ n) x hx hb.1
        have h2 := hN.2
        have h4 := pop_tri z y x
        rcases Nat.eq_zero_or_pos (ms k w c (z ^^^ x)) with h0 | h0
        · rw [ms_xor hR] at h0
          have := xx (ms k w c z) (ms k w c x)
          rw [h0, Nat.zero_xor] at this
          exact this.symm
        · have := hl (z ^^^ x) (Nat.xor_lt_two_pow hz hx) (cw_xor hR hN.1 hb.1) (by omega)
          omega
      obtain ⟨z, z1, z2, z3⟩ := nr_ex k w c y (p2pos n)
      exact ⟨⟨z, z1, ⟨z2, z3⟩, key z z1 ⟨z2, z3⟩⟩, key⟩
    · omega
theorem weakX (hR : RS n k w c) (hX : StX len sz words checks n k w c) : (∃ l, l ≤ 8 ∧ isMW n k w c l ∧ fX2_weakness len sz words checks = some (nI ((l + 1) / 2))) ∨ ((∀ x, x < 2 ^ n → cw k w c x = true → ms k w c x = 0) ∧ fX2_weakness len sz words checks = some (-1)) := by
  have hp := hR.p8
  have hp0 := p2pos n
  have e0 : fX2_weakness len sz words checks = fX2_leastFatalErrors_5 len sz words checks 300 (nI 9) (nI 1) := by
    show (fX2_leastFatalErrors len sz words checks).bind _ = _
    show (fX2_leastFatalErrors_5 len sz words checks 300 (nI 9) (nI 1)).bind (fun v1 => some v1) = _
    cases fX2_leastFatalErrors_5 len sz words checks 300 (nI 9) (nI 1) <;> rfl
  rw [e0]
  refine upR (fun q (t : Int32 × Int32) => fX2_leastFatalErrors_5 len sz words checks q t.1 t.2) (fun x t => t.2 = nI x ∧ ∃ l, l ≤ 9 ∧ t.1 = nI l ∧ (∀ z, z < x → cw k w c z = true → ms k w c z ≠ 0 → l ≤ pop z) ∧ (l = 9 ∨ ∃ z, z < 2 ^ n ∧ cw k w c z = true ∧ ms k w c z ≠ 0 ∧ pop z = l)) (fun o => (∃ l, l ≤ 8 ∧ isMW n k w c l ∧ o = some (nI ((l + 1) / 2))) ∨ ((∀ x, x < 2 ^ n → cw k w c x = true → ms k w c x = 0) ∧ o = some (-1))) (2 ^ n) ?_ ?_ 300 1 (nI 9, nI 1) ⟨rfl, 9, by omega, rfl, fun z hz _ hm => ?_, Or.inl rfl⟩ (by omega) (by omega)
  · intro x t q hx hI
    obtain ⟨x1, x2⟩ := t
    obtain ⟨e1, l, hl9, e2, h1, h2⟩ := hI
    dsimp only at e1 e2
    subst e1; subst e2
    have hpp := pop_le x
    have hms := ms_lt hR x
    have hs0 : fX2_syndrome sz words checks (nI x) 0 = some (nI (ms k w c x)) := synX hR hX (kind := 0) (by decide)
    left
    show ∃ s', _ ∧ FX2_leastFatalErrors_5 len sz words checks (fX2_leastFatalErrors_5 len sz words checks q) (nI l) (nI x) = _
    unfold FX2_leastFatalErrors_5 FX2_leastFatalErrors_42
    simp (disch := omega) only [allX hR hX, bk, nI_ltI, if_neg (show ¬ 2 ^ n - 1 < x by omega), bitc_ok x (by omega), nI_leI, cwX hR hX, ifb, hs0, nI_1]
    have hz : (nI (ms k w c x) = 0) ↔ ms k w c x = 0 := nI_eq (b := 0) (by omega) (by decide)
    have keep : (cw k w c x = true → ms k w c x ≠ 0 → l ≤ pop x) → ∀ z, z < x + 1 → cw k w c z = true → ms k w c z ≠ 0 → l ≤ pop z := by
      intro hk z hz hc hm
      rcases Nat.lt_or_ge z x with h | h
      · exact h1 z h hc hm
      · have : z = x := by omega
        subst this; exact hk hc hm
    by_cases hle : l ≤ pop x
    · rw [if_pos hle]
      exact ⟨(nI l, nI (x + 1)), ⟨rfl, l, hl9, rfl, keep (fun _ _ => hle), h2⟩, rfl⟩
    · rw [if_neg hle]
      by_cases hc : cw k w c x = true
      · rw [if_pos hc]
        by_cases hm : ms k w c x = 0
        · rw [if_pos (hz.mpr hm)]
          exact ⟨(nI l, nI (x + 1)), ⟨rfl, l, hl9, rfl, keep (fun _ h => absurd hm h), h2⟩, rfl⟩
        · rw [if_neg (fun h => hm (hz.mp h))]
          refine ⟨(nI (pop x), nI (x + 1)), ⟨rfl, pop x, by omega, rfl, fun z hz hc2 hm2 => ?_, Or.inr ⟨x, hx, hc, hm, rfl⟩⟩, rfl⟩
          rcases Nat.lt_or_ge z x with h | h
          · have := h1 z h hc2 hm2; omega
          · have : z = x := by omega
            subst this; exact Nat.le_refl _
      · rw [if_neg hc]
        exact ⟨(nI l, nI (x + 1)), ⟨rfl, l, hl9, rfl, keep (fun h _ => absurd h hc), h2⟩, rfl⟩
  · intro t q hI
    obtain ⟨x1, x2⟩ := t
    obtain ⟨e1, l, hl9, e2, h1, h2⟩ := hI
    dsimp only at e1 e2
    subst e1; subst e2
    show (∃ l', l' ≤ 8 ∧ _ ∧ FX2_leastFatalErrors_5 len sz words checks (fX2_leastFatalErrors_5 len sz words checks q) (nI l) (nI (2 ^ n)) = _) ∨ (_ ∧ FX2_leastFatalErrors_5 len sz words checks (fX2_leastFatalErrors_5 len sz words checks q) (nI l) (nI (2 ^ n)) = _)
    unfold FX2_leastFatalErrors_5 FX2_leastFatalErrors_63 ckD
    simp (disch := omega) only [allX hR hX, bk, nI_ltI, if_pos (show 2 ^ n - 1 < 2 ^ n by omega), li8, nI_leI, nI_1]
    by_cases h8 : l ≤ 8
    · rcases h2 with h2 | h2
      · omega
      · left
        refine ⟨l, h8, ⟨h2, h1⟩, ?_⟩
        rw [if_pos h8, if_neg (by decide), show (2 : Int32) = nI 2 from rfl, pk_div (by omega) (by decide) (by decide)]
    · right
      refine ⟨fun x hx hc => ?_, by rw [if_neg h8]⟩
      rcases Nat.eq_zero_or_pos (ms k w c x) with h | h
      · exact h
      · have := h1 x hx hc (by omega)
        have := pop_le x
        omega
  · have : z = 0 := by omega
    subst this
    exact absurd (ms_0 k w c) hm
/-- what the reference compares with -/
def its (n k : Nat) (w c : Nat → Nat) (y : Nat) (v : Int32) : Prop := (∃ m, v = nI m ∧ one n k w c y m (2 ^ n)) ∨ (v = -5 ∧ two n k w c y (2 ^ n))
theorem its_bad (hR : RS n k w c) {x y : Nat} {v : Int32} (h : its n k w c y v) (hc : cw k w c x = true) : bad n k w c x y ↔ ¬ nI (ms k w c x) = v := by
  have hm := ms_lt hR x
  rcases h with ⟨m, rfl, o⟩ | ⟨rfl, o⟩
  · have hm2 := one_lt hR o
    rw [nI_eq (by omega) (by omega)]
    exact ⟨fun h e => h.2 (by rw [e]; exact o), fun h => ⟨hc, fun o2 => h (one_one o2 o)⟩⟩
  · refine ⟨fun _ e => ?_, fun _ => ⟨hc, fun o2 => one_two o2 o⟩⟩
    have h1 := nI_toInt (n := ms k w c x) (by omega)
    rw [e] at h1
    have : (-5 : Int32).toInt = -5 := by decide
    omega
theorem innerW (hR : RS n k w c) (hM : StM now n k w c) (hg : ∀ x, x < 2 ^ n → g x = mo k w c x) {r9 : (Nat → Int32) → Int32 → Int32 → Option (Int32 × (Nat → Int32))} {y L : Nat} {v : Int32} (hy : y < 2 ^ n) (hL : L ≤ 99) (hv : its n k w c y v) :
    ∃ L', L' ≤ L ∧ (∀ x, x < 2 ^ n → bad n k w c x y → L' ≤ pop (x ^^^ y)) ∧ (L' = L ∨ ∃ x, x < 2 ^ n ∧ bad n k w c x y ∧ pop (x ^^^ y) = L') ∧ fX3_weakness_26 now r9 300 g (nI L) (nI y) v 0 = r9 g (nI L') (nI (y + 1)) := by
  have hp := hR.p8
  refine upR (fun q (t : Int32 × Int32) => fX3_weakness_26 now r9 q g t.1 (nI y) v t.2) (fun x t => t.2 = nI x ∧ ∃ L', t.1 = nI L' ∧ L' ≤ L ∧ (∀ z, z < x → bad n k w c z y → L' ≤ pop (z ^^^ y)) ∧ (L' = L ∨ ∃ z, z < 2 ^ n ∧ bad n k w c z y ∧ pop (z ^^^ y) = L')) (fun o => ∃ L', L' ≤ L ∧ (∀ x, x < 2 ^ n → bad n k w c x y → L' ≤ pop (x ^^^ y)) ∧ (L' = L ∨ ∃ x, x < 2 ^ n ∧ bad n k w c x y ∧ pop (x ^^^ y) = L') ∧ o = r9 g (nI L') (nI (y + 1))) (2 ^ n) ?_ ?_ 300 0 (nI L, 0) ⟨rfl, L, rfl, Nat.le_refl L, fun z h => absurd h (Nat.not_lt_zero z), Or.inl rfl⟩ (by omega) (by omega)
  · intro x t q hx hI
    obtain ⟨x1, x4⟩ := t
    obtain ⟨e1, L', e2, hL', h1, h2⟩ := hI
    dsimp only at e1 e2
    subst e1; subst e2
    have hpp := pop_le (x ^^^ y)
    have hms := ms_lt hR x
    left
    show ∃ s', _ ∧ FX3_weakness_26 now r9 (fX3_weakness_26 now r9 q) g (nI L') (nI y) v (nI x) = _
    unfold FX3_weakness_26 FX3_weakness_72 FX3_weakness_73 FX3_weakness_91
    simp (disch := omega) only [wordsM hR hM, bk, nI_leI, if_neg (Nat.not_le.mpr hx), rdA_ok, hg x hx, nx_xor, ones_ok _ (xor_lt8 (show x < 256 by omega) (show y < 256 by omega)), nI_1, ↓reduceIte, if_neg (show ¬ (1 : Int32) = 0 by decide)]
    have keep : (bad n k w c x y → L' ≤ pop (x ^^^ y)) → ∀ z, z < x + 1 → bad n k w c z y → L' ≤ pop (z ^^^ y) := by
      intro hk z hz hb
      rcases Nat.lt_or_ge z x with h | h
      · exact h1 z h hb
      · have : z = x := by omega
        subst this; exact hk hb
    by_cases hc : cw k w c x = true
    · rw [if_neg (by rw [mo_m1 hR]; simp [hc]), mo_cw hc]
      have hib := its_bad hR hv hc
      by_cases he : nI (ms k w c x) = v
      · rw [if_pos he]
        exact ⟨(nI L', nI (x + 1)), ⟨rfl, L', rfl, hL', keep (fun hb => absurd he (hib.mp hb)), h2⟩, rfl⟩
      · rw [if_neg he]
        by_cases hle : L' ≤ pop (x ^^^ y)
        · rw [if_pos hle]
          exact ⟨(nI L', nI (x + 1)), ⟨rfl, L', rfl, hL', keep (fun _ => hle), h2⟩, rfl⟩
        · rw [if_neg hle]
          refine ⟨(nI (pop (x ^^^ y)), nI (x + 1)), ⟨rfl, pop (x ^^^ y), rfl, by omega, fun z hz hb => ?_, Or.inr ⟨x, hx, hib.mpr he, rfl⟩⟩, rfl⟩
          rcases Nat.lt_or_ge z x with h | h
          · have := h1 z h hb; omega
          · have : z = x := by omega
            subst this; exact Nat.le_refl _
    · rw [if_pos (by rw [mo_m1 hR]; simpa using hc)]
      exact ⟨(nI L', nI (x + 1)), ⟨rfl, L', rfl, hL', keep (fun hb => absurd hb.1 hc), h2⟩, rfl⟩
  · intro t q hI
    obtain ⟨x1, x4⟩ := t
    obtain ⟨e1, L', e2, hL', h1, h2⟩ := hI
    dsimp only at e1 e2
    subst e1; subst e2
    refine ⟨L', hL', h1, h2, ?_⟩
    show FX3_weakness_26 now r9 (fX3_weakness_26 now r9 q) g (nI L') (nI y) v (nI (2 ^ n)) = _
    unfold FX3_weakness_26
    simp (disch := omega) only [wordsM hR hM, bk, nI_leI, if_pos (Nat.le_refl _), nI_1]
theorem weakM (hR : RS n k w c) (hM : StM now n k w c) (msg : Nat → Int32) : (∃ d g, d ≤ 8 ∧ isWk n k w c d ∧ fX3_weakness now msg = some (nI d, g)) ∨ (∃ g, noWk n k w c ∧ fX3_weakness now msg = some (-1, g)) := by
  have hp := hR.p8
  obtain ⟨g, hg0, hg⟩ := laysM hR hM msg
  show (∃ d g, _ ∧ _ ∧ FX3_weakness_0 now msg = _) ∨ (∃ g, _ ∧ FX3_weakness_0 now msg = _)
  unfold FX3_weakness_0
  rw [hg0, bk]
  refine upR (fun q (t : Int32 × Int32) => fX3_weakness_9 now q g t.1 t.2) (fun y t => t.2 = nI y ∧ ∃ L, L ≤ 99 ∧ t.1 = nI L ∧ (∀ z x, z < y → x < 2 ^ n → bad n k w c x z → L ≤ pop (x ^^^ z)) ∧ (L = 99 ∨ ∃ z x, z < 2 ^ n ∧ x < 2 ^ n ∧ bad n k w c x z ∧ pop (x ^^^ z) = L)) (fun o => (∃ d g, d ≤ 8 ∧ isWk n k w c d ∧ o = some (nI d, g)) ∨ (∃ g, noWk n k w c ∧ o = some (-1, g))) (2 ^ n) ?_ ?_ 300 0 (99, 0) ⟨rfl, 99, Nat.le_refl _, rfl, fun z x h => absurd h (Nat.not_lt_zero z), Or.inl rfl⟩ (Nat.zero_le _) (by omega)
  · intro y t q hy hI
    obtain ⟨x1, x2⟩ := t
    obtain ⟨e1, L, hL, e2, h1, h2⟩ := hI
    dsimp only at e1 e2
    subst e1; subst e2
    left
    have hd : ∃ v, fX3_decoded now g (nI y) = some v ∧ its n k w c y v := by
      rcases decM hR hM hg hy with ⟨m, r, o⟩ | ⟨r, o⟩
      · exact ⟨_, r, Or.inl ⟨m, rfl, o⟩⟩
      · exact ⟨_, r, Or.inr ⟨rfl, o⟩⟩
    obtain ⟨v, r, hv⟩ := hd
    obtain ⟨L', hL', b1, b2, e⟩ := innerW hR hM hg (r9 := fX3_weakness_9 now q) hy hL hv
    refine ⟨(nI L', nI (y + 1)), ⟨rfl, L', by omega, rfl, fun z x hz hx hb => ?_, ?_⟩, ?_⟩
    · rcases Nat.lt_or_ge z y with h | h
      · have := h1 z x h hx hb; omega
      · have : z = y := by omega
        subst this; exact b1 x hx hb
    · rcases b2 with e3 | ⟨x, a1, a2, a3⟩
      · rw [e3]; exact h2
      · exact Or.inr ⟨y, x, hy, a1, a2, a3⟩
    · show FX3_weakness_9 now (fX3_weakness_9 now q) g (nI L) (nI y) = fX3_weakness_9 now q g (nI L') (nI (y + 1))
      unfold FX3_weakness_9
      rw [wordsM hR hM, bk, if_neg (by rw [nI_leI (by omega) (by omega)]; omega), r, bk]
      exact e
  · intro t q hI
    obtain ⟨x1, x2⟩ := t
    obtain ⟨e1, L, hL, e2, h1, h2⟩ := hI
    dsimp only at e1 e2
    subst e1; subst e2
    show (∃ d g', _ ∧ _ ∧ FX3_weakness_9 now (fX3_weakness_9 now q) g (nI L) (nI (2 ^ n)) = _) ∨ (∃ g', _ ∧ FX3_weakness_9 now (fX3_weakness_9 now q) g (nI L) (nI (2 ^ n)) = _)
    unfold FX3_weakness_9 FX3_weakness_115
    simp (disch := omega) only [wordsM hR hM, bk, nI_leI, if_pos (Nat.le_refl _), li99, nI_eq]
    by_cases h9 : L = 99
    · right
      refine ⟨g, fun z x hz hx hb => ?_, by rw [if_pos h9]⟩
      have := h1 z x hz hx hb
      have := pop_le (x ^^^ z)
      omega
    · left
      rcases h2 with h2 | h2
      · exact absurd h2 h9
      · obtain ⟨z, x, a1, a2, a3, a4⟩ := id h2
        have := pop_le (x ^^^ z)
        exact ⟨L, g, by omega, ⟨h2, h1⟩, by rw [if_neg h9]⟩
theorem wk_both (hR : RS n k w c) (hX : StX len sz words checks n k w c) (hM : StM now n k w c) (msg : Nat → Int32) : ∃ v g, fX2_weakness len sz words checks = some v ∧ fX3_weakness now msg = some (v, g) := by
  rcases weakX hR hX with ⟨l, hl, o1, r1⟩ | ⟨o1, r1⟩ <;> rcases weakM hR hM msg with ⟨d, g, hd, o2, r2⟩ | ⟨g, o2, r2⟩
  · have := isWk_uniq (wk_some hR o1) o2
    subst this
    exact ⟨_, g, r1, r2⟩
  · obtain ⟨y, x, a1, a2, a3, a4⟩ := (wk_some hR o1).1
    exact absurd a3 (o2 y x a1 a2)
  · obtain ⟨y, x, a1, a2, a3, a4⟩ := o2.1
    exact absurd a3 (wk_none hR o1 y x a1 a2)
  · exact ⟨_, g, r1, r2⟩
end WK
