/-! ===== small functions; words and their messages ===== -/
/-- two loops side by side -/
theorem upRR {σ1 σ2 ρ1 ρ2 : Type} (f1 : Nat → σ1 → Option ρ1) (f2 : Nat → σ2 → Option ρ2) (I : Nat → σ1 → σ2 → Prop) (G : Option ρ1 → Option ρ2 → Prop) (N : Nat)
    (hs : ∀ x s1 s2 n, x < N → I x s1 s2 → (∃ s1' s2', I (x + 1) s1' s2' ∧ f1 (n + 1) s1 = f1 n s1' ∧ f2 (n + 1) s2 = f2 n s2') ∨ G (f1 (n + 1) s1) (f2 (n + 1) s2)) (he : ∀ s1 s2 n, I N s1 s2 → G (f1 (n + 1) s1) (f2 (n + 1) s2)) :
    ∀ n x s1 s2, I x s1 s2 → x ≤ N → N < x + n → G (f1 n s1) (f2 n s2) := by
  intro n
  induction n with
  | zero => intro x s1 s2 _ h1 h2; omega
  | succ n ih =>
    intro x s1 s2 hI h1 h2
    rcases Nat.lt_or_ge x N with h | h
    · rcases hs x s1 s2 n h hI with ⟨s1', s2', hI', e1, e2⟩ | hG
      · rw [e1, e2]
        exact ih (x + 1) s1' s2' hI' h (by omega)
      · exact hG
    · have : x = N := by omega
      subst this
      exact he s1 s2 n hI
def b2 (b : Bool) : Int32 := if b then 1 else 0
theorem b2_0 {b : Bool} : (b2 b = 0) = (b = false) := by cases b <;> simp [b2]
theorem ifb {α : Type} (b : Bool) (A B : α) : (if b2 b = 0 then A else B) = (if b = true then B else A) := by cases b <;> rfl
theorem ckB_b2 {α : Type} {b : Bool} {k : Option α} : ckB (b2 b) k = k := by cases b <;> exact if_pos (by decide)
theorem withinE (x lo hi : Int32) : fX3_within x lo hi = some (b2 (decide (¬ x < lo ∧ ¬ hi < x))) := by
  show FX3_within_0 x lo hi = _
  unfold FX3_within_0 FX3_within_14 FX3_within_15
  by_cases h1 : x < lo
  · rw [if_pos h1, ckB_0]; simp [h1, b2]
  · rw [if_neg h1]
    by_cases h2 : hi < x
    · rw [if_pos h2, ckB_0]; simp [h2, b2]
    · rw [if_neg h2, ckB_1]; simp [h1, h2, b2]
/-- counters of errors agree -/
def EE (e1 e2 : Nat → Int32) : Prop := ∀ j, j < 5 → e1 j = e2 j
theorem EE.up {e1 e2 : Nat → Int32} (h : EE e1 e2) {j : Nat} (hj : j < 5) : EE (upd e1 j (e1 j + 1)) (upd e2 j (e2 j + 1)) := by
  intro i hi
  by_cases e : i = j
  · subst e; rw [up_eq, up_eq, h i hi]
  · rw [up_ne e, up_ne e, h i hi]
theorem failX {err : Nat → Int32} {code : Int32} {j : Nat} (hj : j < 5) (hc : (-2) - code = nI j) : fX2_fail err code = some (code, upd err j (err j + 1)) := by
  show FX2_fail_0 err code = _
  unfold FX2_fail_0 FX2_fail_24
  rw [hc, if_neg (nI_pos (by omega)), if_neg (show ¬ (5 : Int32) ≤ nI j from nI_ge (b := 5) hj (by decide)), rdA_ok hj (by decide), wrA_ok hj (by decide)]
theorem failM {err : Nat → Int32} {code : Int32} {j : Nat} (hj : j < 5) (hc : (-2) - code = nI j) : fX3_fails err code = some (code, upd err j (err j + 1)) := by
  show FX3_fails_0 err code = _
  unfold FX3_fails_0
  rw [hc, rdA_ok hj (by decide), wrA_ok hj (by decide)]
theorem fX2a (err : Nat → Int32) : fX2_fail err (-2) = some (-2, upd err 0 (err 0 + 1)) := failX (by decide) (by decide)
theorem fX2b (err : Nat → Int32) : fX2_fail err (-3) = some (-3, upd err 1 (err 1 + 1)) := failX (by decide) (by decide)
theorem fX2c (err : Nat → Int32) : fX2_fail err (-4) = some (-4, upd err 2 (err 2 + 1)) := failX (by decide) (by decide)
theorem fX2d (err : Nat → Int32) : fX2_fail err (-5) = some (-5, upd err 3 (err 3 + 1)) := failX (by decide) (by decide)
theorem fX2e (err : Nat → Int32) : fX2_fail err (-6) = some (-6, upd err 4 (err 4 + 1)) := failX (by decide) (by decide)
theorem fX3a (err : Nat → Int32) : fX3_fails err (-2) = some (-2, upd err 0 (err 0 + 1)) := failM (by decide) (by decide)
theorem fX3b (err : Nat → Int32) : fX3_fails err (-3) = some (-3, upd err 1 (err 1 + 1)) := failM (by decide) (by decide)
theorem fX3c (err : Nat → Int32) : fX3_fails err (-4) = some (-4, upd err 2 (err 2 + 1)) := failM (by decide) (by decide)
theorem fX3d (err : Nat → Int32) : fX3_fails err (-5) = some (-5, upd err 3 (err 3 + 1)) := failM (by decide) (by decide)
theorem fX3e (err : Nat → Int32) : fX3_fails err (-6) = some (-6, upd err 4 (err 4 + 1)) := failM (by decide) (by decide)
def isW (n : Nat) (x : Int32) : Bool := decide (¬ x < 0 ∧ ¬ nI (2 ^ n - 1) < x)
theorem isW_of {n : Nat} (hn : n ≤ 8) {x : Int32} (h : isW n x = true) : ∃ j, j < 2 ^ n ∧ x = nI j := by
  unfold isW at h
  rw [decide_eq_true_eq] at h
  have hp := p2le hn
  have hp2 := p2pos n
  obtain ⟨j, hj, rfl⟩ := nI_of h.1
  refine ⟨j, ?_, rfl⟩
  have h2 := h.2
  rw [nI_ltI (by omega) hj] at h2
  omega
theorem isW_nI {n j : Nat} (hn : n ≤ 8) (h : j < 2 ^ n) : isW n (nI j) = true := by
  have hp := p2le hn
  unfold isW
  rw [decide_eq_true_eq]
  exact ⟨nI_pos (by omega), by rw [nI_ltI (by omega) (by omega)]; omega⟩
section BAS
variable {now : Nat → Int32} {len sz : Int32} {words checks : Nat → Int32} {n k : Nat} {w c : Nat → Nat}
theorem wordsM (hR : RS n k w c) (hM : StM now n k w c) : fX3_words now = some (nI (2 ^ n)) := by
  show FX3_words_0 now = _
  unfold FX3_words_0
  rw [li0, rdA_ok (by decide) (by decide), hM.1, sh1' n (by have := hR.2.1; omega)]
theorem allX (hR : RS n k w c) (hX : StX len sz words checks n k w c) : fX2_allPositions len = some (nI (2 ^ n - 1)) := by
  show FX2_allPositions_0 len = _
  unfold FX2_allPositions_0
  have := p2pos n
  rw [hX.1, sh1' n (by have := hR.2.1; omega), li1, nI_sub (by omega)]
theorem isWordM (hR : RS n k w c) (hM : StM now n k w c) (x : Int32) : fX3_isWord now x = some (b2 (isW n x)) := by
  show FX3_isWord_0 now x = _
  unfold FX3_isWord_0
  have := p2pos n
  rw [wordsM hR hM, bd_ok, li1, nI_sub (by omega), withinE, bd_ok, ckB_b2]
  rfl
theorem isWordX (hR : RS n k w c) (hX : StX len sz words checks n k w c) (x : Int32) : fX2_isWord len x = some (b2 (isW n x)) := by
  show FX2_isWord_0 len x = _
  unfold FX2_isWord_0 FX2_isWord_16 FX2_isWord_17
  rw [allX hR hX, bd_ok]
  unfold isW
  by_cases h1 : x < 0
  · rw [if_pos h1, ckB_0]; simp [h1, b2]
  · rw [if_neg h1]
    by_cases h2 : nI (2 ^ n - 1) < x
    · rw [if_pos h2, ckB_0]; simp [h2, b2]
    · rw [if_neg h2, ckB_1]; simp [h1, h2, b2]
def isR (k : Nat) (x : Int32) : Bool := decide (¬ x < 0 ∧ ¬ nI k ≤ x)
theorem isR_of {k : Nat} (hk : k ≤ 6) {x : Int32} (h : isR k x = true) : ∃ j, j < k ∧ x = nI j := by
  unfold isR at h
  rw [decide_eq_true_eq] at h
  obtain ⟨j, hj, rfl⟩ := nI_of h.1
  refine ⟨j, ?_, rfl⟩
  have h2 := h.2
  rw [nI_leI (by omega) hj] at h2
  omega
theorem isRowX (hX : StX len sz words checks n k w c) (x : Int32) : fX2_isRowNumber sz x = some (b2 (isR k x)) := by
  show FX2_isRowNumber_0 sz x = _
  unfold FX2_isRowNumber_0 FX2_isRowNumber_19 FX2_isRowNumber_20
  rw [hX.2.1]
  unfold isR
  by_cases h1 : x < 0
  · rw [if_pos h1, ckB_0]; simp [h1, b2]
  · rw [if_neg h1]
    by_cases h2 : nI k ≤ x
    · rw [if_pos h2, ckB_0]; simp [h2, b2]
    · rw [if_neg h2, ckB_1]; simp [h1, h2, b2]
theorem isRowM (hR : RS n k w c) (hM : StM now n k w c) (x : Int32) : fX3_isRow now x = some (b2 (isR k x)) := by
  show FX3_isRow_0 now x = _
  unfold FX3_isRow_0
  have hk := hR.2.2.1
  rw [li1, rdA_ok (by decide) (by decide), hM.2.1, withinE, bd_ok, ckB_b2]
  unfold isR
  by_cases h1 : x < 0
  · simp [h1]
  · obtain ⟨j, hj, rfl⟩ := nI_of h1
    have : (nI k - nI 1 < nI j) ↔ nI k ≤ nI j := by
      rw [nI_leI (by omega) hj]
      rcases Nat.eq_zero_or_pos k with h0 | h0
      · subst h0
        have e : nI 0 - nI 1 = -1 := by decide
        rw [e]
        exact ⟨fun _ => Nat.zero_le j, fun _ => neg1_lt hj⟩
      · rw [nI_sub (by omega), nI_ltI (by omega) hj]
        omega
    simp only [this]
/-- x is a codeword; its message -/
def cw (k : Nat) (w c : Nat → Nat) (x : Nat) : Bool := decide (sy k w c 1 x = 0)
def ms (k : Nat) (w c : Nat → Nat) (x : Nat) : Nat := sy k w c 0 x
def mo (k : Nat) (w c : Nat → Nat) (x : Nat) : Int32 := if cw k w c x then nI (ms k w c x) else -1
theorem mo_cw {x : Nat} (h : cw k w c x = true) : mo k w c x = nI (ms k w c x) := if_pos h
theorem mo_nc {x : Nat} (h : ¬ cw k w c x = true) : mo k w c x = -1 := if_neg h
theorem ms_lt (hR : RS n k w c) (x : Nat) : ms k w c x < 64 := sy_64 w c 0 x hR.2.2.1
theorem mo_m1 (hR : RS n k w c) (x : Nat) : (mo k w c x = -1) = (cw k w c x = false) := by
  have := ms_lt hR x
  cases h : cw k w c x with
  | true => rw [mo_cw h]; simp [neg1_ne (show ms k w c x < 2 ^ 31 by omega)]
  | false => rw [mo_nc (by simp [h])]; simp
theorem laysM (hR : RS n k w c) (hM : StM now n k w c) (msg : Nat → Int32) : ∃ g, fX3_laysMessages now msg = some g ∧ ∀ x, x < 2 ^ n → g x = mo k w c x := by
  have hp := hR.p8
  show ∃ g, fX3_laysMessages_2 now 300 msg (nI 0) = some g ∧ _
  refine upR (fun q (s : (Nat → Int32) × Int32) => fX3_laysMessages_2 now q s.1 s.2) (fun x s => s.2 = nI x ∧ ∀ y, y < x → s.1 y = mo k w c y) (fun o => ∃ g, o = some g ∧ ∀ x, x < 2 ^ n → g x = mo k w c x) (2 ^ n) ?_ ?_ 300 0 (msg, nI 0) ⟨rfl, fun y h => absurd h (Nat.not_lt_zero y)⟩ (Nat.zero_le _) (by omega)
  · intro x s q hx hI
    obtain ⟨g, xi⟩ := s
    obtain ⟨e, hg⟩ := hI
    dsimp only at e hg
    subst e
    left
    refine ⟨(upd g x (mo k w c x), nI (x + 1)), ⟨rfl, fun y hy => ?_⟩, ?_⟩
    · by_cases e : y = x
      · subst e; exact up_eq _ _ _
      · show upd g x _ y = _
        rw [up_ne e]; exact hg y (by omega)
    · show FX3_laysMessages_2 now (fX3_laysMessages_2 now q) g (nI x) = fX3_laysMessages_2 now q (upd g x (mo k w c x)) (nI (x + 1))
      unfold FX3_laysMessages_2 FX3_laysMessages_34
      have hs := sy_64 w c 1 x hR.2.2.1
      simp (disch := omega) only [wordsM hR hM, bd_ok, nI_leI, if_neg (Nat.not_le.mpr hx), li1, li0, synM hR hM (x := x) (kind := 1) (by decide), synM hR hM (x := x) (kind := 0) (by decide), nI_eq, wrA_ok, nI_add]
      unfold mo cw
      by_cases h : sy k w c 1 x = 0
      · rw [if_pos h, if_pos (by simp [h])]; rfl
      · rw [if_neg h, if_neg (by simp [h])]; rfl
  · intro s q hI
    obtain ⟨g, xi⟩ := s
    obtain ⟨e, hg⟩ := hI
    dsimp only at e hg
    subst e
    refine ⟨g, ?_, hg⟩
    show FX3_laysMessages_2 now (fX3_laysMessages_2 now q) g (nI (2 ^ n)) = some g
    unfold FX3_laysMessages_2
    simp (disch := omega) only [wordsM hR hM, bd_ok, nI_leI, if_pos (Nat.le_refl _)]
theorem cwX (hR : RS n k w c) (hX : StX len sz words checks n k w c) (x : Nat) : fX2_isCodeword sz words checks (nI x) = some (b2 (cw k w c x)) := by
  show FX2_isCodeword_0 sz words checks (nI x) = _
  unfold FX2_isCodeword_0 FX2_isCodeword_14
  have hs := sy_64 w c 1 x hR.2.2.1
  rw [show (1 : Int32) = nI 1 from rfl, synX hR hX (by decide), bd_ok, li0]
  simp (disch := omega) only [nI_eq, ckB_n0, ckB_n1]
  unfold cw b2
  by_cases h : sy k w c 1 x = 0
  · rw [if_pos h]; simp [h]; rfl
  · rw [if_neg h]; simp [h]; rfl
theorem cwOfX (hR : RS n k w c) (hX : StX len sz words checks n k w c) (x m : Nat) (hm : m < 64) : fX2_isCodewordOf sz words checks (nI x) (nI m) = some (b2 (cw k w c x && decide (ms k w c x = m))) := by
  show FX2_isCodewordOf_0 sz words checks (nI x) (nI m) = _
  unfold FX2_isCodewordOf_0 FX2_isCodewordOf_22 FX2_isCodewordOf_23
  have hs := ms_lt hR x
  rw [cwX hR hX, bd_ok, ifb, show (0 : Int32) = nI 0 from rfl, synX hR hX (by decide), bd_ok]
  cases h : cw k w c x with
  | false => rw [if_neg (by decide)]; rfl
  | true =>
    rw [if_pos rfl]
    show (if nI (ms k w c x) = nI m then _ else _) = _
    simp (disch := omega) only [nI_eq, ckB_n0, ckB_1, Bool.true_and]
    by_cases h2 : ms k w c x = m
    · rw [if_pos h2]; simp [h2, b2]
    · rw [if_neg h2]; simp [h2, b2]; rfl
end BAS
