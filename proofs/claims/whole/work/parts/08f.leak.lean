/-! ===== ranks, codewords, messages, leakage ===== -/
theorem sub4 (a b c d : Int32) : (a - b) - (c - d) = (a - c) - (b - d) := by
  rw [Int32.sub_eq_add_neg a b, Int32.sub_eq_add_neg _ (c - d), Int32.neg_sub, Int32.sub_eq_add_neg d c, Int32.sub_eq_add_neg a c, Int32.sub_eq_add_neg _ (b - d), Int32.neg_sub, Int32.sub_eq_add_neg d b]
  rw [Int32.add_assoc, Int32.add_assoc]
  congr 1
  rw [← Int32.add_assoc, ← Int32.add_assoc, Int32.add_comm (-b) d, Int32.add_comm (-c) d, Int32.add_assoc, Int32.add_assoc, Int32.add_comm (-b)]
/-- hidden bits of the positions S; the leakage of a set -/
def hb (k : Nat) (w c : Nat → Nat) (S : Nat) : Nat := rA k w c S - rC k w c S
def lk (n k : Nat) (w c : Nat → Nat) (S : Nat) : Nat := hb k w c (2 ^ n - 1) - hb k w c (cpl n S)
section LK
variable {now : Nat → Int32} {len sz : Int32} {words checks : Nat → Int32} {n k : Nat} {w c : Nat → Nat} {err errM msg met lef vec : Nat → Int32} {bc : Int32}
theorem hb_le (hR : RS n k w c) (S : Nat) : hb k w c S ≤ hb k w c (2 ^ n - 1) := hid_mono hR S
theorem hb_6 (hR : RS n k w c) (S : Nat) : hb k w c S ≤ 6 := by
  have := rA_le6 hR S
  have := hR.2.2.1
  unfold hb; omega
theorem lk_6 (hR : RS n k w c) (S : Nat) : lk n k w c S ≤ 6 := by
  have := hb_6 hR (2 ^ n - 1)
  unfold lk; omega
theorem lk_0 (n k : Nat) (w c : Nat → Nat) : lk n k w c 0 = 0 := by
  unfold lk cpl
  rw [Nat.xor_zero, Nat.sub_self]
theorem st_rank (hR : RS n k w c) (hX : StX len sz words checks n k w c) (hM : StM now n k w c) (hE : EE err errM) (x : Int32) : ∃ vX vM, fX2_rank len sz words checks err vec bc x = some vX ∧ fX3_rank now errM lef x = some vM ∧ vX.1 = vM.1 ∧ EE vX.2.1 vM.2.1 := by
  show ∃ vX vM, FX2_rank_0 len sz words checks err vec bc x = some vX ∧ FX3_rank_0 now errM lef x = some vM ∧ vX.1 = vM.1 ∧ EE vX.2.1 vM.2.1
  unfold FX2_rank_0 FX3_rank_0 FX3_rank_29 FX2_rank_9
  rw [withinE, bk, ifb]
  by_cases h1 : x < 0
  · rw [if_pos h1, if_neg (by simp [h1]), fX2a, fX3a, bk, bk]
    exact ⟨_, _, rfl, rfl, rfl, hE.up (by decide)⟩
  · obtain ⟨j, hj, rfl⟩ := nI_of h1
    have e1 : (nI j ≤ (2 : Int32)) ↔ j ≤ 2 := nI_leI (b := 2) hj (by decide)
    have e2 : ((2 : Int32) < nI j) ↔ 2 < j := nI_ltI (a := 2) (by decide) hj
    rw [if_neg h1]
    by_cases h2 : j ≤ 2
    · obtain ⟨v1, b1, r1⟩ := rkX hR hX (kind := j) (by omega) vec bc
      obtain ⟨lf, r2⟩ := rkM hR hM (kind := j) (S := 2 ^ n - 1) (by omega) lef
      have hp := p2pos n
      rw [if_pos (e1.mpr h2), if_pos (by simp only [decide_eq_true_eq]; exact ⟨h1, fun h => by have := e2.mp h; omega⟩), r1, wordsM hR hM, bk, bk, li1, nI_sub (by omega), r2, bk]
      exact ⟨_, _, rfl, rfl, rfl, hE⟩
    · rw [if_neg (fun h => h2 (e1.mp h)), if_neg (by simp only [decide_eq_true_eq]; exact fun h => h.2 (e2.mpr (by omega))), fX2a, fX3a, bk, bk]
      exact ⟨_, _, rfl, rfl, rfl, hE.up (by decide)⟩
/-- the number of codewords -/
def nc (n k : Nat) (w c : Nat → Nat) : Nat := cn (cw k w c) (2 ^ n)
theorem nc_eq (hR : RS n k w c) : nc n k w c = 2 ^ (n - rC k w c (2 ^ n - 1)) ∧ rC k w c (2 ^ n - 1) ≤ n := by
  have h := rC_rk hR (2 ^ n - 1)
  have hle := h.le
  have h1 : cn (fun x => kr w c 1 (2 ^ n - 1) x k) (2 ^ n) * 2 ^ rC k w c (2 ^ n - 1) = 2 ^ n := h
  have e : nc n k w c = cn (fun x => kr w c 1 (2 ^ n - 1) x k) (2 ^ n) := cn_congr (fun x _ => cw_kr hR x)
  rw [← e] at h1
  refine ⟨?_, hle⟩
  have h2 : 2 ^ n = 2 ^ (n - rC k w c (2 ^ n - 1)) * 2 ^ rC k w c (2 ^ n - 1) := by rw [← Nat.pow_add]; congr 1; omega
  exact Nat.eq_of_mul_eq_mul_right (Nat.two_pow_pos _) (h1.trans h2)
theorem codeX (hR : RS n k w c) (hX : StX len sz words checks n k w c) (vec : Nat → Int32) (bc : Int32) : ∃ v b, fX2_codewords len sz words checks vec bc = some (nI (nc n k w c), v, b) := by
  obtain ⟨v1, b1, r1⟩ := rkX hR hX (kind := 1) (by decide) vec bc
  obtain ⟨h1, h2⟩ := nc_eq hR
  have hn := hR.2.1
  show ∃ v b, FX2_codewords_0 len sz words checks vec bc = _
  unfold FX2_codewords_0
  rw [li1, r1, bk, hX.1]
  refine ⟨v1, b1, ?_⟩
  show some (nI 1 <<< ((nI n - nI (rC k w c (2 ^ n - 1))) &&& 31), v1, b1) = _
  rw [nI_sub h2, sh1 _ (by omega), h1]
theorem codeM (hR : RS n k w c) (hM : StM now n k w c) (msg : Nat → Int32) : ∃ g, fX3_codewordMany now msg = some (nI (nc n k w c), g) := by
  have hp := hR.p8
  obtain ⟨g, hg, hgv⟩ := laysM hR hM msg
  show ∃ g, FX3_codewordMany_0 now msg = _
  unfold FX3_codewordMany_0
  rw [hg, bk]
  refine ⟨g, ?_⟩
  refine upF (fun q x => fX3_codewordMany_8 now q g (nI (cn (cw k w c) x)) (nI x)) _ (2 ^ n) ?_ ?_ 300 0 (Nat.zero_le _) (by omega)
  · intro x q hx
    left
    show FX3_codewordMany_8 now (fX3_codewordMany_8 now q) g (nI (cn (cw k w c) x)) (nI x) = _
    unfold FX3_codewordMany_8 FX3_codewordMany_32
    simp (disch := omega) only [wordsM hR hM, bk, nI_leI, if_neg (Nat.not_le.mpr hx), rdA_ok, hgv x hx, li0, nI_1, cn_s]
    cases hc : cw k w c x with
    | false => rw [if_pos (by rw [mo_m1 hR]; exact hc), nI_add]; rfl
    | true => rw [if_neg (by rw [mo_m1 hR]; simp [hc])]; rfl
  · intro q
    show FX3_codewordMany_8 now (fX3_codewordMany_8 now q) g (nI (cn (cw k w c) (2 ^ n))) (nI (2 ^ n)) = _
    unfold FX3_codewordMany_8
    simp (disch := omega) only [wordsM hR hM, bk, nI_leI, if_pos (Nat.le_refl _)]
    rfl
theorem st_codewords (hR : RS n k w c) (hX : StX len sz words checks n k w c) (hM : StM now n k w c) : ∃ vX vM, fX2_codewords len sz words checks vec bc = some vX ∧ fX3_codewords now msg = some vM ∧ vX.1 = vM.1 := by
  obtain ⟨v, b, h1⟩ := codeX hR hX vec bc
  obtain ⟨g, h2⟩ := codeM hR hM msg
  have h3 : fX3_codewords now msg = some (nI (nc n k w c), g) := by
    show FX3_codewords_0 now msg = _
    unfold FX3_codewords_0
    rw [h2, bk]
  exact ⟨_, _, h1, h3, rfl⟩
theorem msgsX (hR : RS n k w c) (hX : StX len sz words checks n k w c) (vec : Nat → Int32) (bc : Int32) : ∃ v b, fX2_messages len sz words checks vec bc = some (nI (2 ^ hb k w c (2 ^ n - 1)), v, b) := by
  obtain ⟨v1, b1, r1⟩ := hidX hR hX (2 ^ n - 1) vec bc
  have h6 := hb_6 hR (2 ^ n - 1)
  show ∃ v b, FX2_messages_0 len sz words checks vec bc = _
  unfold FX2_messages_0
  rw [allX hR hX, bk, r1, bk]
  refine ⟨v1, b1, ?_⟩
  show some ((1 : Int32) <<< (nI (hb k w c (2 ^ n - 1)) &&& 31), v1, b1) = _
  rw [sh1' _ (by omega)]
theorem msgsM (hR : RS n k w c) (hM : StM now n k w c) (msg met : Nat → Int32) : ∃ g f, fX3_meets now msg met 0 0 = some (nI (2 ^ hb k w c (2 ^ n - 1)), g, f) := by
  obtain ⟨g, f, h1, h2, h3⟩ := meetsM hR hM msg met (S := 0) (v := 0) (p2pos n) (p2pos n)
  refine ⟨g, f, ?_⟩
  rw [pm0 hR] at h1
  exact h1
theorem st_messages (hR : RS n k w c) (hX : StX len sz words checks n k w c) (hM : StM now n k w c) : ∃ vX vM, fX2_messages len sz words checks vec bc = some vX ∧ fX3_messages now msg met = some vM ∧ vX.1 = vM.1 := by
  obtain ⟨v, b, h1⟩ := msgsX hR hX vec bc
  obtain ⟨g, f, h2⟩ := msgsM hR hM msg met
  have h3 : fX3_messages now msg met = some (nI (2 ^ hb k w c (2 ^ n - 1)), g, f) := by
    show FX3_messages_0 now msg met = _
    unfold FX3_messages_0
    rw [h2, bk]
  exact ⟨_, _, h1, h3, rfl⟩
theorem leakX (hR : RS n k w c) (hX : StX len sz words checks n k w c) {S : Nat} (hS : S < 2 ^ n) (vec : Nat → Int32) (bc : Int32) : ∃ v b, fX2_leakedBits len sz words checks vec bc (nI S) = some (nI (lk n k w c S), v, b) := by
  have hp := hR.p8
  have hn := hR.2.1
  obtain ⟨v1, b1, r1⟩ := hidX hR hX (2 ^ n - 1) vec bc
  obtain ⟨v2, b2, r2⟩ := hidX hR hX (cpl n S) v1 b1
  show ∃ v b, FX2_leakedBits_0 len sz words checks vec bc (nI S) = _
  unfold FX2_leakedBits_0
  rw [allX hR hX, bk, r1, bk, bk, cpl_eq n (by omega) S (by omega) hS]
  dsimp only
  rw [r2, bk]
  refine ⟨v2, b2, ?_⟩
  show some (nI (hb k w c (2 ^ n - 1)) - nI (hb k w c (cpl n S)), v2, b2) = _
  rw [nI_sub (hb_le hR _)]
  rfl
theorem leakM (hR : RS n k w c) (hM : StM now n k w c) {S : Nat} (hS : S < 2 ^ n) (lef : Nat → Int32) : ∃ lf, fX3_leakageOf now lef (nI S) = some (nI (lk n k w c S), lf) := by
  have hp := hR.p8
  have hp0 := p2pos n
  have hn := hR.2.1
  have lostM : ∀ kind, kind < 3 → ∀ lef, ∃ lf, fX3_lost now lef (nI kind) (nI S) = some (nI (rK k w c kind (2 ^ n - 1)) - nI (rK k w c kind (cpl n S)), lf) := by
    intro kind hk lef
    obtain ⟨l1, r1⟩ := rkM hR hM (kind := kind) (S := 2 ^ n - 1) hk lef
    obtain ⟨l2, r2⟩ := rkM hR hM (kind := kind) (S := cpl n S) hk l1
    refine ⟨l2, ?_⟩
    show FX3_lost_0 now lef (nI kind) (nI S) = _
    unfold FX3_lost_0
    rw [wordsM hR hM, bk, li1, nI_sub (by omega), r1, bk, show (-nI 1 : Int32) = -1 from rfl, cpl_eq n (by omega) S (by omega) hS]
    dsimp only
    rw [r2, bk]
  obtain ⟨l1, r1⟩ := lostM 2 (by decide) lef
  obtain ⟨l2, r2⟩ := lostM 1 (by decide) l1
  refine ⟨l2, ?_⟩
  show FX3_leakageOf_0 now lef (nI S) = _
  unfold FX3_leakageOf_0
  rw [show (2 : Int32) = nI 2 from rfl, r1, bk]
  dsimp only
  rw [show (1 : Int32) = nI 1 from rfl, r2, bk]
  show some ((nI (rA k w c (2 ^ n - 1)) - nI (rA k w c (cpl n S))) - (nI (rC k w c (2 ^ n - 1)) - nI (rC k w c (cpl n S))), l2) = _
  rw [sub4, nI_sub (rC_le k w c _), nI_sub (rC_le k w c _)]
  show some (nI (hb k w c (2 ^ n - 1)) - nI (hb k w c (cpl n S)), l2) = _
  rw [nI_sub (hb_le hR _)]
  rfl
theorem st_leakage (hR : RS n k w c) (hX : StX len sz words checks n k w c) (hM : StM now n k w c) (hE : EE err errM) (x : Int32) : ∃ vX vM, fX2_leakage len sz words checks err vec bc x = some vX ∧ fX3_leakage now errM lef x = some vM ∧ vX.1 = vM.1 ∧ EE vX.2.1 vM.2.1 := by
  show ∃ vX vM, FX2_leakage_0 len sz words checks err vec bc x = some vX ∧ FX3_leakage_0 now errM lef x = some vM ∧ vX.1 = vM.1 ∧ EE vX.2.1 vM.2.1
  unfold FX2_leakage_0 FX3_leakage_0 FX3_leakage_22
  rw [isWordX hR hX, isWordM hR hM, bk, bk, ifb, ifb]
  cases h : isW n x with
  | false =>
    simp only [Bool.false_eq_true, ↓reduceIte, fX2a, fX3a, bk]
    exact ⟨_, _, rfl, rfl, rfl, hE.up (by decide)⟩
  | true =>
    obtain ⟨S, hS, rfl⟩ := isW_of hR.2.1 h
    obtain ⟨v, b, r1⟩ := leakX hR hX hS vec bc
    obtain ⟨lf, r2⟩ := leakM hR hM hS lef
    simp only [↓reduceIte, r1, r2, bk]
    exact ⟨_, _, rfl, rfl, rfl, hE⟩
/-- b is the first set of s positions, among those below N, that leaks most -/
def isB (n k : Nat) (w c : Nat → Nat) (N s b : Nat) : Prop := b < N ∧ pop b = s ∧ (∀ y, y < N → pop y = s → lk n k w c y ≤ lk n k w c b) ∧ ∀ y, y < b → pop y = s → lk n k w c y < lk n k w c b
theorem isB_uniq {N s a b : Nat} (h1 : isB n k w c N s a) (h2 : isB n k w c N s b) : a = b := by
  rcases Nat.lt_trichotomy a b with h | h | h
  · have := h2.2.2.2 a h h1.2.1
    have := h1.2.2.1 b h2.1 h2.2.1
    omega
  · exact h
  · have := h1.2.2.2 b h h2.2.1
    have := h2.2.2.1 a h1.1 h1.2.1
    omega
/-- one set more -/
theorem isB_keep {N s b : Nat} (h : isB n k w c N s b) (hx : pop N = s → lk n k w c N ≤ lk n k w c b) : isB n k w c (N + 1) s b := by
  refine ⟨by have := h.1; omega, h.2.1, fun y hy hp => ?_, h.2.2.2⟩
  rcases Nat.lt_or_ge y N with h1 | h1
  · exact h.2.2.1 y h1 hp
  · have : y = N := by omega
    subst this; exact hx hp
theorem isB_new {N s : Nat} (hp : pop N = s) (h : ∀ y, y < N → pop y = s → lk n k w c y < lk n k w c N) : isB n k w c (N + 1) s N := by
  refine ⟨by omega, hp, fun y hy hq => ?_, h⟩
  rcases Nat.lt_or_ge y N with h1 | h1
  · exact Nat.le_of_lt (h y h1 hq)
  · have : y = N := by omega
    subst this; exact Nat.le_refl _
theorem pop_pred : ∀ s, s < 9 → pop (2 ^ s - 1) = s := by decide +kernel
theorem pop_le_n : ∀ n, n < 9 → ∀ y, y < 256 → y < 2 ^ n → pop y ≤ n := by decide +kernel
theorem worstM (hR : RS n k w c) (hM : StM now n k w c) {s : Nat} (hs : s ≤ n) (lef : Nat → Int32) : ∃ b lf, fX3_worstOf now lef (nI s) = some (nI b, lf) ∧ isB n k w c (2 ^ n) s b := by
  have hp := hR.p8
  have hp0 := p2pos n
  have hn := hR.2.1
  show ∃ b lf, fX3_worstOf_7 now 300 lef (nI s) (-1) (-1) 0 = _ ∧ _
  refine upR (fun q (t : (Nat → Int32) × Int32 × Int32 × Int32) => fX3_worstOf_7 now q t.1 (nI s) t.2.1 t.2.2.1 t.2.2.2) (fun x t => t.2.2.2 = nI x ∧ ((t.2.1 = -1 ∧ t.2.2.1 = -1 ∧ ∀ y, y < x → ¬ pop y = s) ∨ ∃ b, t.2.1 = nI b ∧ t.2.2.1 = nI (lk n k w c b) ∧ isB n k w c x s b)) (fun o => ∃ b lf, o = some (nI b, lf) ∧ isB n k w c (2 ^ n) s b) (2 ^ n) ?_ ?_ 300 0 (lef, -1, -1, 0) ⟨rfl, Or.inl ⟨rfl, rfl, fun y h => absurd h (Nat.not_lt_zero y)⟩⟩ (by omega) (by omega)
  · intro x t q hx hI
    obtain ⟨lf, x2, x3, x4⟩ := t
    obtain ⟨e1, hI⟩ := hI
    dsimp only at e1 hI
    subst e1
    have hpp := pop_le x
    left
    show ∃ s', _ ∧ FX3_worstOf_7 now (fX3_worstOf_7 now q) lf (nI s) x2 x3 (nI x) = _
    unfold FX3_worstOf_7 FX3_worstOf_35 FX3_worstOf_49 FX3_worstOf_62
    simp (disch := omega) only [wordsM hR hM, bk, nI_leI, if_neg (Nat.not_le.mpr hx), ones_ok x (by omega), nI_eq, nI_1]
    by_cases hq : pop x = s
    · rw [if_pos hq]
      obtain ⟨lf', r⟩ := leakM hR hM hx lf
      have h6 := lk_6 hR x
      rw [r, bk]
      dsimp only
      rcases hI with ⟨a1, a2, a3⟩ | ⟨b, a1, a2, a3⟩
      · subst a1; subst a2
        have hn1 : ¬ nI (lk n k w c x) ≤ -1 := by
          rw [Int32.le_iff_toInt_le, nI_toInt (by omega), show (-1 : Int32).toInt = -1 from by decide]; omega
        rw [if_neg hn1, if_neg hn1]
        exact ⟨(lf', nI x, nI (lk n k w c x), nI (x + 1)), ⟨rfl, Or.inr ⟨x, rfl, rfl, isB_new hq (fun y hy hpy => absurd hpy (a3 y hy))⟩⟩, rfl⟩
      · subst a1; subst a2
        have h6b := lk_6 hR b
        simp (disch := omega) only [nI_leI]
        by_cases hle : lk n k w c x ≤ lk n k w c b
        · rw [if_pos hle, if_pos hle]
          exact ⟨(lf', nI b, nI (lk n k w c b), nI (x + 1)), ⟨rfl, Or.inr ⟨b, rfl, rfl, isB_keep a3 (fun _ => hle)⟩⟩, rfl⟩
        · rw [if_neg hle, if_neg hle]
          exact ⟨(lf', nI x, nI (lk n k w c x), nI (x + 1)), ⟨rfl, Or.inr ⟨x, rfl, rfl, isB_new hq (fun y hy hpy => by have := a3.2.2.1 y hy hpy; omega)⟩⟩, rfl⟩
    · rw [if_neg hq]
      have hle : (-1 : Int32) ≤ x3 := by
        rcases hI with ⟨a1, a2, a3⟩ | ⟨b, a1, a2, a3⟩
        · rw [a2]; decide
        · have h6b := lk_6 hR b
          rw [a2, Int32.le_iff_toInt_le, nI_toInt (by omega), show (-1 : Int32).toInt = -1 from by decide]; omega
      rw [if_pos hle, if_pos hle]
      refine ⟨(lf, x2, x3, nI (x + 1)), ⟨rfl, ?_⟩, rfl⟩
      rcases hI with ⟨a1, a2, a3⟩ | ⟨b, a1, a2, a3⟩
      · exact Or.inl ⟨a1, a2, fun y hy => by
          rcases Nat.lt_or_ge y x with h1 | h1
          · exact a3 y h1
          · have : y = x := by omega
            subst this; exact hq⟩
      · exact Or.inr ⟨b, a1, a2, isB_keep a3 (fun h => absurd h hq)⟩
  · intro t q hI
    obtain ⟨lf, x2, x3, x4⟩ := t
    obtain ⟨e1, hI⟩ := hI
    dsimp only at e1 hI
    subst e1
    show ∃ b lf', FX3_worstOf_7 now (fX3_worstOf_7 now q) lf (nI s) x2 x3 (nI (2 ^ n)) = _ ∧ _
    unfold FX3_worstOf_7
    simp (disch := omega) only [wordsM hR hM, bk, nI_leI, if_pos (Nat.le_refl _)]
    rcases hI with ⟨a1, a2, a3⟩ | ⟨b, a1, a2, a3⟩
    · have h1 : 2 ^ s - 1 < 2 ^ n := by
        have := Nat.pow_le_pow_right (n := 2) (by decide) hs
        have := p2pos s
        omega
      exact absurd (pop_pred s (by omega)) (a3 _ h1)
    · exact ⟨b, lf, by rw [a1], a3⟩
theorem worstX (hR : RS n k w c) (hX : StX len sz words checks n k w c) {s : Nat} (hs : s ≤ n) (vec : Nat → Int32) (bc : Int32) : ∃ b v d, fX2_leakiestSet len sz words checks vec bc (nI s) = some (nI b, v, d) ∧ isB n k w c (2 ^ n) s b := by
  have hp := hR.p8
  have hp0 := p2pos n
  have hn := hR.2.1
  show ∃ b v d, FX2_leakiestSet_0 len sz words checks vec bc (nI s) = _ ∧ _
  unfold FX2_leakiestSet_0
  rw [allX hR hX, bk]
  refine upR (fun q (t : (Nat → Int32) × Int32 × Int32 × Int32 × Int32) => fX2_leakiestSet_14 len sz words checks q t.1 t.2.1 (nI s) (nI (2 ^ n - 1)) t.2.2.1 t.2.2.2.1 t.2.2.2.2) (fun x t => t.2.2.2.2 = nI x ∧ ((t.2.2.2.1 = 7 ∧ ∀ y, y < x → ¬ pop y = s) ∨ ∃ b, t.2.2.1 = nI b ∧ t.2.2.2.1 = nI (hb k w c (cpl n b)) ∧ isB n k w c x s b)) (fun o => ∃ b v d, o = some (nI b, v, d) ∧ isB n k w c (2 ^ n) s b) (2 ^ n) ?_ ?_ 300 0 (vec, bc, 0, 7, 0) ⟨rfl, Or.inl ⟨rfl, fun y h => absurd h (Nat.not_lt_zero y)⟩⟩ (by omega) (by omega)
  · intro x t q hx hI
    obtain ⟨vc, b0, x3, x4, x5⟩ := t
    obtain ⟨e1, hI⟩ := hI
    dsimp only at e1 hI
    subst e1
    have hpp := pop_le x
    left
    show ∃ s', _ ∧ FX2_leakiestSet_14 len sz words checks (fX2_leakiestSet_14 len sz words checks q) vc b0 (nI s) (nI (2 ^ n - 1)) x3 x4 (nI x) = _
    unfold FX2_leakiestSet_14 FX2_leakiestSet_55
    simp (disch := omega) only [nI_ltI, if_neg (show ¬ 2 ^ n - 1 < x by omega), bitc_ok x (by omega), bk, nI_eq, nI_1]
    by_cases hq : pop x = s
    · rw [if_pos hq, cpl_eq n (by omega) x (by omega) hx]
      obtain ⟨v1, d1, r⟩ := hidX hR hX (cpl n x) vc b0
      have r : fX2_hiddenBits sz words checks vc b0 (nI (cpl n x)) = some (nI (hb k w c (cpl n x)), v1, d1) := r
      have h6 := hb_6 hR (cpl n x)
      have hle := hb_le hR (cpl n x)
      rw [r, bk]
      dsimp only
      rcases hI with ⟨a2, a3⟩ | ⟨b, a1, a2, a3⟩
      · subst a2
        rw [if_neg (show ¬ (7 : Int32) ≤ nI _ from nI_ge (b := 7) (by omega) (by decide))]
        exact ⟨(v1, d1, nI x, nI (hb k w c (cpl n x)), nI (x + 1)), ⟨rfl, Or.inr ⟨x, rfl, rfl, isB_new hq (fun y hy hpy => absurd hpy (a3 y hy))⟩⟩, rfl⟩
      · subst a1; subst a2
        have h6b := hb_6 hR (cpl n b)
        have hleb := hb_le hR (cpl n b)
        simp (disch := omega) only [nI_leI]
        by_cases hlt : hb k w c (cpl n b) ≤ hb k w c (cpl n x)
        · rw [if_pos hlt]
          exact ⟨(v1, d1, nI b, nI (hb k w c (cpl n b)), nI (x + 1)), ⟨rfl, Or.inr ⟨b, rfl, rfl, isB_keep a3 (fun _ => by unfold lk; omega)⟩⟩, rfl⟩
        · rw [if_neg hlt]
          exact ⟨(v1, d1, nI x, nI (hb k w c (cpl n x)), nI (x + 1)), ⟨rfl, Or.inr ⟨x, rfl, rfl, isB_new hq (fun y hy hpy => by have := a3.2.2.1 y hy hpy; unfold lk at *; omega)⟩⟩, rfl⟩
    · rw [if_neg hq]
      refine ⟨(vc, b0, x3, x4, nI (x + 1)), ⟨rfl, ?_⟩, rfl⟩
      rcases hI with ⟨a2, a3⟩ | ⟨b, a1, a2, a3⟩
      · exact Or.inl ⟨a2, fun y hy => by
          rcases Nat.lt_or_ge y x with h1 | h1
          · exact a3 y h1
          · have : y = x := by omega
            subst this; exact hq⟩
      · exact Or.inr ⟨b, a1, a2, isB_keep a3 (fun h => absurd h hq)⟩
  · intro t q hI
    obtain ⟨vc, b0, x3, x4, x5⟩ := t
    obtain ⟨e1, hI⟩ := hI
    dsimp only at e1 hI
    subst e1
    show ∃ b v d, FX2_leakiestSet_14 len sz words checks (fX2_leakiestSet_14 len sz words checks q) vc b0 (nI s) (nI (2 ^ n - 1)) x3 x4 (nI (2 ^ n)) = _ ∧ _
    unfold FX2_leakiestSet_14
    simp (disch := omega) only [nI_ltI, if_pos (show 2 ^ n - 1 < 2 ^ n by omega)]
    rcases hI with ⟨a2, a3⟩ | ⟨b, a1, a2, a3⟩
    · have h1 : 2 ^ s - 1 < 2 ^ n := by
        have := Nat.pow_le_pow_right (n := 2) (by decide) hs
        have := p2pos s
        omega
      exact absurd (pop_pred s (by omega)) (a3 _ h1)
    · exact ⟨b, vc, b0, by rw [a1], a3⟩
end LK
