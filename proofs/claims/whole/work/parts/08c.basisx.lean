/-! ===== the class's ranks ===== -/
def BI (vec : Nat → Int32) (bc : Int32) (B : List Nat) : Prop := bc = nI B.length ∧ ∀ (i : Nat) (h : i < B.length), vec i = nI B[i]
theorem mnr_nI {r b : Nat} (hr : r < 256) (hb : b < 256) : (if (nI r ^^^ nI b) < nI r then (nI r ^^^ nI b) else nI r) = nI (mnr r b) := by
  have := xor_lt8 hr hb
  unfold mnr
  simp (disch := omega) only [nx_xor, nI_ltI]
  split <;> rfl
theorem extX {n : Nat} (hn : n ≤ 8) {B : List Nat} {vec : Nat → Int32} {bc : Int32} {r : Nat} (hB : BS n B) (hI : BI vec bc B) (hl : B.length < 6) (hr : r < 2 ^ n) :
    ∃ vec', fX0_extend vec bc (nI r) = some (b2 (decide (red B r ≠ 0)), vec', nI (ext B r).length) ∧ BI vec' (nI (ext B r).length) (ext B r) := by
  have hp := p2le hn
  obtain ⟨rfl, hv⟩ := hI
  show ∃ vec', fX0_extend_4 300 vec (nI B.length) (nI r) (nI 0) = _ ∧ _
  refine upR (fun q (s : Int32 × Int32) => fX0_extend_4 q vec (nI B.length) s.1 s.2) (fun i s => s.2 = nI i ∧ ∃ r', r' < 2 ^ n ∧ s.1 = nI r' ∧ (B.drop i).foldl mnr r' = red B r) (fun o => ∃ vec', o = some (b2 (decide (red B r ≠ 0)), vec', nI (ext B r).length) ∧ BI vec' (nI (ext B r).length) (ext B r)) B.length ?_ ?_ 300 0 (nI r, nI 0) ⟨rfl, r, hr, rfl, rfl⟩ (by omega) (by omega)
  · intro i s q hi hI
    obtain ⟨x2, x3⟩ := s
    obtain ⟨e1, r', h1, e2, h2⟩ := hI
    dsimp only at e1 e2
    subst e1; subst e2
    have hb : B[i] < 2 ^ n := hB.2 _ (List.getElem_mem hi)
    left
    refine ⟨(nI (mnr r' B[i]), nI (i + 1)), ⟨rfl, mnr r' B[i], mnr_lt h1 hb, rfl, ?_⟩, ?_⟩
    · rw [List.drop_eq_getElem_cons hi] at h2
      exact h2
    · show FX0_extend_4 (fX0_extend_4 q) vec (nI B.length) (nI r') (nI i) = _
      unfold FX0_extend_4
      simp (disch := omega) only [nI_leI, if_neg (Nat.not_le.mpr hi), rdA_ok, hv i hi, nI_1, mnr_nI]
  · intro s q hI
    obtain ⟨x2, x3⟩ := s
    obtain ⟨e1, r', h1, e2, h2⟩ := hI
    dsimp only at e1 e2
    subst e1; subst e2
    rw [List.drop_length] at h2
    have h2 : r' = red B r := h2
    subst h2
    show ∃ vec', FX0_extend_4 (fX0_extend_4 q) vec (nI B.length) (nI (red B r)) (nI B.length) = _ ∧ _
    unfold FX0_extend_4 FX0_extend_44
    simp (disch := omega) only [nI_leI, if_pos (Nat.le_refl _), li0, nI_eq, li6, nI_ltI, if_pos hl, wrA_ok, nI_1, ckB_n0, ckB_1]
    unfold ext
    by_cases h0 : red B r = 0
    · rw [if_pos h0, if_pos h0]
      exact ⟨vec, by simp [h0, b2]; rfl, rfl, hv⟩
    · rw [if_neg h0, if_neg h0]
      refine ⟨upd vec B.length (nI (red B r)), by simp [h0, b2], by simp, fun i hi => ?_⟩
      by_cases e : i = B.length
      · subst e
        rw [up_eq]
        simp
      · have hi2 : i < B.length := by simp at hi; omega
        rw [up_ne e, hv i hi2, List.getElem_append_left hi2]
section BX
variable {len sz : Int32} {words checks : Nat → Int32} {n k : Nat} {w c : Nat → Nat} {vec err : Nat → Int32} {bc : Int32}
theorem ebX (hR : RS n k w c) (hX : StX len sz words checks n k w c) {B : List Nat} {kind S : Nat} (hk : kind < 2) (hB : BS n B) (hI : BI vec bc B) (H : ∀ i, i < k → c i = kind → (eb w c kind S B i).length < 6) :
    ∃ vec', fX2_extendBasis sz words checks vec bc (nI kind) (nI S) = some (nI ((eb w c kind S B k).length - B.length), vec', nI (eb w c kind S B k).length) ∧ BI vec' (nI (eb w c kind S B k).length) (eb w c kind S B k) := by
  obtain ⟨m0, m1, mw, mc⟩ := hX
  have hk6 := hR.2.2.1
  show ∃ vec', fX2_extendBasis_5 sz words checks 300 vec bc (nI kind) (nI S) 0 0 = _ ∧ _
  refine upR (fun q (s : (Nat → Int32) × Int32 × Int32 × Int32) => fX2_extendBasis_5 sz words checks q s.1 s.2.1 (nI kind) (nI S) s.2.2.1 s.2.2.2) (fun i s => s.2.2.2 = nI i ∧ s.2.2.1 = nI ((eb w c kind S B i).length - B.length) ∧ BI s.1 s.2.1 (eb w c kind S B i)) (fun o => ∃ vec', o = some (nI ((eb w c kind S B k).length - B.length), vec', nI (eb w c kind S B k).length) ∧ BI vec' (nI (eb w c kind S B k).length) (eb w c kind S B k)) k ?_ ?_ 300 0 (vec, bc, 0, 0) ⟨rfl, by show (0 : Int32) = nI (B.length - B.length); rw [Nat.sub_self]; rfl, hI⟩ (by omega) (by omega)
  · intro i s q hi hI
    obtain ⟨vc, b, x3, x4⟩ := s
    obtain ⟨e1, e2, hI⟩ := hI
    dsimp only at e1 e2 hI
    subst e1; subst e2
    have hc := hR.2.2.2.2 i hi
    have hw := (hR.2.2.2.1 i hi).2
    have hBi := eb_BS hR.2.1 (c := c) (kind := kind) (S := S) hB i (fun j hj => (hR.2.2.2.1 j (by omega)).2)
    left
    show ∃ s', _ ∧ FX2_extendBasis_5 sz words checks (fX2_extendBasis_5 sz words checks q) vc b (nI kind) (nI S) (nI ((eb w c kind S B i).length - B.length)) (nI i) = _
    unfold FX2_extendBasis_5 FX2_extendBasis_56
    simp (disch := omega) only [m1, nI_leI, if_neg (Nat.not_le.mpr hi), rdA_ok, mc i hi, mw i hi, nI_eq, nx_and, nI_1]
    rw [eb_s]
    by_cases hq : c i = kind
    · rw [if_pos hq, if_pos hq]
      obtain ⟨v', h1, h2⟩ := extX hR.2.1 (r := w i &&& S) hBi hI (H i hi hq) (and_ltN hw)
      rw [h1, bk]
      simp only [ifb]
      have hle := (eb_len w c kind S B i).1
      by_cases h0 : red (eb w c kind S B i) (w i &&& S) = 0
      · rw [if_neg (by simp [h0])]
        have he : ext (eb w c kind S B i) (w i &&& S) = eb w c kind S B i := if_pos h0
        exact ⟨(v', nI (ext (eb w c kind S B i) (w i &&& S)).length, nI ((eb w c kind S B i).length - B.length), nI (i + 1)), ⟨rfl, by rw [he], h2⟩, rfl⟩
      · rw [if_pos (by simp [h0])]
        have he : (ext (eb w c kind S B i) (w i &&& S)).length = (eb w c kind S B i).length + 1 := by
          unfold ext; rw [if_neg h0]; simp
        refine ⟨(v', nI (ext (eb w c kind S B i) (w i &&& S)).length, nI ((eb w c kind S B i).length - B.length + 1), nI (i + 1)), ⟨rfl, ?_, h2⟩, rfl⟩
        show nI _ = nI _
        rw [he]
        congr 1
        omega
    · rw [if_neg hq, if_neg hq]
      exact ⟨(vc, b, _, nI (i + 1)), ⟨rfl, rfl, hI⟩, rfl⟩
  · intro s q hI
    obtain ⟨vc, b, x3, x4⟩ := s
    obtain ⟨e1, e2, hI⟩ := hI
    dsimp only at e1 e2 hI
    subst e1; subst e2
    refine ⟨vc, ?_, ?_⟩
    · show FX2_extendBasis_5 sz words checks (fX2_extendBasis_5 sz words checks q) vc b (nI kind) (nI S) (nI _) (nI k) = _
      unfold FX2_extendBasis_5
      simp (disch := omega) only [m1, nI_leI, if_pos (Nat.le_refl _)]
      rw [hI.1]
    · have := hI.1
      subst this
      exact hI
/-- never more than five vectors ahead of a row -/
theorem eb_room (hR : RS n k w c) {a b S i : Nat} (hab : a < 2 ∧ b < 2 ∧ a ≠ b) (hi : i < k) (hc : c i = b) : (eb w c b S (eb w c a S [] k) i).length < 6 ∧ (eb w c b S [] i).length < 6 := by
  have h1 := (eb_len w c b S (eb w c a S [] k) i).2
  have h2 := (eb_len w c a S [] k).2
  have h3 := nk_01 c k hR.2.2.2.2
  have h4 : ([] : List Nat).length = 0 := rfl
  have h5 := nk_lt hc k hi
  have h6 := hR.2.2.1
  have h7 := (eb_len w c b S [] i).2
  rcases (show (a = 0 ∧ b = 1) ∨ (a = 1 ∧ b = 0) by omega) with ⟨e1, e2⟩ | ⟨e1, e2⟩ <;> subst e1 <;> subst e2 <;> omega
theorem clearX : fX0_clear bc = some (nI 0) := rfl
theorem BI_nil (vec : Nat → Int32) : BI vec (nI 0) [] := ⟨rfl, fun i h => absurd h (Nat.not_lt_zero i)⟩
theorem hidX (hR : RS n k w c) (hX : StX len sz words checks n k w c) (S : Nat) (vec : Nat → Int32) (bc : Int32) : ∃ vec' bc', fX2_hiddenBits sz words checks vec bc (nI S) = some (nI (rA k w c S - rC k w c S), vec', bc') := by
  obtain ⟨v1, h1, b1⟩ := ebX hR hX (kind := 1) (S := S) (by decide) (BS_nil n) (BI_nil vec) (fun i hi hc => (eb_room hR (a := 0) (by decide) hi hc).2)
  have hB1 := eb_BS hR.2.1 (c := c) (kind := 1) (S := S) (BS_nil n) k (fun j hj => (hR.2.2.2.1 j hj).2)
  obtain ⟨v2, h2, b2⟩ := ebX hR hX (kind := 0) (S := S) (by decide) hB1 b1 (fun i hi hc => (eb_room hR (a := 1) (by decide) hi hc).1)
  show ∃ vec' bc', FX2_hiddenBits_0 sz words checks vec bc (nI S) = _
  unfold FX2_hiddenBits_0
  rw [clearX, bk, show (1 : Int32) = nI 1 from rfl, h1, bk]
  dsimp only
  rw [show (0 : Int32) = nI 0 from rfl, h2, bk]
  exact ⟨_, _, rfl⟩
/-- the rank of rows of a kind over all positions -/
def rK (k : Nat) (w c : Nat → Nat) (kind S : Nat) : Nat := if kind = 0 then rM k w c S else if kind = 1 then rC k w c S else rA k w c S
theorem rkX (hR : RS n k w c) (hX : StX len sz words checks n k w c) {kind : Nat} (hk : kind < 3) (vec : Nat → Int32) (bc : Int32) : ∃ vec' bc', fX2_rankOfKind len sz words checks vec bc (nI kind) = some (nI (rK k w c kind (2 ^ n - 1)), vec', bc') := by
  obtain ⟨v1, h1, b1⟩ := ebX hR hX (kind := 1) (S := 2 ^ n - 1) (by decide) (BS_nil n) (BI_nil vec) (fun i hi hc => (eb_room hR (a := 0) (by decide) hi hc).2)
  obtain ⟨v0, h0, b0⟩ := ebX hR hX (kind := 0) (S := 2 ^ n - 1) (by decide) (BS_nil n) (BI_nil vec) (fun i hi hc => (eb_room hR (a := 1) (by decide) hi hc).2)
  have hB0 := eb_BS hR.2.1 (c := c) (kind := 0) (S := 2 ^ n - 1) (BS_nil n) k (fun j hj => (hR.2.2.2.1 j hj).2)
  obtain ⟨v2, h2, b2⟩ := ebX hR hX (kind := 1) (S := 2 ^ n - 1) (by decide) hB0 b0 (fun i hi hc => (eb_room hR (a := 0) (by decide) hi hc).1)
  have hle := (eb_len w c 1 (2 ^ n - 1) (eb w c 0 (2 ^ n - 1) [] k) k).1
  show ∃ vec' bc', FX2_rankOfKind_0 len sz words checks vec bc (nI kind) = _
  unfold FX2_rankOfKind_0 FX2_rankOfKind_26 FX2_rankOfKind_42
  rw [clearX, bk]
  rcases (show kind = 0 ∨ kind = 1 ∨ kind = 2 by omega) with e | e | e <;> subst e
  · rw [if_neg (by decide), allX hR hX, bk, show (0 : Int32) = nI 0 from rfl, h0, bk, if_pos (by rfl)]
    refine ⟨v0, nI (eb w c 0 (2 ^ n - 1) [] k).length, ?_⟩
    show some (nI 0 + nI _, _, _) = _
    rw [nI_add, Nat.zero_add]
    rfl
  · rw [if_pos (by rfl), if_neg (by decide), allX hR hX, bk, show (1 : Int32) = nI 1 from rfl, h1, bk]
    refine ⟨v1, nI (eb w c 1 (2 ^ n - 1) [] k).length, ?_⟩
    show some ((0 : Int32) + nI _, _, _) = _
    rw [li0, nI_add, Nat.zero_add]
    rfl
  · rw [if_neg (by decide), allX hR hX, bk, show (0 : Int32) = nI 0 from rfl, h0, bk, if_neg (by decide), bk]
    dsimp only
    rw [show (1 : Int32) = nI 1 from rfl, h2, bk]
    refine ⟨v2, nI (eb w c 1 (2 ^ n - 1) (eb w c 0 (2 ^ n - 1) [] k) k).length, ?_⟩
    show some (nI 0 + nI _ + nI _, _, _) = _
    rw [nI_add, nI_add]
    show some (nI (0 + ((eb w c 0 (2 ^ n - 1) [] k).length - 0) + _), _, _) = some (nI (rA k w c (2 ^ n - 1)), _, _)
    rw [← rA2_rk hR, Nat.zero_add, Nat.sub_zero, Nat.add_sub_cancel' hle]
end BX
