/-! ===== the operations that change the state ===== -/
theorem rng {x : Int32} {a b : Nat} (ha : a ≤ b) (hb : b < 100) (h1 : ¬ x < nI a) (h2 : x ≤ nI b) : ∃ j, a ≤ j ∧ j ≤ b ∧ x = nI j := by
  have h0 : ¬ x < 0 := by
    rw [Int32.lt_iff_toInt_lt] at h1 ⊢
    rw [nI_toInt (by omega)] at h1
    have : (0 : Int32).toInt = 0 := by decide
    omega
  obtain ⟨j, hj, rfl⟩ := nI_of h0
  rw [nI_ltI hj (by omega)] at h1
  rw [nI_leI hj (by omega)] at h2
  exact ⟨j, by omega, h2, rfl⟩
theorem wi_t {x lo hi : Int32} (h1 : ¬ x < lo) (h2 : x ≤ hi) : decide (¬ x < lo ∧ ¬ hi < x) = true := by
  rw [decide_eq_true_eq]; exact ⟨h1, Int32.not_lt.mpr h2⟩
theorem wi_f1 {x lo hi : Int32} (h1 : x < lo) : decide (¬ x < lo ∧ ¬ hi < x) = false := by
  rw [decide_eq_false_iff_not]; exact fun h => h.1 h1
theorem wi_f2 {x lo hi : Int32} (h1 : ¬ x ≤ hi) : decide (¬ x < lo ∧ ¬ hi < x) = false := by
  rw [decide_eq_false_iff_not]; exact fun h => h.2 (Int32.not_le.mp h1)
/-- without row r -/
def dr (r : Nat) (f : Nat → Nat) (i : Nat) : Nat := if i < r then f i else f (i + 1)
theorem dr_l {r i : Nat} {f : Nat → Nat} (h : i < r) : dr r f i = f i := if_pos h
theorem dr_g {r i : Nat} {f : Nat → Nat} (h : r ≤ i) : dr r f i = f (i + 1) := if_neg (by omega)
theorem RS_dr {n k r : Nat} {w c : Nat → Nat} (hR : RS n k w c) (hr : r < k) : RS n (k - 1) (dr r w) (dr r c) := by
  obtain ⟨h1, h2, h3, h4, h5⟩ := hR
  refine ⟨h1, h2, by omega, fun i hi => ?_, fun i hi => ?_⟩
  · rcases Nat.lt_or_ge i r with h | h
    · rw [dr_l h]; exact h4 i (by omega)
    · rw [dr_g h]; exact h4 (i + 1) (by omega)
  · rcases Nat.lt_or_ge i r with h | h
    · rw [dr_l h]; exact h5 i (by omega)
    · rw [dr_g h]; exact h5 (i + 1) (by omega)
section OP
variable {now : Nat → Int32} {len sz : Int32} {words checks : Nat → Int32} {n k : Nat} {w c : Nat → Nat} {err errM past : Nat → Int32} {pm : Nat → Nat} {sl ss : Nat → Int32} {sw sc : Nat → Nat → Int32} {q : Nat} {cnt sv : Int32}
theorem putX {x : Nat} (hx : x < 6) (a b : Int32) : fX1_put words checks (nI x) a b = some (upd words x a, upd checks x (b &&& 1)) := by
  show FX1_put_0 words checks (nI x) a b = _
  unfold FX1_put_0 FX1_put_24
  rw [if_neg (nI_pos (by omega)), if_neg (show ¬ (6 : Int32) ≤ nI x from nI_ge (b := 6) hx (by decide)), wrA_ok hx (by decide), wrA_ok hx (by decide)]
theorem removesM (hk : k ≤ 6) (hM : StM now n k w c) {r : Nat} (hr : r < k) : ∃ now', fX3_removes now (nI r) = some now' ∧ StM now' n (k - 1) (dr r w) (dr r c) := by
  obtain ⟨m0, m1, mw, mc⟩ := hM
  show ∃ now', FX3_removes_0 now (nI r) = some now' ∧ _
  unfold FX3_removes_0
  rw [li1, rdA_ok (by decide) (by decide), m1, nI_sub (by omega), wrA_ok (by decide) (by decide)]
  refine upR (fun f (t : (Nat → Int32) × Int32) => fX3_removes_12 f t.1 t.2) (fun x t => t.2 = nI x ∧ r ≤ x ∧ t.1 0 = nI n ∧ t.1 1 = nI (k - 1) ∧ (∀ i, i < x → t.1 (2 + i) = nI (dr r w i) ∧ t.1 (8 + i) = nI (dr r c i)) ∧ ∀ i, x ≤ i → i < k → t.1 (2 + i) = nI (w i) ∧ t.1 (8 + i) = nI (c i)) (fun o => ∃ now', o = some now' ∧ StM now' n (k - 1) (dr r w) (dr r c)) (k - 1) ?_ ?_ 300 r (upd now 1 (nI (k - 1)), nI r) ⟨rfl, Nat.le_refl r, (show upd now 1 (nI (k - 1)) 0 = nI n from (up_ne (by decide)).trans m0), (show upd now 1 (nI (k - 1)) 1 = nI (k - 1) from up_eq _ _ _), fun i hi => ?_, fun i hi hi2 => ?_⟩ (by omega) (by omega)
  · intro x t f hx hI
    obtain ⟨x1, x2⟩ := t
    obtain ⟨e1, h0, h1, h2, h3, h4⟩ := hI
    dsimp only at e1 h1 h2 h3 h4
    subst e1
    have h5 := h4 (x + 1) (by omega) (by omega)
    left
    refine ⟨(upd (upd x1 (2 + x) (nI (w (x + 1)))) (8 + x) (nI (c (x + 1))), nI (x + 1)), ⟨rfl, by omega, ?_, ?_, fun i hi => ?_, fun i hi hi2 => ?_⟩, ?_⟩
    · exact (up_ne (by omega)).trans ((up_ne (by omega)).trans h1)
    · exact (up_ne (by omega)).trans ((up_ne (by omega)).trans h2)
    · show upd (upd x1 (2 + x) (nI (w (x + 1)))) (8 + x) (nI (c (x + 1))) (2 + i) = _ ∧ upd (upd x1 (2 + x) (nI (w (x + 1)))) (8 + x) (nI (c (x + 1))) (8 + i) = _
      by_cases e : i = x
      · subst e
        rw [up_ne (by omega), up_eq, up_eq, dr_g h0, dr_g h0]
        exact ⟨rfl, rfl⟩
      · rw [up_ne (by omega), up_ne (by omega), up_ne (by omega), up_ne (by omega)]
        exact h3 i (by omega)
    · show upd (upd x1 (2 + x) (nI (w (x + 1)))) (8 + x) (nI (c (x + 1))) (2 + i) = _ ∧ upd (upd x1 (2 + x) (nI (w (x + 1)))) (8 + x) (nI (c (x + 1))) (8 + i) = _
      rw [up_ne (by omega), up_ne (by omega), up_ne (by omega), up_ne (by omega)]
      exact h4 i (by omega) hi2
    · show FX3_removes_12 (fX3_removes_12 f) x1 (nI x) = _
      unfold FX3_removes_12
      have a1 : upd x1 (2 + x) (nI (w (x + 1))) (8 + x + 1) = nI (c (x + 1)) := (up_ne (by omega)).trans (by rw [show 8 + x + 1 = 8 + (x + 1) by omega]; exact h5.2)
      have a2 : x1 (2 + x + 1) = nI (w (x + 1)) := by rw [show 2 + x + 1 = 2 + (x + 1) by omega]; exact h5.1
      rw [li1, rdA_ok (by decide) (by decide), h2, if_neg (by rw [nI_leI (by omega) (by omega)]; omega), li2, nI_add, nI_add, rdA_ok (by omega) (by decide), a2, wrA_ok (by omega) (by decide), li8, nI_add, nI_add, rdA_ok (by omega) (by decide), a1, wrA_ok (by omega) (by decide), nI_add]
  · intro t f hI
    obtain ⟨x1, x2⟩ := t
    obtain ⟨e1, h0, h1, h2, h3, h4⟩ := hI
    dsimp only at e1 h1 h2 h3 h4
    subst e1
    refine ⟨x1, ?_, h1, h2, fun i hi => (h3 i hi).1, fun i hi => (h3 i hi).2⟩
    show FX3_removes_12 (fX3_removes_12 f) x1 (nI (k - 1)) = _
    unfold FX3_removes_12
    rw [li1, rdA_ok (by decide) (by decide), h2, if_pos (by rw [nI_leI (by omega) (by omega)]; omega)]
  · show upd now 1 (nI (k - 1)) (2 + i) = _ ∧ upd now 1 (nI (k - 1)) (8 + i) = _
    rw [up_ne (by omega), up_ne (by omega), dr_l hi, dr_l hi]
    exact ⟨mw i (by omega), mc i (by omega)⟩
  · show upd now 1 (nI (k - 1)) (2 + i) = _ ∧ upd now 1 (nI (k - 1)) (8 + i) = _
    rw [up_ne (by omega), up_ne (by omega)]
    exact ⟨mw i hi2, mc i hi2⟩
theorem removeX (hR : RS n k w c) (hX : StX len sz words checks n k w c) {r : Nat} (hr : r < k) : ∃ w' k', fX2_removeRow_23 len 300 sz words checks cnt err pm sl ss sw sc (nI (r + 1)) = some (nI (k - 1), nI (k - 1), w', k', cnt, err, pm, sl, ss, sw, sc) ∧ StX len (nI (k - 1)) w' k' n (k - 1) (dr r w) (dr r c) := by
  obtain ⟨m0, m1, mw, mc⟩ := hX
  have hk := hR.2.2.1
  subst m1
  refine upR (fun f (t : (Nat → Int32) × (Nat → Int32) × Int32) => fX2_removeRow_23 len f (nI k) t.1 t.2.1 cnt err pm sl ss sw sc t.2.2) (fun x t => t.2.2 = nI x ∧ r + 1 ≤ x ∧ (∀ i, i + 1 < x → t.1 i = nI (dr r w i) ∧ t.2.1 i = nI (dr r c i)) ∧ ∀ i, x ≤ i → i < k → t.1 i = nI (w i) ∧ t.2.1 i = nI (c i)) (fun o => ∃ w' k', o = some (nI (k - 1), nI (k - 1), w', k', cnt, err, pm, sl, ss, sw, sc) ∧ StX len (nI (k - 1)) w' k' n (k - 1) (dr r w) (dr r c)) k ?_ ?_ 300 (r + 1) (words, checks, nI (r + 1)) ⟨rfl, Nat.le_refl _, fun i hi => ?_, fun i hi hi2 => ⟨mw i hi2, mc i hi2⟩⟩ (by omega) (by omega)
  · intro x t f hx hI
    obtain ⟨x1, x2, x3⟩ := t
    obtain ⟨e1, h0, h3, h4⟩ := hI
    dsimp only at e1 h3 h4
    subst e1
    have h5 := h4 x (Nat.le_refl _) hx
    left
    refine ⟨(upd x1 (x - 1) (nI (w x)), upd x2 (x - 1) (nI (c x)), nI (x + 1)), ⟨rfl, by omega, fun i hi => ?_, fun i hi hi2 => ?_⟩, ?_⟩
    · show upd x1 (x - 1) (nI (w x)) i = _ ∧ upd x2 (x - 1) (nI (c x)) i = _
      by_cases e : i = x - 1
      · subst e
        rw [up_eq, up_eq, dr_g (by omega), dr_g (by omega), show x - 1 + 1 = x by omega]
        exact ⟨rfl, rfl⟩
      · rw [up_ne e, up_ne e]
        exact h3 i (by omega)
    · show upd x1 (x - 1) (nI (w x)) i = _ ∧ upd x2 (x - 1) (nI (c x)) i = _
      rw [up_ne (by omega), up_ne (by omega)]
      exact h4 i (by omega) hi2
    · show FX2_removeRow_23 len (fX2_removeRow_23 len f) (nI k) x1 x2 cnt err pm sl ss sw sc (nI x) = _
      unfold FX2_removeRow_23
      rw [if_neg (by rw [nI_leI (by omega) (by omega)]; omega), rdA_ok (by omega) (by decide), rdA_ok (by omega) (by decide), h5.1, h5.2, li1, nI_sub (by omega), putX (by omega), bk, nI_add, c1 (hR.2.2.2.2 x hx)]
  · intro t f hI
    obtain ⟨x1, x2, x3⟩ := t
    obtain ⟨e1, h0, h3, h4⟩ := hI
    dsimp only at e1 h3 h4
    subst e1
    refine ⟨x1, x2, ?_, m0, rfl, fun i hi => (h3 i (by omega)).1, fun i hi => (h3 i (by omega)).2⟩
    show FX2_removeRow_23 len (fX2_removeRow_23 len f) (nI k) x1 x2 cnt err pm sl ss sw sc (nI k) = _
    unfold FX2_removeRow_23
    rw [if_pos (by rw [nI_leI (by omega) (by omega)]; omega), li1, nI_sub (by omega)]
  · rw [dr_l (by omega), dr_l (by omega)]
    exact ⟨mw i (by omega), mc i (by omega)⟩
theorem op_setLength (h : Rel len sz words checks cnt err pm sl ss sw sc now past errM sv) (x : Int32) : ∃ r len' sz' cnt' err' pm' sl' ss' sw' sc' now' past' errM' sv', fX2_setLength len sz words checks cnt err pm sl ss sw sc x = some (r, len', sz', cnt', err', pm', sl', ss', sw', sc') ∧ fX3_setLength now past errM sv x = some (r, now', past', errM', sv') ∧ Rel len' sz' words checks cnt' err' pm' sl' ss' sw' sc' now' past' errM' sv' := by
  obtain ⟨⟨n, k, w, c, hR, hX, hM⟩, hE, q, rfl, rfl, hS⟩ := h
  have bad : decide (¬ x < 1 ∧ ¬ (8 : Int32) < x) = false → FX2_setLength_0 words checks len sz (nI q) err pm sl ss sw sc x = FX2_setLength_11 words checks len sz (nI q) err pm sl ss sw sc → ∃ r len' sz' cnt' err' pm' sl' ss' sw' sc' now' past' errM' sv', FX2_setLength_0 words checks len sz (nI q) err pm sl ss sw sc x = some (r, len', sz', cnt', err', pm', sl', ss', sw', sc') ∧ FX3_setLength_0 now past errM (nI q) x = some (r, now', past', errM', sv') ∧ Rel len' sz' words checks cnt' err' pm' sl' ss' sw' sc' now' past' errM' sv' := by
    intro h1 h2
    rw [h2]
    unfold FX2_setLength_11 FX3_setLength_0
    rw [withinE, bk, h1, ifb, if_neg (by decide), fX2a, fX3a, bk, bk]
    exact ⟨_, _, _, _, _, _, _, _, _, _, _, _, _, _, rfl, rfl, ⟨n, k, w, c, hR, hX, hM⟩, hE.up (by decide), q, rfl, rfl, hS⟩
  show ∃ r len' sz' cnt' err' pm' sl' ss' sw' sc' now' past' errM' sv', FX2_setLength_0 words checks len sz (nI q) err pm sl ss sw sc x = some (r, len', sz', cnt', err', pm', sl', ss', sw', sc') ∧ FX3_setLength_0 now past errM (nI q) x = some (r, now', past', errM', sv') ∧ _
  by_cases h1 : x < 1
  · exact bad (wi_f1 h1) (if_pos h1)
  · by_cases h2 : x ≤ 8
    · obtain ⟨j, j1, j2, rfl⟩ := rng (a := 1) (b := 8) (by decide) (by decide) h1 h2
      obtain ⟨q', pm', sl', ss', sw', sc', past', s1, s2, s3⟩ := save_both hR hX hM hS
      unfold FX2_setLength_0 FX3_setLength_0
      rw [withinE, bk, wi_t h1 h2, ifb, if_pos rfl, if_neg h1, if_pos h2, s1, s2, bk, bk]
      dsimp only
      rw [li0, rdA_ok (by decide) (by decide), wrA_ok (by decide) (by decide), li1, wrA_ok (by decide) (by decide), hM.1, hX.1]
      refine ⟨_, _, _, _, _, _, _, _, _, _, _, _, _, _, rfl, rfl, ⟨j, 0, w, c, ⟨j1, j2, by decide, fun i hi => absurd hi (Nat.not_lt_zero i), fun i hi => absurd hi (Nat.not_lt_zero i)⟩, ⟨rfl, rfl, fun i hi => absurd hi (Nat.not_lt_zero i), fun i hi => absurd hi (Nat.not_lt_zero i)⟩, ⟨(up_ne (by decide)).trans (up_eq _ _ _), up_eq _ _ _, fun i hi => absurd hi (Nat.not_lt_zero i), fun i hi => absurd hi (Nat.not_lt_zero i)⟩⟩, hE, q', rfl, rfl, s3⟩
    · exact bad (wi_f2 h2) (by unfold FX2_setLength_0; rw [if_neg h1, if_neg h2])
theorem op_addRow (h : Rel len sz words checks cnt err pm sl ss sw sc now past errM sv) (x y : Int32) : ∃ r sz' words' checks' cnt' err' pm' sl' ss' sw' sc' now' past' errM' sv', fX2_addRow len sz words checks cnt err pm sl ss sw sc x y = some (r, sz', words', checks', cnt', err', pm', sl', ss', sw', sc') ∧ fX3_addRow now past errM sv x y = some (r, now', past', errM', sv') ∧ Rel len sz' words' checks' cnt' err' pm' sl' ss' sw' sc' now' past' errM' sv' := by
  obtain ⟨⟨n, k, w, c, hR, hX, hM⟩, hE, q, rfl, rfl, hS⟩ := h
  have bad : ∀ (oX : Option (Int32 × Int32 × (Nat → Int32) × (Nat → Int32) × Int32 × (Nat → Int32) × (Nat → Nat) × (Nat → Int32) × (Nat → Int32) × (Nat → Nat → Int32) × (Nat → Nat → Int32))) (oM : Option (Int32 × (Nat → Int32) × (Nat → Int32) × (Nat → Int32) × Int32)), oX = FX2_addRow_21 len sz words checks (nI q) err pm sl ss sw sc → oM = FX3_addRow_21 now past errM (nI q) → ∃ r sz' words' checks' cnt' err' pm' sl' ss' sw' sc' now' past' errM' sv', oX = some (r, sz', words', checks', cnt', err', pm', sl', ss', sw', sc') ∧ oM = some (r, now', past', errM', sv') ∧ Rel len sz' words' checks' cnt' err' pm' sl' ss' sw' sc' now' past' errM' sv' := by
    intro oX oM h1 h2
    rw [h1, h2]
    unfold FX2_addRow_21 FX3_addRow_21
    rw [fX2a, fX3a, bk, bk]
    exact ⟨_, _, _, _, _, _, _, _, _, _, _, _, _, _, _, rfl, rfl, ⟨n, k, w, c, hR, hX, hM⟩, hE.up (by decide), q, rfl, rfl, hS⟩
  show ∃ r sz' words' checks' cnt' err' pm' sl' ss' sw' sc' now' past' errM' sv', FX2_addRow_0 len sz words checks (nI q) err pm sl ss sw sc x y = some (r, sz', words', checks', cnt', err', pm', sl', ss', sw', sc') ∧ FX3_addRow_0 now past errM (nI q) x y = some (r, now', past', errM', sv') ∧ _
  unfold FX2_addRow_0 FX3_addRow_0
  rw [isWordX hR hX, isWordM hR hM, bk, bk, ifb, ifb]
  by_cases hx0 : x = 0
  · rw [if_pos hx0]
    exact bad _ _ rfl (by rw [if_pos hx0]; exact ite_self _)
  rw [if_neg hx0, if_neg hx0]
  cases hw : isW n x with
  | false => exact bad _ _ (if_neg (by decide)) (if_neg (by decide))
  | true =>
    rw [if_pos rfl, if_pos rfl, withinE, bk, ifb]
    by_cases h1 : y < 0
    · rw [if_pos h1, wi_f1 h1]
      exact bad _ _ rfl (if_neg (by decide))
    rw [if_neg h1]
    by_cases h2 : y ≤ 1
    · rw [if_pos h2, wi_t h1 h2, if_pos rfl]
      obtain ⟨W, hW, rfl⟩ := isW_of hR.2.1 hw
      obtain ⟨C, C1, C2, rfl⟩ := rng (a := 0) (b := 1) (by decide) (by decide) h1 h2
      have hk := hR.2.2.1
      have hW0 : 0 < W := by
        rcases Nat.eq_zero_or_pos W with h | h
        · subst h; exact absurd rfl hx0
        · exact h
      rw [li1, rdA_ok (by decide) (by decide), hM.2.1, hX.2.1, li6]
      by_cases hk6 : k = 6
      · rw [if_pos (show nI k = nI 6 by rw [hk6]), if_neg (show ¬ nI k < nI 6 by rw [hk6]; decide), fX2c, fX3c, bk, bk]
        exact ⟨_, _, _, _, _, _, _, _, _, _, _, _, _, _, _, rfl, rfl, ⟨n, k, w, c, hR, ⟨hX.1, rfl, hX.2.2⟩, hM⟩, hE.up (by decide), q, rfl, rfl, hS⟩
      · obtain ⟨q', pm', sl', ss', sw', sc', past', s1, s2, s3⟩ := save_both hR hX hM hS
        rw [hX.2.1] at s1
        rw [if_neg (show ¬ nI k = nI 6 by rw [nI_eq (by omega) (by decide)]; exact hk6), if_pos (show nI k < nI 6 by rw [nI_ltI (by omega) (by decide)]; omega), s1, s2, bk, bk]
        dsimp only
        have e73 : ∀ t : Nat, t < 2 → FX2_addRow_73 len (nI k) words checks (nI q') err pm' sl' ss' sw' sc' (nI k) (nI W) (nI t) = some (nI k, nI (k + 1), upd words k (nI W), upd checks k (nI t), nI q', err, pm', sl', ss', sw', sc') := by
          intro t ht
          unfold FX2_addRow_73
          rw [putX (by omega), bk, li1, nI_add, nI_sub (by omega), show nI t &&& nI 1 = nI t from c1 ht, Nat.add_sub_cancel]
        have eX : (if nI C = nI 1 then FX2_addRow_73 len (nI k) words checks (nI q') err pm' sl' ss' sw' sc' (nI k) (nI W) (nI 1) else FX2_addRow_73 len (nI k) words checks (nI q') err pm' sl' ss' sw' sc' (nI k) (nI W) 0) = some (nI k, nI (k + 1), upd words k (nI W), upd checks k (nI C), nI q', err, pm', sl', ss', sw', sc') := by
          rcases (show C = 0 ∨ C = 1 by omega) with h | h <;> subst h
          · rw [if_neg (by decide)]; exact e73 0 (by decide)
          · rw [if_pos rfl]; exact e73 1 (by decide)
        rw [eX, rdA_ok (by decide) (by decide), hM.2.1, li2, nI_add, wrA_ok (by omega) (by decide), rdA_ok (by decide) (by decide), up_ne (by omega), hM.2.1, li8, nI_add, wrA_ok (by omega) (by decide), rdA_ok (by decide) (by decide), up_ne (by omega), up_ne (by omega), hM.2.1, nI_add, wrA_ok (by decide) (by decide), rdA_ok (by decide) (by decide), up_eq, nI_sub (by omega), Nat.add_sub_cancel]
        refine ⟨_, _, _, _, _, _, _, _, _, _, _, _, _, _, _, rfl, rfl, ⟨n, k + 1, va_up w k W, va_up c k C, ⟨hR.1, hR.2.1, by omega, fun i hi => ?_, fun i hi => ?_⟩, ⟨hX.1, rfl, fun i hi => ?_, fun i hi => ?_⟩, ⟨?_, up_eq _ _ _, fun i hi => ?_, fun i hi => ?_⟩⟩, hE, q', rfl, rfl, s3⟩
        · by_cases e : i = k
          · subst e; rw [vup_eq]; exact ⟨hW0, hW⟩
          · rw [vup_ne e]; exact hR.2.2.2.1 i (by omega)
        · by_cases e : i = k
          · subst e; rw [vup_eq]; omega
          · rw [vup_ne e]; exact hR.2.2.2.2 i (by omega)
        · by_cases e : i = k
          · subst e; rw [vup_eq]; exact up_eq _ _ _
          · rw [vup_ne e, up_ne e]; exact hX.2.2.1 i (by omega)
        · by_cases e : i = k
          · subst e; rw [vup_eq]; exact up_eq _ _ _
          · rw [vup_ne e, up_ne e]; exact hX.2.2.2 i (by omega)
        · rw [up_ne (by omega), up_ne (by omega), up_ne (by omega)]; exact hM.1
        · rw [up_ne (by omega), up_ne (by omega)]
          by_cases e : i = k
          · subst e; rw [vup_eq]; exact up_eq _ _ _
          · rw [vup_ne e, up_ne (by omega)]; exact hM.2.2.1 i (by omega)
        · rw [up_ne (by omega)]
          by_cases e : i = k
          · subst e; rw [vup_eq]; exact up_eq _ _ _
          · rw [vup_ne e, up_ne (by omega), up_ne (by omega)]; exact hM.2.2.2 i (by omega)
    · rw [if_neg h2, wi_f2 h2]
      exact bad _ _ rfl (if_neg (by decide))
theorem op_removeRow (h : Rel len sz words checks cnt err pm sl ss sw sc now past errM sv) (x : Int32) : ∃ r sz' words' checks' cnt' err' pm' sl' ss' sw' sc' now' past' errM' sv', fX2_removeRow len sz words checks cnt err pm sl ss sw sc x = some (r, sz', words', checks', cnt', err', pm', sl', ss', sw', sc') ∧ fX3_removeRow now past errM sv x = some (r, now', past', errM', sv') ∧ Rel len sz' words' checks' cnt' err' pm' sl' ss' sw' sc' now' past' errM' sv' := by
  obtain ⟨⟨n, k, w, c, hR, hX, hM⟩, hE, q, rfl, rfl, hS⟩ := h
  show ∃ r sz' words' checks' cnt' err' pm' sl' ss' sw' sc' now' past' errM' sv', FX2_removeRow_0 len sz words checks (nI q) err pm sl ss sw sc x = some (r, sz', words', checks', cnt', err', pm', sl', ss', sw', sc') ∧ FX3_removeRow_0 now past errM (nI q) x = some (r, now', past', errM', sv') ∧ _
  unfold FX2_removeRow_0 FX3_removeRow_0
  rw [isRowX hX, isRowM hR hM, bk, bk, ifb, ifb]
  cases hrr : isR k x with
  | false =>
    rw [if_neg (by decide), if_neg (by decide), fX2a, fX3a, bk, bk]
    exact ⟨_, _, _, _, _, _, _, _, _, _, _, _, _, _, _, rfl, rfl, ⟨n, k, w, c, hR, hX, hM⟩, hE.up (by decide), q, rfl, rfl, hS⟩
  | true =>
    rw [if_pos rfl, if_pos rfl]
    obtain ⟨r, hr, rfl⟩ := isR_of hR.2.2.1 hrr
    obtain ⟨q', pm', sl', ss', sw', sc', past', s1, s2, s3⟩ := save_both hR hX hM hS
    obtain ⟨now', a1, a2⟩ := removesM hR.2.2.1 hM hr
    rw [s1, s2, bk, bk, a1, bk, li1, rdA_ok (by decide) (by decide), a2.2.1, nI_add]
    dsimp only
    obtain ⟨w', k', b1, b2⟩ := removeX (cnt := nI q') (err := err) (pm := pm') (sl := sl') (ss := ss') (sw := sw') (sc := sc') hR hX hr
    rw [b1]
    exact ⟨_, _, _, _, _, _, _, _, _, _, _, _, _, _, _, rfl, rfl, ⟨n, k - 1, _, _, RS_dr hR hr, b2, a2⟩, hE, q', rfl, rfl, s3⟩
theorem undoM (hq : q < 4) : ∃ now', fX3_undo_26 past 300 now errM (nI q) 0 = some (nI q, now', errM, nI q) ∧ ∀ j, j < 14 → now' j = past (14 * q + j) := by
  refine upR (fun f (t : (Nat → Int32) × Int32) => fX3_undo_26 past f t.1 errM (nI q) t.2) (fun x t => t.2 = nI x ∧ ∀ j, j < x → t.1 j = past (14 * q + j)) (fun o => ∃ now', o = some (nI q, now', errM, nI q) ∧ ∀ j, j < 14 → now' j = past (14 * q + j)) 14 ?_ ?_ 300 0 (now, 0) ⟨rfl, fun j h => absurd h (Nat.not_lt_zero j)⟩ (by decide) (by decide)
  · intro x t f hx hI
    obtain ⟨x1, x2⟩ := t
    obtain ⟨e1, h1⟩ := hI
    dsimp only at e1 h1
    subst e1
    left
    refine ⟨(upd x1 x (past (14 * q + x)), nI (x + 1)), ⟨rfl, fun j hj => ?_⟩, ?_⟩
    · by_cases e : j = x
      · subst e; exact up_eq _ _ _
      · exact (up_ne e).trans (h1 j (by omega))
    · show FX3_undo_26 past (fX3_undo_26 past f) x1 errM (nI q) (nI x) = _
      unfold FX3_undo_26
      rw [li14, if_neg (by rw [nI_leI (by omega) (by omega)]; omega), pk_mul, nI_add, rdA_ok (by omega) (by decide), wrA_ok hx (by decide), nI_1]
  · intro t f hI
    obtain ⟨x1, x2⟩ := t
    obtain ⟨e1, h1⟩ := hI
    dsimp only at e1 h1
    subst e1
    refine ⟨x1, ?_, h1⟩
    show FX3_undo_26 past (fX3_undo_26 past f) x1 errM (nI q) (nI 14) = _
    unfold FX3_undo_26
    rw [if_pos (by decide)]
theorem op_undo (h : Rel len sz words checks cnt err pm sl ss sw sc now past errM sv) : ∃ r len' sz' words' checks' cnt' err' now' errM' sv', fX2_undo len sz words checks cnt err pm sl ss sw sc = some (r, len', sz', words', checks', cnt', err') ∧ fX3_undo now past errM sv = some (r, now', errM', sv') ∧ Rel len' sz' words' checks' cnt' err' pm sl ss sw sc now' past errM' sv' := by
  obtain ⟨⟨n, k, w, c, hR, hX, hM⟩, hE, q, rfl, rfl, hS⟩ := h
  show ∃ r len' sz' words' checks' cnt' err' now' errM' sv', FX2_undo_0 pm sl ss sw sc len sz words checks (nI q) err = some (r, len', sz', words', checks', cnt', err') ∧ FX3_undo_0 past now errM (nI q) = some (r, now', errM', sv') ∧ _
  unfold FX2_undo_0 FX3_undo_0
  have hq4 := hS.1
  rw [li0]
  by_cases h0 : q = 0
  · rw [if_pos (show nI q = nI 0 by rw [h0]), if_neg (show ¬ nI 0 < nI q by rw [h0]; decide), fX2e, fX3e, bk, bk]
    exact ⟨_, _, _, _, _, _, _, _, _, _, rfl, rfl, ⟨n, k, w, c, hR, hX, hM⟩, hE.up (by decide), q, rfl, rfl, hS⟩
  · rw [if_neg (show ¬ nI q = nI 0 by rw [nI_eq (by omega) (by decide)]; exact h0), if_pos (show nI 0 < nI q by rw [nI_ltI (by decide) (by omega)]; omega), li1, nI_sub (by omega), rdP_ok (by omega), ckP_ok (hS.2.1 _ (by omega))]
    obtain ⟨w3, k3, b1, b2⟩ := copyX len sz words checks (sl (pm (q - 1))) (ss (pm (q - 1))) (sw (pm (q - 1))) (sc (pm (q - 1)))
    obtain ⟨now', a1, a2⟩ := undoM (now := now) (past := past) (errM := errM) (q := q - 1) (by omega)
    rw [b1, bk, show fX3_undo_26 past 300 now errM (nI (q - 1)) (nI 0) = _ from a1]
    obtain ⟨n', k', w', c', g1, g2, g3⟩ := hS.2.2.2 (q - 1) (by omega)
    exact ⟨_, _, _, _, _, _, _, _, _, _, rfl, rfl, ⟨n', k', w', c', g1, StX_copy g1 g2 b2, StM_congr g1.2.2.1 a2 g3⟩, hE, q - 1, rfl, rfl, by omega, hS.2.1, hS.2.2.1, fun i hi => hS.2.2.2 i (by omega)⟩
end OP
