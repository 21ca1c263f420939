/-! ===== saved states ===== -/
theorem vup_eq {α : Type} (f : Nat → α) (a : Nat) (v : α) : va_up f a v a = v := by unfold va_up; simp
theorem vup_ne {α : Type} {f : Nat → α} {a b : Nat} {v : α} (h : b ≠ a) : va_up f a v b = f b := by unfold va_up; simp [h]
theorem StM_congr {f g : Nat → Int32} {n k : Nat} {w c : Nat → Nat} (hk : k ≤ 6) (h : ∀ j, j < 14 → g j = f j) (hM : StM f n k w c) : StM g n k w c :=
  ⟨(h 0 (by decide)).trans hM.1, (h 1 (by decide)).trans hM.2.1, fun i hi => (h _ (by omega)).trans (hM.2.2.1 i hi), fun i hi => (h _ (by omega)).trans (hM.2.2.2 i hi)⟩
/-- the q saved states, oldest first -/
def Sv (q : Nat) (pm : Nat → Nat) (sl ss : Nat → Int32) (sw sc : Nat → Nat → Int32) (past : Nat → Int32) : Prop :=
  q ≤ 4 ∧ (∀ i, i < 4 → pm i < 4) ∧ (∀ i j, i < 4 → j < 4 → pm i = pm j → i = j) ∧ ∀ i, i < q → ∃ n k w c, RS n k w c ∧ StX (sl (pm i)) (ss (pm i)) (sw (pm i)) (sc (pm i)) n k w c ∧ StM (fun j => past (14 * i + j)) n k w c
def Rel (len sz : Int32) (words checks : Nat → Int32) (cnt : Int32) (err : Nat → Int32) (pm : Nat → Nat) (sl ss : Nat → Int32) (sw sc : Nat → Nat → Int32) (now past errM : Nat → Int32) (sv : Int32) : Prop :=
  (∃ n k w c, RS n k w c ∧ StX len sz words checks n k w c ∧ StM now n k w c) ∧ EE err errM ∧ ∃ q, cnt = nI q ∧ sv = nI q ∧ Sv q pm sl ss sw sc past
section SV
variable {now : Nat → Int32} {len sz : Int32} {words checks : Nat → Int32} {n k : Nat} {w c : Nat → Nat} {err errM past : Nat → Int32} {pm : Nat → Nat} {sl ss : Nat → Int32} {sw sc : Nat → Nat → Int32} {q : Nat} {cnt sv : Int32}
theorem copyX (l1 s1 : Int32) (w1 k1 : Nat → Int32) (l2 s2 : Int32) (w2 k2 : Nat → Int32) : ∃ w3 k3, fX1_copyFrom l1 s1 w1 k1 l2 s2 w2 k2 = some (l2, s2, w3, k3) ∧ ∀ i, i < 6 → w3 i = w2 i ∧ k3 i = k2 i &&& 1 := by
  show ∃ w3 k3, fX1_copyFrom_18 l2 s2 w2 k2 300 l2 s2 w1 k1 0 = some (l2, s2, w3, k3) ∧ _
  refine upR (fun q (t : (Nat → Int32) × (Nat → Int32) × Int32) => fX1_copyFrom_18 l2 s2 w2 k2 q l2 s2 t.1 t.2.1 t.2.2) (fun x t => t.2.2 = nI x ∧ ∀ i, i < x → t.1 i = w2 i ∧ t.2.1 i = k2 i &&& 1) (fun o => ∃ w3 k3, o = some (l2, s2, w3, k3) ∧ ∀ i, i < 6 → w3 i = w2 i ∧ k3 i = k2 i &&& 1) 6 ?_ ?_ 300 0 (w1, k1, 0) ⟨rfl, fun i h => absurd h (Nat.not_lt_zero i)⟩ (by decide) (by decide)
  · intro x t q hx hI
    obtain ⟨x1, x2, x3⟩ := t
    obtain ⟨e1, h1⟩ := hI
    dsimp only at e1 h1
    subst e1
    left
    refine ⟨(upd x1 x (w2 x), upd x2 x (k2 x &&& 1), nI (x + 1)), ⟨rfl, fun i hi => ?_⟩, ?_⟩
    · by_cases e : i = x
      · subst e; exact ⟨up_eq _ _ _, up_eq _ _ _⟩
      · have := h1 i (by omega)
        exact ⟨(up_ne e).trans this.1, (up_ne e).trans this.2⟩
    · show FX1_copyFrom_18 l2 s2 w2 k2 (fX1_copyFrom_18 l2 s2 w2 k2 q) l2 s2 x1 x2 (nI x) = _
      unfold FX1_copyFrom_18
      simp (disch := omega) only [li6, nI_leI, if_neg (Nat.not_le.mpr hx), rdA_ok, wrA_ok, nI_1]
  · intro t q hI
    obtain ⟨x1, x2, x3⟩ := t
    obtain ⟨e1, h1⟩ := hI
    dsimp only at e1 h1
    subst e1
    refine ⟨x1, x2, ?_, h1⟩
    show FX1_copyFrom_18 l2 s2 w2 k2 (fX1_copyFrom_18 l2 s2 w2 k2 q) l2 s2 x1 x2 (nI 6) = _
    unfold FX1_copyFrom_18
    simp (disch := omega) only [li6, nI_leI, if_pos (Nat.le_refl _)]
theorem c1 {a : Nat} (h : a < 2) : nI a &&& 1 = nI a := by rw [m2]; congr 1; omega
theorem StX_copy (hR : RS n k w c) (hX : StX len sz words checks n k w c) {w3 k3 : Nat → Int32} (h : ∀ i, i < 6 → w3 i = words i ∧ k3 i = checks i &&& 1) : StX len sz w3 k3 n k w c := by
  have hk := hR.2.2.1
  obtain ⟨x0, x1, x2, x3⟩ := hX
  refine ⟨x0, x1, fun i hi => ?_, fun i hi => ?_⟩
  · rw [(h i (by omega)).1, x2 i hi]
  · rw [(h i (by omega)).2, x3 i hi, c1 (hR.2.2.2.2 i hi)]
theorem dropX (h : ∀ i, i < 4 → pm i < 4) : ∃ pm', fX2_dropOldest cnt pm = some (nI 3, pm') ∧ (∀ i, i < 3 → pm' i = pm (i + 1)) ∧ pm' 3 = pm 0 := by
  show ∃ pm', FX2_dropOldest_0 cnt pm = _ ∧ _
  unfold FX2_dropOldest_0
  rw [li0, rdP_ok (by decide)]
  refine upR (fun q (t : (Nat → Nat) × Int32) => fX2_dropOldest_9 q cnt t.1 (pm 0) t.2) (fun x t => t.2 = nI x ∧ 1 ≤ x ∧ (∀ i, i + 1 < x → t.1 i = pm (i + 1)) ∧ ∀ i, x ≤ i + 1 → 1 ≤ i → (i + 1 = x → t.1 i = pm i) ∧ (x < i + 1 → t.1 i = pm i)) (fun o => ∃ pm', o = some (nI 3, pm') ∧ (∀ i, i < 3 → pm' i = pm (i + 1)) ∧ pm' 3 = pm 0) 4 ?_ ?_ 300 1 (pm, 1) ⟨rfl, Nat.le_refl 1, fun i h => by omega, fun i _ _ => ⟨fun _ => rfl, fun _ => rfl⟩⟩ (by decide) (by decide)
  · intro x t q hx hI
    obtain ⟨x1, x2⟩ := t
    obtain ⟨e1, h0, h1, h2⟩ := hI
    dsimp only at e1 h1 h2
    subst e1
    have hr : x1 x = pm x := (h2 x (by omega) h0).2 (by omega)
    left
    refine ⟨(va_up x1 (x - 1) (pm x), nI (x + 1)), ⟨rfl, by omega, fun i hi => ?_, fun i hi hi2 => ?_⟩, ?_⟩
    · show va_up x1 (x - 1) (pm x) i = _
      by_cases e : i = x - 1
      · subst e
        rw [vup_eq]
        congr 1
        omega
      · rw [vup_ne e]
        exact h1 i (by omega)
    · show (_ → va_up x1 (x - 1) (pm x) i = _) ∧ (_ → va_up x1 (x - 1) (pm x) i = _)
      have e : i ≠ x - 1 := by omega
      rw [vup_ne e]
      exact ⟨fun h => (h2 i (by omega) hi2).2 (by omega), fun h => (h2 i (by omega) hi2).2 (by omega)⟩
    · show FX2_dropOldest_9 (fX2_dropOldest_9 q) cnt x1 (pm 0) (nI x) = _
      unfold FX2_dropOldest_9
      rw [li4, if_neg (by rw [nI_leI (by omega) (by omega)]; omega), rdP_ok hx, hr, li1, nI_sub h0, wrP_ok (by omega) (h x hx), nI_add]
  · intro t q hI
    obtain ⟨x1, x2⟩ := t
    obtain ⟨e1, h0, h1, h2⟩ := hI
    dsimp only at e1 h1 h2
    subst e1
    refine ⟨va_up x1 3 (pm 0), ?_, fun i hi => ?_, vup_eq _ _ _⟩
    · show FX2_dropOldest_9 (fX2_dropOldest_9 q) cnt x1 (pm 0) (nI 4) = _
      unfold FX2_dropOldest_9
      rw [if_pos (by decide), li3, wrP_ok (by decide) (h 0 (by decide))]
    · rw [vup_ne (by omega)]
      exact h1 i (by omega)
theorem put14 (hq : q < 4) : ∃ p, fX3_saves_49 now 300 past (nI q) 0 = some (p, nI (q + 1)) ∧ (∀ j, j < 14 → p (14 * q + j) = now j) ∧ ∀ j, j < 14 * q → p j = past j := by
  refine upR (fun f (t : (Nat → Int32) × Int32) => fX3_saves_49 now f t.1 (nI q) t.2) (fun x t => t.2 = nI x ∧ (∀ j, j < x → t.1 (14 * q + j) = now j) ∧ ∀ j, j < 14 * q → t.1 j = past j) (fun o => ∃ p, o = some (p, nI (q + 1)) ∧ (∀ j, j < 14 → p (14 * q + j) = now j) ∧ ∀ j, j < 14 * q → p j = past j) 14 ?_ ?_ 300 0 (past, 0) ⟨rfl, fun j h => absurd h (Nat.not_lt_zero j), fun _ _ => rfl⟩ (by decide) (by decide)
  · intro x t f hx hI
    obtain ⟨x1, x2⟩ := t
    obtain ⟨e1, h1, h2⟩ := hI
    dsimp only at e1 h1 h2
    subst e1
    left
    refine ⟨(upd x1 (14 * q + x) (now x), nI (x + 1)), ⟨rfl, fun j hj => ?_, fun j hj => ?_⟩, ?_⟩
    · show upd x1 (14 * q + x) (now x) (14 * q + j) = _
      by_cases e : j = x
      · subst e; exact up_eq _ _ _
      · rw [up_ne (by omega)]
        exact h1 j (by omega)
    · show upd x1 (14 * q + x) (now x) j = _
      rw [up_ne (by omega)]
      exact h2 j hj
    · show FX3_saves_49 now (fX3_saves_49 now f) x1 (nI q) (nI x) = _
      unfold FX3_saves_49
      rw [li14, if_neg (by rw [nI_leI (by omega) (by omega)]; omega), rdA_ok hx (by decide), pk_mul, nI_add, wrA_ok (by omega) (by decide), nI_1]
  · intro t f hI
    obtain ⟨x1, x2⟩ := t
    obtain ⟨e1, h1, h2⟩ := hI
    dsimp only at e1 h1 h2
    subst e1
    refine ⟨x1, ?_, h1, h2⟩
    show FX3_saves_49 now (fX3_saves_49 now f) x1 (nI q) (nI 14) = _
    unfold FX3_saves_49
    rw [if_pos (by decide), nI_1]
theorem savesM (hq : q ≤ 4) : ∃ p q', q' < 4 ∧ fX3_saves now past (nI q) = some (p, nI (q' + 1)) ∧ (∀ j, j < 14 → p (14 * q' + j) = now j) ∧ ((q < 4 ∧ q' = q ∧ ∀ j, j < 14 * q → p j = past j) ∨ (q = 4 ∧ q' = 3 ∧ ∀ j, j < 42 → p j = past (j + 14))) := by
  rcases Nat.lt_or_ge q 4 with h | h
  · obtain ⟨p, h1, h2, h3⟩ := put14 (now := now) (past := past) h
    refine ⟨p, q, h, ?_, h2, Or.inl ⟨h, rfl, h3⟩⟩
    show FX3_saves_0 now past (nI q) = _
    unfold FX3_saves_0 FX3_saves_47
    rw [li4, if_neg (by rw [nI_eq (by omega) (by omega)]; omega), ← h1]
  · have : q = 4 := by omega
    subst this
    have hs : ∃ p0, fX3_saves_10 now 300 past (nI 4) 0 = fX3_saves_49 now 300 p0 (nI 3) 0 ∧ ∀ j, j < 42 → p0 j = past (j + 14) := by
      refine upR (fun f (t : (Nat → Int32) × Int32) => fX3_saves_10 now f t.1 (nI 4) t.2) (fun x t => t.2 = nI x ∧ (∀ j, j < x → t.1 j = past (j + 14)) ∧ ∀ j, x ≤ j → t.1 j = past j) (fun o => ∃ p0, o = fX3_saves_49 now 300 p0 (nI 3) 0 ∧ ∀ j, j < 42 → p0 j = past (j + 14)) 42 ?_ ?_ 300 0 (past, 0) ⟨rfl, fun j h => absurd h (Nat.not_lt_zero j), fun _ _ => rfl⟩ (by decide) (by decide)
      · intro x t f hx hI
        obtain ⟨x1, x2⟩ := t
        obtain ⟨e1, h1, h2⟩ := hI
        dsimp only at e1 h1 h2
        subst e1
        left
        refine ⟨(upd x1 x (past (x + 14)), nI (x + 1)), ⟨rfl, fun j hj => ?_, fun j hj => ?_⟩, ?_⟩
        · by_cases e : j = x
          · subst e; exact up_eq _ _ _
          · exact (up_ne e).trans (h1 j (by omega))
        · exact (up_ne (by omega)).trans (h2 j (by omega))
        · show FX3_saves_10 now (fX3_saves_10 now f) x1 (nI 4) (nI x) = _
          unfold FX3_saves_10
          rw [li42, if_neg (by rw [nI_leI (by omega) (by omega)]; omega), li14, nI_add, rdA_ok (by omega) (by decide), wrA_ok (by omega) (by decide), nI_1, h2 (x + 14) (by omega)]
      · intro t f hI
        obtain ⟨x1, x2⟩ := t
        obtain ⟨e1, h1, h2⟩ := hI
        dsimp only at e1 h1 h2
        subst e1
        refine ⟨x1, ?_, h1⟩
        show FX3_saves_10 now (fX3_saves_10 now f) x1 (nI 4) (nI 42) = _
        unfold FX3_saves_10 FX3_saves_47
        rw [if_pos (by decide), li1, nI_sub (by decide)]
    obtain ⟨p0, e0, h0⟩ := hs
    obtain ⟨p, h1, h2, h3⟩ := put14 (now := now) (past := p0) (q := 3) (by decide)
    refine ⟨p, 3, by decide, ?_, h2, Or.inr ⟨rfl, rfl, fun j hj => (h3 j (by omega)).trans (h0 j hj)⟩⟩
    show FX3_saves_0 now past (nI 4) = _
    unfold FX3_saves_0
    rw [if_pos (by decide), e0, h1]
/-- both sides save the current state -/
theorem save_both (hR : RS n k w c) (hX : StX len sz words checks n k w c) (hM : StM now n k w c) (hS : Sv q pm sl ss sw sc past) : ∃ q' pm' sl' ss' sw' sc' past', fX2_saveState len sz words checks (nI q) pm sl ss sw sc = some (nI q', pm', sl', ss', sw', sc') ∧ fX3_saves now past (nI q) = some (past', nI q') ∧ Sv q' pm' sl' ss' sw' sc' past' := by
  obtain ⟨hq, hpm, hin, hs⟩ := hS
  obtain ⟨p, q', hq', r2, p1, p2⟩ := savesM (now := now) (past := past) hq
  have step : ∀ pm' : Nat → Nat, (∀ i, i < 4 → pm' i < 4) → (∀ i j, i < 4 → j < 4 → pm' i = pm' j → i = j) → (∀ i, i < q' → ∃ n k w c, RS n k w c ∧ StX (sl (pm' i)) (ss (pm' i)) (sw (pm' i)) (sc (pm' i)) n k w c ∧ StM (fun j => p (14 * i + j)) n k w c) → ∃ sl' ss' sw' sc', FX2_saveState_12 len sz words checks (nI q') pm' sl ss sw sc = some (nI (q' + 1), pm', sl', ss', sw', sc') ∧ Sv (q' + 1) pm' sl' ss' sw' sc' p := by
    intro pm' a1 a2 a3
    obtain ⟨w3, k3, b1, b2⟩ := copyX (sl (pm' q')) (ss (pm' q')) (sw (pm' q')) (sc (pm' q')) len sz words checks
    refine ⟨upd sl (pm' q') len, upd ss (pm' q') sz, va_up sw (pm' q') w3, va_up sc (pm' q') k3, ?_, by omega, a1, a2, fun i hi => ?_⟩
    · unfold FX2_saveState_12
      rw [rdP_ok hq', ckP_ok (a1 q' hq'), b1, bk, nI_1]
    · rcases Nat.lt_or_ge i q' with h | h
      · have hne : pm' i ≠ pm' q' := fun e => by have := a2 i q' (by omega) hq' e; omega
        obtain ⟨n', k', w', c', g1, g2, g3⟩ := a3 i h
        refine ⟨n', k', w', c', g1, ?_, g3⟩
        rw [up_ne hne, up_ne hne, vup_ne hne, vup_ne hne]
        exact g2
      · have : i = q' := by omega
        subst this
        refine ⟨n, k, w, c, hR, ?_, StM_congr hR.2.2.1 p1 hM⟩
        rw [up_eq, up_eq, vup_eq, vup_eq]
        exact StX_copy hR hX b2
  rcases p2 with ⟨h1, h2, h3⟩ | ⟨h1, h2, h3⟩
  · subst h2
    obtain ⟨sl', ss', sw', sc', s1, s2⟩ := step pm hpm hin (fun i hi => by
      obtain ⟨n', k', w', c', g1, g2, g3⟩ := hs i hi
      exact ⟨n', k', w', c', g1, g2, StM_congr g1.2.2.1 (fun j hj => h3 _ (by omega)) g3⟩)
    refine ⟨_, pm, sl', ss', sw', sc', p, ?_, r2, s2⟩
    show FX2_saveState_0 len sz words checks (nI q') pm sl ss sw sc = _
    unfold FX2_saveState_0
    rw [li4, if_pos (by rw [nI_ltI (by omega) (by omega)]; exact h1), s1]
  · subst h1; subst h2
    obtain ⟨pm', d1, d2, d3⟩ := dropX (cnt := nI 4) hpm
    have d2' : ∀ i, i < 4 → pm' i = pm (if i < 3 then i + 1 else 0) := by
      intro i hi
      by_cases h : i < 3
      · rw [if_pos h]; exact d2 i h
      · have : i = 3 := by omega
        subst this
        rw [if_neg h]; exact d3
    obtain ⟨sl', ss', sw', sc', s1, s2⟩ := step pm' (fun i hi => by rw [d2' i hi]; exact hpm _ (by split <;> omega)) (fun i j hi hj e => by
        rw [d2' i hi, d2' j hj] at e
        have := hin _ _ (by split <;> omega) (by split <;> omega) e
        revert this
        split <;> split <;> omega) (fun i hi => by
      obtain ⟨n', k', w', c', g1, g2, g3⟩ := hs (i + 1) (by omega)
      rw [d2 i hi]
      exact ⟨n', k', w', c', g1, g2, StM_congr g1.2.2.1 (fun j hj => by
        show p (14 * i + j) = past (14 * (i + 1) + j)
        rw [h3 (14 * i + j) (by omega), show 14 * (i + 1) + j = 14 * i + j + 14 by omega]) g3⟩)
    refine ⟨_, pm', sl', ss', sw', sc', p, ?_, r2, s2⟩
    show FX2_saveState_0 len sz words checks (nI 4) pm sl ss sw sc = _
    unfold FX2_saveState_0
    rw [if_neg (by decide), d1, bk]
    exact s1
end SV
