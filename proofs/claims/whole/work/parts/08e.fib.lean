/-! ===== syndromes as linear maps; counting by fibres ===== -/
theorem syn_m (w c : Nat → Nat) (kind x : Nat) : ∀ i, (syn w c kind x i).2 = nk c kind i
  | 0 => rfl
  | i + 1 => by
    have ih := syn_m w c kind x i
    rw [syn_s, nk_s]
    split
    · show (syn w c kind x i).2 + 1 = _; rw [ih]
    · rw [ih]; rfl
theorem sy_s {k : Nat} (w c : Nat → Nat) (kind x : Nat) : sy (k + 1) w c kind x = if c k = kind then sy k w c kind x + 2 ^ nk c kind k * (pop (w k &&& x) % 2) else sy k w c kind x := by
  unfold sy
  rw [syn_s]
  split
  · show (syn w c kind x k).1 + 2 ^ (syn w c kind x k).2 * _ = _; rw [syn_m]
  · rfl
theorem sy_lt (k : Nat) (w c : Nat → Nat) (kind x : Nat) : sy k w c kind x < 2 ^ nk c kind k := by
  have := syn_lt w c kind x k
  rw [syn_m] at this
  exact this
theorem nk_le (c : Nat → Nat) (kind : Nat) : ∀ k, nk c kind k ≤ k
  | 0 => Nat.le_refl 0
  | k + 1 => by have := nk_le c kind k; rw [nk_s]; split <;> omega
/-- equal syndromes: all rows of the kind agree -/
theorem sy_eq {w c : Nat → Nat} {kind x y : Nat} : ∀ k, (∀ i, i < k → w i < 256) → (sy k w c kind x = sy k w c kind y ↔ ∀ i, i < k → c i = kind → dt (w i) x = dt (w i) y)
  | 0, _ => ⟨fun _ i hi => absurd hi (Nat.not_lt_zero i), fun _ => rfl⟩
  | k + 1, hw => by
    have ih := sy_eq (w := w) (c := c) (kind := kind) (x := x) (y := y) k (fun i hi => hw i (by omega))
    rw [sy_s, sy_s]
    have ex := px_pop (w k &&& x) (and_lt8 (hw k (by omega)))
    have ey := px_pop (w k &&& y) (and_lt8 (hw k (by omega)))
    have hx := sy_lt k w c kind x
    have hy := sy_lt k w c kind y
    by_cases hc : c k = kind
    · rw [if_pos hc, if_pos hc, ex, ey]
      have e1 : (px (w k &&& x)) = dt (w k) x := rfl
      have e2 : (px (w k &&& y)) = dt (w k) y := rfl
      rw [e1, e2]
      have key : sy k w c kind x + 2 ^ nk c kind k * (dt (w k) x).toNat = sy k w c kind y + 2 ^ nk c kind k * (dt (w k) y).toNat ↔ sy k w c kind x = sy k w c kind y ∧ dt (w k) x = dt (w k) y := by
        cases dt (w k) x <;> cases dt (w k) y <;> simp <;> omega
      rw [key, ih]
      constructor
      · intro ⟨h1, h2⟩ i hi hci
        rcases Nat.lt_or_ge i k with h | h
        · exact h1 i h hci
        · have : i = k := by omega
          subst this; exact h2
      · intro h
        exact ⟨fun i hi hci => h i (by omega) hci, h k (by omega) hc⟩
    · rw [if_neg hc, if_neg hc, ih]
      constructor
      · intro h1 i hi hci
        rcases Nat.lt_or_ge i k with h | h
        · exact h1 i h hci
        · have : i = k := by omega
          subst this; exact absurd hci hc
      · intro h i hi hci
        exact h i (by omega) hci
theorem sy_0 (k : Nat) (w c : Nat → Nat) (kind : Nat) : sy k w c kind 0 = 0 := syn_zero w c kind k
theorem sy_z {w c : Nat → Nat} {kind x k : Nat} (hw : ∀ i, i < k → w i < 256) : sy k w c kind x = 0 ↔ ∀ i, i < k → c i = kind → dt (w i) x = false := by
  rw [← sy_0 k w c kind, sy_eq k hw]
  exact ⟨fun h i hi hc => by rw [h i hi hc, dt_0r], fun h i hi hc => by rw [h i hi hc, dt_0r]⟩
theorem add_xor {N a b p q : Nat} (ha : a < 2 ^ N) (hb : b < 2 ^ N) : (2 ^ N * p + a) ^^^ (2 ^ N * q + b) = 2 ^ N * (p ^^^ q) + (a ^^^ b) := by
  apply Nat.eq_of_testBit_eq
  intro j
  rw [Nat.testBit_xor, Nat.testBit_two_pow_mul_add _ ha, Nat.testBit_two_pow_mul_add _ hb, Nat.testBit_two_pow_mul_add _ (Nat.xor_lt_two_pow ha hb)]
  split <;> rw [Nat.testBit_xor]
theorem tn_xor (a b : Bool) : (a ^^ b).toNat = a.toNat ^^^ b.toNat := by cases a <;> cases b <;> rfl
theorem sy_xor {w c : Nat → Nat} {kind x y : Nat} : ∀ k, (∀ i, i < k → w i < 256) → sy k w c kind (x ^^^ y) = sy k w c kind x ^^^ sy k w c kind y
  | 0, _ => by simp [sy, syn]
  | k + 1, hw => by
    have ih := sy_xor (w := w) (c := c) (kind := kind) (x := x) (y := y) k (fun i hi => hw i (by omega))
    rw [sy_s, sy_s, sy_s]
    by_cases hc : c k = kind
    · rw [if_pos hc, if_pos hc, if_pos hc, px_pop _ (and_lt8 (hw k (by omega))), px_pop _ (and_lt8 (hw k (by omega))), px_pop _ (and_lt8 (hw k (by omega)))]
      have e : px (w k &&& (x ^^^ y)) = (dt (w k) x ^^ dt (w k) y) := dt_xr (w k) x y
      rw [e, tn_xor, ih, Nat.add_comm, Nat.add_comm (sy k w c kind x), Nat.add_comm (sy k w c kind y)]
      exact (add_xor (sy_lt k w c kind x) (sy_lt k w c kind y)).symm
    · rw [if_neg hc, if_neg hc, if_neg hc, ih]
/-! sums -/
def sm (g : Nat → Nat) : Nat → Nat
  | 0 => 0
  | m + 1 => sm g m + g m
theorem sm_s (g : Nat → Nat) (m : Nat) : sm g (m + 1) = sm g m + g m := rfl
theorem sm_congr {f g : Nat → Nat} : ∀ {M : Nat}, (∀ m, m < M → f m = g m) → sm f M = sm g M
  | 0, _ => rfl
  | M + 1, h => by rw [sm_s, sm_s, sm_congr (fun m hm => h m (by omega)), h M (by omega)]
theorem sm_add (f g : Nat → Nat) : ∀ M, sm (fun m => f m + g m) M = sm f M + sm g M
  | 0 => rfl
  | M + 1 => by rw [sm_s, sm_s, sm_s, sm_add f g M]; omega
theorem sm_zero : ∀ M, sm (fun _ => 0) M = 0
  | 0 => rfl
  | M + 1 => by rw [sm_s, sm_zero M]
theorem sm_ite (Q : Nat → Bool) (Z : Nat) : ∀ M, sm (fun m => if Q m = true then Z else 0) M = cn Q M * Z
  | 0 => by rw [show cn Q 0 = 0 from rfl, Nat.zero_mul]; rfl
  | M + 1 => by
    rw [sm_s, cn_s, sm_ite Q Z M, Nat.add_mul]
    split <;> simp
/-- a double count, in either order -/
theorem sm_swap (F : Nat → Nat → Bool) (N : Nat) : ∀ M, sm (fun u => cn (F u) N) M = sm (fun v => cn (fun u => F u v) M) N
  | 0 => by
    show 0 = sm (fun v => 0) N
    rw [sm_zero]
  | M + 1 => by
    rw [sm_s, sm_swap F N M]
    have : sm (fun v => cn (fun u => F u v) (M + 1)) N = sm (fun v => cn (fun u => F u v) M + (if F M v = true then 1 else 0)) N := sm_congr (fun v _ => cn_s _ _)
    rw [this, sm_add, sm_ite, Nat.mul_one]
theorem sm_ind {v : Nat} : ∀ M, sm (fun m => if v = m then 1 else 0) M = if v < M then 1 else 0
  | 0 => by rw [if_neg (Nat.not_lt_zero v)]; rfl
  | M + 1 => by
    rw [sm_s, sm_ind M]
    by_cases h : v < M
    · rw [if_pos h, if_neg (by omega), if_pos (by omega)]
    · rw [if_neg h]
      by_cases e : v = M
      · rw [if_pos e, if_pos (by omega)]
      · rw [if_neg e, if_neg (by omega)]
theorem sumfib {M : Nat} (P : Nat → Bool) (f : Nat → Nat) : ∀ N, (∀ x, x < N → P x = true → f x < M) → sm (fun m => cn (fun x => P x && decide (f x = m)) N) M = cn P N
  | 0, _ => sm_zero M
  | N + 1, h => by
    have ih := sumfib P f N (fun x hx => h x (by omega))
    have e : sm (fun m => cn (fun x => P x && decide (f x = m)) (N + 1)) M = sm (fun m => cn (fun x => P x && decide (f x = m)) N + (if (P N && decide (f N = m)) = true then 1 else 0)) M := sm_congr (fun m _ => cn_s _ _)
    rw [e, sm_add, ih, cn_s]
    cases hP : P N with
    | false =>
      rw [sm_congr (g := fun _ => 0) (fun m _ => by simp), sm_zero]; rfl
    | true =>
      rw [sm_congr (g := fun m => if f N = m then 1 else 0) (fun m _ => by simp), sm_ind, if_pos (h N (by omega) hP)]; rfl
theorem cn_0 {P : Nat → Bool} : ∀ {N : Nat}, (∀ x, x < N → P x = false) → cn P N = 0
  | 0, _ => rfl
  | N + 1, h => by rw [cn_s, cn_0 (fun x hx => h x (by omega)), h N (by omega)]; rfl
/-- all fibres of f on P are as large as the one of f 0 -/
theorem fibers {N M : Nat} (P : Nat → Bool) (f : Nat → Nat) (hf : ∀ x, x < 2 ^ N → P x = true → f x < M)
    (ht : ∀ x0, x0 < 2 ^ N → P x0 = true → ∀ x, (P (x ^^^ x0) && decide (f (x ^^^ x0) = f 0)) = (P x && decide (f x = f x0))) :
    cn P (2 ^ N) = cn (fun m => exb (fun x => P x && decide (f x = m)) (2 ^ N)) M * cn (fun x => P x && decide (f x = f 0)) (2 ^ N) := by
  rw [← sumfib P f (2 ^ N) hf, ← sm_ite]
  apply sm_congr
  intro m _
  by_cases h : exb (fun x => P x && decide (f x = m)) (2 ^ N) = true
  · rw [if_pos h]
    obtain ⟨x0, h1, h2⟩ := (exb_iff _ _).mp h
    simp only [Bool.and_eq_true, decide_eq_true_eq] at h2
    rw [← cn_xor N (fun x => P x && decide (f x = f 0)) x0 h1]
    apply cn_congr
    intro x _
    rw [ht x0 h1 h2.1 x, h2.2]
  · rw [if_neg h]
    apply cn_0
    intro x hx
    cases hq : (P x && decide (f x = m)) with
    | false => rfl
    | true => exact absurd ((exb_iff _ _).mpr ⟨x, hx, hq⟩) h
/-- rows restricted to S -/
def wS (w : Nat → Nat) (S i : Nat) : Nat := w i &&& S
theorem kr_xor {w c : Nat → Nat} {kind S k x y : Nat} (hy : kr w c kind S y k = true) : kr w c kind S (x ^^^ y) k = kr w c kind S x k := by
  rw [Bool.eq_iff_iff, kr_iff, kr_iff]
  rw [kr_iff] at hy
  exact ⟨fun h i hi hc => by have := h i hi hc; rw [dt_xr, hy i hi hc] at this; simpa using this, fun h i hi hc => by rw [dt_xr, hy i hi hc, h i hi hc]; rfl⟩
/-- the messages of the system restricted to S -/
def eS (n k : Nat) (w c : Nat → Nat) (S m : Nat) : Bool := exb (fun x => kr w c 1 S x k && decide (sy k (wS w S) c 0 x = m)) (2 ^ n)
theorem eS_count {n k : Nat} {w c : Nat → Nat} (hR : RS n k w c) (S : Nat) : cn (eS n k w c S) (2 ^ nk c 0 k) = 2 ^ (rA k w c S - rC k w c S) := by
  have hw : ∀ i, i < k → wS w S i < 256 := fun i hi => and_lt8 (hR.w8 hi)
  have h := fibers (N := n) (M := 2 ^ nk c 0 k) (fun x => kr w c 1 S x k) (fun x => sy k (wS w S) c 0 x) (fun x _ _ => sy_lt k (wS w S) c 0 x) (fun x0 _ hx0 x => by
    rw [kr_xor hx0]
    congr 1
    rw [decide_eq_decide]
    show sy k (wS w S) c 0 (x ^^^ x0) = sy k (wS w S) c 0 0 ↔ sy k (wS w S) c 0 x = sy k (wS w S) c 0 x0
    rw [sy_eq k hw, sy_eq k hw]
    exact ⟨fun h i hi hc => by have := h i hi hc; rw [dt_xr, dt_0r] at this; revert this; cases dt (wS w S i) x <;> cases dt (wS w S i) x0 <;> simp, fun h i hi hc => by rw [dt_xr, dt_0r, h i hi hc]; simp⟩)
  have e : cn (fun x => kr w c 1 S x k && decide (sy k (wS w S) c 0 x = sy k (wS w S) c 0 0)) (2 ^ n) = cn (fun x => kr w c 1 S x k && kr w c 0 S x k) (2 ^ n) := cn_congr (fun x _ => by
    congr 1
    rw [Bool.eq_iff_iff, decide_eq_true_eq, sy_0, sy_z hw, kr_iff]
    exact Iff.rfl)
  rw [e] at h
  have h1 : cn (fun x => kr w c 1 S x k) (2 ^ n) * 2 ^ rC k w c S = 2 ^ n := rC_rk hR S
  have h2 : cn (fun x => kr w c 1 S x k && kr w c 0 S x k) (2 ^ n) * 2 ^ rA k w c S = 2 ^ n := rA_rk hR S
  have hle := rC_le k w c S
  have hp := Nat.two_pow_pos n
  have hpos : 0 < cn (fun x => kr w c 1 S x k && kr w c 0 S x k) (2 ^ n) := by
    rcases Nat.eq_zero_or_pos (cn (fun x => kr w c 1 S x k && kr w c 0 S x k) (2 ^ n)) with h0 | h0
    · rw [h0, Nat.zero_mul] at h2; omega
    · exact h0
  have he : 2 ^ rA k w c S = 2 ^ (rA k w c S - rC k w c S) * 2 ^ rC k w c S := by rw [← Nat.pow_add]; congr 1; omega
  show cn (fun m => exb (fun x => kr w c 1 S x k && decide (sy k (wS w S) c 0 x = m)) (2 ^ n)) (2 ^ nk c 0 k) = _
  generalize cn (fun m => exb (fun x => kr w c 1 S x k && decide (sy k (wS w S) c 0 x = m)) (2 ^ n)) (2 ^ nk c 0 k) = E at h ⊢
  generalize cn (fun x => kr w c 1 S x k && kr w c 0 S x k) (2 ^ n) = Ka at *
  rw [h] at h1
  have h3 : Ka * (E * 2 ^ rC k w c S) = Ka * (2 ^ (rA k w c S - rC k w c S) * 2 ^ rC k w c S) := by
    rw [← he, h2, ← h1, ← Nat.mul_assoc, Nat.mul_comm Ka E]
  have h4 := Nat.eq_of_mul_eq_mul_left hpos h3
  exact Nat.eq_of_mul_eq_mul_right (Nat.two_pow_pos _) h4
theorem all_and {n x : Nat} (h : x < 2 ^ n) : x &&& (2 ^ n - 1) = x := Nat.and_two_pow_sub_one_of_lt_two_pow h
theorem cw_kr {n k : Nat} {w c : Nat → Nat} (hR : RS n k w c) (x : Nat) : cw k w c x = kr w c 1 (2 ^ n - 1) x k := by
  rw [Bool.eq_iff_iff]
  unfold cw
  rw [decide_eq_true_eq, sy_z (fun i hi => hR.w8 hi), kr_iff]
  exact ⟨fun h i hi hc => by rw [all_and (hR.2.2.2.1 i hi).2]; exact h i hi hc, fun h i hi hc => by have := h i hi hc; rwa [all_and (hR.2.2.2.1 i hi).2] at this⟩
theorem sy_congr {w w' c : Nat → Nat} {kind x : Nat} : ∀ k, (∀ i, i < k → w i = w' i) → sy k w c kind x = sy k w' c kind x
  | 0, _ => rfl
  | k + 1, h => by rw [sy_s, sy_s, sy_congr k (fun i hi => h i (by omega)), h k (by omega)]
theorem ms_all {n k : Nat} {w c : Nat → Nat} (hR : RS n k w c) (x : Nat) : sy k (wS w (2 ^ n - 1)) c 0 x = ms k w c x :=
  sy_congr k (fun i hi => all_and (hR.2.2.2.1 i hi).2)
/-- counting a predicate that dies at A goes as far as A -/
theorem cn_ext {P : Nat → Bool} {A : Nat} (h : ∀ x, A ≤ x → P x = false) : ∀ d, cn P (A + d) = cn P A
  | 0 => rfl
  | d + 1 => by rw [← Nat.add_assoc, cn_s, cn_ext h d, h _ (by omega)]; rfl
theorem nkp {n k : Nat} {w c : Nat → Nat} (hR : RS n k w c) : 2 ^ nk c 0 k ≤ 64 := p2le6 (Nat.le_trans (nk_le c 0 k) hR.2.2.1)
theorem eS_64 {n k : Nat} {w c : Nat → Nat} (hR : RS n k w c) (S : Nat) : cn (eS n k w c S) 64 = 2 ^ (rA k w c S - rC k w c S) := by
  rw [← eS_count hR S]
  have hp := nkp hR
  have e : 64 = 2 ^ nk c 0 k + (64 - 2 ^ nk c 0 k) := by omega
  rw [e, cn_ext]
  intro m hm
  cases hq : eS n k w c S m with
  | false => rfl
  | true =>
    obtain ⟨x, h1, h2⟩ := (exb_iff _ _).mp hq
    simp only [Bool.and_eq_true, decide_eq_true_eq] at h2
    have := sy_lt k (wS w S) c 0 x
    omega
/-- the number of messages of codewords -/
theorem pm0 {n k : Nat} {w c : Nat → Nat} (hR : RS n k w c) : cn (pmb k w c 0 0 (2 ^ n)) 64 = 2 ^ (rA k w c (2 ^ n - 1) - rC k w c (2 ^ n - 1)) := by
  rw [← eS_64 hR]
  apply cn_congr
  intro m _
  unfold pmb eS
  rw [Bool.eq_iff_iff, exb_iff, exb_iff]
  have key : ∀ x, fm k w c 0 0 m x = (kr w c 1 (2 ^ n - 1) x k && decide (sy k (wS w (2 ^ n - 1)) c 0 x = m)) := by
    intro x
    unfold fm
    rw [cw_kr hR, ms_all hR, Nat.and_zero]
    simp
  exact ⟨fun ⟨x, a, b⟩ => ⟨x, a, by rw [← key]; exact b⟩, fun ⟨x, a, b⟩ => ⟨x, a, by rw [key]; exact b⟩⟩
/-- hidden bits grow with the positions -/
theorem hid_mono {n k : Nat} {w c : Nat → Nat} (hR : RS n k w c) (S : Nat) : rA k w c S - rC k w c S ≤ rA k w c (2 ^ n - 1) - rC k w c (2 ^ n - 1) := by
  have h1 := eS_64 hR S
  have h2 := eS_64 hR (2 ^ n - 1)
  have h3 : cn (eS n k w c S) 64 ≤ cn (eS n k w c (2 ^ n - 1)) 64 := by
    apply cn_mono
    intro m _ h
    obtain ⟨x, hx, hq⟩ := (exb_iff _ _).mp h
    simp only [Bool.and_eq_true, decide_eq_true_eq] at hq
    have e : ∀ i, dt (w i &&& (2 ^ n - 1)) (x &&& S) = dt ((w i &&& (2 ^ n - 1)) &&& S) x := fun i => by
      unfold dt
      generalize w i &&& (2 ^ n - 1) = a
      rw [Nat.and_assoc a S x, Nat.and_comm S x]
    have hw : ∀ i, i < k → wS w S i < 256 := fun i hi => and_lt8 (hR.w8 hi)
    refine (exb_iff _ _).mpr ⟨x &&& S, Nat.lt_of_le_of_lt Nat.and_le_left hx, ?_⟩
    simp only [Bool.and_eq_true, decide_eq_true_eq]
    refine ⟨?_, ?_⟩
    · rw [kr_iff]
      intro i hi hc
      rw [e, all_and (hR.2.2.2.1 i hi).2]
      exact (kr_iff _ _ _ _ _ _).mp hq.1 i hi hc
    · rw [← hq.2]
      show sy k (wS w (2 ^ n - 1)) c 0 (x &&& S) = sy k (wS w S) c 0 x
      have : ∀ j, j ≤ k → sy j (wS w (2 ^ n - 1)) c 0 (x &&& S) = sy j (wS w S) c 0 x := by
        intro j
        induction j with
        | zero => intro _; rfl
        | succ j ih =>
          intro hj
          rw [sy_s, sy_s, ih (by omega)]
          have : wS w (2 ^ n - 1) j &&& (x &&& S) = wS w S j &&& x := by
            unfold wS
            rw [all_and (hR.2.2.2.1 j (by omega)).2, Nat.and_assoc, Nat.and_comm S x]
          rw [this]
      exact this k (Nat.le_refl k)
  rw [h1, h2] at h3
  exact (Nat.pow_le_pow_iff_right (by decide)).mp h3
