/-! ===== the class's basis ===== -/
def mnr (r b : Nat) : Nat := if r ^^^ b < r then r ^^^ b else r
theorem x1odd : ∀ R, R < 256 → (R % 2 = 1 → R ^^^ 1 = R - 1) ∧ (R % 2 = 0 → R ^^^ 1 = R + 1) := by decide +kernel
theorem tb_div (r p : Nat) : r.testBit p = decide (r / 2 ^ p % 2 = 1) := by
  rw [Nat.testBit_eq_decide_div_mod_eq]
theorem mnr_bit {r b : Nat} (hr : r < 256) (hb : b ≠ 0) : (mnr r b).testBit b.log2 = false := by
  have h1 := Nat.log2_self_le hb
  have h2 : b < 2 ^ (b.log2 + 1) := Nat.lt_log2_self
  generalize hp : b.log2 = p at h1 h2
  have hpp := Nat.two_pow_pos p
  have hb1 : b / 2 ^ p = 1 := by
    rw [Nat.pow_succ] at h2
    exact Nat.div_eq_of_lt_le (by omega) (by omega)
  have hx : (r ^^^ b) / 2 ^ p = r / 2 ^ p ^^^ 1 := by
    rw [← Nat.shiftRight_eq_div_pow, Nat.shiftRight_xor_distrib, Nat.shiftRight_eq_div_pow, Nat.shiftRight_eq_div_pow, hb1]
  have hR : r / 2 ^ p < 256 := Nat.lt_of_le_of_lt (Nat.div_le_self _ _) hr
  have ho := x1odd _ hR
  rw [tb_div]
  unfold mnr
  rcases Nat.mod_two_eq_zero_or_one (r / 2 ^ p) with h | h
  · have h3 : ¬ r ^^^ b < r := by
      intro hlt
      have := Nat.div_le_div_right (c := 2 ^ p) (Nat.le_of_lt hlt)
      rw [hx, ho.2 h] at this
      omega
    rw [if_neg h3, h]; rfl
  · have h3 : r ^^^ b < r := by
      rcases Nat.lt_or_ge (r ^^^ b) r with hlt | hge
      · exact hlt
      · have := Nat.div_le_div_right (c := 2 ^ p) hge
        rw [hx, ho.1 h] at this
        generalize r / 2 ^ p = R at this h
        omega
    rw [if_pos h3, hx, ho.1 h]
    have : (r / 2 ^ p - 1) % 2 = 0 := by
      generalize r / 2 ^ p = R at h
      omega
    rw [this]; rfl
theorem mnr_or (r b : Nat) : mnr r b = r ∨ mnr r b = r ^^^ b := by unfold mnr; split <;> simp
theorem mnr_lt {N r b : Nat} (hr : r < 2 ^ N) (hb : b < 2 ^ N) : mnr r b < 2 ^ N := by
  rcases mnr_or r b with h | h <;> rw [h]
  · exact hr
  · exact Nat.xor_lt_two_pow hr hb
def red (B : List Nat) (r : Nat) : Nat := B.foldl mnr r
def ext (B : List Nat) (r : Nat) : List Nat := if red B r = 0 then B else B ++ [red B r]
def tp (B : List Nat) : List (Nat × Nat) := B.map (fun b => (b, b.log2))
theorem tp_map (B : List Nat) : (tp B).map (fun q => q.1) = B := by unfold tp; rw [List.map_map]; exact (List.map_congr_left (fun _ _ => rfl)).trans (List.map_id B)
theorem red_lt {N : Nat} : ∀ (B : List Nat) (r : Nat), (∀ b ∈ B, b < 2 ^ N) → r < 2 ^ N → red B r < 2 ^ N
  | [], r, _, hr => hr
  | b :: B, r, hB, hr => red_lt B (mnr r b) (fun x hx => hB x (List.mem_cons_of_mem _ hx)) (mnr_lt hr (hB b List.mem_cons_self))
theorem red_dt {x : Nat} : ∀ (B : List Nat) (r : Nat), ker B x = true → dt (red B r) x = dt r x
  | [], r, _ => rfl
  | b :: B, r, h => by
    have hb : dt b x = false := ker_iff.mp h b List.mem_cons_self
    have hk : ker B x = true := ker_iff.mpr (fun s hs => ker_iff.mp h s (List.mem_cons_of_mem _ hs))
    show dt (red B (mnr r b)) x = _
    rw [red_dt B _ hk]
    rcases mnr_or r b with e | e <;> rw [e]
    rw [dt_xl, hb]; simp
/-- a bit that r and all of B lack stays away -/
theorem red_keep {p : Nat} : ∀ (B : List Nat) (r : Nat), (∀ b ∈ B, b.testBit p = false) → r.testBit p = false → (red B r).testBit p = false
  | [], r, _, hr => hr
  | b :: B, r, hB, hr => by
    show (red B (mnr r b)).testBit p = false
    apply red_keep B _ (fun x hx => hB x (List.mem_cons_of_mem _ hx))
    rcases mnr_or r b with e | e <;> rw [e]
    · exact hr
    · rw [Nat.testBit_xor, hr, hB b List.mem_cons_self]; rfl
theorem red_piv {N : Nat} (hN : N ≤ 8) : ∀ (B : List Nat) (r : Nat), Tri N (tp B) → (∀ b ∈ B, b < 2 ^ N) → r < 2 ^ N → ∀ b ∈ B, (red B r).testBit b.log2 = false
  | [], _, _, _, _, b, hb => by cases hb
  | a :: B, r, hT, hB, hr, b, hb => by
    have hp := p2le hN
    obtain ⟨h1, h2, h3, h4, h5⟩ := hT
    have hm : mnr r a < 2 ^ N := mnr_lt hr (hB a List.mem_cons_self)
    show (red B (mnr r a)).testBit b.log2 = false
    rcases List.mem_cons.mp hb with e | e
    · subst e
      apply red_keep
      · intro s hs
        exact h4 (s, s.log2) (List.mem_map.mpr ⟨s, hs, rfl⟩)
      · exact mnr_bit (by omega) (fun h0 => by rw [h0] at h3; exact absurd h3 (by decide))
    · exact red_piv hN B _ h5 (fun x hx => hB x (List.mem_cons_of_mem _ hx)) hm b e
theorem tri_snoc {N : Nat} {q : Nat × Nat} : ∀ {t : List (Nat × Nat)}, Tri N t → q.2 < N → q.1 < 256 → q.1.testBit q.2 = true → (∀ s ∈ t, q.1.testBit s.2 = false) → Tri N (t ++ [q])
  | [], _, h1, h2, h3, _ => ⟨h1, h2, h3, (fun _ h => by cases h), trivial⟩
  | a :: t, h, h1, h2, h3, h4 => by
    refine ⟨h.1, h.2.1, h.2.2.1, fun s hs => ?_, tri_snoc h.2.2.2.2 h1 h2 h3 (fun s hs => h4 s (List.mem_cons_of_mem _ hs))⟩
    rcases List.mem_append.mp hs with e | e
    · exact h.2.2.2.1 s e
    · rw [List.mem_singleton.mp e]; exact h4 a List.mem_cons_self
/-- a basis of words below 2 ^ n -/
def BS (n : Nat) (B : List Nat) : Prop := Tri n (tp B) ∧ ∀ b ∈ B, b < 2 ^ n
theorem BS_nil (n : Nat) : BS n [] := ⟨trivial, fun _ h => by cases h⟩
theorem BS_ext {n : Nat} (hn : n ≤ 8) {B : List Nat} (h : BS n B) {r : Nat} (hr : r < 2 ^ n) : BS n (ext B r) := by
  unfold ext
  split
  · exact h
  · rename_i h0
    have hl := red_lt B r h.2 hr
    have hp := p2le hn
    refine ⟨?_, fun b hb => ?_⟩
    · unfold tp
      rw [List.map_append]
      refine tri_snoc h.1 ((Nat.log2_lt h0).mpr hl) (by show red B r < 256; omega) (Nat.testBit_log2 h0) (fun s hs => ?_)
      obtain ⟨b, hb, rfl⟩ := List.mem_map.mp hs
      exact red_piv hn B r h.1 h.2 hr b hb
    · rcases List.mem_append.mp hb with e | e
      · exact h.2 b e
      · rw [List.mem_singleton.mp e]; exact hl
theorem ker_ext (B : List Nat) (r x : Nat) : ker (ext B r) x = (ker B x && !dt r x) := by
  unfold ext
  cases hk : ker B x with
  | false =>
    split
    · exact hk
    · show ker (B ++ [red B r]) x = false
      rw [Bool.eq_false_iff]
      intro h
      have : ker B x = true := ker_iff.mpr (fun s hs => ker_iff.mp h s (List.mem_append_left _ hs))
      rw [hk] at this; cases this
  | true =>
    have hd := red_dt B r hk
    split
    · rename_i h0
      rw [h0, dt_0l] at hd
      rw [← hd, hk]; rfl
    · rw [← hd]
      rw [Bool.eq_iff_iff, ker_iff]
      constructor
      · intro h
        rw [h _ (List.mem_append_right _ (List.mem_singleton.mpr rfl))]; rfl
      · intro h s hs
        rcases List.mem_append.mp hs with e | e
        · exact ker_iff.mp hk s e
        · rw [List.mem_singleton.mp e]; simpa using h
theorem BS_count {n : Nat} (hn : n ≤ 8) {B : List Nat} (h : BS n B) : cn (ker B) (2 ^ n) * 2 ^ B.length = 2 ^ n := by
  have := tri_count hn (tp B) h.1
  rw [tp_map] at this
  unfold tp at this
  rw [List.length_map] at this
  exact this
theorem ext_len (B : List Nat) (r : Nat) : (ext B r).length = B.length ∨ (ext B r).length = B.length + 1 := by
  unfold ext
  split
  · exact Or.inl rfl
  · right; simp
/-- the rows of a kind, restricted to S, put into B -/
def eb (w c : Nat → Nat) (kind S : Nat) (B : List Nat) : Nat → List Nat
  | 0 => B
  | i + 1 => if c i = kind then ext (eb w c kind S B i) (w i &&& S) else eb w c kind S B i
theorem eb_s (w c : Nat → Nat) (kind S : Nat) (B : List Nat) (i : Nat) : eb w c kind S B (i + 1) = if c i = kind then ext (eb w c kind S B i) (w i &&& S) else eb w c kind S B i := rfl
def nk (c : Nat → Nat) (kind : Nat) : Nat → Nat
  | 0 => 0
  | i + 1 => nk c kind i + if c i = kind then 1 else 0
theorem nk_s (c : Nat → Nat) (kind i : Nat) : nk c kind (i + 1) = nk c kind i + if c i = kind then 1 else 0 := rfl
theorem nk_01 (c : Nat → Nat) : ∀ k, (∀ i, i < k → c i < 2) → nk c 0 k + nk c 1 k = k
  | 0, _ => rfl
  | k + 1, h => by
    have ih := nk_01 c k (fun i hi => h i (by omega))
    have := h k (by omega)
    rw [nk_s, nk_s]
    rcases (show c k = 0 ∨ c k = 1 by omega) with e | e <;> simp [e] <;> omega
theorem nk_lt {c : Nat → Nat} {kind i : Nat} (hc : c i = kind) : ∀ k, i < k → nk c kind i + 1 ≤ nk c kind k
  | 0, h => absurd h (Nat.not_lt_zero i)
  | k + 1, h => by
    rw [nk_s]
    rcases Nat.lt_or_ge i k with h1 | h1
    · have := nk_lt hc k h1; omega
    · have : i = k := by omega
      subst this
      rw [if_pos hc]; omega
theorem eb_len (w c : Nat → Nat) (kind S : Nat) (B : List Nat) : ∀ i, B.length ≤ (eb w c kind S B i).length ∧ (eb w c kind S B i).length ≤ B.length + nk c kind i
  | 0 => ⟨Nat.le_refl _, Nat.le_refl _⟩
  | i + 1 => by
    have ih := eb_len w c kind S B i
    rw [eb_s, nk_s]
    split
    · rcases ext_len (eb w c kind S B i) (w i &&& S) with e | e <;> rw [e] <;> omega
    · omega
theorem and_ltN {N a b : Nat} (h : a < 2 ^ N) : a &&& b < 2 ^ N := Nat.lt_of_le_of_lt Nat.and_le_left h
theorem eb_BS {n : Nat} (hn : n ≤ 8) {w c : Nat → Nat} {kind S : Nat} {B : List Nat} (h : BS n B) : ∀ i, (∀ j, j < i → w j < 2 ^ n) → BS n (eb w c kind S B i)
  | 0, _ => h
  | i + 1, hw => by
    have ih := eb_BS hn (c := c) (kind := kind) (S := S) h i (fun j hj => hw j (by omega))
    rw [eb_s]
    split
    · exact BS_ext hn ih (and_ltN (hw i (by omega)))
    · exact ih
/-- all rows of a kind, restricted to S, vanish on x -/
def kr (w c : Nat → Nat) (kind S x : Nat) : Nat → Bool
  | 0 => true
  | i + 1 => kr w c kind S x i && (if c i = kind then !dt (w i &&& S) x else true)
theorem kr_s (w c : Nat → Nat) (kind S x i : Nat) : kr w c kind S x (i + 1) = (kr w c kind S x i && (if c i = kind then !dt (w i &&& S) x else true)) := rfl
theorem kr_iff (w c : Nat → Nat) (kind S x : Nat) : ∀ k, kr w c kind S x k = true ↔ ∀ i, i < k → c i = kind → dt (w i &&& S) x = false
  | 0 => ⟨fun _ i hi => absurd hi (Nat.not_lt_zero i), fun _ => rfl⟩
  | k + 1 => by
    rw [kr_s, Bool.and_eq_true, kr_iff w c kind S x k]
    constructor
    · intro ⟨h1, h2⟩ i hi hc
      rcases Nat.lt_or_ge i k with h | h
      · exact h1 i h hc
      · have : i = k := by omega
        subst this
        rw [if_pos hc] at h2
        simpa using h2
    · intro h
      refine ⟨fun i hi hc => h i (by omega) hc, ?_⟩
      split
      · rename_i hc
        rw [h k (by omega) hc]; rfl
      · rfl
theorem eb_ker (w c : Nat → Nat) (kind S : Nat) (B : List Nat) (x : Nat) : ∀ i, ker (eb w c kind S B i) x = (ker B x && kr w c kind S x i)
  | 0 => by show ker B x = (ker B x && true); simp
  | i + 1 => by
    have ih := eb_ker w c kind S B x i
    rw [eb_s, kr_s]
    split
    · rename_i h
      rw [ker_ext, ih, Bool.and_assoc]
    · rw [ih]; simp
def IsRk (n : Nat) (P : Nat → Bool) (a : Nat) : Prop := cn P (2 ^ n) * 2 ^ a = 2 ^ n
theorem IsRk.uniq {n : Nat} {P : Nat → Bool} {a b : Nat} (h1 : IsRk n P a) (h2 : IsRk n P b) : a = b := by
  unfold IsRk at h1 h2
  have hp := Nat.two_pow_pos n
  have hc : 0 < cn P (2 ^ n) := by
    rcases Nat.eq_zero_or_pos (cn P (2 ^ n)) with h | h
    · rw [h, Nat.zero_mul] at h1; omega
    · exact h
  have : 2 ^ a = 2 ^ b := Nat.eq_of_mul_eq_mul_left hc (h1.trans h2.symm)
  exact (Nat.pow_right_inj (by decide)).mp this
theorem IsRk.congr {n : Nat} {P Q : Nat → Bool} {a : Nat} (h : IsRk n P a) (e : ∀ x, x < 2 ^ n → P x = Q x) : IsRk n Q a := by
  unfold IsRk at *
  rw [← cn_congr e]; exact h
theorem IsRk.le {n : Nat} {P : Nat → Bool} {a : Nat} (h : IsRk n P a) : a ≤ n := by
  unfold IsRk at h
  have hp := Nat.two_pow_pos n
  have hc : 0 < cn P (2 ^ n) := by
    rcases Nat.eq_zero_or_pos (cn P (2 ^ n)) with h0 | h0
    · rw [h0, Nat.zero_mul] at h; omega
    · exact h0
  have h1 : 2 ^ a ≤ 2 ^ n := by
    rw [← h]
    exact Nat.le_mul_of_pos_left _ hc
  exact (Nat.pow_le_pow_iff_right (by decide)).mp h1
/-- the ranks of check rows, message rows, all rows, restricted to S -/
def rC (k : Nat) (w c : Nat → Nat) (S : Nat) : Nat := (eb w c 1 S [] k).length
def rM (k : Nat) (w c : Nat → Nat) (S : Nat) : Nat := (eb w c 0 S [] k).length
def rA (k : Nat) (w c : Nat → Nat) (S : Nat) : Nat := (eb w c 0 S (eb w c 1 S [] k) k).length
theorem rC_rk {n k : Nat} {w c : Nat → Nat} (hR : RS n k w c) (S : Nat) : IsRk n (fun x => kr w c 1 S x k) (rC k w c S) := by
  have hB := eb_BS hR.2.1 (c := c) (kind := 1) (S := S) (BS_nil n) k (fun j hj => (hR.2.2.2.1 j hj).2)
  have := BS_count hR.2.1 hB
  exact IsRk.congr this (fun x _ => by rw [eb_ker]; rfl)
theorem rM_rk {n k : Nat} {w c : Nat → Nat} (hR : RS n k w c) (S : Nat) : IsRk n (fun x => kr w c 0 S x k) (rM k w c S) := by
  have hB := eb_BS hR.2.1 (c := c) (kind := 0) (S := S) (BS_nil n) k (fun j hj => (hR.2.2.2.1 j hj).2)
  have := BS_count hR.2.1 hB
  exact IsRk.congr this (fun x _ => by rw [eb_ker]; rfl)
theorem rA_rk {n k : Nat} {w c : Nat → Nat} (hR : RS n k w c) (S : Nat) : IsRk n (fun x => kr w c 1 S x k && kr w c 0 S x k) (rA k w c S) := by
  have hB := eb_BS hR.2.1 (c := c) (kind := 1) (S := S) (BS_nil n) k (fun j hj => (hR.2.2.2.1 j hj).2)
  have hB2 := eb_BS hR.2.1 (c := c) (kind := 0) (S := S) hB k (fun j hj => (hR.2.2.2.1 j hj).2)
  have := BS_count hR.2.1 hB2
  exact IsRk.congr this (fun x _ => by rw [eb_ker, eb_ker]; rfl)
theorem rA2_rk {n k : Nat} {w c : Nat → Nat} (hR : RS n k w c) (S : Nat) : (eb w c 1 S (eb w c 0 S [] k) k).length = rA k w c S := by
  have hB := eb_BS hR.2.1 (c := c) (kind := 0) (S := S) (BS_nil n) k (fun j hj => (hR.2.2.2.1 j hj).2)
  have hB2 := eb_BS hR.2.1 (c := c) (kind := 1) (S := S) hB k (fun j hj => (hR.2.2.2.1 j hj).2)
  have := BS_count hR.2.1 hB2
  exact IsRk.uniq (IsRk.congr this (fun x _ => by rw [eb_ker, eb_ker]; show _ = (kr w c 1 S x k && kr w c 0 S x k); rw [show ker [] x = true from rfl, Bool.true_and, Bool.and_comm])) (rA_rk hR S)
theorem rC_le (k : Nat) (w c : Nat → Nat) (S : Nat) : rC k w c S ≤ rA k w c S := (eb_len w c 0 S _ k).1
theorem rA_le6 {n k : Nat} {w c : Nat → Nat} (hR : RS n k w c) (S : Nat) : rA k w c S ≤ k := by
  have h1 := (eb_len w c 0 S (eb w c 1 S [] k) k).2
  have h2 := (eb_len w c 1 S [] k).2
  have h3 := nk_01 c k hR.2.2.2.2
  have h4 : ([] : List Nat).length = 0 := rfl
  unfold rA
  omega
