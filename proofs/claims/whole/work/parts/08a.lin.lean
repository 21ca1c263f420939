/-! ===== linear algebra over two elements: words below 2 ^ N, N ≤ 8 ===== -/
def px (x : Nat) : Bool := x.testBit 0 ^^ (x.testBit 1 ^^ (x.testBit 2 ^^ (x.testBit 3 ^^ (x.testBit 4 ^^ (x.testBit 5 ^^ (x.testBit 6 ^^ x.testBit 7))))))
theorem px_pop : ∀ x, x < 256 → pop x % 2 = (px x).toNat := by decide +kernel
theorem bx1 (a b X Y : Bool) : ((a ^^ b) ^^ (X ^^ Y)) = ((a ^^ X) ^^ (b ^^ Y)) := by cases a <;> cases b <;> cases X <;> cases Y <;> rfl
theorem bx8 (a0 a1 a2 a3 a4 a5 a6 a7 b0 b1 b2 b3 b4 b5 b6 b7 : Bool) : ((a0 ^^ b0) ^^ ((a1 ^^ b1) ^^ ((a2 ^^ b2) ^^ ((a3 ^^ b3) ^^ ((a4 ^^ b4) ^^ ((a5 ^^ b5) ^^ ((a6 ^^ b6) ^^ (a7 ^^ b7)))))))) = ((a0 ^^ (a1 ^^ (a2 ^^ (a3 ^^ (a4 ^^ (a5 ^^ (a6 ^^ a7))))))) ^^ (b0 ^^ (b1 ^^ (b2 ^^ (b3 ^^ (b4 ^^ (b5 ^^ (b6 ^^ b7)))))))) := by rw [bx1 a6 b6 a7 b7, bx1 a5 b5 _ _, bx1 a4 b4 _ _, bx1 a3 b3 _ _, bx1 a2 b2 _ _, bx1 a1 b1 _ _, bx1 a0 b0 _ _]
theorem px_xor (a b : Nat) : px (a ^^^ b) = (px a ^^ px b) := by
  unfold px
  simp only [Nat.testBit_xor]
  exact bx8 _ _ _ _ _ _ _ _ _ _ _ _ _ _ _ _
def dt (r x : Nat) : Bool := px (r &&& x)
theorem dt_xr (r x y : Nat) : dt r (x ^^^ y) = (dt r x ^^ dt r y) := by unfold dt; rw [Nat.and_xor_distrib_left, px_xor]
theorem dt_xl (r s x : Nat) : dt (r ^^^ s) x = (dt r x ^^ dt s x) := by unfold dt; rw [Nat.and_xor_distrib_right, px_xor]
theorem dt_0l (x : Nat) : dt 0 x = false := by unfold dt; rw [Nat.zero_and]; rfl
theorem dt_0r (r : Nat) : dt r 0 = false := by unfold dt; rw [Nat.and_zero]; rfl
theorem dt_pw : ∀ p, p < 8 → ∀ r, r < 256 → dt r (2 ^ p) = r.testBit p := by decide +kernel
theorem xx (x z : Nat) : x ^^^ z ^^^ z = x := by rw [Nat.xor_assoc, Nat.xor_self, Nat.xor_zero]
theorem addx {N a b : Nat} (ha : a < 2 ^ N) (hb : b < 2 ^ N) : (2 ^ N + a) ^^^ b = 2 ^ N + (a ^^^ b) := by
  apply Nat.eq_of_testBit_eq
  intro j
  have e1 : 2 ^ N + a = 2 ^ N * 1 + a := by omega
  have e2 : 2 ^ N + (a ^^^ b) = 2 ^ N * 1 + (a ^^^ b) := by omega
  rw [Nat.testBit_xor, e1, e2, Nat.testBit_two_pow_mul_add _ ha, Nat.testBit_two_pow_mul_add _ (Nat.xor_lt_two_pow ha hb)]
  split
  · rw [Nat.testBit_xor]
  · rename_i h
    rw [Nat.testBit_lt_two_pow (Nat.lt_of_lt_of_le hb (Nat.pow_le_pow_right (by decide) (by omega)))]
    simp
theorem pwx {N x : Nat} (h : x < 2 ^ N) : 2 ^ N + x = 2 ^ N ^^^ x := by
  have := addx (a := 0) (b := x) (Nat.two_pow_pos N) h
  rw [Nat.add_zero, Nat.zero_xor] at this
  exact this.symm
theorem cn_xor : ∀ (N : Nat) (Q : Nat → Bool) (z : Nat), z < 2 ^ N → cn (fun x => Q (x ^^^ z)) (2 ^ N) = cn Q (2 ^ N)
  | 0, Q, z, hz => by
    have : z = 0 := by omega
    subst this
    apply cn_congr
    intro x _
    rw [Nat.xor_zero]
  | N + 1, Q, z, hz => by
    have e : 2 ^ (N + 1) = 2 ^ N + 2 ^ N := by rw [Nat.pow_succ]; omega
    rw [e, cn_add, cn_add]
    rcases Nat.lt_or_ge z (2 ^ N) with h | h
    · rw [cn_xor N Q z h]
      congr 1
      rw [← cn_xor N (fun i => Q (2 ^ N + i)) z h]
      apply cn_congr
      intro x hx
      rw [addx hx h]
    · obtain ⟨y, rfl⟩ : ∃ y, z = 2 ^ N + y := ⟨z - 2 ^ N, by omega⟩
      have hy : y < 2 ^ N := by omega
      rw [Nat.add_comm (cn Q (2 ^ N))]
      congr 1
      · rw [← cn_xor N (fun i => Q (2 ^ N + i)) y hy]
        apply cn_congr
        intro x hx
        rw [Nat.xor_comm x, addx hy hx, Nat.xor_comm y]
      · rw [← cn_xor N Q y hy]
        apply cn_congr
        intro x hx
        have : 2 ^ N + x ^^^ (2 ^ N + y) = x ^^^ y := by
          rw [pwx hx, pwx hy, Nat.xor_comm (2 ^ N) x, Nat.xor_assoc, ← Nat.xor_assoc (2 ^ N) (2 ^ N) y, Nat.xor_self, Nat.zero_xor]
        rw [this]
theorem cn_split (P g : Nat → Bool) : ∀ N, cn P N = cn (fun x => P x && g x) N + cn (fun x => P x && !g x) N
  | 0 => rfl
  | N + 1 => by
    rw [cn_s, cn_s, cn_s, cn_split P g N]
    cases P N <;> cases g N <;> simp <;> omega
/-- a translation that keeps P and turns g: half of P has g -/
theorem half {N z : Nat} (hz : z < 2 ^ N) {P g : Nat → Bool} (hP : ∀ x, P (x ^^^ z) = P x) (hg : ∀ x, g (x ^^^ z) = !g x) : cn P (2 ^ N) = 2 * cn (fun x => P x && !g x) (2 ^ N) := by
  rw [cn_split P g, ← cn_xor N (fun x => P x && g x) z hz]
  have : cn (fun x => (P (x ^^^ z) && g (x ^^^ z))) (2 ^ N) = cn (fun x => P x && !g x) (2 ^ N) := cn_congr (fun x _ => by rw [hP, hg])
  omega
def ker (L : List Nat) (x : Nat) : Bool := L.all (fun r => !dt r x)
theorem ker_iff {L : List Nat} {x : Nat} : ker L x = true ↔ ∀ r ∈ L, dt r x = false := by unfold ker; simp
theorem ker_xor {L : List Nat} {z : Nat} (hz : ker L z = true) (x : Nat) : ker L (x ^^^ z) = ker L x := by
  rw [Bool.eq_iff_iff, ker_iff, ker_iff]
  rw [ker_iff] at hz
  constructor
  · intro h r hr
    have := h r hr
    rw [dt_xr, hz r hr] at this
    simpa using this
  · intro h r hr
    rw [dt_xr, hz r hr, h r hr]; rfl
def Tri (N : Nat) : List (Nat × Nat) → Prop
  | [] => True
  | q :: t => q.2 < N ∧ q.1 < 256 ∧ q.1.testBit q.2 = true ∧ (∀ s ∈ t, s.1.testBit q.2 = false) ∧ Tri N t
theorem tri_mem {N : Nat} : ∀ {t : List (Nat × Nat)}, Tri N t → ∀ q ∈ t, q.2 < N ∧ q.1 < 256 ∧ q.1.testBit q.2 = true
  | [], _, q, hq => by cases hq
  | a :: t, h, q, hq => by
    rcases List.mem_cons.mp hq with e | e
    · subst e; exact ⟨h.1, h.2.1, h.2.2.1⟩
    · exact tri_mem h.2.2.2.2 q e
theorem p2lt {p N : Nat} (h : p < N) : 2 ^ p < 2 ^ N := Nat.pow_lt_pow_right (by decide) h
theorem tri_count {N : Nat} (hN : N ≤ 8) : ∀ (t : List (Nat × Nat)), Tri N t → cn (ker (t.map (fun q => q.1))) (2 ^ N) * 2 ^ t.length = 2 ^ N
  | [], _ => by
    have h : ∀ m, cn (ker []) m = m := by
      intro m
      induction m with
      | zero => rfl
      | succ m ih => rw [cn_s, ih]; rfl
    show cn (ker []) (2 ^ N) * 2 ^ 0 = 2 ^ N
    rw [h]; omega
  | q :: t, h => by
    have ih := tri_count hN t h.2.2.2.2
    obtain ⟨h1, h2, h3, h4, h5⟩ := h
    have hz : ker (t.map (fun q => q.1)) (2 ^ q.2) = true := by
      rw [ker_iff]
      intro r hr
      obtain ⟨s, hs, rfl⟩ := List.mem_map.mp hr
      rw [dt_pw _ (by omega) _ (tri_mem h5 s hs).2.1]
      exact h4 s hs
    have hh := half (N := N) (z := 2 ^ q.2) (p2lt h1) (P := ker (t.map (fun q => q.1))) (g := dt q.1) (ker_xor hz) (fun x => by rw [dt_xr, dt_pw _ (by omega) _ h2, h3]; simp)
    have e : cn (ker ((q :: t).map (fun q => q.1))) (2 ^ N) = cn (fun x => ker (t.map (fun q => q.1)) x && !dt q.1 x) (2 ^ N) := cn_congr (fun x _ => by
      show (!dt q.1 x && ker (t.map (fun q => q.1)) x) = _
      rw [Bool.and_comm])
    rw [e, List.length_cons, Nat.pow_succ, Nat.mul_comm (2 ^ t.length) 2, ← Nat.mul_assoc, Nat.mul_comm _ 2, ← hh]
    exact ih
/-- a word may be put right on a triangular list without a change for those that lack its pivots -/
theorem tri_fix {N : Nat} (hN : N ≤ 8) : ∀ (t : List (Nat × Nat)), Tri N t → ∀ x, x < 2 ^ N → ∃ z, z < 2 ^ N ∧ ker (t.map (fun q => q.1)) z = true ∧ ∀ r, r < 256 → (∀ q ∈ t, r.testBit q.2 = false) → dt r z = dt r x
  | [], _, x, hx => ⟨x, hx, rfl, fun _ _ _ => rfl⟩
  | q :: t, h, x, hx => by
    obtain ⟨h1, h2, h3, h4, h5⟩ := h
    obtain ⟨z, hz, hk, hr⟩ := tri_fix hN t h5 x hx
    cases hd : dt q.1 z with
    | false =>
      refine ⟨z, hz, ?_, fun r h8 hq => hr r h8 (fun s hs => hq s (List.mem_cons_of_mem _ hs))⟩
      show (!dt q.1 z && ker (t.map (fun q => q.1)) z) = true
      rw [hd, hk]; rfl
    | true =>
      refine ⟨z ^^^ 2 ^ q.2, Nat.xor_lt_two_pow hz (p2lt h1), ?_, fun r h8 hq => ?_⟩
      · rw [ker_iff]
        intro r hr2
        rcases List.mem_cons.mp hr2 with e | e
        · rw [e, dt_xr, hd, dt_pw _ (by omega) _ h2, h3]; rfl
        · obtain ⟨s, hs, rfl⟩ := List.mem_map.mp e
          rw [dt_xr, (ker_iff.mp hk) s.1 e, dt_pw _ (by omega) _ (tri_mem h5 s hs).2.1, h4 s hs]; rfl
      · rw [dt_xr, dt_pw _ (by omega) _ h8, hq q List.mem_cons_self, hr r h8 (fun s hs => hq s (List.mem_cons_of_mem _ hs))]
        simp
