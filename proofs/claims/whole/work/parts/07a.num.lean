/-! ===== numbers: Int32 by Nat, reads and writes, loops ===== -/
theorem li0 : (0 : Int32) = nI 0 := rfl
theorem li1 : (1 : Int32) = nI 1 := rfl
theorem li2 : (2 : Int32) = nI 2 := rfl
theorem li3 : (3 : Int32) = nI 3 := rfl
theorem li4 : (4 : Int32) = nI 4 := rfl
theorem li5 : (5 : Int32) = nI 5 := rfl
theorem li6 : (6 : Int32) = nI 6 := rfl
theorem li7 : (7 : Int32) = nI 7 := rfl
theorem li8 : (8 : Int32) = nI 8 := rfl
theorem li9 : (9 : Int32) = nI 9 := rfl
theorem li14 : (14 : Int32) = nI 14 := rfl
theorem li42 : (42 : Int32) = nI 42 := rfl
theorem li63 : (63 : Int32) = nI 63 := rfl
theorem li64 : (64 : Int32) = nI 64 := rfl
theorem li99 : (99 : Int32) = nI 99 := rfl
theorem nI_sub {a b : Nat} (h : b ≤ a) : nI a - nI b = nI (a - b) := pk_sub h
theorem rdA_ok {α : Type} {n j : Nat} {f : Nat → Int32} {k : Int32 → Option α} (hj : j < n) (hn : n < 2 ^ 31) : rdA n f (nI j) k = k (f j) := by
  unfold rdA
  rw [if_pos (nI_in hj hn), nI_clamp (by omega)]
theorem wrA_ok {α : Type} {n j : Nat} {f : Nat → Int32} {x : Int32} {k : (Nat → Int32) → Option α} (hj : j < n) (hn : n < 2 ^ 31) : wrA n f (nI j) x k = k (upd f j x) := by
  unfold wrA
  rw [if_pos (nI_in hj hn), nI_clamp (by omega)]
theorem rdP_ok {α : Type} {j : Nat} {f : Nat → Nat} {k : Nat → Option α} (hj : j < 4) : rdP f (nI j) k = k (f j) := by
  unfold rdP
  rw [if_pos (nI_in hj (by decide)), nI_clamp (by omega)]
theorem wrP_ok {α : Type} {j v : Nat} {f : Nat → Nat} {k : (Nat → Nat) → Option α} (hj : j < 4) (hv : v < 4) : wrP f (nI j) v k = k (va_up f j v) := by
  unfold wrP
  rw [if_pos (nI_in hj (by decide)), if_pos hv, nI_clamp (by omega)]
theorem ckP_ok {α : Type} {j : Nat} {k : Option α} (hj : j < 4) : ckP j k = k := if_pos hj
theorem ckB_0 {α : Type} {k : Option α} : ckB 0 k = k := if_pos (by decide)
theorem ckB_1 {α : Type} {k : Option α} : ckB 1 k = k := if_pos (by decide)
theorem ckB_n0 {α : Type} {k : Option α} : ckB (nI 0) k = k := if_pos (by decide)
theorem ckB_n1 {α : Type} {k : Option α} : ckB (nI 1) k = k := if_pos (by decide)
theorem bd_ok {α β : Type} {v : α} {k : α → Option β} : (some v).bind k = k v := rfl
theorem up_eq (f : Nat → Int32) (k : Nat) (x : Int32) : upd f k x k = x := if_pos rfl
theorem up_ne {f : Nat → Int32} {k j : Nat} {x : Int32} (h : j ≠ k) : upd f k x j = f j := if_neg h
/-- a loop that counts up to N, over states s with an invariant; it may end earlier -/
theorem upR {σ ρ : Type} (f : Nat → σ → Option ρ) (I : Nat → σ → Prop) (G : Option ρ → Prop) (N : Nat)
    (hs : ∀ x s n, x < N → I x s → (∃ s', I (x + 1) s' ∧ f (n + 1) s = f n s') ∨ G (f (n + 1) s)) (he : ∀ s n, I N s → G (f (n + 1) s)) :
    ∀ n x s, I x s → x ≤ N → N < x + n → G (f n s) := by
  intro n
  induction n with
  | zero => intro x s _ h1 h2; omega
  | succ n ih =>
    intro x s hI h1 h2
    rcases Nat.lt_or_ge x N with h | h
    · rcases hs x s n h hI with ⟨s', hI', e⟩ | hG
      · rw [e]
        exact ih (x + 1) s' hI' h (by omega)
      · exact hG
    · have : x = N := by omega
      subst this
      exact he s n hI
/-- the same where the state is a function of the counter -/
theorem upF {ρ : Type} (f : Nat → Nat → Option ρ) (r : Option ρ) (N : Nat) (hs : ∀ x n, x < N → f (n + 1) x = f n (x + 1) ∨ f (n + 1) x = r) (he : ∀ n, f (n + 1) N = r) : ∀ n x, x ≤ N → N < x + n → f n x = r := by
  intro n
  induction n with
  | zero => intro x h1 h2; omega
  | succ n ih =>
    intro x h1 h2
    rcases Nat.lt_or_ge x N with h | h
    · rcases hs x n h with e | e
      · rw [e]; exact ih (x + 1) h (by omega)
      · exact e
    · have : x = N := by omega
      subst this
      exact he n
/-- how many x below N have P -/
def cn (P : Nat → Bool) : Nat → Nat
  | 0 => 0
  | n + 1 => cn P n + (if P n then 1 else 0)
theorem cn_le (P : Nat → Bool) : ∀ n, cn P n ≤ n
  | 0 => Nat.le_refl 0
  | n + 1 => by
    have := cn_le P n
    unfold cn
    split <;> omega
theorem cn_congr {P Q : Nat → Bool} : ∀ {n : Nat}, (∀ x, x < n → P x = Q x) → cn P n = cn Q n
  | 0, _ => rfl
  | n + 1, h => by
    unfold cn
    rw [cn_congr (fun x hx => h x (by omega)), h n (by omega)]
theorem cn_mono {P Q : Nat → Bool} : ∀ {n : Nat}, (∀ x, x < n → P x = true → Q x = true) → cn P n ≤ cn Q n
  | 0, _ => Nat.le_refl 0
  | n + 1, h => by
    unfold cn
    have := cn_mono (P := P) (Q := Q) (n := n) (fun x hx => h x (by omega))
    have h2 := h n (by omega)
    by_cases hp : P n = true
    · rw [if_pos hp, if_pos (h2 hp)]; omega
    · rw [if_neg hp]; omega
theorem sh1 : ∀ n, n < 31 → (nI 1) <<< (nI n &&& 31) = nI (2 ^ n) := by decide +kernel
theorem sh1' : ∀ n, n < 31 → (1 : Int32) <<< (nI n &&& 31) = nI (2 ^ n) := by decide +kernel
theorem p2le {n : Nat} (h : n ≤ 8) : 2 ^ n ≤ 256 := by
  have : 2 ^ n ≤ 2 ^ 8 := Nat.pow_le_pow_right (by omega) h
  omega
theorem p2pos (n : Nat) : 0 < 2 ^ n := Nat.two_pow_pos n
theorem nx_and (a b : Nat) : nI a &&& nI b = nI (a &&& b) := by
  apply Int32.toBitVec_inj.mp
  show BitVec.ofNat 32 a &&& BitVec.ofNat 32 b = BitVec.ofNat 32 (a &&& b)
  apply BitVec.eq_of_getLsbD_eq
  intro i hi
  simp [BitVec.getLsbD_and, BitVec.getLsbD_ofNat, hi]
theorem nx_xor (a b : Nat) : nI a ^^^ nI b = nI (a ^^^ b) := by
  apply Int32.toBitVec_inj.mp
  show BitVec.ofNat 32 a ^^^ BitVec.ofNat 32 b = BitVec.ofNat 32 (a ^^^ b)
  apply BitVec.eq_of_getLsbD_eq
  intro i hi
  simp [BitVec.getLsbD_xor, BitVec.getLsbD_ofNat, hi]
theorem nx_or (a b : Nat) : nI a ||| nI b = nI (a ||| b) := by
  apply Int32.toBitVec_inj.mp
  show BitVec.ofNat 32 a ||| BitVec.ofNat 32 b = BitVec.ofNat 32 (a ||| b)
  apply BitVec.eq_of_getLsbD_eq
  intro i hi
  simp [BitVec.getLsbD_or, BitVec.getLsbD_ofNat, hi]
/-- the complement inside n positions -/
def cpl (n S : Nat) : Nat := (2 ^ n - 1) ^^^ S
theorem cpl_eq : ∀ n, n < 9 → ∀ S, S < 256 → S < 2 ^ n → nI (2 ^ n - 1) &&& (nI S ^^^ (-1)) = nI (cpl n S) := by decide +kernel
theorem cpl_lt : ∀ n, n < 9 → ∀ S, S < 256 → S < 2 ^ n → cpl n S < 2 ^ n := by decide +kernel
theorem neg1_ne {a : Nat} (h : a < 2 ^ 31) : ¬ nI a = -1 := by
  intro e
  have h1 := nI_toInt h
  rw [e] at h1
  have : (-1 : Int32).toInt = -1 := by decide
  omega
theorem ne_neg1 {a : Nat} (h : a < 2 ^ 31) : ¬ (-1 : Int32) = nI a := fun e => neg1_ne h e.symm
theorem neg1_lt {a : Nat} (h : a < 2 ^ 31) : (-1 : Int32) < nI a := by
  rw [Int32.lt_iff_toInt_lt, nI_toInt h]
  have : (-1 : Int32).toInt = -1 := by decide
  omega
