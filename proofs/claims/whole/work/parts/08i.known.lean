/-! ===== known combinations ===== -/
theorem dt_in (a S x : Nat) : dt (a &&& S) x = dt a (x &&& S) := by
  unfold dt
  rw [Nat.and_assoc, Nat.and_comm S x]
theorem sy_in (w c : Nat → Nat) (kind S x : Nat) : ∀ k, sy k (wS w S) c kind x = sy k w c kind (x &&& S)
  | 0 => rfl
  | k + 1 => by
    rw [sy_s, sy_s, sy_in w c kind S x k]
    have : wS w S k &&& x = w k &&& (x &&& S) := by
      unfold wS
      rw [Nat.and_assoc, Nat.and_comm S x]
    rw [this]
theorem cpl_and : ∀ n, n < 9 → ∀ S, S < 256 → S < 2 ^ n → cpl n S &&& S = 0 := by decide +kernel
theorem cpl_in {n S x : Nat} (hx : x < 2 ^ n) (h : x &&& S = 0) : x &&& cpl n S = x := by
  unfold cpl
  rw [Nat.and_xor_distrib_left, h, Nat.xor_zero, all_and hx]
theorem m2 (a : Nat) : nI a &&& 1 = nI (a % 2) := by
  rw [li1, nx_and, Nat.and_one_is_mod]
theorem bo_ne (a b : Bool) (h : ¬ nI a.toNat = 1 - nI b.toNat) : a = b := by revert h; cases a <;> cases b <;> decide
theorem bo_eq (a b : Bool) (h : nI a.toNat = 1 - nI b.toNat) : a = !b := by revert h; cases a <;> cases b <;> decide
theorem bo_m (b : Bool) : ¬ (-1 : Int32) = 1 - nI b.toNat := by cases b <;> decide
section KN
variable {now : Nat → Int32} {len sz : Int32} {words checks : Nat → Int32} {n k : Nat} {w c : Nat → Nat} {err errM msg g vec par : Nat → Int32} {bc : Int32}
theorem eS_iff (hR : RS n k w c) {S : Nat} (hS : S < 2 ^ n) (v : Nat) : eS n k w c (cpl n S) v = true ↔ ∃ x, x < 2 ^ n ∧ cw k w c x = true ∧ x &&& S = 0 ∧ ms k w c x = v := by
  have hp := hR.p8
  have hn := hR.2.1
  unfold eS
  rw [exb_iff]
  constructor
  · rintro ⟨x, hx, h⟩
    rw [Bool.and_eq_true, decide_eq_true_eq, sy_in, kr_iff] at h
    refine ⟨x &&& cpl n S, and_ltN hx, ?_, ?_, h.2⟩
    · unfold cw
      rw [decide_eq_true_eq, sy_z (fun i hi => hR.w8 hi)]
      exact fun i hi hc => by rw [← dt_in]; exact h.1 i hi hc
    · rw [Nat.and_assoc, cpl_and n (by omega) S (by omega) hS, Nat.and_zero]
  · rintro ⟨x, hx, h1, h2, h3⟩
    refine ⟨x, hx, ?_⟩
    unfold cw at h1
    rw [decide_eq_true_eq, sy_z (fun i hi => hR.w8 hi)] at h1
    rw [Bool.and_eq_true, decide_eq_true_eq, sy_in, kr_iff, cpl_in hx h2]
    exact ⟨fun i hi hc => by rw [dt_in, cpl_in hx h2]; exact h1 i hi hc, h3⟩
/-- the combination u is known on S -/
def kn (n k : Nat) (w c : Nat → Nat) (S u : Nat) : Bool := !exb (fun v => eS n k w c (cpl n S) v && dt u v) (2 ^ nk c 0 k)
theorem kn_iff (S u : Nat) : kn n k w c S u = true ↔ ∀ v, v < 2 ^ nk c 0 k → eS n k w c (cpl n S) v = true → dt u v = false := by
  unfold kn
  rw [Bool.not_eq_true', Bool.eq_false_iff, ne_eq, exb_iff]
  constructor
  · intro h v hv he
    cases hd : dt u v with
    | false => rfl
    | true => exact absurd ⟨v, hv, by rw [he, hd]; rfl⟩ h
  · rintro h ⟨v, hv, he⟩
    rw [Bool.and_eq_true] at he
    rw [h v hv he.1] at he
    exact absurd he.2 (by decide)
theorem kn_0 (S : Nat) : kn n k w c S 0 = true := (kn_iff S 0).mpr (fun v _ _ => dt_0l v)
theorem eS_0 (hR : RS n k w c) {S : Nat} (hS : S < 2 ^ n) : eS n k w c (cpl n S) 0 = true := (eS_iff hR hS 0).mpr ⟨0, p2pos n, cw_zero k w c, Nat.zero_and S, ms_0 k w c⟩
theorem eS_xor (hR : RS n k w c) {S z : Nat} (hS : S < 2 ^ n) (hz : eS n k w c (cpl n S) z = true) (v : Nat) : eS n k w c (cpl n S) (v ^^^ z) = eS n k w c (cpl n S) v := by
  have go : ∀ v, eS n k w c (cpl n S) v = true → eS n k w c (cpl n S) (v ^^^ z) = true := by
    intro v hv
    obtain ⟨x, x1, x2, x3, x4⟩ := (eS_iff hR hS z).mp hz
    obtain ⟨y, y1, y2, y3, y4⟩ := (eS_iff hR hS v).mp hv
    exact (eS_iff hR hS _).mpr ⟨y ^^^ x, Nat.xor_lt_two_pow y1 x1, cw_xor hR y2 x2, by rw [Nat.and_xor_distrib_right, y3, x3]; rfl, by rw [ms_xor hR, y4, x4]⟩
  rw [Bool.eq_iff_iff]
  exact ⟨fun h => by have := go _ h; rwa [xx] at this, go v⟩
theorem kn_count (hR : RS n k w c) {S : Nat} (hS : S < 2 ^ n) : cn (kn n k w c S) (2 ^ nk c 0 k) * 2 ^ hb k w c (cpl n S) = 2 ^ nk c 0 k := by
  have hW : cn (eS n k w c (cpl n S)) (2 ^ nk c 0 k) = 2 ^ hb k w c (cpl n S) := eS_count hR (cpl n S)
  have hm8 : nk c 0 k ≤ 6 := Nat.le_trans (nk_le c 0 k) hR.2.2.1
  rw [← hW]
  generalize hm : nk c 0 k = m at hm8 ⊢
  have hA : ∀ u, kn n k w c S u = true ↔ ∀ v, v < 2 ^ m → eS n k w c (cpl n S) v = true → dt u v = false := by rw [← hm]; exact kn_iff S
  have hx := fun z hz v => eS_xor hR (z := z) hS hz v
  have h0 := eS_0 hR hS
  generalize eS n k w c (cpl n S) = W at *
  generalize kn n k w c S = A at *
  have sw := sm_swap (fun u v => W v && !dt u v) (2 ^ m) (2 ^ m)
  have e1 : ∀ u, u < 2 ^ m → 2 * cn (fun v => W v && !dt u v) (2 ^ m) = cn W (2 ^ m) + (if A u = true then cn W (2 ^ m) else 0) := by
    intro u hu
    by_cases ha : A u = true
    · rw [if_pos ha]
      have : cn (fun v => W v && !dt u v) (2 ^ m) = cn W (2 ^ m) := cn_congr (fun v hv => by
        cases hw : W v with
        | false => rfl
        | true => rw [(hA u).mp ha v hv hw]; rfl)
      omega
    · rw [if_neg ha]
      have : ∃ v, v < 2 ^ m ∧ W v = true ∧ dt u v = true := by
        apply Classical.byContradiction
        intro hn
        apply ha
        rw [hA]
        intro v hv hw
        cases hd : dt u v with
        | false => rfl
        | true => exact absurd ⟨v, hv, hw, hd⟩ hn
      obtain ⟨z, z1, z2, z3⟩ := this
      rw [half z1 (P := W) (g := dt u) (hx z z2) (fun v => by rw [dt_xr, z3]; simp)]
      rfl
  have e2 : ∀ v, v < 2 ^ m → 2 * cn (fun u => W v && !dt u v) (2 ^ m) = (if W v = true then 2 ^ m else 0) + (if 0 = v then 2 ^ m else 0) := by
    intro v hv
    have hall : cn (fun _ => true) (2 ^ m) = 2 ^ m := by
      generalize 2 ^ m = M
      induction M with
      | zero => rfl
      | succ M ih => rw [cn_s, ih]; rfl
    by_cases hw : W v = true
    · rw [if_pos hw]
      by_cases hz : 0 = v
      · subst hz
        rw [if_pos rfl]
        have : cn (fun u => W 0 && !dt u 0) (2 ^ m) = 2 ^ m := by
          exact (cn_congr (Q := fun _ => true) (fun u _ => by rw [h0, dt_0r]; rfl)).trans hall
        omega
      · rw [if_neg hz]
        have hv0 : v ≠ 0 := fun h => hz h.symm
        have hl : v.log2 < m := (Nat.log2_lt hv0).mpr hv
        have h8 : v < 256 := by
          have : 2 ^ m ≤ 64 := p2le6 hm8
          omega
        have hb : dt v (2 ^ v.log2) = true := by
          rw [dt_pw v.log2 (by omega) v h8]
          exact Nat.testBit_log2 hv0
        have hb2 : dt (2 ^ v.log2) v = true := by
          have : dt (2 ^ v.log2) v = dt v (2 ^ v.log2) := by unfold dt; rw [Nat.and_comm]
          rw [this, hb]
        have hh := half (N := m) (z := 2 ^ v.log2) (p2lt hl) (P := fun _ => true) (g := fun u => dt u v) (fun _ => rfl) (fun u => by
          show dt (u ^^^ 2 ^ v.log2) v = !dt u v
          rw [dt_xl, hb2]; simp)
        rw [hall] at hh
        have : cn (fun u => W v && !dt u v) (2 ^ m) = cn (fun u => true && !dt u v) (2 ^ m) := cn_congr (fun u _ => by rw [hw])
        rw [this]
        omega
    · rw [if_neg hw]
      have hz : ¬ 0 = v := fun h => hw (by rw [← h]; exact h0)
      rw [if_neg hz, cn_0 (fun u _ => by rw [Bool.not_eq_true] at hw; rw [hw]; rfl)]
  have tw : ∀ (f : Nat → Nat) M, 2 * sm f M = sm (fun x => 2 * f x) M := by
    intro f M
    induction M with
    | zero => rfl
    | succ M ih => rw [sm_s, sm_s, ← ih]; omega
  have cs : ∀ (Z M : Nat), sm (fun _ => Z) M = M * Z := by
    intro Z M
    induction M with
    | zero => rw [Nat.zero_mul]; rfl
    | succ M ih => rw [sm_s, ih, Nat.succ_mul]
  have l1 : 2 * sm (fun u => cn (fun v => W v && !dt u v) (2 ^ m)) (2 ^ m) = 2 ^ m * cn W (2 ^ m) + cn A (2 ^ m) * cn W (2 ^ m) := by
    rw [tw, sm_congr e1, sm_add, cs, sm_ite]
  have l2 : 2 * sm (fun v => cn (fun u => W v && !dt u v) (2 ^ m)) (2 ^ m) = cn W (2 ^ m) * 2 ^ m + 2 ^ m := by
    rw [tw, sm_congr e2, sm_add, sm_ite]
    congr 1
    have h1 := sm_ind (v := 0) (2 ^ m)
    rw [if_pos (p2pos m)] at h1
    have : ∀ M, sm (fun v => if 0 = v then 2 ^ m else 0) M = 2 ^ m * sm (fun v => if 0 = v then 1 else 0) M := by
      intro M
      induction M with
      | zero => rfl
      | succ M ih =>
        rw [sm_s, sm_s, ih, Nat.mul_add]
        congr 1
        split <;> simp
    rw [this, h1, Nat.mul_one]
  have sw' : sm (fun u => cn (fun v => W v && !dt u v) (2 ^ m)) (2 ^ m) = sm (fun v => cn (fun u => W v && !dt u v) (2 ^ m)) (2 ^ m) := sw
  rw [sw'] at l1
  rw [Nat.mul_comm (cn W (2 ^ m)) (2 ^ m)] at l2
  omega
theorem kn_pow (hR : RS n k w c) {S : Nat} (hS : S < 2 ^ n) : hb k w c (cpl n S) ≤ nk c 0 k ∧ cn (kn n k w c S) (2 ^ nk c 0 k) = 2 ^ (nk c 0 k - hb k w c (cpl n S)) := by
  have h := kn_count hR hS
  have hp := p2pos (nk c 0 k)
  have hle : hb k w c (cpl n S) ≤ nk c 0 k := by
    have hpos : 0 < cn (kn n k w c S) (2 ^ nk c 0 k) := by
      rcases Nat.eq_zero_or_pos (cn (kn n k w c S) (2 ^ nk c 0 k)) with h0 | h0
      · rw [h0, Nat.zero_mul] at h; omega
      · exact h0
    have h2 : 2 ^ hb k w c (cpl n S) ≤ 2 ^ nk c 0 k := by
      have := Nat.mul_le_mul_right (2 ^ hb k w c (cpl n S)) hpos
      rw [h, Nat.succ_mul, Nat.zero_mul, Nat.zero_add] at this
      exact this
    exact (Nat.pow_le_pow_iff_right (by decide)).mp h2
  refine ⟨hle, ?_⟩
  have he : 2 ^ nk c 0 k = 2 ^ (nk c 0 k - hb k w c (cpl n S)) * 2 ^ hb k w c (cpl n S) := by rw [← Nat.pow_add]; congr 1; omega
  exact Nat.eq_of_mul_eq_mul_right (p2pos _) (h.trans he)
/-- the bit of a combination -/
theorem isKnM (hR : RS n k w c) (hM : StM now n k w c) (hg : ∀ x, x < 2 ^ n → g x = mo k w c x) {S u : Nat} (hS : S < 2 ^ n) (hu : u < 256) (par : Nat → Int32) : ∃ p, fX3_isKnown now g par (nI S) (nI u) = some (b2 (kn n k w c S u), p) := by
  have hp := hR.p8
  have hp0 := p2pos n
  show ∃ p, fX3_isKnown_2 now g 300 par (nI S) (nI u) 0 = some (b2 (kn n k w c S u), p)
  refine upR (fun q (t : (Nat → Int32) × Int32) => fX3_isKnown_2 now g q t.1 (nI S) (nI u) t.2) (fun x t => t.2 = nI x ∧ ∀ j, j < x → t.1 j = -1) (fun o => ∃ p, o = some (b2 (kn n k w c S u), p)) (2 ^ n) ?_ ?_ 300 0 (par, 0) ⟨rfl, fun j h => absurd h (Nat.not_lt_zero j)⟩ (Nat.zero_le _) (by omega)
  · intro x t q hx hI
    obtain ⟨x1, x2⟩ := t
    obtain ⟨e1, h1⟩ := hI
    dsimp only at e1 h1
    subst e1
    left
    refine ⟨(upd x1 x (-1), nI (x + 1)), ⟨rfl, fun j hj => ?_⟩, ?_⟩
    · by_cases e : j = x
      · subst e; exact up_eq _ _ _
      · exact (up_ne e).trans (h1 j (by omega))
    · show FX3_isKnown_2 now g (fX3_isKnown_2 now g q) x1 (nI S) (nI u) (nI x) = _
      unfold FX3_isKnown_2
      rw [wordsM hR hM, bk, if_neg (by rw [nI_leI (by omega) (by omega)]; omega), wrA_ok (by omega) (by decide), nI_1]
  · intro t q hI
    obtain ⟨x1, x2⟩ := t
    obtain ⟨e1, h1⟩ := hI
    dsimp only at e1 h1
    subst e1
    show ∃ p, FX3_isKnown_2 now g (fX3_isKnown_2 now g q) x1 (nI S) (nI u) (nI (2 ^ n)) = _
    unfold FX3_isKnown_2
    rw [wordsM hR hM, bk, if_pos (by rw [nI_leI (by omega) (by omega)]; omega)]
    refine upR (fun q (t : (Nat → Int32) × Int32) => fX3_isKnown_25 now g q t.1 (nI S) (nI u) t.2) (fun x t => t.2 = nI x ∧ (∀ j, j < 2 ^ n → t.1 j = -1 ∨ ∃ z, z < x ∧ cw k w c z = true ∧ z &&& S = j ∧ t.1 j = nI (dt u (ms k w c z)).toNat) ∧ ∀ z, z < x → cw k w c z = true → t.1 (z &&& S) = nI (dt u (ms k w c z)).toNat) (fun o => ∃ p, o = some (b2 (kn n k w c S u), p)) (2 ^ n) ?_ ?_ 300 0 (x1, 0) ⟨rfl, fun j hj => Or.inl (h1 j hj), fun z h => absurd h (Nat.not_lt_zero z)⟩ (Nat.zero_le _) (by omega)
    · intro x t q hx hI
      obtain ⟨y1, y2⟩ := t
      obtain ⟨e1, i1, i2⟩ := hI
      dsimp only at e1 i1 i2
      subst e1
      have hms := ms_lt hR x
      have hxS : x &&& S < 2 ^ n := and_ltN hx
      show (∃ s', _ ∧ FX3_isKnown_25 now g (fX3_isKnown_25 now g q) y1 (nI S) (nI u) (nI x) = _) ∨ (∃ p, FX3_isKnown_25 now g (fX3_isKnown_25 now g q) y1 (nI S) (nI u) (nI x) = _)
      unfold FX3_isKnown_25 FX3_isKnown_85
      by_cases hc : cw k w c x = true
      · have hd : nI (pop (u &&& ms k w c x)) &&& 1 = nI (dt u (ms k w c x)).toNat := by
          rw [m2, px_pop _ (and_lt8 hu)]
          rfl
        simp (disch := omega) only [wordsM hR hM, bk, nI_leI, if_neg (Nat.not_le.mpr hx), rdA_ok, hg x hx, mo_cw hc, if_neg (neg1_ne (show ms k w c x < 2 ^ 31 by omega)), nx_and, ones_ok _ (and_lt8 hu), wrA_ok, hd, nI_1]
        by_cases he : y1 (x &&& S) = 1 - nI (dt u (ms k w c x)).toNat
        · right
          rw [if_pos he]
          have hf : kn n k w c S u = false := by
            rcases i1 _ hxS with h | ⟨z, z1, z2, z3, z4⟩
            · rw [h] at he; exact absurd he (bo_m _)
            · rw [z4] at he
              have hne := bo_eq _ _ he
              rw [Bool.eq_false_iff, ne_eq, kn_iff]
              intro hk
              have hxz : (x ^^^ z) &&& S = 0 := by rw [Nat.and_xor_distrib_right, z3, Nat.xor_self]
              have h1 := hk (ms k w c (x ^^^ z)) (sy_lt k w c 0 _) ((eS_iff hR hS _).mpr ⟨x ^^^ z, Nat.xor_lt_two_pow hx (by omega), cw_xor hR hc z2, hxz, rfl⟩)
              rw [ms_xor hR, dt_xr, hne] at h1
              revert h1
              cases dt u (ms k w c x) <;> decide
          rw [hf]
          exact ⟨_, rfl⟩
        · left
          rw [if_neg he]
          refine ⟨(upd y1 (x &&& S) (nI (dt u (ms k w c x)).toNat), nI (x + 1)), ⟨rfl, fun j hj => ?_, fun z hz hcz => ?_⟩, rfl⟩
          · by_cases e : j = x &&& S
            · subst e
              exact Or.inr ⟨x, by omega, hc, rfl, up_eq _ _ _⟩
            · rcases i1 j hj with h | ⟨z, z1, z2, z3, z4⟩
              · exact Or.inl ((up_ne e).trans h)
              · exact Or.inr ⟨z, by omega, z2, z3, (up_ne e).trans z4⟩
          · rcases Nat.lt_or_ge z x with h | h
            · by_cases e : z &&& S = x &&& S
              · have h2 := i2 z h hcz
                rw [e] at h2
                rw [h2] at he
                have := bo_ne _ _ he
                rw [e, this]
                exact up_eq _ _ _
              · exact (up_ne e).trans (i2 z h hcz)
            · have : z = x := by omega
              subst this
              exact up_eq _ _ _
      · left
        refine ⟨(y1, nI (x + 1)), ⟨rfl, fun j hj => ?_, fun z hz hcz => ?_⟩, ?_⟩
        · rcases i1 j hj with h | ⟨z, z1, z2⟩
          · exact Or.inl h
          · exact Or.inr ⟨z, by omega, z2⟩
        · rcases Nat.lt_or_ge z x with h | h
          · exact i2 z h hcz
          · have : z = x := by omega
            subst this
            exact absurd hcz hc
        · simp (disch := omega) only [wordsM hR hM, bk, nI_leI, if_neg (Nat.not_le.mpr hx), rdA_ok, hg x hx, mo_nc hc, ↓reduceIte, nI_1]
    · intro t q hI
      obtain ⟨y1, y2⟩ := t
      obtain ⟨e1, i1, i2⟩ := hI
      dsimp only at e1 i1 i2
      subst e1
      show ∃ p, FX3_isKnown_25 now g (fX3_isKnown_25 now g q) y1 (nI S) (nI u) (nI (2 ^ n)) = _
      unfold FX3_isKnown_25
      rw [wordsM hR hM, bk, if_pos (by rw [nI_leI (by omega) (by omega)]; omega)]
      have ht : kn n k w c S u = true := by
        rw [kn_iff]
        intro v hv he
        obtain ⟨x, a1, a2, a3, a4⟩ := (eS_iff hR hS v).mp he
        have h1 := i2 x a1 a2
        have h2 := i2 0 hp0 (cw_zero k w c)
        rw [a3] at h1
        rw [Nat.zero_and, h1, ms_0, dt_0r, a4] at h2
        revert h2
        cases dt u v <;> decide
      rw [ht]
      exact ⟨_, rfl⟩
theorem nkX (hR : RS n k w c) (hX : StX len sz words checks n k w c) : fX2_messageRows sz checks = some (nI (nk c 0 k)) := by
  obtain ⟨x0, x1, x2, x3⟩ := hX
  have hk := hR.2.2.1
  subst x1
  show fX2_messageRows_4 (nI k) checks 300 0 0 = _
  refine upF (fun q i => fX2_messageRows_4 (nI k) checks q (nI (nk c 0 i)) (nI i)) _ k ?_ ?_ 300 0 (Nat.zero_le _) (by omega)
  · intro i q hi
    left
    have hc := hR.2.2.2.2 i hi
    have hl := nk_le c 0 i
    show FX2_messageRows_4 (nI k) checks (fX2_messageRows_4 (nI k) checks q) (nI (nk c 0 i)) (nI i) = fX2_messageRows_4 (nI k) checks q (nI (nk c 0 (i + 1))) (nI (i + 1))
    unfold FX2_messageRows_4 FX2_messageRows_30
    rw [if_neg (by rw [nI_leI (by omega) (by omega)]; omega), rdA_ok (by omega) (by decide), x3 i hi, nk_s, nI_1, nI_1]
    by_cases h0 : c i = 0
    · rw [if_pos h0, if_pos (by rw [h0]; rfl)]
    · rw [if_neg h0, if_neg (show ¬ nI (c i) = 0 from fun h => h0 ((nI_eq (b := 0) (by omega) (by decide)).mp h))]
      rfl
  · intro q
    show FX2_messageRows_4 (nI k) checks (fX2_messageRows_4 (nI k) checks q) (nI (nk c 0 k)) (nI k) = _
    unfold FX2_messageRows_4
    rw [if_pos (by rw [nI_leI (by omega) (by omega)]; omega)]
theorem knownX (hR : RS n k w c) (hX : StX len sz words checks n k w c) {S : Nat} (hS : S < 2 ^ n) (vec : Nat → Int32) (bc : Int32) : ∃ v b, (fX2_allPositions len).bind (fun v2 => (fX2_hiddenBits sz words checks vec bc (v2 &&& (nI S ^^^ (-1)))).bind (fun v3 => (fX2_messageRows sz checks).bind (fun v4 => some ((1 <<< ((v4 - v3.1) &&& 31)) - 1, err, v3.2.1, v3.2.2)))) = some (nI (2 ^ (nk c 0 k - hb k w c (cpl n S)) - 1), err, v, b) := by
  have hp := hR.p8
  have hn := hR.2.1
  obtain ⟨v1, b1, r1⟩ := hidX hR hX (cpl n S) vec bc
  have hk := kn_pow hR hS
  have h6 := nk_le c 0 k
  have hk6 := hR.2.2.1
  refine ⟨v1, b1, ?_⟩
  rw [allX hR hX, bk, cpl_eq n (by omega) S (by omega) hS, r1, bk, nkX hR hX, bk]
  show some ((1 <<< ((nI (nk c 0 k) - nI (hb k w c (cpl n S))) &&& 31)) - 1, err, v1, b1) = _
  rw [nI_sub hk.1, sh1' _ (by omega), li1, nI_sub (p2pos _)]
theorem knownM (hR : RS n k w c) (hM : StM now n k w c) (hg : ∀ x, x < 2 ^ n → g x = mo k w c x) {S : Nat} (hS : S < 2 ^ n) (par : Nat → Int32) : ∃ p, fX3_knownCombinations_23 now 300 err g par (nI S) 0 0 = some (nI (2 ^ (nk c 0 k - hb k w c (cpl n S)) - 1), err, g, p) := by
  have hk6 := hR.2.2.1
  have hk := kn_pow hR hS
  obtain ⟨m0, m1, mw, mc⟩ := id hM
  refine upR (fun q (t : Int32 × Int32) => fX3_knownCombinations_23 now q err g par (nI S) t.1 t.2) (fun i t => t.1 = nI (nk c 0 i) ∧ t.2 = nI i) (fun o => ∃ p, o = some (nI (2 ^ (nk c 0 k - hb k w c (cpl n S)) - 1), err, g, p)) k ?_ ?_ 300 0 (0, 0) ⟨rfl, rfl⟩ (Nat.zero_le _) (by omega)
  · intro i t q hi hI
    obtain ⟨x1, x2⟩ := t
    obtain ⟨e1, e2⟩ := hI
    dsimp only at e1 e2
    subst e1; subst e2
    have hc := hR.2.2.2.2 i hi
    have hl := nk_le c 0 i
    left
    refine ⟨(nI (nk c 0 (i + 1)), nI (i + 1)), ⟨rfl, rfl⟩, ?_⟩
    show FX3_knownCombinations_23 now (fX3_knownCombinations_23 now q) err g par (nI S) (nI (nk c 0 i)) (nI i) = _
    unfold FX3_knownCombinations_23
    rw [li1, rdA_ok (by decide) (by decide), m1, if_neg (by rw [nI_leI (by omega) (by omega)]; omega), li8, nI_add, rdA_ok (by omega) (by decide), mc i hi, nI_add, nI_sub (by omega), nI_add, nk_s]
    have : 1 - c i = if c i = 0 then 1 else 0 := by split <;> omega
    rw [this]
  · intro t q hI
    obtain ⟨x1, x2⟩ := t
    obtain ⟨e1, e2⟩ := hI
    dsimp only at e1 e2
    subst e1; subst e2
    have hl := nk_le c 0 k
    show ∃ p, FX3_knownCombinations_23 now (fX3_knownCombinations_23 now q) err g par (nI S) (nI (nk c 0 k)) (nI k) = _
    unfold FX3_knownCombinations_23
    rw [li1, rdA_ok (by decide) (by decide), m1, if_pos (by rw [nI_leI (by omega) (by omega)]; omega)]
    have h64 := nkp hR
    have hpm := p2pos (nk c 0 k)
    refine upR (fun q (t : (Nat → Int32) × Int32 × Int32) => fX3_knownCombinations_58 now q err g t.1 (nI S) (nI (nk c 0 k)) t.2.1 t.2.2) (fun u t => t.2.2 = nI u ∧ ∃ r, t.2.1 = nI r ∧ r + 1 = cn (kn n k w c S) u) (fun o => ∃ p, o = some (nI (2 ^ (nk c 0 k - hb k w c (cpl n S)) - 1), err, g, p)) (2 ^ nk c 0 k) ?_ ?_ 300 1 (par, 0, nI 1) ⟨rfl, 0, rfl, ?_⟩ (by omega) (by omega)
    · intro u t q hu hI
      obtain ⟨y1, y2, y3⟩ := t
      obtain ⟨e1, r, e2, h1⟩ := hI
      dsimp only at e1 e2
      subst e1; subst e2
      left
      obtain ⟨p, hp⟩ := isKnM hR hM hg hS (u := u) (by omega) y1
      have hle := cn_le (kn n k w c S) u
      show ∃ s', _ ∧ FX3_knownCombinations_58 now (fX3_knownCombinations_58 now q) err g y1 (nI S) (nI (nk c 0 k)) (nI r) (nI u) = _
      unfold FX3_knownCombinations_58 FX3_knownCombinations_82
      rw [sh1' _ (by omega), if_neg (by rw [nI_leI (by omega) (by omega)]; omega), hp, bk]
      dsimp only
      rw [ifb]
      cases hb : kn n k w c S u with
      | true =>
        refine ⟨(p, nI (r + 1), nI (u + 1)), ⟨rfl, r + 1, rfl, by rw [cn_s, hb]; simp only [↓reduceIte]; omega⟩, ?_⟩
        rw [if_pos rfl, nI_1, nI_1]
      | false =>
        refine ⟨(p, nI r, nI (u + 1)), ⟨rfl, r, rfl, by rw [cn_s, hb]; simp only [Bool.false_eq_true, ↓reduceIte]; omega⟩, ?_⟩
        rw [if_neg (by decide), nI_1, Int32.add_zero]
    · intro t q hI
      obtain ⟨y1, y2, y3⟩ := t
      obtain ⟨e1, r, e2, h1⟩ := hI
      dsimp only at e1 e2
      subst e1; subst e2
      show ∃ p, FX3_knownCombinations_58 now (fX3_knownCombinations_58 now q) err g y1 (nI S) (nI (nk c 0 k)) (nI r) (nI (2 ^ nk c 0 k)) = _
      unfold FX3_knownCombinations_58
      rw [sh1' _ (by omega), if_pos (by rw [nI_leI (by omega) (by omega)]; omega)]
      rw [hk.2] at h1
      have : r = 2 ^ (nk c 0 k - hb k w c (cpl n S)) - 1 := by omega
      rw [this]
      exact ⟨_, rfl⟩
    · rw [cn_s, kn_0]; rfl
theorem st_knownCombinations (hR : RS n k w c) (hX : StX len sz words checks n k w c) (hM : StM now n k w c) (hE : EE err errM) (x : Int32) : ∃ vX vM, fX2_knownCombinations len sz words checks err vec bc x = some vX ∧ fX3_knownCombinations now errM msg par x = some vM ∧ vX.1 = vM.1 ∧ EE vX.2.1 vM.2.1 := by
  show ∃ vX vM, FX2_knownCombinations_0 len sz words checks err vec bc x = some vX ∧ FX3_knownCombinations_0 now errM msg par x = some vM ∧ vX.1 = vM.1 ∧ EE vX.2.1 vM.2.1
  unfold FX2_knownCombinations_0 FX3_knownCombinations_0
  rw [isWordX hR hX, isWordM hR hM, bk, bk, ifb, ifb]
  cases h : isW n x with
  | false =>
    simp only [Bool.false_eq_true, ↓reduceIte, fX2a, fX3a, bk]
    exact ⟨_, _, rfl, rfl, rfl, hE.up (by decide)⟩
  | true =>
    obtain ⟨S, hS, rfl⟩ := isW_of hR.2.1 h
    obtain ⟨v, b, r1⟩ := knownX (err := err) hR hX hS vec bc
    obtain ⟨g, r2, hg⟩ := laysM hR hM msg
    obtain ⟨p, r3⟩ := knownM (err := errM) hR hM hg hS par
    rw [if_pos rfl, if_pos rfl, r1, r2, bk, r3]
    exact ⟨_, _, rfl, rfl, rfl, hE⟩
end KN
