/-! ===== possible messages ===== -/
def exb (P : Nat → Bool) : Nat → Bool
  | 0 => false
  | x + 1 => exb P x || P x
theorem exb_s (P : Nat → Bool) (x : Nat) : exb P (x + 1) = (exb P x || P x) := rfl
theorem exb_iff (P : Nat → Bool) : ∀ N, exb P N = true ↔ ∃ x, x < N ∧ P x = true
  | 0 => ⟨fun h => absurd (show false = true from h) (by decide), fun ⟨x, h, _⟩ => absurd h (Nat.not_lt_zero x)⟩
  | N + 1 => by
    rw [exb_s, Bool.or_eq_true, exb_iff P N]
    constructor
    · rintro (⟨x, h1, h2⟩ | h)
      · exact ⟨x, by omega, h2⟩
      · exact ⟨N, by omega, h⟩
    · rintro ⟨x, h1, h2⟩
      rcases Nat.lt_or_ge x N with h | h
      · exact Or.inl ⟨x, h, h2⟩
      · have : x = N := by omega
        subst this; exact Or.inr h2
theorem cn_flip {Q Q' : Nat → Bool} {m0 : Nat} (h0 : Q m0 = false) (h1 : Q' m0 = true) (h : ∀ m, m ≠ m0 → Q' m = Q m) : ∀ N, m0 < N → cn Q' N = cn Q N + 1
  | 0, hN => absurd hN (Nat.not_lt_zero m0)
  | N + 1, hN => by
    rw [cn_s, cn_s]
    rcases Nat.lt_or_ge m0 N with h2 | h2
    · rw [cn_flip h0 h1 h N h2, h N (by omega)]
      omega
    · have : N = m0 := by omega
      subst this
      rw [cn_congr (P := Q') (Q := Q) (fun x hx => h x (by omega)), h0, h1]
      rfl
/-- x fits the observation and has the message m -/
def fm (k : Nat) (w c : Nat → Nat) (S v m x : Nat) : Bool := (cw k w c x && decide (x &&& S = v)) && decide (ms k w c x = m)
/-- m is the message of a fitting codeword below N -/
def pmb (k : Nat) (w c : Nat → Nat) (S v N m : Nat) : Bool := exb (fm k w c S v m) N
section PO
variable {now : Nat → Int32} {len sz : Int32} {words checks : Nat → Int32} {n k : Nat} {w c : Nat → Nat} {err errM msg met g : Nat → Int32}
theorem meetsM (hR : RS n k w c) (hM : StM now n k w c) (msg met : Nat → Int32) {S v : Nat} (hS : S < 2 ^ n) (hv : v < 2 ^ n) : ∃ g f, fX3_meets now msg met (nI S) (nI v) = some (nI (cn (pmb k w c S v (2 ^ n)) 64), g, f) ∧ (∀ m, m < 64 → f m = b2 (pmb k w c S v (2 ^ n) m)) ∧ ∀ x, x < 2 ^ n → g x = mo k w c x := by
  have hp := hR.p8
  obtain ⟨g, hg, hgv⟩ := laysM hR hM msg
  show ∃ g f, FX3_meets_0 now msg met (nI S) (nI v) = some (nI (cn (pmb k w c S v (2 ^ n)) 64), g, f) ∧ _
  unfold FX3_meets_0
  rw [hg, bk]
  -- the second loop
  have L2 : ∀ f0 : Nat → Int32, (∀ m, m < 64 → f0 m = 0) → ∃ f, fX3_meets_30 now 300 g f0 (nI S) (nI v) 0 0 = some (nI (cn (pmb k w c S v (2 ^ n)) 64), g, f) ∧ ∀ m, m < 64 → f m = b2 (pmb k w c S v (2 ^ n) m) := by
    intro f0 hf0
    have c0 : cn (pmb k w c S v 0) 64 = 0 := (cn_congr (Q := fun _ => false) (fun x _ => rfl)).trans (by decide)
    refine upR (fun q (s : (Nat → Int32) × Int32 × Int32) => fX3_meets_30 now q g s.1 (nI S) (nI v) s.2.1 s.2.2) (fun x s => s.2.2 = nI x ∧ s.2.1 = nI (cn (pmb k w c S v x) 64) ∧ ∀ m, m < 64 → s.1 m = b2 (pmb k w c S v x m)) (fun o => ∃ f, o = some (nI (cn (pmb k w c S v (2 ^ n)) 64), g, f) ∧ ∀ m, m < 64 → f m = b2 (pmb k w c S v (2 ^ n) m)) (2 ^ n) ?_ ?_ 300 0 (f0, 0, 0) ⟨rfl, by rw [c0]; rfl, fun m hm => (hf0 m hm).trans rfl⟩ (by omega) (by omega)
    · intro x s q hx hI
      obtain ⟨f, ct, xi⟩ := s
      obtain ⟨e1, e2, hf⟩ := hI
      dsimp only at e1 e2 hf
      subst e1; subst e2
      have hms := ms_lt hR x
      have hand : x &&& S < 256 := and_lt8 (by omega)
      left
      show ∃ s', _ ∧ FX3_meets_30 now (fX3_meets_30 now q) g f (nI S) (nI v) (nI (cn (pmb k w c S v x) 64)) (nI x) = _
      unfold FX3_meets_30 FX3_meets_89
      simp (disch := omega) only [wordsM hR hM, bk, nI_leI, if_neg (Nat.not_le.mpr hx), rdA_ok, hgv x hx, nx_and, nI_eq, nI_1]
      -- nothing new
      have same : (∀ m, m < 64 → fm k w c S v m x = true → pmb k w c S v x m = true) → ((f, nI (cn (pmb k w c S v x) 64), nI (x + 1)).2.2 = nI (x + 1) ∧ (f, nI (cn (pmb k w c S v x) 64), nI (x + 1)).2.1 = nI (cn (pmb k w c S v (x + 1)) 64) ∧ ∀ m, m < 64 → (f, nI (cn (pmb k w c S v x) 64), nI (x + 1)).1 m = b2 (pmb k w c S v (x + 1) m)) := by
        intro h
        have hq : ∀ m, m < 64 → pmb k w c S v (x + 1) m = pmb k w c S v x m := by
          intro m hm
          show (exb _ x || fm k w c S v m x) = exb _ x
          cases hfm : fm k w c S v m x with
          | false => simp
          | true => rw [show exb (fm k w c S v m) x = true from h m hm hfm]; rfl
        refine ⟨rfl, ?_, fun m hm => ?_⟩
        · show nI _ = nI _
          rw [cn_congr hq]
        · rw [hq m hm]; exact hf m hm
      by_cases hc : cw k w c x = true
      · rw [if_neg (by rw [mo_m1 hR]; simp [hc]), mo_cw hc]
        simp (disch := omega) only [rdA_ok, wrA_ok]
        by_cases hs : x &&& S = v
        · rw [if_pos hs, hf _ hms]
          cases hpm : pmb k w c S v x (ms k w c x) with
          | false =>
            rw [if_pos (by rfl)]
            refine ⟨(upd f (ms k w c x) (1 &&& 1), nI (cn (pmb k w c S v x) 64 + 1), nI (x + 1)), ⟨rfl, ?_, fun m hm => ?_⟩, rfl⟩
            · show nI _ = nI _
              rw [cn_flip (Q := pmb k w c S v x) (Q' := pmb k w c S v (x + 1)) (m0 := ms k w c x) hpm ?_ ?_ 64 hms]
              · show (exb _ x || fm k w c S v (ms k w c x) x) = true
                simp [fm, hc, hs]
              · intro m hm
                show (exb _ x || fm k w c S v m x) = exb _ x
                have : fm k w c S v m x = false := by simp [fm, Ne.symm hm]
                rw [this]; simp
            · show upd f (ms k w c x) (1 &&& 1) m = _
              by_cases e : m = ms k w c x
              · subst e
                rw [up_eq]
                have : pmb k w c S v (x + 1) (ms k w c x) = true := by
                  show (exb _ x || fm k w c S v (ms k w c x) x) = true
                  simp [fm, hc, hs]
                rw [this]; decide
              · rw [up_ne e, hf m hm]
                show b2 (exb _ x) = b2 (exb _ x || fm k w c S v m x)
                have : fm k w c S v m x = false := by simp [fm, Ne.symm e]
                rw [this]; simp
          | true =>
            rw [if_neg (by decide)]
            exact ⟨_, same (fun m hm h => by
              have : ms k w c x = m := by simp [fm] at h; exact h.2
              subst this; exact hpm), rfl⟩
        · rw [if_neg hs]
          exact ⟨_, same (fun m hm h => by simp [fm, hs] at h), rfl⟩
      · rw [if_pos (by rw [mo_m1 hR]; simpa using hc)]
        exact ⟨_, same (fun m hm h => by simp [fm, hc] at h), rfl⟩
    · intro s q hI
      obtain ⟨f, ct, xi⟩ := s
      obtain ⟨e1, e2, hf⟩ := hI
      dsimp only at e1 e2 hf
      subst e1; subst e2
      refine ⟨f, ?_, hf⟩
      show FX3_meets_30 now (fX3_meets_30 now q) g f (nI S) (nI v) (nI _) (nI (2 ^ n)) = _
      unfold FX3_meets_30
      simp (disch := omega) only [wordsM hR hM, bk, nI_leI, if_pos (Nat.le_refl _)]
  refine upR (fun q (s : (Nat → Int32) × Int32) => fX3_meets_6 now q g s.1 (nI S) (nI v) s.2) (fun x s => s.2 = nI x ∧ ∀ m, m < x → s.1 m = 0) (fun o => ∃ g f, o = some (nI (cn (pmb k w c S v (2 ^ n)) 64), g, f) ∧ (∀ m, m < 64 → f m = b2 (pmb k w c S v (2 ^ n) m)) ∧ ∀ x, x < 2 ^ n → g x = mo k w c x) 64 ?_ ?_ 300 0 (met, 0) ⟨rfl, fun m h => absurd h (Nat.not_lt_zero m)⟩ (by omega) (by omega)
  · intro x s q hx hI
    obtain ⟨f, xi⟩ := s
    obtain ⟨e1, hf⟩ := hI
    dsimp only at e1 hf
    subst e1
    left
    refine ⟨(upd f x 0, nI (x + 1)), ⟨rfl, fun m hm => ?_⟩, ?_⟩
    · show upd f x 0 m = 0
      by_cases e : m = x
      · subst e; exact up_eq _ _ _
      · rw [up_ne e]; exact hf m (by omega)
    · show FX3_meets_6 now (fX3_meets_6 now q) g f (nI S) (nI v) (nI x) = _
      unfold FX3_meets_6
      simp (disch := omega) only [li64, nI_leI, if_neg (Nat.not_le.mpr hx), wrA_ok, nI_1]
      rfl
  · intro s q hI
    obtain ⟨f, xi⟩ := s
    obtain ⟨e1, hf⟩ := hI
    dsimp only at e1 hf
    subst e1
    obtain ⟨f2, h1, h2⟩ := L2 f hf
    refine ⟨g, f2, ?_, h2, hgv⟩
    show FX3_meets_6 now (fX3_meets_6 now q) g f (nI S) (nI v) (nI 64) = _
    unfold FX3_meets_6
    rw [li64, if_pos (nI_le (Nat.le_refl 64) (by decide)), h1]
/-- the same as a number of 64 bits -/
def Mk (k : Nat) (w c : Nat → Nat) (S v : Nat) : Nat → Nat
  | 0 => 0
  | x + 1 => if (cw k w c x && decide (x &&& S = v)) then Mk k w c S v x ||| 2 ^ ms k w c x else Mk k w c S v x
theorem Mk_s (k : Nat) (w c : Nat → Nat) (S v x : Nat) : Mk k w c S v (x + 1) = if (cw k w c x && decide (x &&& S = v)) then Mk k w c S v x ||| 2 ^ ms k w c x else Mk k w c S v x := rfl
theorem Mk_bit (k : Nat) (w c : Nat → Nat) (S v m : Nat) : ∀ x, (Mk k w c S v x).testBit m = pmb k w c S v x m
  | 0 => by show Nat.testBit 0 m = false; simp
  | x + 1 => by
    rw [Mk_s]
    show _ = (exb (fm k w c S v m) x || ((cw k w c x && decide (x &&& S = v)) && decide (ms k w c x = m)))
    have ih : (Mk k w c S v x).testBit m = exb (fm k w c S v m) x := Mk_bit k w c S v m x
    split
    · rename_i h
      rw [Nat.testBit_or, ih, Nat.testBit_two_pow, h]
      rfl
    · rename_i h
      rw [ih]
      simp only [Bool.not_eq_true] at h
      rw [h]
      simp
theorem Mk_lt (hR : RS n k w c) (S v : Nat) : ∀ x, Mk k w c S v x < 2 ^ 64
  | 0 => by show 0 < 2 ^ 64; decide
  | x + 1 => by
    rw [Mk_s]
    split
    · exact Nat.or_lt_two_pow (Mk_lt hR S v x) (Nat.pow_lt_pow_right (by decide) (ms_lt hR x))
    · exact Mk_lt hR S v x
theorem fitX (hR : RS n k w c) (hX : StX len sz words checks n k w c) {S v : Nat} (hS : S < 2 ^ n) (hv : v < 2 ^ n) : fX2_messagesFitting len sz words checks (nI S) (nI v) = some (lN (Mk k w c S v (2 ^ n))) := by
  have hp := hR.p8
  have hp0 := p2pos n
  show fX2_messagesFitting_5 len sz words checks 300 (nI S) (nI v) (lN (Mk k w c S v 0)) (nI 0) = _
  refine upF (fun q x => fX2_messagesFitting_5 len sz words checks q (nI S) (nI v) (lN (Mk k w c S v x)) (nI x)) _ (2 ^ n) ?_ ?_ 300 0 (by omega) (by omega)
  · intro x q hx
    left
    have hms := ms_lt hR x
    have hand : x &&& S < 256 := and_lt8 (by omega)
    have hs0 : fX2_syndrome sz words checks (nI x) 0 = some (nI (ms k w c x)) := synX hR hX (kind := 0) (by decide)
    show FX2_messagesFitting_5 len sz words checks (fX2_messagesFitting_5 len sz words checks q) (nI S) (nI v) (lN (Mk k w c S v x)) (nI x) = _
    unfold FX2_messagesFitting_5 FX2_messagesFitting_43
    simp (disch := omega) only [allX hR hX, bk, nI_ltI, if_neg (show ¬ 2 ^ n - 1 < x by omega), nx_and, nI_eq, cwX hR hX, ifb, hs0, nI_1, l1sh _ hms, lx_or, Mk_s]
    by_cases hs : x &&& S = v
    · rw [if_pos hs]
      cases hc : cw k w c x with
      | false => simp
      | true => simp [hs]
    · rw [if_neg hs]
      simp [hs]
  · intro q
    show FX2_messagesFitting_5 len sz words checks (fX2_messagesFitting_5 len sz words checks q) (nI S) (nI v) (lN (Mk k w c S v (2 ^ n))) (nI (2 ^ n)) = _
    unfold FX2_messagesFitting_5
    simp (disch := omega) only [allX hR hX, bk, nI_ltI, if_pos (show 2 ^ n - 1 < 2 ^ n by omega)]
def isO (n : Nat) (x y : Int32) : Bool := isW n x && isW n y && decide ((y &&& x) = y)
theorem sub_eq (x y : Int32) : (x &&& (y ^^^ (-1))) = 0 ↔ (x &&& y) = x := by
  rw [← Int32.toBitVec_inj, ← Int32.toBitVec_inj]
  show x.toBitVec &&& (y.toBitVec ^^^ BitVec.allOnes 32) = 0#32 ↔ x.toBitVec &&& y.toBitVec = x.toBitVec
  have ao : ∀ i, i < 32 → (BitVec.allOnes 32).getLsbD i = true := fun i hi => by rw [BitVec.getLsbD_allOnes, decide_eq_true_eq]; exact hi
  generalize BitVec.allOnes 32 = o at *
  constructor
  · intro h
    apply BitVec.eq_of_getLsbD_eq
    intro i hi
    have t := congrArg (fun q => q.getLsbD i) h
    rw [BitVec.getLsbD_and, BitVec.getLsbD_xor, ao i hi, BitVec.getLsbD_zero] at t
    rw [BitVec.getLsbD_and]
    revert t
    cases x.toBitVec.getLsbD i <;> cases y.toBitVec.getLsbD i <;> decide
  · intro h
    apply BitVec.eq_of_getLsbD_eq
    intro i hi
    have t := congrArg (fun q => q.getLsbD i) h
    rw [BitVec.getLsbD_and] at t
    rw [BitVec.getLsbD_and, BitVec.getLsbD_xor, ao i hi, BitVec.getLsbD_zero]
    revert t
    cases x.toBitVec.getLsbD i <;> cases y.toBitVec.getLsbD i <;> decide
theorem isObX (hR : RS n k w c) (hX : StX len sz words checks n k w c) (x y : Int32) : fX2_isObservation len x y = some (b2 (isO n x y)) := by
  show FX2_isObservation_0 len x y = _
  unfold FX2_isObservation_0 FX2_isObservation_27 FX2_isObservation_28 isO
  rw [isWordX hR hX, isWordX hR hX, bk, bk, ifb, ifb]
  cases h1 : isW n x with
  | false => simp [ckB_0, b2]
  | true =>
    cases h2 : isW n y with
    | false => simp [ckB_0, b2]
    | true =>
      by_cases h3 : (y &&& x) = y
      · simp [h3, ckB_1, b2]
      · simp [h3, ckB_0, b2]
theorem isObM (hR : RS n k w c) (hM : StM now n k w c) (x y : Int32) : fX3_isObservation now x y = some (b2 (isO n x y)) := by
  show FX3_isObservation_0 now x y = _
  unfold FX3_isObservation_0 FX3_isObservation_28 FX3_isObservation_29 isO
  rw [isWordM hR hM, isWordM hR hM, bk, bk, ifb, ifb]
  cases h1 : isW n x with
  | false => simp [ckB_0, b2]
  | true =>
    cases h2 : isW n y with
    | false => simp [ckB_0, b2]
    | true =>
      have e := sub_eq y x
      rw [if_pos rfl, if_pos rfl]
      by_cases h3 : (y &&& x) = y
      · rw [if_pos (e.mpr h3), ckB_1]; simp [h3, b2]
      · rw [if_neg (fun h => h3 (e.mp h)), ckB_0]; simp [h3, b2]
theorem isO_of (hR : RS n k w c) {x y : Int32} (h : isO n x y = true) : ∃ S v, S < 2 ^ n ∧ v < 2 ^ n ∧ x = nI S ∧ y = nI v := by
  unfold isO at h
  simp only [Bool.and_eq_true] at h
  obtain ⟨S, hS, e1⟩ := isW_of hR.2.1 h.1.1
  obtain ⟨v, hv, e2⟩ := isW_of hR.2.1 h.1.2
  exact ⟨S, v, hS, hv, e1, e2⟩
theorem st_possibleMessages (hR : RS n k w c) (hX : StX len sz words checks n k w c) (hM : StM now n k w c) (hE : EE err errM) (x y : Int32) : ∃ vX vM, fX2_possibleMessages len sz words checks err x y = some vX ∧ fX3_possibleMessages now errM msg met x y = some vM ∧ vX.1 = vM.1 ∧ EE vX.2 vM.2.1 := by
  show ∃ vX vM, FX2_possibleMessages_0 len sz words checks err x y = some vX ∧ FX3_possibleMessages_0 now errM msg met x y = some vM ∧ vX.1 = vM.1 ∧ EE vX.2 vM.2.1
  unfold FX2_possibleMessages_0 FX3_possibleMessages_0 FX3_possibleMessages_24
  rw [isObX hR hX, isObM hR hM, bk, bk, ifb, ifb]
  cases h : isO n x y with
  | false =>
    simp only [Bool.false_eq_true, ↓reduceIte, fX2a, fX3a, bk]
    exact ⟨_, _, rfl, rfl, rfl, hE.up (by decide)⟩
  | true =>
    obtain ⟨S, v, hS, hv, rfl, rfl⟩ := isO_of hR h
    obtain ⟨g, f, e, hf, hg⟩ := meetsM hR hM msg met hS hv
    simp only [↓reduceIte, fitX hR hX hS hv, e, bk, bitL (Mk_lt hR S v _), Mk_bit]
    exact ⟨_, _, rfl, rfl, rfl, hE⟩
theorem st_possibleMessage (hR : RS n k w c) (hX : StX len sz words checks n k w c) (hM : StM now n k w c) (hE : EE err errM) (x y z : Int32) : ∃ vX vM, fX2_possibleMessage len sz words checks err x y z = some vX ∧ fX3_possibleMessage now errM msg met x y z = some vM ∧ vX.1 = vM.1 ∧ EE vX.2 vM.2.1 := by
  show ∃ vX vM, FX2_possibleMessage_0 len sz words checks err x y z = some vX ∧ FX3_possibleMessage_0 now errM msg met x y z = some vM ∧ vX.1 = vM.1 ∧ EE vX.2 vM.2.1
  unfold FX2_possibleMessage_0 FX3_possibleMessage_0 FX2_possibleMessage_13 FX3_possibleMessage_13
  rw [isObX hR hX, isObM hR hM, bk, bk, ifb, ifb]
  cases h : isO n x y with
  | false =>
    simp only [Bool.false_eq_true, ↓reduceIte, fX2a, fX3a, bk]
    exact ⟨_, _, rfl, rfl, rfl, hE.up (by decide)⟩
  | true =>
    obtain ⟨S, v, hS, hv, rfl, rfl⟩ := isO_of hR h
    obtain ⟨g, f, e, hf, hg⟩ := meetsM hR hM msg met hS hv
    by_cases hz : 0 ≤ z
    · simp only [↓reduceIte, if_pos hz, fitX hR hX hS hv, e, bk]
      refine upRR (fun q (s : Int32 × Int32) => fX2_possibleMessage_34 len sz words checks q err z (lN (Mk k w c S v (2 ^ n))) s.1 s.2) (fun q (s : Int32 × Int32) => fX3_possibleMessage_33 now q errM g f z s.1 s.2) (fun m s1 s2 => s1 = s2 ∧ s1.2 = nI m) (fun o1 o2 => ∃ vX vM, o1 = some vX ∧ o2 = some vM ∧ vX.1 = vM.1 ∧ EE vX.2 vM.2.1) 64 ?_ ?_ 300 0 (0, 0) (0, 0) ⟨rfl, rfl⟩ (by omega) (by omega)
      · intro m s1 s2 q hm hI
        obtain ⟨ct, xi⟩ := s1
        obtain ⟨e1, e2⟩ := hI
        subst e1
        dsimp only at e2
        subst e2
        show (∃ s1' s2', _ ∧ FX2_possibleMessage_34 len sz words checks (fX2_possibleMessage_34 len sz words checks q) err z (lN (Mk k w c S v (2 ^ n))) ct (nI m) = _ ∧ FX3_possibleMessage_33 now (fX3_possibleMessage_33 now q) errM g f z ct (nI m) = _) ∨ (∃ vX vM, FX2_possibleMessage_34 len sz words checks (fX2_possibleMessage_34 len sz words checks q) err z (lN (Mk k w c S v (2 ^ n))) ct (nI m) = some vX ∧ FX3_possibleMessage_33 now (fX3_possibleMessage_33 now q) errM g f z ct (nI m) = some vM ∧ vX.1 = vM.1 ∧ EE vX.2 vM.2.1)
        unfold FX2_possibleMessage_34 FX3_possibleMessage_33 FX2_possibleMessage_65 FX3_possibleMessage_62
        have hb := bitT (M := Mk k w c S v (2 ^ n)) hm
        rw [Mk_bit] at hb
        simp (disch := omega) only [li64, nI_leI, if_neg (Nat.not_le.mpr hm), rdA_ok, hf m hm, nI_1, ifb]
        cases hpm : pmb k w c S v (2 ^ n) m with
        | false =>
          rw [if_pos (hb.mpr hpm), if_neg (by decide)]
          exact Or.inl ⟨(ct, nI (m + 1)), (ct, nI (m + 1)), ⟨rfl, rfl⟩, rfl, rfl⟩
        | true =>
          rw [if_neg (fun h => by rw [hb.mp h] at hpm; cases hpm), if_pos (show true = true from rfl)]
          by_cases hy2 : ct = z
          · rw [if_pos hy2, if_pos hy2]
            exact Or.inr ⟨_, _, rfl, rfl, rfl, hE⟩
          · rw [if_neg hy2, if_neg hy2]
            exact Or.inl ⟨(ct + 1, nI (m + 1)), (ct + 1, nI (m + 1)), ⟨rfl, rfl⟩, rfl, rfl⟩
      · intro s1 s2 q hI
        obtain ⟨ct, xi⟩ := s1
        obtain ⟨e1, e2⟩ := hI
        subst e1
        dsimp only at e2
        subst e2
        show ∃ vX vM, FX2_possibleMessage_34 len sz words checks (fX2_possibleMessage_34 len sz words checks q) err z (lN (Mk k w c S v (2 ^ n))) ct (nI 64) = some vX ∧ FX3_possibleMessage_33 now (fX3_possibleMessage_33 now q) errM g f z ct (nI 64) = some vM ∧ vX.1 = vM.1 ∧ EE vX.2 vM.2.1
        unfold FX2_possibleMessage_34 FX3_possibleMessage_33
        rw [li64, if_pos (nI_le (Nat.le_refl 64) (by decide)), if_pos (nI_le (Nat.le_refl 64) (by decide)), fX2b, fX3b, bk, bk]
        exact ⟨_, _, rfl, rfl, rfl, hE.up (by decide)⟩
    · simp only [↓reduceIte, if_neg hz, fX2a, fX3a, bk]
      exact ⟨_, _, rfl, rfl, rfl, hE.up (by decide)⟩
end PO
