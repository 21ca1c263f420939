/-! ===== the reference's ranks ===== -/
def lb (v : Nat) : Nat := (v &&& (256 - v)).log2
theorem lb_ok : ∀ v, v < 256 → v ≠ 0 → nI v &&& (-(nI v)) = nI (2 ^ lb v) ∧ v.testBit (lb v) = true ∧ lb v < 8 := by decide +kernel
theorem ab_ok : ∀ p, p < 8 → ∀ u, u < 256 → (nI u &&& nI (2 ^ p) = nI 0 ↔ u.testBit p = false) := by decide +kernel
theorem tb_lt {v p N : Nat} (hv : v < 2 ^ N) (h : v.testBit p = true) : p < N := by
  have h1 := Nat.ge_two_pow_of_testBit h
  exact (Nat.pow_lt_pow_iff_right (a := 2) (by decide)).mp (Nat.lt_of_le_of_lt h1 hv)
section RM
variable {now : Nat → Int32} {n k : Nat} {w c : Nat → Nat}
/-- one pass: the rows behind j lose the pivot p of v -/
def el (j p v : Nat) (lv : Nat → Nat) (m i : Nat) : Nat := if j < i ∧ i < m ∧ (lv i).testBit p = true then lv i ^^^ v else lv i
theorem innerM (hR : RS n k w c) (hM : StM now n k w c) {r61 : (Nat → Int32) → Int32 → Int32 → Option (Int32 × (Nat → Int32))} {lv : Nat → Nat} {lef : Nat → Int32} {j : Nat} {x3 : Int32} (hj : j < k) (hl : ∀ i, i < k → lef i = nI (lv i)) (hlt : ∀ i, i < k → lv i < 2 ^ n) (h0 : lv j ≠ 0) :
    ∃ lef', (∀ i, i < k → lef' i = nI (el j (lb (lv j)) (lv j) lv k i)) ∧ fX3_rankOf_109 now r61 300 lef x3 (nI j) (nI (lv j) &&& (-(nI (lv j)))) (nI j + 1) = r61 lef' x3 (nI (j + 1)) := by
  have hp := hR.p8
  have hk6 := hR.2.2.1
  have hv8 : lv j < 256 := Nat.lt_of_lt_of_le (hlt j hj) hp
  obtain ⟨l1, l2, l3⟩ := lb_ok (lv j) hv8 h0
  rw [l1, nI_1]
  refine upR (fun q (s : (Nat → Int32) × Int32) => fX3_rankOf_109 now r61 q s.1 x3 (nI j) (nI (2 ^ lb (lv j))) s.2) (fun e s => s.2 = nI e ∧ j < e ∧ ∀ i, i < k → s.1 i = nI (el j (lb (lv j)) (lv j) lv e i)) (fun o => ∃ lef', (∀ i, i < k → lef' i = nI (el j (lb (lv j)) (lv j) lv k i)) ∧ o = r61 lef' x3 (nI (j + 1))) k ?_ ?_ 300 (j + 1) (lef, nI (j + 1)) ⟨rfl, by omega, fun i hi => ?_⟩ (by omega) (by omega)
  · intro e s q he hI
    obtain ⟨lf, x6⟩ := s
    obtain ⟨e1, hje, hf⟩ := hI
    dsimp only at e1 hf
    subst e1
    have hee : el j (lb (lv j)) (lv j) lv e e = lv e := by unfold el; rw [if_neg (by omega)]
    have hej : el j (lb (lv j)) (lv j) lv e j = lv j := by unfold el; rw [if_neg (by omega)]
    have fe : lf e = nI (lv e) := by rw [hf e he, hee]
    have fj : lf j = nI (lv j) := by rw [hf j hj, hej]
    have hue := Nat.lt_of_lt_of_le (hlt e he) hp
    left
    show ∃ s', _ ∧ FX3_rankOf_109 now r61 (fX3_rankOf_109 now r61 q) lf x3 (nI j) (nI (2 ^ lb (lv j))) (nI e) = _
    unfold FX3_rankOf_109 FX3_rankOf_152
    simp (disch := omega) only [li1, rdA_ok, hM.2.1, nI_leI, if_neg (Nat.not_le.mpr he), fe, fj, li0, wrA_ok, nI_add, nx_xor]
    by_cases ht : (lv e).testBit (lb (lv j)) = true
    · rw [if_neg (fun h => by rw [(ab_ok _ l3 _ hue).mp h] at ht; cases ht)]
      refine ⟨(upd lf e (nI (lv e ^^^ lv j)), nI (e + 1)), ⟨rfl, by omega, fun i hi => ?_⟩, rfl⟩
      show upd lf e _ i = _
      by_cases e2 : i = e
      · subst e2
        rw [up_eq]
        unfold el
        rw [if_pos ⟨hje, by omega, ht⟩]
      · rw [up_ne e2, hf i hi]
        unfold el
        have : (i < e) = (i < e + 1) := propext ⟨fun h => by omega, fun h => by omega⟩
        simp only [this]
    · rw [if_pos ((ab_ok _ l3 _ hue).mpr (by simpa using ht)), Nat.xor_zero]
      refine ⟨(upd lf e (nI (lv e)), nI (e + 1)), ⟨rfl, by omega, fun i hi => ?_⟩, rfl⟩
      show upd lf e _ i = _
      by_cases e2 : i = e
      · subst e2
        rw [up_eq]
        unfold el
        rw [if_neg (fun h => ht h.2.2)]
      · rw [up_ne e2, hf i hi]
        unfold el
        have : (i < e) = (i < e + 1) := propext ⟨fun h => by omega, fun h => by omega⟩
        simp only [this]
  · intro s q hI
    obtain ⟨lf, x6⟩ := s
    obtain ⟨e1, hje, hf⟩ := hI
    dsimp only at e1 hf
    subst e1
    refine ⟨lf, hf, ?_⟩
    show FX3_rankOf_109 now r61 (fX3_rankOf_109 now r61 q) lf x3 (nI j) (nI (2 ^ lb (lv j))) (nI k) = _
    unfold FX3_rankOf_109 FX3_rankOf_160
    simp (disch := omega) only [li1, rdA_ok, hM.2.1, nI_leI, if_pos (Nat.le_refl _), nI_add]
  · show lef i = _
    rw [hl i hi]
    unfold el
    rw [if_neg (by omega)]
/-- what the elimination finds for the rows l0 -/
def TR (n k : Nat) (l0 : Nat → Nat) (T : List (Nat × Nat)) : Prop := Tri n T ∧ ∀ x, (∀ q ∈ T, dt q.1 x = false) ↔ ∀ i, i < k → dt (l0 i) x = false
def OI (n k : Nat) (l0 : Nat → Nat) (j : Nat) (s : (Nat → Int32) × Int32 × Int32) : Prop :=
  s.2.2 = nI j ∧ ∃ (lv : Nat → Nat) (T : List (Nat × Nat)), s.2.1 = nI T.length ∧ (∀ i, i < k → s.1 i = nI (lv i)) ∧ (∀ i, i < k → lv i < 2 ^ n) ∧ Tri n T ∧ (∀ q ∈ T, ∀ i, j ≤ i → i < k → (lv i).testBit q.2 = false) ∧ ∀ x, ((∀ q ∈ T, dt q.1 x = false) ∧ ∀ i, j ≤ i → i < k → dt (lv i) x = false) ↔ ∀ i, i < k → dt (l0 i) x = false
theorem outerM (hR : RS n k w c) (hM : StM now n k w c) {l0 : Nat → Nat} {lef : Nat → Int32} (hl : ∀ i, i < k → lef i = nI (l0 i)) (hlt : ∀ i, i < k → l0 i < 2 ^ n) :
    ∃ T lef', fX3_rankOf_61 now 300 lef 0 0 = some (nI T.length, lef') ∧ TR n k l0 T := by
  have hp := hR.p8
  have hk6 := hR.2.2.1
  refine upR (fun q (s : (Nat → Int32) × Int32 × Int32) => fX3_rankOf_61 now q s.1 s.2.1 s.2.2) (OI n k l0) (fun o => ∃ T lef', o = some (nI T.length, lef') ∧ TR n k l0 T) k ?_ ?_ 300 0 (lef, 0, 0) ⟨rfl, l0, [], rfl, hl, hlt, trivial, (fun _ h => by cases h), fun x => ⟨fun h i hi => h.2 i (Nat.zero_le i) hi, fun h => ⟨(fun _ h => by cases h), fun i _ hi => h i hi⟩⟩⟩ (by omega) (by omega)
  · intro j s q hj hI
    obtain ⟨lf, x3, x4⟩ := s
    obtain ⟨e1, lv, T, e2, hf, hv, hT, hpv, hk⟩ := hI
    dsimp only at e1 e2 hf
    subst e1; subst e2
    have hvj := hv j hj
    left
    show ∃ s', _ ∧ FX3_rankOf_61 now (fX3_rankOf_61 now q) lf (nI T.length) (nI j) = _
    unfold FX3_rankOf_61 FX3_rankOf_160
    by_cases h0 : lv j = 0
    · simp (disch := omega) only [li1, rdA_ok, hM.2.1, nI_leI, if_neg (Nat.not_le.mpr hj), hf j hj, h0, li0, ↓reduceIte, nI_add]
      refine ⟨(lf, nI T.length, nI (j + 1)), ⟨rfl, lv, T, rfl, hf, hv, hT, fun q hq i h1 h2 => hpv q hq i (by omega) h2, fun x => ?_⟩, rfl⟩
      rw [← hk x]
      constructor
      · intro ⟨a, b⟩
        refine ⟨a, fun i h1 h2 => ?_⟩
        rcases Nat.lt_or_ge j i with h | h
        · exact b i h h2
        · have : i = j := by omega
          subst this
          rw [h0, dt_0l]
      · intro ⟨a, b⟩
        exact ⟨a, fun i h1 h2 => b i (by omega) h2⟩
    · obtain ⟨lf', hf', he⟩ := innerM hR hM (r61 := fX3_rankOf_61 now q) (x3 := nI (T.length + 1)) hj hf hv h0
      have hne : ¬ nI (lv j) = 0 := by
        show ¬ nI (lv j) = nI 0
        rw [nI_eq (by omega) (by omega)]; exact h0
      have e3 : (rdA 14 now 1 fun v8 => if v8 ≤ nI j then some (nI T.length, lf) else rdA 6 lf (nI j) fun v9 => if v9 = 0 then fX3_rankOf_61 now q lf (nI T.length) (nI j + 1) else rdA 6 lf (nI j) fun v10 => rdA 6 lf (nI j) fun v11 => fX3_rankOf_109 now (fX3_rankOf_61 now q) 300 lf (nI T.length + 1) (nI j) (v10 &&& (-v11)) (nI j + 1)) = fX3_rankOf_61 now q lf' (nI (T.length + 1)) (nI (j + 1)) := by
        rw [show (1 : Int32) = nI 1 from rfl, rdA_ok (by decide) (by decide), hM.2.1, if_neg (by rw [nI_leI (by omega) (by omega)]; omega), rdA_ok (by omega) (by decide), hf j hj, if_neg hne, rdA_ok (by omega) (by decide), rdA_ok (by omega) (by decide), hf j hj, nI_add]
        exact he
      have hv8 : lv j < 256 := Nat.lt_of_lt_of_le hvj hp
      obtain ⟨l1, l2, l3⟩ := lb_ok (lv j) hv8 h0
      refine ⟨(lf', nI (T.length + 1), nI (j + 1)), ⟨rfl, el j (lb (lv j)) (lv j) lv k, T ++ [(lv j, lb (lv j))], by simp, hf', fun i hi => ?_, tri_snoc hT (tb_lt hvj l2) hv8 l2 (fun s hs => hpv s hs j (Nat.le_refl j) hj), fun s hs i h1 h2 => ?_, fun x => ?_⟩, e3⟩
      · unfold el
        split
        · exact Nat.xor_lt_two_pow (hv i hi) hvj
        · exact hv i hi
      · unfold el
        rcases List.mem_append.mp hs with h | h
        · split
          · rw [Nat.testBit_xor, hpv s h i (by omega) h2, hpv s h j (Nat.le_refl j) hj]; rfl
          · exact hpv s h i (by omega) h2
        · rw [List.mem_singleton.mp h]
          by_cases ht : (lv i).testBit (lb (lv j)) = true
          · rw [if_pos ⟨by omega, h2, ht⟩]
            show (lv i ^^^ lv j).testBit (lb (lv j)) = false
            rw [Nat.testBit_xor, ht, l2]; rfl
          · rw [if_neg (fun h => ht h.2.2)]
            simpa using ht
      · rw [← hk x]
        have key : dt (lv j) x = false → ∀ i, dt (el j (lb (lv j)) (lv j) lv k i) x = dt (lv i) x := by
          intro hd i
          unfold el
          split
          · rw [dt_xl, hd]; simp
          · rfl
        constructor
        · intro ⟨a, b⟩
          have hd : dt (lv j) x = false := a _ (List.mem_append_right _ (List.mem_singleton.mpr rfl))
          refine ⟨fun s hs => a s (List.mem_append_left _ hs), fun i h1 h2 => ?_⟩
          rcases Nat.lt_or_ge j i with h | h
          · rw [← key hd]; exact b i h h2
          · have : i = j := by omega
            subst this; exact hd
        · intro ⟨a, b⟩
          have hd : dt (lv j) x = false := b j (Nat.le_refl j) hj
          refine ⟨fun s hs => ?_, fun i h1 h2 => by rw [key hd]; exact b i (by omega) h2⟩
          rcases List.mem_append.mp hs with h | h
          · exact a s h
          · rw [List.mem_singleton.mp h]; exact hd
  · intro s q hI
    obtain ⟨lf, x3, x4⟩ := s
    obtain ⟨e1, lv, T, e2, hf, hv, hT, hpv, hk⟩ := hI
    dsimp only at e1 e2 hf
    subst e1; subst e2
    refine ⟨T, lf, ?_, hT, fun x => ?_⟩
    · show FX3_rankOf_61 now (fX3_rankOf_61 now q) lf (nI T.length) (nI k) = _
      unfold FX3_rankOf_61
      simp (disch := omega) only [li1, rdA_ok, hM.2.1, nI_leI, if_pos (Nat.le_refl _)]
    · rw [← hk x]
      exact ⟨fun h => ⟨h, fun i h1 h2 => by omega⟩, fun h => h.1⟩
/-- the rows that count -/
def l0f (w c : Nat → Nat) (kind S i : Nat) : Nat := if kind = 2 ∨ c i = kind then w i &&& S else 0
theorem layM (hR : RS n k w c) (hM : StM now n k w c) {kind S : Nat} (hkd : kind < 3) (lef : Nat → Int32) : ∃ lf, (∀ i, i < k → lf i = nI (l0f w c kind S i)) ∧ fX3_rankOf now lef (nI kind) (nI S) = fX3_rankOf_61 now 300 lf 0 0 := by
  have hk6 := hR.2.2.1
  show ∃ lf, _ ∧ fX3_rankOf_2 now 300 lef (nI kind) (nI S) 0 = _
  refine upR (fun q (s : (Nat → Int32) × Int32) => fX3_rankOf_2 now q s.1 (nI kind) (nI S) s.2) (fun j s => s.2 = nI j ∧ ∀ i, i < j → s.1 i = nI (l0f w c kind S i)) (fun o => ∃ lf, (∀ i, i < k → lf i = nI (l0f w c kind S i)) ∧ o = fX3_rankOf_61 now 300 lf 0 0) k ?_ ?_ 300 0 (lef, 0) ⟨rfl, fun i h => absurd h (Nat.not_lt_zero i)⟩ (by omega) (by omega)
  · intro j s q hj hI
    obtain ⟨lf, x⟩ := s
    obtain ⟨e1, hf⟩ := hI
    dsimp only at e1 hf
    subst e1
    have hc := hR.2.2.2.2 j hj
    left
    refine ⟨(upd lf j (nI (l0f w c kind S j)), nI (j + 1)), ⟨rfl, fun i hi => ?_⟩, ?_⟩
    · show upd lf j _ i = _
      by_cases e : i = j
      · subst e; exact up_eq _ _ _
      · rw [up_ne e]; exact hf i (by omega)
    · show FX3_rankOf_2 now (fX3_rankOf_2 now q) lf (nI kind) (nI S) (nI j) = _
      unfold FX3_rankOf_2 FX3_rankOf_35 FX3_rankOf_49
      simp (disch := omega) only [li1, li2, li8, rdA_ok, hM.2.1, nI_leI, if_neg (Nat.not_le.mpr hj), nI_add, nI_eq, hM.2.2.1 j hj, hM.2.2.2 j hj, wrA_ok, nx_and]
      unfold l0f
      by_cases h1 : kind = 2
      · rw [if_pos h1, if_pos (Or.inl h1)]
      · rw [if_neg h1]
        by_cases h2 : c j = kind
        · rw [if_pos h2, if_pos (Or.inr h2)]
        · rw [if_neg h2, if_neg (by omega)]; rfl
  · intro s q hI
    obtain ⟨lf, x⟩ := s
    obtain ⟨e1, hf⟩ := hI
    dsimp only at e1 hf
    subst e1
    refine ⟨lf, hf, ?_⟩
    show FX3_rankOf_2 now (fX3_rankOf_2 now q) lf (nI kind) (nI S) (nI k) = _
    unfold FX3_rankOf_2
    rw [show (1 : Int32) = nI 1 from rfl, rdA_ok (by decide) (by decide), hM.2.1, if_pos (nI_le (Nat.le_refl k) (by omega))]
theorem rkM (hR : RS n k w c) (hM : StM now n k w c) {kind S : Nat} (hkd : kind < 3) (lef : Nat → Int32) : ∃ lf, fX3_rankOf now lef (nI kind) (nI S) = some (nI (rK k w c kind S), lf) := by
  obtain ⟨lf, h1, h2⟩ := layM hR hM (S := S) hkd lef
  obtain ⟨T, lf', h3, h4, h5⟩ := outerM hR hM h1 (fun i hi => by
    unfold l0f
    split
    · exact and_ltN (hR.2.2.2.1 i hi).2
    · exact Nat.two_pow_pos n)
  refine ⟨lf', ?_⟩
  rw [h2, h3]
  have hc : IsRk n (ker (T.map (fun q => q.1))) T.length := tri_count hR.2.1 T h4
  have hkr : ∀ x, ker (T.map (fun q => q.1)) x = true ↔ ∀ i, i < k → dt (l0f w c kind S i) x = false := by
    intro x
    rw [← h5 x, ker_iff]
    constructor
    · intro h q hq
      exact h q.1 (List.mem_map.mpr ⟨q, hq, rfl⟩)
    · intro h r hr
      obtain ⟨q, hq, rfl⟩ := List.mem_map.mp hr
      exact h q hq
  have : T.length = rK k w c kind S := by
    have hcc := hR.2.2.2.2
    rcases (show kind = 0 ∨ kind = 1 ∨ kind = 2 by omega) with e | e | e <;> subst e
    · refine IsRk.uniq (IsRk.congr hc (fun x _ => ?_)) (rM_rk hR S)
      rw [Bool.eq_iff_iff, hkr, kr_iff]
      exact ⟨fun h i hi hci => by have := h i hi; unfold l0f at this; rwa [if_pos (Or.inr hci)] at this, fun h i hi => by
        unfold l0f
        split
        · rename_i h6; exact h i hi (by omega)
        · exact dt_0l x⟩
    · refine IsRk.uniq (IsRk.congr hc (fun x _ => ?_)) (rC_rk hR S)
      rw [Bool.eq_iff_iff, hkr, kr_iff]
      exact ⟨fun h i hi hci => by have := h i hi; unfold l0f at this; rwa [if_pos (Or.inr hci)] at this, fun h i hi => by
        unfold l0f
        split
        · rename_i h6; exact h i hi (by omega)
        · exact dt_0l x⟩
    · refine IsRk.uniq (IsRk.congr hc (fun x _ => ?_)) (rA_rk hR S)
      rw [Bool.eq_iff_iff, hkr, Bool.and_eq_true, kr_iff, kr_iff]
      constructor
      · intro h
        exact ⟨fun i hi _ => by have := h i hi; unfold l0f at this; rwa [if_pos (Or.inl rfl)] at this, fun i hi _ => by have := h i hi; unfold l0f at this; rwa [if_pos (Or.inl rfl)] at this⟩
      · intro h i hi
        unfold l0f
        rw [if_pos (Or.inl rfl)]
        have := hcc i hi
        rcases (show c i = 0 ∨ c i = 1 by omega) with e | e
        · exact h.2 i hi e
        · exact h.1 i hi e
  rw [this]
end RM
