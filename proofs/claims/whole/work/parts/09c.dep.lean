/-! ===== dependent rows ===== -/
def xr (f : Nat → Nat) (u : Nat) : Nat → Nat
  | 0 => 0
  | t + 1 => xr f u t ^^^ (if u.testBit t = true then f t else 0)
theorem xr_s (f : Nat → Nat) (u t : Nat) : xr f u (t + 1) = xr f u t ^^^ (if u.testBit t = true then f t else 0) := rfl
def Sp (f : Nat → Nat) (j r : Nat) : Prop := ∃ u, u < 2 ^ j ∧ xr f u j = r
theorem x4 (a b x y : Nat) : (a ^^^ b) ^^^ (x ^^^ y) = (a ^^^ x) ^^^ (b ^^^ y) := by
  rw [Nat.xor_assoc, Nat.xor_assoc, ← Nat.xor_assoc b, Nat.xor_comm b x, Nat.xor_assoc x]
theorem xr_xor (f : Nat → Nat) (u v : Nat) : ∀ t, xr f (u ^^^ v) t = xr f u t ^^^ xr f v t
  | 0 => by show 0 = 0 ^^^ 0; rw [Nat.xor_zero]
  | t + 1 => by
    rw [xr_s, xr_s, xr_s, xr_xor f u v t, x4, Nat.testBit_xor]
    congr 1
    cases u.testBit t <;> cases v.testBit t <;> simp
theorem xr_0 (f : Nat → Nat) : ∀ t, xr f 0 t = 0
  | 0 => rfl
  | t + 1 => by rw [xr_s, xr_0 f t, Nat.zero_testBit, if_neg (by decide), Nat.xor_zero]
theorem xr_congr {f g : Nat → Nat} {u : Nat} : ∀ j, (∀ t, t < j → f t = g t) → xr f u j = xr g u j
  | 0, _ => rfl
  | j + 1, h => by rw [xr_s, xr_s, xr_congr j (fun t ht => h t (by omega)), h j (by omega)]
theorem xr_pw (f : Nat → Nat) (t : Nat) : ∀ j, xr f (2 ^ t) j = if t < j then f t else 0
  | 0 => rfl
  | j + 1 => by
    rw [xr_s, xr_pw f t j, Nat.testBit_two_pow]
    rcases Nat.lt_trichotomy t j with h | h | h
    · rw [if_pos h, if_neg (by simp; omega), if_pos (by omega), Nat.xor_zero]
    · subst h
      rw [if_neg (by omega), if_pos (by simp), if_pos (by omega), Nat.zero_xor]
    · rw [if_neg (by omega), if_neg (by simp; omega), if_neg (by omega), Nat.xor_zero]
theorem xr_lt {f : Nat → Nat} {u : Nat} : ∀ j, (∀ t, t < j → f t < 256) → xr f u j < 256
  | 0, _ => by show 0 < 256; decide
  | j + 1, h => by
    rw [xr_s]
    refine xor_lt8 (xr_lt j (fun t ht => h t (by omega))) ?_
    split
    · exact h j (by omega)
    · decide
theorem Sp_0 (f : Nat → Nat) (j : Nat) : Sp f j 0 := ⟨0, p2pos j, xr_0 f j⟩
theorem Sp_xor {f : Nat → Nat} {j r s : Nat} (h1 : Sp f j r) (h2 : Sp f j s) : Sp f j (r ^^^ s) := by
  obtain ⟨u, a1, a2⟩ := h1
  obtain ⟨v, b1, b2⟩ := h2
  exact ⟨u ^^^ v, Nat.xor_lt_two_pow a1 b1, by rw [xr_xor, a2, b2]⟩
theorem Sp_row {f : Nat → Nat} {j t : Nat} (h : t < j) : Sp f j (f t) := ⟨2 ^ t, p2lt h, by rw [xr_pw, if_pos h]⟩
theorem Sp_up {f : Nat → Nat} {j r : Nat} (h : Sp f j r) : Sp f (j + 1) r := by
  obtain ⟨u, a1, a2⟩ := h
  refine ⟨u, Nat.lt_trans a1 (p2lt (by omega)), ?_⟩
  rw [xr_s, a2, Nat.testBit_lt_two_pow a1]
  simp
theorem Sp_congr {f g : Nat → Nat} {j r : Nat} (h : ∀ t, t < j → f t = g t) : Sp f j r ↔ Sp g j r := by
  constructor
  · rintro ⟨u, a1, a2⟩; exact ⟨u, a1, by rw [← xr_congr j h]; exact a2⟩
  · rintro ⟨u, a1, a2⟩; exact ⟨u, a1, by rw [xr_congr j h]; exact a2⟩
theorem xr_dt {f : Nat → Nat} {u x : Nat} : ∀ j, (∀ t, t < j → dt (f t) x = false) → dt (xr f u j) x = false
  | 0, _ => dt_0l x
  | j + 1, h => by
    rw [xr_s, dt_xl, xr_dt j (fun t ht => h t (by omega))]
    split
    · rw [h j (by omega)]; rfl
    · rw [dt_0l]; rfl
theorem red_sp {f : Nat → Nat} {j : Nat} : ∀ (B : List Nat) (r : Nat), (∀ b ∈ B, Sp f j b) → ∃ s, Sp f j s ∧ red B r = r ^^^ s
  | [], r, _ => ⟨0, Sp_0 f j, (Nat.xor_zero r).symm⟩
  | b :: B, r, h => by
    have hB : ∀ b ∈ B, Sp f j b := fun x hx => h x (List.mem_cons_of_mem _ hx)
    rcases mnr_or r b with e | e
    · obtain ⟨s, s1, s2⟩ := red_sp B r hB
      refine ⟨s, s1, ?_⟩
      show red B (mnr r b) = _
      rw [e, s2]
    · obtain ⟨s, s1, s2⟩ := red_sp B (r ^^^ b) hB
      refine ⟨b ^^^ s, Sp_xor (h b (List.mem_cons_self ..)) s1, ?_⟩
      show red B (mnr r b) = _
      rw [e, s2, Nat.xor_assoc]
theorem dep_iff {n : Nat} (hn : n ≤ 8) {B : List Nat} {f : Nat → Nat} {j r : Nat} (hB : BS n B) (hK : ∀ x, ker B x = true → ∀ t, t < j → dt (f t) x = false) (hs : ∀ b ∈ B, Sp f j b) (hr : r < 2 ^ n) : red B r = 0 ↔ Sp f j r := by
  have hp := p2le hn
  constructor
  · intro h
    obtain ⟨s, s1, s2⟩ := red_sp B r hs
    rw [h] at s2
    have := xx r s
    rw [← s2, Nat.zero_xor] at this
    rw [← this]; exact s1
  · rintro ⟨u, _, hu⟩
    apply Classical.byContradiction
    intro hne
    have hl := red_lt B r hB.2 hr
    have hlog : (red B r).log2 < n := (Nat.log2_lt hne).mpr hl
    obtain ⟨z, z1, z2, z3⟩ := tri_fix hn (tp B) hB.1 (2 ^ (red B r).log2) (p2lt hlog)
    rw [tp_map] at z2
    have h1 := z3 (red B r) (by omega) (fun q hq => by
      unfold tp at hq
      rw [List.mem_map] at hq
      obtain ⟨b, hb, rfl⟩ := hq
      exact red_piv hn B r hB.1 hB.2 hr b hb)
    rw [dt_pw _ (by omega) _ (by omega), Nat.testBit_log2 hne, red_dt B r z2, ← hu, xr_dt j (hK z z2)] at h1
    exact absurd h1 (by decide)
theorem sbit : ∀ u, u < 64 → ∀ t, t < 6 → ((((nI u >>> (nI t &&& 31)) &&& 1) = 1) ↔ u.testBit t = true) := by decide +kernel
/-- j rows kept, then the rows from i on -/
def mg (j i : Nat) (f w : Nat → Nat) (t : Nat) : Nat := if t < j then f t else w (t - j + i)
theorem mg_l {j i t : Nat} {f w : Nat → Nat} (h : t < j) : mg j i f w t = f t := if_pos h
theorem mg_g {j i t : Nat} {f w : Nat → Nat} (h : j ≤ t) : mg j i f w t = w (t - j + i) := if_neg (by omega)
theorem mg_dr (j i : Nat) (f w : Nat → Nat) : dr j (mg j i f w) = mg j (i + 1) f w := by
  funext t
  rcases Nat.lt_or_ge t j with h | h
  · rw [dr_l h, mg_l h, mg_l h]
  · rw [dr_g h, mg_g (by omega), mg_g h, show t + 1 - j + i = t - j + (i + 1) by omega]
theorem mg_up (j i : Nat) (f w : Nat → Nat) : mg j i f w = mg (j + 1) (i + 1) (va_up f j (w i)) w := by
  funext t
  rcases Nat.lt_trichotomy t j with h | h | h
  · rw [mg_l h, mg_l (by omega), vup_ne (by omega)]
  · subst h
    rw [mg_g (Nat.le_refl _), mg_l (by omega), vup_eq, Nat.sub_self, Nat.zero_add]
  · rw [mg_g (by omega), mg_g (by omega), show t - j + i = t - (j + 1) + (i + 1) by omega]
theorem StM_ext {now : Nat → Int32} {n k : Nat} {w c w' c' : Nat → Nat} (hM : StM now n k w c) (h1 : ∀ i, i < k → w i = w' i) (h2 : ∀ i, i < k → c i = c' i) : StM now n k w' c' :=
  ⟨hM.1, hM.2.1, fun i hi => by rw [← h1 i hi]; exact hM.2.2.1 i hi, fun i hi => by rw [← h2 i hi]; exact hM.2.2.2 i hi⟩
section DP
variable {now : Nat → Int32} {len sz : Int32} {words checks : Nat → Int32} {n k : Nat} {w c : Nat → Nat} {err errM past vec : Nat → Int32} {pm : Nat → Nat} {sl ss : Nat → Int32} {sw sc : Nat → Nat → Int32} {q : Nat} {cnt sv bc : Int32}
theorem isDepM (hM : StM now n k w c) (hk : k ≤ 6) {j : Nat} (hj : j < k) (hw : ∀ t, t < k → w t < 256) (h0 : 0 < w j) : ∃ b : Bool, fX3_isDependent now (nI j) = some (b2 b) ∧ (b = true ↔ Sp w j (w j)) := by
  obtain ⟨m0, m1, mw, mc⟩ := hM
  have h64 : 2 ^ j ≤ 64 := p2le6 (by omega)
  have hp := p2pos j
  show ∃ b : Bool, fX3_isDependent_2 now 300 (nI j) 1 = some (b2 b) ∧ _
  refine upR (fun f (t : Int32) => fX3_isDependent_2 now f (nI j) t) (fun u t => t = nI u ∧ ∀ v, v < u → xr w v j ≠ w j) (fun o => ∃ b : Bool, o = some (b2 b) ∧ (b = true ↔ Sp w j (w j))) (2 ^ j) ?_ ?_ 300 1 1 ⟨rfl, fun v hv => ?_⟩ (by omega) (by omega)
  · intro u t f hu hI
    obtain ⟨e1, h1⟩ := hI
    subst e1
    have e : fX3_isDependent_14 now (fX3_isDependent_2 now f) 300 (nI j) (nI u) 0 0 = if xr w u j = w j then some 1 else fX3_isDependent_2 now f (nI j) (nI (u + 1)) := by
      refine upF (fun f' t => fX3_isDependent_14 now (fX3_isDependent_2 now f) f' (nI j) (nI u) (nI (xr w u t)) (nI t)) _ j ?_ ?_ 300 0 (by omega) (by omega)
      · intro t f' ht
        left
        have hx := xr_lt (f := w) (u := u) t (fun s hs => hw s (by omega))
        have hb := sbit u (by omega) t (by omega)
        show FX3_isDependent_14 now (fX3_isDependent_2 now f) (fX3_isDependent_14 now (fX3_isDependent_2 now f) f') (nI j) (nI u) (nI (xr w u t)) (nI t) = fX3_isDependent_14 now (fX3_isDependent_2 now f) f' (nI j) (nI u) (nI (xr w u (t + 1))) (nI (t + 1))
        unfold FX3_isDependent_14 FX3_isDependent_44
        rw [if_neg (show ¬ nI j ≤ nI t by rw [nI_leI (by omega) (by omega)]; omega), xr_s]
        by_cases hq : u.testBit t = true
        · rw [if_pos (hb.mpr hq), if_pos hq, li2, nI_add, rdA_ok (by omega) (by decide), mw t (by omega), nx_xor, nI_1]
        · rw [if_neg (fun h => hq (hb.mp h)), if_neg hq, li0, nx_xor, nI_1]
      · intro f'
        have hx := xr_lt (f := w) (u := u) j (fun s hs => hw s (by omega))
        have hwj := hw j hj
        show FX3_isDependent_14 now (fX3_isDependent_2 now f) (fX3_isDependent_14 now (fX3_isDependent_2 now f) f') (nI j) (nI u) (nI (xr w u j)) (nI j) = _
        unfold FX3_isDependent_14
        rw [if_pos (show nI j ≤ nI j by rw [nI_leI (by omega) (by omega)]; omega), li2, nI_add, rdA_ok (by omega) (by decide), mw j hj, ckB_1, nI_1]
        by_cases hq : xr w u j = w j
        · rw [if_pos hq, if_pos (by rw [hq])]
        · rw [if_neg hq, if_neg (by rw [nI_eq (by omega) (by omega)]; exact hq)]
    have e2 : fX3_isDependent_2 now (f + 1) (nI j) (nI u) = if xr w u j = w j then some 1 else fX3_isDependent_2 now f (nI j) (nI (u + 1)) := by
      show FX3_isDependent_2 now (fX3_isDependent_2 now f) (nI j) (nI u) = _
      unfold FX3_isDependent_2
      rw [sh1' _ (by omega), if_neg (by rw [nI_leI (by omega) (by omega)]; omega)]
      exact e
    rw [e2]
    by_cases hq : xr w u j = w j
    · right
      rw [if_pos hq]
      exact ⟨true, rfl, fun _ => ⟨u, hu, hq⟩, fun _ => rfl⟩
    · left
      refine ⟨nI (u + 1), ⟨rfl, fun v hv => ?_⟩, by rw [if_neg hq]⟩
      rcases Nat.lt_or_ge v u with h | h
      · exact h1 v h
      · have : v = u := by omega
        subst this; exact hq
  · intro t f hI
    obtain ⟨e1, h1⟩ := hI
    subst e1
    refine ⟨false, ?_, fun h => absurd h (by decide), fun ⟨u, u1, u2⟩ => absurd u2 (h1 u u1)⟩
    show FX3_isDependent_2 now (fX3_isDependent_2 now f) (nI j) (nI (2 ^ j)) = _
    unfold FX3_isDependent_2
    rw [sh1' _ (by omega), if_pos (by rw [nI_leI (by omega) (by omega)]; omega), ckB_0]
    rfl
  · have : v = 0 := by omega
    subst this
    rw [xr_0]; omega
theorem dep_both (hR : RS n k w c) (hX : StX len sz words checks n k w c) (hM : StM now n k w c) : ∃ j f d words' checks' vec' bc' now', fX2_removeDependentRows_23 len 300 sz words checks cnt vec (nI 0) pm sl ss sw sc sz 0 0 = some (nI (k - j), nI j, words', checks', cnt, vec', bc', pm, sl, ss, sw, sc) ∧ fX3_removeDependentRows_13 300 now past sv (nI k) 0 = some (nI (k - j), now', past, sv) ∧ RS n j f d ∧ StX len (nI j) words' checks' n j f d ∧ StM now' n j f d := by
  have hn := hR.2.1
  have hp := hR.p8
  have hk := hR.2.2.1
  obtain ⟨m0, m1, mw, mc⟩ := hX
  subst m1
  refine upRR (fun fu (t : (Nat → Int32) × (Nat → Int32) × (Nat → Int32) × Int32 × Int32 × Int32) => fX2_removeDependentRows_23 len fu (nI k) t.1 t.2.1 cnt t.2.2.1 t.2.2.2.1 pm sl ss sw sc (nI k) t.2.2.2.2.1 t.2.2.2.2.2) (fun fu (t : (Nat → Int32) × Int32) => fX3_removeDependentRows_13 fu t.1 past sv (nI k) t.2)
    (fun i t u => ∃ j f d B, j ≤ i ∧ t.2.2.2.2.2 = nI i ∧ t.2.2.2.2.1 = nI j ∧ u.2 = nI j ∧ (∀ s, s < j → t.1 s = nI (f s) ∧ t.2.1 s = nI (d s)) ∧ (∀ s, i ≤ s → s < k → t.1 s = nI (w s) ∧ t.2.1 s = nI (c s)) ∧ StM u.1 n (j + (k - i)) (mg j i f w) (mg j i d c) ∧ BS n B ∧ BI t.2.2.1 t.2.2.2.1 B ∧ B.length ≤ j ∧ (∀ x, ker B x = true → ∀ s, s < j → dt (f s) x = false) ∧ (∀ b ∈ B, Sp f j b) ∧ ∀ s, s < j → 0 < f s ∧ f s < 2 ^ n ∧ d s < 2)
    (fun o p => ∃ j f d words' checks' vec' bc' now', o = some (nI (k - j), nI j, words', checks', cnt, vec', bc', pm, sl, ss, sw, sc) ∧ p = some (nI (k - j), now', past, sv) ∧ RS n j f d ∧ StX len (nI j) words' checks' n j f d ∧ StM now' n j f d) k ?_ ?_ 300 0 (words, checks, vec, nI 0, 0, 0) (now, 0) ?_ (by omega) (by omega)
  · intro i t u fu hi hI
    obtain ⟨wx, cx, vc, b, y2, y3⟩ := t
    obtain ⟨nw, z2⟩ := u
    obtain ⟨j, f, d, B, hji, e1, e2, e3, h1, h2, h3, h4, h5, h6, h7, h8, h9⟩ := hI
    dsimp only at e1 e2 e3 h1 h2 h3 h5
    subst e1; subst e2; subst e3
    have hwi := hR.2.2.2.1 i hi
    have hci := hR.2.2.2.2 i hi
    have hmj : mg j i f w j = w i := by rw [mg_g (Nat.le_refl _), Nat.sub_self, Nat.zero_add]
    have hmw : ∀ s, s < j + (k - i) → mg j i f w s < 256 := by
      intro s hs
      rcases Nat.lt_or_ge s j with h | h
      · rw [mg_l h]; have := (h9 s h).2.1; omega
      · rw [mg_g h]; exact hR.w8 (by omega)
    obtain ⟨bb, d1, d2⟩ := isDepM h3 (by omega) (j := j) (by omega) hmw (by rw [hmj]; exact hwi.1)
    rw [hmj] at d2
    have hsp : Sp (mg j i f w) j (w i) ↔ Sp f j (w i) := Sp_congr (fun s hs => mg_l hs)
    have hdep := dep_iff hn h4 h7 h8 hwi.2
    obtain ⟨v', x1, x2⟩ := extX hn h4 h5 (by omega) hwi.2
    left
    show ∃ s1' s2', _ ∧ FX2_removeDependentRows_23 len (fX2_removeDependentRows_23 len fu) (nI k) wx cx cnt vc b pm sl ss sw sc (nI k) (nI j) (nI i) = _ ∧ FX3_removeDependentRows_13 (fX3_removeDependentRows_13 fu) nw past sv (nI k) (nI j) = _
    unfold FX2_removeDependentRows_23 FX2_removeDependentRows_76 FX3_removeDependentRows_13
    rw [if_neg (show ¬ nI k ≤ nI i by rw [nI_leI (by omega) (by omega)]; omega), rdA_ok (by omega) (by decide), (h2 i (Nat.le_refl _) hi).1, x1, bk, li1, rdA_ok (n := 14) (j := 1) (by decide) (by decide), h3.2.1, if_neg (show ¬ nI (j + (k - i)) ≤ nI j by rw [nI_leI (by omega) (by omega)]; omega), d1, bk, ifb]
    dsimp only
    rw [ifb]
    by_cases hz : red B (w i) = 0
    · have hb : bb = true := d2.mpr (hsp.mpr (hdep.mp hz))
      have he : ext B (w i) = B := if_pos hz
      rw [he] at x1 x2 ⊢
      obtain ⟨nw', r1, r2⟩ := removesM (by omega) h3 (r := j) (by omega)
      rw [mg_dr, mg_dr, show j + (k - i) - 1 = j + (k - (i + 1)) by omega] at r2
      refine ⟨(wx, cx, v', nI B.length, nI j, nI (i + 1)), (nw', nI j), ⟨j, f, d, B, by omega, rfl, rfl, rfl, h1, fun s hs hs2 => h2 s (by omega) hs2, r2, h4, x2, h6, h7, h8, h9⟩, ?_, ?_⟩
      · rw [if_neg (by simp [hz]), nI_add]
      · rw [if_pos hb, r1, bk]
    · have hb : bb = false := by
        rw [Bool.eq_false_iff]
        exact fun h => hz (hdep.mpr (hsp.mp (d2.mp h)))
      have he : ext B (w i) = B ++ [red B (w i)] := if_neg hz
      have hBe := BS_ext hn h4 hwi.2
      refine ⟨(upd wx j (nI (w i)), upd cx j (nI (c i)), v', nI (ext B (w i)).length, nI (j + 1), nI (i + 1)), (nw, nI (j + 1)), ⟨j + 1, va_up f j (w i), va_up d j (c i), ext B (w i), by omega, rfl, rfl, rfl, fun s hs => ?_, fun s hs hs2 => ?_, ?_, hBe, x2, by rw [he]; simp; omega, fun x hx s hs => ?_, fun y hy => ?_, fun s hs => ?_⟩, ?_, ?_⟩
      · show upd wx j (nI (w i)) s = _ ∧ upd cx j (nI (c i)) s = _
        by_cases e : s = j
        · subst e
          rw [up_eq, up_eq, vup_eq, vup_eq]
          exact ⟨rfl, rfl⟩
        · rw [up_ne e, up_ne e, vup_ne e, vup_ne e]
          exact h1 s (by omega)
      · show upd wx j (nI (w i)) s = _ ∧ upd cx j (nI (c i)) s = _
        rw [up_ne (by omega), up_ne (by omega)]
        exact h2 s (by omega) hs2
      · show StM nw n (j + 1 + (k - (i + 1))) _ _
        rw [← mg_up, ← mg_up, show j + 1 + (k - (i + 1)) = j + (k - i) by omega]
        exact h3
      · rw [ker_ext, Bool.and_eq_true] at hx
        by_cases e : s = j
        · subst e
          rw [vup_eq]
          simpa using hx.2
        · rw [vup_ne e]
          exact h7 x hx.1 s (by omega)
      · have hc : ∀ z, Sp f j z → Sp (va_up f j (w i)) (j + 1) z := fun z hz => Sp_up ((Sp_congr (fun s hs => (vup_ne (by omega)).symm)).mp hz)
        rw [he, List.mem_append, List.mem_singleton] at hy
        rcases hy with hy | hy
        · exact hc y (h8 y hy)
        · obtain ⟨s, s1, s2⟩ := red_sp B (w i) h8
          rw [hy, s2]
          refine Sp_xor ?_ (hc s s1)
          have := Sp_row (f := va_up f j (w i)) (j := j + 1) (t := j) (by omega)
          rw [vup_eq] at this
          exact this
      · by_cases e : s = j
        · subst e
          rw [vup_eq, vup_eq]
          exact ⟨hwi.1, hwi.2, hci⟩
        · rw [vup_ne e, vup_ne e]
          exact h9 s (by omega)
      · rw [if_pos (by simp [hz]), rdA_ok (by omega) (by decide), rdA_ok (by omega) (by decide), (h2 i (Nat.le_refl _) hi).1, (h2 i (Nat.le_refl _) hi).2, putX (by omega), bk, nI_add, nI_add, c1 hci]
      · rw [if_neg (by rw [hb]; decide), nI_add]
  · intro t u fu hI
    obtain ⟨wx, cx, vc, b, y2, y3⟩ := t
    obtain ⟨nw, z2⟩ := u
    obtain ⟨j, f, d, B, hji, e1, e2, e3, h1, h2, h3, h4, h5, h6, h7, h8, h9⟩ := hI
    dsimp only at e1 e2 e3 h1 h2 h3 h5
    subst e1; subst e2; subst e3
    rw [Nat.sub_self, Nat.add_zero] at h3
    refine ⟨j, f, d, wx, cx, vc, b, nw, ?_, ?_, ⟨hR.1, hn, by omega, fun s hs => ⟨(h9 s hs).1, (h9 s hs).2.1⟩, fun s hs => (h9 s hs).2.2⟩, ⟨m0, rfl, fun s hs => (h1 s hs).1, fun s hs => (h1 s hs).2⟩, StM_ext h3 (fun s hs => mg_l hs) (fun s hs => mg_l hs)⟩
    · show FX2_removeDependentRows_23 len (fX2_removeDependentRows_23 len fu) (nI k) wx cx cnt vc b pm sl ss sw sc (nI k) (nI j) (nI k) = _
      unfold FX2_removeDependentRows_23
      rw [if_pos (show nI k ≤ nI k by rw [nI_leI (by omega) (by omega)]; omega), nI_sub hji]
    · show FX3_removeDependentRows_13 (fX3_removeDependentRows_13 fu) nw past sv (nI k) (nI j) = _
      unfold FX3_removeDependentRows_13
      rw [li1, rdA_ok (by decide) (by decide), h3.2.1, if_pos (show nI j ≤ nI j by rw [nI_leI (by omega) (by omega)]; omega), rdA_ok (by decide) (by decide), h3.2.1, nI_sub hji]
  · refine ⟨0, fun _ => 0, fun _ => 0, [], Nat.le_refl 0, rfl, rfl, rfl, fun s hs => absurd hs (Nat.not_lt_zero s), fun s _ hs => ⟨mw s hs, mc s hs⟩, ?_, BS_nil n, BI_nil vec, Nat.le_refl 0, fun x _ s hs => absurd hs (Nat.not_lt_zero s), fun b hb => absurd hb (List.not_mem_nil), fun s hs => absurd hs (Nat.not_lt_zero s)⟩
    show StM now n (0 + (k - 0)) _ _
    rw [Nat.zero_add, Nat.sub_zero]
    exact StM_ext hM (fun s hs => by rw [mg_g (Nat.zero_le _)]; rfl) (fun s hs => by rw [mg_g (Nat.zero_le _)]; rfl)
theorem op_removeDependentRows (h : Rel len sz words checks cnt err pm sl ss sw sc now past errM sv) (vec : Nat → Int32) (bc : Int32) : ∃ r sz' words' checks' cnt' vec' bc' pm' sl' ss' sw' sc' now' past' sv', fX2_removeDependentRows len sz words checks cnt vec bc pm sl ss sw sc = some (r, sz', words', checks', cnt', vec', bc', pm', sl', ss', sw', sc') ∧ fX3_removeDependentRows now past sv = some (r, now', past', sv') ∧ Rel len sz' words' checks' cnt' err pm' sl' ss' sw' sc' now' past' errM sv' := by
  obtain ⟨⟨n, k, w, c, hR, hX, hM⟩, hE, q, rfl, rfl, hS⟩ := h
  obtain ⟨q', pm', sl', ss', sw', sc', past', s1, s2, s3⟩ := save_both hR hX hM hS
  obtain ⟨j, f, d, words', checks', vec', bc', now', a1, a2, a3, a4, a5⟩ := dep_both (cnt := nI q') (vec := vec) (pm := pm') (sl := sl') (ss := ss') (sw := sw') (sc := sc') (past := past') (sv := nI q') hR hX hM
  show ∃ r sz' words' checks' cnt' vec' bc' pm' sl' ss' sw' sc' now' past' sv', FX2_removeDependentRows_0 len sz words checks (nI q) vec bc pm sl ss sw sc = some (r, sz', words', checks', cnt', vec', bc', pm', sl', ss', sw', sc') ∧ FX3_removeDependentRows_0 now past (nI q) = some (r, now', past', sv') ∧ _
  unfold FX2_removeDependentRows_0 FX3_removeDependentRows_0
  rw [s1, s2, bk, bk, clearX, bk, li1, rdA_ok (by decide) (by decide), hM.2.1]
  dsimp only
  rw [a1, a2]
  exact ⟨_, _, _, _, _, _, _, _, _, _, _, _, _, _, _, rfl, rfl, ⟨n, j, f, d, a3, a4, a5⟩, hE, q', rfl, rfl, s3⟩
end DP
