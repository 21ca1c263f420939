/-! ===== the digest ===== -/
theorem mixX (h : Int64) (v : Int32) : fX2_mix h v = some (31 * h + v.toInt64) := rfl
theorem mixM (h : Int64) (v : Int32) : fX3_mix h v = some (31 * h + v.toInt64) := rfl
def mx (h : Int64) (v : Int32) : Int64 := 31 * h + v.toInt64
theorem mixX' (h : Int64) (v : Int32) : fX2_mix h v = some (mx h v) := mixX h v
theorem mixM' (h : Int64) (v : Int32) : fX3_mix h v = some (mx h v) := mixM h v
def DG (o : Option (Int64 × (Nat → Int32) × Int32)) (p : Option (Int64 × (Nat → Int32) × (Nat → Int32) × (Nat → Int32) × Int64)) : Prop := ∃ h v b lf g m, o = some (h, v, b) ∧ p = some (h, lf, g, m, h)
section DG
variable {now : Nat → Int32} {len sz : Int32} {words checks : Nat → Int32} {n k : Nat} {w c : Nat → Nat} {err errM : Nat → Int32} {cnt : Int32}
theorem dg4 (hR : RS n k w c) (hX : StX len sz words checks n k w c) (hM : StM now n k w c) (h : Int64) (v : Nat → Int32) (b : Int32) (lf g m : Nat → Int32) : DG (fX2_digest_168 len sz words checks cnt err 300 v b h 0) (fX3_digest_157 now errM cnt 300 lf g m h 0) := by
  have hn := hR.2.1
  have hp := hR.p8
  refine upRR (fun f (t : (Nat → Int32) × Int32 × Int64 × Int32) => fX2_digest_168 len sz words checks cnt err f t.1 t.2.1 t.2.2.1 t.2.2.2) (fun f (t : (Nat → Int32) × Int64 × Int32) => fX3_digest_157 now errM cnt f t.1 g m t.2.1 t.2.2) (fun s t u => t.2.2.2 = nI s ∧ u.2.2 = nI s ∧ t.2.2.1 = u.2.1) DG (n + 1) ?_ ?_ 300 0 (v, b, h, 0) (lf, h, 0) ⟨rfl, rfl, rfl⟩ (by omega) (by omega)
  · intro s t u f hs hI
    obtain ⟨v, b, h, x⟩ := t
    obtain ⟨lf, h2, x2⟩ := u
    obtain ⟨e1, e2, e3⟩ := hI
    dsimp only at e1 e2 e3
    subst e1; subst e2; subst e3
    obtain ⟨S, v1, b1, r1, q1⟩ := worstX hR hX (s := s) (by omega) v b
    obtain ⟨S2, l1, r2, q2⟩ := worstM hR hM (s := s) (by omega) lf
    have hS := isB_uniq q1 q2
    subst hS
    obtain ⟨v2, b2, r3⟩ := leakX hR hX q1.1 v1 b1
    obtain ⟨l2, r4⟩ := leakM hR hM q1.1 l1
    left
    refine ⟨(v2, b2, mx (mx h (nI (lk n k w c S))) (nI S), nI (s + 1)), (l2, mx (mx h (nI (lk n k w c S))) (nI S), nI (s + 1)), ⟨rfl, rfl, rfl⟩, ?_, ?_⟩
    · show FX2_digest_168 len sz words checks cnt err (fX2_digest_168 len sz words checks cnt err f) v b h (nI s) = _
      unfold FX2_digest_168
      rw [hX.1, if_neg (by rw [nI_ltI (by omega) (by omega)]; omega), ← hX.1, r1, bk, r3, bk, mixX', bk, mixX', bk, nI_1]
    · show FX3_digest_157 now errM cnt (fX3_digest_157 now errM cnt f) lf g m h (nI s) = _
      unfold FX3_digest_157
      rw [li0, rdA_ok (by decide) (by decide), hM.1, if_neg (by rw [nI_ltI (by omega) (by omega)]; omega), r2, bk, r4, bk, mixM', bk, mixM', bk, nI_1]
  · intro t u f hI
    obtain ⟨v, b, h, x⟩ := t
    obtain ⟨lf, h2, x2⟩ := u
    obtain ⟨e1, e2, e3⟩ := hI
    dsimp only at e1 e2 e3
    subst e1; subst e2; subst e3
    refine ⟨mx h cnt, v, b, lf, g, m, ?_, ?_⟩
    · show FX2_digest_168 len sz words checks cnt err (fX2_digest_168 len sz words checks cnt err f) v b h (nI (n + 1)) = _
      unfold FX2_digest_168
      rw [hX.1, if_pos (by rw [nI_ltI (by omega) (by omega)]; omega), mixX', bk]
    · show FX3_digest_157 now errM cnt (fX3_digest_157 now errM cnt f) lf g m h (nI (n + 1)) = _
      unfold FX3_digest_157
      rw [li0, rdA_ok (by decide) (by decide), hM.1, if_pos (by rw [nI_ltI (by omega) (by omega)]; omega), mixM', bk]
theorem dg3 (hR : RS n k w c) (hX : StX len sz words checks n k w c) (hM : StM now n k w c) (h : Int64) (v : Nat → Int32) (b : Int32) (lf g m : Nat → Int32) : DG (fX2_digest_109 len sz words checks cnt err 300 v b h 0) (fX3_digest_95 now errM cnt 300 lf g m h 0) := by
  have hn := hR.2.1
  have hp := hR.p8
  have hp0 := p2pos n
  refine upRR (fun f (t : (Nat → Int32) × Int32 × Int64 × Int32) => fX2_digest_109 len sz words checks cnt err f t.1 t.2.1 t.2.2.1 t.2.2.2) (fun f (t : (Nat → Int32) × Int64 × Int32) => fX3_digest_95 now errM cnt f t.1 g m t.2.1 t.2.2) (fun s t u => t.2.2.2 = nI s ∧ u.2.2 = nI s ∧ t.2.2.1 = u.2.1) DG 3 ?_ ?_ 300 0 (v, b, h, 0) (lf, h, 0) ⟨rfl, rfl, rfl⟩ (by omega) (by omega)
  · intro s t u f hs hI
    obtain ⟨v, b, h, x⟩ := t
    obtain ⟨lf, h2, x2⟩ := u
    obtain ⟨e1, e2, e3⟩ := hI
    dsimp only at e1 e2 e3
    subst e1; subst e2; subst e3
    obtain ⟨v1, b1, r1⟩ := rkX hR hX hs v b
    obtain ⟨l1, r2⟩ := rkM hR hM (S := 2 ^ n - 1) hs lf
    left
    refine ⟨(v1, b1, mx h (nI (rK k w c s (2 ^ n - 1))), nI (s + 1)), (l1, mx h (nI (rK k w c s (2 ^ n - 1))), nI (s + 1)), ⟨rfl, rfl, rfl⟩, ?_, ?_⟩
    · show FX2_digest_109 len sz words checks cnt err (fX2_digest_109 len sz words checks cnt err f) v b h (nI s) = _
      unfold FX2_digest_109
      rw [li2, if_neg (by rw [nI_ltI (by omega) (by omega)]; omega), r1, bk, mixX', bk, nI_1]
    · show FX3_digest_95 now errM cnt (fX3_digest_95 now errM cnt f) lf g m h (nI s) = _
      unfold FX3_digest_95
      rw [li3, if_neg (by rw [nI_leI (by omega) (by omega)]; omega), wordsM hR hM, bk, li1, nI_sub (by omega), r2, bk, mixM', bk, nI_add]
  · intro t u f hI
    obtain ⟨v, b, h, x⟩ := t
    obtain ⟨lf, h2, x2⟩ := u
    obtain ⟨e1, e2, e3⟩ := hI
    dsimp only at e1 e2 e3
    subst e1; subst e2; subst e3
    obtain ⟨v1, b1, r1⟩ := codeX hR hX v b
    obtain ⟨g1, r2⟩ := codeM hR hM g
    obtain ⟨v2, b2, r3⟩ := msgsX hR hX v1 b1
    obtain ⟨g2, m2, r4⟩ := msgsM hR hM g1 m
    obtain ⟨T, v3, b3, r5, q5⟩ := thrX hR hX v2 b2
    obtain ⟨T2, l3, r6, q6⟩ := thrM hR hM lf
    have hT : T = T2 := thr_uniq q5 q6
    subst hT
    obtain ⟨W, g3, r7, r8⟩ := wk_both hR hX hM g2
    show DG (FX2_digest_109 len sz words checks cnt err (fX2_digest_109 len sz words checks cnt err f) v b h (nI 3)) (FX3_digest_95 now errM cnt (fX3_digest_95 now errM cnt f) lf g m h (nI 3))
    unfold FX2_digest_109 FX3_digest_95
    rw [if_pos (by decide), if_pos (by decide), r1, bk, mixX', bk, r3, bk, mixX', bk, r5, bk, mixX', bk, r7, bk, mixX', bk, r2, bk, mixM', bk, r4, bk, mixM', bk, r6, bk, mixM', bk, r8, bk, mixM', bk]
    exact dg4 hR hX hM _ _ _ _ _ _
theorem dg2 (hR : RS n k w c) (hX : StX len sz words checks n k w c) (hM : StM now n k w c) (h : Int64) (v : Nat → Int32) (b : Int32) (lf g m : Nat → Int32) : DG (fX2_digest_54 len sz words checks cnt err 300 v b h 0) (fX3_digest_52 now errM cnt 300 lf g m h 0) := by
  have hk := hR.2.2.1
  refine upRR (fun f (t : Int64 × Int32) => fX2_digest_54 len sz words checks cnt err f v b t.1 t.2) (fun f (t : Int64 × Int32) => fX3_digest_52 now errM cnt f lf g m t.1 t.2) (fun s t u => t.2 = nI s ∧ u.2 = nI s ∧ t.1 = u.1) DG k ?_ ?_ 300 0 (h, 0) (h, 0) ⟨rfl, rfl, rfl⟩ (by omega) (by omega)
  · intro s t u f hs hI
    obtain ⟨h, x⟩ := t
    obtain ⟨h2, x2⟩ := u
    obtain ⟨e1, e2, e3⟩ := hI
    dsimp only at e1 e2 e3
    subst e1; subst e2; subst e3
    have hc := hR.2.2.2.2 s hs
    left
    refine ⟨(mx (mx h (nI (w s))) (nI (c s)), nI (s + 1)), (mx (mx h (nI (w s))) (nI (c s)), nI (s + 1)), ⟨rfl, rfl, rfl⟩, ?_, ?_⟩
    · show FX2_digest_54 len sz words checks cnt err (fX2_digest_54 len sz words checks cnt err f) v b h (nI s) = _
      unfold FX2_digest_54 FX2_digest_97
      rw [if_neg (by rw [hX.2.1, nI_leI (by omega) (by omega)]; omega), rdA_ok (by omega) (by decide), hX.2.2.1 s hs, mixX', bk, rdA_ok (by omega) (by decide), hX.2.2.2 s hs]
      rcases (show c s = 0 ∨ c s = 1 by omega) with e | e <;> rw [e]
      · rw [if_pos (show nI 0 = 0 from rfl), mixX', bk, nI_1]; rfl
      · rw [if_neg (by decide), mixX', bk, nI_1]; rfl
    · show FX3_digest_52 now errM cnt (fX3_digest_52 now errM cnt f) lf g m h (nI s) = _
      unfold FX3_digest_52
      rw [li1, rdA_ok (by decide) (by decide), hM.2.1, if_neg (by rw [nI_leI (by omega) (by omega)]; omega), li2, nI_add, rdA_ok (by omega) (by decide), hM.2.2.1 s hs, mixM', bk, li8, nI_add, rdA_ok (by omega) (by decide), hM.2.2.2 s hs, mixM', bk, nI_add]
  · intro t u f hI
    obtain ⟨h, x⟩ := t
    obtain ⟨h2, x2⟩ := u
    obtain ⟨e1, e2, e3⟩ := hI
    dsimp only at e1 e2 e3
    subst e1; subst e2; subst e3
    show DG (FX2_digest_54 len sz words checks cnt err (fX2_digest_54 len sz words checks cnt err f) v b h (nI k)) (FX3_digest_52 now errM cnt (fX3_digest_52 now errM cnt f) lf g m h (nI k))
    unfold FX2_digest_54 FX3_digest_52
    rw [if_pos (by rw [hX.2.1, nI_leI (by omega) (by omega)]; omega), li1, rdA_ok (by decide) (by decide), hM.2.1, if_pos (by rw [nI_leI (by omega) (by omega)]; omega)]
    exact dg3 hR hX hM _ _ _ _ _ _
theorem st_digest (hR : RS n k w c) (hX : StX len sz words checks n k w c) (hM : StM now n k w c) (hE : EE err errM) (v : Nat → Int32) (b : Int32) (lf g m : Nat → Int32) (h0 : Int64) : DG (fX2_digest len sz words checks cnt err v b) (fX3_digest now errM lf g m cnt h0) := by
  show DG (fX2_digest_6 len sz words checks cnt err 300 v b 2687 0) (fX3_digest_9 now errM cnt 300 lf g m 2687 0)
  refine upRR (fun f (t : Int64 × Int32) => fX2_digest_6 len sz words checks cnt err f v b t.1 t.2) (fun f (t : Int64 × Int32) => fX3_digest_9 now errM cnt f lf g m t.1 t.2) (fun s t u => t.2 = nI s ∧ u.2 = nI s ∧ t.1 = u.1) DG 5 ?_ ?_ 300 0 (2687, 0) (2687, 0) ⟨rfl, rfl, rfl⟩ (by omega) (by omega)
  · intro s t u f hs hI
    obtain ⟨h, x⟩ := t
    obtain ⟨h2, x2⟩ := u
    obtain ⟨e1, e2, e3⟩ := hI
    dsimp only at e1 e2 e3
    subst e1; subst e2; subst e3
    left
    refine ⟨(mx h (err s), nI (s + 1)), (mx h (err s), nI (s + 1)), ⟨rfl, rfl, rfl⟩, ?_, ?_⟩
    · show FX2_digest_6 len sz words checks cnt err (fX2_digest_6 len sz words checks cnt err f) v b h (nI s) = _
      unfold FX2_digest_6
      rw [li5, if_neg (by rw [nI_leI (by omega) (by omega)]; omega), rdA_ok hs (by decide), mixX', bk, nI_1]
    · show FX3_digest_9 now errM cnt (fX3_digest_9 now errM cnt f) lf g m h (nI s) = _
      unfold FX3_digest_9
      rw [li5, if_neg (by rw [nI_leI (by omega) (by omega)]; omega), rdA_ok hs (by decide), ← hE s hs, mixM', bk, nI_1]
  · intro t u f hI
    obtain ⟨h, x⟩ := t
    obtain ⟨h2, x2⟩ := u
    obtain ⟨e1, e2, e3⟩ := hI
    dsimp only at e1 e2 e3
    subst e1; subst e2; subst e3
    show DG (FX2_digest_6 len sz words checks cnt err (fX2_digest_6 len sz words checks cnt err f) v b h (nI 5)) (FX3_digest_9 now errM cnt (fX3_digest_9 now errM cnt f) lf g m h (nI 5))
    unfold FX2_digest_6 FX3_digest_9
    rw [if_pos (by decide), if_pos (by decide), mixX', bk, mixX', bk, li0, rdA_ok (by decide) (by decide), mixM', bk, li1, rdA_ok (by decide) (by decide), mixM', bk, hM.1, hM.2.1, hX.1, hX.2.1, ← hX.1, ← hX.2.1]
    exact dg2 hR hX hM _ _ _ _ _ _
end DG
