-- X3_within
def FX3_within_15 (t0 : Int32) : Option (Int32) := ckB t0 (some t0)
def FX3_within_14 : Option (Int32) := FX3_within_15   0
def FX3_within_0 (x0 : Int32) (x1 : Int32) (x2 : Int32) : Option (Int32) := if x0 < x1 then FX3_within_14    else if x2 < x0 then FX3_within_14    else FX3_within_15   1
def fX3_within (x0 : Int32) (x1 : Int32) (x2 : Int32) : Option (Int32) := FX3_within_0  x0 x1 x2
-- X3_fails
def FX3_fails_0 (err : Nat → Int32) (x1 : Int32) : Option (Int32 × (Nat → Int32)) := rdA 5 err ((-2) - x1) (fun v1 => wrA 5 err ((-2) - x1) (v1 + 1) (fun g2 => some (x1, g2)))
def fX3_fails (err : Nat → Int32) (x1 : Int32) : Option (Int32 × (Nat → Int32)) := FX3_fails_0  err x1
-- X3_words
def FX3_words_0 (now : Nat → Int32) : Option (Int32) := rdA 14 now 0 (fun v1 => some ((1 : Int32) <<< (v1 &&& 31)))
def fX3_words (now : Nat → Int32) : Option (Int32) := FX3_words_0 now 
-- X3_isWord
def FX3_isWord_0 (now : Nat → Int32) (x1 : Int32) : Option (Int32) := (fX3_words now).bind (fun v1 => (fX3_within x1 0 (v1 - 1)).bind (fun v2 => ckB v2 (some v2)))
def fX3_isWord (now : Nat → Int32) (x1 : Int32) : Option (Int32) := FX3_isWord_0 now x1
-- X3_isRow
def FX3_isRow_0 (now : Nat → Int32) (x1 : Int32) : Option (Int32) := rdA 14 now 1 (fun v1 => (fX3_within x1 0 (v1 - 1)).bind (fun v2 => ckB v2 (some v2)))
def fX3_isRow (now : Nat → Int32) (x1 : Int32) : Option (Int32) := FX3_isRow_0 now x1
-- X3_ones
def FX3_ones_4 (r4 : Int32 → Int32 → Int32 → Option (Int32)) (x0 : Int32) (x1 : Int32) (x2 : Int32) : Option (Int32) := if 8 ≤ x2 then some x1 else r4 x0 (x1 + ((x0 >>> (x2 &&& 31)) &&& 1)) (x2 + 1)
def fX3_ones_4 : Nat → Int32 → Int32 → Int32 → Option (Int32)
  | 0, _, _, _ => none
  | n + 1, x0, x1, x2 => FX3_ones_4   (fX3_ones_4   n) x0 x1 x2
def FX3_ones_0 (x0 : Int32) : Option (Int32) := fX3_ones_4   300 x0 0 0
def fX3_ones (x0 : Int32) : Option (Int32) := FX3_ones_0  x0
-- X3_saves
def FX3_saves_49 (now : Nat → Int32) (r49 : (Nat → Int32) → (Int32) → Int32 → Option ((Nat → Int32) × Int32)) (past : Nat → Int32) (sv : Int32) (x1 : Int32) : Option ((Nat → Int32) × Int32) := if 14 ≤ x1 then some (past, sv + 1) else rdA 14 now x1 (fun v1 => wrA 56 past (((14 : Int32) * sv) + x1) v1 (fun g2 => r49 g2 sv (x1 + 1)))
def fX3_saves_49 (now : Nat → Int32) : Nat → (Nat → Int32) → (Int32) → Int32 → Option ((Nat → Int32) × Int32)
  | 0, _, _, _ => none
  | n + 1, past, sv, x1 => FX3_saves_49 now  (fX3_saves_49 now  n) past sv x1
def FX3_saves_47 (now : Nat → Int32) (past : Nat → Int32) (sv : Int32) : Option ((Nat → Int32) × Int32) := fX3_saves_49 now  300 past sv 0
def FX3_saves_10 (now : Nat → Int32) (r10 : (Nat → Int32) → (Int32) → Int32 → Option ((Nat → Int32) × Int32)) (past : Nat → Int32) (sv : Int32) (x1 : Int32) : Option ((Nat → Int32) × Int32) := if 42 ≤ x1 then FX3_saves_47 now  past (sv - 1) else rdA 56 past (x1 + 14) (fun v3 => wrA 56 past x1 v3 (fun g4 => r10 g4 sv (x1 + 1)))
def fX3_saves_10 (now : Nat → Int32) : Nat → (Nat → Int32) → (Int32) → Int32 → Option ((Nat → Int32) × Int32)
  | 0, _, _, _ => none
  | n + 1, past, sv, x1 => FX3_saves_10 now  (fX3_saves_10 now  n) past sv x1
def FX3_saves_0 (now : Nat → Int32) (past : Nat → Int32) (sv : Int32) : Option ((Nat → Int32) × Int32) := if sv = 4 then fX3_saves_10 now  300 past sv 0 else FX3_saves_47 now  past sv
def fX3_saves (now : Nat → Int32) (past : Nat → Int32) (sv : Int32) : Option ((Nat → Int32) × Int32) := FX3_saves_0 now past sv
-- X3_undo
def FX3_undo_26 (past : Nat → Int32) (r26 : (Nat → Int32) → (Nat → Int32) → (Int32) → Int32 → Option (Int32 × (Nat → Int32) × (Nat → Int32) × Int32)) (now : Nat → Int32) (err : Nat → Int32) (sv : Int32) (x1 : Int32) : Option (Int32 × (Nat → Int32) × (Nat → Int32) × Int32) := if 14 ≤ x1 then some (sv, now, err, sv) else rdA 56 past (((14 : Int32) * sv) + x1) (fun v1 => wrA 14 now x1 v1 (fun g2 => r26 g2 err sv (x1 + 1)))
def fX3_undo_26 (past : Nat → Int32) : Nat → (Nat → Int32) → (Nat → Int32) → (Int32) → Int32 → Option (Int32 × (Nat → Int32) × (Nat → Int32) × Int32)
  | 0, _, _, _, _ => none
  | n + 1, now, err, sv, x1 => FX3_undo_26 past  (fX3_undo_26 past  n) now err sv x1
def FX3_undo_0 (past : Nat → Int32) (now : Nat → Int32) (err : Nat → Int32) (sv : Int32) : Option (Int32 × (Nat → Int32) × (Nat → Int32) × Int32) := if sv = 0 then (fX3_fails err (-6)).bind (fun v3 => some (v3.1, now, v3.2, sv)) else fX3_undo_26 past  300 now err (sv - 1) 0
def fX3_undo (now : Nat → Int32) (past : Nat → Int32) (err : Nat → Int32) (sv : Int32) : Option (Int32 × (Nat → Int32) × (Nat → Int32) × Int32) := FX3_undo_0 past now err sv
-- X3_setLength
def FX3_setLength_0 (now : Nat → Int32) (past : Nat → Int32) (err : Nat → Int32) (sv : Int32) (x1 : Int32) : Option (Int32 × (Nat → Int32) × (Nat → Int32) × (Nat → Int32) × Int32) := (fX3_within x1 1 8).bind (fun v1 => if v1 = 0 then (fX3_fails err (-2)).bind (fun v6 => some (v6.1, now, past, v6.2, sv)) else (fX3_saves now past sv).bind (fun v2 => rdA 14 now 0 (fun v3 => wrA 14 now 0 x1 (fun g4 => wrA 14 g4 1 0 (fun g5 => some (v3, g5, v2.1, err, v2.2))))))
def fX3_setLength (now : Nat → Int32) (past : Nat → Int32) (err : Nat → Int32) (sv : Int32) (x1 : Int32) : Option (Int32 × (Nat → Int32) × (Nat → Int32) × (Nat → Int32) × Int32) := FX3_setLength_0  now past err sv x1
-- X3_addRow
def FX3_addRow_21 (now : Nat → Int32) (past : Nat → Int32) (err : Nat → Int32) (sv : Int32) : Option (Int32 × (Nat → Int32) × (Nat → Int32) × (Nat → Int32) × Int32) := (fX3_fails err (-2)).bind (fun v1 => some (v1.1, now, past, v1.2, sv))
def FX3_addRow_0 (now : Nat → Int32) (past : Nat → Int32) (err : Nat → Int32) (sv : Int32) (x1 : Int32) (x2 : Int32) : Option (Int32 × (Nat → Int32) × (Nat → Int32) × (Nat → Int32) × Int32) := (fX3_isWord now x1).bind (fun v2 => if v2 = 0 then FX3_addRow_21   now past err sv else if x1 = 0 then FX3_addRow_21   now past err sv else (fX3_within x2 0 1).bind (fun v3 => if v3 = 0 then FX3_addRow_21   now past err sv else rdA 14 now 1 (fun v4 => if v4 = 6 then (fX3_fails err (-4)).bind (fun v13 => some (v13.1, now, past, v13.2, sv)) else (fX3_saves now past sv).bind (fun v5 => rdA 14 now 1 (fun v6 => wrA 14 now ((2 : Int32) + v6) x1 (fun g7 => rdA 14 g7 1 (fun v8 => wrA 14 g7 ((8 : Int32) + v8) x2 (fun g9 => rdA 14 g9 1 (fun v10 => wrA 14 g9 1 (v10 + 1) (fun g11 => rdA 14 g11 1 (fun v12 => some (v12 - 1, g11, v5.1, err, v5.2))))))))))))
def fX3_addRow (now : Nat → Int32) (past : Nat → Int32) (err : Nat → Int32) (sv : Int32) (x1 : Int32) (x2 : Int32) : Option (Int32 × (Nat → Int32) × (Nat → Int32) × (Nat → Int32) × Int32) := FX3_addRow_0  now past err sv x1 x2
-- X3_removes
def FX3_removes_12 (r12 : (Nat → Int32) → Int32 → Option ((Nat → Int32))) (now : Nat → Int32) (x2 : Int32) : Option ((Nat → Int32)) := rdA 14 now 1 (fun v1 => if v1 ≤ x2 then some now else rdA 14 now (((2 : Int32) + x2) + 1) (fun v2 => wrA 14 now ((2 : Int32) + x2) v2 (fun g3 => rdA 14 g3 (((8 : Int32) + x2) + 1) (fun v4 => wrA 14 g3 ((8 : Int32) + x2) v4 (fun g5 => r12 g5 (x2 + 1))))))
def fX3_removes_12 : Nat → (Nat → Int32) → Int32 → Option ((Nat → Int32))
  | 0, _, _ => none
  | n + 1, now, x2 => FX3_removes_12   (fX3_removes_12   n) now x2
def FX3_removes_0 (now : Nat → Int32) (x1 : Int32) : Option ((Nat → Int32)) := rdA 14 now 1 (fun v6 => wrA 14 now 1 (v6 - 1) (fun g7 => fX3_removes_12   300 g7 x1))
def fX3_removes (now : Nat → Int32) (x1 : Int32) : Option ((Nat → Int32)) := FX3_removes_0  now x1
-- X3_removeRow
def FX3_removeRow_0 (now : Nat → Int32) (past : Nat → Int32) (err : Nat → Int32) (sv : Int32) (x1 : Int32) : Option (Int32 × (Nat → Int32) × (Nat → Int32) × (Nat → Int32) × Int32) := (fX3_isRow now x1).bind (fun v1 => if v1 = 0 then (fX3_fails err (-2)).bind (fun v5 => some (v5.1, now, past, v5.2, sv)) else (fX3_saves now past sv).bind (fun v2 => (fX3_removes now x1).bind (fun v3 => rdA 14 v3 1 (fun v4 => some (v4, v3, v2.1, err, v2.2)))))
def fX3_removeRow (now : Nat → Int32) (past : Nat → Int32) (err : Nat → Int32) (sv : Int32) (x1 : Int32) : Option (Int32 × (Nat → Int32) × (Nat → Int32) × (Nat → Int32) × Int32) := FX3_removeRow_0  now past err sv x1
-- X3_isDependent
def FX3_isDependent_44 (now : Nat → Int32) (r2 : Int32 → Int32 → Option (Int32)) (r14 : Int32 → Int32 → Int32 → Int32 → Option (Int32)) (x1 : Int32) (x2 : Int32) (x4 : Int32) (t0 : Int32) (t1 : Int32) : Option (Int32) := r14 x1 x2 (t0 ^^^ t1) (x4 + 1)
def FX3_isDependent_14 (now : Nat → Int32) (r2 : Int32 → Int32 → Option (Int32)) (r14 : Int32 → Int32 → Int32 → Int32 → Option (Int32)) (x1 : Int32) (x2 : Int32) (x3 : Int32) (x4 : Int32) : Option (Int32) := if x1 ≤ x4 then rdA 14 now ((2 : Int32) + x1) (fun v1 => if x3 = v1 then ckB 1 (some 1) else r2 x1 (x2 + 1)) else if ((x2 >>> (x4 &&& 31)) &&& 1) = 1 then rdA 14 now ((2 : Int32) + x4) (fun v2 => FX3_isDependent_44 now r2 r14 x1 x2 x4 x3 v2) else FX3_isDependent_44 now r2 r14 x1 x2 x4 x3 0
def fX3_isDependent_14 (now : Nat → Int32) (r2 : Int32 → Int32 → Option (Int32)) : Nat → Int32 → Int32 → Int32 → Int32 → Option (Int32)
  | 0, _, _, _, _ => none
  | n + 1, x1, x2, x3, x4 => FX3_isDependent_14 now r2 (fX3_isDependent_14 now r2 n) x1 x2 x3 x4
def FX3_isDependent_2 (now : Nat → Int32) (r2 : Int32 → Int32 → Option (Int32)) (x1 : Int32) (x2 : Int32) : Option (Int32) := if ((1 : Int32) <<< (x1 &&& 31)) ≤ x2 then ckB 0 (some 0) else fX3_isDependent_14 now r2 300 x1 x2 0 0
def fX3_isDependent_2 (now : Nat → Int32) : Nat → Int32 → Int32 → Option (Int32)
  | 0, _, _ => none
  | n + 1, x1, x2 => FX3_isDependent_2 now  (fX3_isDependent_2 now  n) x1 x2
def FX3_isDependent_0 (now : Nat → Int32) (x1 : Int32) : Option (Int32) := fX3_isDependent_2 now  300 x1 1
def fX3_isDependent (now : Nat → Int32) (x1 : Int32) : Option (Int32) := FX3_isDependent_0 now x1
-- X3_removeDependentRows
def FX3_removeDependentRows_13 (r13 : (Nat → Int32) → (Nat → Int32) → (Int32) → Int32 → Int32 → Option (Int32 × (Nat → Int32) × (Nat → Int32) × Int32)) (now : Nat → Int32) (past : Nat → Int32) (sv : Int32) (x1 : Int32) (x2 : Int32) : Option (Int32 × (Nat → Int32) × (Nat → Int32) × Int32) := rdA 14 now 1 (fun v1 => if v1 ≤ x2 then rdA 14 now 1 (fun v2 => some (x1 - v2, now, past, sv)) else (fX3_isDependent now x2).bind (fun v3 => if v3 = 0 then r13 now past sv x1 (x2 + 1) else (fX3_removes now x2).bind (fun v4 => r13 v4 past sv x1 x2)))
def fX3_removeDependentRows_13 : Nat → (Nat → Int32) → (Nat → Int32) → (Int32) → Int32 → Int32 → Option (Int32 × (Nat → Int32) × (Nat → Int32) × Int32)
  | 0, _, _, _, _, _ => none
  | n + 1, now, past, sv, x1, x2 => FX3_removeDependentRows_13   (fX3_removeDependentRows_13   n) now past sv x1 x2
def FX3_removeDependentRows_0 (now : Nat → Int32) (past : Nat → Int32) (sv : Int32) : Option (Int32 × (Nat → Int32) × (Nat → Int32) × Int32) := (fX3_saves now past sv).bind (fun v5 => rdA 14 now 1 (fun v6 => fX3_removeDependentRows_13   300 now v5.1 v5.2 v6 0))
def fX3_removeDependentRows (now : Nat → Int32) (past : Nat → Int32) (sv : Int32) : Option (Int32 × (Nat → Int32) × (Nat → Int32) × Int32) := FX3_removeDependentRows_0  now past sv
-- X3_row
def FX3_row_25 (now : Nat → Int32) (err : Nat → Int32) (t0 : Int32) : Option (Int32 × (Nat → Int32)) := some (t0, err)
def FX3_row_0 (now : Nat → Int32) (err : Nat → Int32) (x1 : Int32) : Option (Int32 × (Nat → Int32)) := (fX3_isRow now x1).bind (fun v1 => if v1 = 0 then (fX3_fails err (-2)).bind (fun v2 => FX3_row_25 now  v2.2 v2.1) else rdA 14 now ((2 : Int32) + x1) (fun v3 => FX3_row_25 now  err v3))
def fX3_row (now : Nat → Int32) (err : Nat → Int32) (x1 : Int32) : Option (Int32 × (Nat → Int32)) := FX3_row_0 now err x1
-- X3_isCheck
def FX3_isCheck_26 (now : Nat → Int32) (err : Nat → Int32) (t0 : Int32) : Option (Int32 × (Nat → Int32)) := some (t0, err)
def FX3_isCheck_0 (now : Nat → Int32) (err : Nat → Int32) (x1 : Int32) : Option (Int32 × (Nat → Int32)) := (fX3_isRow now x1).bind (fun v1 => if v1 = 0 then (fX3_fails err (-2)).bind (fun v2 => FX3_isCheck_26 now  v2.2 v2.1) else rdA 14 now ((8 : Int32) + x1) (fun v3 => FX3_isCheck_26 now  err v3))
def fX3_isCheck (now : Nat → Int32) (err : Nat → Int32) (x1 : Int32) : Option (Int32 × (Nat → Int32)) := FX3_isCheck_0 now err x1
-- X3_rankOf
def FX3_rankOf_49 (now : Nat → Int32) (r2 : (Nat → Int32) → Int32 → Int32 → Int32 → Option (Int32 × (Nat → Int32))) (lef : Nat → Int32) (x1 : Int32) (x2 : Int32) (x3 : Int32) (t1 : Int32) (t2 : Int32) : Option (Int32 × (Nat → Int32)) := wrA 6 lef t1 t2 (fun g1 => r2 g1 x1 x2 (x3 + 1))
def FX3_rankOf_35 (now : Nat → Int32) (r2 : (Nat → Int32) → Int32 → Int32 → Int32 → Option (Int32 × (Nat → Int32))) (lef : Nat → Int32) (x1 : Int32) (x2 : Int32) (x3 : Int32) (t1 : Int32) : Option (Int32 × (Nat → Int32)) := rdA 14 now ((2 : Int32) + x3) (fun v2 => FX3_rankOf_49 now r2 lef x1 x2 x3 t1 (v2 &&& x2))
def FX3_rankOf_152 (now : Nat → Int32) (r61 : (Nat → Int32) → Int32 → Int32 → Option (Int32 × (Nat → Int32))) (r109 : (Nat → Int32) → Int32 → Int32 → Int32 → Int32 → Option (Int32 × (Nat → Int32))) (lef : Nat → Int32) (x3 : Int32) (x4 : Int32) (x5 : Int32) (x6 : Int32) (t1 : Int32) (t2 : Int32) (t3 : Int32) : Option (Int32 × (Nat → Int32)) := wrA 6 lef t1 (t2 ^^^ t3) (fun g3 => r109 g3 x3 x4 x5 (x6 + 1))
def FX3_rankOf_160 (now : Nat → Int32) (r61 : (Nat → Int32) → Int32 → Int32 → Option (Int32 × (Nat → Int32))) (lef : Nat → Int32) (x3 : Int32) (x4 : Int32) : Option (Int32 × (Nat → Int32)) := r61 lef x3 (x4 + 1)
def FX3_rankOf_109 (now : Nat → Int32) (r61 : (Nat → Int32) → Int32 → Int32 → Option (Int32 × (Nat → Int32))) (r109 : (Nat → Int32) → Int32 → Int32 → Int32 → Int32 → Option (Int32 × (Nat → Int32))) (lef : Nat → Int32) (x3 : Int32) (x4 : Int32) (x5 : Int32) (x6 : Int32) : Option (Int32 × (Nat → Int32)) := rdA 14 now 1 (fun v4 => if v4 ≤ x6 then FX3_rankOf_160 now r61 lef x3 x4 else rdA 6 lef x6 (fun v5 => rdA 6 lef x6 (fun v6 => if (v6 &&& x5) = 0 then FX3_rankOf_152 now r61 r109 lef x3 x4 x5 x6 x6 v5 0 else rdA 6 lef x4 (fun v7 => FX3_rankOf_152 now r61 r109 lef x3 x4 x5 x6 x6 v5 v7))))
def fX3_rankOf_109 (now : Nat → Int32) (r61 : (Nat → Int32) → Int32 → Int32 → Option (Int32 × (Nat → Int32))) : Nat → (Nat → Int32) → Int32 → Int32 → Int32 → Int32 → Option (Int32 × (Nat → Int32))
  | 0, _, _, _, _, _ => none
  | n + 1, lef, x3, x4, x5, x6 => FX3_rankOf_109 now r61 (fX3_rankOf_109 now r61 n) lef x3 x4 x5 x6
def FX3_rankOf_61 (now : Nat → Int32) (r61 : (Nat → Int32) → Int32 → Int32 → Option (Int32 × (Nat → Int32))) (lef : Nat → Int32) (x3 : Int32) (x4 : Int32) : Option (Int32 × (Nat → Int32)) := rdA 14 now 1 (fun v8 => if v8 ≤ x4 then some (x3, lef) else rdA 6 lef x4 (fun v9 => if v9 = 0 then FX3_rankOf_160 now r61 lef x3 x4 else rdA 6 lef x4 (fun v10 => rdA 6 lef x4 (fun v11 => fX3_rankOf_109 now r61 300 lef (x3 + 1) x4 (v10 &&& (-v11)) (x4 + 1)))))
def fX3_rankOf_61 (now : Nat → Int32) : Nat → (Nat → Int32) → Int32 → Int32 → Option (Int32 × (Nat → Int32))
  | 0, _, _, _ => none
  | n + 1, lef, x3, x4 => FX3_rankOf_61 now  (fX3_rankOf_61 now  n) lef x3 x4
def FX3_rankOf_2 (now : Nat → Int32) (r2 : (Nat → Int32) → Int32 → Int32 → Int32 → Option (Int32 × (Nat → Int32))) (lef : Nat → Int32) (x1 : Int32) (x2 : Int32) (x3 : Int32) : Option (Int32 × (Nat → Int32)) := rdA 14 now 1 (fun v12 => if v12 ≤ x3 then fX3_rankOf_61 now  300 lef 0 0 else if x1 = 2 then FX3_rankOf_35 now r2 lef x1 x2 x3 x3 else rdA 14 now ((8 : Int32) + x3) (fun v13 => if v13 = x1 then FX3_rankOf_35 now r2 lef x1 x2 x3 x3 else FX3_rankOf_49 now r2 lef x1 x2 x3 x3 0))
def fX3_rankOf_2 (now : Nat → Int32) : Nat → (Nat → Int32) → Int32 → Int32 → Int32 → Option (Int32 × (Nat → Int32))
  | 0, _, _, _, _ => none
  | n + 1, lef, x1, x2, x3 => FX3_rankOf_2 now  (fX3_rankOf_2 now  n) lef x1 x2 x3
def FX3_rankOf_0 (now : Nat → Int32) (lef : Nat → Int32) (x1 : Int32) (x2 : Int32) : Option (Int32 × (Nat → Int32)) := fX3_rankOf_2 now  300 lef x1 x2 0
def fX3_rankOf (now : Nat → Int32) (lef : Nat → Int32) (x1 : Int32) (x2 : Int32) : Option (Int32 × (Nat → Int32)) := FX3_rankOf_0 now lef x1 x2
-- X3_rank
def FX3_rank_29 (now : Nat → Int32) (err : Nat → Int32) (lef : Nat → Int32) (t0 : Int32) : Option (Int32 × (Nat → Int32) × (Nat → Int32)) := some (t0, err, lef)
def FX3_rank_0 (now : Nat → Int32) (err : Nat → Int32) (lef : Nat → Int32) (x1 : Int32) : Option (Int32 × (Nat → Int32) × (Nat → Int32)) := (fX3_within x1 0 2).bind (fun v1 => if v1 = 0 then (fX3_fails err (-2)).bind (fun v2 => FX3_rank_29 now  v2.2 lef v2.1) else (fX3_words now).bind (fun v3 => (fX3_rankOf now lef x1 (v3 - 1)).bind (fun v4 => FX3_rank_29 now  err v4.2 v4.1)))
def fX3_rank (now : Nat → Int32) (err : Nat → Int32) (lef : Nat → Int32) (x1 : Int32) : Option (Int32 × (Nat → Int32) × (Nat → Int32)) := FX3_rank_0 now err lef x1
-- X3_syndrome
def FX3_syndrome_58 (now : Nat → Int32) (r8 : Int32 → Int32 → Int32 → Int32 → Int32 → Option (Int32)) (x1 : Int32) (x2 : Int32) (x3 : Int32) (x4 : Int32) (x5 : Int32) : Option (Int32) := r8 x1 x2 x3 x4 (x5 + 1)
def FX3_syndrome_8 (now : Nat → Int32) (r8 : Int32 → Int32 → Int32 → Int32 → Int32 → Option (Int32)) (x1 : Int32) (x2 : Int32) (x3 : Int32) (x4 : Int32) (x5 : Int32) : Option (Int32) := rdA 14 now 1 (fun v1 => if v1 ≤ x5 then some x3 else rdA 14 now ((8 : Int32) + x5) (fun v2 => if v2 = x2 then rdA 14 now ((2 : Int32) + x5) (fun v3 => (fX3_ones (v3 &&& x1)).bind (fun v4 => FX3_syndrome_58 now r8 x1 x2 (x3 ||| ((v4 &&& 1) <<< (x4 &&& 31))) (x4 + 1) x5)) else FX3_syndrome_58 now r8 x1 x2 x3 x4 x5))
def fX3_syndrome_8 (now : Nat → Int32) : Nat → Int32 → Int32 → Int32 → Int32 → Int32 → Option (Int32)
  | 0, _, _, _, _, _ => none
  | n + 1, x1, x2, x3, x4, x5 => FX3_syndrome_8 now  (fX3_syndrome_8 now  n) x1 x2 x3 x4 x5
def FX3_syndrome_0 (now : Nat → Int32) (x1 : Int32) (x2 : Int32) : Option (Int32) := fX3_syndrome_8 now  300 x1 x2 0 0 0
def fX3_syndrome (now : Nat → Int32) (x1 : Int32) (x2 : Int32) : Option (Int32) := FX3_syndrome_0 now x1 x2
-- X3_message
def FX3_message_23 (now : Nat → Int32) (err : Nat → Int32) (t0 : Int32) : Option (Int32 × (Nat → Int32)) := some (t0, err)
def FX3_message_0 (now : Nat → Int32) (err : Nat → Int32) (x1 : Int32) : Option (Int32 × (Nat → Int32)) := (fX3_isWord now x1).bind (fun v1 => if v1 = 0 then (fX3_fails err (-2)).bind (fun v2 => FX3_message_23 now  v2.2 v2.1) else (fX3_syndrome now x1 0).bind (fun v3 => FX3_message_23 now  err v3))
def fX3_message (now : Nat → Int32) (err : Nat → Int32) (x1 : Int32) : Option (Int32 × (Nat → Int32)) := FX3_message_0 now err x1
-- X3_checkValue
def FX3_checkValue_23 (now : Nat → Int32) (err : Nat → Int32) (t0 : Int32) : Option (Int32 × (Nat → Int32)) := some (t0, err)
def FX3_checkValue_0 (now : Nat → Int32) (err : Nat → Int32) (x1 : Int32) : Option (Int32 × (Nat → Int32)) := (fX3_isWord now x1).bind (fun v1 => if v1 = 0 then (fX3_fails err (-2)).bind (fun v2 => FX3_checkValue_23 now  v2.2 v2.1) else (fX3_syndrome now x1 1).bind (fun v3 => FX3_checkValue_23 now  err v3))
def fX3_checkValue (now : Nat → Int32) (err : Nat → Int32) (x1 : Int32) : Option (Int32 × (Nat → Int32)) := FX3_checkValue_0 now err x1
-- X3_laysMessages
def FX3_laysMessages_34 (now : Nat → Int32) (r2 : (Nat → Int32) → Int32 → Option ((Nat → Int32))) (msg : Nat → Int32) (x1 : Int32) (t1 : Int32) (t2 : Int32) : Option ((Nat → Int32)) := wrA 256 msg t1 t2 (fun g1 => r2 g1 (x1 + 1))
def FX3_laysMessages_2 (now : Nat → Int32) (r2 : (Nat → Int32) → Int32 → Option ((Nat → Int32))) (msg : Nat → Int32) (x1 : Int32) : Option ((Nat → Int32)) := (fX3_words now).bind (fun v2 => if v2 ≤ x1 then some msg else (fX3_syndrome now x1 1).bind (fun v3 => if v3 = 0 then (fX3_syndrome now x1 0).bind (fun v4 => FX3_laysMessages_34 now r2 msg x1 x1 v4) else FX3_laysMessages_34 now r2 msg x1 x1 (-1)))
def fX3_laysMessages_2 (now : Nat → Int32) : Nat → (Nat → Int32) → Int32 → Option ((Nat → Int32))
  | 0, _, _ => none
  | n + 1, msg, x1 => FX3_laysMessages_2 now  (fX3_laysMessages_2 now  n) msg x1
def FX3_laysMessages_0 (now : Nat → Int32) (msg : Nat → Int32) : Option ((Nat → Int32)) := fX3_laysMessages_2 now  300 msg 0
def fX3_laysMessages (now : Nat → Int32) (msg : Nat → Int32) : Option ((Nat → Int32)) := FX3_laysMessages_0 now msg
-- X3_meets
def FX3_meets_89 (now : Nat → Int32) (r30 : (Nat → Int32) → (Nat → Int32) → Int32 → Int32 → Int32 → Int32 → Option (Int32 × (Nat → Int32) × (Nat → Int32))) (msg : Nat → Int32) (met : Nat → Int32) (x1 : Int32) (x2 : Int32) (x3 : Int32) (x4 : Int32) : Option (Int32 × (Nat → Int32) × (Nat → Int32)) := r30 msg met x1 x2 x3 (x4 + 1)
def FX3_meets_30 (now : Nat → Int32) (r30 : (Nat → Int32) → (Nat → Int32) → Int32 → Int32 → Int32 → Int32 → Option (Int32 × (Nat → Int32) × (Nat → Int32))) (msg : Nat → Int32) (met : Nat → Int32) (x1 : Int32) (x2 : Int32) (x3 : Int32) (x4 : Int32) : Option (Int32 × (Nat → Int32) × (Nat → Int32)) := (fX3_words now).bind (fun v1 => if v1 ≤ x4 then some (x3, msg, met) else rdA 256 msg x4 (fun v2 => if v2 = (-1) then FX3_meets_89 now r30 msg met x1 x2 x3 x4 else if (x4 &&& x1) = x2 then rdA 256 msg x4 (fun v3 => rdA 64 met v3 (fun v4 => if v4 = 0 then rdA 256 msg x4 (fun v5 => wrA 64 met v5 ((1 : Int32) &&& 1) (fun g6 => FX3_meets_89 now r30 msg g6 x1 x2 (x3 + 1) x4)) else FX3_meets_89 now r30 msg met x1 x2 x3 x4)) else FX3_meets_89 now r30 msg met x1 x2 x3 x4))
def fX3_meets_30 (now : Nat → Int32) : Nat → (Nat → Int32) → (Nat → Int32) → Int32 → Int32 → Int32 → Int32 → Option (Int32 × (Nat → Int32) × (Nat → Int32))
  | 0, _, _, _, _, _, _ => none
  | n + 1, msg, met, x1, x2, x3, x4 => FX3_meets_30 now  (fX3_meets_30 now  n) msg met x1 x2 x3 x4
def FX3_meets_6 (now : Nat → Int32) (r6 : (Nat → Int32) → (Nat → Int32) → Int32 → Int32 → Int32 → Option (Int32 × (Nat → Int32) × (Nat → Int32))) (msg : Nat → Int32) (met : Nat → Int32) (x1 : Int32) (x2 : Int32) (x3 : Int32) : Option (Int32 × (Nat → Int32) × (Nat → Int32)) := if 64 ≤ x3 then fX3_meets_30 now  300 msg met x1 x2 0 0 else wrA 64 met x3 ((0 : Int32) &&& 1) (fun g7 => r6 msg g7 x1 x2 (x3 + 1))
def fX3_meets_6 (now : Nat → Int32) : Nat → (Nat → Int32) → (Nat → Int32) → Int32 → Int32 → Int32 → Option (Int32 × (Nat → Int32) × (Nat → Int32))
  | 0, _, _, _, _, _ => none
  | n + 1, msg, met, x1, x2, x3 => FX3_meets_6 now  (fX3_meets_6 now  n) msg met x1 x2 x3
def FX3_meets_0 (now : Nat → Int32) (msg : Nat → Int32) (met : Nat → Int32) (x1 : Int32) (x2 : Int32) : Option (Int32 × (Nat → Int32) × (Nat → Int32)) := (fX3_laysMessages now msg).bind (fun v8 => fX3_meets_6 now  300 v8 met x1 x2 0)
def fX3_meets (now : Nat → Int32) (msg : Nat → Int32) (met : Nat → Int32) (x1 : Int32) (x2 : Int32) : Option (Int32 × (Nat → Int32) × (Nat → Int32)) := FX3_meets_0 now msg met x1 x2
-- X3_codewordMany
def FX3_codewordMany_32 (now : Nat → Int32) (r8 : (Nat → Int32) → Int32 → Int32 → Option (Int32 × (Nat → Int32))) (msg : Nat → Int32) (x2 : Int32) (t0 : Int32) (t1 : Int32) : Option (Int32 × (Nat → Int32)) := r8 msg (t0 + t1) (x2 + 1)
def FX3_codewordMany_8 (now : Nat → Int32) (r8 : (Nat → Int32) → Int32 → Int32 → Option (Int32 × (Nat → Int32))) (msg : Nat → Int32) (x1 : Int32) (x2 : Int32) : Option (Int32 × (Nat → Int32)) := (fX3_words now).bind (fun v1 => if v1 ≤ x2 then some (x1, msg) else rdA 256 msg x2 (fun v2 => if v2 = (-1) then FX3_codewordMany_32 now r8 msg x2 x1 0 else FX3_codewordMany_32 now r8 msg x2 x1 1))
def fX3_codewordMany_8 (now : Nat → Int32) : Nat → (Nat → Int32) → Int32 → Int32 → Option (Int32 × (Nat → Int32))
  | 0, _, _, _ => none
  | n + 1, msg, x1, x2 => FX3_codewordMany_8 now  (fX3_codewordMany_8 now  n) msg x1 x2
def FX3_codewordMany_0 (now : Nat → Int32) (msg : Nat → Int32) : Option (Int32 × (Nat → Int32)) := (fX3_laysMessages now msg).bind (fun v3 => fX3_codewordMany_8 now  300 v3 0 0)
def fX3_codewordMany (now : Nat → Int32) (msg : Nat → Int32) : Option (Int32 × (Nat → Int32)) := FX3_codewordMany_0 now msg
-- X3_codewords
def FX3_codewords_0 (now : Nat → Int32) (msg : Nat → Int32) : Option (Int32 × (Nat → Int32)) := (fX3_codewordMany now msg).bind (fun v1 => some (v1.1, v1.2))
def fX3_codewords (now : Nat → Int32) (msg : Nat → Int32) : Option (Int32 × (Nat → Int32)) := FX3_codewords_0 now msg
-- X3_messages
def FX3_messages_0 (now : Nat → Int32) (msg : Nat → Int32) (met : Nat → Int32) : Option (Int32 × (Nat → Int32) × (Nat → Int32)) := (fX3_meets now msg met 0 0).bind (fun v1 => some (v1.1, v1.2.1, v1.2.2))
def fX3_messages (now : Nat → Int32) (msg : Nat → Int32) (met : Nat → Int32) : Option (Int32 × (Nat → Int32) × (Nat → Int32)) := FX3_messages_0 now msg met
-- X3_choiceMany
def FX3_choiceMany_32 (now : Nat → Int32) (r8 : (Nat → Int32) → Int32 → Int32 → Int32 → Option (Int32 × (Nat → Int32))) (msg : Nat → Int32) (x1 : Int32) (x3 : Int32) (t0 : Int32) (t1 : Int32) : Option (Int32 × (Nat → Int32)) := r8 msg x1 (t0 + t1) (x3 + 1)
def FX3_choiceMany_8 (now : Nat → Int32) (r8 : (Nat → Int32) → Int32 → Int32 → Int32 → Option (Int32 × (Nat → Int32))) (msg : Nat → Int32) (x1 : Int32) (x2 : Int32) (x3 : Int32) : Option (Int32 × (Nat → Int32)) := (fX3_words now).bind (fun v1 => if v1 ≤ x3 then some (x2, msg) else rdA 256 msg x3 (fun v2 => if v2 = x1 then FX3_choiceMany_32 now r8 msg x1 x3 x2 1 else FX3_choiceMany_32 now r8 msg x1 x3 x2 0))
def fX3_choiceMany_8 (now : Nat → Int32) : Nat → (Nat → Int32) → Int32 → Int32 → Int32 → Option (Int32 × (Nat → Int32))
  | 0, _, _, _, _ => none
  | n + 1, msg, x1, x2, x3 => FX3_choiceMany_8 now  (fX3_choiceMany_8 now  n) msg x1 x2 x3
def FX3_choiceMany_0 (now : Nat → Int32) (msg : Nat → Int32) (x1 : Int32) : Option (Int32 × (Nat → Int32)) := (fX3_laysMessages now msg).bind (fun v3 => fX3_choiceMany_8 now  300 v3 x1 0 0)
def fX3_choiceMany (now : Nat → Int32) (msg : Nat → Int32) (x1 : Int32) : Option (Int32 × (Nat → Int32)) := FX3_choiceMany_0 now msg x1
-- X3_choices
def FX3_choices_24 (now : Nat → Int32) (err : Nat → Int32) (msg : Nat → Int32) (t0 : Int32) : Option (Int32 × (Nat → Int32) × (Nat → Int32)) := some (t0, err, msg)
def FX3_choices_0 (now : Nat → Int32) (err : Nat → Int32) (msg : Nat → Int32) (x1 : Int32) : Option (Int32 × (Nat → Int32) × (Nat → Int32)) := (fX3_within x1 0 63).bind (fun v1 => if v1 = 0 then (fX3_fails err (-2)).bind (fun v2 => FX3_choices_24 now  v2.2 msg v2.1) else (fX3_choiceMany now msg x1).bind (fun v3 => FX3_choices_24 now  err v3.2 v3.1))
def fX3_choices (now : Nat → Int32) (err : Nat → Int32) (msg : Nat → Int32) (x1 : Int32) : Option (Int32 × (Nat → Int32) × (Nat → Int32)) := FX3_choices_0 now err msg x1
-- X3_encode
def FX3_encode_14 (now : Nat → Int32) (err : Nat → Int32) (msg : Nat → Int32) : Option (Int32 × (Nat → Int32) × (Nat → Int32)) := (fX3_fails err (-2)).bind (fun v1 => some (v1.1, v1.2, msg))
def FX3_encode_61 (now : Nat → Int32) (r30 : (Nat → Int32) → (Nat → Int32) → Int32 → Int32 → Int32 → Int32 → Option (Int32 × (Nat → Int32) × (Nat → Int32))) (err : Nat → Int32) (msg : Nat → Int32) (x1 : Int32) (x2 : Int32) (x3 : Int32) (x4 : Int32) : Option (Int32 × (Nat → Int32) × (Nat → Int32)) := r30 err msg x1 x2 x3 (x4 + 1)
def FX3_encode_30 (now : Nat → Int32) (r30 : (Nat → Int32) → (Nat → Int32) → Int32 → Int32 → Int32 → Int32 → Option (Int32 × (Nat → Int32) × (Nat → Int32))) (err : Nat → Int32) (msg : Nat → Int32) (x1 : Int32) (x2 : Int32) (x3 : Int32) (x4 : Int32) : Option (Int32 × (Nat → Int32) × (Nat → Int32)) := (fX3_words now).bind (fun v2 => if v2 ≤ x4 then (fX3_fails err (-3)).bind (fun v3 => some (v3.1, v3.2, msg)) else rdA 256 msg x4 (fun v4 => if v4 = x1 then if x3 = x2 then some (x4, err, msg) else FX3_encode_61 now r30 err msg x1 x2 (x3 + 1) x4 else FX3_encode_61 now r30 err msg x1 x2 x3 x4))
def fX3_encode_30 (now : Nat → Int32) : Nat → (Nat → Int32) → (Nat → Int32) → Int32 → Int32 → Int32 → Int32 → Option (Int32 × (Nat → Int32) × (Nat → Int32))
  | 0, _, _, _, _, _, _ => none
  | n + 1, err, msg, x1, x2, x3, x4 => FX3_encode_30 now  (fX3_encode_30 now  n) err msg x1 x2 x3 x4
def FX3_encode_0 (now : Nat → Int32) (err : Nat → Int32) (msg : Nat → Int32) (x1 : Int32) (x2 : Int32) : Option (Int32 × (Nat → Int32) × (Nat → Int32)) := (fX3_within x1 0 63).bind (fun v5 => if v5 = 0 then FX3_encode_14 now  err msg else if 0 ≤ x2 then (fX3_laysMessages now msg).bind (fun v6 => fX3_encode_30 now  300 err v6 x1 x2 0 0) else FX3_encode_14 now  err msg)
def fX3_encode (now : Nat → Int32) (err : Nat → Int32) (msg : Nat → Int32) (x1 : Int32) (x2 : Int32) : Option (Int32 × (Nat → Int32) × (Nat → Int32)) := FX3_encode_0 now err msg x1 x2
-- X3_nearest
def FX3_nearest_48 (now : Nat → Int32) (msg : Nat → Int32) (r5 : Int32 → Int32 → Int32 → Option (Int32)) (x1 : Int32) (x3 : Int32) (t0 : Int32) : Option (Int32) := r5 x1 t0 (x3 + 1)
def FX3_nearest_34 (now : Nat → Int32) (msg : Nat → Int32) (r5 : Int32 → Int32 → Int32 → Option (Int32)) (x1 : Int32) (x2 : Int32) (x3 : Int32) (t0 : Int32) : Option (Int32) := if x2 ≤ t0 then FX3_nearest_48 now msg r5 x1 x3 x2 else FX3_nearest_48 now msg r5 x1 x3 t0
def FX3_nearest_5 (now : Nat → Int32) (msg : Nat → Int32) (r5 : Int32 → Int32 → Int32 → Option (Int32)) (x1 : Int32) (x2 : Int32) (x3 : Int32) : Option (Int32) := (fX3_words now).bind (fun v1 => if v1 ≤ x3 then some x2 else rdA 256 msg x3 (fun v2 => if v2 = (-1) then FX3_nearest_34 now msg r5 x1 x2 x3 99 else (fX3_ones (x3 ^^^ x1)).bind (fun v3 => FX3_nearest_34 now msg r5 x1 x2 x3 v3)))
def fX3_nearest_5 (now : Nat → Int32) (msg : Nat → Int32) : Nat → Int32 → Int32 → Int32 → Option (Int32)
  | 0, _, _, _ => none
  | n + 1, x1, x2, x3 => FX3_nearest_5 now msg  (fX3_nearest_5 now msg  n) x1 x2 x3
def FX3_nearest_0 (now : Nat → Int32) (msg : Nat → Int32) (x1 : Int32) : Option (Int32) := fX3_nearest_5 now msg  300 x1 99 0
def fX3_nearest (now : Nat → Int32) (msg : Nat → Int32) (x1 : Int32) : Option (Int32) := FX3_nearest_0 now msg x1
-- X3_decoded
def FX3_decoded_69 (now : Nat → Int32) (msg : Nat → Int32) (r11 : Int32 → Int32 → Int32 → Int32 → Option (Int32)) (x1 : Int32) (x2 : Int32) (x3 : Int32) (x4 : Int32) : Option (Int32) := r11 x1 x2 x3 (x4 + 1)
def FX3_decoded_61 (now : Nat → Int32) (msg : Nat → Int32) (r11 : Int32 → Int32 → Int32 → Int32 → Option (Int32)) (x1 : Int32) (x2 : Int32) (x4 : Int32) : Option (Int32) := rdA 256 msg x4 (fun v1 => FX3_decoded_69 now msg r11 x1 x2 v1 x4)
def FX3_decoded_11 (now : Nat → Int32) (msg : Nat → Int32) (r11 : Int32 → Int32 → Int32 → Int32 → Option (Int32)) (x1 : Int32) (x2 : Int32) (x3 : Int32) (x4 : Int32) : Option (Int32) := (fX3_words now).bind (fun v2 => if v2 ≤ x4 then some x3 else rdA 256 msg x4 (fun v3 => if v3 = (-1) then FX3_decoded_69 now msg r11 x1 x2 x3 x4 else (fX3_ones (x4 ^^^ x1)).bind (fun v4 => if v4 = x2 then if x3 = (-1) then FX3_decoded_61 now msg r11 x1 x2 x4 else rdA 256 msg x4 (fun v5 => if x3 = v5 then FX3_decoded_61 now msg r11 x1 x2 x4 else some (-5)) else FX3_decoded_69 now msg r11 x1 x2 x3 x4)))
def fX3_decoded_11 (now : Nat → Int32) (msg : Nat → Int32) : Nat → Int32 → Int32 → Int32 → Int32 → Option (Int32)
  | 0, _, _, _, _ => none
  | n + 1, x1, x2, x3, x4 => FX3_decoded_11 now msg  (fX3_decoded_11 now msg  n) x1 x2 x3 x4
def FX3_decoded_0 (now : Nat → Int32) (msg : Nat → Int32) (x1 : Int32) : Option (Int32) := (fX3_nearest now msg x1).bind (fun v6 => fX3_decoded_11 now msg  300 x1 v6 (-1) 0)
def fX3_decoded (now : Nat → Int32) (msg : Nat → Int32) (x1 : Int32) : Option (Int32) := FX3_decoded_0 now msg x1
-- X3_decode
def FX3_decode_41 (now : Nat → Int32) (err : Nat → Int32) (msg : Nat → Int32) (t0 : Int32) : Option (Int32 × (Nat → Int32) × (Nat → Int32)) := some (t0, err, msg)
def FX3_decode_0 (now : Nat → Int32) (err : Nat → Int32) (msg : Nat → Int32) (x1 : Int32) : Option (Int32 × (Nat → Int32) × (Nat → Int32)) := (fX3_isWord now x1).bind (fun v1 => if v1 = 0 then (fX3_fails err (-2)).bind (fun v5 => some (v5.1, v5.2, msg)) else (fX3_laysMessages now msg).bind (fun v2 => (fX3_decoded now v2 x1).bind (fun v3 => if v3 = (-5) then (fX3_fails err (-5)).bind (fun v4 => FX3_decode_41 now  v4.2 v2 v4.1) else FX3_decode_41 now  err v2 v3)))
def fX3_decode (now : Nat → Int32) (err : Nat → Int32) (msg : Nat → Int32) (x1 : Int32) : Option (Int32 × (Nat → Int32) × (Nat → Int32)) := FX3_decode_0 now err msg x1
-- X3_distance
def FX3_distance_0 (now : Nat → Int32) (err : Nat → Int32) (msg : Nat → Int32) (x1 : Int32) : Option (Int32 × (Nat → Int32) × (Nat → Int32)) := (fX3_isWord now x1).bind (fun v1 => if v1 = 0 then (fX3_fails err (-2)).bind (fun v4 => some (v4.1, v4.2, msg)) else (fX3_laysMessages now msg).bind (fun v2 => (fX3_nearest now v2 x1).bind (fun v3 => some (v3, err, v2))))
def fX3_distance (now : Nat → Int32) (err : Nat → Int32) (msg : Nat → Int32) (x1 : Int32) : Option (Int32 × (Nat → Int32) × (Nat → Int32)) := FX3_distance_0 now err msg x1
-- X3_weakness
def FX3_weakness_91 (now : Nat → Int32) (r9 : (Nat → Int32) → Int32 → Int32 → Option (Int32 × (Nat → Int32))) (r26 : (Nat → Int32) → Int32 → Int32 → Int32 → Int32 → Option (Int32 × (Nat → Int32))) (msg : Nat → Int32) (x2 : Int32) (x3 : Int32) (x4 : Int32) (t0 : Int32) : Option (Int32 × (Nat → Int32)) := r26 msg t0 x2 x3 (x4 + 1)
def FX3_weakness_73 (now : Nat → Int32) (r9 : (Nat → Int32) → Int32 → Int32 → Option (Int32 × (Nat → Int32))) (r26 : (Nat → Int32) → Int32 → Int32 → Int32 → Int32 → Option (Int32 × (Nat → Int32))) (msg : Nat → Int32) (x1 : Int32) (x2 : Int32) (x3 : Int32) (x4 : Int32) (t0 : Int32) : Option (Int32 × (Nat → Int32)) := if t0 = 0 then FX3_weakness_91 now r9 r26 msg x2 x3 x4 x1 else (fX3_ones (x4 ^^^ x2)).bind (fun v1 => FX3_weakness_91 now r9 r26 msg x2 x3 x4 v1)
def FX3_weakness_72 (now : Nat → Int32) (r9 : (Nat → Int32) → Int32 → Int32 → Option (Int32 × (Nat → Int32))) (r26 : (Nat → Int32) → Int32 → Int32 → Int32 → Int32 → Option (Int32 × (Nat → Int32))) (msg : Nat → Int32) (x1 : Int32) (x2 : Int32) (x3 : Int32) (x4 : Int32) : Option (Int32 × (Nat → Int32)) := FX3_weakness_73 now r9 r26 msg x1 x2 x3 x4 0
def FX3_weakness_26 (now : Nat → Int32) (r9 : (Nat → Int32) → Int32 → Int32 → Option (Int32 × (Nat → Int32))) (r26 : (Nat → Int32) → Int32 → Int32 → Int32 → Int32 → Option (Int32 × (Nat → Int32))) (msg : Nat → Int32) (x1 : Int32) (x2 : Int32) (x3 : Int32) (x4 : Int32) : Option (Int32 × (Nat → Int32)) := (fX3_words now).bind (fun v2 => if v2 ≤ x4 then r9 msg x1 (x2 + 1) else rdA 256 msg x4 (fun v3 => if v3 = (-1) then FX3_weakness_72 now r9 r26 msg x1 x2 x3 x4 else rdA 256 msg x4 (fun v4 => if v4 = x3 then FX3_weakness_72 now r9 r26 msg x1 x2 x3 x4 else (fX3_ones (x4 ^^^ x2)).bind (fun v5 => if x1 ≤ v5 then FX3_weakness_72 now r9 r26 msg x1 x2 x3 x4 else FX3_weakness_73 now r9 r26 msg x1 x2 x3 x4 1))))
def fX3_weakness_26 (now : Nat → Int32) (r9 : (Nat → Int32) → Int32 → Int32 → Option (Int32 × (Nat → Int32))) : Nat → (Nat → Int32) → Int32 → Int32 → Int32 → Int32 → Option (Int32 × (Nat → Int32))
  | 0, _, _, _, _, _ => none
  | n + 1, msg, x1, x2, x3, x4 => FX3_weakness_26 now r9 (fX3_weakness_26 now r9 n) msg x1 x2 x3 x4
def FX3_weakness_115 (now : Nat → Int32) (msg : Nat → Int32) (t0 : Int32) : Option (Int32 × (Nat → Int32)) := some (t0, msg)
def FX3_weakness_9 (now : Nat → Int32) (r9 : (Nat → Int32) → Int32 → Int32 → Option (Int32 × (Nat → Int32))) (msg : Nat → Int32) (x1 : Int32) (x2 : Int32) : Option (Int32 × (Nat → Int32)) := (fX3_words now).bind (fun v6 => if v6 ≤ x2 then if x1 = 99 then FX3_weakness_115 now  msg (-1) else FX3_weakness_115 now  msg x1 else (fX3_decoded now msg x2).bind (fun v7 => fX3_weakness_26 now r9 300 msg x1 x2 v7 0))
def fX3_weakness_9 (now : Nat → Int32) : Nat → (Nat → Int32) → Int32 → Int32 → Option (Int32 × (Nat → Int32))
  | 0, _, _, _ => none
  | n + 1, msg, x1, x2 => FX3_weakness_9 now  (fX3_weakness_9 now  n) msg x1 x2
def FX3_weakness_0 (now : Nat → Int32) (msg : Nat → Int32) : Option (Int32 × (Nat → Int32)) := (fX3_laysMessages now msg).bind (fun v8 => fX3_weakness_9 now  300 v8 99 0)
def fX3_weakness (now : Nat → Int32) (msg : Nat → Int32) : Option (Int32 × (Nat → Int32)) := FX3_weakness_0 now msg
-- X3_lost
def FX3_lost_0 (now : Nat → Int32) (lef : Nat → Int32) (x1 : Int32) (x2 : Int32) : Option (Int32 × (Nat → Int32)) := (fX3_words now).bind (fun v1 => (fX3_rankOf now lef x1 (v1 - 1)).bind (fun v2 => (fX3_rankOf now v2.2 x1 ((v1 - 1) &&& (x2 ^^^ (-1)))).bind (fun v3 => some (v2.1 - v3.1, v3.2))))
def fX3_lost (now : Nat → Int32) (lef : Nat → Int32) (x1 : Int32) (x2 : Int32) : Option (Int32 × (Nat → Int32)) := FX3_lost_0 now lef x1 x2
-- X3_leakageOf
def FX3_leakageOf_0 (now : Nat → Int32) (lef : Nat → Int32) (x1 : Int32) : Option (Int32 × (Nat → Int32)) := (fX3_lost now lef 2 x1).bind (fun v1 => (fX3_lost now v1.2 1 x1).bind (fun v2 => some (v1.1 - v2.1, v2.2)))
def fX3_leakageOf (now : Nat → Int32) (lef : Nat → Int32) (x1 : Int32) : Option (Int32 × (Nat → Int32)) := FX3_leakageOf_0 now lef x1
-- X3_leakage
def FX3_leakage_22 (now : Nat → Int32) (err : Nat → Int32) (lef : Nat → Int32) (t0 : Int32) : Option (Int32 × (Nat → Int32) × (Nat → Int32)) := some (t0, err, lef)
def FX3_leakage_0 (now : Nat → Int32) (err : Nat → Int32) (lef : Nat → Int32) (x1 : Int32) : Option (Int32 × (Nat → Int32) × (Nat → Int32)) := (fX3_isWord now x1).bind (fun v1 => if v1 = 0 then (fX3_fails err (-2)).bind (fun v2 => FX3_leakage_22 now  v2.2 lef v2.1) else (fX3_leakageOf now lef x1).bind (fun v3 => FX3_leakage_22 now  err v3.2 v3.1))
def fX3_leakage (now : Nat → Int32) (err : Nat → Int32) (lef : Nat → Int32) (x1 : Int32) : Option (Int32 × (Nat → Int32) × (Nat → Int32)) := FX3_leakage_0 now err lef x1
-- X3_worstOf
def FX3_worstOf_62 (now : Nat → Int32) (r7 : (Nat → Int32) → Int32 → Int32 → Int32 → Int32 → Option (Int32 × (Nat → Int32))) (lef : Nat → Int32) (x1 : Int32) (x2 : Int32) (x4 : Int32) (t0 : Int32) : Option (Int32 × (Nat → Int32)) := r7 lef x1 x2 t0 (x4 + 1)
def FX3_worstOf_49 (now : Nat → Int32) (r7 : (Nat → Int32) → Int32 → Int32 → Int32 → Int32 → Option (Int32 × (Nat → Int32))) (lef : Nat → Int32) (x1 : Int32) (x3 : Int32) (x4 : Int32) (x5 : Int32) (t0 : Int32) : Option (Int32 × (Nat → Int32)) := if x5 ≤ x3 then FX3_worstOf_62 now r7 lef x1 t0 x4 x3 else FX3_worstOf_62 now r7 lef x1 t0 x4 x5
def FX3_worstOf_35 (now : Nat → Int32) (r7 : (Nat → Int32) → Int32 → Int32 → Int32 → Int32 → Option (Int32 × (Nat → Int32))) (lef : Nat → Int32) (x1 : Int32) (x2 : Int32) (x3 : Int32) (x4 : Int32) (t0 : Int32) : Option (Int32 × (Nat → Int32)) := if t0 ≤ x3 then FX3_worstOf_49 now r7 lef x1 x3 x4 t0 x2 else FX3_worstOf_49 now r7 lef x1 x3 x4 t0 x4
def FX3_worstOf_7 (now : Nat → Int32) (r7 : (Nat → Int32) → Int32 → Int32 → Int32 → Int32 → Option (Int32 × (Nat → Int32))) (lef : Nat → Int32) (x1 : Int32) (x2 : Int32) (x3 : Int32) (x4 : Int32) : Option (Int32 × (Nat → Int32)) := (fX3_words now).bind (fun v1 => if v1 ≤ x4 then some (x2, lef) else (fX3_ones x4).bind (fun v2 => if v2 = x1 then (fX3_leakageOf now lef x4).bind (fun v3 => FX3_worstOf_35 now r7 v3.2 x1 x2 x3 x4 v3.1) else FX3_worstOf_35 now r7 lef x1 x2 x3 x4 (-1)))
def fX3_worstOf_7 (now : Nat → Int32) : Nat → (Nat → Int32) → Int32 → Int32 → Int32 → Int32 → Option (Int32 × (Nat → Int32))
  | 0, _, _, _, _, _ => none
  | n + 1, lef, x1, x2, x3, x4 => FX3_worstOf_7 now  (fX3_worstOf_7 now  n) lef x1 x2 x3 x4
def FX3_worstOf_0 (now : Nat → Int32) (lef : Nat → Int32) (x1 : Int32) : Option (Int32 × (Nat → Int32)) := fX3_worstOf_7 now  300 lef x1 (-1) (-1) 0
def fX3_worstOf (now : Nat → Int32) (lef : Nat → Int32) (x1 : Int32) : Option (Int32 × (Nat → Int32)) := FX3_worstOf_0 now lef x1
-- X3_isSize
def FX3_isSize_0 (now : Nat → Int32) (x1 : Int32) : Option (Int32) := rdA 14 now 0 (fun v1 => (fX3_within x1 0 v1).bind (fun v2 => ckB v2 (some v2)))
def fX3_isSize (now : Nat → Int32) (x1 : Int32) : Option (Int32) := FX3_isSize_0 now x1
-- X3_worstLeakage
def FX3_worstLeakage_26 (now : Nat → Int32) (err : Nat → Int32) (lef : Nat → Int32) (t0 : Int32) : Option (Int32 × (Nat → Int32) × (Nat → Int32)) := some (t0, err, lef)
def FX3_worstLeakage_0 (now : Nat → Int32) (err : Nat → Int32) (lef : Nat → Int32) (x1 : Int32) : Option (Int32 × (Nat → Int32) × (Nat → Int32)) := (fX3_isSize now x1).bind (fun v1 => if v1 = 0 then (fX3_fails err (-2)).bind (fun v2 => FX3_worstLeakage_26 now  v2.2 lef v2.1) else (fX3_worstOf now lef x1).bind (fun v3 => (fX3_leakageOf now v3.2 v3.1).bind (fun v4 => FX3_worstLeakage_26 now  err v4.2 v4.1)))
def fX3_worstLeakage (now : Nat → Int32) (err : Nat → Int32) (lef : Nat → Int32) (x1 : Int32) : Option (Int32 × (Nat → Int32) × (Nat → Int32)) := FX3_worstLeakage_0 now err lef x1
-- X3_worstSet
def FX3_worstSet_22 (now : Nat → Int32) (err : Nat → Int32) (lef : Nat → Int32) (t0 : Int32) : Option (Int32 × (Nat → Int32) × (Nat → Int32)) := some (t0, err, lef)
def FX3_worstSet_0 (now : Nat → Int32) (err : Nat → Int32) (lef : Nat → Int32) (x1 : Int32) : Option (Int32 × (Nat → Int32) × (Nat → Int32)) := (fX3_isSize now x1).bind (fun v1 => if v1 = 0 then (fX3_fails err (-2)).bind (fun v2 => FX3_worstSet_22 now  v2.2 lef v2.1) else (fX3_worstOf now lef x1).bind (fun v3 => FX3_worstSet_22 now  err v3.2 v3.1))
def fX3_worstSet (now : Nat → Int32) (err : Nat → Int32) (lef : Nat → Int32) (x1 : Int32) : Option (Int32 × (Nat → Int32) × (Nat → Int32)) := FX3_worstSet_0 now err lef x1
-- X3_threshold
def FX3_threshold_32 (now : Nat → Int32) (lef : Nat → Int32) (x1 : Int32) : Option (Int32 × (Nat → Int32)) := some (x1, lef)
def FX3_threshold_2 (now : Nat → Int32) (r2 : (Nat → Int32) → Int32 → Option (Int32 × (Nat → Int32))) (lef : Nat → Int32) (x1 : Int32) : Option (Int32 × (Nat → Int32)) := rdA 14 now 0 (fun v1 => if v1 ≤ x1 then FX3_threshold_32 now  lef x1 else (fX3_worstOf now lef (x1 + 1)).bind (fun v2 => (fX3_leakageOf now v2.2 v2.1).bind (fun v3 => if v3.1 = 0 then r2 v3.2 (x1 + 1) else FX3_threshold_32 now  v3.2 x1)))
def fX3_threshold_2 (now : Nat → Int32) : Nat → (Nat → Int32) → Int32 → Option (Int32 × (Nat → Int32))
  | 0, _, _ => none
  | n + 1, lef, x1 => FX3_threshold_2 now  (fX3_threshold_2 now  n) lef x1
def FX3_threshold_0 (now : Nat → Int32) (lef : Nat → Int32) : Option (Int32 × (Nat → Int32)) := fX3_threshold_2 now  300 lef 0
def fX3_threshold (now : Nat → Int32) (lef : Nat → Int32) : Option (Int32 × (Nat → Int32)) := FX3_threshold_0 now lef
-- X3_leastSize
def FX3_leastSize_63 (now : Nat → Int32) (err : Nat → Int32) (lef : Nat → Int32) (t0 : Int32) : Option (Int32 × (Nat → Int32) × (Nat → Int32)) := some (t0, err, lef)
def FX3_leastSize_48 (now : Nat → Int32) (err : Nat → Int32) (lef : Nat → Int32) (x2 : Int32) : Option (Int32 × (Nat → Int32) × (Nat → Int32)) := rdA 14 now 0 (fun v1 => if x2 ≤ v1 then FX3_leastSize_63 now  err lef x2 else FX3_leastSize_63 now  err lef (-1))
def FX3_leastSize_19 (now : Nat → Int32) (r19 : (Nat → Int32) → (Nat → Int32) → Int32 → Int32 → Option (Int32 × (Nat → Int32) × (Nat → Int32))) (err : Nat → Int32) (lef : Nat → Int32) (x1 : Int32) (x2 : Int32) : Option (Int32 × (Nat → Int32) × (Nat → Int32)) := rdA 14 now 0 (fun v2 => if v2 < x2 then FX3_leastSize_48 now  err lef x2 else (fX3_worstOf now lef x2).bind (fun v3 => (fX3_leakageOf now v3.2 v3.1).bind (fun v4 => if x1 ≤ v4.1 then FX3_leastSize_48 now  err v4.2 x2 else r19 err v4.2 x1 (x2 + 1))))
def fX3_leastSize_19 (now : Nat → Int32) : Nat → (Nat → Int32) → (Nat → Int32) → Int32 → Int32 → Option (Int32 × (Nat → Int32) × (Nat → Int32))
  | 0, _, _, _, _ => none
  | n + 1, err, lef, x1, x2 => FX3_leastSize_19 now  (fX3_leastSize_19 now  n) err lef x1 x2
def FX3_leastSize_0 (now : Nat → Int32) (err : Nat → Int32) (lef : Nat → Int32) (x1 : Int32) : Option (Int32 × (Nat → Int32) × (Nat → Int32)) := (fX3_within x1 1 6).bind (fun v5 => if v5 = 0 then (fX3_fails err (-2)).bind (fun v6 => some (v6.1, v6.2, lef)) else fX3_leastSize_19 now  300 err lef x1 0)
def fX3_leastSize (now : Nat → Int32) (err : Nat → Int32) (lef : Nat → Int32) (x1 : Int32) : Option (Int32 × (Nat → Int32) × (Nat → Int32)) := FX3_leastSize_0 now err lef x1
-- X3_isObservation
def FX3_isObservation_29 (now : Nat → Int32) (t0 : Int32) : Option (Int32) := ckB t0 (some t0)
def FX3_isObservation_28 (now : Nat → Int32) : Option (Int32) := FX3_isObservation_29 now  0
def FX3_isObservation_0 (now : Nat → Int32) (x1 : Int32) (x2 : Int32) : Option (Int32) := (fX3_isWord now x1).bind (fun v1 => if v1 = 0 then FX3_isObservation_28 now   else (fX3_isWord now x2).bind (fun v2 => if v2 = 0 then FX3_isObservation_28 now   else if (x2 &&& (x1 ^^^ (-1))) = 0 then FX3_isObservation_29 now  1 else FX3_isObservation_28 now  ))
def fX3_isObservation (now : Nat → Int32) (x1 : Int32) (x2 : Int32) : Option (Int32) := FX3_isObservation_0 now x1 x2
-- X3_possibleMessages
def FX3_possibleMessages_24 (now : Nat → Int32) (err : Nat → Int32) (msg : Nat → Int32) (met : Nat → Int32) (t0 : Int32) : Option (Int32 × (Nat → Int32) × (Nat → Int32) × (Nat → Int32)) := some (t0, err, msg, met)
def FX3_possibleMessages_0 (now : Nat → Int32) (err : Nat → Int32) (msg : Nat → Int32) (met : Nat → Int32) (x1 : Int32) (x2 : Int32) : Option (Int32 × (Nat → Int32) × (Nat → Int32) × (Nat → Int32)) := (fX3_isObservation now x1 x2).bind (fun v1 => if v1 = 0 then (fX3_fails err (-2)).bind (fun v2 => FX3_possibleMessages_24 now  v2.2 msg met v2.1) else (fX3_meets now msg met x1 x2).bind (fun v3 => FX3_possibleMessages_24 now  err v3.2.1 v3.2.2 v3.1))
def fX3_possibleMessages (now : Nat → Int32) (err : Nat → Int32) (msg : Nat → Int32) (met : Nat → Int32) (x1 : Int32) (x2 : Int32) : Option (Int32 × (Nat → Int32) × (Nat → Int32) × (Nat → Int32)) := FX3_possibleMessages_0 now err msg met x1 x2
-- X3_possibleMessage
def FX3_possibleMessage_13 (now : Nat → Int32) (err : Nat → Int32) (msg : Nat → Int32) (met : Nat → Int32) : Option (Int32 × (Nat → Int32) × (Nat → Int32) × (Nat → Int32)) := (fX3_fails err (-2)).bind (fun v1 => some (v1.1, v1.2, msg, met))
def FX3_possibleMessage_62 (now : Nat → Int32) (r33 : (Nat → Int32) → (Nat → Int32) → (Nat → Int32) → Int32 → Int32 → Int32 → Option (Int32 × (Nat → Int32) × (Nat → Int32) × (Nat → Int32))) (err : Nat → Int32) (msg : Nat → Int32) (met : Nat → Int32) (x3 : Int32) (x4 : Int32) (x5 : Int32) : Option (Int32 × (Nat → Int32) × (Nat → Int32) × (Nat → Int32)) := r33 err msg met x3 x4 (x5 + 1)
def FX3_possibleMessage_33 (now : Nat → Int32) (r33 : (Nat → Int32) → (Nat → Int32) → (Nat → Int32) → Int32 → Int32 → Int32 → Option (Int32 × (Nat → Int32) × (Nat → Int32) × (Nat → Int32))) (err : Nat → Int32) (msg : Nat → Int32) (met : Nat → Int32) (x3 : Int32) (x4 : Int32) (x5 : Int32) : Option (Int32 × (Nat → Int32) × (Nat → Int32) × (Nat → Int32)) := if 64 ≤ x5 then (fX3_fails err (-3)).bind (fun v2 => some (v2.1, v2.2, msg, met)) else rdA 64 met x5 (fun v3 => if v3 = 0 then FX3_possibleMessage_62 now r33 err msg met x3 x4 x5 else if x4 = x3 then some (x5, err, msg, met) else FX3_possibleMessage_62 now r33 err msg met x3 (x4 + 1) x5)
def fX3_possibleMessage_33 (now : Nat → Int32) : Nat → (Nat → Int32) → (Nat → Int32) → (Nat → Int32) → Int32 → Int32 → Int32 → Option (Int32 × (Nat → Int32) × (Nat → Int32) × (Nat → Int32))
  | 0, _, _, _, _, _, _ => none
  | n + 1, err, msg, met, x3, x4, x5 => FX3_possibleMessage_33 now  (fX3_possibleMessage_33 now  n) err msg met x3 x4 x5
def FX3_possibleMessage_0 (now : Nat → Int32) (err : Nat → Int32) (msg : Nat → Int32) (met : Nat → Int32) (x1 : Int32) (x2 : Int32) (x3 : Int32) : Option (Int32 × (Nat → Int32) × (Nat → Int32) × (Nat → Int32)) := (fX3_isObservation now x1 x2).bind (fun v4 => if v4 = 0 then FX3_possibleMessage_13 now  err msg met else if 0 ≤ x3 then (fX3_meets now msg met x1 x2).bind (fun v5 => fX3_possibleMessage_33 now  300 err v5.2.1 v5.2.2 x3 0 0) else FX3_possibleMessage_13 now  err msg met)
def fX3_possibleMessage (now : Nat → Int32) (err : Nat → Int32) (msg : Nat → Int32) (met : Nat → Int32) (x1 : Int32) (x2 : Int32) (x3 : Int32) : Option (Int32 × (Nat → Int32) × (Nat → Int32) × (Nat → Int32)) := FX3_possibleMessage_0 now err msg met x1 x2 x3
-- X3_isKnown
def FX3_isKnown_85 (now : Nat → Int32) (msg : Nat → Int32) (r25 : (Nat → Int32) → Int32 → Int32 → Int32 → Option (Int32 × (Nat → Int32))) (par : Nat → Int32) (x1 : Int32) (x2 : Int32) (x3 : Int32) : Option (Int32 × (Nat → Int32)) := r25 par x1 x2 (x3 + 1)
def FX3_isKnown_25 (now : Nat → Int32) (msg : Nat → Int32) (r25 : (Nat → Int32) → Int32 → Int32 → Int32 → Option (Int32 × (Nat → Int32))) (par : Nat → Int32) (x1 : Int32) (x2 : Int32) (x3 : Int32) : Option (Int32 × (Nat → Int32)) := (fX3_words now).bind (fun v1 => if v1 ≤ x3 then ckB 1 (some (1, par)) else rdA 256 msg x3 (fun v2 => if v2 = (-1) then FX3_isKnown_85 now msg r25 par x1 x2 x3 else rdA 256 msg x3 (fun v3 => (fX3_ones (x2 &&& v3)).bind (fun v4 => rdA 256 par (x3 &&& x1) (fun v5 => if v5 = ((1 : Int32) - (v4 &&& 1)) then ckB 0 (some (0, par)) else wrA 256 par (x3 &&& x1) (v4 &&& 1) (fun g6 => FX3_isKnown_85 now msg r25 g6 x1 x2 x3))))))
def fX3_isKnown_25 (now : Nat → Int32) (msg : Nat → Int32) : Nat → (Nat → Int32) → Int32 → Int32 → Int32 → Option (Int32 × (Nat → Int32))
  | 0, _, _, _, _ => none
  | n + 1, par, x1, x2, x3 => FX3_isKnown_25 now msg  (fX3_isKnown_25 now msg  n) par x1 x2 x3
def FX3_isKnown_2 (now : Nat → Int32) (msg : Nat → Int32) (r2 : (Nat → Int32) → Int32 → Int32 → Int32 → Option (Int32 × (Nat → Int32))) (par : Nat → Int32) (x1 : Int32) (x2 : Int32) (x3 : Int32) : Option (Int32 × (Nat → Int32)) := (fX3_words now).bind (fun v7 => if v7 ≤ x3 then fX3_isKnown_25 now msg  300 par x1 x2 0 else wrA 256 par x3 (-1) (fun g8 => r2 g8 x1 x2 (x3 + 1)))
def fX3_isKnown_2 (now : Nat → Int32) (msg : Nat → Int32) : Nat → (Nat → Int32) → Int32 → Int32 → Int32 → Option (Int32 × (Nat → Int32))
  | 0, _, _, _, _ => none
  | n + 1, par, x1, x2, x3 => FX3_isKnown_2 now msg  (fX3_isKnown_2 now msg  n) par x1 x2 x3
def FX3_isKnown_0 (now : Nat → Int32) (msg : Nat → Int32) (par : Nat → Int32) (x1 : Int32) (x2 : Int32) : Option (Int32 × (Nat → Int32)) := fX3_isKnown_2 now msg  300 par x1 x2 0
def fX3_isKnown (now : Nat → Int32) (msg : Nat → Int32) (par : Nat → Int32) (x1 : Int32) (x2 : Int32) : Option (Int32 × (Nat → Int32)) := FX3_isKnown_0 now msg par x1 x2
-- X3_knownCombinations
def FX3_knownCombinations_82 (now : Nat → Int32) (r58 : (Nat → Int32) → (Nat → Int32) → (Nat → Int32) → Int32 → Int32 → Int32 → Int32 → Option (Int32 × (Nat → Int32) × (Nat → Int32) × (Nat → Int32))) (err : Nat → Int32) (msg : Nat → Int32) (par : Nat → Int32) (x1 : Int32) (x2 : Int32) (x4 : Int32) (t0 : Int32) (t1 : Int32) : Option (Int32 × (Nat → Int32) × (Nat → Int32) × (Nat → Int32)) := r58 err msg par x1 x2 (t0 + t1) (x4 + 1)
def FX3_knownCombinations_58 (now : Nat → Int32) (r58 : (Nat → Int32) → (Nat → Int32) → (Nat → Int32) → Int32 → Int32 → Int32 → Int32 → Option (Int32 × (Nat → Int32) × (Nat → Int32) × (Nat → Int32))) (err : Nat → Int32) (msg : Nat → Int32) (par : Nat → Int32) (x1 : Int32) (x2 : Int32) (x3 : Int32) (x4 : Int32) : Option (Int32 × (Nat → Int32) × (Nat → Int32) × (Nat → Int32)) := if ((1 : Int32) <<< (x2 &&& 31)) ≤ x4 then some (x3, err, msg, par) else (fX3_isKnown now msg par x1 x4).bind (fun v1 => if v1.1 = 0 then FX3_knownCombinations_82 now r58 err msg v1.2 x1 x2 x4 x3 0 else FX3_knownCombinations_82 now r58 err msg v1.2 x1 x2 x4 x3 1)
def fX3_knownCombinations_58 (now : Nat → Int32) : Nat → (Nat → Int32) → (Nat → Int32) → (Nat → Int32) → Int32 → Int32 → Int32 → Int32 → Option (Int32 × (Nat → Int32) × (Nat → Int32) × (Nat → Int32))
  | 0, _, _, _, _, _, _, _ => none
  | n + 1, err, msg, par, x1, x2, x3, x4 => FX3_knownCombinations_58 now  (fX3_knownCombinations_58 now  n) err msg par x1 x2 x3 x4
def FX3_knownCombinations_23 (now : Nat → Int32) (r23 : (Nat → Int32) → (Nat → Int32) → (Nat → Int32) → Int32 → Int32 → Int32 → Option (Int32 × (Nat → Int32) × (Nat → Int32) × (Nat → Int32))) (err : Nat → Int32) (msg : Nat → Int32) (par : Nat → Int32) (x1 : Int32) (x2 : Int32) (x3 : Int32) : Option (Int32 × (Nat → Int32) × (Nat → Int32) × (Nat → Int32)) := rdA 14 now 1 (fun v2 => if v2 ≤ x3 then fX3_knownCombinations_58 now  300 err msg par x1 x2 0 1 else rdA 14 now ((8 : Int32) + x3) (fun v3 => r23 err msg par x1 (x2 + ((1 : Int32) - v3)) (x3 + 1)))
def fX3_knownCombinations_23 (now : Nat → Int32) : Nat → (Nat → Int32) → (Nat → Int32) → (Nat → Int32) → Int32 → Int32 → Int32 → Option (Int32 × (Nat → Int32) × (Nat → Int32) × (Nat → Int32))
  | 0, _, _, _, _, _, _ => none
  | n + 1, err, msg, par, x1, x2, x3 => FX3_knownCombinations_23 now  (fX3_knownCombinations_23 now  n) err msg par x1 x2 x3
def FX3_knownCombinations_0 (now : Nat → Int32) (err : Nat → Int32) (msg : Nat → Int32) (par : Nat → Int32) (x1 : Int32) : Option (Int32 × (Nat → Int32) × (Nat → Int32) × (Nat → Int32)) := (fX3_isWord now x1).bind (fun v4 => if v4 = 0 then (fX3_fails err (-2)).bind (fun v6 => some (v6.1, v6.2, msg, par)) else (fX3_laysMessages now msg).bind (fun v5 => fX3_knownCombinations_23 now  300 err v5 par x1 0 0))
def fX3_knownCombinations (now : Nat → Int32) (err : Nat → Int32) (msg : Nat → Int32) (par : Nat → Int32) (x1 : Int32) : Option (Int32 × (Nat → Int32) × (Nat → Int32) × (Nat → Int32)) := FX3_knownCombinations_0 now err msg par x1
-- X3_errorCount
def FX3_errorCount_29 (err : Nat → Int32) (t0 : Int32) : Option (Int32 × (Nat → Int32)) := some (t0, err)
def FX3_errorCount_0 (err : Nat → Int32) (x1 : Int32) : Option (Int32 × (Nat → Int32)) := (fX3_within x1 (-6) (-2)).bind (fun v1 => if v1 = 0 then (fX3_fails err (-2)).bind (fun v2 => FX3_errorCount_29   v2.2 v2.1) else rdA 5 err ((-2) - x1) (fun v3 => FX3_errorCount_29   err v3))
def fX3_errorCount (err : Nat → Int32) (x1 : Int32) : Option (Int32 × (Nat → Int32)) := FX3_errorCount_0  err x1
-- X3_mix
def FX3_mix_0 (hash : Int64) (x1 : Int32) : Option (Int64) := some (((31 : Int64) * hash) + x1.toInt64)
def fX3_mix (hash : Int64) (x1 : Int32) : Option (Int64) := FX3_mix_0  hash x1
-- X3_digest
def FX3_digest_157 (now : Nat → Int32) (err : Nat → Int32) (sv : Int32) (r157 : (Nat → Int32) → (Nat → Int32) → (Nat → Int32) → (Int64) → Int32 → Option (Int64 × (Nat → Int32) × (Nat → Int32) × (Nat → Int32) × Int64)) (lef : Nat → Int32) (msg : Nat → Int32) (met : Nat → Int32) (hash : Int64) (x1 : Int32) : Option (Int64 × (Nat → Int32) × (Nat → Int32) × (Nat → Int32) × Int64) := rdA 14 now 0 (fun v1 => if v1 < x1 then (fX3_mix hash sv).bind (fun v2 => some (v2, lef, msg, met, v2)) else (fX3_worstOf now lef x1).bind (fun v3 => (fX3_leakageOf now v3.2 v3.1).bind (fun v4 => (fX3_mix hash v4.1).bind (fun v5 => (fX3_mix v5 v3.1).bind (fun v6 => r157 v4.2 msg met v6 (x1 + 1))))))
def fX3_digest_157 (now : Nat → Int32) (err : Nat → Int32) (sv : Int32) : Nat → (Nat → Int32) → (Nat → Int32) → (Nat → Int32) → (Int64) → Int32 → Option (Int64 × (Nat → Int32) × (Nat → Int32) × (Nat → Int32) × Int64)
  | 0, _, _, _, _, _ => none
  | n + 1, lef, msg, met, hash, x1 => FX3_digest_157 now err sv  (fX3_digest_157 now err sv  n) lef msg met hash x1
def FX3_digest_95 (now : Nat → Int32) (err : Nat → Int32) (sv : Int32) (r95 : (Nat → Int32) → (Nat → Int32) → (Nat → Int32) → (Int64) → Int32 → Option (Int64 × (Nat → Int32) × (Nat → Int32) × (Nat → Int32) × Int64)) (lef : Nat → Int32) (msg : Nat → Int32) (met : Nat → Int32) (hash : Int64) (x1 : Int32) : Option (Int64 × (Nat → Int32) × (Nat → Int32) × (Nat → Int32) × Int64) := if 3 ≤ x1 then (fX3_codewordMany now msg).bind (fun v7 => (fX3_mix hash v7.1).bind (fun v8 => (fX3_meets now v7.2 met 0 0).bind (fun v9 => (fX3_mix v8 v9.1).bind (fun v10 => (fX3_threshold now lef).bind (fun v11 => (fX3_mix v10 v11.1).bind (fun v12 => (fX3_weakness now v9.2.1).bind (fun v13 => (fX3_mix v12 v13.1).bind (fun v14 => fX3_digest_157 now err sv  300 v11.2 v13.2 v9.2.2 v14 0)))))))) else (fX3_words now).bind (fun v15 => (fX3_rankOf now lef x1 (v15 - 1)).bind (fun v16 => (fX3_mix hash v16.1).bind (fun v17 => r95 v16.2 msg met v17 (x1 + 1))))
def fX3_digest_95 (now : Nat → Int32) (err : Nat → Int32) (sv : Int32) : Nat → (Nat → Int32) → (Nat → Int32) → (Nat → Int32) → (Int64) → Int32 → Option (Int64 × (Nat → Int32) × (Nat → Int32) × (Nat → Int32) × Int64)
  | 0, _, _, _, _, _ => none
  | n + 1, lef, msg, met, hash, x1 => FX3_digest_95 now err sv  (fX3_digest_95 now err sv  n) lef msg met hash x1
def FX3_digest_52 (now : Nat → Int32) (err : Nat → Int32) (sv : Int32) (r52 : (Nat → Int32) → (Nat → Int32) → (Nat → Int32) → (Int64) → Int32 → Option (Int64 × (Nat → Int32) × (Nat → Int32) × (Nat → Int32) × Int64)) (lef : Nat → Int32) (msg : Nat → Int32) (met : Nat → Int32) (hash : Int64) (x1 : Int32) : Option (Int64 × (Nat → Int32) × (Nat → Int32) × (Nat → Int32) × Int64) := rdA 14 now 1 (fun v18 => if v18 ≤ x1 then fX3_digest_95 now err sv  300 lef msg met hash 0 else rdA 14 now ((2 : Int32) + x1) (fun v19 => (fX3_mix hash v19).bind (fun v20 => rdA 14 now ((8 : Int32) + x1) (fun v21 => (fX3_mix v20 v21).bind (fun v22 => r52 lef msg met v22 (x1 + 1))))))
def fX3_digest_52 (now : Nat → Int32) (err : Nat → Int32) (sv : Int32) : Nat → (Nat → Int32) → (Nat → Int32) → (Nat → Int32) → (Int64) → Int32 → Option (Int64 × (Nat → Int32) × (Nat → Int32) × (Nat → Int32) × Int64)
  | 0, _, _, _, _, _ => none
  | n + 1, lef, msg, met, hash, x1 => FX3_digest_52 now err sv  (fX3_digest_52 now err sv  n) lef msg met hash x1
def FX3_digest_9 (now : Nat → Int32) (err : Nat → Int32) (sv : Int32) (r9 : (Nat → Int32) → (Nat → Int32) → (Nat → Int32) → (Int64) → Int32 → Option (Int64 × (Nat → Int32) × (Nat → Int32) × (Nat → Int32) × Int64)) (lef : Nat → Int32) (msg : Nat → Int32) (met : Nat → Int32) (hash : Int64) (x1 : Int32) : Option (Int64 × (Nat → Int32) × (Nat → Int32) × (Nat → Int32) × Int64) := if 5 ≤ x1 then rdA 14 now 0 (fun v23 => (fX3_mix hash v23).bind (fun v24 => rdA 14 now 1 (fun v25 => (fX3_mix v24 v25).bind (fun v26 => fX3_digest_52 now err sv  300 lef msg met v26 0)))) else rdA 5 err x1 (fun v27 => (fX3_mix hash v27).bind (fun v28 => r9 lef msg met v28 (x1 + 1)))
def fX3_digest_9 (now : Nat → Int32) (err : Nat → Int32) (sv : Int32) : Nat → (Nat → Int32) → (Nat → Int32) → (Nat → Int32) → (Int64) → Int32 → Option (Int64 × (Nat → Int32) × (Nat → Int32) × (Nat → Int32) × Int64)
  | 0, _, _, _, _, _ => none
  | n + 1, lef, msg, met, hash, x1 => FX3_digest_9 now err sv  (fX3_digest_9 now err sv  n) lef msg met hash x1
def FX3_digest_0 (now : Nat → Int32) (err : Nat → Int32) (sv : Int32) (lef : Nat → Int32) (msg : Nat → Int32) (met : Nat → Int32) (hash : Int64) : Option (Int64 × (Nat → Int32) × (Nat → Int32) × (Nat → Int32) × Int64) := fX3_digest_9 now err sv  300 lef msg met 2687 0
def fX3_digest (now : Nat → Int32) (err : Nat → Int32) (lef : Nat → Int32) (msg : Nat → Int32) (met : Nat → Int32) (sv : Int32) (hash : Int64) : Option (Int64 × (Nat → Int32) × (Nat → Int32) × (Nat → Int32) × Int64) := FX3_digest_0 now err sv lef msg met hash
