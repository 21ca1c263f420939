/-! ===== from the entry ===== -/
set_option maxRecDepth 20000 in
set_option maxHeartbeats 4000000 in
theorem whole_start {p : Program} {e : Env} {s : State} {m : MethodId} {below : List Frame} {meth : Method} {c : Code} (l : Launch) (hflags : l.flags = flags0) {b L : Nat} {xs : Nat → Int32} (hL : L ≤ 2048) (C0 : lw_At p s m meth c b L xs) : W p l e room_1 s m #[Value.ref b] below meth c s.heap [] 0 0 (lw_Z below #[Value.ref b] s) (entryFrame m ([Value.ref b] : List Value).toArray 4) := by
  obtain ⟨hx, hb, hr, hml, hown, hts, hX, hbl, hlocks, hgv⟩ := id C0
  obtain ⟨c0, i0, hK0⟩ := u_known (C := RX0) (T := TX0) (N := 2) (n := 2) hts inX0 (hts (.instantiable RX0 2) (by decide +kernel))
  obtain ⟨c1, i1, hK1⟩ := u_known (C := RX1) (T := TX1) (N := 4) (n := 4) hts inX1 (hts (.instantiable RX1 4) (by decide +kernel))
  obtain ⟨c2, i2, hK2⟩ := u_known (C := RX2) (T := TX2) (N := 5) (n := 5) hts inX2 (hts (.instantiable RX2 5) (by decide +kernel))
  obtain ⟨c3, i3, hK3⟩ := u_known (C := RX3) (T := TX3) (N := 9) (n := 9) hts inX3 (hts (.instantiable RX3 9) (by decide +kernel))
  obtain ⟨cI, kI, pI, a1, a2, a3⟩ := Cond.arrayClass_spec (hts (.arrayClass .int) (by decide +kernel))
  obtain ⟨cZ, kZ, pZ, b1, b2, b3⟩ := Cond.arrayClass_spec (hts (.arrayClass .boolean) (by decide +kernel))
  have hao := hts (.arrayOver (.object RX1)) (by decide +kernel)
  obtain ⟨comp, cQ, kQ, d1, d2, d3, d4, d5⟩ := Cond.arrayOver_spec hao
  have hO : va_AO RX1 s := va_AO.of hao
  obtain ⟨K, hK⟩ : ∃ K : KK, va_K K.1 vwCl (TY K) s := by
    refine ⟨((fun k => if k = 0 then c0 else if k = 1 then c1 else if k = 2 then c2 else c3, fun k => if k = 0 then i0 else if k = 1 then i1 else if k = 2 then i2 else i3), cI, cZ, cQ), ?_, ?_⟩
    · intro k q hq
      match k, hq with
      | 0, hq => cases hq; exact hK0
      | 1, hq => cases hq; exact hK1
      | 2, hq => cases hq; exact hK2
      | 3, hq => cases hq; exact hK3
      | k + 4, hq => simp [vwCl] at hq
    · intro k q hq
      match k, hq with
      | 0, hq => cases hq; exact ⟨fun N z => ⟨(fun k h => by cases h), kI, a2, pI, a3⟩, a1⟩
      | 1, hq => cases hq; exact ⟨fun N z => ⟨(fun k h => by cases h), kZ, b2, pZ, b3⟩, b1⟩
      | 2, hq => cases hq; exact ⟨fun N z => ⟨(fun k h => by cases h), kQ, d3, comp, d4⟩, kQ, comp, d3, d4, d1, d5⟩
      | k + 3, hq => simp [TY] at hq
  have hN : NW s := ⟨va_Nw.of rfl (hts _ (by decide +kernel)), va_Nw.of rfl (hts _ (by decide +kernel)), va_Nw.of rfl (hts _ (by decide +kernel)), va_Nw.of rfl (hts _ (by decide +kernel)), va_Nw.of rfl (hts _ (by decide +kernel)), va_Nw.of rfl (hts _ (by decide +kernel)), va_Nw.of rfl (hts _ (by decide +kernel)), va_Nw.of rfl (hts _ (by decide +kernel)), va_Nw.of rfl (hts _ (by decide +kernel)), va_Nw.of rfl (hts _ (by decide +kernel))⟩
  have C : Cx p s m #[Value.ref b] meth c K (fun q => s.heap.size ≤ q) cL_law 4 RL wsL_law ret := ⟨⟨hx, hb, hml, hown, fun w h => hts w (wsL_law_in w h)⟩, hK, hN, hr, hlocks, fun q h => h⟩
  have G : Go p l e room_1 s m #[Value.ref b] below meth c K (fun q => s.heap.size ≤ q) 4 0 0 (lw_Z below #[Value.ref b] s) [] 0 [(0, .ref b)] [] := by
    refine go_newO C (ci := 2) (fs := [.null, .null, .int 0, .null, .null]) (Cn := RX2) (T := TX2) (N := 5) inlX2 tyX2 tyX2_ok (by decide +kernel) (by decide +kernel) (by decide +kernel) rfl (fun j hj => by rcases (show j = 0 ∨ j = 1 ∨ j = 2 ∨ j = 3 ∨ j = 4 by omega) with rfl | rfl | rfl | rfl | rfl <;> rfl) (Nat.le_of_ble_eq_true rfl) (Nat.le_of_ble_eq_true rfl) dL_law_0 (fun q1 => ?_)
    refine go_dup C dL_law_3 rfl ?_
    refine go_callI0 C (con_X2_init l K q1) gL_law_X2_init (by decide +kernel) (by decide +kernel) (by decide +kernel) rfl (by decide) rfl ⟨Nat.le_of_ble_eq_true rfl, Nat.le_of_ble_eq_true rfl⟩ ⟨Nat.le_of_ble_eq_true rfl, Nat.le_of_ble_eq_true rfl⟩ hO (Nat.le_of_ble_eq_true rfl) dL_law_4 (fun g1 => ?_)
    refine go_astore_n (lv' := [(0, .ref b), (1, .ref q1)]) C [1, 0] dL_law_7 rfl (by decide) rfl ?_
    refine go_newO C (ci := 3) (fs := [.null, .null, .int 0, .null, .null, .null, .null, .null, .long 0]) (Cn := RX3) (T := TX3) (N := 9) inlX3 tyX3 tyX3_ok (by decide +kernel) (by decide +kernel) (by decide +kernel) rfl (fun j hj => by rcases (show j = 0 ∨ j = 1 ∨ j = 2 ∨ j = 3 ∨ j = 4 ∨ j = 5 ∨ j = 6 ∨ j = 7 ∨ j = 8 by omega) with rfl | rfl | rfl | rfl | rfl | rfl | rfl | rfl | rfl <;> rfl) (Nat.le_of_ble_eq_true rfl) (Nat.le_of_ble_eq_true rfl) dL_law_8 (fun q2 => ?_)
    refine go_dup C dL_law_11 rfl ?_
    refine go_callI0 C (con_X3_init l K q2) gL_law_X3_init (by decide +kernel) (by decide +kernel) (by decide +kernel) rfl (by decide) rfl ⟨Nat.le_of_ble_eq_true rfl, Nat.le_of_ble_eq_true rfl⟩ ⟨Nat.le_of_ble_eq_true rfl, Nat.le_of_ble_eq_true rfl⟩ hO (Nat.le_of_ble_eq_true rfl) dL_law_12 (fun g2 => ?_)
    refine go_astore_n (lv' := [(0, .ref b), (1, .ref q1), (2, .ref q2)]) C [1, 2, 0] dL_law_15 rfl (by decide) rfl ?_
    refine go_iconst (v := 0) C dL_law_16 (by decide) ?_
    refine go_istore_n (lv' := [(0, .ref b), (1, .ref q1), (2, .ref q2), (3, .int 0)]) C [1, 2, 3, 0] dL_law_17 rfl (by decide) rfl ?_
    exact law_loop (a := fun i => if i = 0 then q1 else g1 i) (a' := fun i => if i = 0 then q2 else g2 i) C hX hbl hL (L + 5) 0 (by omega) (by omega) 6 0 (fun _ => 0) (fun _ => 0) 0 (fun _ => 0) (fun _ => 0) 0 (fun i => i) (fun _ => 6) (fun _ => 0) (fun _ _ => 0) (fun _ _ => 0) (upd (fun _ => 0) 0 6) (fun _ => 0) (fun _ => 0) (fun _ => 0) (fun _ => 0) (fun _ => 0) (fun _ => 0) 0 0
      ⟨⟨6, 0, fun _ => 0, fun _ => 0, ⟨by decide, by decide, by decide, fun i hi => absurd hi (Nat.not_lt_zero i), fun i hi => absurd hi (Nat.not_lt_zero i)⟩, ⟨rfl, rfl, fun i hi => absurd hi (Nat.not_lt_zero i), fun i hi => absurd hi (Nat.not_lt_zero i)⟩, ⟨rfl, rfl, fun i hi => absurd hi (Nat.not_lt_zero i), fun i hi => absurd hi (Nat.not_lt_zero i)⟩⟩, fun j _ => rfl, 0, rfl, rfl, by decide, fun i hi => hi, fun i j _ _ h => h, fun i hi => absurd hi (Nat.not_lt_zero i)⟩
  have hl := lv_entry ([.ref b]) (n := 4) (Nat.le_of_ble_eq_true rfl)
  rw [lg_entry_eq]
  exact G s.heap [] _ (fun k q h => by simp at h) ⟨fun i j p q h => by simp at h, fun k q h => by simp at h⟩ va_S.rf hl
