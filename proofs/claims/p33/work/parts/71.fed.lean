/-! PURE: feed, side by side -/
theorem g_TX_one {C R : gj_M} {x : Int} (h : g_TX C R) (hl : C 1 1 < 500) : g_TX (gj_up (gj_up C 2 (C 1 1) (gj_and x 255)) 1 1 (C 1 1 + 1)) (gj_up (gj_up R 81 (R 79 2) (gj_b8 x)) 79 2 (R 79 2 + 1)) := by
  obtain ⟨t1, ⟨t2, t3, t4⟩, t5⟩ := h
  have hx := g_and255 (x := x)
  have e2 : ∀ i, gj_up (gj_up C 2 (C 1 1) (gj_and x 255)) 1 1 (C 1 1 + 1) 2 i = if i = C 1 1 then gj_and x 255 else C 2 i := fun i => by rw [gj_up_z (by decide), gj_up_if]
  have e81 : ∀ i, gj_up (gj_up R 81 (R 79 2) (gj_b8 x)) 79 2 (R 79 2 + 1) 81 i = if i = R 79 2 then gj_b8 x else R 81 i := fun i => by rw [gj_up_z (by decide), gj_up_if]
  refine ⟨by rw [gj_up_eq, gj_up_eq, t1], ?_, ?_⟩
  · unfold g_CT
    rw [gj_up_eq]
    refine ⟨by omega, by omega, fun i p q => ?_⟩
    rw [e2]
    by_cases e : i = C 1 1
    · rw [if_pos e]; omega
    · rw [if_neg e]; exact t4 i p (by omega)
  · rw [gj_up_eq]
    intro i p q
    rw [e2, e81]
    by_cases e : i = C 1 1
    · rw [if_pos e, if_pos (by omega)]
      refine ⟨hx.1, hx.2.1, ?_⟩
      unfold gj_b8
      omega
    · rw [if_neg e, if_neg (by omega)]
      exact t5 i p (by omega)
theorem p_feedL {a : Int} : ∀ (k n n' : Nat) {C R : gj_M}, k ≤ 4 → k < n → k < n' → g_TX C R → C 1 1 + (k : Int) ≤ 500 → ∃ D U, gj_it (fun _ _ _ => none) B_X9_append_3 n a (8 * (k : Int) - 8) C = some D ∧ gj_it (fun _ _ _ => none) B_X12_feeds_2 n' a ((k : Int) - 1) R = some U ∧ g_TX D U ∧ D 1 1 = C 1 1 + (k : Int)
  | k, 0, _, _, _, _, h, _, _, _ => absurd h (Nat.not_lt_zero _)
  | k, _, 0, _, _, _, _, h, _, _ => absurd h (Nat.not_lt_zero _)
  | 0, n + 1, n' + 1, C, R, _, _, _, h, _ => by
    rw [gj_it_s, gj_it_s]
    unfold B_X9_append_3 B_X12_feeds_2
    rw [if_pos (by decide), if_pos (by decide)]
    exact ⟨C, R, rfl, rfl, h, by omega⟩
  | k + 1, n + 1, n' + 1, C, R, hk, hn, hn', h, hl => by
    rw [gj_it_s, gj_it_s]
    have t0 := h.1
    have t2 := h.2.1.1
    have one := g_TX_one (x := gj_ushr a (8 * (k : Int))) h (by omega)
    obtain ⟨D, U, e1, e2, e3, e4⟩ := p_feedL (a := a) k n n' (by omega) (by omega) (by omega) one (by rw [gj_up_eq]; omega)
    rw [gj_up_eq] at e4
    refine ⟨D, U, ?_, ?_, e3, by omega⟩
    · unfold B_X9_append_3 J_X9_append_47
      rw [if_neg (by omega), if_neg (by omega), f_put_in ⟨t2, by omega⟩, gj_let_s, gj_let_s, gj_up_z (show (1 : Int) ≠ 2 by decide), gj_wle (x := C 1 1 + 1) (by omega) (by omega), gj_wle (by omega) (by omega)]
      rw [show 8 * ((k + 1 : Nat) : Int) - 8 = 8 * (k : Int) by omega, show 8 * (k : Int) + -8 = 8 * (k : Int) - 8 by omega]
      exact e1
    · unfold B_X12_feeds_2
      rw [if_neg (by omega), gj_chkp (by omega), gj_let_s, gj_let_s, gj_up_z (show (79 : Int) ≠ 81 by decide), gj_wle (x := R 79 2 + 1) (by omega) (by omega), show ((k + 1 : Nat) : Int) - 1 = (k : Int) by omega, gj_wle (x := 8 * (k : Int)) (by omega) (by omega), gj_wle (by omega) (by omega), show (k : Int) + -1 = (k : Int) - 1 by omega]
      exact e2
theorem p_feed4 {C R : gj_M} {a : Int} (h : g_TX C R) (hl : C 1 1 + 4 ≤ 500) : ∃ D U, F_X9_append a C = some D ∧ F_X12_feeds a R = some U ∧ g_TX D U ∧ D 1 1 = C 1 1 + 4 :=
  p_feedL (a := a) 4 gj_fu gj_fu (by omega) (by show _ < 2048; omega) (by show _ < 2048; omega) h hl
