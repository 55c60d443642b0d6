/-! PURE: the two readings agree -/
def g_A0 (C : gj_M) : gj_M := f_fill (f_fill (gj_up (gj_up (f_X5_clear C) 10 5 0) 10 8 0) 12 32 0) 13 16 0
theorem g_A0_3 {C : gj_M} : g_A0 C 3 0 = 0 ∧ g_A0 C 3 1 = 0 ∧ ∀ k, 0 ≤ k → k < 8 → g_A0 C 3 (k + 2) = g_h0 k := by
  unfold g_A0 f_X5_clear
  simp only [gj_let_s]
  refine ⟨by simp [gj_up, f_fill], by simp [gj_up, f_fill], fun k a b => ?_⟩
  rcases (by omega : k = 0 ∨ k = 1 ∨ k = 2 ∨ k = 3 ∨ k = 4 ∨ k = 5 ∨ k = 6 ∨ k = 7) with e | e | e | e | e | e | e | e <;> subst e <;> simp [gj_up, f_fill, g_h0]
theorem g_A0_10 {C : gj_M} : g_A0 C 10 5 = 0 ∧ g_A0 C 10 8 = 0 := by
  unfold g_A0
  exact ⟨by simp [gj_up, f_fill], by simp [gj_up, f_fill]⟩
theorem g_A0_t {C : gj_M} : g_A0 C 1 = C 1 ∧ g_A0 C 2 = C 2 := by
  unfold g_A0 f_X5_clear
  simp only [gj_let_s]
  exact ⟨by funext i; simp [gj_up, f_fill], by funext i; simp [gj_up, f_fill]⟩
theorem g_A0_32 {C : gj_M} {j : Int} (a : 0 ≤ j) (b : j < 32) : g_A0 C 12 j = 0 ∧ g_A0 C 5 j = 8 ∧ g_A0 C 6 j = 12 ∧ g_A0 C 7 j = 4 := by
  unfold g_A0 f_X5_clear
  simp only [gj_let_s]
  refine ⟨?_, ?_, ?_, ?_⟩ <;> simp [gj_up, f_fill, a, b]
theorem g_A0_16 {C : gj_M} {j : Int} (a : 0 ≤ j) (b : j < 16) : g_A0 C 13 j = 0 ∧ g_A0 C 8 j = 8 := by
  unfold g_A0 f_X5_clear
  simp only [gj_let_s]
  refine ⟨?_, ?_⟩ <;> simp [gj_up, f_fill, a, b]
theorem g_and0 : ∀ k : Nat, k < 5 → gj_and 0 (2 ^ k) = 0 := by decide +kernel
theorem g_hb0 {k : Int} (a : 0 ≤ k) (b : k < 8) : g_hb k (g_h0 k) := by
  rcases (by omega : k = 0 ∨ k = 1 ∨ k = 2 ∨ k = 3 ∨ k = 4 ∨ k = 5 ∨ k = 6 ∨ k = 7) with e | e | e | e | e | e | e | e <;> subst e <;> simp [g_hb, g_h0]
theorem p_read {C R : gj_M} {c : Int} (hc : 136 ≤ c) (tx : C 1 1 = R 79 2) (ct : g_CT C) (tt : g_TT (C 2) (R 81) (C 1 1)) : ∃ x D U, F_X6_read C = some (x, D) ∧ F_X12_reads c R = some (c + 1, U) ∧ g_RE x D U := by
  obtain ⟨N, e0, i32, i16, i9, ih, i0, i1, i5, i2, i81⟩ := p_reads0 (M := R) hc
  rw [e0]
  unfold J_X12_reads_190
  rw [gj_let_s]
  obtain ⟨a30, a31, a3⟩ := g_A0_3 (C := C)
  obtain ⟨a5, a8⟩ := g_A0_10 (C := C)
  obtain ⟨t1, t2⟩ := g_A0_t (C := C)
  have hA : F_X6_read C = gj_bnd (F_X6_scan (g_A0 C)) (fun M7 => gj_it (fun _ _ => none) B_X6_read_37 gj_fu 0 M7) := by
    unfold F_X6_read g_A0
    rw [gj_let_s, gj_let_s, gj_let_s, gj_let_s, gj_let_s]
  have b32 := fun (j : Int) (a : 0 ≤ j) (b : j < 32) => g_A0_32 (C := C) a b
  have b16 := fun (j : Int) (a : 0 ≤ j) (b : j < 16) => g_A0_16 (C := C) a b
  rw [hA]
  generalize g_A0 C = A at *
  have ctA : g_CT A := by unfold g_CT; rw [t1, t2]; exact ct
  have n0 := ct.1
  have n1 := ct.2.1
  rw [p_X6_scan ctA (by rw [a8]; exact Int.le_refl _) (by rw [a8, t1]; exact n0), gj_bnd_s]
  have u2 : gj_up N 79 4 0 79 2 = R 79 2 := by rw [gj_up_i (by decide), i2]
  have u4 : gj_up N 79 4 0 79 4 = 0 := gj_up_eq
  have uz : ∀ z, z ≠ 79 → gj_up N 79 4 0 z = N z := fun z hz => funext fun _ => gj_up_z hz
  have u5 : gj_up N 79 4 0 79 5 = -1 := by rw [gj_up_i (by decide), i5]
  generalize gj_up N 79 4 0 = W at *
  have rtW : g_RT W := by unfold g_RT; rw [u2, ← tx]; exact ⟨n0, n1⟩
  rw [p_X12_next rtW (by rw [u4]; exact Int.le_refl _) (by rw [u4, u2, ← tx]; exact n0), gj_bnd_s]
  rw [a8, u4, t1, t2, u2, uz 81 (by decide), i81]
  have es : g_sp (C 2) (C 1 1) 0 = g_sp (R 81) (R 79 2) 0 := by rw [g_sp_eq tt (Int.le_refl _), tx]
  have s0 : 0 ≤ g_sp (C 2) (C 1 1) 0 := g_run_ge
  have s1 : g_sp (C 2) (C 1 1) 0 ≤ C 1 1 := g_run_le n0
  rw [← es]
  generalize g_sp (C 2) (C 1 1) 0 = s at *
  have tk : g_TK 0 (g_scd A s (g_kd (C 2) (C 1 1) s) (g_en (C 2) (C 1 1) s)) (g_nxd W s (g_en (R 81) (R 79 2) s)) := by
    have sc := g_sC_scd (M := A) (s := s) (k := g_kd (C 2) (C 1 1) s) (e := g_en (C 2) (C 1 1) s)
    have e1 := (sc.1 1 (by decide)).trans t1
    have e2 := (sc.1 2 (by decide)).trans t2
    have e3 : g_nxd W s (g_en (R 81) (R 79 2) s) 81 = R 81 := by rw [g_nxd_z (by decide), uz 81 (by decide), i81]
    have e4 : g_nxd W s (g_en (R 81) (R 79 2) s) 79 2 = R 79 2 := by rw [g_nxd_i (by decide), u2]
    refine ⟨by rw [e1, e4]; exact tx, by unfold g_CT; rw [e1, e2]; exact ct, by rw [e1, e2, e3]; exact tt, ?_, ?_, by rw [g_scd_7, g_nxd_3], by rw [g_nxd_i (by decide), u5], by rw [g_scd_7]; exact s0⟩
    · unfold g_cur
      rw [g_scd_7, g_scd_6, g_scd_8, e1, e2]
      exact ⟨s0, s1, rfl, rfl⟩
    · unfold g_rcur
      rw [g_nxd_3, g_nxd_4, e3, e4]
      exact ⟨s0, by rw [← tx]; exact s1, rfl⟩
  have dd : g_DD A W := by
    unfold g_DD
    rw [uz 102 (by decide), uz 84 (by decide), uz 87 (by decide), uz 90 (by decide), uz 93 (by decide), uz 96 (by decide), uz 99 (by decide), uz 103 (by decide), uz 104 (by decide), uz 105 (by decide), uz 106 (by decide)]
    have np : ∀ i, 0 ≤ i → ¬ g_pe A 3 i := fun i _ => by unfold g_pe; omega
    refine ⟨by omega, by omega, by omega, by omega, fun i a _ p => absurd p (np i a), fun i a _ p => absurd p (np i a), fun i a b => ?_, fun i a b => ?_, fun i a b => ?_, fun i a b => ?_, fun i a b => ?_, fun i a b => ?_, fun k a b => ?_, ?_⟩
    · rw [(b32 i a b).1, (i32 i a b).1]
    · rw [(b32 i a b).2.1, (i32 i a b).2.1]; decide
    · rw [(b32 i a b).2.2.1, (i32 i a b).2.2.1]; decide
    · rw [(b32 i a b).2.2.2, (i32 i a b).2.2.2]; decide
    · rw [(b16 i a b).1, (i16 i a b).1]
    · rw [(b16 i a b).2, (i16 i a b).2]; decide
    · rw [a3 k a b, ih k a b]; exact ⟨rfl, g_hb0 a b⟩
    · rw [a5]
      refine ⟨by decide, by decide, fun k hk => ?_⟩
      rw [g_and0 k hk, i9 _ (by omega) (by omega)]
  have dd := g_DD_s dd (g_sC_scd (s := s) (k := g_kd (C 2) (C 1 1) s) (e := g_en (C 2) (C 1 1) s)) (g_sR_nxd (s := s) (e := g_en (R 81) (R 79 2) s))
  refine p_loop (c := c + 1) 500 gj_fu gj_fu tk dd ?_ (by show _ < 2048; omega) (by show _ < 2048; omega) (by omega)
  have e1 := ((g_sC_scd (M := A) (s := s) (k := g_kd (C 2) (C 1 1) s) (e := g_en (C 2) (C 1 1) s)).1 1 (by decide)).trans t1
  rw [e1, g_scd_7]
  omega
