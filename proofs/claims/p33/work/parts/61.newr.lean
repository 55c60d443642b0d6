/-! PURE: a new village in the reference -/
theorem p_v99 {M : gj_M} {c : Int} : ∃ N, gj_it (fun _ _ _ => none) B_X12_village_99 gj_fu 0 c M = J_X12_village_139 c N ∧ (∀ j, 0 ≤ j → j < 8 → N 108 j = (-1) ∧ N 109 j = 0 ∧ N 110 j = 0 ∧ N 111 j = 0) ∧ (∀ z, z ≠ 108 ∧ z ≠ 109 ∧ z ≠ 110 ∧ z ≠ 111 → N z = M z) := by
  skip
  refine gj_lpM2 (fun y => ∃ N, y = J_X12_village_139 c N ∧ (∀ j, 0 ≤ j → j < 8 → N 108 j = (-1) ∧ N 109 j = 0 ∧ N 110 j = 0 ∧ N 111 j = 0) ∧ (∀ z, z ≠ 108 ∧ z ≠ 109 ∧ z ≠ 110 ∧ z ≠ 111 → N z = M z)) (fun k d N => d = c ∧ 0 ≤ k ∧ k ≤ 8 ∧ (∀ j, 0 ≤ j → j < k → N 108 j = (-1) ∧ N 109 j = 0 ∧ N 110 j = 0 ∧ N 111 j = 0) ∧ (∀ z, z ≠ 108 ∧ z ≠ 109 ∧ z ≠ 110 ∧ z ≠ 111 → N z = M z)) (fun k _ => (8 - k).toNat) ?_ gj_fu 0 c M ⟨rfl, by omega, by omega, fun j a b => by omega, fun z _ => rfl⟩ (by show _ < 2048; omega)
  rintro rec k d N ⟨hd, k0, k1, h1, h2⟩
  rw [hd]
  unfold B_X12_village_99
  by_cases hk : 8 ≤ k
  · rw [if_pos hk]
    exact Or.inr ⟨N, rfl, fun j a b => h1 j a (by omega), h2⟩
  · dsimp only [gj_let]
    rw [if_neg hk, gj_chkp (by omega), gj_chkp (by omega), gj_chkp (by omega), gj_chkp (by omega), gj_wle (by omega) (by omega)]
    refine Or.inl ⟨k + 1, c, _, rfl, ⟨rfl, by omega, by omega, fun j a b => ?_, fun z hz => ?_⟩, by omega⟩
    · by_cases e : j = k
      · simp [gj_up, e]
      · have := h1 j a (by omega)
        simpa [gj_up, e] using this
    · funext i
      simp [gj_up, hz]
      exact congrFun (h2 z hz) i
theorem p_v141 {M : gj_M} {c : Int} : ∃ N, J_X12_village_139 c M = J_X12_village_174 c N ∧ (∀ j, 0 ≤ j → j < 16 → N 112 j = 0 ∧ N 113 j = 0 ∧ N 114 j = 0) ∧ (∀ z, z ≠ 112 ∧ z ≠ 113 ∧ z ≠ 114 → N z = M z) := by
  unfold J_X12_village_139
  refine gj_lpM2 (fun y => ∃ N, y = J_X12_village_174 c N ∧ (∀ j, 0 ≤ j → j < 16 → N 112 j = 0 ∧ N 113 j = 0 ∧ N 114 j = 0) ∧ (∀ z, z ≠ 112 ∧ z ≠ 113 ∧ z ≠ 114 → N z = M z)) (fun k d N => d = c ∧ 0 ≤ k ∧ k ≤ 16 ∧ (∀ j, 0 ≤ j → j < k → N 112 j = 0 ∧ N 113 j = 0 ∧ N 114 j = 0) ∧ (∀ z, z ≠ 112 ∧ z ≠ 113 ∧ z ≠ 114 → N z = M z)) (fun k _ => (16 - k).toNat) ?_ gj_fu 0 c M ⟨rfl, by omega, by omega, fun j a b => by omega, fun z _ => rfl⟩ (by show _ < 2048; omega)
  rintro rec k d N ⟨hd, k0, k1, h1, h2⟩
  rw [hd]
  unfold B_X12_village_141
  by_cases hk : 16 ≤ k
  · rw [if_pos hk]
    exact Or.inr ⟨N, rfl, fun j a b => h1 j a (by omega), h2⟩
  · dsimp only [gj_let]
    rw [if_neg hk, gj_chkp (by omega), gj_chkp (by omega), gj_chkp (by omega), gj_wle (by omega) (by omega)]
    refine Or.inl ⟨k + 1, c, _, rfl, ⟨rfl, by omega, by omega, fun j a b => ?_, fun z hz => ?_⟩, by omega⟩
    · by_cases e : j = k
      · simp [gj_up, e]
      · have := h1 j a (by omega)
        simpa [gj_up, e] using this
    · funext i
      simp [gj_up, hz]
      exact congrFun (h2 z hz) i
theorem p_v176 {M : gj_M} {c : Int} : ∃ N, J_X12_village_174 c M = J_X12_village_194 c N ∧ (∀ j, 0 ≤ j → j < 3 → N 135 j = 0) ∧ (∀ z, z ≠ 135 → N z = M z) := by
  unfold J_X12_village_174
  refine gj_lpM2 (fun y => ∃ N, y = J_X12_village_194 c N ∧ (∀ j, 0 ≤ j → j < 3 → N 135 j = 0) ∧ (∀ z, z ≠ 135 → N z = M z)) (fun k d N => d = c ∧ 0 ≤ k ∧ k ≤ 3 ∧ (∀ j, 0 ≤ j → j < k → N 135 j = 0) ∧ (∀ z, z ≠ 135 → N z = M z)) (fun k _ => (3 - k).toNat) ?_ gj_fu 0 c M ⟨rfl, by omega, by omega, fun j a b => by omega, fun z _ => rfl⟩ (by show _ < 2048; omega)
  rintro rec k d N ⟨hd, k0, k1, h1, h2⟩
  rw [hd]
  unfold B_X12_village_176
  by_cases hk : 3 ≤ k
  · rw [if_pos hk]
    exact Or.inr ⟨N, rfl, fun j a b => h1 j a (by omega), h2⟩
  · dsimp only [gj_let]
    rw [if_neg hk, gj_chkp (by omega), gj_wle (by omega) (by omega)]
    refine Or.inl ⟨k + 1, c, _, rfl, ⟨rfl, by omega, by omega, fun j a b => ?_, fun z hz => ?_⟩, by omega⟩
    · by_cases e : j = k
      · simp [gj_up, e]
      · have := h1 j a (by omega)
        simpa [gj_up, e] using this
    · funext i
      simp [gj_up, hz]
      exact congrFun (h2 z hz) i
/-- the reference behind the copies -/
def g_W1 (U : gj_M) : gj_M := gj_up (gj_up (gj_up (gj_up (gj_up (gj_up (g_W0 U) 79 2 0) 79 18 1) 79 27 0) 79 28 0) 79 30 0) 79 29 0
theorem p_village_R {R U : gj_M} {c d : Int} (h : F_X12_reads c R = some (d, U)) (h5 : U 79 5 = -1) : ∃ V, F_X12_village c R = some (gj_w (V 101 0 + V 101 1), (d, V))
    ∧ (∀ j, 0 ≤ j → j < 8 → V 108 j = (-1) ∧ V 109 j = 0 ∧ V 110 j = 0 ∧ V 111 j = 0) ∧ (∀ j, 0 ≤ j → j < 16 → V 112 j = 0 ∧ V 113 j = 0 ∧ V 114 j = 0) ∧ (∀ j, 0 ≤ j → j < 3 → V 135 j = 0)
    ∧ ∀ z, ¬ (108 ≤ z ∧ z ≤ 114) → z ≠ 135 → V z = g_W1 U z := by
  obtain ⟨A, a1, a2, a3⟩ := p_v99 (M := g_W1 U) (c := d)
  obtain ⟨B, b1, b2, b3⟩ := p_v141 (M := A) (c := d)
  obtain ⟨C, c1, c2, c3⟩ := p_v176 (M := B) (c := d)
  refine ⟨C, ?_, fun j a b => ?_, fun j a b => ?_, c2, fun z h1 h2 => by rw [c3 z h2, b3 z (by omega), a3 z (by omega)]⟩
  · unfold F_X12_village
    rw [h, gj_bnd2_s, if_pos h5, p_copies_82, gj_bnd_s, p_copies_85, gj_bnd_s, p_copies_88, gj_bnd_s, p_copies_91, gj_bnd_s, p_copies_94, gj_bnd_s, p_copies_97, gj_bnd_s, p_copies_100, gj_bnd_s, gj_let_s, gj_let_s, gj_let_s, gj_let_s, gj_let_s, gj_let_s]
    refine Eq.trans a1 ?_
    rw [b1, c1]
    rfl
  · rw [c3 108 (by decide), c3 109 (by decide), c3 110 (by decide), c3 111 (by decide), b3 108 (by decide), b3 109 (by decide), b3 110 (by decide), b3 111 (by decide)]
    exact a2 j a b
  · rw [c3 112 (by decide), c3 113 (by decide), c3 114 (by decide)]
    exact b2 j a b
