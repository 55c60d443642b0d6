/-! PURE: what a reading starts from, on both sides -/
theorem gj_let_s {T : Type} {A : gj_M} {f : gj_M → T} : gj_let A f = f A := id rfl
theorem p_init25 {M : gj_M} {c : Int} : ∃ N, gj_it (fun _ _ _ => none) B_X12_reads_25 gj_fu 0 c M = J_X12_reads_73 c N ∧ (∀ j, 0 ≤ j → j < 32 → N 104 j = 0 ∧ N 87 j = 8 ∧ N 90 j = 12 ∧ N 93 j = 4) ∧ (∀ z, z ≠ 104 ∧ z ≠ 87 ∧ z ≠ 90 ∧ z ≠ 93 → N z = M z) := by
  refine gj_lpM2 (fun y => ∃ N, y = J_X12_reads_73 c N ∧ (∀ j, 0 ≤ j → j < 32 → N 104 j = 0 ∧ N 87 j = 8 ∧ N 90 j = 12 ∧ N 93 j = 4) ∧ (∀ z, z ≠ 104 ∧ z ≠ 87 ∧ z ≠ 90 ∧ z ≠ 93 → N z = M z)) (fun k d N => d = c ∧ 0 ≤ k ∧ k ≤ 32 ∧ (∀ j, 0 ≤ j → j < k → N 104 j = 0 ∧ N 87 j = 8 ∧ N 90 j = 12 ∧ N 93 j = 4) ∧ (∀ z, z ≠ 104 ∧ z ≠ 87 ∧ z ≠ 90 ∧ z ≠ 93 → N z = M z)) (fun k _ => (32 - k).toNat) ?_ gj_fu 0 c M ⟨rfl, by omega, by omega, fun j a b => by omega, fun z _ => rfl⟩ (by show _ < 2048; omega)
  rintro rec k d N ⟨hd, k0, k1, h1, h2⟩
  rw [hd]
  unfold B_X12_reads_25
  by_cases hk : 32 ≤ k
  · rw [if_pos hk]
    exact Or.inr ⟨N, rfl, fun j a b => h1 j a (by omega), h2⟩
  · dsimp only [gj_let]
    rw [if_neg hk, gj_chkp (by omega), gj_chkp (by omega), gj_chkp (by omega), gj_chkp (by omega), gj_wle (by omega) (by omega)]
    refine Or.inl ⟨k + 1, c, _, rfl, ⟨rfl, by omega, by omega, fun j a b => ?_, fun z hz => ?_⟩, by omega⟩
    · by_cases e : j = k
      · simp [gj_up, e]
      · have := h1 j a (by omega)
        simpa [gj_up, e] using this
    · funext i
      simp [gj_up, hz]
      exact congrFun (h2 z hz) i
theorem p_init75 {M : gj_M} {c : Int} : ∃ N, gj_it (fun _ _ _ => none) B_X12_reads_75 gj_fu 0 c M = J_X12_reads_104 c N ∧ (∀ j, 0 ≤ j → j < 16 → N 105 j = 0 ∧ N 96 j = 8) ∧ (∀ z, z ≠ 105 ∧ z ≠ 96 → N z = M z) := by
  refine gj_lpM2 (fun y => ∃ N, y = J_X12_reads_104 c N ∧ (∀ j, 0 ≤ j → j < 16 → N 105 j = 0 ∧ N 96 j = 8) ∧ (∀ z, z ≠ 105 ∧ z ≠ 96 → N z = M z)) (fun k d N => d = c ∧ 0 ≤ k ∧ k ≤ 16 ∧ (∀ j, 0 ≤ j → j < k → N 105 j = 0 ∧ N 96 j = 8) ∧ (∀ z, z ≠ 105 ∧ z ≠ 96 → N z = M z)) (fun k _ => (16 - k).toNat) ?_ gj_fu 0 c M ⟨rfl, by omega, by omega, fun j a b => by omega, fun z _ => rfl⟩ (by show _ < 2048; omega)
  rintro rec k d N ⟨hd, k0, k1, h1, h2⟩
  rw [hd]
  unfold B_X12_reads_75
  by_cases hk : 16 ≤ k
  · rw [if_pos hk]
    exact Or.inr ⟨N, rfl, fun j a b => h1 j a (by omega), h2⟩
  · dsimp only [gj_let]
    rw [if_neg hk, gj_chkp (by omega), gj_chkp (by omega), gj_wle (by omega) (by omega)]
    refine Or.inl ⟨k + 1, c, _, rfl, ⟨rfl, by omega, by omega, fun j a b => ?_, fun z hz => ?_⟩, by omega⟩
    · by_cases e : j = k
      · simp [gj_up, e]
      · have := h1 j a (by omega)
        simpa [gj_up, e] using this
    · funext i
      simp [gj_up, hz]
      exact congrFun (h2 z hz) i
theorem p_init106 {M : gj_M} {c : Int} : ∃ N, J_X12_reads_104 c M = J_X12_reads_125 c N ∧ (∀ j, 0 ≤ j → j < 9 → N 106 j = 0) ∧ (∀ z, z ≠ 106 → N z = M z) := by
  unfold J_X12_reads_104
  refine gj_lpM2 (fun y => ∃ N, y = J_X12_reads_125 c N ∧ (∀ j, 0 ≤ j → j < 9 → N 106 j = 0) ∧ (∀ z, z ≠ 106 → N z = M z)) (fun k d N => d = c ∧ 0 ≤ k ∧ k ≤ 9 ∧ (∀ j, 0 ≤ j → j < k → N 106 j = 0) ∧ (∀ z, z ≠ 106 → N z = M z)) (fun k _ => (9 - k).toNat) ?_ gj_fu 0 c M ⟨rfl, by omega, by omega, fun j a b => by omega, fun z _ => rfl⟩ (by show _ < 2048; omega)
  rintro rec k d N ⟨hd, k0, k1, h1, h2⟩
  rw [hd]
  unfold B_X12_reads_106
  by_cases hk : 9 ≤ k
  · rw [if_pos hk]
    exact Or.inr ⟨N, rfl, fun j a b => h1 j a (by omega), h2⟩
  · dsimp only [gj_let]
    rw [if_neg hk, gj_chkp (by omega), gj_wle (by omega) (by omega)]
    refine Or.inl ⟨k + 1, c, _, rfl, ⟨rfl, by omega, by omega, fun j a b => ?_, fun z hz => ?_⟩, by omega⟩
    · by_cases e : j = k
      · simp [gj_up, e]
      · have := h1 j a (by omega)
        simpa [gj_up, e] using this
    · funext i
      simp [gj_up, hz]
      exact congrFun (h2 z hz) i
/-- the heads that a reading starts from -/
def g_h0 (k : Int) : Int := if k = 0 then 10 else if k = 2 then 1 else if k = 7 then 3 else 0
theorem p_init167 {M : gj_M} {c : Int} (hc : 136 ≤ c) : ∃ N, J_X12_reads_125 c M = J_X12_reads_190 (c + 1) N ∧ (∀ k, 0 ≤ k → k < 8 → N 99 k = g_h0 k) ∧ (∀ z, z ≠ 99 ∧ z ≠ c → N z = M z) := by
  unfold J_X12_reads_125
  rw [gj_let_s, gj_let_s, gj_let_s, gj_let_s, gj_let_s, gj_let_s, gj_let_s, gj_let_s, gj_let_s]
  have hv : ∀ k, 0 ≤ k → k < 8 → gj_up (gj_up (gj_up (gj_up (gj_up (gj_up (gj_up (gj_up (gj_nMc c M) c 0 10) c 1 0) c 2 1) c 3 0) c 4 0) c 5 0) c 6 0) c 7 3 c k = g_h0 k := by
    intro k a b
    unfold gj_up g_h0
    simp only [true_and]
    (repeat' split) <;> omega
  have hz : ∀ z, z ≠ 99 ∧ z ≠ c → gj_up (gj_up (gj_up (gj_up (gj_up (gj_up (gj_up (gj_up (gj_nMc c M) c 0 10) c 1 0) c 2 1) c 3 0) c 4 0) c 5 0) c 6 0) c 7 3 z = M z := by
    intro z hz
    funext i
    simp [gj_up, gj_nMc, hz.2]
  generalize gj_up (gj_up (gj_up (gj_up (gj_up (gj_up (gj_up (gj_up (gj_nMc c M) c 0 10) c 1 0) c 2 1) c 3 0) c 4 0) c 5 0) c 6 0) c 7 3 = A at *
  refine gj_lpM3 (fun y => ∃ N, y = J_X12_reads_190 (c + 1) N ∧ (∀ k, 0 ≤ k → k < 8 → N 99 k = g_h0 k) ∧ (∀ z, z ≠ 99 ∧ z ≠ c → N z = M z)) (fun k d e N => d = c ∧ e = c + 1 ∧ 0 ≤ k ∧ k ≤ 8 ∧ (∀ j, 0 ≤ j → j < k → N 99 j = g_h0 j) ∧ (∀ z, z ≠ 99 → N z = A z)) (fun k _ _ => (8 - k).toNat) ?_ gj_fu 0 c (c + 1) A ⟨rfl, rfl, by omega, by omega, fun j a b => by omega, fun z _ => rfl⟩ (by show _ < 2048; omega)
  rintro rec k d e N ⟨hd, he, k0, k1, h1, h2⟩
  rw [hd, he]
  unfold B_X12_reads_167
  by_cases hk : 8 ≤ k
  · rw [if_pos hk]
    exact Or.inr ⟨N, rfl, fun j a b => h1 j a (by omega), fun z q => by rw [h2 z q.1, hz z q]⟩
  · dsimp only [gj_let]
    rw [if_neg hk, gj_chkp (by omega), gj_chkp (by omega), gj_wle (by omega) (by omega)]
    refine Or.inl ⟨k + 1, c, c + 1, _, rfl, ⟨rfl, rfl, by omega, by omega, fun j a b => ?_, fun z hz => ?_⟩, by omega⟩
    · rw [gj_up_if]
      by_cases e : j = k
      · rw [if_pos e, h2 c (by omega), hv k k0 (by omega), e]
      · rw [if_neg e]
        exact h1 j a (by omega)
    · funext i
      rw [gj_up_z hz]
      exact congrFun (h2 z hz) i
/-- what the reference starts from -/
theorem p_reads0 {M : gj_M} {c : Int} (hc : 136 ≤ c) : ∃ N, F_X12_reads c M = J_X12_reads_190 (c + 1) N ∧ (∀ j, 0 ≤ j → j < 32 → N 104 j = 0 ∧ N 87 j = 8 ∧ N 90 j = 12 ∧ N 93 j = 4) ∧ (∀ j, 0 ≤ j → j < 16 → N 105 j = 0 ∧ N 96 j = 8) ∧ (∀ j, 0 ≤ j → j < 9 → N 106 j = 0) ∧ (∀ k, 0 ≤ k → k < 8 → N 99 k = g_h0 k) ∧ N 102 0 = 0 ∧ N 102 1 = 0 ∧ N 79 5 = -1 ∧ N 79 2 = M 79 2 ∧ N 81 = M 81 := by
  unfold F_X12_reads
  rw [gj_let_s, gj_let_s, gj_let_s]
  obtain ⟨A, a1, a2, a3⟩ := p_init25 (M := gj_up (gj_up (gj_up M 79 5 (-1)) 102 0 0) 102 1 0) (c := c)
  obtain ⟨B, b1, b2, b3⟩ := p_init75 (M := A) (c := c)
  obtain ⟨C, c1, c2, c3⟩ := p_init106 (M := B) (c := c)
  obtain ⟨D, d1, d2, d3⟩ := p_init167 (M := C) (c := c) hc
  refine ⟨D, ?_, ?_, ?_, ?_, d2, ?_, ?_, ?_, ?_, ?_⟩
  · rw [a1]
    unfold J_X12_reads_73
    rw [b1, c1, d1]
  · rw [d3 104 (by omega), d3 87 (by omega), d3 90 (by omega), d3 93 (by omega), c3 104 (by decide), c3 87 (by decide), c3 90 (by decide), c3 93 (by decide), b3 104 (by decide), b3 87 (by decide), b3 90 (by decide), b3 93 (by decide)]
    exact a2
  · rw [d3 105 (by omega), d3 96 (by omega), c3 105 (by decide), c3 96 (by decide)]
    exact b2
  · rw [d3 106 (by omega)]
    exact c2
  · rw [d3 102 (by omega), c3 102 (by decide), b3 102 (by decide), a3 102 (by decide)]
    simp [gj_up]
  · rw [d3 102 (by omega), c3 102 (by decide), b3 102 (by decide), a3 102 (by decide)]
    simp [gj_up]
  · rw [d3 79 (by omega), c3 79 (by decide), b3 79 (by decide), a3 79 (by decide)]
    simp [gj_up]
  · rw [d3 79 (by omega), c3 79 (by decide), b3 79 (by decide), a3 79 (by decide)]
    simp [gj_up]
  · rw [d3 81 (by omega), c3 81 (by decide), b3 81 (by decide), a3 81 (by decide)]
    funext i
    simp [gj_up]
