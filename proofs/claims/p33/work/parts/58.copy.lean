/-! PURE: the copies of the reference -/
theorem g_copy0 {M : gj_M} {z w : Int} : f_copy M z 0 w 0 = M := by
  funext a b
  exact if_neg (fun q => by omega)
theorem g_copy_s {M : gj_M} {z w k : Int} (hk : 0 ≤ k) (hz : z ≠ w) : gj_up (f_copy M z k w k) w k (f_copy M z k w k z k) = f_copy M z (k + 1) w (k + 1) := by
  funext a b
  rw [f_copy_z hz]
  unfold gj_up f_copy
  by_cases ha : a = w
  · by_cases hb : b = k
    · rw [if_pos ⟨ha, hb⟩, if_pos ⟨ha, by omega, by omega, by omega⟩, hb]
    · rw [if_neg (fun q => hb q.2)]
      by_cases h : 0 ≤ b ∧ b < k ∧ b < k
      · rw [if_pos ⟨ha, h⟩, if_pos ⟨ha, by omega, by omega, by omega⟩]
      · rw [if_neg (fun q => h q.2), if_neg (fun q => h ⟨q.2.1, by omega, by omega⟩)]
  · rw [if_neg (fun q => ha q.1), if_neg (fun q => ha q.1), if_neg (fun q => ha q.1)]
theorem p_copies_82 {M : gj_M} : F_X12_copies_82 M = some (f_copy M 84 8 83 8) := by
  unfold F_X12_copies_82
  refine gj_lpM1 (fun y => y = some (f_copy M 84 8 83 8)) (fun k N => 0 ≤ k ∧ k ≤ 8 ∧ N = f_copy M 84 k 83 k) (fun k => (8 - k).toNat) ?_ gj_fu 0 M ⟨by omega, by omega, g_copy0.symm⟩ (by show _ < 2048; omega)
  rintro rec k N ⟨k0, k1, hN⟩
  unfold B_X12_copies_82_2
  by_cases hk : 8 ≤ k
  · rw [if_pos hk, hN, show k = 8 by omega]
    exact Or.inr rfl
  · dsimp only [gj_let]
    rw [if_neg hk, gj_chkp (by omega), gj_chkp (by omega), gj_wle (by omega) (by omega)]
    refine Or.inl ⟨k + 1, _, rfl, ⟨by omega, by omega, ?_⟩, by omega⟩
    rw [hN]
    exact g_copy_s k0 (by decide)
theorem p_copies_85 {M : gj_M} : F_X12_copies_85 M = some (f_copy M 87 32 86 32) := by
  unfold F_X12_copies_85
  refine gj_lpM1 (fun y => y = some (f_copy M 87 32 86 32)) (fun k N => 0 ≤ k ∧ k ≤ 32 ∧ N = f_copy M 87 k 86 k) (fun k => (32 - k).toNat) ?_ gj_fu 0 M ⟨by omega, by omega, g_copy0.symm⟩ (by show _ < 2048; omega)
  rintro rec k N ⟨k0, k1, hN⟩
  unfold B_X12_copies_85_2
  by_cases hk : 32 ≤ k
  · rw [if_pos hk, hN, show k = 32 by omega]
    exact Or.inr rfl
  · dsimp only [gj_let]
    rw [if_neg hk, gj_chkp (by omega), gj_chkp (by omega), gj_wle (by omega) (by omega)]
    refine Or.inl ⟨k + 1, _, rfl, ⟨by omega, by omega, ?_⟩, by omega⟩
    rw [hN]
    exact g_copy_s k0 (by decide)
theorem p_copies_88 {M : gj_M} : F_X12_copies_88 M = some (f_copy M 90 32 89 32) := by
  unfold F_X12_copies_88
  refine gj_lpM1 (fun y => y = some (f_copy M 90 32 89 32)) (fun k N => 0 ≤ k ∧ k ≤ 32 ∧ N = f_copy M 90 k 89 k) (fun k => (32 - k).toNat) ?_ gj_fu 0 M ⟨by omega, by omega, g_copy0.symm⟩ (by show _ < 2048; omega)
  rintro rec k N ⟨k0, k1, hN⟩
  unfold B_X12_copies_88_2
  by_cases hk : 32 ≤ k
  · rw [if_pos hk, hN, show k = 32 by omega]
    exact Or.inr rfl
  · dsimp only [gj_let]
    rw [if_neg hk, gj_chkp (by omega), gj_chkp (by omega), gj_wle (by omega) (by omega)]
    refine Or.inl ⟨k + 1, _, rfl, ⟨by omega, by omega, ?_⟩, by omega⟩
    rw [hN]
    exact g_copy_s k0 (by decide)
theorem p_copies_91 {M : gj_M} : F_X12_copies_91 M = some (f_copy M 93 32 92 32) := by
  unfold F_X12_copies_91
  refine gj_lpM1 (fun y => y = some (f_copy M 93 32 92 32)) (fun k N => 0 ≤ k ∧ k ≤ 32 ∧ N = f_copy M 93 k 92 k) (fun k => (32 - k).toNat) ?_ gj_fu 0 M ⟨by omega, by omega, g_copy0.symm⟩ (by show _ < 2048; omega)
  rintro rec k N ⟨k0, k1, hN⟩
  unfold B_X12_copies_91_2
  by_cases hk : 32 ≤ k
  · rw [if_pos hk, hN, show k = 32 by omega]
    exact Or.inr rfl
  · dsimp only [gj_let]
    rw [if_neg hk, gj_chkp (by omega), gj_chkp (by omega), gj_wle (by omega) (by omega)]
    refine Or.inl ⟨k + 1, _, rfl, ⟨by omega, by omega, ?_⟩, by omega⟩
    rw [hN]
    exact g_copy_s k0 (by decide)
theorem p_copies_94 {M : gj_M} : F_X12_copies_94 M = some (f_copy M 96 16 95 16) := by
  unfold F_X12_copies_94
  refine gj_lpM1 (fun y => y = some (f_copy M 96 16 95 16)) (fun k N => 0 ≤ k ∧ k ≤ 16 ∧ N = f_copy M 96 k 95 k) (fun k => (16 - k).toNat) ?_ gj_fu 0 M ⟨by omega, by omega, g_copy0.symm⟩ (by show _ < 2048; omega)
  rintro rec k N ⟨k0, k1, hN⟩
  unfold B_X12_copies_94_2
  by_cases hk : 16 ≤ k
  · rw [if_pos hk, hN, show k = 16 by omega]
    exact Or.inr rfl
  · dsimp only [gj_let]
    rw [if_neg hk, gj_chkp (by omega), gj_chkp (by omega), gj_wle (by omega) (by omega)]
    refine Or.inl ⟨k + 1, _, rfl, ⟨by omega, by omega, ?_⟩, by omega⟩
    rw [hN]
    exact g_copy_s k0 (by decide)
theorem p_copies_97 {M : gj_M} : F_X12_copies_97 M = some (f_copy M 99 8 98 8) := by
  unfold F_X12_copies_97
  refine gj_lpM1 (fun y => y = some (f_copy M 99 8 98 8)) (fun k N => 0 ≤ k ∧ k ≤ 8 ∧ N = f_copy M 99 k 98 k) (fun k => (8 - k).toNat) ?_ gj_fu 0 M ⟨by omega, by omega, g_copy0.symm⟩ (by show _ < 2048; omega)
  rintro rec k N ⟨k0, k1, hN⟩
  unfold B_X12_copies_97_2
  by_cases hk : 8 ≤ k
  · rw [if_pos hk, hN, show k = 8 by omega]
    exact Or.inr rfl
  · dsimp only [gj_let]
    rw [if_neg hk, gj_chkp (by omega), gj_chkp (by omega), gj_wle (by omega) (by omega)]
    refine Or.inl ⟨k + 1, _, rfl, ⟨by omega, by omega, ?_⟩, by omega⟩
    rw [hN]
    exact g_copy_s k0 (by decide)
theorem p_copies_100 {M : gj_M} : F_X12_copies_100 M = some (f_copy M 102 2 101 2) := by
  unfold F_X12_copies_100
  refine gj_lpM1 (fun y => y = some (f_copy M 102 2 101 2)) (fun k N => 0 ≤ k ∧ k ≤ 2 ∧ N = f_copy M 102 k 101 k) (fun k => (2 - k).toNat) ?_ gj_fu 0 M ⟨by omega, by omega, g_copy0.symm⟩ (by show _ < 2048; omega)
  rintro rec k N ⟨k0, k1, hN⟩
  unfold B_X12_copies_100_2
  by_cases hk : 2 ≤ k
  · rw [if_pos hk, hN, show k = 2 by omega]
    exact Or.inr rfl
  · dsimp only [gj_let]
    rw [if_neg hk, gj_chkp (by omega), gj_chkp (by omega), gj_wle (by omega) (by omega)]
    refine Or.inl ⟨k + 1, _, rfl, ⟨by omega, by omega, ?_⟩, by omega⟩
    rw [hN]
    exact g_copy_s k0 (by decide)
