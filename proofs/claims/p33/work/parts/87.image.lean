/-! PURE: image and on, asked of the reference, exactly -/
theorem g_in1 {x l h : Int} {M : gj_M} (a : l ≤ x) (b : x ≤ h) : f_X12_in x l h M = 1 := by
  unfold f_X12_in
  rw [if_neg (by omega), if_neg (by omega)]
theorem g_in0 {x l h : Int} {M : gj_M} (a : ¬ (l ≤ x ∧ x ≤ h)) : f_X12_in x l h M = 0 := by
  unfold f_X12_in
  by_cases c : x < l
  · rw [if_pos c]
  · rw [if_neg c, if_pos (by omega)]
theorem r_imageNo {R : gj_M} {k : Int} (h : ¬ (0 ≤ k ∧ k ≤ 2)) : F_X12_image k R = some (0, gj_up R 80 0 (gj_w (R 80 0 + 1))) := by
  unfold F_X12_image
  dsimp only [gj_letI]
  rw [g_in0 h, if_pos rfl, if_pos rfl, r_deny (by decide), gj_bnd2_s]
theorem r_imageNo2 {R : gj_M} {k : Int} (h : 0 ≤ k ∧ k ≤ 2) (v : R 79 18 = 0) : F_X12_image k R = some (0, gj_up R 80 2 (gj_w (R 80 2 + 1))) := by
  unfold F_X12_image
  dsimp only [gj_letI]
  rw [g_in1 h.1 h.2, if_neg (by decide), if_pos v, if_neg (by decide), r_deny (by decide), gj_bnd2_s]
def g_IK (z k : Int) (R N : gj_M) : Prop := g_IM z R N ∧ (N z 0 = R 79 27 ∧ N z 1 = R 79 28 ∧ N z 2 = R 79 29) ∧ (N 134 k = R 79 30 ∧ N 135 k = 1) ∧ (∀ a b, a ≠ z → ¬ (a = 79 ∧ b = 54) → ¬ (a = 134 ∧ b = k) → ¬ (a = 135 ∧ b = k) → N a b = R a b)
theorem r_image1 {R : gj_M} {z k : Int} (hz : 131 ≤ z ∧ z ≤ 133) : ∃ K, F_X12_moves z 284 1 (gj_up (gj_up (gj_up (gj_up R z 0 (R 79 27)) z 1 (R 79 28)) z 2 (R 79 29)) 134 k (R 79 30)) = some K ∧ g_IK z k R (gj_up K 135 k 1) := by
  obtain ⟨K, e, hi, h4, ho⟩ := r_movesK (M := gj_up (gj_up (gj_up (gj_up R z 0 (R 79 27)) z 1 (R 79 28)) z 2 (R 79 29)) 134 k (R 79 30)) hz
  have q : ∀ a b, a ≠ z → ¬ (a = 134 ∧ b = k) → gj_up (gj_up (gj_up (gj_up R z 0 (R 79 27)) z 1 (R 79 28)) z 2 (R 79 29)) 134 k (R 79 30) a b = R a b := by
    intro a b c d
    have e1 : ∀ (M : gj_M) (v : Int), gj_up M 134 k v a b = M a b := fun M v => if_neg d
    rw [e1, gj_up_z c, gj_up_z c, gj_up_z c]
  refine ⟨K, e, ⟨fun j a b => ?_, fun j a b => ?_, fun j a b => ?_⟩, ⟨?_, ?_, ?_⟩, ⟨?_, ?_⟩, fun a b h1 h2 h3 h5 => ?_⟩
  · obtain ⟨x1, x2, x3, x4⟩ := hi.1 j a b
    rw [gj_up_z (by omega), gj_up_z (by omega), gj_up_z (by omega), gj_up_z (by omega), x1, x2, x3, x4, q _ _ (by omega) (by omega), q _ _ (by omega) (by omega), q _ _ (by omega) (by omega), q _ _ (by omega) (by omega)]
    exact ⟨rfl, rfl, rfl, rfl⟩
  · obtain ⟨x1, x2, x3⟩ := hi.2.1 j a b
    rw [gj_up_z (by omega), gj_up_z (by omega), gj_up_z (by omega), x1, x2, x3, q _ _ (by omega) (by omega), q _ _ (by omega) (by omega), q _ _ (by omega) (by omega)]
    exact ⟨rfl, rfl, rfl⟩
  · rw [gj_up_z (by omega), hi.2.2 j a b, q _ _ (by omega) (by omega)]
  · rw [gj_up_z (by omega), h4 0 (by decide) (by decide), gj_up_z (by omega), gj_up_i (by decide), gj_up_i (by decide), gj_up_eq]
  · rw [gj_up_z (by omega), h4 1 (by decide) (by decide), gj_up_z (by omega), gj_up_i (by decide), gj_up_eq]
  · rw [gj_up_z (by omega), h4 2 (by decide) (by decide), gj_up_z (by omega), gj_up_eq]
  · rw [gj_up_z (by decide), ho 134 k (by omega) (by omega), gj_up_eq]
  · rw [gj_up_eq]
  · have e1 : gj_up K 135 k 1 a b = K a b := if_neg h5
    rw [e1, ho a b h1 h2, q a b h1 h3]
theorem r_imageYes {R : gj_M} {k : Int} (h : 0 ≤ k ∧ k ≤ 2) (v : R 79 18 ≠ 0) : ∃ N, F_X12_image k R = some (1, N) ∧ g_IK (131 + k) k R N := by
  unfold F_X12_image
  dsimp only [gj_letI]
  rw [g_in1 h.1 h.2, if_neg (by decide), if_neg v, gj_chkp (by omega)]
  have n : ∀ (M : gj_M) (z i w b : Int), z ≠ 79 → gj_up M z i w 79 b = M 79 b := fun M z i w b hz => gj_up_z (fun e => hz e.symm)
  by_cases k0 : k = 0
  · obtain ⟨K, e, g⟩ := r_image1 (R := R) (z := 131) (k := 0) (by decide)
    rw [if_pos k0, gj_let_s, gj_let_s, gj_let_s, gj_let_s, n _ _ _ _ _ (by decide), n _ _ _ _ _ (by decide), n _ _ _ _ _ (by decide), n _ _ _ _ _ (by decide), n _ _ _ _ _ (by decide), n _ _ _ _ _ (by decide), e, gj_bnd_s, gj_let_s, k0]
    exact ⟨_, rfl, g⟩
  · rw [if_neg k0]
    by_cases k1 : k = 1
    · obtain ⟨K, e, g⟩ := r_image1 (R := R) (z := 132) (k := 1) (by decide)
      rw [if_pos k1, gj_let_s, gj_let_s, gj_let_s, gj_let_s, n _ _ _ _ _ (by decide), n _ _ _ _ _ (by decide), n _ _ _ _ _ (by decide), n _ _ _ _ _ (by decide), n _ _ _ _ _ (by decide), n _ _ _ _ _ (by decide), e, gj_bnd_s, gj_let_s, k1]
      exact ⟨_, rfl, g⟩
    · have k2 : k = 2 := by omega
      obtain ⟨K, e, g⟩ := r_image1 (R := R) (z := 133) (k := 2) (by decide)
      rw [if_neg k1, gj_let_s, gj_let_s, gj_let_s, gj_let_s, n _ _ _ _ _ (by decide), n _ _ _ _ _ (by decide), n _ _ _ _ _ (by decide), n _ _ _ _ _ (by decide), n _ _ _ _ _ (by decide), n _ _ _ _ _ (by decide), e, gj_bnd_s, gj_let_s, k2]
      exact ⟨_, rfl, g⟩
theorem r_onNo {R : gj_M} {k : Int} (h : ¬ (0 ≤ k ∧ k ≤ 2) ∨ R 135 k = 0) : F_X12_on k R = some (0, gj_up R 80 0 (gj_w (R 80 0 + 1))) := by
  unfold F_X12_on
  dsimp only [gj_letI]
  by_cases c : 0 ≤ k ∧ k ≤ 2
  · have e : R 135 k = 0 := by
      rcases h with x | x
      · exact absurd c x
      · exact x
    rw [g_in1 c.1 c.2, if_neg (by decide), gj_chkp (by omega), if_pos e, r_deny (by decide), gj_bnd2_s]
  · rw [g_in0 c, if_pos rfl, r_deny (by decide), gj_bnd2_s]
def g_OK (z k : Int) (R N : gj_M) : Prop := g_IM z N R ∧ (N 79 27 = R z 0 ∧ N 79 28 = R z 1 ∧ N 79 29 = R z 2 ∧ N 79 30 = R 134 k) ∧ (∀ a b, ¬ ((108 ≤ a ∧ a ≤ 114) ∨ a = 122) → ¬ (a = 79 ∧ (b = 54 ∨ (27 ≤ b ∧ b ≤ 30))) → N a b = R a b)
theorem r_on1 {R : gj_M} {z k : Int} (hz : 131 ≤ z ∧ z ≤ 133) : ∃ K, F_X12_moves z 284 0 (gj_up (gj_up (gj_up (gj_up R 79 27 (R z 0)) 79 28 (R z 1)) 79 29 (R z 2)) 79 30 (R 134 k)) = some K ∧ g_OK z k R K := by
  obtain ⟨K, e, hi, ho⟩ := r_movesL (M := gj_up (gj_up (gj_up (gj_up R 79 27 (R z 0)) 79 28 (R z 1)) 79 29 (R z 2)) 79 30 (R 134 k)) hz
  have q : ∀ a b, a ≠ 79 → gj_up (gj_up (gj_up (gj_up R 79 27 (R z 0)) 79 28 (R z 1)) 79 29 (R z 2)) 79 30 (R 134 k) a b = R a b := fun a b c => by rw [gj_up_z c, gj_up_z c, gj_up_z c, gj_up_z c]
  refine ⟨K, e, ⟨fun j a b => ?_, fun j a b => ?_, fun j a b => ?_⟩, ⟨?_, ?_, ?_, ?_⟩, fun a b h1 h2 => ?_⟩
  · have := hi.1 j a b
    rw [q _ _ (by omega), q _ _ (by omega), q _ _ (by omega), q _ _ (by omega)] at this
    exact this
  · have := hi.2.1 j a b
    rw [q _ _ (by omega), q _ _ (by omega), q _ _ (by omega)] at this
    exact this
  · have := hi.2.2 j a b
    rw [q _ _ (by omega)] at this
    exact this
  · rw [ho 79 27 (by omega) (by omega), gj_up_i (by decide), gj_up_i (by decide), gj_up_i (by decide), gj_up_eq]
  · rw [ho 79 28 (by omega) (by omega), gj_up_i (by decide), gj_up_i (by decide), gj_up_eq]
  · rw [ho 79 29 (by omega) (by omega), gj_up_i (by decide), gj_up_eq]
  · rw [ho 79 30 (by omega) (by omega), gj_up_eq]
  · rw [ho a b h1 (by omega)]
    unfold gj_up
    rw [if_neg (by omega), if_neg (by omega), if_neg (by omega), if_neg (by omega)]
theorem r_onYes {R : gj_M} {k : Int} (h : 0 ≤ k ∧ k ≤ 2) (v : R 135 k ≠ 0) : ∃ N, F_X12_on k R = some (1, N) ∧ g_OK (131 + k) k R N := by
  unfold F_X12_on
  dsimp only [gj_letI]
  rw [g_in1 h.1 h.2, if_neg (by decide), gj_chkp (by omega), if_neg v, gj_chkp (by omega)]
  have n : ∀ (M : gj_M) (i w z b : Int), z ≠ 79 → gj_up M 79 i w z b = M z b := fun M i w z b hz => gj_up_z hz
  by_cases k0 : k = 0
  · obtain ⟨K, e, g⟩ := r_on1 (R := R) (z := 131) (k := 0) (by decide)
    rw [if_pos k0, gj_let_s, gj_let_s, gj_let_s, gj_let_s, n _ _ _ _ _ (by decide), n _ _ _ _ _ (by decide), n _ _ _ _ _ (by decide), n _ _ _ _ _ (by decide), n _ _ _ _ _ (by decide), n _ _ _ _ _ (by decide), e, gj_bnd_s, k0]
    exact ⟨_, rfl, g⟩
  · rw [if_neg k0]
    by_cases k1 : k = 1
    · obtain ⟨K, e, g⟩ := r_on1 (R := R) (z := 132) (k := 1) (by decide)
      rw [if_pos k1, gj_let_s, gj_let_s, gj_let_s, gj_let_s, n _ _ _ _ _ (by decide), n _ _ _ _ _ (by decide), n _ _ _ _ _ (by decide), n _ _ _ _ _ (by decide), n _ _ _ _ _ (by decide), n _ _ _ _ _ (by decide), e, gj_bnd_s, k1]
      exact ⟨_, rfl, g⟩
    · have k2 : k = 2 := by omega
      obtain ⟨K, e, g⟩ := r_on1 (R := R) (z := 133) (k := 2) (by decide)
      rw [if_neg k1, gj_let_s, gj_let_s, gj_let_s, gj_let_s, n _ _ _ _ _ (by decide), n _ _ _ _ _ (by decide), n _ _ _ _ _ (by decide), n _ _ _ _ _ (by decide), n _ _ _ _ _ (by decide), n _ _ _ _ _ (by decide), e, gj_bnd_s, k2]
      exact ⟨_, rfl, g⟩
