/-! PURE: images, in the reference: what is kept and what comes back -/
def g_mvK (M : gj_M) (z1 n z2 u : Int) : gj_M := fun a b => if a = 79 ∧ b = 54 then u + n else if a = z2 ∧ u ≤ b ∧ b < u + n then M z1 (b - u) else M a b
def g_mvL (M : gj_M) (z1 n z2 u : Int) : gj_M := fun a b => if a = 79 ∧ b = 54 then u + n else if a = z1 ∧ 0 ≤ b ∧ b < n then M z2 (u + b) else M a b
theorem g_mvK_0 {M : gj_M} {z1 z2 u : Int} (h : M 79 54 = u) : g_mvK M z1 0 z2 u = M := by
  funext a b
  unfold g_mvK
  by_cases c : a = 79 ∧ b = 54
  · rw [if_pos c, c.1, c.2, h]; omega
  · rw [if_neg c, if_neg (by omega)]
theorem g_mvL_0 {M : gj_M} {z1 z2 u : Int} (h : M 79 54 = u) : g_mvL M z1 0 z2 u = M := by
  funext a b
  unfold g_mvL
  by_cases c : a = 79 ∧ b = 54
  · rw [if_pos c, c.1, c.2, h]; omega
  · rw [if_neg c, if_neg (by omega)]
theorem r_moveK {M : gj_M} {z1 n1 z2 n2 u : Int} (h : M 79 54 = u) (h1 : z1 ≠ 79) (h2 : z2 ≠ 79) (h3 : z1 ≠ z2) (hn : 0 ≤ n1 ∧ n1 ≤ 200) (hu : 0 ≤ u) (hs : u + n1 ≤ n2) (hb : n2 ≤ 300) : F_X12_move z1 n1 z2 n2 1 M = some (g_mvK M z1 n1 z2 u) := by
  unfold F_X12_move
  refine gj_okM2 (fun y => y = some (g_mvK M z1 n1 z2 u)) (fun l3 l4 N => l3 = 1 ∧ 0 ≤ l4 ∧ l4 ≤ n1 ∧ N = g_mvK M z1 l4 z2 u) (fun _ l4 _ => (n1 - l4).toNat) ?_ gj_fu 1 0 M ⟨rfl, by omega, by omega, (g_mvK_0 h).symm⟩ (by show _ < 2048; omega)
  rintro rec l3 l4 N ⟨e1, a, b, eN⟩ hr
  rw [e1]
  unfold B_X12_move_3 J_X12_move_37
  by_cases c : n1 ≤ l4
  · have e : l4 = n1 := by omega
    rw [if_pos c, eN, e]
  · have hc : N 79 54 = u + l4 := by rw [eN]; exact if_pos ⟨rfl, rfl⟩
    rw [if_neg c, if_neg (show ¬ (1 : Int) = 0 by decide), gj_chkp (show 0 ≤ l4 ∧ l4 < n1 by omega), hc, gj_chkp (by omega), gj_let_s, gj_let_s, gj_wle (x := l4 + 1) (by omega) (by omega)]
    refine hr _ _ _ ⟨rfl, by omega, by omega, ?_⟩ (by omega)
    rw [gj_up_z (show (79 : Int) ≠ z2 from fun e => h2 e.symm), hc, gj_wle (by omega) (by omega), eN]
    funext x y
    unfold gj_up g_mvK
    by_cases c1 : x = 79 ∧ y = 54
    · rw [if_pos c1, if_pos c1]; omega
    · rw [if_neg c1, if_neg c1]
      by_cases c2 : x = z2 ∧ y = u + l4
      · rw [if_pos c2, if_neg (by omega), if_neg (by omega), if_neg c1, if_pos (by omega), c2.2]
        congr 1
        omega
      · rw [if_neg c2, if_neg c1]
        by_cases c3 : x = z2 ∧ u ≤ y ∧ y < u + l4
        · rw [if_pos c3, if_pos (by omega)]
        · rw [if_neg c3, if_neg (by omega)]
theorem r_moveL {M : gj_M} {z1 n1 z2 n2 u : Int} (h : M 79 54 = u) (h1 : z1 ≠ 79) (h2 : z2 ≠ 79) (h3 : z1 ≠ z2) (hn : 0 ≤ n1 ∧ n1 ≤ 200) (hu : 0 ≤ u) (hs : u + n1 ≤ n2) (hb : n2 ≤ 300) : F_X12_move z1 n1 z2 n2 0 M = some (g_mvL M z1 n1 z2 u) := by
  unfold F_X12_move
  refine gj_okM2 (fun y => y = some (g_mvL M z1 n1 z2 u)) (fun l3 l4 N => l3 = 0 ∧ 0 ≤ l4 ∧ l4 ≤ n1 ∧ N = g_mvL M z1 l4 z2 u) (fun _ l4 _ => (n1 - l4).toNat) ?_ gj_fu 0 0 M ⟨rfl, by omega, by omega, (g_mvL_0 h).symm⟩ (by show _ < 2048; omega)
  rintro rec l3 l4 N ⟨e1, a, b, eN⟩ hr
  rw [e1]
  unfold B_X12_move_3 J_X12_move_37
  by_cases c : n1 ≤ l4
  · have e : l4 = n1 := by omega
    rw [if_pos c, eN, e]
  · have hc : N 79 54 = u + l4 := by rw [eN]; exact if_pos ⟨rfl, rfl⟩
    rw [if_neg c, if_pos rfl, hc, gj_chkp (by omega), gj_chkp (show 0 ≤ l4 ∧ l4 < n1 by omega), gj_let_s, gj_let_s, gj_wle (x := l4 + 1) (by omega) (by omega)]
    refine hr _ _ _ ⟨rfl, by omega, by omega, ?_⟩ (by omega)
    rw [gj_up_z (show (79 : Int) ≠ z1 from fun e => h1 e.symm), hc, gj_wle (by omega) (by omega), eN]
    funext x y
    unfold gj_up g_mvL
    by_cases c1 : x = 79 ∧ y = 54
    · rw [if_pos c1, if_pos c1]; omega
    · rw [if_neg c1, if_neg c1]
      by_cases c2 : x = z1 ∧ y = l4
      · rw [if_pos c2, if_neg (by omega), if_neg (by omega), if_neg c1, if_pos (by omega), c2.2]
      · rw [if_neg c2, if_neg c1]
        by_cases c3 : x = z1 ∧ 0 ≤ y ∧ y < l4
        · rw [if_pos c3, if_pos (by omega)]
        · rw [if_neg c3, if_neg (by omega)]
theorem g_mvK_z {M : gj_M} {z1 n z2 u a b : Int} (h : a ≠ z2) (k : ¬ (a = 79 ∧ b = 54)) : g_mvK M z1 n z2 u a b = M a b := by
  unfold g_mvK
  rw [if_neg k, if_neg (by omega)]
theorem g_mvK_o {M : gj_M} {z1 n z2 u b : Int} (h : z2 ≠ 79) (k : ¬ (u ≤ b ∧ b < u + n)) : g_mvK M z1 n z2 u z2 b = M z2 b := by
  unfold g_mvK
  rw [if_neg (by omega), if_neg (by omega)]
theorem g_mvK_i {M : gj_M} {z1 n z2 u j : Int} (h : z2 ≠ 79) (a : 0 ≤ j) (b : j < n) : g_mvK M z1 n z2 u z2 (u + j) = M z1 j := by
  unfold g_mvK
  rw [if_neg (by omega), if_pos (by omega)]
  congr 1
  omega
theorem g_mvK_c {M : gj_M} {z1 n z2 u : Int} : g_mvK M z1 n z2 u 79 54 = u + n := if_pos ⟨rfl, rfl⟩
theorem g_mvL_c {M : gj_M} {z1 n z2 u : Int} : g_mvL M z1 n z2 u 79 54 = u + n := if_pos ⟨rfl, rfl⟩
theorem g_mvL_z {M : gj_M} {z1 n z2 u a b : Int} (h : a ≠ z1) (k : ¬ (a = 79 ∧ b = 54)) : g_mvL M z1 n z2 u a b = M a b := by
  unfold g_mvL
  rw [if_neg k, if_neg (by omega)]
theorem g_mvL_i {M : gj_M} {z1 n z2 u j : Int} (h : z1 ≠ 79) (a : 0 ≤ j) (b : j < n) : g_mvL M z1 n z2 u z1 j = M z2 (u + j) := by
  unfold g_mvL
  rw [if_neg (by omega), if_pos (by omega)]
theorem g_mvL_o {M : gj_M} {z1 n z2 u j : Int} (h : z1 ≠ 79) (k : ¬ (0 ≤ j ∧ j < n)) : g_mvL M z1 n z2 u z1 j = M z1 j := by
  unfold g_mvL
  rw [if_neg (by omega), if_neg (by omega)]
/-- an image z of M as it stands in N -/
def g_IM (z : Int) (M N : gj_M) : Prop :=
  (∀ j, 0 ≤ j → j < 8 → N z (4 + j) = M 108 j ∧ N z (12 + j) = M 109 j ∧ N z (20 + j) = M 110 j ∧ N z (28 + j) = M 111 j)
  ∧ (∀ j, 0 ≤ j → j < 16 → N z (36 + j) = M 112 j ∧ N z (52 + j) = M 113 j ∧ N z (68 + j) = M 114 j)
  ∧ (∀ j, 0 ≤ j → j < 200 → N z (84 + j) = M 122 j)
theorem r_movesK {M : gj_M} {z : Int} (hz : 131 ≤ z ∧ z ≤ 133) : ∃ N, F_X12_moves z 284 1 M = some N ∧ g_IM z M N ∧ (∀ j, 0 ≤ j → j < 4 → N z j = M z j) ∧ (∀ a b, a ≠ z → ¬ (a = 79 ∧ b = 54) → N a b = M a b) := by
  have z79 : z ≠ 79 := by omega
  obtain ⟨A0, h0⟩ : ∃ A, A = gj_up M 79 54 4 := ⟨_, rfl⟩
  obtain ⟨A1, h1⟩ : ∃ A, A = g_mvK A0 108 8 z 4 := ⟨_, rfl⟩
  obtain ⟨A2, h2⟩ : ∃ A, A = g_mvK A1 109 8 z 12 := ⟨_, rfl⟩
  obtain ⟨A3, h3⟩ : ∃ A, A = g_mvK A2 110 8 z 20 := ⟨_, rfl⟩
  obtain ⟨A4, h4⟩ : ∃ A, A = g_mvK A3 111 8 z 28 := ⟨_, rfl⟩
  obtain ⟨A5, h5⟩ : ∃ A, A = g_mvK A4 112 16 z 36 := ⟨_, rfl⟩
  obtain ⟨A6, h6⟩ : ∃ A, A = g_mvK A5 113 16 z 52 := ⟨_, rfl⟩
  obtain ⟨A7, h7⟩ : ∃ A, A = g_mvK A6 114 16 z 68 := ⟨_, rfl⟩
  obtain ⟨A8, h8⟩ : ∃ A, A = g_mvK A7 122 200 z 84 := ⟨_, rfl⟩
  have b0 : ∀ a b, ¬ (a = 79 ∧ b = 54) → A0 a b = M a b := fun a b k => by rw [h0]; exact if_neg k
  have b1 : ∀ a b, a ≠ z → ¬ (a = 79 ∧ b = 54) → A1 a b = M a b := fun a b q k => by rw [h1, g_mvK_z q k, b0 a b k]
  have b2 : ∀ a b, a ≠ z → ¬ (a = 79 ∧ b = 54) → A2 a b = M a b := fun a b q k => by rw [h2, g_mvK_z q k, b1 a b q k]
  have b3 : ∀ a b, a ≠ z → ¬ (a = 79 ∧ b = 54) → A3 a b = M a b := fun a b q k => by rw [h3, g_mvK_z q k, b2 a b q k]
  have b4 : ∀ a b, a ≠ z → ¬ (a = 79 ∧ b = 54) → A4 a b = M a b := fun a b q k => by rw [h4, g_mvK_z q k, b3 a b q k]
  have b5 : ∀ a b, a ≠ z → ¬ (a = 79 ∧ b = 54) → A5 a b = M a b := fun a b q k => by rw [h5, g_mvK_z q k, b4 a b q k]
  have b6 : ∀ a b, a ≠ z → ¬ (a = 79 ∧ b = 54) → A6 a b = M a b := fun a b q k => by rw [h6, g_mvK_z q k, b5 a b q k]
  have b7 : ∀ a b, a ≠ z → ¬ (a = 79 ∧ b = 54) → A7 a b = M a b := fun a b q k => by rw [h7, g_mvK_z q k, b6 a b q k]
  have o2 : ∀ b, b < 12 → A2 z b = A1 z b := fun b k => by rw [h2]; exact g_mvK_o z79 (by omega)
  have o3 : ∀ b, b < 20 → A3 z b = A2 z b := fun b k => by rw [h3]; exact g_mvK_o z79 (by omega)
  have o4 : ∀ b, b < 28 → A4 z b = A3 z b := fun b k => by rw [h4]; exact g_mvK_o z79 (by omega)
  have o5 : ∀ b, b < 36 → A5 z b = A4 z b := fun b k => by rw [h5]; exact g_mvK_o z79 (by omega)
  have o6 : ∀ b, b < 52 → A6 z b = A5 z b := fun b k => by rw [h6]; exact g_mvK_o z79 (by omega)
  have o7 : ∀ b, b < 68 → A7 z b = A6 z b := fun b k => by rw [h7]; exact g_mvK_o z79 (by omega)
  have o8 : ∀ b, b < 84 → A8 z b = A7 z b := fun b k => by rw [h8]; exact g_mvK_o z79 (by omega)
  refine ⟨A8, ?_, ⟨fun j a b => ⟨?_, ?_, ?_, ?_⟩, fun j a b => ⟨?_, ?_, ?_⟩, fun j a b => ?_⟩, fun j a b => ?_, fun a b q k => ?_⟩
  · unfold F_X12_moves
    rw [gj_let_s, ← h0, r_moveK (u := 4) (by rw [h0, gj_up_eq]) (by decide) z79 (by omega) (by omega) (by omega) (by omega) (by omega), gj_bnd_s, ← h1,
      r_moveK (u := 12) (by rw [h1, g_mvK_c]; rfl) (by decide) z79 (by omega) (by omega) (by omega) (by omega) (by omega), gj_bnd_s, ← h2,
      r_moveK (u := 20) (by rw [h2, g_mvK_c]; rfl) (by decide) z79 (by omega) (by omega) (by omega) (by omega) (by omega), gj_bnd_s, ← h3,
      r_moveK (u := 28) (by rw [h3, g_mvK_c]; rfl) (by decide) z79 (by omega) (by omega) (by omega) (by omega) (by omega), gj_bnd_s, ← h4,
      r_moveK (u := 36) (by rw [h4, g_mvK_c]; rfl) (by decide) z79 (by omega) (by omega) (by omega) (by omega) (by omega), gj_bnd_s, ← h5,
      r_moveK (u := 52) (by rw [h5, g_mvK_c]; rfl) (by decide) z79 (by omega) (by omega) (by omega) (by omega) (by omega), gj_bnd_s, ← h6,
      r_moveK (u := 68) (by rw [h6, g_mvK_c]; rfl) (by decide) z79 (by omega) (by omega) (by omega) (by omega) (by omega), gj_bnd_s, ← h7,
      r_moveK (u := 84) (by rw [h7, g_mvK_c]; rfl) (by decide) z79 (by omega) (by omega) (by omega) (by omega) (by omega), gj_bnd_s, ← h8]
  · rw [o8 _ (by omega), o7 _ (by omega), o6 _ (by omega), o5 _ (by omega), o4 _ (by omega), o3 _ (by omega), o2 _ (by omega), h1, g_mvK_i z79 a b, b0 _ _ (by omega)]
  · rw [o8 _ (by omega), o7 _ (by omega), o6 _ (by omega), o5 _ (by omega), o4 _ (by omega), o3 _ (by omega), h2, g_mvK_i z79 a b, b1 _ _ (by omega) (by omega)]
  · rw [o8 _ (by omega), o7 _ (by omega), o6 _ (by omega), o5 _ (by omega), o4 _ (by omega), h3, g_mvK_i z79 a b, b2 _ _ (by omega) (by omega)]
  · rw [o8 _ (by omega), o7 _ (by omega), o6 _ (by omega), o5 _ (by omega), h4, g_mvK_i z79 a b, b3 _ _ (by omega) (by omega)]
  · rw [o8 _ (by omega), o7 _ (by omega), o6 _ (by omega), h5, g_mvK_i z79 a b, b4 _ _ (by omega) (by omega)]
  · rw [o8 _ (by omega), o7 _ (by omega), h6, g_mvK_i z79 a b, b5 _ _ (by omega) (by omega)]
  · rw [o8 _ (by omega), h7, g_mvK_i z79 a b, b6 _ _ (by omega) (by omega)]
  · rw [h8, g_mvK_i z79 a b, b7 _ _ (by omega) (by omega)]
  · rw [o8 _ (by omega), o7 _ (by omega), o6 _ (by omega), o5 _ (by omega), o4 _ (by omega), o3 _ (by omega), o2 _ (by omega), h1, g_mvK_o z79 (by omega), b0 _ _ (by omega)]
  · rw [h8, g_mvK_z q k, b7 _ _ q k]
theorem r_movesL {M : gj_M} {z : Int} (hz : 131 ≤ z ∧ z ≤ 133) : ∃ N, F_X12_moves z 284 0 M = some N ∧ g_IM z N M ∧ (∀ a b, ¬ ((108 ≤ a ∧ a ≤ 114) ∨ a = 122) → ¬ (a = 79 ∧ b = 54) → N a b = M a b) := by
  have z79 : z ≠ 79 := by omega
  obtain ⟨A0, h0⟩ : ∃ A, A = gj_up M 79 54 4 := ⟨_, rfl⟩
  obtain ⟨A1, h1⟩ : ∃ A, A = g_mvL A0 108 8 z 4 := ⟨_, rfl⟩
  obtain ⟨A2, h2⟩ : ∃ A, A = g_mvL A1 109 8 z 12 := ⟨_, rfl⟩
  obtain ⟨A3, h3⟩ : ∃ A, A = g_mvL A2 110 8 z 20 := ⟨_, rfl⟩
  obtain ⟨A4, h4⟩ : ∃ A, A = g_mvL A3 111 8 z 28 := ⟨_, rfl⟩
  obtain ⟨A5, h5⟩ : ∃ A, A = g_mvL A4 112 16 z 36 := ⟨_, rfl⟩
  obtain ⟨A6, h6⟩ : ∃ A, A = g_mvL A5 113 16 z 52 := ⟨_, rfl⟩
  obtain ⟨A7, h7⟩ : ∃ A, A = g_mvL A6 114 16 z 68 := ⟨_, rfl⟩
  obtain ⟨A8, h8⟩ : ∃ A, A = g_mvL A7 122 200 z 84 := ⟨_, rfl⟩
  have b0 : ∀ a b, ¬ (a = 79 ∧ b = 54) → A0 a b = M a b := fun a b k => by rw [h0]; exact if_neg k
  have s1 : ∀ a b, a ≠ 108 → ¬ (a = 79 ∧ b = 54) → A1 a b = A0 a b := fun a b q k => by rw [h1]; exact g_mvL_z q k
  have s2 : ∀ a b, a ≠ 109 → ¬ (a = 79 ∧ b = 54) → A2 a b = A1 a b := fun a b q k => by rw [h2]; exact g_mvL_z q k
  have s3 : ∀ a b, a ≠ 110 → ¬ (a = 79 ∧ b = 54) → A3 a b = A2 a b := fun a b q k => by rw [h3]; exact g_mvL_z q k
  have s4 : ∀ a b, a ≠ 111 → ¬ (a = 79 ∧ b = 54) → A4 a b = A3 a b := fun a b q k => by rw [h4]; exact g_mvL_z q k
  have s5 : ∀ a b, a ≠ 112 → ¬ (a = 79 ∧ b = 54) → A5 a b = A4 a b := fun a b q k => by rw [h5]; exact g_mvL_z q k
  have s6 : ∀ a b, a ≠ 113 → ¬ (a = 79 ∧ b = 54) → A6 a b = A5 a b := fun a b q k => by rw [h6]; exact g_mvL_z q k
  have s7 : ∀ a b, a ≠ 114 → ¬ (a = 79 ∧ b = 54) → A7 a b = A6 a b := fun a b q k => by rw [h7]; exact g_mvL_z q k
  have s8 : ∀ a b, a ≠ 122 → ¬ (a = 79 ∧ b = 54) → A8 a b = A7 a b := fun a b q k => by rw [h8]; exact g_mvL_z q k
  refine ⟨A8, ?_, ⟨fun j a b => ⟨?_, ?_, ?_, ?_⟩, fun j a b => ⟨?_, ?_, ?_⟩, fun j a b => ?_⟩, fun a b q k => ?_⟩
  · unfold F_X12_moves
    rw [gj_let_s, ← h0, r_moveL (u := 4) (by rw [h0, gj_up_eq]) (by decide) z79 (by omega) (by omega) (by omega) (by omega) (by omega), gj_bnd_s, ← h1,
      r_moveL (u := 12) (by rw [h1, g_mvL_c]; rfl) (by decide) z79 (by omega) (by omega) (by omega) (by omega) (by omega), gj_bnd_s, ← h2,
      r_moveL (u := 20) (by rw [h2, g_mvL_c]; rfl) (by decide) z79 (by omega) (by omega) (by omega) (by omega) (by omega), gj_bnd_s, ← h3,
      r_moveL (u := 28) (by rw [h3, g_mvL_c]; rfl) (by decide) z79 (by omega) (by omega) (by omega) (by omega) (by omega), gj_bnd_s, ← h4,
      r_moveL (u := 36) (by rw [h4, g_mvL_c]; rfl) (by decide) z79 (by omega) (by omega) (by omega) (by omega) (by omega), gj_bnd_s, ← h5,
      r_moveL (u := 52) (by rw [h5, g_mvL_c]; rfl) (by decide) z79 (by omega) (by omega) (by omega) (by omega) (by omega), gj_bnd_s, ← h6,
      r_moveL (u := 68) (by rw [h6, g_mvL_c]; rfl) (by decide) z79 (by omega) (by omega) (by omega) (by omega) (by omega), gj_bnd_s, ← h7,
      r_moveL (u := 84) (by rw [h7, g_mvL_c]; rfl) (by decide) z79 (by omega) (by omega) (by omega) (by omega) (by omega), gj_bnd_s, ← h8]
  · rw [s8 _ _ (by decide) (by omega), s7 _ _ (by decide) (by omega), s6 _ _ (by decide) (by omega), s5 _ _ (by decide) (by omega), s4 _ _ (by decide) (by omega), s3 _ _ (by decide) (by omega), s2 _ _ (by decide) (by omega), h1, g_mvL_i (by decide) a b, b0 _ _ (by omega)]
  · rw [s8 _ _ (by decide) (by omega), s7 _ _ (by decide) (by omega), s6 _ _ (by decide) (by omega), s5 _ _ (by decide) (by omega), s4 _ _ (by decide) (by omega), s3 _ _ (by decide) (by omega), h2, g_mvL_i (by decide) a b, s1 _ _ (by omega) (by omega), b0 _ _ (by omega)]
  · rw [s8 _ _ (by decide) (by omega), s7 _ _ (by decide) (by omega), s6 _ _ (by decide) (by omega), s5 _ _ (by decide) (by omega), s4 _ _ (by decide) (by omega), h3, g_mvL_i (by decide) a b, s2 _ _ (by omega) (by omega), s1 _ _ (by omega) (by omega), b0 _ _ (by omega)]
  · rw [s8 _ _ (by decide) (by omega), s7 _ _ (by decide) (by omega), s6 _ _ (by decide) (by omega), s5 _ _ (by decide) (by omega), h4, g_mvL_i (by decide) a b, s3 _ _ (by omega) (by omega), s2 _ _ (by omega) (by omega), s1 _ _ (by omega) (by omega), b0 _ _ (by omega)]
  · rw [s8 _ _ (by decide) (by omega), s7 _ _ (by decide) (by omega), s6 _ _ (by decide) (by omega), h5, g_mvL_i (by decide) a b, s4 _ _ (by omega) (by omega), s3 _ _ (by omega) (by omega), s2 _ _ (by omega) (by omega), s1 _ _ (by omega) (by omega), b0 _ _ (by omega)]
  · rw [s8 _ _ (by decide) (by omega), s7 _ _ (by decide) (by omega), h6, g_mvL_i (by decide) a b, s5 _ _ (by omega) (by omega), s4 _ _ (by omega) (by omega), s3 _ _ (by omega) (by omega), s2 _ _ (by omega) (by omega), s1 _ _ (by omega) (by omega), b0 _ _ (by omega)]
  · rw [s8 _ _ (by decide) (by omega), h7, g_mvL_i (by decide) a b, s6 _ _ (by omega) (by omega), s5 _ _ (by omega) (by omega), s4 _ _ (by omega) (by omega), s3 _ _ (by omega) (by omega), s2 _ _ (by omega) (by omega), s1 _ _ (by omega) (by omega), b0 _ _ (by omega)]
  · rw [h8, g_mvL_i (by decide) a b, s7 _ _ (by omega) (by omega), s6 _ _ (by omega) (by omega), s5 _ _ (by omega) (by omega), s4 _ _ (by omega) (by omega), s3 _ _ (by omega) (by omega), s2 _ _ (by omega) (by omega), s1 _ _ (by omega) (by omega), b0 _ _ (by omega)]
  · rw [s8 _ _ (by omega) k, s7 _ _ (by omega) k, s6 _ _ (by omega) k, s5 _ _ (by omega) k, s4 _ _ (by omega) k, s3 _ _ (by omega) k, s2 _ _ (by omega) k, s1 _ _ (by omega) k, b0 _ _ k]
