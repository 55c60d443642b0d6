/-! PURE: what a line writes, side by side -/
theorem gj_bnd_s {A B : Type} {a : A} {f : A → Option B} : gj_bnd (some a) f = f a := rfl
theorem gj_bnd2_s {A A' B : Type} {a : A} {b : A'} {f : A → A' → Option B} : gj_bnd2 (some (a, b)) f = f a b := rfl
theorem g_if10 {T : Type} {a b : T} : (if (1 : Int) = 0 then a else b) = b := rfl
theorem g_if00 {T : Type} {a b : T} : (if (0 : Int) = 0 then a else b) = a := rfl
def g_LS (b : Int) (p q : Option (Int × gj_M)) : Prop := ∃ x C y R, p = some (x, C) ∧ q = some (y, R) ∧ ((x = 0 ∧ y = 0 ∧ g_FD C R) ∨ (x = 1 ∧ y = 1 ∧ g_TK b C R ∧ g_DD C R ∧ b < C 10 7))
theorem g_LS_no {b : Int} {C R : gj_M} (h : g_TK b C R) : g_LS b (some (0, C)) (some (0, g_at R)) := ⟨0, C, 0, _, rfl, rfl, Or.inl ⟨rfl, rfl, g_FD_at h⟩⟩
theorem g_LS_take {b : Int} {C R : gj_M} {lo hi l n z : Int} {k k' : gj_M → Option (Int × gj_M)} (h : g_TK b C R) (hl : 0 ≤ l ∧ l < n) (h0 : 0 ≤ lo) (h9 : hi ≤ 9999) (hz : z ≠ 79 ∧ z ≠ 81) (K : ∀ v D U, lo ≤ v → v ≤ hi → g_TK b D U → D 10 9 = v → g_sC C D → g_sR R U → g_LS b (k D) (k' (gj_up U z l v))) : g_LS b (gj_bnd2 (F_X6_takeNumber lo hi C) (fun x M => if x = 0 then some (0, M) else k M)) (gj_bnd2 (F_X12_into z n l lo hi R) (fun x M => if x = 0 then some (0, M) else k' M)) := by
  rcases p_takes h hl h0 h9 hz with ⟨v, D, U, a, b, e1, e2, t, e, c, r⟩ | ⟨U, e1, e2, f⟩
  · rw [e1, e2]
    exact K v D U a b t e c r
  · rw [e1, e2]
    exact ⟨0, C, 0, U, rfl, rfl, Or.inl ⟨rfl, rfl, f⟩⟩
theorem g_LS_stop {b : Int} {C R : gj_M} (h : g_TK b C R) (hd : g_DD C R) : g_LS b (gj_bnd2 (F_X6_takeStop C) (fun x M => some (x, M))) (gj_bnd2 (F_X12_closes R) (fun x M => if x = 0 then some (0, M) else some (1, M))) := by
  rcases p_stops h with ⟨e1, e2, e3⟩ | ⟨e1, e2⟩
  · rw [e1, e2]
    exact ⟨1, _, 1, _, rfl, rfl, Or.inr ⟨rfl, rfl, g_TK_adv h, g_DD_s hd g_sC_adv g_sR_radv, Int.lt_of_le_of_lt h.bb e3⟩⟩
  · rw [e1, e2]
    exact g_LS_no h
theorem g_LS_stop' {b : Int} {C R : gj_M} (h : g_TK b C R) (hd : g_DD C R) : g_LS b (gj_bnd2 (F_X6_takeStop C) (fun x M => some (x, M))) (gj_bnd2 (F_X12_closes R) (fun x M => some (x, M))) := by
  rcases p_stops h with ⟨e1, e2, e3⟩ | ⟨e1, e2⟩
  · rw [e1, e2]
    exact ⟨1, _, 1, _, rfl, rfl, Or.inr ⟨rfl, rfl, g_TK_adv h, g_DD_s hd g_sC_adv g_sR_radv, Int.lt_of_le_of_lt h.bb e3⟩⟩
  · rw [e1, e2]
    exact g_LS_no h
theorem g_DD_v5 {C R : gj_M} {i v : Int} (h : g_DD C R) (hv : 0 ≤ v ∧ v ≤ 16) : g_DD (gj_up C 5 i v) (gj_up R 87 i v) := by
  have c : ∀ z, z ≠ 5 → gj_up C 5 i v z = C z := fun z hz => funext fun _ => gj_up_z hz
  have r : ∀ z, z ≠ 87 → gj_up R 87 i v z = R z := fun z hz => funext fun _ => gj_up_z hz
  unfold g_DD
  simp only [g_pe, c 3 (by decide), c 4 (by decide), c 6 (by decide), c 7 (by decide), c 8 (by decide), c 10 (by decide), c 11 (by decide), c 12 (by decide), c 13 (by decide), r 84 (by decide), r 90 (by decide), r 93 (by decide), r 96 (by decide), r 99 (by decide), r 102 (by decide), r 103 (by decide), r 104 (by decide), r 105 (by decide), r 106 (by decide)]
  refine ⟨h.n0, h.n1, h.b0, h.b1, h.nm, h.pr, h.th, fun j a b => ?_, h.v6, h.v7, h.ft, h.v8, h.hd, h.bt⟩
  rw [gj_up_if, gj_up_if]
  split
  · exact ⟨rfl, hv⟩
  · exact h.v5 j a b
theorem g_DD_v6 {C R : gj_M} {i v : Int} (h : g_DD C R) (hv : 0 ≤ v ∧ v ≤ 16) : g_DD (gj_up C 6 i v) (gj_up R 90 i v) := by
  have c : ∀ z, z ≠ 6 → gj_up C 6 i v z = C z := fun z hz => funext fun _ => gj_up_z hz
  have r : ∀ z, z ≠ 90 → gj_up R 90 i v z = R z := fun z hz => funext fun _ => gj_up_z hz
  unfold g_DD
  simp only [g_pe, c 3 (by decide), c 4 (by decide), c 5 (by decide), c 7 (by decide), c 8 (by decide), c 10 (by decide), c 11 (by decide), c 12 (by decide), c 13 (by decide), r 84 (by decide), r 87 (by decide), r 93 (by decide), r 96 (by decide), r 99 (by decide), r 102 (by decide), r 103 (by decide), r 104 (by decide), r 105 (by decide), r 106 (by decide)]
  refine ⟨h.n0, h.n1, h.b0, h.b1, h.nm, h.pr, h.th, h.v5, fun j a b => ?_, h.v7, h.ft, h.v8, h.hd, h.bt⟩
  rw [gj_up_if, gj_up_if]
  split
  · exact ⟨rfl, hv⟩
  · exact h.v6 j a b
theorem g_DD_v7 {C R : gj_M} {i v : Int} (h : g_DD C R) (hv : 0 ≤ v ∧ v ≤ 16) : g_DD (gj_up C 7 i v) (gj_up R 93 i v) := by
  have c : ∀ z, z ≠ 7 → gj_up C 7 i v z = C z := fun z hz => funext fun _ => gj_up_z hz
  have r : ∀ z, z ≠ 93 → gj_up R 93 i v z = R z := fun z hz => funext fun _ => gj_up_z hz
  unfold g_DD
  simp only [g_pe, c 3 (by decide), c 4 (by decide), c 5 (by decide), c 6 (by decide), c 8 (by decide), c 10 (by decide), c 11 (by decide), c 12 (by decide), c 13 (by decide), r 84 (by decide), r 87 (by decide), r 90 (by decide), r 96 (by decide), r 99 (by decide), r 102 (by decide), r 103 (by decide), r 104 (by decide), r 105 (by decide), r 106 (by decide)]
  refine ⟨h.n0, h.n1, h.b0, h.b1, h.nm, h.pr, h.th, h.v5, h.v6, fun j a b => ?_, h.ft, h.v8, h.hd, h.bt⟩
  rw [gj_up_if, gj_up_if]
  split
  · exact ⟨rfl, hv⟩
  · exact h.v7 j a b
theorem g_DD_v8 {C R : gj_M} {i v : Int} (h : g_DD C R) (hv : 0 ≤ v ∧ v ≤ 16) : g_DD (gj_up C 8 i v) (gj_up R 96 i v) := by
  have c : ∀ z, z ≠ 8 → gj_up C 8 i v z = C z := fun z hz => funext fun _ => gj_up_z hz
  have r : ∀ z, z ≠ 96 → gj_up R 96 i v z = R z := fun z hz => funext fun _ => gj_up_z hz
  unfold g_DD
  simp only [g_pe, c 3 (by decide), c 4 (by decide), c 5 (by decide), c 6 (by decide), c 7 (by decide), c 10 (by decide), c 11 (by decide), c 12 (by decide), c 13 (by decide), r 84 (by decide), r 87 (by decide), r 90 (by decide), r 93 (by decide), r 99 (by decide), r 102 (by decide), r 103 (by decide), r 104 (by decide), r 105 (by decide), r 106 (by decide)]
  refine ⟨h.n0, h.n1, h.b0, h.b1, h.nm, h.pr, h.th, h.v5, h.v6, h.v7, h.ft, fun j a b => ?_, h.hd, h.bt⟩
  rw [gj_up_if, gj_up_if]
  split
  · exact ⟨rfl, hv⟩
  · exact h.v8 j a b
theorem g_DD_th {C R : gj_M} {i v : Int} (h : g_DD C R) : g_DD (gj_up C 12 i v) (gj_up R 104 i v) := by
  have c : ∀ z, z ≠ 12 → gj_up C 12 i v z = C z := fun z hz => funext fun _ => gj_up_z hz
  have r : ∀ z, z ≠ 104 → gj_up R 104 i v z = R z := fun z hz => funext fun _ => gj_up_z hz
  unfold g_DD
  simp only [g_pe, c 3 (by decide), c 4 (by decide), c 5 (by decide), c 6 (by decide), c 7 (by decide), c 8 (by decide), c 10 (by decide), c 11 (by decide), c 13 (by decide), r 84 (by decide), r 87 (by decide), r 90 (by decide), r 93 (by decide), r 96 (by decide), r 99 (by decide), r 102 (by decide), r 103 (by decide), r 105 (by decide), r 106 (by decide)]
  refine ⟨h.n0, h.n1, h.b0, h.b1, h.nm, h.pr, fun j a b => ?_, h.v5, h.v6, h.v7, h.ft, h.v8, h.hd, h.bt⟩
  rw [gj_up_if, gj_up_if]
  split
  · rfl
  · exact h.th j a b
theorem g_DD_ft {C R : gj_M} {i v : Int} (h : g_DD C R) : g_DD (gj_up C 13 i v) (gj_up R 105 i v) := by
  have c : ∀ z, z ≠ 13 → gj_up C 13 i v z = C z := fun z hz => funext fun _ => gj_up_z hz
  have r : ∀ z, z ≠ 105 → gj_up R 105 i v z = R z := fun z hz => funext fun _ => gj_up_z hz
  unfold g_DD
  simp only [g_pe, c 3 (by decide), c 4 (by decide), c 5 (by decide), c 6 (by decide), c 7 (by decide), c 8 (by decide), c 10 (by decide), c 11 (by decide), c 12 (by decide), r 84 (by decide), r 87 (by decide), r 90 (by decide), r 93 (by decide), r 96 (by decide), r 99 (by decide), r 102 (by decide), r 103 (by decide), r 104 (by decide), r 106 (by decide)]
  refine ⟨h.n0, h.n1, h.b0, h.b1, h.nm, h.pr, h.th, h.v5, h.v6, h.v7, fun j a b => ?_, h.v8, h.hd, h.bt⟩
  rw [gj_up_if, gj_up_if]
  split
  · rfl
  · exact h.ft j a b
theorem g_DD_nm {C R : gj_M} {i v w : Int} (h : g_DD C R) (hp : ¬ g_pe C 3 i) : g_DD (gj_up C 11 i v) (gj_up R 103 i w) := by
  have c : ∀ z, z ≠ 11 → gj_up C 11 i v z = C z := fun z hz => funext fun _ => gj_up_z hz
  have r : ∀ z, z ≠ 103 → gj_up R 103 i w z = R z := fun z hz => funext fun _ => gj_up_z hz
  unfold g_DD
  simp only [g_pe, c 3 (by decide), c 4 (by decide), c 5 (by decide), c 6 (by decide), c 7 (by decide), c 8 (by decide), c 10 (by decide), c 12 (by decide), c 13 (by decide), r 84 (by decide), r 87 (by decide), r 90 (by decide), r 93 (by decide), r 96 (by decide), r 99 (by decide), r 102 (by decide), r 104 (by decide), r 105 (by decide), r 106 (by decide)]
  refine ⟨h.n0, h.n1, h.b0, h.b1, fun j a b p => ?_, h.pr, h.th, h.v5, h.v6, h.v7, h.ft, h.v8, h.hd, h.bt⟩
  rw [gj_up_if, gj_up_if, if_neg (fun e => hp (by rw [← e]; exact p)), if_neg (fun e => hp (by rw [← e]; exact p))]
  exact h.nm j a b p
theorem g_DD_pr {C R : gj_M} {i v w : Int} (h : g_DD C R) (hp : ¬ g_pe C 3 i) : g_DD (gj_up C 4 i v) (gj_up R 84 i w) := by
  have c : ∀ z, z ≠ 4 → gj_up C 4 i v z = C z := fun z hz => funext fun _ => gj_up_z hz
  have r : ∀ z, z ≠ 84 → gj_up R 84 i w z = R z := fun z hz => funext fun _ => gj_up_z hz
  unfold g_DD
  simp only [g_pe, c 3 (by decide), c 5 (by decide), c 6 (by decide), c 7 (by decide), c 8 (by decide), c 10 (by decide), c 11 (by decide), c 12 (by decide), c 13 (by decide), r 87 (by decide), r 90 (by decide), r 93 (by decide), r 96 (by decide), r 99 (by decide), r 102 (by decide), r 103 (by decide), r 104 (by decide), r 105 (by decide), r 106 (by decide)]
  refine ⟨h.n0, h.n1, h.b0, h.b1, h.nm, fun j a b p => ?_, h.th, h.v5, h.v6, h.v7, h.ft, h.v8, h.hd, h.bt⟩
  rw [gj_up_if, gj_up_if, if_neg (fun e => hp (by rw [← e]; exact p)), if_neg (fun e => hp (by rw [← e]; exact p))]
  exact h.pr j a b p
theorem g_DD_hd {C R : gj_M} {k v : Int} (h : g_DD C R) (hk : 0 ≤ k) (hv : g_hb k v) : g_DD (gj_up C 3 (k + 2) v) (gj_up R 99 k v) := by
  have c : ∀ z, z ≠ 3 → gj_up C 3 (k + 2) v z = C z := fun z hz => funext fun _ => gj_up_z hz
  have r : ∀ z, z ≠ 99 → gj_up R 99 k v z = R z := fun z hz => funext fun _ => gj_up_z hz
  unfold g_DD
  simp only [g_pe, c 4 (by decide), c 5 (by decide), c 6 (by decide), c 7 (by decide), c 8 (by decide), c 10 (by decide), c 11 (by decide), c 12 (by decide), c 13 (by decide), r 84 (by decide), r 87 (by decide), r 90 (by decide), r 93 (by decide), r 96 (by decide), r 102 (by decide), r 103 (by decide), r 104 (by decide), r 105 (by decide), r 106 (by decide)]
  have e0 : gj_up C 3 (k + 2) v 3 0 = C 3 0 := gj_up_i (by omega)
  have e1 : gj_up C 3 (k + 2) v 3 1 = C 3 1 := gj_up_i (by omega)
  simp only [e0, e1]
  refine ⟨h.n0, h.n1, h.b0, h.b1, h.nm, h.pr, h.th, h.v5, h.v6, h.v7, h.ft, h.v8, fun j a b => ?_, h.bt⟩
  rw [gj_up_if, gj_up_if]
  by_cases e : j = k
  · rw [if_pos (by omega), if_pos e, e]
    exact ⟨rfl, hv⟩
  · rw [if_neg (by omega), if_neg e]
    exact h.hd j a b
theorem g_DD_ct {C R : gj_M} {s : Int} (h : g_DD C R) (hs : s = 0 ∨ s = 1) (hc : C 3 s < 4) (hn : g_nm (C 11 (4 * s + C 3 s)) (R 103 (4 * s + C 3 s))) (hp : C 4 (4 * s + C 3 s) = R 84 (4 * s + C 3 s) ∧ 0 ≤ C 4 (4 * s + C 3 s) ∧ C 4 (4 * s + C 3 s) ≤ 99) : g_DD (gj_up C 3 s (C 3 s + 1)) (gj_up R 102 s (C 3 s + 1)) := by
  have c : ∀ z, z ≠ 3 → gj_up C 3 s (C 3 s + 1) z = C z := fun z hz => funext fun _ => gj_up_z hz
  have r : ∀ z, z ≠ 102 → gj_up R 102 s (C 3 s + 1) z = R z := fun z hz => funext fun _ => gj_up_z hz
  unfold g_DD
  simp only [g_pe, c 4 (by decide), c 5 (by decide), c 6 (by decide), c 7 (by decide), c 8 (by decide), c 10 (by decide), c 11 (by decide), c 12 (by decide), c 13 (by decide), r 84 (by decide), r 87 (by decide), r 90 (by decide), r 93 (by decide), r 96 (by decide), r 99 (by decide), r 103 (by decide), r 104 (by decide), r 105 (by decide), r 106 (by decide)]
  have ek : ∀ k, 0 ≤ k → gj_up C 3 s (C 3 s + 1) 3 (k + 2) = C 3 (k + 2) := fun k hk => gj_up_i (by omega)
  have b0 := h.b0
  have b1 := h.b1
  have n0 := h.n0
  have n1 := h.n1
  have new : ∀ i, 0 ≤ i → i < 8 → (i < 4 ∧ i < gj_up C 3 s (C 3 s + 1) 3 0 ∨ 4 ≤ i ∧ i - 4 < gj_up C 3 s (C 3 s + 1) 3 1) → g_pe C 3 i ∨ i = 4 * s + C 3 s := by
    intro i a b p
    unfold g_pe
    rw [gj_up_if, gj_up_if] at p
    rcases hs with rfl | rfl
    · rw [if_pos rfl, if_neg (by decide)] at p; omega
    · rw [if_neg (by decide), if_pos rfl] at p; omega
  refine ⟨?_, ?_, ?_, ?_, fun i a b p => ?_, fun i a b p => ?_, h.th, h.v5, h.v6, h.v7, h.ft, h.v8, fun k a b => by rw [ek k a]; exact h.hd k a b, h.bt⟩
  · rw [gj_up_if, gj_up_if]; split <;> simp_all
  · rw [gj_up_if, gj_up_if]; split <;> simp_all
  · rw [gj_up_if]; rcases hs with rfl | rfl
    · rw [if_pos rfl]; omega
    · rw [if_neg (by decide)]; omega
  · rw [gj_up_if]; rcases hs with rfl | rfl
    · rw [if_neg (by decide)]; omega
    · rw [if_pos rfl]; omega
  · rcases new i a b p with q | q
    · exact h.nm i a b q
    · rw [q]; exact hn
  · rcases new i a b p with q | q
    · exact h.pr i a b q
    · rw [q]; exact hp
theorem g_bits : ∀ x : Nat, x < 32 → ∀ j : Nat, j < 5 → 0 ≤ gj_or (x : Int) (2 ^ j) ∧ gj_or (x : Int) (2 ^ j) < 32 ∧ ∀ k : Nat, k < 5 → (gj_and (gj_or (x : Int) (2 ^ j)) (2 ^ k) = 0 ↔ k ≠ j ∧ gj_and (x : Int) (2 ^ k) = 0) := by decide +kernel
theorem g_DD_bt {C R : gj_M} {j : Nat} (h : g_DD C R) (hj : j < 5) : g_DD (gj_up C 10 5 (gj_or (C 10 5) (2 ^ j))) (gj_up R 106 (4 + (j : Int)) 1) := by
  have c : ∀ z, z ≠ 10 → gj_up C 10 5 (gj_or (C 10 5) (2 ^ j)) z = C z := fun z hz => funext fun _ => gj_up_z hz
  have r : ∀ z, z ≠ 106 → gj_up R 106 (4 + (j : Int)) 1 z = R z := fun z hz => funext fun _ => gj_up_z hz
  unfold g_DD
  simp only [g_pe, c 3 (by decide), c 4 (by decide), c 5 (by decide), c 6 (by decide), c 7 (by decide), c 8 (by decide), c 11 (by decide), c 12 (by decide), c 13 (by decide), r 84 (by decide), r 87 (by decide), r 90 (by decide), r 93 (by decide), r 96 (by decide), r 99 (by decide), r 102 (by decide), r 103 (by decide), r 104 (by decide), r 105 (by decide)]
  obtain ⟨b0, b1, b2⟩ := h.bt
  have hb := g_bits (C 10 5).toNat (by omega) j hj
  rw [gj_pN b0] at hb
  refine ⟨h.n0, h.n1, h.b0, h.b1, h.nm, h.pr, h.th, h.v5, h.v6, h.v7, h.ft, h.v8, h.hd, ⟨?_, ?_, fun k hk => ?_⟩⟩
  · rw [gj_up_eq]; exact hb.1
  · rw [gj_up_eq]; exact hb.2.1
  · rw [gj_up_eq, hb.2.2 k hk, gj_up_if]
    by_cases e : k = j
    · rw [if_pos (by omega)]
      exact ⟨fun q => absurd e q.1, fun q => absurd q (by decide)⟩
    · rw [if_neg (by omega), b2 k hk]
      exact ⟨fun q => q.2, fun q => ⟨e, q⟩⟩
