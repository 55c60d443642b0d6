/-! PURE: what a year is worth to all under a row of mates: the same on both sides -/
theorem f_cpl_sy {p q : Int} (hp : 0 ≤ p ∧ p < 4) (hq : 4 ≤ q ∧ q < 8) : f_cpl q p = f_cpl p q := by
  unfold f_cpl
  rw [if_neg (by omega), if_pos (by omega)]
theorem p_ysC {M N : gj_M} {z w : Int} (h14 : N 14 = M 14) (h15 : N 15 = M 15) (h19 : N 19 = M 19) (h : ∀ j, 0 ≤ j → j < 8 → N w j = M z j) : F_X5_yearSum w 8 N = F_X5_yearSum z 8 M := by
  have e2 : ∀ a b, f_X5_trueYear a b N = f_X5_trueYear a b M := fun a b => by
    unfold f_X5_trueYear f_at
    rw [h14, h15, h19]
  have e3 : ∀ j, f_at N w 8 j = f_at M z 8 j := fun j => by
    unfold f_at
    by_cases c : 0 ≤ j ∧ j < 8
    · rw [if_pos c, if_pos c]
      exact h j c.1 c.2
    · rw [if_neg c, if_neg c]
  have e4 : ∀ j, f_X5_isPerson_14 j N = f_X5_isPerson_14 j M := fun j => by
    unfold f_X5_isPerson_14
    rw [h14]
  have e : B_X5_yearSum_4 w 8 N = B_X5_yearSum_4 z 8 M := by
    funext rec l2 l3
    unfold B_X5_yearSum_4 J_X5_yearSum_31
    dsimp only [gj_letI]
    rw [e4, e3, e2]
  unfold F_X5_yearSum
  rw [e]
def e_sum (y : Int → Int) : Nat → Int
  | 0 => 0
  | n + 1 => e_sum y n + y n
theorem e_sum_b {y : Int → Int} : ∀ n : Nat, (∀ j : Int, 0 ≤ j → j < n → 0 ≤ y j ∧ y j ≤ 3200) → 0 ≤ e_sum y n ∧ e_sum y n ≤ 3200 * n
  | 0, _ => ⟨Int.le_refl 0, Int.le_refl 0⟩
  | n + 1, h => by
    have a := e_sum_b n (fun j x z => h j x (by omega))
    have b := h n (by omega) (by omega)
    unfold e_sum
    constructor <;> omega
/-- whose year -/
def e_T (C : gj_M) (p q : Int) : Int := C 19 (f_cpl p q) * C 14 2 + (16 - C 19 (f_cpl p q)) * C 14 3
def g_SY (w : Int) (R : gj_M) : Prop := ∀ j, 0 ≤ j → j < 8 → R w j = -1 ∨ ((0 ≤ R w j ∧ R w j < 8 ∧ (j < 4 ↔ ¬ R w j < 4)) ∧ g_pe R 101 j ∧ g_pe R 101 (R w j) ∧ R w (R w j) = j)
theorem e_T_b {C R : gj_M} (h : g_PL C R) {p q : Int} (p4 : 0 ≤ p ∧ p < 4) (q4 : 4 ≤ q ∧ q < 8) : (0 ≤ e_T C p q ∧ e_T C p q ≤ 1584) ∧ F_X12_truly p q R = some (2 * e_T C p q) ∧ (∀ w : Int, w ≠ -1 → (w = q → f_X5_trueYear p w C = e_T C p q)) ∧ (∀ w : Int, w ≠ -1 → (w = p → f_X5_trueYear q w C = e_T C p q)) := by
  obtain ⟨t1, t2⟩ := p_twoOf (M := R) (s := p) (q := q) (by omega) (by omega) (by omega)
  have sy := f_cpl_sy p4 q4
  have h2 : C 14 2 = R 98 0 ∧ 0 ≤ R 98 0 ∧ R 98 0 ≤ 99 := by
    obtain ⟨e, k⟩ := h.hd 0 (by decide) (by decide)
    unfold g_hb at k
    exact ⟨e, k.1, k.2.1⟩
  have h3 : C 14 3 = R 98 1 ∧ 0 ≤ R 98 1 ∧ R 98 1 ≤ 99 := by
    obtain ⟨e, k⟩ := h.hd 1 (by decide) (by decide)
    unfold g_hb at k
    exact ⟨e, k.1, k.2.1⟩
  obtain ⟨f1, f2, f3⟩ := h.ft (f_cpl p q) t2.1 t2.2
  unfold e_T
  unfold F_X12_truly f_X5_trueYear
  dsimp only [gj_letI]
  rw [t1, gj_chkp t2, ← f1, ← h2.1, ← h3.1]
  have g2 : 0 ≤ C 14 2 ∧ C 14 2 ≤ 99 := by rw [h2.1]; exact h2.2
  have g3 : 0 ≤ C 14 3 ∧ C 14 3 ≤ 99 := by rw [h3.1]; exact h3.2
  have e1 : ∀ w : Int, w = q → f_at C 19 16 (f_cpl p w) = C 19 (f_cpl p q) := fun w e => by rw [e]; exact f_at_in t2
  have e2 : ∀ w : Int, w = p → f_at C 19 16 (f_cpl q w) = C 19 (f_cpl p q) := fun w e => by rw [e, sy]; exact f_at_in t2
  have m0 := g_mul (a := C 19 (f_cpl p q)) (A := 16) ⟨f2, f3⟩ g2
  have m1 := g_mul (a := 16 - C 19 (f_cpl p q)) (A := 16) (by omega) g3
  have mm : C 19 (f_cpl p q) * C 14 2 + (16 - C 19 (f_cpl p q)) * C 14 3 ≤ 1584 := by
    have a1 : C 19 (f_cpl p q) * C 14 2 ≤ C 19 (f_cpl p q) * 99 := Int.mul_le_mul_of_nonneg_left g2.2 f2
    have a2 : (16 - C 19 (f_cpl p q)) * C 14 3 ≤ (16 - C 19 (f_cpl p q)) * 99 := Int.mul_le_mul_of_nonneg_left g3.2 (by omega)
    omega
  have ws : gj_w (gj_w (C 19 (f_cpl p q) * C 14 2) + gj_w (gj_w (16 - C 19 (f_cpl p q)) * C 14 3)) = C 19 (f_cpl p q) * C 14 2 + (16 - C 19 (f_cpl p q)) * C 14 3 := by
    rw [gj_wle (x := C 19 (f_cpl p q) * C 14 2) (by omega) (by omega), gj_wle (x := 16 - C 19 (f_cpl p q)) (by omega) (by omega), gj_wle (x := (16 - C 19 (f_cpl p q)) * C 14 3) (by omega) (by omega), gj_wle (by omega) (by omega)]
  refine ⟨⟨by omega, mm⟩, ?_, fun w n e => ?_, fun w n e => ?_⟩
  · rw [ws, gj_wle (by omega) (by omega)]
  · rw [if_neg n, e1 w e, ws]
  · rw [if_neg n, e2 w e, ws]
def e_yc (z : Int) (C : gj_M) : Int → Int := fun j => if f_X5_isPerson_14 j C = 0 then 0 else f_X5_trueYear j (C z j) C
theorem p_ysE {z : Int} {C : gj_M} (h : ∀ j : Int, 0 ≤ j → j < 8 → 0 ≤ e_yc z C j ∧ e_yc z C j ≤ 3200) : F_X5_yearSum z 8 C = some (e_sum (e_yc z C) 8) := by
  unfold F_X5_yearSum
  refine gj_okQ2 (fun y : Option Int => y = some (e_sum (e_yc z C) 8)) (fun l2 l3 => 0 ≤ l3 ∧ l3 ≤ 8 ∧ l2 = e_sum (e_yc z C) l3.toNat) (fun _ l3 => (8 - l3).toNat) ?_ gj_fu 0 0 ⟨by decide, by decide, rfl⟩ (by show _ < 2048; omega)
  rintro rec l2 l3 ⟨a, b, e⟩ hr
  unfold B_X5_yearSum_4 J_X5_yearSum_31
  dsimp only [gj_letI]
  by_cases c : 8 ≤ l3
  · rw [if_pos c, e, show l3.toNat = 8 by omega]
  have bb := e_sum_b (y := e_yc z C) l3.toNat (fun j x y => h j x (by omega))
  have nx : e_sum (e_yc z C) (l3 + 1).toNat = e_sum (e_yc z C) l3.toNat + e_yc z C l3 := by
    rw [show (l3 + 1).toNat = l3.toNat + 1 by omega]
    show e_sum (e_yc z C) l3.toNat + e_yc z C ((l3.toNat : Nat) : Int) = _
    rw [show ((l3.toNat : Nat) : Int) = l3 by omega]
  have hy := h l3 a (by omega)
  rw [if_neg c, gj_wle (x := l3 + 1) (by omega) (by omega), f_at_in (show 0 ≤ l3 ∧ l3 < 8 by omega)]
  by_cases d : f_X5_isPerson_14 l3 C = 0
  · rw [if_pos d]
    refine hr _ _ ⟨by omega, by omega, ?_⟩ (by omega)
    rw [nx, show e_yc z C l3 = 0 from if_pos d, e, Int.add_zero]
  · have ey : e_yc z C l3 = f_X5_trueYear l3 (C z l3) C := if_neg d
    rw [if_neg d, ← ey, gj_wle (x := l2 + e_yc z C l3) (by omega) (by omega)]
    exact hr _ _ ⟨by omega, by omega, by rw [nx, e]⟩ (by omega)
def e_yr (w : Int) (C R : gj_M) : Int → Int := fun j => if (j < 4 ∧ j < R 101 0) ∨ (4 ≤ j ∧ j - 4 < R 101 1) then (if R w j = -1 then 16 * R 83 j else if 4 ≤ j then 0 else 2 * e_T C j (R w j)) else 0
def e_A (w : Int) (R : gj_M) : Int → Int := fun j => if (j < 4 ∧ j < R 101 0) ∨ (4 ≤ j ∧ j - 4 < R 101 1) then (if R w j = -1 then 16 * R 83 j else 0) else 0
def e_U (w : Int) (C R : gj_M) : Int → Int := fun j => if R w j = -1 then 0 else if 4 ≤ j then e_T C (R w j) j else e_T C j (R w j)
def e_V (w : Int) (C R : gj_M) (p q : Int) : Int := if R w p = q then e_T C p q else 0
theorem p_pe14 {C R : gj_M} (h : g_PL C R) {j : Int} (j8 : 0 ≤ j ∧ j < 8) : (f_X5_isPerson_14 j C = 0 ∧ ¬ ((j < 4 ∧ j < R 101 0) ∨ (4 ≤ j ∧ j - 4 < R 101 1))) ∨ (¬ f_X5_isPerson_14 j C = 0 ∧ ((j < 4 ∧ j < R 101 0) ∨ (4 ≤ j ∧ j - 4 < R 101 1))) := by
  unfold f_X5_isPerson_14
  rw [h.n0, h.n1]
  by_cases c : 4 ≤ j
  · rw [if_pos c, gj_wle (x := j - 4) (by omega) (by omega)]
    by_cases d : R 101 1 ≤ j - 4
    · rw [if_pos d]
      exact Or.inl ⟨rfl, by omega⟩
    · rw [if_neg d]
      exact Or.inr ⟨by decide, by omega⟩
  · rw [if_neg c, if_neg (show ¬ j < 0 by omega)]
    by_cases d : R 101 0 ≤ j
    · rw [if_pos d]
      exact Or.inl ⟨rfl, by omega⟩
    · rw [if_neg d]
      exact Or.inr ⟨by decide, by omega⟩
theorem p_yU {C R : gj_M} {z w : Int} (h : g_PL C R) (e : ∀ j, 0 ≤ j → j < 8 → C z j = R w j) (sy : g_SY w R) {j : Int} (j8 : 0 ≤ j ∧ j < 8) : e_yc z C j = e_A w R j + e_U w C R j ∧ e_yr w C R j = e_A w R j + (if 4 ≤ j then 0 else 2 * e_U w C R j) ∧ (0 ≤ e_A w R j ∧ e_A w R j ≤ 1584) ∧ (0 ≤ e_U w C R j ∧ e_U w C R j ≤ 1584) := by
  unfold e_yc e_yr e_A e_U
  rw [e j j8.1 j8.2]
  have pe := p_pe14 h j8
  by_cases n : R w j = -1
  · rw [if_pos n, if_pos n, if_pos n]
    rcases pe with ⟨c, d⟩ | ⟨c, d⟩
    · rw [if_pos c, if_neg d]
      refine ⟨by decide, ?_, by decide, by decide⟩
      split <;> decide
    · rw [if_neg c, if_pos d]
      obtain ⟨a1, a2, a3⟩ := h.al j j8.1 j8.2 (by
        unfold g_pe
        rw [h.n0, h.n1]
        exact d)
      have ty : f_X5_trueYear j (R w j) C = 16 * R 83 j := by
        unfold f_X5_trueYear
        rw [if_pos n, f_at_in j8, a1, gj_wle (by omega) (by omega)]
      rw [ty]
      refine ⟨by omega, ?_, by omega, by decide⟩
      split <;> omega
  · obtain ⟨⟨m0, m8, mo⟩, p1, p2, p3⟩ := (sy j j8.1 j8.2).resolve_left n
    have d : (j < 4 ∧ j < R 101 0) ∨ (4 ≤ j ∧ j - 4 < R 101 1) := p1
    have c : ¬ f_X5_isPerson_14 j C = 0 := by
      rcases pe with ⟨x, y⟩ | ⟨x, y⟩
      · exact absurd d y
      · exact x
    rw [if_neg c, if_pos d, if_neg n, if_neg n, if_neg n, if_pos d]
    by_cases j4 : 4 ≤ j
    · rw [if_pos j4, if_pos j4]
      obtain ⟨b1, -, -, b4⟩ := e_T_b h (p := R w j) (q := j) (by omega) (by omega)
      rw [b4 (R w j) n rfl]
      exact ⟨by omega, by rw [if_pos j4]; rfl, by decide, b1⟩
    · rw [if_neg j4, if_neg j4]
      obtain ⟨b1, -, b3, -⟩ := e_T_b h (p := j) (q := R w j) (by omega) (by omega)
      rw [b3 (R w j) n rfl]
      exact ⟨by omega, by omega, by decide, b1⟩
theorem p_UL {C R : gj_M} {w : Int} (sy : g_SY w R) {p : Int} (p4 : 0 ≤ p ∧ p < 4) : e_U w C R p = e_V w C R p 4 + e_V w C R p 5 + e_V w C R p 6 + e_V w C R p 7 := by
  unfold e_U e_V
  by_cases n : R w p = -1
  · rw [if_pos n, n, if_neg (by decide), if_neg (by decide), if_neg (by decide), if_neg (by decide)]
    rfl
  · obtain ⟨⟨m0, m8, mo⟩, -⟩ := (sy p p4.1 (by omega)).resolve_left n
    rw [if_neg n, if_neg (show ¬ 4 ≤ p by omega)]
    have : R w p = 4 ∨ R w p = 5 ∨ R w p = 6 ∨ R w p = 7 := by omega
    rcases this with e | e | e | e <;> rw [e]
    · rw [if_pos rfl, if_neg (by decide), if_neg (by decide), if_neg (by decide)]; omega
    · rw [if_neg (by decide), if_pos rfl, if_neg (by decide), if_neg (by decide)]; omega
    · rw [if_neg (by decide), if_neg (by decide), if_pos rfl, if_neg (by decide)]; omega
    · rw [if_neg (by decide), if_neg (by decide), if_neg (by decide), if_pos rfl]; omega
theorem p_UR {C R : gj_M} {w : Int} (sy : g_SY w R) {q : Int} (q4 : 4 ≤ q ∧ q < 8) : e_U w C R q = e_V w C R 0 q + e_V w C R 1 q + e_V w C R 2 q + e_V w C R 3 q := by
  have back : ∀ p : Int, 0 ≤ p → p < 4 → R w p = q → R w q = p := fun p a b e => by
    obtain ⟨-, -, -, k⟩ := (sy p a (by omega)).resolve_left (by omega)
    rw [e] at k
    exact k
  unfold e_U e_V
  by_cases n : R w q = -1
  · have no : ∀ p : Int, 0 ≤ p → p < 4 → ¬ R w p = q := fun p a b e => by
      have := back p a b e
      omega
    rw [if_pos n, if_neg (no 0 (by decide) (by decide)), if_neg (no 1 (by decide) (by decide)), if_neg (no 2 (by decide) (by decide)), if_neg (no 3 (by decide) (by decide))]
    rfl
  · obtain ⟨⟨m0, m8, mo⟩, -, -, k⟩ := (sy q (by omega) q4.2).resolve_left n
    have no : ∀ p : Int, 0 ≤ p → p < 4 → R w q ≠ p → ¬ R w p = q := fun p a b c e => c (back p a b e)
    rw [if_neg n, if_pos q4.1]
    have : R w q = 0 ∨ R w q = 1 ∨ R w q = 2 ∨ R w q = 3 := by omega
    rcases this with e | e | e | e <;> rw [e] at k ⊢
    · rw [if_pos k, if_neg (no 1 (by decide) (by decide) (by omega)), if_neg (no 2 (by decide) (by decide) (by omega)), if_neg (no 3 (by decide) (by decide) (by omega))]; omega
    · rw [if_pos k, if_neg (no 0 (by decide) (by decide) (by omega)), if_neg (no 2 (by decide) (by decide) (by omega)), if_neg (no 3 (by decide) (by decide) (by omega))]; omega
    · rw [if_pos k, if_neg (no 0 (by decide) (by decide) (by omega)), if_neg (no 1 (by decide) (by decide) (by omega)), if_neg (no 3 (by decide) (by decide) (by omega))]; omega
    · rw [if_pos k, if_neg (no 0 (by decide) (by decide) (by omega)), if_neg (no 1 (by decide) (by decide) (by omega)), if_neg (no 2 (by decide) (by decide) (by omega))]; omega
theorem p_srE {C R : gj_M} {z w : Int} (h : g_PL C R) (e : ∀ j, 0 ≤ j → j < 8 → C z j = R w j) (sy : g_SY w R) : F_X12_sumOf w 8 R = some (e_sum (e_yr w C R) 8) := by
  have hb : ∀ j : Int, 0 ≤ j → j < 8 → 0 ≤ e_yr w C R j ∧ e_yr w C R j ≤ 3200 := fun j a b => by
    obtain ⟨-, x, y, z⟩ := p_yU h e sy (j := j) ⟨a, b⟩
    rw [x]
    have n : R w j = -1 ∨ R w j ≠ -1 := by omega
    rcases n with n | n
    · have : e_U w C R j = 0 := if_pos n
      split <;> omega
    · have : e_A w R j = 0 := by
        unfold e_A
        rw [if_neg n]
        split <;> rfl
      split <;> omega
  have b0 := h.b0
  have b1 := h.b1
  have n0 := h.n0
  have n1 := h.n1
  unfold F_X12_sumOf
  refine gj_okQ2 (fun y : Option Int => y = some (e_sum (e_yr w C R) 8)) (fun l2 l3 => 0 ≤ l3 ∧ l3 ≤ 8 ∧ l2 = e_sum (e_yr w C R) l3.toNat) (fun _ l3 => (8 - l3).toNat) ?_ gj_fu 0 0 ⟨by decide, by decide, rfl⟩ (by show _ < 2048; omega)
  rintro rec l2 l3 ⟨a, b, ee⟩ hr
  unfold B_X12_sumOf_4 J_X12_sumOf_69
  dsimp only [gj_letI]
  by_cases c : 8 ≤ l3
  · rw [if_pos c, ee, show l3.toNat = 8 by omega]
  have l8 : 0 ≤ l3 ∧ l3 < 8 := by omega
  have bb := e_sum_b (y := e_yr w C R) l3.toNat (fun j x y => hb j x (by omega))
  have nx : e_sum (e_yr w C R) (l3 + 1).toNat = e_sum (e_yr w C R) l3.toNat + e_yr w C R l3 := by
    rw [show (l3 + 1).toNat = l3.toNat + 1 by omega]
    show e_sum (e_yr w C R) l3.toNat + e_yr w C R ((l3.toNat : Nat) : Int) = _
    rw [show ((l3.toNat : Nat) : Int) = l3 by omega]
  have hy := hb l3 a l8.2
  rw [if_neg c, g_tdiv a, g_tmod a, gj_wle (x := l3 / 4) (by omega) (by omega), gj_wle (x := l3 + 1) (by omega) (by omega), gj_chkp (by omega)]
  have go : ∀ x : Int, x = e_yr w C R l3 → rec (l2 + x) (l3 + 1) = some (e_sum (e_yr w C R) 8) := fun x ex => hr _ _ ⟨by omega, by omega, by rw [nx, ee, ex]⟩ (by omega)
  by_cases d : (l3 < 4 ∧ l3 < R 101 0) ∨ (4 ≤ l3 ∧ l3 - 4 < R 101 1)
  · have d2 : l3 % 4 < R 101 (l3 / 4) := by
      rcases d with q | q
      · rw [show l3 / 4 = 0 by omega]; omega
      · rw [show l3 / 4 = 1 by omega]; omega
    rw [if_pos d2, gj_chkp l8]
    by_cases n : R w l3 = -1
    · have ey : e_yr w C R l3 = 16 * R 83 l3 := by
        unfold e_yr
        rw [if_pos d, if_pos n]
      have al := h.al l3 l8.1 l8.2 (by
        unfold g_pe
        rw [n0, n1]
        exact d)
      rw [if_pos n, gj_chkp l8, gj_wle (x := 16 * R 83 l3) (by omega) (by omega), gj_wle (by omega) (by omega)]
      exact go _ ey.symm
    · rw [if_neg n]
      by_cases j4 : 4 ≤ l3
      · rw [if_pos j4]
        have ey : e_yr w C R l3 = 0 := by
          unfold e_yr
          rw [if_pos d, if_neg n, if_pos j4]
        have := go 0 ey.symm
        rw [Int.add_zero] at this
        exact this
      · obtain ⟨⟨m0, m8, mo⟩, -⟩ := (sy l3 l8.1 l8.2).resolve_left n
        obtain ⟨b1, b2, -⟩ := e_T_b h (p := l3) (q := R w l3) (by omega) (by omega)
        have ey : e_yr w C R l3 = 2 * e_T C l3 (R w l3) := by
          unfold e_yr
          rw [if_pos d, if_neg n, if_neg j4]
        rw [if_neg j4, gj_chkp l8, b2, gj_bnd_s, gj_wle (by omega) (by omega)]
        exact go _ ey.symm
  · have d2 : ¬ l3 % 4 < R 101 (l3 / 4) := by
      by_cases q : l3 < 4
      · rw [show l3 / 4 = 0 by omega]; omega
      · rw [show l3 / 4 = 1 by omega]; omega
    rw [if_neg d2]
    have ey : e_yr w C R l3 = 0 := if_neg d
    have := go 0 ey.symm
    rw [Int.add_zero] at this
    exact this
theorem p_sumJ {C R : gj_M} {z w : Int} (h : g_PL C R) (e : ∀ j, 0 ≤ j → j < 8 → C z j = R w j) (sy : g_SY w R) : ∃ v, F_X5_yearSum z 8 C = some v ∧ F_X12_sumOf w 8 R = some v ∧ 0 ≤ v ∧ v ≤ 25600 := by
  have q := fun (j : Int) (a : 0 ≤ j) (b : j < 8) => p_yU h e sy (j := j) ⟨a, b⟩
  have hb : ∀ j : Int, 0 ≤ j → j < 8 → 0 ≤ e_yc z C j ∧ e_yc z C j ≤ 3200 := fun j a b => by
    obtain ⟨x, -, y, z⟩ := q j a b
    omega
  have bd := e_sum_b (y := e_yc z C) 8 (fun j a b => hb j a b)
  refine ⟨_, p_ysE hb, ?_, bd.1, by omega⟩
  rw [p_srE h e sy]
  have x0 := q 0 (by decide) (by decide)
  have x1 := q 1 (by decide) (by decide)
  have x2 := q 2 (by decide) (by decide)
  have x3 := q 3 (by decide) (by decide)
  have x4 := q 4 (by decide) (by decide)
  have x5 := q 5 (by decide) (by decide)
  have x6 := q 6 (by decide) (by decide)
  have x7 := q 7 (by decide) (by decide)
  rw [if_neg (by decide)] at x0 x1 x2 x3
  rw [if_pos (by decide)] at x4 x5 x6 x7
  have u0 := p_UL (C := C) sy (p := 0) (by decide)
  have u1 := p_UL (C := C) sy (p := 1) (by decide)
  have u2 := p_UL (C := C) sy (p := 2) (by decide)
  have u3 := p_UL (C := C) sy (p := 3) (by decide)
  have u4 := p_UR (C := C) sy (q := 4) (by decide)
  have u5 := p_UR (C := C) sy (q := 5) (by decide)
  have u6 := p_UR (C := C) sy (q := 6) (by decide)
  have u7 := p_UR (C := C) sy (q := 7) (by decide)
  have s : ∀ y : Int → Int, e_sum y 8 = 0 + y 0 + y 1 + y 2 + y 3 + y 4 + y 5 + y 6 + y 7 := fun y => rfl
  rw [s, s]
  congr 1
  omega
