/-! PURE: how often two said yes stays small; pairs told alike -/
def z_B (b : Int) (z : Int) (C : gj_M) : Prop := ∀ j, 0 ≤ j → j < 8 → 0 ≤ C z j ∧ C z j ≤ b
def g_YB (b : Int) (C : gj_M) : Prop := 0 ≤ b ∧ z_B b 24 C ∧ ∀ k, 0 ≤ k → k < 3 → z_B b (50 + 10 * k) C
def g_PK (b : Int) (C R : gj_M) : Prop := g_ZK C R ∧ g_YB b C
theorem z_letI {T : Type} {x : Int} {f : Int → T} : gj_letI x f = f x := rfl
theorem z_B_m {b d z : Int} {C : gj_M} (h : z_B b z C) (hb : b ≤ d) : z_B d z C := fun j x y => by
  have := h j x y
  omega
theorem z_B_s {b z : Int} {C D : gj_M} (h : z_B b z C) (e : D z = C z) : z_B b z D := fun j x y => by
  rw [e]
  exact h j x y
theorem g_YB_m {b d : Int} {C : gj_M} (h : g_YB b C) (hb : b ≤ d) : g_YB d C := ⟨by have := h.1; omega, z_B_m h.2.1 hb, fun k x y => z_B_m (h.2.2 k x y) hb⟩
theorem g_YB_fr {b : Int} {M D : gj_M} {os : List Int} {ps : List (Int × Int)} (h : g_YB b M) (f : gj_Fr os ps M D) (a : g_aw os ps [24, 50, 60, 70] [] = true) : g_YB b D := by
  have r : ∀ z, ([24, 50, 60, 70] : List Int).contains z = true → z < 136 → D z = M z := fun z hz k => g_fr_row _ f (g_aw1 a) z hz k
  refine ⟨h.1, z_B_s h.2.1 (r 24 rfl (by decide)), fun k x y => z_B_s (h.2.2 k x y) ?_⟩
  have : k = 0 ∨ k = 1 ∨ k = 2 := by omega
  rcases this with e | e | e <;> rw [e]
  · exact r 50 rfl (by decide)
  · exact r 60 rfl (by decide)
  · exact r 70 rfl (by decide)
theorem g_YB_no {b : Int} {M : gj_M} {i : Int} (h : g_YB b M) : g_YB b (gj_up (gj_up M 78 i (gj_w (M 78 i + 1))) 80 i (gj_w (gj_up M 78 i (gj_w (M 78 i + 1)) 80 i + 1))) := by
  have f : gj_Fr [78, 80] [] M (gj_up (gj_up M 78 i (gj_w (M 78 i + 1))) 80 i (gj_w (gj_up M 78 i (gj_w (M 78 i + 1)) 80 i + 1))) := (gj_Fr.rf.up rfl).up rfl
  exact g_YB_fr h f (by decide)
theorem g_fp1 {os : List Int} {ps : List (Int × Int)} {z i : Int} (h1 : os.contains z = false) (h2 : ps.all (fun q => !(q.1 == z)) = true) : gj_fp os ps z i = false := by
  unfold gj_fp
  rw [Bool.or_eq_false_iff]
  refine ⟨h1, ?_⟩
  rw [← Bool.not_eq_true]
  intro q
  have h3 := List.all_eq_true.mp h2 (z, i) (List.elem_iff.mp q)
  simp at h3
theorem z_m0 {a i : Int} (h : (a ≠ 68 ∧ a ≠ 58 ∧ a ≠ 48 ∧ a ≠ 22) ∧ ¬ (a = 79 ∧ i = 37)) : gj_m0 a i = 0 := by
  obtain ⟨⟨h1, h2, h3, h4⟩, h5⟩ := h
  unfold gj_m0 k_mF
  rw [if_neg]
  rintro (⟨q, -, -⟩ | ⟨-, q⟩)
  · simp at q
    omega
  · exact h5 q
/-- parted: none; asked: one more -/
theorem c_free24 {C : gj_M} {a j : Int} : f_X3_free a C 24 j = 0 ∨ f_X3_free a C 24 j = C 24 j := by
  unfold f_X3_free
  rw [gj_let_s, gj_let_s, gj_let_s]
  have e : ∀ X : gj_M, X = f_put (f_put C 22 8 a (-1)) 23 8 a 0 → X 24 = C 24 := fun X q => by rw [q, f_put_z (by decide), f_put_z (by decide)]
  generalize hX : f_put (f_put C 22 8 a (-1)) 23 8 a 0 = X
  rw [← e X hX.symm]
  unfold f_put
  split
  · rw [gj_up_if]
    split
    · exact Or.inl rfl
    · exact Or.inr rfl
  · exact Or.inr rfl
theorem c_loosen24 {C : gj_M} {p q j : Int} : f_X3_loosen p q C 24 j = 0 ∨ f_X3_loosen p q C 24 j = C 24 j := by
  unfold f_X3_loosen
  rw [gj_let_s, gj_let_s]
  rcases c_free24 (C := f_X3_free p C) (a := q) (j := j) with e | e
  · exact Or.inl e
  · rw [e]
    exact c_free24
theorem z_B_0 {b : Int} {C D : gj_M} (b0 : 0 ≤ b) (h : z_B b 24 C) (e : ∀ j, D 24 j = 0 ∨ D 24 j = C 24 j) : z_B b 24 D := fun j x y => by
  have := h j x y
  rcases e j with q | q <;> rw [q] <;> omega
theorem c_hear139 {C : gj_M} {l1 l2 l3 s1 s2 j : Int} : J_X8_hear_139 l1 l2 l3 s1 s2 C 24 j = 0 ∨ J_X8_hear_139 l1 l2 l3 s1 s2 C 24 j = C 24 j := by
  unfold J_X8_hear_139
  rw [gj_let_s, gj_let_s, gj_let_s]
  rcases c_loosen24 (C := f_X1_add (f_X3_earn s1 s2 C 21 0) l1 (f_num l2) (f_at (f_X3_earn s1 s2 C) 23 8 l1) l3 (f_X3_earn s1 s2 C)) (p := l1) (q := l2) (j := j) with e | e
  · exact Or.inl e
  · right
    rw [e]
    have f1 := fr_X1_add (f_X3_earn s1 s2 C 21 0) l1 (f_num l2) (f_at (f_X3_earn s1 s2 C) 23 8 l1) l3 (M := f_X3_earn s1 s2 C)
    have f2 := fr_X3_earn s1 s2 (M := C)
    rw [f1 24 j (by decide) (g_fp1 (by decide) (by decide)), f2 24 j (by decide) (g_fp1 (by decide) (by decide))]
theorem c_hear108 {C : gj_M} {l1 l2 l3 s1 s2 j : Int} : J_X8_hear_108 l1 l2 l3 s1 s2 C 24 j = 0 ∨ J_X8_hear_108 l1 l2 l3 s1 s2 C 24 j = C 24 j := by
  unfold J_X8_hear_108
  rw [gj_let_s]
  have f2 := fr_X3_earn s1 s2 (M := C)
  have e : f_X3_earn s1 s2 C 24 j = C 24 j := f2 24 j (by decide) (g_fp1 (by decide) (by decide))
  split
  · rcases c_hear139 (C := f_X3_earn s1 s2 C) (l1 := l1) (l2 := l2) (l3 := l3) (s1 := l2) (s2 := 0) (j := j) with q | q
    · exact Or.inl q
    · exact Or.inr (q.trans e)
  · rcases c_hear139 (C := f_X3_earn s1 s2 C) (l1 := l1) (l2 := l2) (l3 := l3) (s1 := l2) (s2 := gj_w (-(f_X3_earn s1 s2 C 14 8))) (j := j) with q | q
    · exact Or.inl q
    · exact Or.inr (q.trans e)
theorem z_put {b v z n i : Int} {C : gj_M} (h : z_B b z C) (hv : 0 ≤ v ∧ v ≤ b) : z_B b z (f_put C z n i v) := fun j x y => by
  unfold f_put
  split
  · rw [gj_up_if]
    split
    · exact hv
    · exact h j x y
  · exact h j x y
theorem c_hear32 {C : gj_M} {b l1 l2 s0 s1 : Int} (b0 : 0 ≤ b) (bB : b ≤ 1000000) (h : z_B b 24 C) : z_B (b + 1) 24 (J_X8_hear_32 l1 l2 s0 s1 C) := by
  unfold J_X8_hear_32
  split
  · rw [z_letI, gj_let_s, gj_let_s]
    have w : 0 ≤ gj_w (f_at C 24 8 l1 + 1) ∧ gj_w (f_at C 24 8 l1 + 1) ≤ b + 1 := by
      have : 0 ≤ f_at C 24 8 l1 ∧ f_at C 24 8 l1 ≤ b := by
        unfold f_at
        split
        · next q => exact h l1 q.1 q.2
        · omega
      rw [gj_wle (by omega) (by omega)]
      omega
    exact z_put (z_put (z_B_m h (by omega)) w) w
  · split
    · exact z_B_m (z_B_0 b0 h (fun j => c_hear108)) (by omega)
    · exact z_B_m (z_B_0 b0 h (fun j => c_hear108)) (by omega)
theorem c_hear24 {C : gj_M} {b a c : Int} (b0 : 0 ≤ b) (bB : b ≤ 1000000) (h : z_B b 24 C) : z_B (b + 1) 24 (f_X8_hear a c C) := by
  unfold f_X8_hear J_X8_hear_16
  (repeat' split) <;> exact c_hear32 b0 bB h
theorem c_endPairs24 {C : gj_M} {b : Int} (b0 : 0 ≤ b) (bB : b ≤ 900000) (h : z_B b 24 C) : ∀ D, F_X8_endPairs C = some D → z_B (b + 4) 24 D := by
  unfold F_X8_endPairs
  refine gj_okM1 (fun y : Option gj_M => ∀ D, y = some D → z_B (b + 4) 24 D) (fun l N => 0 ≤ l ∧ l ≤ 4 ∧ z_B (b + l) 24 N) (fun l _ => (4 - l).toNat) ?_ gj_fu 0 C ⟨by decide, by decide, z_B_m h (by omega)⟩ (by show _ < 2048; omega)
  rintro rec l N ⟨x, y, hN⟩ hr
  unfold B_X8_endPairs_2 J_X8_endPairs_30
  by_cases c : 4 ≤ l
  · rw [if_pos c]
    intro D e
    rw [← Option.some.inj e]
    exact z_B_m hN (by omega)
  · rw [if_neg c, gj_wle (x := l + 1) (by omega) (by omega)]
    split
    · exact hr _ _ ⟨by omega, by omega, z_B_m hN (by omega)⟩ (by omega)
    · rw [gj_let_s]
      refine hr _ _ ⟨by omega, by omega, ?_⟩ (by omega)
      have := c_hear24 (a := l) (c := f_at N 22 8 l) (by omega) (by omega) hN
      exact z_B_m this (by omega)
theorem c_hold24 {C : gj_M} {b : Int} (b0 : 0 ≤ b) (bB : b ≤ 900000) (h : z_B b 24 C) : ∀ D, F_X8_hold C = some D → z_B (b + 4) 24 D := by
  intro D e
  unfold F_X8_hold at e
  obtain ⟨C1, x1, e⟩ := gj_bndd e
  obtain ⟨C2, x2, e⟩ := gj_bndd e
  obtain ⟨C3, x3, e⟩ := gj_bndd e
  obtain ⟨C4, x4, e⟩ := gj_bndd e
  obtain ⟨C5, x5, e⟩ := gj_bndd e
  obtain ⟨C6, x6, e⟩ := gj_bndd e
  obtain ⟨C7, x7, e⟩ := gj_bndd e
  rw [← Option.some.inj e]
  have f1 : gj_Fr _ _ C C1 := fr_X8_askPaired C1 x1
  have f3 : gj_Fr _ _ C2 C3 := fr_X2_gather 0 C3 x3
  have f4 : gj_Fr _ _ C3 C4 := fr_X2_look 1 C4 x4
  have f5 : gj_Fr _ _ C4 C5 := fr_X2_pairUp (C4 21 1) C5 x5
  have f6 : gj_Fr _ _ C5 C6 := fr_X8_bindNewPairs C6 x6
  have f7 : gj_Fr _ _ C6 C7 := fr_X8_passYear C7 x7
  have h2 := c_endPairs24 b0 bB (z_B_s h (g_fr_row [24] f1 (by decide) 24 rfl (by decide))) C2 x2
  exact z_B_s (z_B_s (z_B_s (z_B_s (z_B_s h2 (g_fr_row [24] f3 (by decide) 24 rfl (by decide))) (g_fr_row [24] f4 (by decide) 24 rfl (by decide))) (g_fr_row [24] f5 (by decide) 24 rfl (by decide))) (g_fr_row [24] f6 (by decide) 24 rfl (by decide))) (g_fr_row [24] f7 (by decide) 24 rfl (by decide))
theorem c_may24 {C : gj_M} {a b : Int} (b0 : 0 ≤ b) (bB : b ≤ 500000) (h : z_B b 24 C) : ∀ v D, F_X11_may a C = some (v, D) → z_B (b + 200) 24 D := by
  have no : ∀ v D, (gj_let2 (f_X11_refuse 2 C) (fun x1 M2 => some ((-1 : Int), M2))) = some (v, D) → z_B (b + 200) 24 D := fun v D e => by
    unfold gj_let2 at e
    rw [c_refuse (by decide)] at e
    obtain ⟨-, rfl⟩ := g_some2 rfl e
    exact z_B_m (z_B_s h (funext fun i => by
      show gj_up C 78 2 (gj_w (C 78 2 + 1)) 24 i = C 24 i
      exact gj_up_z (by decide))) (by omega)
  unfold F_X11_may
  by_cases c1 : a < 1
  · rw [if_pos c1]
    exact no
  rw [if_neg c1]
  by_cases c2 : 50 < a
  · rw [if_pos c2]
    exact no
  rw [if_neg c2, z_letI]
  by_cases c3 : f_X5_stands_14 C = 0
  · rw [if_pos c3]
    exact no
  rw [if_neg c3]
  refine gj_okM2 (fun y : Option (Int × gj_M) => ∀ v D, y = some (v, D) → z_B (b + 200) 24 D) (fun l1 l2 N => l1 = a ∧ 0 ≤ l2 ∧ l2 ≤ 50 ∧ z_B (b + 4 * l2) 24 N) (fun _ l2 _ => (50 - l2).toNat) ?_ gj_fu a 0 C ⟨rfl, by decide, by decide, z_B_m h (by omega)⟩ (by show _ < 2048; omega)
  rintro rec l1 l2 N ⟨e1, x, y, hN⟩ hr
  unfold B_X11_may_31 J_X11_may_49
  by_cases c : l1 ≤ l2
  · rw [if_pos c]
    intro v D e
    obtain ⟨-, rfl⟩ := g_some2 rfl e
    exact z_B_m hN (by omega)
  · rw [if_neg c, gj_wle (x := l2 + 1) (by omega) (by omega)]
    intro v D e
    obtain ⟨K, y1, e⟩ := gj_bndd e
    have hK := c_hold24 (by omega) (by omega) hN K y1
    exact hr _ _ K ⟨e1, by omega, by omega, z_B_m hK (by omega)⟩ (by omega) v D e
theorem z_best {b0 : Int} {M : gj_M} {a b d : Int} (h : g_PK b0 M M) : ∃ v D U, F_X11_best a b d M = some (v, D) ∧ F_X12_best a b d D = some (v, U) ∧ g_PK (b0 + 200) U U := by
  obtain ⟨v, D, U, e1, e2, hU⟩ := y_best (a := a) (b := b) (d := d) h.1
  have f1 : gj_Fr _ _ M D := fr_X11_best _ _ _ _ e1
  have f2 : gj_Fr _ _ D U := fr_X12_best _ _ _ _ e2
  exact ⟨v, D, U, e1, e2, hU, g_YB_m (g_YB_fr (g_YB_fr h.2 f1 (by decide)) f2 (by decide)) (by omega)⟩
theorem z_act {b0 : Int} {M : gj_M} {a b d : Int} (h : g_PK b0 M M) : ∃ v D U, F_X11_act a b d M = some (v, D) ∧ F_X12_act a b d D = some (v, U) ∧ g_PK (b0 + 200) U U := by
  obtain ⟨v, D, U, e1, e2, hU⟩ := y_act (a := a) (b := b) (d := d) h.1
  have f1 : gj_Fr _ _ M D := fr_X11_act _ _ _ _ e1
  have f2 : gj_Fr _ _ D U := fr_X12_act _ _ _ _ e2
  exact ⟨v, D, U, e1, e2, hU, g_YB_m (g_YB_fr (g_YB_fr h.2 f1 (by decide)) f2 (by decide)) (by omega)⟩
theorem z_silent {b0 : Int} {M : gj_M} {a b : Int} (h : g_PK b0 M M) : ∃ v D U, F_X11_silent a b M = some (v, D) ∧ F_X12_silent a b D = some (v, U) ∧ g_PK (b0 + 200) U U := by
  obtain ⟨v, D, U, e1, e2, hU⟩ := y_silent (a := a) (b := b) h.1
  have f1 : gj_Fr _ _ M D := fr_X11_silent _ _ _ e1
  have f2 : gj_Fr _ _ D U := fr_X12_silent _ _ _ e2
  exact ⟨v, D, U, e1, e2, hU, g_YB_m (g_YB_fr (g_YB_fr h.2 f1 (by decide)) f2 (by decide)) (by omega)⟩
theorem z_bar {b0 : Int} {M : gj_M} {a b d f : Int} (h : g_PK b0 M M) : ∃ v D U, F_X11_bar a b d f M = some (v, D) ∧ F_X12_bar a b d f D = some (v, U) ∧ g_PK (b0 + 200) U U := by
  obtain ⟨v, D, U, e1, e2, hU⟩ := y_bar (a := a) (b := b) (d := d) (f := f) h.1
  have f1 : gj_Fr _ _ M D := fr_X11_bar _ _ _ _ _ e1
  have f2 : gj_Fr _ _ D U := fr_X12_bar _ _ _ _ _ e2
  exact ⟨v, D, U, e1, e2, hU, g_YB_m (g_YB_fr (g_YB_fr h.2 f1 (by decide)) f2 (by decide)) (by omega)⟩
theorem z_price {b0 : Int} {M : gj_M} {a b : Int} (h : g_PK b0 M M) : ∃ v D U, F_X11_price a b M = some (v, D) ∧ F_X12_price a b D = some (v, U) ∧ g_PK (b0 + 200) U U := by
  obtain ⟨v, D, U, e1, e2, hU⟩ := y_price (a := a) (b := b) h.1
  have f1 : gj_Fr _ _ M D := fr_X11_price _ _ _ e1
  have f2 : gj_Fr _ _ D U := fr_X12_price _ _ _ e2
  exact ⟨v, D, U, e1, e2, hU, g_YB_m (g_YB_fr (g_YB_fr h.2 f1 (by decide)) f2 (by decide)) (by omega)⟩
theorem z_waits {b0 : Int} {M : gj_M} {a b d : Int} (h : g_PK b0 M M) : ∃ v D U, F_X11_waits a b d M = some (v, D) ∧ F_X12_waits a b d D = some (v, U) ∧ g_PK (b0 + 200) U U := by
  obtain ⟨v, D, U, e1, e2, hU⟩ := y_waits (a := a) (b := b) (d := d) h.1
  have f1 : gj_Fr _ _ M D := fr_X11_waits _ _ _ _ e1
  have f2 : gj_Fr _ _ D U := fr_X12_waits _ _ _ _ e2
  exact ⟨v, D, U, e1, e2, hU, g_YB_m (g_YB_fr (g_YB_fr h.2 f1 (by decide)) f2 (by decide)) (by omega)⟩
theorem z_green {b0 : Int} {M : gj_M} {a b : Int} (h : g_PK b0 M M) : ∃ v D U, F_X11_green a b M = some (v, D) ∧ F_X12_green a b D = some (v, U) ∧ g_PK (b0 + 200) U U := by
  obtain ⟨v, D, U, e1, e2, hU⟩ := y_green (a := a) (b := b) h.1
  have f1 : gj_Fr _ _ M D := fr_X11_green _ _ _ e1
  have f2 : gj_Fr _ _ D U := fr_X12_green _ _ _ e2
  exact ⟨v, D, U, e1, e2, hU, g_YB_m (g_YB_fr (g_YB_fr h.2 f1 (by decide)) f2 (by decide)) (by omega)⟩
theorem z_feed {b0 : Int} {M : gj_M} {a b c d e : Int} (h : g_PK b0 M M) : ∃ v D U, F_X11_feed a b c d e M = some (v, D) ∧ F_X12_feed a b c d e D = some (v, U) ∧ g_PK (b0 + 200) U U := by
  obtain ⟨v, D, U, e1, e2, hU⟩ := y_feed (a := a) (b := b) (c := c) (d := d) (e := e) h.1
  have f1 : gj_Fr _ _ M D := fr_X11_feed _ _ _ _ _ _ e1
  have f2 : gj_Fr _ _ D U := fr_X12_feed _ _ _ _ _ _ e2
  exact ⟨v, D, U, e1, e2, hU, g_YB_m (g_YB_fr (g_YB_fr h.2 f1 (by decide)) f2 (by decide)) (by omega)⟩
theorem z_life {b0 : Int} {M : gj_M} {a b : Int} (h : g_PK b0 M M) : ∃ v D v' U, F_X11_life a b M = some (v, D) ∧ F_X12_life a b D = some (v', U) ∧ g_PK (b0 + 200) U U := by
  obtain ⟨v, D, v', U, e1, e2, hU⟩ := y_life (a := a) (b := b) h.1
  have f1 : gj_Fr _ _ M D := fr_X11_life _ _ _ e1
  have f2 : gj_Fr _ _ D U := fr_X12_life _ _ _ e2
  exact ⟨v, D, v', U, e1, e2, hU, g_YB_m (g_YB_fr (g_YB_fr h.2 f1 (by decide)) f2 (by decide)) (by omega)⟩
theorem z_sooner {b0 : Int} {M : gj_M} {a b d : Int} (h : g_PK b0 M M) : ∃ v D, F_X11_sooner a b d M = some (v, D) ∧ F_X12_sooner a b d D = some v ∧ g_PK (b0 + 200) D D := by
  obtain ⟨v, D, e1, e2, hU⟩ := y_sooner (a := a) (b := b) (d := d) h.1
  have f1 : gj_Fr _ _ M D := fr_X11_sooner _ _ _ _ e1
  exact ⟨v, D, e1, e2, hU, g_YB_m (g_YB_fr h.2 f1 (by decide)) (by omega)⟩
theorem z_blocks {b0 : Int} {M : gj_M} {a : Int} (h : g_PK b0 M M) : ∃ v D, F_X11_blocks a M = some (v, D) ∧ F_X12_blocks a D = some v ∧ g_PK (b0 + 200) D D := by
  obtain ⟨v, D, e1, e2, hU⟩ := y_blocks (a := a) h.1
  have f1 : gj_Fr _ _ M D := fr_X11_blocks _ _ e1
  exact ⟨v, D, e1, e2, hU, g_YB_m (g_YB_fr h.2 f1 (by decide)) (by omega)⟩
theorem z_parents {b0 : Int} {M : gj_M} {a : Int} (h : g_PK b0 M M) : ∃ v v' U, F_X11_parents a M = some v ∧ F_X12_parents a M = some (v', U) ∧ g_PK (b0 + 200) U U := by
  obtain ⟨v, v', U, e1, e2, hU⟩ := y_parents (a := a) h.1
  have f : gj_Fr _ _ M U := fr_X12_parents _ _ e2
  exact ⟨v, v', U, e1, e2, hU, g_YB_m (g_YB_fr h.2 f (by decide)) (by omega)⟩
theorem z_never {b0 : Int} {M : gj_M} {a : Int} (h : g_PK b0 M M) : ∃ v v' U, F_X11_never a M = some v ∧ F_X12_never a M = some (v', U) ∧ g_PK (b0 + 200) U U := by
  obtain ⟨v, v', U, e1, e2, hU⟩ := y_never (a := a) h.1
  have f : gj_Fr _ _ M U := fr_X12_never _ _ e2
  exact ⟨v, v', U, e1, e2, hU, g_YB_m (g_YB_fr h.2 f (by decide)) (by omega)⟩
theorem z_end {b0 : Int} {M : gj_M} {a : Int} (h : g_PK b0 M M) : ∃ U, F_X12_end a (f_X11_end a M).2 = some ((f_X11_end a M).1, U) ∧ g_PK (b0 + 200) U U := by
  obtain ⟨U, e2, hU⟩ := y_end (a := a) h.1
  have f1 : gj_Fr _ _ M (f_X11_end a M).2 := fr_X11_end a (M := M)
  have f2 : gj_Fr _ _ (f_X11_end a M).2 U := fr_X12_end a _ e2
  exact ⟨U, e2, hU, g_YB_m (g_YB_fr (g_YB_fr h.2 f1 (by decide)) f2 (by decide)) (by omega)⟩
theorem z_way {b0 : Int} {M : gj_M} {a : Int} (h : g_PK b0 M M) : ∃ v D U, f_X11_way a M = (v, D) ∧ F_X12_way a D = some (v, U) ∧ g_PK (b0 + 200) U U := by
  obtain ⟨v, D, U, e1, e2, hU⟩ := y_way (a := a) h.1
  have f1 : gj_Fr _ _ M (f_X11_way a M).2 := fr_X11_way a (M := M)
  have f2 : gj_Fr _ _ D U := fr_X12_way a _ e2
  rw [e1] at f1
  exact ⟨v, D, U, e1, e2, hU, g_YB_m (g_YB_fr (g_YB_fr h.2 f1 (by decide)) f2 (by decide)) (by omega)⟩
theorem z_seed {b0 : Int} {M : gj_M} {a : Int} (h : g_PK b0 M M) : ∃ v D U, f_X11_seed a M = (v, D) ∧ F_X12_seed a D = some (v, U) ∧ g_PK (b0 + 200) U U := by
  obtain ⟨v, D, U, e1, e2, hU⟩ := y_seed (a := a) h.1
  have f1 : gj_Fr _ _ M (f_X11_seed a M).2 := fr_X11_seed a (M := M)
  have f2 : gj_Fr _ _ D U := fr_X12_seed a _ e2
  rw [e1] at f1
  exact ⟨v, D, U, e1, e2, hU, g_YB_m (g_YB_fr (g_YB_fr h.2 f1 (by decide)) f2 (by decide)) (by omega)⟩
theorem z_fault {b0 : Int} {M : gj_M} {c : Int} (hc : 136 ≤ c) (h : g_PK b0 M M) : ∃ v D U, F_X11_fault M = some (v, D) ∧ F_X12_fault c D = some (v, (c + 1, U)) ∧ g_PK (b0 + 200) U U := by
  obtain ⟨v, D, U, e1, e2, hU⟩ := y_fault hc h.1
  have h0 := h.1.1.1
  obtain ⟨v1, D1, -, y1, -, f, -⟩ := p_fault hc h0.1.1 h0.1.2.1 h0.1.2.2
  obtain ⟨-, rfl⟩ := g_some2 e1 y1
  have h1 : g_WK M D := g_WK_rz h0 (g_hi79 f (by decide))
  obtain ⟨v2, D2, U2, y2, y3, -, f'⟩ := p_fault hc h1.1.1 h1.1.2.1 h1.1.2.2
  obtain ⟨-, rfl⟩ := g_some2 e1 y2
  obtain ⟨-, y4⟩ := g_some2 e2 y3
  obtain rfl : U = U2 := (Prod.mk.inj y4).2
  exact ⟨v, D, U, e1, e2, hU, g_YB_m (g_YB_fr (g_YB_fr h.2 f (by decide)) f' (by decide)) (by omega)⟩
theorem z_join {b0 : Int} {M : gj_M} {a b : Int} (h : g_PK b0 M M) : ∃ U, F_X12_join a b (f_X11_join a b M).2 = some ((f_X11_join a b M).1, U) ∧ g_PK (b0 + 200) U U := by
  obtain ⟨U, e2, hU⟩ := y_join (a := a) (b := b) h.1
  have f1 := fr_X11_join a b (M := M)
  have f2 : gj_Fr _ _ (f_X11_join a b M).2 U := fr_X12_join _ _ _ e2
  exact ⟨U, e2, hU, g_YB_m (g_YB_fr (g_YB_fr h.2 f1 (by decide)) f2 (by decide)) (by omega)⟩
theorem c_part24 {C : gj_M} {a j : Int} : (f_X11_part a C).2 24 j = 0 ∨ (f_X11_part a C).2 24 j = C 24 j := by
  unfold f_X11_part gj_let2
  rw [z_letI, c_refuse (by decide), c_refuse (by decide)]
  split
  · right
    show gj_up C 78 0 (gj_w (C 78 0 + 1)) 24 j = _
    rw [gj_up_z (by decide)]
  · split
    · right
      show gj_up C 78 2 (gj_w (C 78 2 + 1)) 24 j = _
      rw [gj_up_z (by decide)]
    · rw [gj_let_s]
      exact c_loosen24
theorem z_part {b0 : Int} {M : gj_M} {a : Int} (h : g_PK b0 M M) : ∃ U, F_X12_part a (f_X11_part a M).2 = some ((f_X11_part a M).1, U) ∧ g_PK (b0 + 200) U U := by
  obtain ⟨U, e2, hU⟩ := y_part (a := a) h.1
  have f1 := fr_X11_part a (M := M)
  have f2 : gj_Fr _ _ (f_X11_part a M).2 U := fr_X12_part _ _ e2
  have y1 : g_YB b0 (f_X11_part a M).2 := by
    refine ⟨h.2.1, z_B_0 h.2.1 h.2.2.1 (fun j => c_part24), fun k x y => z_B_s (h.2.2.2 k x y) ?_⟩
    have : k = 0 ∨ k = 1 ∨ k = 2 := by omega
    rcases this with e | e | e <;> rw [e]
    · exact g_fr_row [50] f1 (by decide) 50 rfl (by decide)
    · exact g_fr_row [60] f1 (by decide) 60 rfl (by decide)
    · exact g_fr_row [70] f1 (by decide) 70 rfl (by decide)
  exact ⟨U, e2, hU, g_YB_m (g_YB_fr y1 f2 (by decide)) (by omega)⟩
theorem z_may {b0 : Int} {M : gj_M} {a c : Int} (hb : b0 ≤ 500000) (hc : 136 ≤ c) (h : g_PK b0 M M) : ∃ v D d U, F_X11_may a M = some (v, D) ∧ F_X12_may_ a c D = some (v, (d, U)) ∧ 136 ≤ d ∧ g_PK (b0 + 200) U U := by
  obtain ⟨v, D, d, U, e1, e2, hd, hU⟩ := y_may (a := a) hc h.1
  refine ⟨v, D, d, U, e1, e2, hd, hU, ?_⟩
  have f1 : gj_Fr _ _ M D := fr_X11_may _ _ e1
  have y1 : g_YB (b0 + 200) D := by
    refine ⟨by have := h.2.1; omega, c_may24 h.2.1 hb h.2.2.1 v D e1, fun k x y => z_B_m (z_B_s (h.2.2.2 k x y) ?_) (by omega)⟩
    have : k = 0 ∨ k = 1 ∨ k = 2 := by omega
    rcases this with e | e | e <;> rw [e]
    · exact g_fr_row [50] f1 (by decide) 50 rfl (by decide)
    · exact g_fr_row [60] f1 (by decide) 60 rfl (by decide)
    · exact g_fr_row [70] f1 (by decide) 70 rfl (by decide)
  have wk : g_WK M M := h.1.1.1
  by_cases q : (1 ≤ a ∧ a ≤ 50) ∧ M 79 18 = 1
  · obtain ⟨ha, v18⟩ := q
    have hi := g_hi79 f1 (by decide)
    have h1 : g_WK M D := g_WK_rz wk hi
    have r18 : D 79 18 = 1 := by rw [hi 79 18 (by decide) (by decide)]; exact v18
    obtain ⟨d', U', y2, -, -, -, u4, -⟩ := r_mayOf hc r18 ha (h1.rg r18) h1.2.2.2 h1.2.1.2.1.2.1 h1.2.1.2.2.1.2
    obtain ⟨-, y3⟩ := g_some2 e2 y2
    obtain rfl : U = U' := (Prod.mk.inj y3).2
    exact g_YB_fr y1 u4 (by decide)
  · have no : ¬ (1 ≤ a ∧ a ≤ 50) ∨ f_X5_stands_14 M = 0 := by
      rw [wk.vs.st]
      have := wk.vs.v
      omega
    have k1 := c_mayNo (C := M) no
    obtain ⟨-, eD⟩ := g_some2 e1 k1
    have e18 : D 79 18 = M 79 18 := by rw [eD]; exact gj_up_z (by decide)
    have k2 := r_mayNo (R := D) (a := a) (c := c) (by rw [e18]; have := wk.vs.v; omega)
    obtain ⟨-, y3⟩ := g_some2 e2 k2
    have fU : gj_Fr [80] [] D U := by
      rw [(Prod.mk.inj y3).2]
      exact gj_Fr.rf.up rfl
    exact g_YB_fr y1 fU (by decide)
theorem z_village {b0 : Int} {M : gj_M} {c : Int} (hc : 136 ≤ c) (h : g_PK b0 M M) : ∃ v D U, F_X11_village M = some (v, D) ∧ F_X12_village c D = some (v, (c + 1, U)) ∧ g_PK (b0 + 200) U U := by
  obtain ⟨v, D, U, e1, e2, hU⟩ := y_village hc h.1
  refine ⟨v, D, U, e1, e2, hU, ?_⟩
  have wk : g_WK M M := h.1.1.1
  have fC : gj_Fr _ _ M D := fr_X11_village _ e1
  have h1 : g_WK M D := g_WK_rz wk (g_hi79 fC (by decide))
  have lo := r_villageLo hc h1.1.1 h1.1.2.1 h1.1.2.2 e2
  have l : ∀ z, z < 79 → U z = D z := fun z k => funext fun i => lo z i k
  have im : ∀ k, 0 ≤ k → k < 3 → z_B b0 (50 + 10 * k) U := fun k x y => z_B_s (h.2.2.2 k x y) (by
    rw [l _ (by omega)]
    have : k = 0 ∨ k = 1 ∨ k = 2 := by omega
    rcases this with e | e | e <;> rw [e]
    · exact g_fr_row [50] fC (by decide) 50 rfl (by decide)
    · exact g_fr_row [60] fC (by decide) 60 rfl (by decide)
    · exact g_fr_row [70] fC (by decide) 70 rfl (by decide))
  have b0 := h.2.1
  refine ⟨by omega, ?_, fun k x y => z_B_m (im k x y) (by omega)⟩
  rcases p_village hc h1.1.1 h1.1.2.1 h1.1.2.2 with ⟨A, B, k1, k2, f2, f3⟩ | ⟨v2, V, W, k1, k2, nv⟩
  · obtain ⟨-, eD⟩ := g_some2 e1 k1
    refine z_B_m (z_B_s h.2.2.1 ?_) (by omega)
    rw [l 24 (by decide), eD, ← g_fr_row [24] f2 (by decide) 24 rfl (by decide)]
    exact funext fun i => gj_up_z (by decide)
  · obtain ⟨-, rfl⟩ := g_some2 e1 k1
    intro j x y
    rw [l 24 (by decide), (nv.2.2.2.2.1 j x y).1.2.2.1]
    omega
theorem z_image {b0 : Int} {M : gj_M} {k : Int} (h : g_PK b0 M M) : ∃ v D U, F_X11_image k M = some (v, D) ∧ F_X12_image k D = some (v, U) ∧ g_PK (b0 + 200) U U := by
  obtain ⟨v, D, U, e1, e2, hU⟩ := y_image (k := k) h.1
  refine ⟨v, D, U, e1, e2, hU, ?_⟩
  have f2 : gj_Fr _ _ D U := fr_X12_image _ _ e2
  have wk : g_WK M M := h.1.1.1
  refine g_YB_m (b := b0) (g_YB_fr ?_ f2 (by decide)) (by omega)
  by_cases k3 : 0 ≤ k ∧ k ≤ 2
  · by_cases v0 : M 79 18 = 0
    · obtain ⟨-, eD⟩ := g_some2 e1 (c_imageNo2 (C := M) k3 (by rw [wk.vs.st]; exact v0))
      have f : gj_Fr [78] [] M D := by rw [eD]; exact gj_Fr.rf.up rfl
      exact g_YB_fr h.2 f (by decide)
    · obtain ⟨-, hD⟩ := g_some2 e1 (c_imageYes (C := M) k3 (by rw [wk.vs.st]; exact v0))
      have do1 : ∀ a b, a ≠ 77 → (a < 47 + 10 * k ∨ 47 + 10 * k + 9 < a) → D a b = M a b := fun a b x y => by rw [hD, gj_up_z x, g_cpL_o y]
      refine ⟨h.2.1, z_B_s h.2.2.1 (funext fun i => do1 24 i (by decide) (by omega)), fun q x y => ?_⟩
      by_cases e : q = k
      · intro j j0 j1
        have : D (50 + 10 * q) j = M 24 j := by
          rw [hD, gj_up_z (by omega), e, show 50 + 10 * k = 47 + 10 * k + 3 by omega]
          exact g_cpL_r (w := 21) (Or.inl (by omega)) (by omega)
        rw [this]
        exact h.2.2.1 j j0 j1
      · exact z_B_s (h.2.2.2 q x y) (funext fun i => do1 _ i (by omega) (by omega))
  · obtain ⟨-, eD⟩ := g_some2 e1 (c_imageNo (C := M) k3)
    have f : gj_Fr [78] [] M D := by rw [eD]; exact gj_Fr.rf.up rfl
    exact g_YB_fr h.2 f (by decide)
theorem z_on {b0 : Int} {M : gj_M} {k : Int} (h : g_PK b0 M M) : ∃ v D U, F_X11_on k M = some (v, D) ∧ F_X12_on k D = some (v, U) ∧ g_PK (b0 + 200) U U := by
  obtain ⟨v, D, U, e1, e2, hU⟩ := y_on (k := k) h.1
  refine ⟨v, D, U, e1, e2, hU, ?_⟩
  have f2 : gj_Fr _ _ D U := fr_X12_on _ _ e2
  refine g_YB_m (b := b0) (g_YB_fr ?_ f2 (by decide)) (by omega)
  by_cases q : (0 ≤ k ∧ k ≤ 2) ∧ ¬ M 77 k = 0
  · obtain ⟨k3, hk⟩ := q
    obtain ⟨-, hD⟩ := g_some2 e1 (c_onYes (C := M) k3 hk)
    have do1 : ∀ a b, (a < 21 ∨ 30 < a) → D a b = M a b := fun a b y => by rw [hD, g_cpL_o (by omega)]
    refine ⟨h.2.1, fun j j0 j1 => ?_, fun q x y => z_B_s (h.2.2.2 q x y) (funext fun i => do1 _ i (by omega))⟩
    have : D 24 j = M (50 + 10 * k) j := by
      rw [hD, show (24 : Int) = 21 + 3 by decide, show 50 + 10 * k = 47 + 10 * k + 3 by omega]
      exact g_cpL_r (Or.inr (by omega)) (by omega)
    rw [this]
    exact h.2.2.2 k k3.1 (by omega) j j0 j1
  · obtain ⟨-, eD⟩ := g_some2 e1 (c_onNo (C := M) (k := k) (by omega))
    have f : gj_Fr [78] [] M D := by rw [eD]; exact gj_Fr.rf.up rfl
    exact g_YB_fr h.2 f (by decide)
theorem z_person {b0 : Int} {M : gj_M} {a b : Int} (h : g_PK b0 M M) : F_X12_person a b M = some (f_X11_person a b M) := y_person h.1
theorem z_earned {b0 : Int} {M : gj_M} {a : Int} (h : g_PK b0 M M) : F_X12_earned a M = some (f_X11_earned a M) := y_earned h.1
theorem z_two {b0 : Int} {M : gj_M} {a b c : Int} (h : g_PK b0 M M) : F_X12_two_ a b c M = some (f_X11_two a b c M) := y_two h.1
theorem z_think {b0 : Int} {M : gj_M} {a b c : Int} (h : g_PK b0 M M) : F_X12_think a b c M = some (f_X11_think a b c M) := y_think h.1
theorem z_shown {b0 : Int} {M : gj_M} {a b c : Int} (h : g_PK b0 M M) : ∃ v, F_X11_shown a b c M = some v ∧ F_X12_shown a b c M = some v := y_shown h.1
theorem z_liking {b0 : Int} {M : gj_M} {a b : Int} (h : g_PK b0 M M) : F_X12_liking a b M = some (f_X11_liking a b M) := y_liking h.1
theorem z_status {b0 : Int} {M : gj_M} {a : Int} (h : g_PK b0 M M) : ∃ v, F_X11_status a M = some v ∧ F_X12_status a M = some v := y_status h.1
theorem z_count {b0 : Int} {M : gj_M} {a : Int} (h : g_PK b0 M M) : f_X12_count a M = f_X11_count a M := y_count h.1
theorem z_log {b0 : Int} {M : gj_M} {a b : Int} (h : g_PK b0 M M) : F_X12_log a b M = some (f_X11_log a b M) := y_log h.1
theorem z_new : g_PK 0 gj_m0 gj_m0 := by
  refine ⟨y_new, by decide, fun j x y => ?_, fun k k0 k1 j x y => ?_⟩
  · rw [z_m0 (by omega)]
    omega
  · rw [z_m0 (by omega)]
    omega
/-- how many pairs -/
def e_pt (C : gj_M) (x : Int) : Int → Int := fun j => if C 22 j = -1 then 0 else if C 24 j < x then 0 else 1
theorem e_pt_b {C : gj_M} {x j : Int} : 0 ≤ e_pt C x j ∧ e_pt C x j ≤ 3200 := by
  unfold e_pt
  (repeat' split) <;> omega
theorem z_sum_s {y : Int → Int} {k : Int} (h : 0 ≤ k) : e_sum y (k + 1).toNat = e_sum y k.toNat + y k := by
  rw [show (k + 1).toNat = k.toNat + 1 by omega]
  show e_sum y k.toNat + y ((k.toNat : Nat) : Int) = _
  rw [show ((k.toNat : Nat) : Int) = k by omega]
theorem p_pairsC {C : gj_M} {x : Int} : F_X3_pairsOf x C = some (e_sum (e_pt C x) 4) := by
  unfold F_X3_pairsOf
  refine gj_okQ3 (fun y : Option Int => y = some (e_sum (e_pt C x) 4)) (fun l1 l2 l3 => l1 = x ∧ 0 ≤ l3 ∧ l3 ≤ 4 ∧ l2 = e_sum (e_pt C x) l3.toNat) (fun _ _ l3 => (4 - l3).toNat) ?_ gj_fu x 0 0 ⟨rfl, by decide, by decide, rfl⟩ (by show _ < 2048; omega)
  rintro rec l1 l2 l3 ⟨e1, a, b, e⟩ hr
  rw [e1]
  unfold B_X3_pairsOf_4 J_X3_pairsOf_36
  by_cases c : 4 ≤ l3
  · rw [if_pos c, e, show l3.toNat = 4 by omega]
  have l8 : 0 ≤ l3 ∧ l3 < 8 := by omega
  have bb := e_sum_b (y := e_pt C x) l3.toNat (fun j u v => e_pt_b)
  have nx : ∀ w : Int, w = e_pt C x l3 → rec x (l2 + w) (l3 + 1) = some (e_sum (e_pt C x) 4) := fun w ew => hr _ _ _ ⟨rfl, by omega, by omega, by rw [z_sum_s a, e, ew]⟩ (by omega)
  rw [if_neg c, gj_wle (x := l3 + 1) (by omega) (by omega), f_at_in l8, f_at_in l8, gj_wle (x := l2 + 1) (by omega) (by omega)]
  by_cases d : C 22 l3 = -1
  · rw [if_pos d]
    have := nx 0 (by unfold e_pt; rw [if_pos d])
    rw [Int.add_zero] at this
    exact this
  · rw [if_neg d]
    by_cases q : C 24 l3 < x
    · rw [if_pos q]
      have := nx 0 (by unfold e_pt; rw [if_neg d, if_pos q])
      rw [Int.add_zero] at this
      exact this
    · rw [if_neg q]
      exact nx 1 (by unfold e_pt; rw [if_neg d, if_neg q])
theorem p_pairsR {C R : gj_M} {a b x : Int} (n : g_NO C R) (v1 : R 79 18 = 1) (hx : (b = 0 ∧ x = 0) ∨ (b = 1 ∧ x = a)) (nn : ∀ j, 0 ≤ j → j < 8 → 0 ≤ C 24 j) : gj_it (fun _ _ _ _ => none) (B_X12_pairs_29 R) gj_fu a b 0 0 = some (e_sum (e_pt C x) 4) := by
  have b0 := n.pl.b0
  have k0 := n.pl.n0
  obtain ⟨n0, h0⟩ : ∃ n0 : Nat, R 101 0 = n0 := ⟨(R 101 0).toNat, by omega⟩
  have ext : ∀ k : Nat, n0 + k ≤ 4 → e_sum (e_pt C x) (n0 + k) = e_sum (e_pt C x) n0 := fun k => by
    induction k with
    | zero => intro _; rfl
    | succ k ih =>
      intro hk
      have z : C 22 ((n0 + k : Nat) : Int) = -1 := by
        rw [(n.n1 ((n0 + k : Nat) : Int) (by omega) (by omega)).1]
        rcases n.n3 ((n0 + k : Nat) : Int) (by omega) (by omega) with q | ⟨-, q, -⟩
        · exact q
        · unfold g_pe at q
          omega
      show e_sum (e_pt C x) (n0 + k) + e_pt C x ((n0 + k : Nat) : Int) = _
      rw [ih (by omega), show e_pt C x ((n0 + k : Nat) : Int) = 0 from if_pos z, Int.add_zero]
  have fin : e_sum (e_pt C x) n0 = e_sum (e_pt C x) 4 := by
    have := ext (4 - n0) (by omega)
    rw [show n0 + (4 - n0) = 4 by omega] at this
    exact this.symm
  refine gj_okQ4 (fun y : Option Int => y = some (e_sum (e_pt C x) 4)) (fun l1 l2 l3 l4 => l1 = a ∧ l2 = b ∧ 0 ≤ l4 ∧ l4 ≤ n0 ∧ l3 = e_sum (e_pt C x) l4.toNat) (fun _ _ _ l4 => (4 - l4).toNat) ?_ gj_fu a b 0 0 ⟨rfl, rfl, by decide, by omega, rfl⟩ (by show _ < 2048; omega)
  rintro rec l1 l2 l3 l4 ⟨e1, e2, u, v, e⟩ hr
  rw [e1, e2]
  unfold B_X12_pairs_29 J_X12_pairs_81
  rw [if_neg (by omega), h0]
  by_cases c : (n0 : Int) ≤ l4
  · rw [if_pos c, e, show l4.toNat = n0 by omega, fin]
  have l8 : 0 ≤ l4 ∧ l4 < 8 := by omega
  have bb := e_sum_b (y := e_pt C x) l4.toNat (fun j u v => e_pt_b)
  have nx : ∀ w : Int, 0 ≤ w → w ≤ 1 → w = e_pt C x l4 → rec a b (gj_w (l3 + w)) (l4 + 1) = some (e_sum (e_pt C x) 4) := fun w w0 w1 ew => by
    rw [gj_wle (by omega) (by omega)]
    exact hr _ _ _ _ ⟨rfl, rfl, by omega, by omega, by rw [z_sum_s u, e, ew]⟩ (by omega)
  have m := (n.n1 l4 l8.1 l8.2).1
  have y := (n.n1 l4 l8.1 l8.2).2.2.1
  have y0 := nn l4 l8.1 l8.2
  rw [if_neg c, gj_chkp l8, gj_wle (x := l4 + 1) (by omega) (by omega)]
  by_cases d : R 108 l4 = -1
  · rw [if_pos d]
    exact nx 0 (by decide) (by decide) (by unfold e_pt; rw [if_pos (by rw [m]; exact d)])
  · rw [if_neg d] at y
    have md : ¬ C 22 l4 = -1 := by rw [m]; exact d
    rw [if_neg d]
    rcases hx with ⟨hb, hx⟩ | ⟨hb, hx⟩
    · rw [if_pos hb]
      exact nx 1 (by decide) (by decide) (by unfold e_pt; rw [if_neg md, if_neg (by omega)])
    · rw [if_neg (by omega), gj_chkp l8]
      by_cases q : R 110 l4 < a
      · rw [if_pos q]
        exact nx 0 (by decide) (by decide) (by unfold e_pt; rw [if_neg md, if_pos (by omega)])
      · rw [if_neg q]
        exact nx 1 (by decide) (by decide) (by unfold e_pt; rw [if_neg md, if_neg (by omega)])
theorem p_pairsK {C R : gj_M} {a b : Int} (hv : R 79 18 = 0 ∨ R 79 18 = 1) (hn : R 79 18 = 1 → g_NO C R) (hz : R 79 18 = 0 → ∀ j, 0 ≤ j → j < 8 → C 22 j = -1) (nn : ∀ j, 0 ≤ j → j < 8 → 0 ≤ C 24 j) : ∃ v, F_X11_pairs a b C = some v ∧ F_X12_pairs a b R = some v := by
  have go : ∀ x, ((b = 0 ∧ x = 0) ∨ (b = 1 ∧ x = a)) → gj_it (fun _ _ _ _ => none) (B_X12_pairs_29 R) gj_fu a b 0 0 = some (e_sum (e_pt C x) 4) := fun x hx => by
    rcases hv with v | v
    · have z : e_sum (e_pt C x) 4 = 0 := by
        have y := hz v
        have s : ∀ y : Int → Int, e_sum y 4 = 0 + y 0 + y 1 + y 2 + y 3 := fun y => rfl
        rw [s]
        unfold e_pt
        rw [if_pos (y 0 (by decide) (by decide)), if_pos (y 1 (by decide) (by decide)), if_pos (y 2 (by decide) (by decide)), if_pos (y 3 (by decide) (by decide))]
        rfl
      rw [z]
      show gj_it (fun _ _ _ _ => none) (B_X12_pairs_29 R) (2047 + 1) a b 0 0 = some 0
      rw [gj_it_s]
      unfold B_X12_pairs_29
      rw [if_pos v]
    · exact p_pairsR (hn v) v hx nn
  unfold F_X11_pairs F_X12_pairs
  rw [z_letI, z_letI, p_pairsC, p_pairsC, gj_bnd_s, gj_bnd_s]
  by_cases c1 : 0 ≤ b ∧ b ≤ 1
  · rw [g_in1 c1.1 c1.2, if_neg (show ¬ (1 : Int) = 0 by decide)]
    by_cases c2 : 0 ≤ a ∧ a ≤ 100
    · rw [g_in1 c2.1 c2.2, if_neg (show ¬ (1 : Int) = 0 by decide), if_neg (by omega), if_pos c2.2]
      by_cases c3 : b = 0
      · rw [if_pos c3]
        exact ⟨_, rfl, go 0 (Or.inl ⟨c3, rfl⟩)⟩
      · rw [if_neg c3, if_pos (by omega)]
        exact ⟨_, rfl, go a (Or.inr ⟨by omega, rfl⟩)⟩
    · rw [g_in0 c2, if_pos rfl]
      by_cases c3 : a < 0
      · rw [if_pos c3]
        exact ⟨_, rfl, rfl⟩
      · rw [if_neg c3, if_neg (by omega)]
        exact ⟨_, rfl, rfl⟩
  · rw [g_in0 c1, if_pos rfl, if_neg (show ¬ b = 0 by omega), if_neg (show ¬ b = 1 by omega)]
    refine ⟨-1, ?_, rfl⟩
    (repeat' split) <;> rfl
theorem z_pairs {b0 : Int} {M : gj_M} {a b : Int} (h : g_PK b0 M M) : ∃ v, F_X11_pairs a b M = some v ∧ F_X12_pairs a b M = some v :=
  p_pairsK h.1.1.1.vs.v (fun v => (h.1.1.2.2 v).1) (fun v => (h.1.2 v).1) (fun j x y => (h.2.2.1 j x y).1)
