/-! PURE: the two readers side by side -/
def g_TK (b : Int) (C R : gj_M) : Prop := C 1 1 = R 79 2 ∧ g_CT C ∧ g_TT (C 2) (R 81) (C 1 1) ∧ g_cur C ∧ g_rcur R ∧ C 10 7 = R 79 3 ∧ R 79 5 = -1 ∧ b ≤ C 10 7
theorem g_TK.tx {b : Int} {C R : gj_M} (h : g_TK b C R) : C 1 1 = R 79 2 := h.1
theorem g_TK.ct {b : Int} {C R : gj_M} (h : g_TK b C R) : g_CT C := h.2.1
theorem g_TK.tt {b : Int} {C R : gj_M} (h : g_TK b C R) : g_TT (C 2) (R 81) (C 1 1) := h.2.2.1
theorem g_TK.cc {b : Int} {C R : gj_M} (h : g_TK b C R) : g_cur C := h.2.2.2.1
theorem g_TK.cr {b : Int} {C R : gj_M} (h : g_TK b C R) : g_rcur R := h.2.2.2.2.1
theorem g_TK.ps {b : Int} {C R : gj_M} (h : g_TK b C R) : C 10 7 = R 79 3 := h.2.2.2.2.2.1
theorem g_TK.st {b : Int} {C R : gj_M} (h : g_TK b C R) : R 79 5 = -1 := h.2.2.2.2.2.2.1
theorem g_TK.bb {b : Int} {C R : gj_M} (h : g_TK b C R) : b ≤ C 10 7 := h.2.2.2.2.2.2.2
theorem g_TK.rt {b : Int} {C R : gj_M} (h : g_TK b C R) : g_RT R := ⟨by rw [← h.tx]; exact h.ct.1, by rw [← h.tx]; exact h.ct.2.1⟩
theorem g_kd_eq {t u : Int → Int} {n s : Int} (h : g_TT t u n) (hs : 0 ≤ s) : g_kd t n s = g_kd u n s := by
  unfold g_kd
  by_cases hn : n ≤ s
  · rw [if_pos hn, if_pos hn]
  · have h2 := g_TT_b8 h hs (by omega)
    have h3 := h s hs (by omega)
    have : t s = 59 ↔ u s = 59 := by omega
    rw [if_neg hn, if_neg hn, g_le_eq h hs (by omega), g_di_eq h hs (by omega)]
    simp only [this]
theorem g_TK.en {b : Int} {C R : gj_M} (h : g_TK b C R) : C 10 8 = R 79 4 := by
  rw [h.cc.2.2.2, h.cr.2.2, g_en_eq h.tt h.cc.1, h.tx, h.ps]
theorem g_TK.kd {b : Int} {C R : gj_M} (h : g_TK b C R) : C 10 6 = g_kd (R 81) (R 79 2) (R 79 3) := by
  rw [h.cc.2.2.1, g_kd_eq h.tt h.cc.1, h.tx, h.ps]
theorem g_TK.e0 {b : Int} {C R : gj_M} (h : g_TK b C R) : C 10 7 ≤ C 10 8 := by rw [h.cc.2.2.2]; exact g_en_ge
theorem g_TK.e1 {b : Int} {C R : gj_M} (h : g_TK b C R) : C 10 8 ≤ C 1 1 := by rw [h.cc.2.2.2]; exact g_en_le h.cc.2.1
def g_sC (C D : gj_M) : Prop := (∀ z, z ≠ 10 → D z = C z) ∧ D 10 5 = C 10 5
def g_sR (R U : gj_M) : Prop := ∀ z, z ≠ 79 → U z = R z
theorem g_sC_up {M : gj_M} {i v : Int} (h : i ≠ 5) : g_sC M (gj_up M 10 i v) := ⟨fun _ hz => funext fun _ => gj_up_z hz, gj_up_i (fun q => h q.symm)⟩
theorem g_sR_up {M : gj_M} {i v : Int} : g_sR M (gj_up M 79 i v) := fun _ hz => funext fun _ => gj_up_z hz
theorem g_sC_t {A B C : gj_M} (h : g_sC A B) (k : g_sC B C) : g_sC A C := ⟨fun z hz => (k.1 z hz).trans (h.1 z hz), k.2.trans h.2⟩
theorem g_sR_t {A B C : gj_M} (h : g_sR A B) (k : g_sR B C) : g_sR A C := fun z hz => (k z hz).trans (h z hz)
theorem g_scd_7 {M : gj_M} {s k e : Int} : g_scd M s k e 10 7 = s := by unfold g_scd; rw [gj_up_i (by decide), gj_up_i (by decide), gj_up_eq]
theorem g_scd_6 {M : gj_M} {s k e : Int} : g_scd M s k e 10 6 = k := by unfold g_scd; rw [gj_up_i (by decide), gj_up_eq]
theorem g_scd_8 {M : gj_M} {s k e : Int} : g_scd M s k e 10 8 = e := by unfold g_scd; rw [gj_up_eq]
theorem g_scd_9 {M : gj_M} {s k e : Int} : g_scd M s k e 10 9 = M 10 9 := by unfold g_scd; rw [gj_up_i (by decide), gj_up_i (by decide), gj_up_i (by decide)]
theorem g_sC_scd {M : gj_M} {s k e : Int} : g_sC M (g_scd M s k e) := g_sC_t (g_sC_t (g_sC_up (by decide)) (g_sC_up (by decide))) (g_sC_up (by decide))
theorem g_sR_nxd {M : gj_M} {s e : Int} : g_sR M (g_nxd M s e) := g_sR_t g_sR_up g_sR_up
theorem g_sC_adv {M : gj_M} : g_sC M (g_adv M) := g_sC_scd
theorem g_sR_radv {M : gj_M} : g_sR M (g_radv M) := g_sR_nxd
theorem g_TK_adv {b : Int} {C R : gj_M} (h : g_TK b C R) : g_TK b (g_adv C) (g_radv R) := by
  have e1 : g_adv C 1 = C 1 := g_sC_adv.1 1 (by decide)
  have e2 : g_adv C 2 = C 2 := g_sC_adv.1 2 (by decide)
  have e81 : g_radv R 81 = R 81 := g_sR_radv 81 (by decide)
  have r2 : g_radv R 79 2 = R 79 2 := g_nxd_i (by decide)
  have r5 : g_radv R 79 5 = R 79 5 := g_nxd_i (by decide)
  have r3 : g_radv R 79 3 = g_sp (R 81) (R 79 2) (R 79 4) := g_nxd_3
  have r4 : g_radv R 79 4 = g_en (R 81) (R 79 2) (g_sp (R 81) (R 79 2) (R 79 4)) := g_nxd_4
  have c8 : g_adv C 10 8 = g_en (C 2) (C 1 1) (g_sp (C 2) (C 1 1) (C 10 8)) := g_scd_8
  have c6 : g_adv C 10 6 = g_kd (C 2) (C 1 1) (g_sp (C 2) (C 1 1) (C 10 8)) := g_scd_6
  have c7 : g_adv C 10 7 = g_sp (C 2) (C 1 1) (C 10 8) := g_scd_7
  have hn := h.e1
  have h0 : 0 ≤ C 10 8 := Int.le_trans h.cc.1 h.e0
  have es : g_sp (C 2) (C 1 1) (C 10 8) = g_sp (R 81) (R 79 2) (R 79 4) := by rw [g_sp_eq h.tt h0, h.en, h.tx]
  refine ⟨by rw [e1, r2]; exact h.tx, by unfold g_CT; rw [e1, e2]; exact h.ct, by rw [e1, e2, e81]; exact h.tt, ?_, ?_, by rw [c7, r3, es], by rw [r5]; exact h.st, by rw [c7]; exact Int.le_trans h.bb (Int.le_trans h.e0 g_run_ge)⟩
  · unfold g_cur
    rw [c7, c8, c6, e1, e2]
    exact ⟨Int.le_trans h0 g_run_ge, g_run_le hn, rfl, rfl⟩
  · unfold g_rcur
    rw [r3, r4, r2, e81]
    refine ⟨?_, ?_, rfl⟩
    · rw [← es]; exact Int.le_trans h0 g_run_ge
    · rw [← es, ← h.tx]; exact g_run_le hn
/-- writes beside the tokens -/
theorem g_TK_c {b : Int} {C D R : gj_M} (h : g_TK b C R) (e1 : D 1 = C 1) (e2 : D 2 = C 2) (e6 : D 10 6 = C 10 6) (e7 : D 10 7 = C 10 7) (e8 : D 10 8 = C 10 8) : g_TK b D R :=
  ⟨by rw [e1]; exact h.tx, by unfold g_CT; rw [e1, e2]; exact h.ct, by rw [e1, e2]; exact h.tt, by unfold g_cur; rw [e1, e2, e6, e7, e8]; exact h.cc, h.cr, by rw [e7]; exact h.ps, h.st, by rw [e7]; exact h.bb⟩
theorem g_TK_r {b : Int} {C R U : gj_M} (h : g_TK b C R) (e81 : U 81 = R 81) (e2 : U 79 2 = R 79 2) (e3 : U 79 3 = R 79 3) (e4 : U 79 4 = R 79 4) (e5 : U 79 5 = R 79 5) : g_TK b C U :=
  ⟨by rw [e2]; exact h.tx, h.ct, by rw [e81]; exact h.tt, h.cc, by unfold g_rcur; rw [e2, e3, e4, e81]; exact h.cr, by rw [e3]; exact h.ps, by rw [e5]; exact h.st, h.bb⟩
theorem g_TK_cu {b : Int} {C R : gj_M} {z i v : Int} (h : g_TK b C R) (hz : z ≠ 1 ∧ z ≠ 2 ∧ ¬ (z = 10 ∧ (i = 6 ∨ i = 7 ∨ i = 8))) : g_TK b (gj_up C z i v) R := by
  have k : ∀ j, j = 6 ∨ j = 7 ∨ j = 8 → gj_up C z i v 10 j = C 10 j := fun j hj => if_neg (by omega)
  exact g_TK_c h (funext fun _ => gj_up_z (fun q => hz.1 q.symm)) (funext fun _ => gj_up_z (fun q => hz.2.1 q.symm)) (k 6 (by decide)) (k 7 (by decide)) (k 8 (by decide))
theorem g_TK_ru {b : Int} {C R : gj_M} {z i v : Int} (h : g_TK b C R) (hz : z ≠ 81 ∧ ¬ (z = 79 ∧ (i = 2 ∨ i = 3 ∨ i = 4 ∨ i = 5))) : g_TK b C (gj_up R z i v) := by
  have k : ∀ j, j = 2 ∨ j = 3 ∨ j = 4 ∨ j = 5 → gj_up R z i v 79 j = R 79 j := fun j hj => if_neg (by omega)
  exact g_TK_r h (funext fun _ => gj_up_z (fun q => hz.1 q.symm)) (k 2 (by decide)) (k 3 (by decide)) (k 4 (by decide)) (k 5 (by decide))
/-- the reader stopped here -/
def g_FD (C R : gj_M) : Prop := R 79 5 = C 10 7 ∧ 0 ≤ C 10 7 ∧ C 10 7 ≤ C 1 1
theorem g_FD_at {b : Int} {C R : gj_M} (h : g_TK b C R) : g_FD C (g_at R) := by
  unfold g_FD g_at
  rw [if_pos h.st, gj_up_eq, h.ps]
  exact ⟨rfl, h.cr.1, by rw [h.tx]; exact h.cr.2.1⟩
theorem p_scans {b : Int} {C R : gj_M} (h : g_TK b C R) : F_X6_scan C = some (g_adv C) ∧ F_X12_next R = some (g_radv R) ∧ ∀ x, F_X12_passes x R = some (if x = 0 then (0, g_at R) else (1, g_radv R)) :=
  ⟨p_scan h.ct h.cc, p_next h.rt h.cr, fun _ => p_X12_passes h.rt h.cr⟩
/-- a number is taken on both sides -/
theorem p_takes {b : Int} {C R : gj_M} {lo hi l n z : Int} (h : g_TK b C R) (hl : 0 ≤ l ∧ l < n) (h0 : 0 ≤ lo) (h9 : hi ≤ 9999) (hz : z ≠ 79 ∧ z ≠ 81) :
    (∃ v D U, lo ≤ v ∧ v ≤ hi ∧ F_X6_takeNumber lo hi C = some (1, D) ∧ F_X12_into z n l lo hi R = some (1, gj_up U z l v) ∧ g_TK b D U ∧ D 10 9 = v ∧ g_sC C D ∧ g_sR R U)
    ∨ (∃ U, F_X6_takeNumber lo hi C = some (0, C) ∧ F_X12_into z n l lo hi R = some (0, U) ∧ g_FD C U) := by
  have ht := p_X6_takeNumber (lo := lo) (hi := hi) h.ct h.cc h0 (by omega)
  obtain ⟨i1, i2⟩ := p_X12_into (lo := lo) (hi := hi) (z := z) h.rt h.cr hl h0 h9
  have ev : g_kd (R 81) (R 79 2) (R 79 3) = 2 → g_tv (C 2) (C 10 7) (C 10 8) = g_tv (R 81) (R 79 3) (R 79 4) := fun q => by
    have k2 := g_kd2.mp (h.cc.2.2.1.symm.trans (h.kd.trans q))
    rw [g_tv_eq h.tt h.cc.1 h.e1 (fun i a b => g_en_di k2.1 k2.2 a (by rw [← h.cc.2.2.2]; exact b)), h.ps, h.en]
  by_cases c : g_kd (R 81) (R 79 2) (R 79 3) = 2 ∧ lo ≤ g_tv (R 81) (R 79 3) (R 79 4) ∧ g_tv (R 81) (R 79 3) (R 79 4) ≤ hi
  · left
    have e := ev c.1
    rw [if_pos (by rw [e, h.kd]; exact c)] at ht
    refine ⟨_, _, _, c.2.1, c.2.2, ht, i1 c, g_TK_adv (g_TK_ru (g_TK_cu h (by decide)) (by decide)), ?_, g_sC_t (g_sC_up (by decide)) g_sC_adv, g_sR_t g_sR_up g_sR_radv⟩
    unfold g_adv
    rw [g_scd_9, gj_up_eq, e]
  · right
    obtain ⟨x, i2⟩ := i2 c
    have nc : ¬ (C 10 6 = 2 ∧ lo ≤ g_tv (C 2) (C 10 7) (C 10 8) ∧ g_tv (C 2) (C 10 7) (C 10 8) ≤ hi) := fun q => by
      have k2 : g_kd (R 81) (R 79 2) (R 79 3) = 2 := h.kd.symm.trans q.1
      rw [ev k2] at q
      exact c ⟨k2, q.2⟩
    rw [if_neg nc] at ht
    exact ⟨_, ht, i2, g_FD_at (g_TK_ru h (by decide))⟩
theorem p_stops {b : Int} {C R : gj_M} (h : g_TK b C R) : (F_X6_takeStop C = some (1, g_adv C) ∧ F_X12_closes R = some (1, g_radv R) ∧ C 10 7 < g_adv C 10 7) ∨ (F_X6_takeStop C = some (0, C) ∧ F_X12_closes R = some (0, g_at R)) := by
  rw [p_X6_takeStop h.ct h.cc, p_X12_closes h.rt h.cr, h.kd]
  by_cases c : g_kd (R 81) (R 79 2) (R 79 3) = 3
  · rw [if_pos c, if_pos c]
    have k3 := g_kd3.mp (h.cc.2.2.1.symm.trans (h.kd.trans c))
    have c7 : g_adv C 10 7 = g_sp (C 2) (C 1 1) (C 10 8) := g_scd_7
    refine Or.inl ⟨rfl, rfl, ?_⟩
    rw [c7]
    refine Int.lt_of_lt_of_le ?_ g_run_ge
    rw [h.cc.2.2.2]
    exact g_en_gt k3.1
  · rw [if_neg c, if_neg c]; exact Or.inr ⟨rfl, rfl⟩
theorem p_words {b : Int} {C R : gj_M} (h : g_TK b C R) : F_X12_wordHere R = some (g_wh (R 81) (R 79 3) (R 79 4)) ∧ g_wh (C 2) (C 10 7) (C 10 8) = g_wh (R 81) (R 79 3) (R 79 4) := by
  have h0 := h.cc.1
  have h1 := h.e0
  have h2 := h.e1
  have h3 := h.en
  have h4 := h.ps
  have h5 := h.tx
  refine ⟨p_X12_wordHere h.rt (by omega) (by omega) (by omega) ?_, by rw [g_wh_eq h.tt h0 h2, h3, h4]⟩
  by_cases q : R 79 3 < R 79 2
  · exact Or.inl q
  · right
    rw [h.cr.2.2]
    exact if_pos (by omega)
