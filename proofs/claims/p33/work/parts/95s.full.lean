/-! PURE: the full relation: the weak one, what was refused, the life and the images alike -/
/-- the life that an image holds, set in its place -/
def g_vC (k : Int) (C : gj_M) : gj_M := fun z i => if 21 ≤ z ∧ z ≤ 30 then C (z + 26 + 10 * k) i else C z i
def g_vR (k : Int) (R : gj_M) : gj_M := fun z i => if z = 79 ∧ (27 ≤ i ∧ i ≤ 29) then R (131 + k) (i - 27) else if z = 79 ∧ i = 30 then R 134 k else if 108 ≤ z ∧ z ≤ 111 then R (131 + k) (4 + 8 * (z - 108) + i) else if 112 ≤ z ∧ z ≤ 114 then R (131 + k) (36 + 16 * (z - 112) + i) else if z = 122 then R (131 + k) (84 + i) else R z i
def g_FV (C R : gj_M) : Prop := R 79 18 = 1 → g_NO C R ∧ ∀ k, 0 ≤ k → k < 3 → R 135 k ≠ 0 → g_NO (g_vC k C) (g_vR k R)
def g_FL (C R : gj_M) : Prop := g_RF C R ∧ g_FV C R
def g_FK (C R : gj_M) : Prop := g_WK C R ∧ g_FL C R
theorem g_NO_pt {C R D U : gj_M} (h : g_NO C R) (hc : ∀ z, 14 ≤ z → z ≤ 20 → D z = C z) (hr : ∀ z, z = 83 ∨ z = 86 ∨ z = 89 ∨ z = 92 ∨ z = 95 ∨ z = 98 ∨ z = 101 → U z = R z) (a8 : ∀ z j, 22 ≤ z → z ≤ 25 → 0 ≤ j → j < 8 → D z j = C z j) (a16 : ∀ z j, 26 ≤ z → z ≤ 28 → 0 ≤ j → j < 16 → D z j = C z j) (a200 : ∀ x, 0 ≤ x → x < 200 → D 30 x = C 30 x) (a21 : ∀ i, 0 ≤ i → i ≤ 2 → D 21 i = C 21 i) (a29 : D 29 1 = C 29 1 ∧ D 29 2 = C 29 2) (b8 : ∀ z j, 108 ≤ z → z ≤ 111 → 0 ≤ j → j < 8 → U z j = R z j) (b16 : ∀ z j, 112 ≤ z → z ≤ 114 → 0 ≤ j → j < 16 → U z j = R z j) (b200 : ∀ x, 0 ≤ x → x < 200 → U 122 x = R 122 x) (b79 : ∀ i, 27 ≤ i → i ≤ 30 → U 79 i = R 79 i) : g_NO D U := by
  refine g_NO_mk h hc hr (fun j a b => ?_) (fun j a b => ?_) (fun j a b => ?_) ?_ ?_
  · rw [a8 22 j (by decide) (by decide) a b, a8 23 j (by decide) (by decide) a b, a8 24 j (by decide) (by decide) a b, a8 25 j (by decide) (by decide) a b, b8 108 j (by decide) (by decide) a b, b8 109 j (by decide) (by decide) a b, b8 110 j (by decide) (by decide) a b, b8 111 j (by decide) (by decide) a b]
    exact h.n1 j a b
  · rw [a16 26 j (by decide) (by decide) a b, a16 27 j (by decide) (by decide) a b, a16 28 j (by decide) (by decide) a b, b16 112 j (by decide) (by decide) a b, b16 113 j (by decide) (by decide) a b, b16 114 j (by decide) (by decide) a b]
    exact h.n2 j a b
  · have e101 : U 101 = R 101 := hr 101 (by omega)
    rw [b8 108 j (by decide) (by decide) a b, b8 109 j (by decide) (by decide) a b, b8 110 j (by decide) (by decide) a b]
    rcases h.n3 j a b with e | ⟨e1, e2, e3, e4, e5, e6⟩
    · exact Or.inl e
    · rw [b8 108 _ (by decide) (by decide) e1.1 e1.2.1, b8 109 _ (by decide) (by decide) e1.1 e1.2.1, b8 110 _ (by decide) (by decide) e1.1 e1.2.1]
      exact Or.inr ⟨e1, (g_pe_s e101).mpr e2, (g_pe_s e101).mpr e3, e4, e5, e6⟩
  · unfold g_N4
    rw [a21 0 (by decide) (by decide), a21 1 (by decide) (by decide), a21 2 (by decide) (by decide), b79 27 (by decide) (by decide), b79 28 (by decide) (by decide), b79 30 (by decide) (by decide)]
    exact h.n4
  · obtain ⟨l1, l2, l3, l4⟩ := h.lg
    rw [a29.1, a29.2, b79 29 (by decide) (by decide)]
    refine ⟨l1, l2, l3, fun i k i0 i1 k0 k1 => ?_⟩
    rw [a200 _ (by omega) (by omega), b200 _ (by omega) (by omega)]
    exact l4 i k i0 i1 k0 k1
/-- a frame leaves a range -/
def g_rng (a b : Int) (os : List Int) (ps : List (Int × Int)) : Bool := os.all (fun z => decide (z < a ∨ b < z)) && ps.all (fun q => decide (q.1 < a ∨ b < q.1))
theorem g_fr_rng {a b : Int} {os : List Int} {ps : List (Int × Int)} {M N : gj_M} (f : gj_Fr os ps M N) (h : g_rng a b os ps = true) : ∀ z i, a ≤ z → z ≤ b → z < 136 → N z i = M z i := by
  intro z i za zb h136
  refine f z i h136 ?_
  unfold g_rng at h
  rw [Bool.and_eq_true] at h
  unfold gj_fp
  rw [Bool.or_eq_false_iff]
  refine ⟨?_, ?_⟩
  · rw [← Bool.not_eq_true]
    intro q
    have h1 := List.all_eq_true.mp h.1 z (List.elem_iff.mp q)
    rw [decide_eq_true_eq] at h1
    omega
  · rw [← Bool.not_eq_true]
    intro q
    have h1 := List.all_eq_true.mp h.2 (z, i) (List.elem_iff.mp q)
    rw [decide_eq_true_eq] at h1
    exact absurd h1 (by show ¬ (z < a ∨ b < z); omega)
theorem g_aw1 {os : List Int} {ps : List (Int × Int)} {l : List Int} {q : List (Int × Int)} (h : g_aw os ps l q = true) : (os.all (fun z => !(l.contains z)) && ps.all (fun x => !(l.contains x.1))) = true := by
  unfold g_aw at h
  rw [Bool.and_eq_true] at h
  exact h.1
def g_okV (os : List Int) (ps : List (Int × Int)) : Bool := g_aw os ps g_nc [(21, 0), (21, 1), (21, 2), (29, 1), (29, 2)] && g_rng 47 76 os ps
def g_okW (os : List Int) (ps : List (Int × Int)) : Bool := g_aw os ps g_nr [(79, 18), (79, 27), (79, 28), (79, 29), (79, 30)] && g_rng 131 135 os ps
def g_okC (os : List Int) (ps : List (Int × Int)) : Bool := g_okV os ps && g_rng 78 78 os ps
def g_okR (os : List Int) (ps : List (Int × Int)) : Bool := g_okW os ps && g_rng 80 80 os ps
theorem g_FI_1 {C R D U : gj_M} {k : Int} (k3 : 0 ≤ k ∧ k < 3) (h : g_NO (g_vC k C) (g_vR k R)) (hc : ∀ z i, (14 ≤ z ∧ z ≤ 20) ∨ (47 + 10 * k ≤ z ∧ z ≤ 56 + 10 * k) → D z i = C z i) (hr : ∀ z i, (z = 83 ∨ z = 86 ∨ z = 89 ∨ z = 92 ∨ z = 95 ∨ z = 98 ∨ z = 101) ∨ z = 131 + k → U z i = R z i) (h4 : U 134 k = R 134 k) : g_NO (g_vC k D) (g_vR k U) := by
  have vc : ∀ z i, 21 ≤ z → z ≤ 30 → g_vC k D z i = g_vC k C z i := fun z i x y => by
    unfold g_vC
    rw [if_pos ⟨x, y⟩, if_pos ⟨x, y⟩]
    exact hc _ _ (by omega)
  have vr : ∀ z i, (108 ≤ z ∧ z ≤ 114) ∨ z = 122 ∨ (z = 79 ∧ 27 ≤ i ∧ i ≤ 30) → g_vR k U z i = g_vR k R z i := fun z i x => by
    unfold g_vR
    rw [hr (131 + k) _ (by omega), h4, hr (131 + k) _ (by omega), hr (131 + k) _ (by omega), hr (131 + k) _ (by omega)]
    by_cases c1 : z = 79 ∧ (27 ≤ i ∧ i ≤ 29)
    · rw [if_pos c1, if_pos c1]
    rw [if_neg c1, if_neg c1]
    by_cases c2 : z = 79 ∧ i = 30
    · rw [if_pos c2, if_pos c2]
    rw [if_neg c2, if_neg c2]
    by_cases c3 : 108 ≤ z ∧ z ≤ 111
    · rw [if_pos c3, if_pos c3]
    rw [if_neg c3, if_neg c3]
    by_cases c4 : 112 ≤ z ∧ z ≤ 114
    · rw [if_pos c4, if_pos c4]
    rw [if_neg c4, if_neg c4, if_pos (by omega), if_pos (by omega)]
  refine g_NO_pt h (fun z a b => funext fun i => ?_) (fun z e => funext fun i => ?_) (fun z j a b _ _ => vc z j (by omega) (by omega)) (fun z j a b _ _ => vc z j (by omega) (by omega)) (fun x _ _ => vc 30 x (by decide) (by decide)) (fun i _ _ => vc 21 i (by decide) (by decide)) ⟨vc 29 1 (by decide) (by decide), vc 29 2 (by decide) (by decide)⟩ (fun z j a b _ _ => vr z j (by omega)) (fun z j a b _ _ => vr z j (by omega)) (fun x _ _ => vr 122 x (by omega)) (fun i a b => vr 79 i (by omega))
  · unfold g_vC
    rw [if_neg (by omega), if_neg (by omega)]
    exact hc z i (by omega)
  · unfold g_vR
    rw [if_neg (by omega), if_neg (by omega), if_neg (by omega), if_neg (by omega), if_neg (by omega), if_neg (by omega), if_neg (by omega), if_neg (by omega), if_neg (by omega), if_neg (by omega)]
    exact hr z i (Or.inl e)
theorem g_FI_s {C R D U : gj_M} {k : Int} (k3 : 0 ≤ k ∧ k < 3) (h : g_NO (g_vC k C) (g_vR k R)) (hc : ∀ z i, (14 ≤ z ∧ z ≤ 20) ∨ (47 ≤ z ∧ z ≤ 76) → D z i = C z i) (hr : ∀ z i, (z = 83 ∨ z = 86 ∨ z = 89 ∨ z = 92 ∨ z = 95 ∨ z = 98 ∨ z = 101) ∨ (131 ≤ z ∧ z ≤ 134) → U z i = R z i) : g_NO (g_vC k D) (g_vR k U) := by
  exact g_FI_1 k3 h (fun z i q => hc z i (by omega)) (fun z i q => hr z i (by omega)) (hr 134 k (by omega))
theorem g_FV_fr {C R D U : gj_M} {os os' : List Int} {ps ps' : List (Int × Int)} (h : g_FV C R) (f : gj_Fr os ps C D) (f' : gj_Fr os' ps' R U) (hc : g_okV os ps = true) (hr : g_okW os' ps' = true) : g_FV D U := by
  unfold g_okV at hc
  unfold g_okW at hr
  rw [Bool.and_eq_true] at hc hr
  obtain ⟨c1, c2⟩ := hc
  obtain ⟨r1, r2⟩ := hr
  have ci := g_fr_rng f c2
  have ri := g_fr_rng f' r2
  have e18 : U 79 18 = R 79 18 := f' 79 18 (by decide) (g_aw_c r1 rfl)
  intro v
  rw [e18] at v
  obtain ⟨n, im⟩ := h v
  have rc : ∀ z, g_nc.contains z = true → D z = C z := fun z hz => g_fr_row g_nc f (g_aw1 c1) z hz (g_nc_136 hz)
  have rr : ∀ z, g_nr.contains z = true → U z = R z := fun z hz => g_fr_row g_nr f' (g_aw1 r1) z hz (g_nr_136 hz)
  refine ⟨g_NO_s n rc ⟨f 21 0 (by decide) (g_aw_c c1 rfl), f 21 1 (by decide) (g_aw_c c1 rfl), f 21 2 (by decide) (g_aw_c c1 rfl)⟩ ⟨f 29 1 (by decide) (g_aw_c c1 rfl), f 29 2 (by decide) (g_aw_c c1 rfl)⟩ rr ⟨f' 79 27 (by decide) (g_aw_c r1 rfl), f' 79 28 (by decide) (g_aw_c r1 rfl), f' 79 29 (by decide) (g_aw_c r1 rfl), f' 79 30 (by decide) (g_aw_c r1 rfl)⟩, fun k a b hk => ?_⟩
  rw [ri 135 k (by decide) (by decide) (by decide)] at hk
  refine g_FI_s ⟨a, b⟩ (im k a b hk) (fun z i q => ?_) (fun z i q => ?_)
  · rcases q with q | q
    · have : z = 14 ∨ z = 15 ∨ z = 16 ∨ z = 17 ∨ z = 18 ∨ z = 19 ∨ z = 20 := by omega
      rw [rc z (by rcases this with e | e | e | e | e | e | e <;> rw [e] <;> rfl)]
    · exact ci z i q.1 q.2 (by omega)
  · rcases q with q | q
    · rw [rr z (by rcases q with e | e | e | e | e | e | e <;> rw [e] <;> rfl)]
    · exact ri z i q.1 (by omega) (by omega)
theorem g_FL_fr {C R D U : gj_M} {os os' : List Int} {ps ps' : List (Int × Int)} (h : g_FL C R) (f : gj_Fr os ps C D) (f' : gj_Fr os' ps' R U) (hc : g_okC os ps = true) (hr : g_okR os' ps' = true) : g_FL D U := by
  unfold g_okC at hc
  unfold g_okR at hr
  rw [Bool.and_eq_true] at hc hr
  refine ⟨fun i a b => ?_, g_FV_fr h.2 f f' hc.1 hr.1⟩
  rw [g_fr_rng f hc.2 78 i (by decide) (by decide) (by decide), g_fr_rng f' hr.2 80 i (by decide) (by decide) (by decide)]
  exact h.1 i a b
/-- in one memory -/
theorem g_FL_d {M D : gj_M} {os : List Int} {ps : List (Int × Int)} (h : g_FL M M) (f : gj_Fr os ps M D) (hc : g_okC os ps = true) (hr : g_okR os ps = true) : g_FL D D := g_FL_fr h f f hc hr
theorem g_FL_rz {M D : gj_M} {os : List Int} {ps : List (Int × Int)} (h : g_FL M M) (f : gj_Fr os ps M D) (hr : g_okR os ps = true) : g_FL M D := g_FL_fr h (gj_Fr.rf (os := []) (ps := [])) f rfl hr
theorem g_FL.dy {C R : gj_M} (h : g_FL C R) : R 79 18 = 1 → g_DY C R := fun v => (h.2 v).1.dy
theorem g_FL.ys {C R : gj_M} (h : g_FL C R) : R 79 18 = 1 → g_YS C R := fun v => (h.2 v).1.ys
theorem g_some2 {A B : Type} {x : Option (A × B)} {a a' : A} {b b' : B} (h : x = some (a, b)) (k : x = some (a', b')) : a = a' ∧ b = b' := by
  rw [h] at k
  have := Option.some.inj k
  exact ⟨(Prod.mk.inj this).1, (Prod.mk.inj this).2⟩
/-- refused on both sides -/
theorem g_FL_no {M : gj_M} {i : Int} (h : g_FL M M) : g_FL (gj_up (gj_up M 78 i (gj_w (M 78 i + 1))) 80 i (gj_w (gj_up M 78 i (gj_w (M 78 i + 1)) 80 i + 1))) (gj_up (gj_up M 78 i (gj_w (M 78 i + 1))) 80 i (gj_w (gj_up M 78 i (gj_w (M 78 i + 1)) 80 i + 1))) := by
  have f : gj_Fr [78, 80] [] M (gj_up (gj_up M 78 i (gj_w (M 78 i + 1))) 80 i (gj_w (gj_up M 78 i (gj_w (M 78 i + 1)) 80 i + 1))) := (gj_Fr.rf.up rfl).up rfl
  refine ⟨fun j a b => ?_, g_FV_fr h.2 f f (by decide) (by decide)⟩
  rw [gj_up_z (show (78 : Int) ≠ 80 by decide), gj_up_if, gj_up_if, gj_up_z (show (80 : Int) ≠ 78 by decide), gj_up_z (show (80 : Int) ≠ 78 by decide), h.1 j a b]
  by_cases c : j = i
  · rw [if_pos c, if_pos c, ← c, h.1 j a b]
  · rw [if_neg c, if_neg c]
theorem g_NO_lz {D U : gj_M} (h : g_NO D U) (hz : ∀ z i, z < 79 → U z i = D z i) : g_NO U U :=
  g_NO_s h (fun z e => funext fun i => hz z i (by
    have := List.elem_iff.mp e
    unfold g_nc at this
    simp at this
    omega)) ⟨hz 21 0 (by decide), hz 21 1 (by decide), hz 21 2 (by decide)⟩ ⟨hz 29 1 (by decide), hz 29 2 (by decide)⟩ (fun _ _ => rfl) ⟨rfl, rfl, rfl, rfl⟩
