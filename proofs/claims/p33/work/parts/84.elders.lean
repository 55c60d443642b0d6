/-! PURE: the parents' way, asked of the reference; safe -/
def g_RP (M : gj_M) : Prop := ∃ C, g_PL C M
theorem g_RP_s {M N : gj_M} (h : g_RP M) (hr : ∀ z, z = 83 ∨ z = 86 ∨ z = 89 ∨ z = 92 ∨ z = 95 ∨ z = 98 ∨ z = 101 → N z = M z) : g_RP N := by
  obtain ⟨C, p⟩ := h
  exact ⟨C, g_PL_s p (fun _ _ _ => rfl) hr⟩
theorem g_RP_up {M : gj_M} {z i v : Int} (h : g_RP M) (hz : ¬ (z = 83 ∨ z = 86 ∨ z = 89 ∨ z = 92 ∨ z = 95 ∨ z = 98 ∨ z = 101)) : g_RP (gj_up M z i v) := g_RP_s h (fun w hw => funext fun _ => gj_up_z (fun e => hz (e ▸ hw)))
theorem g_RP_fr {M N : gj_M} {os : List Int} {ps : List (Int × Int)} (h : g_RP M) (f : gj_Fr os ps M N) (ho : (os.all (fun z => !([83, 86, 89, 92, 95, 98, 101].contains z)) && ps.all (fun q => !([83, 86, 89, 92, 95, 98, 101].contains q.1))) = true) : g_RP N := g_RP_s h (fun z hz => g_fr_row [83, 86, 89, 92, 95, 98, 101] f ho z (by rcases hz with e | e | e | e | e | e | e <;> rw [e] <;> rfl) (by omega))
theorem g_RP.b0 {M : gj_M} (h : g_RP M) : 1 ≤ M 101 0 ∧ M 101 0 ≤ 4 := by
  obtain ⟨C, p⟩ := h
  rw [← p.n0]
  exact p.b0
theorem g_RP.b1 {M : gj_M} (h : g_RP M) : 1 ≤ M 101 1 ∧ M 101 1 ≤ 4 := by
  obtain ⟨C, p⟩ := h
  rw [← p.n1]
  exact p.b1
theorem g_RP.ft {M : gj_M} (h : g_RP M) {i : Int} (a : 0 ≤ i) (b : i < 16) : 0 ≤ M 95 i ∧ M 95 i ≤ 16 := by
  obtain ⟨C, p⟩ := h
  obtain ⟨e1, k⟩ := p.ft i a b
  rw [← e1]
  exact k
theorem g_RP.al {M : gj_M} (h : g_RP M) {i : Int} (a : 0 ≤ i) (b : i < 8) (c : g_pe M 101 i) : 0 ≤ M 83 i ∧ M 83 i ≤ 99 := by
  obtain ⟨C, p⟩ := h
  obtain ⟨e1, k⟩ := p.al i a b (by
    unfold g_pe at *
    rw [p.n0, p.n1]
    exact c)
  rw [← e1]
  exact k
theorem g_RP.hd {M : gj_M} (h : g_RP M) {k : Int} (a : k = 0 ∨ k = 1) : 0 ≤ M 98 k ∧ M 98 k ≤ 99 := by
  obtain ⟨C, p⟩ := h
  have q := (p.hd k (by omega) (by omega)).2
  unfold g_hb at q
  rcases a with e | e <;> rw [e] at q ⊢ <;> exact ⟨q.1, q.2.1⟩
/-- a row of mates: whom the LEFT have stand on the RIGHT -/
def g_NV4 (z : Int) (M : gj_M) : Prop := ∀ j, 0 ≤ j → j < 4 → M z j = -1 ∨ (4 ≤ M z j ∧ M z j < 8)
theorem r_truly {M : gj_M} {p q : Int} (h : g_RP M) (p4 : 0 ≤ p ∧ p < 4) (q4 : 4 ≤ q ∧ q < 8) : ∃ v, F_X12_truly p q M = some v ∧ 0 ≤ v ∧ v ≤ 3168 := by
  obtain ⟨t1, t2⟩ := p_twoOf (M := M) (s := p) (q := q) (by omega) (by omega) (by omega)
  unfold F_X12_truly
  dsimp only [gj_letI]
  rw [t1]
  generalize f_cpl p q = t at *
  have f := h.ft t2.1 t2.2
  have h0 := h.hd (Or.inl rfl)
  have h1 := h.hd (Or.inr rfl)
  have m0 := g_mul f h0
  have m1 := g_mul (a := 16 - M 95 t) (A := 16) (by omega) h1
  rw [gj_chkp t2]
  have mm : M 95 t * M 98 0 + (16 - M 95 t) * M 98 1 ≤ 1584 := by
    have a1 : M 95 t * M 98 0 ≤ M 95 t * 99 := Int.mul_le_mul_of_nonneg_left h0.2 f.1
    have a2 : (16 - M 95 t) * M 98 1 ≤ (16 - M 95 t) * 99 := Int.mul_le_mul_of_nonneg_left h1.2 (by omega)
    omega
  refine ⟨_, rfl, ?_⟩
  rw [gj_wle (x := M 95 t * M 98 0) (by omega) (by omega), gj_wle (x := 16 - M 95 t) (by omega) (by omega), gj_wle (x := (16 - M 95 t) * M 98 1) (by omega) (by omega), gj_wle (x := M 95 t * M 98 0 + (16 - M 95 t) * M 98 1) (by omega) (by omega), gj_wle (by omega) (by omega)]
  omega
theorem r_sumOf {M : gj_M} {z : Int} (h : g_RP M) (hz : g_NV4 z M) : ∃ v, F_X12_sumOf z 8 M = some v ∧ 0 ≤ v := by
  refine k_cps (fun P done => ?_)
  unfold F_X12_sumOf
  refine gj_okQ2 P (fun l2 l3 => 0 ≤ l3 ∧ l3 ≤ 8 ∧ 0 ≤ l2 ∧ l2 ≤ 3200 * l3) (fun _ l3 => (8 - l3).toNat) ?_ gj_fu 0 0 ⟨by omega, by omega, by omega, by omega⟩ (by show _ < 2048; omega)
  rintro rec l2 l3 ⟨a, b, s0, s1⟩ hr
  unfold B_X12_sumOf_4 J_X12_sumOf_69
  refine k_ite (fun _ => done _ s0) (fun c => ?_)
  have b0 := h.b0
  have b1 := h.b1
  have l8 : 0 ≤ l3 ∧ l3 < 8 := by omega
  rw [g_tdiv a, g_tmod a, gj_wle (x := l3 / 4) (by omega) (by omega), gj_wle (x := l3 + 1) (by omega) (by omega)]
  have nx : ∀ x : Int, 0 ≤ x → x ≤ l2 + 3200 → P (rec x (l3 + 1)) := fun x p q => hr x (l3 + 1) ⟨by omega, by omega, p, by omega⟩ (by omega)
  refine k_chk (by omega) (k_ite (fun d => k_chk l8 (k_ite (fun _ => k_chk l8 (k_letI ?_)) (fun n => k_ite (fun _ => nx _ (by omega) (by omega)) (fun e => k_chk l8 ?_)))) (fun _ => nx _ (by omega) (by omega)))
  · have pe : g_pe M 101 l3 := by
      unfold g_pe
      by_cases q : l3 < 4
      · rw [show l3 / 4 = 0 by omega] at d; omega
      · rw [show l3 / 4 = 1 by omega] at d; omega
    have al := h.al l8.1 l8.2 pe
    rw [gj_wle (x := 16 * M 83 l3) (by omega) (by omega), gj_wle (by omega) (by omega)]
    exact nx _ (by omega) (by omega)
  · obtain ⟨v, ev, v0, v1⟩ := r_truly h (p := l3) (q := M z l3) (by omega) (by
      rcases hz l3 (by omega) (by omega) with x | x
      · exact absurd x n
      · exact x)
    rw [ev, gj_bnd_s, gj_wle (by omega) (by omega)]
    exact nx _ (by omega) (by omega)
def g_PV (M : gj_M) : Prop := 0 ≤ M 79 46 ∧ g_NV4 125 M
def g_PJ (M : gj_M) : Prop := g_RP M ∧ g_NV4 124 M ∧ (M 79 46 = -1 ∨ g_PV M)
theorem g_NV4_z {z w i v : Int} {M : gj_M} (h : g_NV4 z M) (hw : z ≠ w) : g_NV4 z (gj_up M w i v) := fun j a b => by rw [gj_up_z hw]; exact h j a b
theorem g_NV4_i {z i v : Int} {M : gj_M} (h : g_NV4 z M) (hv : 0 ≤ i → i < 4 → v = -1 ∨ (4 ≤ v ∧ v < 8)) : g_NV4 z (gj_up M z i v) := fun j a b => by
  rw [gj_up_if]
  split
  · exact hv (by omega) (by omega)
  · exact h j a b
theorem g_PJ_124 {i v : Int} {M : gj_M} (h : g_PJ M) (hv : 0 ≤ i → i < 4 → v = -1 ∨ (4 ≤ v ∧ v < 8)) : g_PJ (gj_up M 124 i v) := by
  refine ⟨g_RP_up h.1 (by decide), g_NV4_i h.2.1 hv, ?_⟩
  unfold g_PV
  rw [gj_up_z (by decide)]
  exact h.2.2.imp id (fun q => ⟨q.1, g_NV4_z q.2 (by decide)⟩)
theorem r_parentsN : ∀ (f : Nat) (p : Int) (M : gj_M), 0 ≤ p → p ≤ M 101 0 → M 101 0 - p < f → g_PJ M → ∃ N, F_X12_parentsN f p M = some N ∧ g_PJ N ∧ g_PV N
  | 0, p, M, a, b, c, _ => absurd c (by omega)
  | f + 1, p, M, a, b, c, h => by
    unfold F_X12_parentsN
    rw [gj_it_s]
    have ih : ∀ (M : gj_M), p + 1 ≤ M 101 0 → M 101 0 - (p + 1) < f → g_PJ M → ∃ N, gj_it (fun _ _ => none) F_X12_parentsFrom f (p + 1) M = some N ∧ g_PJ N ∧ g_PV N ∧ N 101 = M 101 := fun M x y z => by
      obtain ⟨N, e, n1, n2⟩ := r_parentsN f (p + 1) M (by omega) x y z
      exact ⟨N, e, n1, n2, g_fr_row [101] (fr_X12_parentsN f (p + 1) M N e) (by decide) 101 rfl (by decide)⟩
    generalize gj_it (fun _ _ => none) F_X12_parentsFrom f = W at *
    refine k_cps (fun P done => ?_)
    unfold F_X12_parentsFrom
    have b0 := h.1.b0
    have b1 := h.1.b1
    refine k_ite (fun e => ?_) (fun e => ?_)
    · obtain ⟨v, ev, v0⟩ := r_sumOf h.1 h.2.1
      rw [ev, gj_bnd_s]
      refine k_ite (fun _ => ?_) (fun d => ?_)
      · rw [gj_let_s]
        refine gj_okM1 P (fun l N => 0 ≤ l ∧ l ≤ 8 ∧ g_RP N ∧ g_NV4 124 N ∧ 0 ≤ N 79 46 ∧ ∀ j, 0 ≤ j → j < l → j < 4 → N 125 j = -1 ∨ (4 ≤ N 125 j ∧ N 125 j < 8)) (fun l _ => (8 - l).toNat) ?_ gj_fu 0 _ ⟨by omega, by omega, g_RP_up h.1 (by decide), g_NV4_z h.2.1 (by decide), by rw [gj_up_eq]; exact v0, fun j x y => by omega⟩ (by show _ < 2048; omega)
        rintro rec l N ⟨x, y, n1, n2, n3, n4⟩ hr
        unfold B_X12_parentsFrom_37
        refine k_ite (fun _ => ?_) (fun q => k_chk (by omega) (k_chk (by omega) ?_))
        · have pv : g_PV N := ⟨n3, fun j a b => n4 j a (by omega) b⟩
          exact done N ⟨⟨n1, n2, Or.inr pv⟩, pv⟩
        · rw [gj_let_s, gj_wle (x := l + 1) (by omega) (by omega)]
          refine hr _ _ ⟨by omega, by omega, g_RP_up n1 (by decide), g_NV4_z n2 (by decide), by rw [gj_up_z (by decide)]; exact n3, fun j a b c => ?_⟩ (by omega)
          rw [gj_up_if]
          split
          · next e => rw [← e]; exact n2 j a c
          · exact n4 j a (by omega) c
      · have pv : g_PV M := by
          rcases h.2.2 with x | x
          · omega
          · exact x
        exact done M ⟨h, pv⟩
    · refine k_chk (by omega) ?_
      rw [gj_let_s, gj_wle (x := p + 1) (by omega) (by omega)]
      have e101 : ∀ (w i v : Int) (N : gj_M), w ≠ 101 → gj_up N w i v 101 = N 101 := fun w i v N hw => funext fun _ => gj_up_z (fun e => hw e.symm)
      obtain ⟨A, eA, hA, vA, A101⟩ := ih (gj_up M 124 p (-1)) (by rw [e101 _ _ _ _ (by decide)]; omega) (by rw [e101 _ _ _ _ (by decide)]; omega) (g_PJ_124 h (fun _ _ => Or.inl rfl))
      rw [e101 _ _ _ _ (by decide)] at A101
      rw [eA, gj_bnd_s]
      refine gj_okM2 P (fun l1 l2 N => l1 = p ∧ 4 ≤ l2 ∧ l2 ≤ 8 ∧ g_PJ N ∧ g_PV N ∧ N 101 = M 101) (fun _ l2 _ => (8 - l2).toNat) ?_ gj_fu p 4 A ⟨rfl, by omega, by omega, hA, vA, A101⟩ (by show _ < 2048; omega)
      rintro rec l1 l2 N ⟨e1, x, y, n1, n2, n3⟩ hr
      rw [e1]
      unfold B_X12_parentsFrom_78 J_X12_parentsFrom_139 J_X12_parentsFrom_133
      rw [n3, gj_wle (x := 4 + M 101 1) (by omega) (by omega), gj_wle (x := l2 + 1) (by omega) (by omega), gj_wle (x := p + 1) (by omega) (by omega)]
      have p8 : 0 ≤ p ∧ p < 8 := by omega
      have pv_z : ∀ (N : gj_M) (i v : Int), g_PV N → g_PV (gj_up N 124 i v) := fun N i v q => ⟨by rw [gj_up_z (by decide)]; exact q.1, g_NV4_z q.2 (by decide)⟩
      refine k_ite (fun _ => k_chk p8 ?_) (fun d => ?_)
      · rw [gj_let_s]
        exact done _ ⟨g_PJ_124 n1 (fun _ _ => Or.inl rfl), pv_z _ _ _ n2⟩
      · have z8 : 0 ≤ l2 ∧ l2 < 8 := by omega
        have nx : ∀ K : gj_M, g_PJ K → g_PV K → K 101 = M 101 → P (rec p (l2 + 1) K) := fun K k1 k2 k3 => hr p (l2 + 1) K ⟨rfl, by omega, by omega, k1, k2, k3⟩ (by omega)
        refine k_chk z8 (k_ite (fun _ => k_chk p8 ?_) (fun _ => nx N n1 n2 n3))
        rw [gj_let_s]
        refine k_chk z8 ?_
        rw [gj_let_s]
        obtain ⟨B, eB, hB, vB, B101⟩ := ih (gj_up (gj_up N 124 p l2) 124 l2 p) (by rw [e101 _ _ _ _ (by decide), e101 _ _ _ _ (by decide), n3]; omega) (by rw [e101 _ _ _ _ (by decide), e101 _ _ _ _ (by decide), n3]; omega) (g_PJ_124 (g_PJ_124 n1 (fun _ _ => Or.inr (by omega))) (fun _ _ => by omega))
        rw [e101 _ _ _ _ (by decide), e101 _ _ _ _ (by decide), n3] at B101
        rw [eB, gj_bnd_s]
        refine k_chk z8 ?_
        rw [gj_let_s]
        exact nx _ (g_PJ_124 hB (fun _ _ => Or.inl rfl)) (pv_z _ _ _ vB) (by rw [e101 _ _ _ _ (by decide)]; exact B101)
theorem r_finds {M : gj_M} (h : g_RP M) : ∃ N, F_X12_findsParents M = some N ∧ g_RP N ∧ g_PV N := by
  refine k_cps (fun P done => ?_)
  unfold F_X12_findsParents
  refine gj_okM1 P (fun l N => 0 ≤ l ∧ l ≤ 8 ∧ g_RP N ∧ ∀ j, 0 ≤ j → j < l → N 124 j = -1) (fun l _ => (8 - l).toNat) ?_ gj_fu 0 M ⟨by omega, by omega, h, fun j a b => by omega⟩ (by show _ < 2048; omega)
  rintro rec l N ⟨x, y, n1, n2⟩ hr
  unfold B_X12_findsParents_2 J_X12_findsParents_21
  refine k_ite (fun _ => ?_) (fun q => k_chk (by omega) ?_)
  · rw [gj_let_s]
    have b0 := n1.b0
    have e : gj_up N 79 46 (-1) 101 = N 101 := funext fun _ => gj_up_z (by decide)
    obtain ⟨K, ek, k1, k2⟩ := r_parentsN 6 0 (gj_up N 79 46 (-1)) (by omega) (by rw [e]; omega) (by rw [e]; omega) ⟨g_RP_up n1 (by decide), fun j a b => Or.inl (by rw [gj_up_z (by decide)]; exact n2 j a (by omega)), Or.inl gj_up_eq⟩
    rw [ek, gj_bnd_s]
    exact done K ⟨k1.1, k2⟩
  · rw [gj_let_s, gj_wle (x := l + 1) (by omega) (by omega)]
    refine hr _ _ ⟨by omega, by omega, g_RP_up n1 (by decide), fun j a b => ?_⟩ (by omega)
    rw [gj_up_if]
    split
    · rfl
    · exact n2 j a (by omega)
