/-! PURE: the years that follow, in the reference; safe -/
theorem r_lives {M : gj_M} {p : Int} (h : g_RG M) (p4 : 0 ≤ p ∧ p < 4) (hp : M 108 p ≠ -1) : ∃ N, F_X12_lives p M = some N ∧ g_NW N := by
  have m := h.2.1 p p4.1 (by omega)
  obtain ⟨⟨q0, q8, qo⟩, -⟩ : (0 ≤ M 108 p ∧ M 108 p < 8 ∧ (p < 4 ↔ ¬ M 108 p < 4)) ∧ g_pe M 101 (M 108 p) := by
    rcases m with e | e
    · exact absurd e hp
    · exact e
  have p8 : 0 ≤ p ∧ p < 8 := by omega
  obtain ⟨t1, t2⟩ := p_twoOf (M := M) p8 ⟨q0, q8⟩ (by omega)
  have q8 : 0 ≤ M 108 p ∧ M 108 p < 8 := ⟨q0, q8⟩
  unfold F_X12_lives
  dsimp only [gj_letI]
  rw [gj_chkp p8, t1]
  generalize f_cpl p (M 108 p) = t at *
  generalize M 108 p = q at *
  obtain ⟨v, x, e⟩ := r_lot (M := M) (n := 16) (by decide)
  rw [e, gj_bnd2_s, gj_chkp t2]
  have hN : g_NW (gj_up M 79 30 x) := g_NW_s h.2.2 (funext fun _ => gj_up_z (by decide)) (funext fun _ => gj_up_z (by decide))
  generalize gj_up M 79 30 x = N at *
  have e211 : ∀ N, g_NW N → ∃ K, J_X12_lives_211 p q N = some K ∧ g_NW K := by
    intro N hN
    unfold J_X12_lives_211
    rw [gj_chkp p8, gj_chkp p8, gj_let_s, gj_chkp q8, gj_chkp q8, gj_let_s]
    exact ⟨_, rfl, g_NW_s hN (funext fun _ => by rw [gj_up_z (by decide), gj_up_z (by decide)]) (funext fun _ => by rw [gj_up_z (by decide), gj_up_z (by decide)])⟩
  have e175 : ∀ N, g_NW N → ∃ K, J_X12_lives_175 p q t N = some K ∧ g_NW K := by
    intro N hN
    unfold J_X12_lives_175
    obtain ⟨v, x, e⟩ := r_lot (M := N) (n := 16) (by decide)
    have h2 : g_NW (gj_up N 79 30 x) := g_NW_s hN (funext fun _ => gj_up_z (by decide)) (funext fun _ => gj_up_z (by decide))
    rw [e, gj_bnd2_s]
    split
    · exact e211 _ h2
    · rw [gj_chkp t2, gj_chkp t2, gj_let_s]
      exact e211 _ (g_NW_s h2 (funext fun _ => gj_up_z (by decide)) (funext fun _ => gj_up_z (by decide)))
  have e90 : ∀ (a b d : Int), ∃ K, J_X12_lives_90 p q t a b d N = some K ∧ g_NW K := by
    intro a b d
    unfold J_X12_lives_90
    dsimp only [gj_letI]
    rw [gj_chkp t2, gj_chkp p8, gj_chkp p8, gj_let_s, gj_chkp q8, gj_chkp q8, gj_let_s]
    have h2 : ∀ y z : Int, g_NW (gj_up (gj_up N 111 p y) 111 q z) := fun y z => g_NW_s hN (funext fun _ => by rw [gj_up_z (by decide), gj_up_z (by decide)]) (funext fun _ => by rw [gj_up_z (by decide), gj_up_z (by decide)])
    split
    · rw [gj_chkp t2, gj_chkp t2, gj_let_s]
      exact e175 _ (g_NW_up (h2 _ _) (Or.inr rfl) (fun a b => g_min4 ((h2 _ _) t a b).2))
    · rw [gj_chkp t2, gj_chkp t2, gj_let_s]
      exact e175 _ (g_NW_up (h2 _ _) (Or.inl rfl) (fun a b => g_min4 ((h2 _ _) t a b).1))
  have e61 : ∀ (a b : Int), ∃ K, J_X12_lives_61 p q t a b N = some K ∧ g_NW K := by
    intro a b
    unfold J_X12_lives_61
    rw [gj_chkp p8]
    split <;> exact e90 _ _ _
  have e35 : ∀ (a : Int), ∃ K, J_X12_lives_35 p q t a N = some K ∧ g_NW K := by
    intro a
    unfold J_X12_lives_35
    split <;> exact e61 _ _
  split <;> exact e35 _
theorem r_livesJ {M0 M : gj_M} {p c : Int} (h : g_MJ M0 c M) (p4 : 0 ≤ p ∧ p < 4) (hp : M 108 p ≠ -1) : ∃ N, F_X12_lives p M = some N ∧ g_MJ M0 c N ∧ N 101 = M 101 := by
  obtain ⟨N, e, k⟩ := r_lives h.2.1 p4 hp
  have f := fr_X12_lives p N e
  have e108 : N 108 = M 108 := g_fr_row [108] f (by decide) 108 rfl (by decide)
  have e101 : N 101 = M 101 := g_fr_row [101] f (by decide) 101 rfl (by decide)
  refine ⟨N, e, ⟨h.1, h.2.1.ch (fun z hz => ?_) (g_MT_s h.2.1.2.1 e108 e101) k, ?_, h.2.2.2.trans (f.wide (by decide +kernel))⟩, e101⟩
  · exact g_fr_row [83, 86, 89, 92, 95, 98, 101] f (by decide) z (by rcases hz with e | e | e | e | e | e | e <;> rw [e] <;> rfl) (by omega)
  · rw [show N 79 29 = M 79 29 from f 79 29 (by decide) (by decide)]
    exact h.2.2.1
theorem r_parts {M : gj_M} {p : Int} (p8 : 0 ≤ p ∧ p < 8) (q8 : 0 ≤ M 108 p ∧ M 108 p < 8) : F_X12_parts p M = some (gj_up (gj_up M 108 (M 108 p) (-1)) 108 p (-1)) := by
  unfold F_X12_parts
  rw [gj_chkp p8, gj_chkp q8, gj_let_s, gj_chkp p8, gj_let_s]
theorem r_joins {M : gj_M} {p q : Int} (p8 : 0 ≤ p ∧ p < 8) (q8 : 0 ≤ q ∧ q < 8) : F_X12_joins p q M = some (gj_up (gj_up (gj_up (gj_up (gj_up (gj_up M 108 p q) 108 q p) 109 p 0) 109 q 0) 110 p 0) 110 q 0) := by
  unfold F_X12_joins
  rw [gj_chkp p8, gj_let_s, gj_chkp q8, gj_let_s, gj_chkp p8, gj_let_s, gj_chkp q8, gj_let_s, gj_chkp p8, gj_let_s, gj_chkp q8, gj_let_s]
theorem r_joinsJ {M0 M : gj_M} {p q c : Int} (h : g_MJ M0 c M) (p8 : 0 ≤ p ∧ p < 8) (q8 : 0 ≤ q ∧ q < 8) (u : ¬ (p < 4 ↔ q < 4)) (pp : g_pe M 101 p) (pq : g_pe M 101 q) : ∃ N, F_X12_joins p q M = some N ∧ g_MJ M0 c N ∧ N 101 = M 101 ∧ N 119 = M 119 := by
  refine ⟨_, r_joins p8 q8, ?_, funext fun _ => by rw [gj_up_z (by decide), gj_up_z (by decide), gj_up_z (by decide), gj_up_z (by decide), gj_up_z (by decide), gj_up_z (by decide)], funext fun _ => by rw [gj_up_z (by decide), gj_up_z (by decide), gj_up_z (by decide), gj_up_z (by decide), gj_up_z (by decide), gj_up_z (by decide)]⟩
  have n : ∀ {N : gj_M} {z i v : Int}, z = 109 ∨ z = 110 → g_MJ M0 c N → g_MJ M0 c (gj_up N z i v) := fun {N z i v} hz hN => by
    rcases hz with e | e <;> rw [e]
    · exact g_MJ_up hN (by decide) (by rw [show g_os.contains 109 = true from rfl]; rfl) (by omega)
    · exact g_MJ_up hN (by decide) (by rw [show g_os.contains 110 = true from rfl]; rfl) (by omega)
  refine n (Or.inr rfl) (n (Or.inr rfl) (n (Or.inl rfl) (n (Or.inl rfl) ?_)))
  refine g_MJ_108 (g_MJ_108 h (fun _ _ => Or.inr ⟨by omega, pq⟩)) (fun _ _ => Or.inr ⟨by omega, ?_⟩)
  exact (g_pe_s (funext fun _ => gj_up_z (by decide))).mpr pp
theorem r_partsJ {M0 M : gj_M} {p c : Int} (h : g_MJ M0 c M) (p8 : 0 ≤ p ∧ p < 8) (hp : M 108 p ≠ -1) : ∃ N, F_X12_parts p M = some N ∧ g_MJ M0 c N ∧ N 101 = M 101 := by
  have q8 : 0 ≤ M 108 p ∧ M 108 p < 8 := by
    rcases h.2.1.2.1 p p8.1 p8.2 with e | e
    · exact absurd e hp
    · omega
  exact ⟨_, r_parts p8 q8, g_MJ_108 (g_MJ_108 h (fun _ _ => Or.inl rfl)) (fun _ _ => Or.inl rfl), funext fun _ => by rw [gj_up_z (by decide), gj_up_z (by decide)]⟩
theorem r_asked {M0 M : gj_M} {c : Int} (h : g_MJ M0 c M) : ∃ d N, F_X12_asked c M = some (d, N) ∧ g_MJ M0 d N := by
  refine k_cps2 (fun P done => ?_)
  unfold F_X12_asked
  refine gj_okM2 P (fun l d N => d = c ∧ 0 ≤ l ∧ l ≤ 8 ∧ g_MJ M0 c N) (fun l _ _ => (8 - l).toNat) ?_ gj_fu 0 c M ⟨rfl, by omega, by omega, h⟩ (by show _ < 2048; omega)
  rintro rec l d N ⟨e1, a, b, hJ⟩ hr
  rw [e1]
  unfold B_X12_asked_2 J_X12_asked_58 J_X12_asked_51
  have b0 := hJ.2.1.rs.b0
  refine k_ite (fun q => ?_) (fun q => ?_)
  · refine gj_okM2 P (fun l d N => 0 ≤ l ∧ l ≤ 4 ∧ g_MJ M0 d N) (fun l _ _ => (4 - l).toNat) ?_ 5 0 c N ⟨by omega, by omega, hJ⟩ (by omega)
    clear hr e1 hJ b0
    rintro rec l c N ⟨a, b, hJ⟩ hr
    unfold B_X12_asked_60
    have b0 := hJ.2.1.rs.b0
    refine k_ite (fun _ => done c N hJ) (fun q2 => ?_)
    have l8 : 0 ≤ l ∧ l < 8 := by omega
    have nx : ∀ (d : Int) (K : gj_M), g_MJ M0 d K → P (J_X12_asked_202 rec l d K) := by
      intro d K hK
      unfold J_X12_asked_202
      rw [gj_wle (by omega) (by omega)]
      exact hr _ _ _ ⟨by omega, by omega, hK⟩ (by omega)
    refine k_chk l8 (k_ite (fun _ => nx c N hJ) (fun hm => ?_))
    have mm : (0 ≤ N 108 l ∧ N 108 l < 8) := by
      rcases hJ.2.1.2.1 l l8.1 l8.2 with e | e
      · exact absurd e hm
      · omega
    refine k_chk l8 (k_chk l8 (k_chk mm ?_))
    dsimp only [gj_letI]
    have n191 : ∀ (w : Int) (K : gj_M), g_MJ M0 c K → K 108 = N 108 → P (J_X12_asked_191 rec l w c K) := by
      intro w K hK e108
      unfold J_X12_asked_191
      obtain ⟨K2, f1, f2, f3⟩ := r_notes (w := w) hK l8
      rw [f1, gj_bnd2_s]
      obtain ⟨K3, k1, k2, -⟩ := r_partsJ f2 l8 (by rw [f3, e108]; exact hm)
      rw [k1, gj_bnd_s]
      exact nx _ _ k2
    have n163 : ∀ (w : Int) (K : gj_M), g_MJ M0 c K → K 108 = N 108 → P (J_X12_asked_163 rec l w c K) := by
      intro w K hK e108
      unfold J_X12_asked_163
      refine k_ite (fun _ => n191 w K hK e108) (fun _ => ?_)
      have mm2 : (0 ≤ K 108 l ∧ K 108 l < 8) := by rw [e108]; exact mm
      refine k_chk l8 (k_chk mm2 (k_chk mm2 ?_))
      rw [gj_let_s]
      exact n191 w _ (g_MJ_up hK (by decide) (by rw [show g_os.contains 111 = true from rfl]; rfl) (by omega)) (by rw [← e108]; exact funext fun _ => gj_up_z (by decide))
    refine k_ite (fun _ => ?_) (fun _ => k_ite (fun _ => ?_) (fun _ => n163 _ N hJ rfl))
    · refine k_chk l8 (k_chk l8 ?_)
      rw [gj_let_s]
      have e8 : ∀ v : Int, gj_up N 110 l v 108 l = N 108 l := fun v => gj_up_z (by decide)
      rw [e8]
      refine k_chk l8 (k_chk mm (k_chk mm ?_))
      rw [gj_let_s]
      exact nx _ _ (g_MJ_up (g_MJ_up hJ (by decide) (by rw [show g_os.contains 110 = true from rfl]; rfl) (by omega)) (by decide) (by rw [show g_os.contains 110 = true from rfl]; rfl) (by omega))
    · refine k_chk l8 (k_chk l8 ?_)
      rw [gj_let_s]
      exact n163 _ _ (g_MJ_up hJ (by decide) (by rw [show g_os.contains 111 = true from rfl]; rfl) (by omega)) (funext fun _ => gj_up_z (by decide))
  · have hd7 : g_hb 7 (N 98 7) := hJ.2.1.rs.hd 7 (by decide) (by decide)
    have hd7 : 1 ≤ N 98 7 ∧ N 98 7 ≤ 4 := ⟨hd7.2.2 (Or.inr rfl), hd7.2.1⟩
    have l8 : 0 ≤ l ∧ l < 8 := by omega
    have nx : ∀ (v : Int) (K : gj_M), g_MJ M0 c K → P (gj_chk (0 ≤ l ∧ l < 8) (gj_let (gj_up K 123 l v) (fun M5 => rec (gj_w (l + 1)) c M5))) := by
      intro v K hK
      refine k_chk l8 ?_
      rw [gj_let_s, gj_wle (by omega) (by omega)]
      exact hr _ _ _ ⟨rfl, by omega, by omega, g_MJ_up hK (by decide) (by rw [show g_os.contains 123 = true from rfl]; rfl) (by omega)⟩ (by omega)
    rw [g_tdiv a, gj_wle (x := l / 4) (by omega) (by omega)]
    refine k_chk (by omega) (k_ite (fun _ => nx 0 N hJ) (fun _ => ?_))
    obtain ⟨v, K, e⟩ := r_isSilent (n := N 98 7) hJ.2.1 l8 (by omega)
    have hK : g_MJ M0 c K := g_MJ_fr hJ (fr_X12_isSilent _ _ _ e) (by decide) (by decide +kernel) (by decide)
    rw [e, gj_bnd2_s]
    split
    · exact nx 0 K hK
    · exact nx 1 K hK
theorem r_may {M0 M : gj_M} {c : Int} (h : g_MJ M0 c M) (hw : 0 ≤ M 79 28) : ∃ d N, F_X12_may c M = some (d, gj_up N 79 27 (gj_w (N 79 27 + 1))) ∧ g_MJ M d N := by
  have h : g_MJ M c M := ⟨h.1, h.2.1, h.2.2.1, gj_Fr.rf⟩
  suffices hh : ∀ P : Option (Int × gj_M) → Prop, (∀ d N, g_MJ M d N → P (some (d, gj_up N 79 27 (gj_w (N 79 27 + 1))))) → P (F_X12_may c M) from hh (fun y => ∃ d N, y = some (d, gj_up N 79 27 (gj_w (N 79 27 + 1))) ∧ g_MJ M d N) (fun d N a => ⟨d, N, rfl, a⟩)
  intro P done
  unfold F_X12_may
  obtain ⟨d, A, e, hA⟩ := r_asked h
  rw [e, gj_bnd2_s]
  clear e h
  refine gj_okM2 P (fun l e N => e = d ∧ 0 ≤ l ∧ l ≤ 8 ∧ g_MJ M d N) (fun l _ _ => (8 - l).toNat) ?_ gj_fu 0 d A ⟨rfl, by omega, by omega, hA⟩ (by show _ < 2048; omega)
  rintro rec l e N ⟨e1, a, b, hJ⟩ hr
  rw [e1]
  unfold B_X12_may_6 J_X12_may_32
  refine k_ite (fun q => ?_) (fun q => ?_)
  · clear hr
    unfold J_X12_may_39
    have w28 : N 79 28 = M 79 28 := hJ.2.2.2 79 28 (by decide) (by decide)
    obtain ⟨B, e2, hV⟩ := r_goes (w := N 79 28) hJ.2.1.rs (by omega)
    have hB : g_MJ M d B := g_MJ_fr hJ (fr_X12_goes _ _ e2) (by decide) (by decide +kernel) (by decide)
    rw [e2, gj_bnd_s]
    refine gj_okM2 P (fun l e N => e = d ∧ 0 ≤ l ∧ l ≤ 4 ∧ g_MJ M d N ∧ g_HV N) (fun l _ _ => (4 - l).toNat) ?_ gj_fu 0 d B ⟨rfl, by omega, by omega, hB, hV⟩ (by show _ < 2048; omega)
    clear hJ q a b e1 e2 hB hV w28
    rintro rec l e N ⟨e1, a, b, hJ, hV⟩ hr
    rw [e1]
    unfold B_X12_may_49 J_X12_may_82 J_X12_may_88
    have b0 := hJ.2.1.rs.b0
    refine k_ite (fun q => ?_) (fun q => ?_)
    · clear hr
      refine gj_okM2 P (fun l e N => e = d ∧ 0 ≤ l ∧ l ≤ 4 ∧ g_MJ M d N) (fun l _ _ => (4 - l).toNat) ?_ gj_fu 0 d N ⟨rfl, by omega, by omega, hJ⟩ (by show _ < 2048; omega)
      clear hJ q a b e1 b0 hV
      rintro rec l e N ⟨e1, a, b, hJ⟩ hr
      rw [e1]
      unfold B_X12_may_90 J_X12_may_117 J_X12_may_123
      have b0 := hJ.2.1.rs.b0
      refine k_ite (fun q => ?_) (fun q => ?_)
      · clear hr
        refine gj_okM2 P (fun l e N => e = d ∧ 0 ≤ l ∧ l ≤ 8 ∧ g_MJ M d N) (fun l _ _ => (8 - l).toNat) ?_ gj_fu 0 d N ⟨rfl, by omega, by omega, hJ⟩ (by show _ < 2048; omega)
        clear hJ q a b e1 b0
        rintro rec l e N ⟨e1, a, b, hJ⟩ hr
        rw [e1]
        unfold B_X12_may_125 J_X12_may_174 J_X12_may_180
        refine k_ite (fun q => ?_) (fun q => ?_)
        · rw [gj_let_s]
          exact done d N hJ
        · have l8 : 0 ≤ l ∧ l < 8 := by omega
          rw [g_tdiv a, gj_wle (x := l / 4) (by omega) (by omega), gj_wle (x := l + 1) (by omega) (by omega)]
          have nx : ∀ K : gj_M, g_MJ M d K → P (rec (l + 1) d K) := fun K hK => hr _ _ _ ⟨rfl, by omega, by omega, hK⟩ (by omega)
          refine k_chk (by omega) (k_ite (fun _ => nx N hJ) (fun _ => k_chk l8 (k_ite (fun _ => k_chk l8 (k_chk l8 (k_chk l8 ?_))) (fun _ => nx N hJ))))
          rw [gj_let_s]
          exact nx _ (g_MJ_up hJ (by decide) (by rw [show g_os.contains 111 = true from rfl]; rfl) (by omega))
      · rw [gj_wle (x := l + 1) (by omega) (by omega)]
        have nx : ∀ K : gj_M, g_MJ M d K → P (rec (l + 1) d K) := fun K hK => hr _ _ _ ⟨rfl, by omega, by omega, hK⟩ (by omega)
        refine k_chk (by omega) (k_ite (fun _ => nx N hJ) (fun hm => ?_))
        obtain ⟨K, e, hK, -⟩ := r_livesJ hJ (p := l) (by omega) hm
        rw [e, gj_bnd_s]
        exact nx K hK
    · rw [gj_wle (x := l + 1) (by omega) (by omega)]
      have nx : ∀ K : gj_M, g_MJ M d K → g_HV K → P (rec (l + 1) d K) := fun K hK hV => hr _ _ _ ⟨rfl, by omega, by omega, hK, hV⟩ (by omega)
      have l8 : 0 ≤ l ∧ l < 8 := by omega
      refine k_chk l8 (k_ite (fun _ => nx N hJ hV) (fun hm => k_chk l8 ?_))
      obtain ⟨v0, v8, vo, vp⟩ : 0 ≤ N 119 l ∧ N 119 l < 8 ∧ (l < 4 ↔ ¬ N 119 l < 4) ∧ g_pe N 101 (N 119 l) := by
        rcases hV l l8.1 l8.2 with e | e
        · exact absurd e hm
        · exact e
      obtain ⟨K, e, hK, k101, k119⟩ := r_joinsJ hJ (p := l) (q := N 119 l) l8 ⟨v0, v8⟩ (by omega) (Or.inl ⟨by omega, by omega⟩) vp
      rw [e, gj_bnd_s]
      exact nx K hK (g_HV_s hV k119 k101)
  · have nx : ∀ (v : Int) (K : gj_M), g_MJ M d K → P (gj_chk (0 ≤ l ∧ l < 8) (gj_let (gj_up K 120 l v) (fun M8 => rec (gj_w (l + 1)) d M8))) := by
      intro v K hK
      refine k_chk (by omega) ?_
      rw [gj_let_s, gj_wle (by omega) (by omega)]
      exact hr _ _ _ ⟨rfl, by omega, by omega, g_MJ_up hK (by decide) (by rw [show g_os.contains 120 = true from rfl]; rfl) (by omega)⟩ (by omega)
    exact k_chk (by omega) (k_ite (fun _ => nx 0 N hJ) (fun _ => nx 1 N hJ))
