/-! PURE: the reference lays out what one knows; safe -/
theorem k_cps {A : Type} {Q : A → Prop} {x : Option A} (h : ∀ P : Option A → Prop, (∀ N, Q N → P (some N)) → P x) : ∃ N, x = some N ∧ Q N := h (fun y => ∃ N, y = some N ∧ Q N) (fun N q => ⟨N, rfl, q⟩)
theorem k_cps2 {A B : Type} {Q : A → B → Prop} {x : Option (A × B)} (h : ∀ P : Option (A × B) → Prop, (∀ d N, Q d N → P (some (d, N))) → P x) : ∃ d N, x = some (d, N) ∧ Q d N := h (fun y => ∃ d N, y = some (d, N) ∧ Q d N) (fun d N q => ⟨d, N, rfl, q⟩)
theorem k_cpo {A : Type} {x : Option A} (h : ∀ P : Option A → Prop, (∀ N, P (some N)) → P x) : ∃ N, x = some N := h (fun y => ∃ N, y = some N) (fun N => ⟨N, rfl⟩)
theorem k_cpo2 {A B : Type} {x : Option (A × B)} (h : ∀ P : Option (A × B) → Prop, (∀ d N, P (some (d, N))) → P x) : ∃ d N, x = some (d, N) := h (fun y => ∃ d N, y = some (d, N)) (fun d N => ⟨d, N, rfl⟩)
theorem r_shows {R : gj_M} {s q a b w : Int} (h : g_RS R) (s8 : 0 ≤ s ∧ s < 8) (q8 : 0 ≤ q ∧ q < 8) (k : g_K a b) : ∃ x, F_X12_shows s q a b w R = some x :=
  ⟨_, p_X12_shows s8 q8 (h.vw _ (by omega) (by omega)) k⟩
theorem r_likes {R : gj_M} {s q g : Int} (s8 : 0 ≤ s ∧ s < 8) (q8 : 0 ≤ q ∧ q < 8) (u : ¬ (s < 4 ↔ q < 4)) : ∃ x, F_X12_likes s q g R = some x := by
  unfold F_X12_likes
  obtain ⟨e, h⟩ := p_twoOf (M := R) s8 q8 u
  dsimp only [gj_letI]
  rw [e]
  exact ⟨_, gj_chkp h⟩
def g_ot (s : Int) : Int := if s < 4 then 1 else 0
theorem g_ot_e {s : Int} (h : 0 ≤ s ∧ s < 8) : gj_w (1 - gj_w (Int.tdiv s 4)) = g_ot s := by
  unfold g_ot
  rw [g_tdiv h.1, gj_wle (x := s / 4) (by omega) (by omega), gj_wle (by omega) (by omega)]
  split <;> omega
theorem g_ot_01 {s : Int} : g_ot s = 0 ∨ g_ot s = 1 := by
  unfold g_ot
  split
  · exact Or.inr rfl
  · exact Or.inl rfl
/-- what the reference holds behind lays -/
def g_KS (s : Int) (M : gj_M) : Prop := ∀ k, 0 ≤ k → k < M 101 (g_ot s) → g_K (M 115 k) (M 116 k)
theorem r_lays {R : gj_M} {s : Int} (h : g_RS R) (s8 : 0 ≤ s ∧ s < 8) : ∃ N, F_X12_lays s R = some N ∧ N 79 35 = s ∧ g_KS s N := by
  refine k_cps (fun P done => ?_)
  unfold F_X12_lays
  rw [gj_let_s, gj_let_s, gj_let_s]
  refine gj_okM2 P (fun l1 l2 M => l1 = s ∧ 0 ≤ l2 ∧ l2 ≤ 4 ∧ g_RS M ∧ M 79 35 = s ∧ ∀ k, 0 ≤ k → k < l2 → g_K (M 115 k) (M 116 k)) (fun _ l2 _ => (4 - l2).toNat) ?_ gj_fu s 0 _ ⟨rfl, by omega, by omega, g_RS_up (g_RS_up (g_RS_up h (by unfold g_rk; decide)) (by unfold g_rk; decide)) (by unfold g_rk; decide), ?_, fun k a b => by omega⟩ (by show _ < 2048; omega)
  · rintro rec l1 l2 M ⟨e1, l20, l24, hS, hs, hk⟩ hr
    rw [e1]
    unfold B_X12_lays_25
    rw [g_ot_e s8]
    have ho := g_ot_01 (s := s)
    have hb := hS.bs ho
    refine k_chk (by omega) (k_ite (fun c => ?_) (fun c => ?_))
    · exact done M ⟨hs, fun k a b => hk k a (by omega)⟩
    · have hx : gj_w (gj_w (4 * g_ot s) + l2) = 4 * g_ot s + l2 := by unfold gj_w; omega
      dsimp only [gj_letI]
      rw [hx]
      have q8 : 0 ≤ 4 * g_ot s + l2 ∧ 4 * g_ot s + l2 < 8 := by omega
      have u : ¬ (s < 4 ↔ 4 * g_ot s + l2 < 4) := by
        unfold g_ot at *
        by_cases q : s < 4
        · rw [if_pos q] at *; omega
        · rw [if_neg q] at *; omega
      obtain ⟨t1, t2⟩ := p_twoOf (M := M) s8 q8 u
      rw [t1]
      refine k_chk t2 (k_chk (by omega) ?_)
      rw [gj_let_s, (p_twoOf s8 q8 u).1]
      refine k_chk t2 (k_chk (by omega) ?_)
      rw [gj_let_s]
      generalize hz : 4 * g_ot s + l2 = z at *
      generalize hc : f_cpl s z = t at *
      have kn := hS.nw t t2.1 t2.2
      have hA : g_RS (gj_up (gj_up M 115 l2 (M 112 t)) 116 l2 (gj_up M 115 l2 (M 112 t) 113 t)) := g_RS_up (g_RS_up hS (by unfold g_rk; decide)) (by unfold g_rk; decide)
      refine gj_okM4 P (fun m1 m2 m3 m4 N => m1 = s ∧ m2 = l2 ∧ m3 = z ∧ 0 ≤ m4 ∧ m4 ≤ 25 ∧ g_RS N ∧ N 79 35 = s ∧ ∀ k, 0 ≤ k → k < l2 + 1 → g_K (N 115 k) (N 116 k)) (fun _ _ _ m4 _ => (25 - m4).toNat) ?_ gj_fu s l2 z 0 _ ⟨rfl, rfl, rfl, by omega, by omega, hA, ?_, fun k a b => ?_⟩ (by show _ < 2048; omega)
      · rintro rec4 m1 m2 m3 m4 N ⟨f1, f2, f3, m40, m45, nS, ns, nk⟩ hr4
        rw [f1, f2, f3]
        unfold B_X12_lays_86 J_X12_lays_156
        refine k_ite (fun d => ?_) (fun d => ?_)
        · rw [gj_wle (by omega) (by omega)]
          exact hr _ _ _ ⟨rfl, by omega, by omega, nS, ns, nk⟩ (by omega)
        · rw [show gj_w (gj_w (25 * l2) + m4) = 25 * l2 + m4 by unfold gj_w; omega, g_tdiv m40, g_tmod m40, gj_wle (x := m4 / 5) (by omega) (by omega), gj_wle (x := m4 + 1) (by omega) (by omega)]
          refine k_bE (r_shows nS s8 q8 ⟨by omega, by omega⟩) (fun x => k_chk (by omega) ?_)
          rw [gj_let_s]
          refine k_chk (by omega) (k_bE (r_likes s8 q8 u) (fun x' => k_chk (by omega) ?_))
          rw [gj_let_s]
          refine hr4 _ _ _ _ _ ⟨rfl, rfl, rfl, by omega, by omega, g_RS_up (g_RS_up nS (by unfold g_rk; decide)) (by unfold g_rk; decide), ?_, fun k a b => ?_⟩ (by omega)
          · rw [gj_up_z (by decide), gj_up_z (by decide)]; exact ns
          · rw [gj_up_z (by decide), gj_up_z (by decide), gj_up_z (by decide), gj_up_z (by decide)]; exact nk k a b
      · rw [gj_up_z (by decide), gj_up_z (by decide)]; exact hs
      · by_cases e : k = l2
        · simpa [gj_up, e] using kn
        · have := hk k a (by omega)
          simpa [gj_up, e] using this
  · simp [gj_up]
