/-! PURE: in turn, side by side -/
/-- who is paired on the green: persons, each other's, and not out -/
def g_HQ (R : gj_M) : Prop := ∀ j, 0 ≤ j → j < 8 → R 119 j = -1 ∨ ((0 ≤ R 119 j ∧ R 119 j < 8 ∧ (j < 4 ↔ ¬ R 119 j < 4) ∧ g_pe R 101 (R 119 j)) ∧ R 119 (R 119 j) = j ∧ R 120 j = 0)
theorem g_HQ_of {R : gj_M} (h : g_HS R) (k : ∀ j, 0 ≤ j → j < 8 → R 119 j ≠ -1 → R 120 j = 0) : g_HQ R := fun j a b => by
  rcases h j a b with e | ⟨e1, e2, -⟩
  · exact Or.inl e
  · exact Or.inr ⟨e1, e2, k j a b (by omega)⟩
theorem g_HQ_new {M : gj_M} {p q : Int} (h : g_HQ M) (p8 : 0 ≤ p ∧ p < 8) (q8 : 0 ≤ q ∧ q < 8) (u : ¬ (p < 4 ↔ q < 4)) (pp : g_pe M 101 p) (pq : g_pe M 101 q) (hp : M 119 p = -1) (hq : M 119 q = -1) (op : M 120 p = 0) (oq : M 120 q = 0) : g_HQ (gj_up (gj_up M 119 p q) 119 q p) := by
  have e101 : gj_up (gj_up M 119 p q) 119 q p 101 = M 101 := funext fun _ => by rw [gj_up_z (by decide), gj_up_z (by decide)]
  have e120 : ∀ i, gj_up (gj_up M 119 p q) 119 q p 120 i = M 120 i := fun _ => by rw [gj_up_z (by decide), gj_up_z (by decide)]
  have v : ∀ i, gj_up (gj_up M 119 p q) 119 q p 119 i = if i = q then p else if i = p then q else M 119 i := fun i => by rw [gj_up_if, gj_up_if]
  intro j a b
  rw [v j, e120]
  by_cases c : j = q
  · rw [if_pos c, v p, if_neg (by omega), if_pos rfl, c]
    exact Or.inr ⟨⟨p8.1, p8.2, by omega, (g_pe_s e101).mpr pp⟩, rfl, oq⟩
  · rw [if_neg c]
    by_cases d : j = p
    · rw [if_pos d, v q, if_pos rfl, d]
      exact Or.inr ⟨⟨q8.1, q8.2, by omega, (g_pe_s e101).mpr pq⟩, rfl, op⟩
    · rw [if_neg d]
      rcases h j a b with e | ⟨⟨x1, x2, x3, x4⟩, x5, x6⟩
      · exact Or.inl e
      · right
        rw [v]
        have n1 : M 119 j ≠ q := fun e => by rw [e] at x5; omega
        have n2 : M 119 j ≠ p := fun e => by rw [e] at x5; omega
        rw [if_neg n1, if_neg n2]
        exact ⟨⟨x1, x2, x3, (g_pe_s e101).mpr x4⟩, x5, x6⟩
def g_pt (p : Int) (D : gj_M) : Int := g_pk (fun k => f_X2_isLeftFor p (g_qq p k) D) p D (g_fu 0) 0 (-1)
def g_turns (D : gj_M) : Nat → gj_M
  | 0 => D
  | n + 1 => f_X2_tie n (g_pt n (g_turns D n)) (g_turns D n)
theorem g_qq4 {p k : Int} (h : 0 ≤ p ∧ p < 4) : g_qq p k = 4 + k := by
  unfold g_qq g_ot
  rw [if_pos h.2, Int.mul_one]
theorem p_takeTurns {D : gj_M} : F_X2_takeTurns D = some (g_turns D 4) := by
  unfold F_X2_takeTurns
  refine gj_okM1 (fun y => y = some (g_turns D 4)) (fun l1 K => 0 ≤ l1 ∧ l1 ≤ 4 ∧ K = g_turns D l1.toNat) (fun l1 _ => (4 - l1).toNat) ?_ gj_fu 0 D ⟨by omega, by omega, rfl⟩ (by show _ < 2048; omega)
  rintro rec l1 K ⟨a, b, eK⟩ hr
  rw [eK]
  unfold B_X2_takeTurns_2
  by_cases c : 4 ≤ l1
  · rw [if_pos c, show l1.toNat = 4 by omega]
  · rw [if_neg c]
    refine gj_okM3 (fun y => y = some (g_turns D 4)) (fun m1 bb m3 N => m1 = l1 ∧ 4 ≤ m3 ∧ m3 ≤ 8 ∧ N = g_turns D l1.toNat ∧ g_pk (fun k => f_X2_isLeftFor l1 (g_qq l1 k) N) l1 N (g_fu (m3 - 4)) (m3 - 4) bb = g_pt l1 N) (fun _ _ m3 _ => (8 - m3).toNat) ?_ gj_fu l1 (-1) 4 _ ⟨rfl, by omega, by omega, rfl, rfl⟩ (by show _ < 2048; omega)
    rintro rec11 m1 bb m3 N ⟨f1, x, y, eN, hp⟩ hr11
    rw [f1]
    unfold B_X2_takeTurns_11 J_X2_takeTurns_49 J_X2_takeTurns_43
    dsimp only [gj_letI]
    rw [gj_wle (x := l1 + 1) (by omega) (by omega), gj_wle (x := m3 + 1) (by omega) (by omega)]
    by_cases d : 8 ≤ m3
    · rw [g_pk_end (by omega)] at hp
      rw [if_pos d, gj_let_s, hp]
      refine hr _ _ ⟨by omega, by omega, ?_⟩ (by omega)
      rw [show (l1 + 1).toNat = l1.toNat + 1 by omega, eN]
      show _ = f_X2_tie (l1.toNat : Int) (g_pt (l1.toNat : Int) _) _
      rw [show ((l1.toNat : Nat) : Int) = l1 by omega]
    · rw [g_pk_step (by omega), show m3 - 4 + 1 = m3 + 1 - 4 by omega, g_qq4 ⟨a, by omega⟩, show 4 + (m3 - 4) = m3 by omega] at hp
      have nx : ∀ b2, g_pk (fun k => f_X2_isLeftFor l1 (g_qq l1 k) N) l1 N (g_fu (m3 + 1 - 4)) (m3 + 1 - 4) b2 = g_pt l1 N → rec11 l1 b2 (m3 + 1) N = some (g_turns D 4) := fun b2 h => hr11 _ _ _ _ ⟨rfl, by omega, by omega, eN, h⟩ (by omega)
      rw [if_neg d]
      by_cases c1 : f_X2_isLeftFor l1 m3 N = 0
      · rw [if_pos c1] at hp
        rw [if_pos c1]
        exact nx _ hp
      · rw [if_neg c1] at hp
        rw [if_neg c1]
        by_cases c2 : bb = -1
        · rw [if_pos c2] at hp
          rw [if_pos c2]
          exact nx _ hp
        · rw [if_neg c2] at hp
          rw [if_neg c2]
          by_cases c3 : f_X2_soonerOf l1 m3 bb N = 0
          · rw [if_pos c3] at hp
            rw [if_pos c3]
            exact nx _ hp
          · rw [if_neg c3] at hp
            rw [if_neg c3]
            exact nx _ hp
def g_G4 (D R : gj_M) : Prop := ∀ j, 0 ≤ j → j < 8 → D 40 j = R 119 j
theorem g_left {C0 D R : gj_M} {s q : Int} (h : g_GE C0 D R) (hs : g_G4 D R) (s8 : 0 ≤ s ∧ s < 8) (q8 : 0 ≤ q ∧ q < 8) (u : ¬ (s < 4 ↔ q < 4)) : ((g_pe R 101 s ∧ R 120 s = 0) ∧ (g_pe R 101 q ∧ R 120 q = 0) → f_X2_isLeftFor s q D = if D 37 (f_cpl s q) = 0 then 0 else if R 119 q = -1 then 1 else 0) ∧ (¬ ((g_pe R 101 s ∧ R 120 s = 0) ∧ (g_pe R 101 q ∧ R 120 q = 0)) → f_X2_isLeftFor s q D = 0) := by
  unfold f_X2_isLeftFor
  dsimp only [gj_letI]
  rw [f_at_in q8, hs q q8.1 q8.2]
  refine ⟨fun c => ?_, fun c => ?_⟩
  · rw [(g_meet h s8 q8 u).1 c]
    by_cases c2 : D 37 (f_cpl s q) = 0
    · rw [if_pos c2, if_pos rfl, if_pos c2]
    · rw [if_neg c2, if_neg (by decide), if_neg c2]
  · rw [(g_meet h s8 q8 u).2 c, if_pos rfl]
theorem g_pt_ok {C0 D R : gj_M} {p : Int} (h : g_GE C0 D R) (hs : g_G4 D R) (p4 : 0 ≤ p ∧ p < 4) : g_pt p D = -1 ∨ ((4 ≤ g_pt p D ∧ g_pt p D < 8) ∧ (g_pe R 101 p ∧ R 120 p = 0) ∧ (g_pe R 101 (g_pt p D) ∧ R 120 (g_pt p D) = 0) ∧ R 119 (g_pt p D) = -1) := by
  unfold g_pt
  rcases g_pk_ok (o := fun k => f_X2_isLeftFor p (g_qq p k) D) (p := p) (D := D) (g_fu 0) 0 (-1) (by omega) with e | ⟨j, a, b, oj, e⟩
  · exact Or.inl e
  · right
    rw [e]
    obtain ⟨q8, u, -, -⟩ := g_qq_ok (k := j) (s := p) (by omega) ⟨a, b⟩
    by_cases c1 : (g_pe R 101 p ∧ R 120 p = 0) ∧ (g_pe R 101 (g_qq p j) ∧ R 120 (g_qq p j) = 0)
    · rw [(g_left h hs (by omega) q8 u).1 c1] at oj
      by_cases c2 : D 37 (f_cpl p (g_qq p j)) = 0
      · rw [if_pos c2] at oj; exact absurd rfl oj
      · rw [if_neg c2] at oj
        by_cases c3 : R 119 (g_qq p j) = -1
        · exact ⟨by omega, c1.1, c1.2, c3⟩
        · rw [if_neg c3] at oj; exact absurd rfl oj
    · rw [(g_left h hs (by omega) q8 u).2 c1] at oj; exact absurd rfl oj
theorem g_EQ_tie {p T : Int} {D : gj_M} : g_EQ D (f_X2_tie p T D) := by
  have f := fr_X2_tie p T (M := D)
  exact ⟨g_fr_row [36] f (by decide) 36 rfl (by decide), g_fr_row [37] f (by decide) 37 rfl (by decide), g_fr_row [38] f (by decide) 38 rfl (by decide)⟩
/-- a free one of the LEFT takes a free one of the RIGHT -/
theorem p_tieG {C0 D R : gj_M} {p T : Int} (h : g_GE C0 D R) (hs : g_G4 D R) (hH : g_HQ R) (p4 : 0 ≤ p ∧ p < 4) (T4 : 4 ≤ T ∧ T < 8) (pp : g_pe R 101 p ∧ R 120 p = 0) (pT : g_pe R 101 T ∧ R 120 T = 0) (fp : R 119 p = -1) (fT : R 119 T = -1) :
    ∃ U, F_X12_gives p T R = some U ∧ g_GE C0 (f_X2_tie p T D) U ∧ g_G4 (f_X2_tie p T D) U ∧ g_HQ U ∧ U 120 = R 120 ∧ U 101 = R 101 ∧ (∀ j, j ≠ p → j ≠ T → U 119 j = R 119 j) ∧ U 79 30 = R 79 30 ∧ f_X2_tie p T D 21 = D 21 := by
  have e : f_X2_tie p T D = gj_up (gj_up D 40 p T) 40 T p := by
    unfold f_X2_tie
    simp only [gj_let_s]
    rw [if_neg (by omega), f_put_in (by omega), f_put_in (by omega)]
  rw [e]
  refine ⟨_, r_gives (by omega) (by omega), g_GE_s h (funext fun _ => by rw [gj_up_z (by decide), gj_up_z (by decide)]) (funext fun _ => by rw [gj_up_z (by decide), gj_up_z (by decide)]) (funext fun _ => by rw [gj_up_z (by decide), gj_up_z (by decide)]) (fun a ha => funext fun _ => by unfold g_rk at ha; rw [gj_up_z (by omega), gj_up_z (by omega)]) (funext fun _ => by rw [gj_up_z (by decide), gj_up_z (by decide)]), fun j a b => ?_, g_HQ_new hH (by omega) (by omega) (by omega) pp.1 pT.1 fp fT pp.2 pT.2, funext fun _ => by rw [gj_up_z (by decide), gj_up_z (by decide)], funext fun _ => by rw [gj_up_z (by decide), gj_up_z (by decide)], fun j a b => by rw [gj_up_i b, gj_up_i a], by rw [gj_up_z (by decide), gj_up_z (by decide)], funext fun _ => by rw [gj_up_z (by decide), gj_up_z (by decide)]⟩
  rw [gj_up_if, gj_up_if, gj_up_if, gj_up_if, hs j a b]
theorem p_inTurnJ {C0 D0 R0 : gj_M} (h0 : g_GE C0 D0 R0) (hs0 : g_G4 D0 R0) (hH0 : g_HQ R0) (f0 : ∀ j, 0 ≤ j → j < 4 → R0 119 j = -1) : ∃ N, F_X12_inTurn R0 = some N ∧ (g_G4 (g_turns D0 4) N ∧ g_HQ N ∧ N 120 = R0 120) := by
  refine k_cps (fun P done => ?_)
  unfold F_X12_inTurn
  refine gj_okM1 P (fun l1 M => 0 ≤ l1 ∧ l1 ≤ 4 ∧ g_GE C0 (g_turns D0 l1.toNat) M ∧ g_G4 (g_turns D0 l1.toNat) M ∧ g_HQ M ∧ M 120 = R0 120 ∧ ∀ j, l1 ≤ j → j < 4 → M 119 j = -1) (fun l1 _ => (4 - l1).toNat) ?_ gj_fu 0 R0 ⟨by omega, by omega, h0, hs0, hH0, rfl, f0⟩ (by show _ < 2048; omega)
  rintro rec l1 M ⟨a, b, hE, hS, hH, h120, hf⟩ hr
  have hSR : g_RS M := ⟨C0, hE.1, hE.2.1⟩
  have b0 := hSR.b0
  have b1 := hSR.b1
  unfold B_X12_inTurn_2 J_X12_inTurn_107
  by_cases c : M 101 0 ≤ l1
  · rw [if_pos c]
    have stay : ∀ n : Nat, l1.toNat ≤ n → n ≤ 4 → g_turns D0 n = g_turns D0 l1.toNat := by
      intro n
      induction n with
      | zero => intro x y; rw [show l1.toNat = 0 by omega]
      | succ n ih =>
        intro x y
        by_cases q : l1.toNat = n + 1
        · rw [q]
        · have e := ih (by omega) (by omega)
          show f_X2_tie n (g_pt n (g_turns D0 n)) (g_turns D0 n) = _
          rw [e]
          have pt : g_pt n (g_turns D0 l1.toNat) = -1 := by
            rcases g_pt_ok hE hS (p := n) (by omega) with z | ⟨-, ⟨pe, -⟩, -⟩
            · exact z
            · exfalso
              unfold g_pe at pe
              omega
          rw [pt]
          unfold f_X2_tie
          rw [if_pos rfl]
    rw [← stay 4 (by omega) (by omega)] at hS
    exact done M ⟨hS, hH, h120⟩
  · have p8 : 0 ≤ l1 ∧ l1 < 8 := by omega
    have pp : g_pe M 101 l1 := by unfold g_pe; omega
    have eD : g_turns D0 (l1 + 1).toNat = f_X2_tie l1 (g_pt l1 (g_turns D0 l1.toNat)) (g_turns D0 l1.toNat) := by
      rw [show (l1 + 1).toNat = l1.toNat + 1 by omega]
      show f_X2_tie (l1.toNat : Int) (g_pt (l1.toNat : Int) _) _ = _
      rw [show ((l1.toNat : Nat) : Int) = l1 by omega]
    have quiet : g_pt l1 (g_turns D0 l1.toNat) = -1 → P (rec (l1 + 1) M) := fun q => by
      have e : g_turns D0 (l1 + 1).toNat = g_turns D0 l1.toNat := by
        rw [eD, q]
        unfold f_X2_tie
        rw [if_pos rfl]
      exact hr _ _ ⟨by omega, by omega, by rw [e]; exact hE, by rw [e]; exact hS, hH, h120, fun j x y => hf j (by omega) y⟩ (by omega)
    rw [if_neg c, gj_chkp p8, gj_wle (x := l1 + 1) (by omega) (by omega)]
    have o01 := hE.2.2.2.2 l1 p8.1 p8.2
    have ok := g_pt_ok hE hS (p := l1) (by omega)
    by_cases c1 : M 120 l1 = 1
    · rw [if_pos c1]
      refine quiet ?_
      rcases ok with z | ⟨-, ⟨-, z⟩, -⟩
      · exact z
      · omega
    · rw [if_neg c1]
      refine gj_okM3 P (fun m1 bb m3 N => m1 = l1 ∧ 4 ≤ m3 ∧ m3 ≤ 8 ∧ N = M ∧ (bb = -1 ∨ (4 ≤ bb ∧ bb < 8)) ∧ g_pk (fun k => f_X2_isLeftFor l1 (g_qq l1 k) (g_turns D0 l1.toNat)) l1 (g_turns D0 l1.toNat) (g_fu (m3 - 4)) (m3 - 4) bb = g_pt l1 (g_turns D0 l1.toNat)) (fun _ _ m3 _ => (8 - m3).toNat) ?_ gj_fu l1 (-1) 4 M ⟨rfl, by omega, by omega, rfl, Or.inl rfl, rfl⟩ (by show _ < 2048; omega)
      rintro rec31 m1 bb m3 N ⟨e1, m30, m34, eN, hbb, hp⟩ hr31
      rw [e1, eN]
      unfold B_X12_inTurn_31 J_X12_inTurn_96 J_X12_inTurn_90 J_X12_inTurn_107
      rw [show gj_w (4 + M 101 1) = 4 + M 101 1 from gj_wle (by omega) (by omega), show gj_w (m3 + 1) = m3 + 1 from gj_wle (by omega) (by omega), show gj_w (l1 + 1) = l1 + 1 from gj_wle (by omega) (by omega)]
      by_cases d : 4 + M 101 1 ≤ m3
      · rw [if_pos d]
        have rest : g_pk (fun k => f_X2_isLeftFor l1 (g_qq l1 k) (g_turns D0 l1.toNat)) l1 (g_turns D0 l1.toNat) (g_fu (m3 - 4)) (m3 - 4) bb = bb := by
          refine g_pk_rest (c := m3 - 4) (fun k x y => ?_) _ _ _ (Int.le_refl _)
          obtain ⟨q8, u, -, -⟩ := g_qq_ok (k := k) p8 (by omega)
          rw [(g_left hE hS p8 q8 u).2 (fun z => ?_)]
          have pe := z.2.1
          rw [g_qq4 ⟨a, by omega⟩] at pe
          unfold g_pe at pe
          omega
        rw [rest] at hp
        by_cases c2 : bb = -1
        · rw [if_pos c2]
          exact quiet (by rw [← hp]; exact c2)
        · rw [if_neg c2]
          obtain ⟨T4, q1, q2, q3⟩ : (4 ≤ g_pt l1 (g_turns D0 l1.toNat) ∧ g_pt l1 (g_turns D0 l1.toNat) < 8) ∧ (g_pe M 101 l1 ∧ M 120 l1 = 0) ∧ (g_pe M 101 (g_pt l1 (g_turns D0 l1.toNat)) ∧ M 120 (g_pt l1 (g_turns D0 l1.toNat)) = 0) ∧ M 119 (g_pt l1 (g_turns D0 l1.toNat)) = -1 := by
            rcases ok with z | z
            · rw [z] at hp; exact absurd hp c2
            · exact z
          rw [hp]
          obtain ⟨U, x1, x2, x3, x4, x5, x6, x7, -⟩ := p_tieG hE hS hH ⟨a, by omega⟩ T4 q1 q2 (hf l1 (by omega) (by omega)) q3
          rw [x1, gj_bnd_s]
          exact hr _ _ ⟨by omega, by omega, by rw [eD]; exact x2, by rw [eD]; exact x3, x4, by rw [x5]; exact h120, fun j y z => by rw [x7 j (by omega) (by omega)]; exact hf j (by omega) z⟩ (by omega)
      · rw [g_pk_step (by omega), show m3 - 4 + 1 = m3 + 1 - 4 by omega, g_qq4 ⟨a, by omega⟩, show 4 + (m3 - 4) = m3 by omega] at hp
        have z8 : 0 ≤ m3 ∧ m3 < 8 := by omega
        have pq : g_pe M 101 m3 := by unfold g_pe; omega
        have lf := g_left hE hS p8 z8 (by omega)
        have bo := p_bothE hE p8 z8 (by omega) pp pq
        have oq := hE.2.2.2.2 m3 z8.1 z8.2
        have nx : ∀ b2, (b2 = -1 ∨ (4 ≤ b2 ∧ b2 < 8)) → g_pk (fun k => f_X2_isLeftFor l1 (g_qq l1 k) (g_turns D0 l1.toNat)) l1 (g_turns D0 l1.toNat) (g_fu (m3 + 1 - 4)) (m3 + 1 - 4) b2 = g_pt l1 (g_turns D0 l1.toNat) → P (rec31 l1 b2 (m3 + 1) M) := fun b2 h1 h2 => hr31 _ _ _ _ ⟨rfl, by omega, by omega, rfl, h1, h2⟩ (by omega)
        rw [if_neg d, gj_chkp z8]
        by_cases c2 : M 120 m3 = 0
        · have lf := lf.1 ⟨⟨pp, by omega⟩, pq, c2⟩
          rw [if_pos c2, gj_chkp z8]
          by_cases c3 : M 119 m3 = -1
          · rw [if_pos c3] at lf
            rw [if_pos c3, bo, gj_bnd_s]
            by_cases c4 : g_turns D0 l1.toNat 37 (f_cpl l1 m3) = 0
            · rw [if_pos c4] at lf
              rw [lf, if_pos rfl] at hp
              rw [if_pos c4]
              exact nx _ hbb hp
            · rw [if_neg c4] at lf
              rw [lf, if_neg (by decide)] at hp
              rw [if_neg c4]
              by_cases c5 : bb = -1
              · rw [if_pos c5] at hp
                rw [if_pos c5]
                exact nx _ (Or.inr (by omega)) hp
              · rw [if_neg c5] at hp
                rw [if_neg c5, p_soonerE hE p8 z8 (by omega) (by omega) (by omega), gj_bnd_s]
                by_cases c6 : f_X2_soonerOf l1 m3 bb (g_turns D0 l1.toNat) = 0
                · rw [if_pos c6] at hp
                  rw [if_pos c6]
                  exact nx _ hbb hp
                · rw [if_neg c6] at hp
                  rw [if_neg c6]
                  exact nx _ (Or.inr (by omega)) hp
          · rw [if_neg c3] at lf
            have l0 : f_X2_isLeftFor l1 m3 (g_turns D0 l1.toNat) = 0 := by rw [lf]; split <;> rfl
            rw [if_pos l0] at hp
            rw [if_neg c3]
            exact nx _ hbb hp
        · have lf := lf.2 (fun x => c2 x.2.2)
          rw [if_pos lf] at hp
          rw [if_neg c2]
          exact nx _ hbb hp
