/-! PURE: whom one would soonest ask -/
def g_pk (o : Int → Int) (p : Int) (D : gj_M) : Nat → Int → Int → Int
  | 0, _, b => b
  | f + 1, k, b => if 4 ≤ k then b else if o k = 0 then g_pk o p D f (k + 1) b else if b = -1 then g_pk o p D f (k + 1) (g_qq p k) else if f_X2_soonerOf p (g_qq p k) b D = 0 then g_pk o p D f (k + 1) b else g_pk o p D f (k + 1) (g_qq p k)
theorem g_pk_rest {o : Int → Int} {p c : Int} {D : gj_M} (h : ∀ k, c ≤ k → k < 4 → o k = 0) : ∀ (f : Nat) (k b : Int), c ≤ k → g_pk o p D f k b = b
  | 0, k, b, _ => rfl
  | f + 1, k, b, hk => by
    unfold g_pk
    by_cases c1 : 4 ≤ k
    · rw [if_pos c1]
    · rw [if_neg c1, if_pos (h k hk (by omega))]
      exact g_pk_rest h f (k + 1) b (by omega)
theorem g_pk_ok {o : Int → Int} {p : Int} {D : gj_M} : ∀ (f : Nat) (k b : Int), 0 ≤ k → g_pk o p D f k b = b ∨ ∃ j, 0 ≤ j ∧ j < 4 ∧ o j ≠ 0 ∧ g_pk o p D f k b = g_qq p j
  | 0, k, b, _ => Or.inl rfl
  | f + 1, k, b, hk => by
    unfold g_pk
    by_cases c1 : 4 ≤ k
    · rw [if_pos c1]; exact Or.inl rfl
    · rw [if_neg c1]
      by_cases c2 : o k = 0
      · rw [if_pos c2]; exact g_pk_ok f (k + 1) b (by omega)
      · rw [if_neg c2]
        have one : g_pk o p D f (k + 1) (g_qq p k) = b ∨ ∃ j, 0 ≤ j ∧ j < 4 ∧ o j ≠ 0 ∧ g_pk o p D f (k + 1) (g_qq p k) = g_qq p j := by
          rcases g_pk_ok (o := o) (p := p) (D := D) f (k + 1) (g_qq p k) (by omega) with e | e
          · exact Or.inr ⟨k, hk, by omega, c2, e⟩
          · exact Or.inr e
        by_cases c3 : b = -1
        · rw [if_pos c3]; exact one
        · rw [if_neg c3]
          by_cases c4 : f_X2_soonerOf p (g_qq p k) b D = 0
          · rw [if_pos c4]; exact g_pk_ok f (k + 1) b (by omega)
          · rw [if_neg c4]; exact one
theorem g_sooner_s {D E : gj_M} {p q r : Int} (h : E 36 = D 36) : f_X2_soonerOf p q r E = f_X2_soonerOf p q r D := by
  unfold f_X2_soonerOf f_X2_likes f_at
  rw [h]
theorem g_pk_s {o o' : Int → Int} {p : Int} {D E : gj_M} (h : E 36 = D 36) (ho : ∀ k, 0 ≤ k → k < 4 → o' k = o k) : ∀ (f : Nat) (k b : Int), 0 ≤ k → g_pk o' p E f k b = g_pk o p D f k b
  | 0, k, b, _ => rfl
  | f + 1, k, b, hk => by
    unfold g_pk
    by_cases c1 : 4 ≤ k
    · rw [if_pos c1, if_pos c1]
    · rw [if_neg c1, if_neg c1, ho k hk (by omega), g_sooner_s h, g_pk_s h ho f (k + 1) b (by omega), g_pk_s h ho f (k + 1) (g_qq p k) (by omega)]
/-- the class's pick, in one of its two loops -/
theorem g_pk_step {o : Int → Int} {p k b : Int} {D : gj_M} (hk : k < 4) : g_pk o p D (g_fu k) k b = if o k = 0 then g_pk o p D (g_fu (k + 1)) (k + 1) b else if b = -1 then g_pk o p D (g_fu (k + 1)) (k + 1) (g_qq p k) else if f_X2_soonerOf p (g_qq p k) b D = 0 then g_pk o p D (g_fu (k + 1)) (k + 1) b else g_pk o p D (g_fu (k + 1)) (k + 1) (g_qq p k) := by
  rw [g_fu_s hk]
  conv => lhs; unfold g_pk
  rw [if_neg (by omega)]
theorem g_pk_end {o : Int → Int} {p k b : Int} {D : gj_M} (hk : 4 ≤ k) : g_pk o p D (g_fu k) k b = b := by
  unfold g_fu g_pk
  rw [if_pos hk]
def g_oa (p : Int) (D : gj_M) (k : Int) : Int := if f_X2_canMeet p (g_qq p k) D = 0 then 0 else if D 39 (f_cpl p (g_qq p k)) = 0 then 1 else 0
def g_pa (p : Int) (D : gj_M) : Int := g_pk (g_oa p D) p D (g_fu 0) 0 (-1)
theorem p_soonest {D : gj_M} {p : Int} (p8 : 0 ≤ p ∧ p < 8) : F_X2_soonestToAsk p D = some (g_pa p D) := by
  unfold F_X2_soonestToAsk
  refine gj_okQ3 (fun y => y = some (g_pa p D)) (fun l1 b k => l1 = p ∧ 0 ≤ k ∧ k ≤ 4 ∧ g_pk (g_oa p D) p D (g_fu k) k b = g_pa p D) (fun _ _ k => (4 - k).toNat) ?_ gj_fu p (-1) 0 ⟨rfl, by omega, by omega, rfl⟩ (by show _ < 2048; omega)
  rintro rec l1 b k ⟨e1, a0, a4, hs⟩ hr
  rw [e1]
  unfold B_X2_soonestToAsk_4 J_X2_soonestToAsk_47 J_X2_soonestToAsk_73
  dsimp only [gj_letI]
  by_cases c : 4 ≤ k
  · rw [g_pk_end c] at hs
    rw [if_pos c, hs]
  · rw [g_pk_step (by omega)] at hs
    obtain ⟨q8, u, ef, -⟩ := g_qq_ok (k := k) p8 (by omega)
    obtain ⟨-, t2⟩ := p_twoOf (M := D) p8 q8 u
    have nx : ∀ b2, g_pk (g_oa p D) p D (g_fu (k + 1)) (k + 1) b2 = g_pa p D → rec p b2 (k + 1) = some (g_pa p D) := fun b2 h => hr _ _ _ ⟨rfl, by omega, by omega, h⟩ (by omega)
    rw [if_neg c, ef, f_at_in t2, gj_wle (x := k + 1) (by omega) (by omega), if_pos rfl, if_neg (show ¬ (1 : Int) = 0 by decide)]
    by_cases c1 : f_X2_canMeet p (g_qq p k) D = 0
    · have o : g_oa p D k = 0 := by unfold g_oa; rw [if_pos c1]
      rw [if_pos o] at hs
      rw [if_pos c1]
      exact nx _ hs
    · by_cases c2 : D 39 (f_cpl p (g_qq p k)) = 0
      · have o : ¬ g_oa p D k = 0 := by unfold g_oa; rw [if_neg c1, if_pos c2]; decide
        rw [if_neg o] at hs
        rw [if_neg c1, if_pos c2]
        by_cases c3 : b = -1
        · rw [if_pos c3] at hs
          rw [if_pos c3]
          exact nx _ hs
        · rw [if_neg c3] at hs
          rw [if_neg c3]
          by_cases c4 : f_X2_soonerOf p (g_qq p k) b D = 0
          · rw [if_pos c4] at hs
            rw [if_pos c4]
            exact nx _ hs
          · rw [if_neg c4] at hs
            rw [if_neg c4]
            exact nx _ hs
      · have o : g_oa p D k = 0 := by unfold g_oa; rw [if_neg c1, if_neg c2]
        rw [if_pos o] at hs
        rw [if_neg c1, if_neg c2]
        exact nx _ hs
/-- the pick is a person who may be asked -/
theorem g_pa_ok {C0 D R : gj_M} {p : Int} (h : g_GE C0 D R) (p8 : 0 ≤ p ∧ p < 8) : g_pa p D = -1 ∨ ((0 ≤ g_pa p D ∧ g_pa p D < 8) ∧ ¬ (p < 4 ↔ g_pa p D < 4) ∧ (g_pe R 101 p ∧ R 120 p = 0) ∧ g_pe R 101 (g_pa p D) ∧ D 39 (f_cpl p (g_pa p D)) = 0 ∧ R 120 (g_pa p D) = 0) := by
  unfold g_pa
  rcases g_pk_ok (o := g_oa p D) (p := p) (D := D) (g_fu 0) 0 (-1) (by omega) with e | ⟨j, a, b, oj, e⟩
  · exact Or.inl e
  · right
    rw [e]
    obtain ⟨q8, u, -, -⟩ := g_qq_ok (k := j) p8 ⟨a, b⟩
    unfold g_oa at oj
    by_cases c1 : (g_pe R 101 p ∧ R 120 p = 0) ∧ (g_pe R 101 (g_qq p j) ∧ R 120 (g_qq p j) = 0)
    · rw [(g_meet h p8 q8 u).1 c1] at oj
      by_cases c2 : D 37 (f_cpl p (g_qq p j)) = 0
      · rw [if_pos c2, if_pos rfl] at oj
        exact absurd rfl oj
      · rw [if_neg c2, if_neg (by decide)] at oj
        by_cases c3 : D 39 (f_cpl p (g_qq p j)) = 0
        · exact ⟨q8, u, c1.1, c1.2.1, c3, c1.2.2⟩
        · rw [if_neg c3] at oj
          exact absurd rfl oj
    · rw [(g_meet h p8 q8 u).2 c1, if_pos rfl] at oj
      exact absurd rfl oj
def g_GS (D R : gj_M) : Prop := (∀ j, 0 ≤ j → j < 8 → D 40 j = R 119 j) ∧ (∀ t, 0 ≤ t → t < 16 → D 39 t = R 121 t)
/-- the reference's pick -/
theorem p_pick81 {C0 D R : gj_M} {w p m2 m3 : Int} {rec23 : Int → Int → gj_M → Option gj_M} {rec31 : Int → Int → Int → gj_M → Option gj_M} (hw : w = 0 ∨ w = 1) (h : g_GE C0 D R) (hs : g_GS D R) (p8 : 4 * w ≤ p ∧ p < 4 * w + 4) (pp : g_pe R 101 p) (po : R 120 p = 0) : gj_it (fun _ _ _ _ _ _ _ => none) (B_X12_asks_81 rec23 rec31) gj_fu w m2 m3 p (-1) 0 R = J_X12_asks_171 rec23 rec31 w m2 m3 p (g_pa p D) R := by
  have hS : g_RS R := ⟨C0, h.1, h.2.1⟩
  have q8 : 0 ≤ p ∧ p < 8 := by omega
  have ot : g_ot p = 1 - w := by
    unfold g_ot
    rcases hw with e | e
    · rw [if_pos (by omega)]; omega
    · rw [if_neg (by omega)]; omega
  have hb := hS.bs (i := 1 - w) (by omega)
  have skip : ∀ k, R 101 (1 - w) ≤ k → k < 4 → g_oa p D k = 0 := fun k a b => by
    obtain ⟨x8, u, -, -⟩ := g_qq_ok (k := k) q8 (by omega)
    unfold g_oa
    rw [(g_meet h q8 x8 u).2 (fun x => ?_), if_pos rfl]
    have pe := x.2.1
    unfold g_qq g_pe at pe
    rw [ot] at pe
    rcases hw with e | e
    · rw [e, show (1 : Int) - 0 = 1 from rfl] at pe a hb
      omega
    · rw [e, show (1 : Int) - 1 = 0 from rfl] at pe a hb
      omega
  refine gj_okM6 (fun y => y = J_X12_asks_171 rec23 rec31 w m2 m3 p (g_pa p D) R) (fun n1 n2 n3 n4 b k N => n1 = w ∧ n2 = m2 ∧ n3 = m3 ∧ n4 = p ∧ N = R ∧ 0 ≤ k ∧ k ≤ 4 ∧ (b = -1 ∨ ((0 ≤ b ∧ b < 8) ∧ ¬ (p < 4 ↔ b < 4))) ∧ g_pk (g_oa p D) p D (g_fu k) k b = g_pa p D) (fun _ _ _ _ _ k _ => (4 - k).toNat) ?_ gj_fu w m2 m3 p (-1) 0 R ⟨rfl, rfl, rfl, rfl, rfl, by omega, by omega, Or.inl rfl, rfl⟩ (by show _ < 2048; omega)
  rintro rec n1 n2 n3 n4 b k N ⟨h1, h2, h3, h4, hN, k0, k4, hbb, hp⟩ hr
  rw [h1, h2, h3, h4, hN]
  unfold B_X12_asks_81 J_X12_asks_165
  dsimp only [gj_letI]
  rw [show gj_w (1 - w) = 1 - w from gj_wle (by omega) (by omega), show gj_w (k + 1) = k + 1 from gj_wle (by omega) (by omega), gj_chkp (by omega)]
  by_cases c : R 101 (1 - w) ≤ k
  · rw [g_pk_rest skip _ k b c] at hp
    rw [if_pos c, hp]
  · rw [g_pk_step (by omega)] at hp
    obtain ⟨x8, u, -, -⟩ := g_qq_ok (k := k) q8 (by omega)
    have eq : gj_w (gj_w (4 * (1 - w)) + k) = g_qq p k := by
      unfold g_qq
      rw [ot]
      unfold gj_w
      omega
    have pq : g_pe R 101 (g_qq p k) := by
      unfold g_qq g_pe
      rw [ot]
      rcases hw with e | e
      · rw [e, show (1 : Int) - 0 = 1 from rfl] at c ⊢
        omega
      · rw [e, show (1 : Int) - 1 = 0 from rfl] at c hb ⊢
        omega
    obtain ⟨t1, t2⟩ := p_twoOf (M := R) q8 x8 u
    have cm := g_meet h q8 x8 u
    have bo := p_bothE h q8 x8 u pp pq
    have o01 := h.2.2.2.2 (g_qq p k) x8.1 x8.2
    have s39 := hs.2 _ t2.1 t2.2
    have nx : ∀ b2, (b2 = -1 ∨ ((0 ≤ b2 ∧ b2 < 8) ∧ ¬ (p < 4 ↔ b2 < 4))) → g_pk (g_oa p D) p D (g_fu (k + 1)) (k + 1) b2 = g_pa p D → rec w m2 m3 p b2 (k + 1) R = J_X12_asks_171 rec23 rec31 w m2 m3 p (g_pa p D) R := fun b2 h5 h6 => hr _ _ _ _ _ _ _ ⟨rfl, rfl, rfl, rfl, rfl, by omega, by omega, h5, h6⟩ (by omega)
    rw [if_neg c, eq, gj_chkp x8, t1]
    by_cases c1 : R 120 (g_qq p k) = 0
    · have cm := cm.1 ⟨⟨pp, po⟩, pq, c1⟩
      rw [if_pos c1, gj_chkp t2]
      by_cases c2 : R 121 (f_cpl p (g_qq p k)) = 0
      · rw [if_pos c2, bo, gj_bnd_s]
        by_cases c3 : D 37 (f_cpl p (g_qq p k)) = 0
        · rw [if_pos c3] at cm
          have o : g_oa p D k = 0 := by unfold g_oa; rw [cm, if_pos rfl]
          rw [if_pos o] at hp
          rw [if_pos c3]
          exact nx _ hbb hp
        · rw [if_neg c3] at cm
          have o : ¬ g_oa p D k = 0 := by unfold g_oa; rw [cm, if_neg (by decide), if_pos (by rw [s39]; exact c2)]; decide
          rw [if_neg o] at hp
          rw [if_neg c3]
          by_cases c4 : b = -1
          · rw [if_pos c4] at hp
            rw [if_pos c4]
            exact nx _ (Or.inr ⟨x8, u⟩) hp
          · rw [if_neg c4] at hp
            obtain ⟨b8, ub⟩ : (0 ≤ b ∧ b < 8) ∧ ¬ (p < 4 ↔ b < 4) := by
              rcases hbb with x | x
              · exact absurd x c4
              · exact x
            rw [if_neg c4, p_soonerE h q8 x8 u b8 ub, gj_bnd_s]
            by_cases c5 : f_X2_soonerOf p (g_qq p k) b D = 0
            · rw [if_pos c5] at hp
              rw [if_pos c5]
              exact nx _ hbb hp
            · rw [if_neg c5] at hp
              rw [if_neg c5]
              exact nx _ (Or.inr ⟨x8, u⟩) hp
      · have o : g_oa p D k = 0 := by
          unfold g_oa
          rw [s39, if_neg c2]
          split <;> rfl
        rw [if_pos o] at hp
        rw [if_neg c2]
        exact nx _ hbb hp
    · have cm := cm.2 (fun x => c1 x.2.2)
      have o : g_oa p D k = 0 := by unfold g_oa; rw [cm, if_pos rfl]
      rw [if_pos o] at hp
      rw [if_neg c1]
      exact nx _ hbb hp
