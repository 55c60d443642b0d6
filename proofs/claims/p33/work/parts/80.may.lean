/-! PURE: a MAY in the reference; safe -/
def g_MT (M : gj_M) : Prop := ∀ j, 0 ≤ j → j < 8 → M 108 j = -1 ∨ ((0 ≤ M 108 j ∧ M 108 j < 8 ∧ (j < 4 ↔ ¬ M 108 j < 4)) ∧ g_pe M 101 (M 108 j))
def g_NW (M : gj_M) : Prop := ∀ j, 0 ≤ j → j < 16 → g_K (M 112 j) (M 113 j)
def g_RG (M : gj_M) : Prop := (∃ C, g_PL C M) ∧ g_MT M ∧ g_NW M
theorem g_RG.rs {M : gj_M} (h : g_RG M) : g_RS M := by
  obtain ⟨⟨C, p⟩, m, k⟩ := h
  exact g_RS_mk p (fun j a b => (m j a b).imp id And.left) k
theorem g_RG.ch {M N : gj_M} (h : g_RG M) (hr : ∀ z, z = 83 ∨ z = 86 ∨ z = 89 ∨ z = 92 ∨ z = 95 ∨ z = 98 ∨ z = 101 → N z = M z) (m : g_MT N) (k : g_NW N) : g_RG N := by
  obtain ⟨⟨C, p⟩, -, -⟩ := h
  exact ⟨⟨C, g_PL_s p (fun _ _ _ => rfl) hr⟩, m, k⟩
theorem g_MT_s {M N : gj_M} (h : g_MT M) (h1 : N 108 = M 108) (h2 : N 101 = M 101) : g_MT N := by
  unfold g_MT g_pe
  rw [h1, h2]
  exact h
theorem g_NW_s {M N : gj_M} (h : g_NW M) (h1 : N 112 = M 112) (h2 : N 113 = M 113) : g_NW N := by
  unfold g_NW
  rw [h1, h2]
  exact h
def g_rr : List Int := [83, 86, 89, 92, 95, 98, 101, 108, 112, 113]
theorem g_RG_s {M N : gj_M} (h : g_RG M) (hr : ∀ z, g_rr.contains z = true → N z = M z) : g_RG N :=
  h.ch (fun z e => hr z (by rcases e with e | e | e | e | e | e | e <;> rw [e] <;> rfl)) (g_MT_s h.2.1 (hr 108 rfl) (hr 101 rfl)) (g_NW_s h.2.2 (hr 112 rfl) (hr 113 rfl))
theorem g_RG_up {M : gj_M} {z i v : Int} (h : g_RG M) (hz : g_rr.contains z = false) : g_RG (gj_up M z i v) := g_RG_s h (fun w hw => funext fun k => gj_up_z (fun e => by rw [e, hz] at hw; cases hw))
theorem g_rr_136 {z : Int} (h : g_rr.contains z = true) : z < 136 := by
  unfold g_rr at h
  have := List.elem_iff.mp h
  simp at this
  omega
/-- a frame beside some rows -/
theorem g_fr_row {os : List Int} {ps : List (Int × Int)} {M N : gj_M} (l : List Int) (f : gj_Fr os ps M N) (ho : (os.all (fun z => !(l.contains z)) && ps.all (fun q => !(l.contains q.1))) = true) (z : Int) (hz : l.contains z = true) (h136 : z < 136) : N z = M z := by
  funext i
  refine f z i h136 ?_
  rw [Bool.and_eq_true] at ho
  unfold gj_fp
  rw [Bool.or_eq_false_iff]
  refine ⟨?_, ?_⟩
  · rw [← Bool.not_eq_true]
    intro q
    have h1 := List.all_eq_true.mp ho.1 z (List.elem_iff.mp q)
    rw [hz] at h1
    cases h1
  · rw [← Bool.not_eq_true]
    intro q
    have h1 := List.all_eq_true.mp ho.2 (z, i) (List.elem_iff.mp q)
    rw [hz] at h1
    cases h1
theorem g_RG_fr {M N : gj_M} {os : List Int} {ps : List (Int × Int)} (h : g_RG M) (f : gj_Fr os ps M N) (ho : (os.all (fun z => !(g_rr.contains z)) && ps.all (fun q => !(g_rr.contains q.1))) = true) : g_RG N := g_RG_s h (fun z hz => g_fr_row g_rr f ho z hz (g_rr_136 hz))
theorem g_RG_108 {M : gj_M} {i v : Int} (h : g_RG M) (hv : 0 ≤ i → i < 8 → v = -1 ∨ ((0 ≤ v ∧ v < 8 ∧ (i < 4 ↔ ¬ v < 4)) ∧ g_pe M 101 v)) : g_RG (gj_up M 108 i v) := by
  have e101 : gj_up M 108 i v 101 = M 101 := funext fun _ => gj_up_z (by decide)
  refine h.ch (fun z e => funext fun k => gj_up_z (by omega)) (fun j a b => ?_) (g_NW_s h.2.2 (funext fun _ => gj_up_z (by decide)) (funext fun _ => gj_up_z (by decide)))
  rw [gj_up_if]
  by_cases c : j = i
  · rw [if_pos c]
    rcases hv (by omega) (by omega) with e | ⟨e1, e2⟩
    · exact Or.inl e
    · exact Or.inr ⟨by omega, (g_pe_s e101).mpr e2⟩
  · rw [if_neg c]
    rcases h.2.1 j a b with e | ⟨e1, e2⟩
    · exact Or.inl e
    · exact Or.inr ⟨e1, (g_pe_s e101).mpr e2⟩
theorem g_NW_up {M : gj_M} {z i v : Int} (h : g_NW M) (hz : z = 112 ∨ z = 113) (hv : 0 ≤ i → i < 16 → 0 ≤ v ∧ v ≤ 4) : g_NW (gj_up M z i v) := by
  intro j a b
  have := h j a b
  unfold g_K at *
  rcases hz with e | e <;> rw [e]
  · rw [gj_up_if, gj_up_z (by decide)]
    split <;> omega
  · rw [gj_up_if, gj_up_z (by decide)]
    split <;> omega
theorem r_av {M N : gj_M} {s : Int} (h : g_RG M) (s8 : 0 ≤ s ∧ s < 8) (h1 : N 101 = M 101) : M 108 s = -1 ∨ (0 ≤ M 108 s % 4 ∧ M 108 s % 4 < N 101 (g_ot s)) := by
  rcases h.2.1 s s8.1 s8.2 with e | ⟨⟨e1, e2, e3⟩, e4⟩
  · exact Or.inl e
  · right
    rw [h1]
    unfold g_pe at e4
    unfold g_ot
    by_cases c : s < 4
    · rw [if_pos c]; omega
    · rw [if_neg c]; omega
theorem r_bestOf {M : gj_M} {s n : Int} (h : g_RG M) (s8 : 0 ≤ s ∧ s < 8) (hn : 0 ≤ n ∧ n ≤ 4) : ∃ v N, F_X12_bestOf s n M = some (v, N) := by
  obtain ⟨N, e, h35, hk⟩ := r_lays h.rs s8
  have f := fr_X12_lays s N e
  have hN : g_RG N := g_RG_fr h f (by decide)
  have e108 : N 108 = M 108 := g_fr_row [108] f (by decide) 108 rfl (by decide)
  have e101 : N 101 = M 101 := g_fr_row [101] f (by decide) 101 rfl (by decide)
  have L : g_LW s N := ⟨hN.rs, h35, hk⟩
  unfold F_X12_bestOf F_X12_mateOf
  rw [e, gj_bnd_s, e108]
  have a := r_av h s8 e101
  rw [gj_chkp s8]
  rcases h.2.1 s s8.1 s8.2 with m | m
  · rw [if_pos m, gj_bnd_s, gj_chkp s8, if_pos m]
    obtain ⟨v, x, e⟩ := r_worth s8 6 (-1) 0 n N hn.1 (by omega) (by omega) L (Or.inl rfl)
    rw [e]
    exact ⟨_, _, rfl⟩
  · have c : ¬ M 108 s = -1 := by omega
    rw [if_neg c, gj_chkp s8, gj_bnd_s, gj_chkp s8, if_neg c, gj_chkp s8, g_tmod (by omega)]
    obtain ⟨v, x, e⟩ := r_worth s8 6 (M 108 s % 4) (N 109 s) n N hn.1 (by omega) (by omega) L (Or.inr (by omega))
    rw [e]
    exact ⟨_, _, rfl⟩
theorem r_isSilent {M : gj_M} {s n : Int} (h : g_RG M) (s8 : 0 ≤ s ∧ s < 8) (hn : 0 ≤ n ∧ n ≤ 4) : ∃ v N, F_X12_isSilent s n M = some (v, N) := by
  refine k_cpo2 (fun P done => ?_)
  unfold F_X12_isSilent
  refine k_chk s8 (k_ite (fun _ => done _ _) (fun _ => ?_))
  obtain ⟨v, N, e⟩ := r_bestOf h s8 hn
  rw [e, gj_bnd2_s]
  unfold F_X12_mateOf
  rw [gj_chkp s8]
  by_cases c : N 108 s = -1
  · rw [if_pos c, gj_bnd_s]
    split <;> exact done _ _
  · rw [if_neg c, gj_chkp s8, gj_bnd_s]
    split <;> exact done _ _
def g_os : List Int := [108, 109, 110, 111, 112, 113, 114, 115, 116, 117, 118, 119, 120, 121, 122, 123]
def g_ps : List (Int × Int) := [(79, 29), (79, 30), (79, 35), (79, 36), (79, 37), (79, 38)]
/-- while a MAY goes on -/
def g_MJ (M0 : gj_M) (c : Int) (M : gj_M) : Prop := 136 ≤ c ∧ g_RG M ∧ (0 ≤ M 79 29 ∧ M 79 29 ≤ 40) ∧ gj_Fr g_os g_ps M0 M
theorem g_MJ_fr {M0 M N : gj_M} {c : Int} {os : List Int} {ps : List (Int × Int)} (h : g_MJ M0 c M) (f : gj_Fr os ps M N) (h1 : (os.all (fun z => !(g_rr.contains z)) && ps.all (fun q => !(g_rr.contains q.1))) = true) (h2 : gj_fsub os g_os ps g_ps = true) (h3 : gj_fp os ps 79 29 = false) : g_MJ M0 c N :=
  ⟨h.1, g_RG_fr h.2.1 f h1, by rw [f 79 29 (by decide) h3]; exact h.2.2.1, h.2.2.2.trans (f.wide h2)⟩
theorem g_MJ_up {M0 M : gj_M} {c z i v : Int} (h : g_MJ M0 c M) (h1 : g_rr.contains z = false) (h2 : (g_os.contains z || g_ps.contains (z, i)) = true) (h3 : ¬ (z = 79 ∧ i = 29)) : g_MJ M0 c (gj_up M z i v) := by
  refine ⟨h.1, g_RG_up h.2.1 h1, ?_, h.2.2.2.up h2⟩
  have : gj_up M z i v 79 29 = M 79 29 := if_neg (by omega)
  rw [this]
  exact h.2.2.1
theorem g_MJ_108 {M0 M : gj_M} {c i v : Int} (h : g_MJ M0 c M) (hv : 0 ≤ i → i < 8 → v = -1 ∨ ((0 ≤ v ∧ v < 8 ∧ (i < 4 ↔ ¬ v < 4)) ∧ g_pe M 101 v)) : g_MJ M0 c (gj_up M 108 i v) := ⟨h.1, g_RG_108 h.2.1 hv, by rw [gj_up_z (by decide)]; exact h.2.2.1, h.2.2.2.up (by rw [show g_os.contains 108 = true from rfl]; rfl)⟩
theorem g_MJ_new {M0 M N : gj_M} {c d : Int} (h : g_MJ M0 c M) (hd : c ≤ d) (hz : ∀ z i, z < 136 → N z i = M z i) : g_MJ M0 d N :=
  ⟨by have := h.1; omega, g_RG_s h.2.1 (fun z e => funext fun i => hz z i (g_rr_136 e)), by rw [hz 79 29 (by decide)]; exact h.2.2.1, h.2.2.2.trans (fun z i a _ => hz z i a)⟩
theorem r_notes {M0 M : gj_M} {p w c : Int} (h : g_MJ M0 c M) (p8 : 0 ≤ p ∧ p < 8) : ∃ N, F_X12_notes p w c M = some (c + 1, N) ∧ g_MJ M0 (c + 1) N ∧ N 108 = M 108 := by
  suffices hh : ∀ P : Option (Int × gj_M) → Prop, (∀ N, g_MJ M0 (c + 1) N → N 108 = M 108 → P (some (c + 1, N))) → P (F_X12_notes p w c M) from hh (fun y => ∃ N, y = some (c + 1, N) ∧ g_MJ M0 (c + 1) N ∧ N 108 = M 108) (fun N a b => ⟨N, rfl, a, b⟩)
  intro P done
  have core : ∀ N, g_MJ M0 c N → N 79 29 < 40 → N 108 = M 108 → P (J_X12_notes_48 p w c N) := by
    intro N hN h40 e108
    have c136 := hN.1
    unfold J_X12_notes_48
    dsimp only [gj_letI]
    rw [gj_let_s, gj_let_s, gj_let_s, gj_chkp p8, gj_let_s, gj_chkp p8, gj_let_s, gj_let_s]
    have gen : ∀ K : gj_M, (∀ z i, z < 136 → K z i = N z i) → P (gj_it (fun _ _ _ _ => none) B_X12_notes_91 gj_fu 0 c (c + 1) K) := by
      intro K hK
      have hKJ : g_MJ M0 (c + 1) K := g_MJ_new hN (by omega) hK
      refine gj_okM3 P (fun l zz d J => d = c + 1 ∧ 0 ≤ l ∧ l ≤ 5 ∧ g_MJ M0 (c + 1) J ∧ J 79 29 < 40 ∧ J 108 = M 108) (fun l _ _ _ => (5 - l).toNat) ?_ gj_fu 0 c (c + 1) K ⟨rfl, by omega, by omega, hKJ, by rw [hK 79 29 (by decide)]; exact h40, by rw [← e108]; exact funext fun i => hK 108 i (by decide)⟩ (by show _ < 2048; omega)
      rintro rec l zz d J ⟨e1, a, b, hJ, h4, h8⟩ hr
      rw [e1]
      unfold B_X12_notes_91 J_X12_notes_121
      have h29 := hJ.2.2.1
      refine k_ite (fun q => ?_) (fun q => k_chk (by omega) (k_chk (by rw [gj_wle (x := 5 * J 79 29) (by omega) (by omega), gj_wle (by omega) (by omega)]; omega) ?_))
      · rw [gj_let_s]
        refine done _ ⟨hJ.1, g_RG_up hJ.2.1 (by decide), ?_, hJ.2.2.2.up (by decide +kernel)⟩ ?_
        · rw [gj_up_eq]; unfold gj_w; omega
        · rw [← h8]; exact funext fun _ => gj_up_z (by decide)
      · rw [gj_let_s, gj_wle (x := l + 1) (by omega) (by omega)]
        refine hr _ _ _ _ ⟨rfl, by omega, by omega, g_MJ_up hJ (by decide) (by rw [show g_os.contains 122 = true from rfl]; rfl) (by omega), by rw [gj_up_z (by decide)]; exact h4, ?_⟩ (by omega)
        rw [← h8]; exact funext fun _ => gj_up_z (by decide)
    refine gen _ (fun z i hz => ?_)
    rw [gj_up_z (by omega), gj_up_z (by omega), gj_up_z (by omega), gj_up_z (by omega), gj_up_z (by omega)]
    exact if_neg (by omega)
  have h29 := h.2.2.1
  unfold F_X12_notes
  refine k_ite (fun q => ?_) (fun q => core M h (by omega) rfl)
  refine gj_okM4 P (fun l1 l2 l3 d N => l1 = p ∧ l2 = w ∧ 5 ≤ l3 ∧ l3 ≤ 200 ∧ d = c ∧ g_MJ M0 c N ∧ N 108 = M 108 ∧ N 79 29 = 40) (fun _ _ l3 _ _ => (200 - l3).toNat) ?_ gj_fu p w 5 c M ⟨rfl, rfl, by omega, by omega, rfl, h, rfl, q⟩ (by show _ < 2048; omega)
  rintro rec l1 l2 l3 d N ⟨e1, e2, a, b, e3, hN, e8, n40⟩ hr
  rw [e1, e2, e3]
  unfold B_X12_notes_11 J_X12_notes_38
  refine k_ite (fun q2 => ?_) (fun q2 => k_chk (by omega) (k_chk (by unfold gj_w; omega) ?_))
  · rw [gj_let_s]
    refine core _ ⟨hN.1, g_RG_up hN.2.1 (by decide), ?_, hN.2.2.2.up (by decide +kernel)⟩ ?_ ?_
    · rw [gj_up_eq]
      unfold gj_w
      omega
    · rw [gj_up_eq]; unfold gj_w; omega
    · rw [← e8]; exact funext fun _ => gj_up_z (by decide)
  · rw [gj_let_s, gj_wle (x := l3 + 1) (by omega) (by omega)]
    refine hr _ _ _ _ _ ⟨rfl, rfl, by omega, by omega, rfl, g_MJ_up hN (by decide) (by rw [show g_os.contains 122 = true from rfl]; rfl) (by omega), ?_, by rw [gj_up_z (by decide)]; exact n40⟩ (by omega)
    rw [← e8]; exact funext fun _ => gj_up_z (by decide)
