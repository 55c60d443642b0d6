/-! PURE: what the reference's reading leaves as it was -/
theorem fr_J_X12_reads_224 {l c : Int} {M : gj_M} : gj_FO Prod.snd [84, 87, 90, 93, 96, 99, 102, 103, 104, 105, 106] [(79, 3), (79, 4), (79, 5), (79, 6)] M (J_X12_reads_224 l c M) := by
  unfold J_X12_reads_224
  exact fo_ite (fo_some gj_Fr.rf) (fo_ite (fo_let (gj_Fr.rf.up (by decide +kernel)) (fun _ h => fo_some h)) (fo_ite (fo_let (gj_Fr.rf.up (by decide +kernel)) (fun _ h => fo_some h)) (fo_some gj_Fr.rf)))
theorem fr_L_X12_reads_201 : ∀ (n : Nat) (l c : Int) (M : gj_M), gj_FO Prod.snd [84, 87, 90, 93, 96, 99, 102, 103, 104, 105, 106] [(79, 3), (79, 4), (79, 5), (79, 6)] M (gj_it (fun _ _ _ => none) B_X12_reads_201 n l c M)
  | 0, l, c, M => fo_none
  | n + 1, l, c, M => by
    rw [gj_it_s]
    unfold B_X12_reads_201
    exact fo_ite fr_J_X12_reads_224 (fo_ite fr_J_X12_reads_224 (fo_bnd2 (fun _ _ e => fr_X12_line _ e) (fun _ _ h => fo_tr h (fr_L_X12_reads_201 n _ _ _))))
theorem fr_J_X12_reads_190 {c : Int} {M : gj_M} : gj_FO Prod.snd [84, 87, 90, 93, 96, 99, 102, 103, 104, 105, 106] [(79, 3), (79, 4), (79, 5), (79, 6)] M (J_X12_reads_190 c M) := by
  unfold J_X12_reads_190
  rw [gj_let_s]
  have h0 : gj_Fr [84, 87, 90, 93, 96, 99, 102, 103, 104, 105, 106] [(79, 3), (79, 4), (79, 5), (79, 6)] M (gj_up M 79 4 0) := gj_Fr.rf.up (by decide +kernel)
  refine fo_tr h0 (fo_bndM (fun m e => ?_) (fun M1 h => fo_tr h (fr_L_X12_reads_201 gj_fu 1 c M1)))
  exact gj_Fr.wide (fr_X12_next _ e) (by decide +kernel)
theorem g_fr_of {os : List Int} {ps : List (Int × Int)} {M N : gj_M} {q : Int → Prop} (h : ∀ z, q z → N z = M z) (hq : ∀ z i, z < 136 → gj_fp os ps z i = false → q z) : gj_Fr os ps M N := fun z i a b => by rw [h z (hq z i a b)]
theorem fr_X12_reads {c : Int} {M : gj_M} (hc : 136 ≤ c) : gj_FO Prod.snd [84, 87, 90, 93, 96, 99, 102, 103, 104, 105, 106] [(79, 3), (79, 4), (79, 5), (79, 6)] M (F_X12_reads c M) := by
  obtain ⟨A, a1, a2, a3⟩ := p_init25 (M := gj_up (gj_up (gj_up M 79 5 (-1)) 102 0 0) 102 1 0) (c := c)
  obtain ⟨B, b1, b2, b3⟩ := p_init75 (M := A) (c := c)
  obtain ⟨C, c1, c2, c3⟩ := p_init106 (M := B) (c := c)
  obtain ⟨D, d1, d2, d3⟩ := p_init167 (M := C) (c := c) hc
  have e : F_X12_reads c M = J_X12_reads_190 (c + 1) D := by
    unfold F_X12_reads
    rw [gj_let_s, gj_let_s, gj_let_s, a1]
    unfold J_X12_reads_73
    rw [b1, c1, d1]
  rw [e]
  refine fo_tr ?_ fr_J_X12_reads_190
  have n : ∀ {z i w : Int}, gj_fp [84, 87, 90, 93, 96, 99, 102, 103, 104, 105, 106] [(79, 3), (79, 4), (79, 5), (79, 6)] z i = false → [84, 87, 90, 93, 96, 99, 102, 103, 104, 105, 106].contains w = true → z ≠ w := fun h k => gj_fpz k h
  have f0 : gj_Fr [84, 87, 90, 93, 96, 99, 102, 103, 104, 105, 106] [(79, 3), (79, 4), (79, 5), (79, 6)] M (gj_up (gj_up (gj_up M 79 5 (-1)) 102 0 0) 102 1 0) := ((gj_Fr.rf.up (by decide +kernel)).up (by decide +kernel)).up (by decide +kernel)
  refine f0.trans ((g_fr_of a3 ?_).trans ((g_fr_of b3 ?_).trans ((g_fr_of c3 ?_).trans (g_fr_of d3 ?_))))
  · exact fun z i _ h => ⟨n h (by decide +kernel), n h (by decide +kernel), n h (by decide +kernel), n h (by decide +kernel)⟩
  · exact fun z i _ h => ⟨n h (by decide +kernel), n h (by decide +kernel)⟩
  · exact fun z i _ h => n h (by decide +kernel)
  · exact fun z i a h => ⟨n h (by decide +kernel), by omega⟩
