/-! OWN LAYER: the heap -/
section GJ3
variable {G : gj_G} {l : Launch} {d mc ms : Nat} {y : MethodName} {cc : ByteArray} {nL : Nat} {ret : Option FieldType} {Q : Option gj_V → gj_S → gj_M → Prop} {k n pc q : Nat} {ls : List (Nat × gj_V)} {st st' : List gj_V} {S : gj_S} {M : gj_M}
theorem gj_in {z len : Int} {kd : Nat} (hS : gj_okS S) (h : S.2.1 z = (kd, len)) (hk : kd ≠ 99) : 0 ≤ z ∧ z < S.1 := by
  by_cases h1 : z < 0 ∨ S.1 ≤ z
  · rw [hS.2.1 z h1] at h
    cases h
    exact absurd rfl hk
  · omega
theorem gj_vR {z : Int} (h : 0 ≤ z) : gj_v G (jR z) = .ref (gj_base G + z.toNat) := by
  show gj_rv G z = _
  unfold gj_rv gj_ro gj_ad
  rw [if_neg (by omega), if_pos h]
  rfl
theorem gj_roR {z : Int} (h : 0 ≤ z) : gj_ro G z = some (gj_base G + z.toNat) := by
  unfold gj_ro gj_ad
  rw [if_neg (by omega), if_pos h]
theorem gj_at {H : Heap} {z : Int} (hR : gj_R G S M H) (h0 : 0 ≤ z) (h1 : z < S.1) : va_P (gj_D G) vwCl [(gj_base G + z.toNat, gj_e G S M z)] H := by
  intro k q hq
  cases k with
  | zero =>
    cases hq
    have h := hR.2.2.1 z.toNat (by omega)
    rw [Int.toNat_of_nonneg h0] at h
    exact h
  | succ k => cases hq
theorem gj_e_i {z len : Int} {kd : Nat} (h : S.2.1 z = (kd, len)) (hk : kd = 0 ∨ kd = 2 ∨ kd = 3) : gj_e G S M z = .inl (gj_cA G kd, len.toNat, .inl (fun i : Nat => Int32.ofInt (M z i))) := by
  unfold gj_e
  rw [h]
  rcases hk with rfl | rfl | rfl <;> rfl
theorem gj_e_l {z len : Int} (h : S.2.1 z = (1, len)) : gj_e G S M z = .inl (gj_cA G 1, len.toNat, .inr (.inl (fun i : Nat => Int64.ofInt (M z i)))) := by
  unfold gj_e
  rw [h]
  rfl
theorem gj_e_r {z len : Int} {kd : Nat} (h : S.2.1 z = (kd, len)) (hk : kd = 4 ∨ kd = 5 ∨ kd = 6) : gj_e G S M z = .inl (gj_cA G kd, len.toNat, .inr (.inr (.inr (.inr (fun i : Nat => gj_ro G (S.2.2 z i)))))) := by
  unfold gj_e
  rw [h]
  rcases hk with rfl | rfl | rfl <;> rfl
theorem gj_e_o {z len : Int} {ci : Nat} (h : S.2.1 z = (10 + ci, len)) : gj_e G S M z = .inr (ci, (List.range len.toNat).map (gj_fv G S M z ci)) := by
  unfold gj_e
  rw [h]
  have e1 : ¬ (10 + ci < 10) := by omega
  have e2 : 10 + ci - 10 = ci := by omega
  simp only [e1, if_false, e2]
theorem gj_ix {i len : Int} (h0 : 0 ≤ i) (h1 : i < len) (h2 : len < 2147483648) : vp_in (Int32.ofInt i) len.toNat ∧ (Int32.ofInt i).toNatClampNeg = i.toNat := by
  have e1 : (Int32.ofInt i).toInt = i := gj_toI' ⟨by omega, by omega⟩
  have e2 : (Int32.ofInt i).toNatClampNeg = i.toNat := by
    show (Int32.ofInt i).toInt.toNat = _
    rw [e1]
  refine ⟨?_, e2⟩
  unfold vp_in
  rw [e2, Int32.lt_iff_toInt_lt, e1, Int32.toInt_zero]
  omega
theorem gj_pN {i : Int} (h : 0 ≤ i) : ((i.toNat : Nat) : Int) = i := Int.toNat_of_nonneg h
def gj_tyk (kd : Nat) : FieldType := match kd with
  | 0 => .int
  | 1 => .long
  | 2 => .byte
  | 3 => .boolean
  | 4 => .object "MayGreen$Life"
  | 5 => .object "java/lang/String"
  | _ => .array .int
theorem gj_tys_at (kd : Nat) (h : kd < 7) : (gj_tys G)[kd]? = some (gj_cA G kd, gj_tyk kd) := by
  have : kd = 0 ∨ kd = 1 ∨ kd = 2 ∨ kd = 3 ∨ kd = 4 ∨ kd = 5 ∨ kd = 6 := by omega
  rcases this with rfl | rfl | rfl | rfl | rfl | rfl | rfl <;> rfl
theorem gj_okm_ld {z : Int} {i : Int} {kd : Nat} {len : Int} (hM : gj_okm S M) (h : S.2.1 z = (kd, len)) (h0 : 0 ≤ i) (hk : kd < 4) : gj_okx kd (M z i) := by
  have h1 := hM z i.toNat
  rw [gj_pN h0, h] at h1
  unfold gj_ty at h1
  rw [if_pos hk] at h1
  exact h1
-- array loads
theorem gj_iald {z i len : Int} (hd : decode cc pc = .ok (.iaload, 1)) (hs : S.2.1 z = (0, len)) (h0 : 0 ≤ i) (h1 : i < len) (hq : pc + 1 = q) (K : gj_W G l d mc ms y cc nL ret Q k n q ls (jI (M z i) :: st) S M) : gj_W G l d mc ms y cc nL ret Q k n pc ls (jI i :: jR z :: st) S M := by
  subst hq
  intro p e R s m args below meth c H locs lsm Z X hZ hR hlc hl ho hk hn
  obtain ⟨z0, z1⟩ := gj_in hR.2.2.2.1 hs (by decide)
  have hln : len < 2147483648 := by have := (hR.2.2.2.1.2.2 z).2; rw [hs] at this; exact this
  obtain ⟨v1, v2⟩ := gj_ix h0 h1 hln
  have hx := gj_okm_ld hR.2.2.2.2 hs h0 (by decide)
  have kk := K p e R s m args below meth c H locs lsm Z X hZ hR hlc hl (gj_2I (hx.1 rfl) ho) hk hn
  rw [List.map_cons, List.map_cons, gj_vR z0]
  refine va_iald X.1 X.2.1 X.2.2.2.2.2.2.2.1.1 (gj_at hR z0 z1) 0 0 (by rw [gj_e_i hs (Or.inl rfl)]; rfl) (gj_tys_at 0 (by decide)) v1 hd ?_
  rw [v2, gj_pN h0]
  exact kk
theorem gj_bald {z i len : Int} (hd : decode cc pc = .ok (.baload, 1)) (hs : S.2.1 z = (2, len)) (h0 : 0 ≤ i) (h1 : i < len) (hq : pc + 1 = q) (K : gj_W G l d mc ms y cc nL ret Q k n q ls (jI (M z i) :: st) S M) : gj_W G l d mc ms y cc nL ret Q k n pc ls (jI i :: jR z :: st) S M := by
  subst hq
  intro p e R s m args below meth c H locs lsm Z X hZ hR hlc hl ho hk hn
  obtain ⟨z0, z1⟩ := gj_in hR.2.2.2.1 hs (by decide)
  have hln : len < 2147483648 := by have := (hR.2.2.2.1.2.2 z).2; rw [hs] at this; exact this
  obtain ⟨v1, v2⟩ := gj_ix h0 h1 hln
  have hx := (gj_okm_ld hR.2.2.2.2 hs h0 (by decide)).2.2.1 rfl
  have kk := K p e R s m args below meth c H locs lsm Z X hZ hR hlc hl (gj_2I ⟨by omega, by omega⟩ ho) hk hn
  rw [List.map_cons, List.map_cons, gj_vR z0]
  refine va_bald X.1 X.2.1 X.2.2.2.2.2.2.2.1.1 (gj_at hR z0 z1) 0 2 (by rw [gj_e_i hs (Or.inr (Or.inl rfl))]; rfl) (gj_tys_at 2 (by decide)) v1 hd ?_
  rw [v2, gj_pN h0]
  exact kk
theorem gj_zald {z i len : Int} (hd : decode cc pc = .ok (.baload, 1)) (hs : S.2.1 z = (3, len)) (h0 : 0 ≤ i) (h1 : i < len) (hq : pc + 1 = q) (K : gj_W G l d mc ms y cc nL ret Q k n q ls (jI (M z i) :: st) S M) : gj_W G l d mc ms y cc nL ret Q k n pc ls (jI i :: jR z :: st) S M := by
  subst hq
  intro p e R s m args below meth c H locs lsm Z X hZ hR hlc hl ho hk hn
  obtain ⟨z0, z1⟩ := gj_in hR.2.2.2.1 hs (by decide)
  have hln : len < 2147483648 := by have := (hR.2.2.2.1.2.2 z).2; rw [hs] at this; exact this
  obtain ⟨v1, v2⟩ := gj_ix h0 h1 hln
  have hx := (gj_okm_ld hR.2.2.2.2 hs h0 (by decide)).2.2.2 rfl
  have kk := K p e R s m args below meth c H locs lsm Z X hZ hR hlc hl (gj_2I (by rcases hx with h | h <;> rw [h] <;> decide) ho) hk hn
  rw [List.map_cons, List.map_cons, gj_vR z0]
  refine va_zald X.1 X.2.1 X.2.2.2.2.2.2.2.1.1 (gj_at hR z0 z1) 0 3 (by rw [gj_e_i hs (Or.inr (Or.inr rfl))]; rfl) (gj_tys_at 3 (by decide)) v1 hd ?_
  rw [v2, gj_pN h0]
  exact kk
theorem gj_lald {z i len : Int} (hd : decode cc pc = .ok (.laload, 1)) (hs : S.2.1 z = (1, len)) (h0 : 0 ≤ i) (h1 : i < len) (hq : pc + 1 = q) (K : gj_W G l d mc ms y cc nL ret Q k n q ls (jL (M z i) :: st) S M) : gj_W G l d mc ms y cc nL ret Q k n pc ls (jI i :: jR z :: st) S M := by
  subst hq
  intro p e R s m args below meth c H locs lsm Z X hZ hR hlc hl ho hk hn
  obtain ⟨z0, z1⟩ := gj_in hR.2.2.2.1 hs (by decide)
  have hln : len < 2147483648 := by have := (hR.2.2.2.1.2.2 z).2; rw [hs] at this; exact this
  obtain ⟨v1, v2⟩ := gj_ix h0 h1 hln
  have hx := gj_okm_ld hR.2.2.2.2 hs h0 (by decide)
  have kk := K p e R s m args below meth c H locs lsm Z X hZ hR hlc hl (gj_2L (hx.2.1 rfl) ho) hk hn
  rw [List.map_cons, List.map_cons, gj_vR z0]
  refine va_lald X.1 X.2.1 X.2.2.2.2.2.2.2.1.1 (gj_at hR z0 z1) 0 1 (by rw [gj_e_l hs]; rfl) (gj_tys_at 1 (by decide)) v1 hd ?_
  rw [v2, gj_pN h0]
  exact kk
theorem gj_aald {z i len w : Int} {kd : Nat} (hd : decode cc pc = .ok (.aaload, 1)) (hs : S.2.1 z = (kd, len)) (hkd : kd = 4 ∨ kd = 5 ∨ kd = 6) (h0 : 0 ≤ i) (h1 : i < len) (hw : S.2.2 z i = w) (hq : pc + 1 = q) (K : gj_W G l d mc ms y cc nL ret Q k n q ls (jR w :: st) S M) : gj_W G l d mc ms y cc nL ret Q k n pc ls (jI i :: jR z :: st) S M := by
  subst hq
  subst hw
  intro p e R s m args below meth c H locs lsm Z X hZ hR hlc hl ho hk hn
  obtain ⟨z0, z1⟩ := gj_in hR.2.2.2.1 hs (by omega)
  have hln : len < 2147483648 := by have := (hR.2.2.2.1.2.2 z).2; rw [hs] at this; exact this
  obtain ⟨v1, v2⟩ := gj_ix h0 h1 hln
  have kk := K p e R s m args below meth c H locs lsm Z X hZ hR hlc hl (gj_pR (gj_tail (gj_tail ho))) hk hn
  rw [List.map_cons, List.map_cons, gj_vR z0]
  have hP := gj_at hR z0 z1
  rw [gj_e_r hs hkd] at hP
  have hc := hP 0 _ rfl
  have hlt : (Int32.ofInt i).toNatClampNeg < len.toNat := by rw [v2]; omega
  refine W.aald (v := gj_rv G (S.2.2 z i)) (ty := gj_tyk kd) X.1 X.2.1 hc ((X.2.2.2.2.2.2.2.1.1.2 kd _ (gj_tys_at kd (by omega))).1 len.toNat (fun j : Nat => va_rf (gj_ro G (S.2.2 z j)))) (by rcases hkd with rfl | rfl | rfl <;> rfl) (fun q => by cases q) (by show ¬ (_ ∨ (arrV _ _ _).slots.size ≤ _); rw [arrV_size]; exact v1) ?_ rfl rfl hd kk
  show (arrV _ _ _).slots[_]? = _
  rw [arrV_read _ _ hlt, v2]
  show some (gj_rv G (S.2.2 z ((i.toNat : Nat) : Int))) = some (gj_rv G (S.2.2 z i))
  rw [gj_pN h0]
theorem gj_alen {z len : Int} {kd : Nat} (hd : decode cc pc = .ok (.arraylength, 1)) (hs : S.2.1 z = (kd, len)) (hk7 : kd < 7) (hq : pc + 1 = q) (K : gj_W G l d mc ms y cc nL ret Q k n q ls (jI len :: st) S M) : gj_W G l d mc ms y cc nL ret Q k n pc ls (jR z :: st) S M := by
  subst hq
  intro p e R s m args below meth c H locs lsm Z X hZ hR hlc hl ho hk hn
  obtain ⟨z0, z1⟩ := gj_in hR.2.2.2.1 hs (by omega)
  have hln := hR.2.2.2.1.2.2 z
  rw [hs] at hln
  have kk := K p e R s m args below meth c H locs lsm Z X hZ hR hlc hl (gj_1I ⟨by omega, hln.2⟩ ho) hk hn
  rw [List.map_cons, gj_vR z0]
  have e1 : Int32.ofNat len.toNat = Int32.ofInt len := by
    rw [← Int32.ofInt_eq_ofNat, gj_pN hln.1]
  have e2 : ∃ x : vp_A, gj_e G S M z = .inl (gj_cA G kd, x) ∧ x.1 = len.toNat := by
    have : kd = 0 ∨ kd = 1 ∨ kd = 2 ∨ kd = 3 ∨ kd = 4 ∨ kd = 5 ∨ kd = 6 := by omega
    rcases this with rfl | rfl | rfl | rfl | rfl | rfl | rfl
    · exact ⟨_, gj_e_i hs (Or.inl rfl), rfl⟩
    · exact ⟨_, gj_e_l hs, rfl⟩
    · exact ⟨_, gj_e_i hs (Or.inr (Or.inl rfl)), rfl⟩
    · exact ⟨_, gj_e_i hs (Or.inr (Or.inr rfl)), rfl⟩
    · exact ⟨_, gj_e_r hs (Or.inl rfl), rfl⟩
    · exact ⟨_, gj_e_r hs (Or.inr (Or.inl rfl)), rfl⟩
    · exact ⟨_, gj_e_r hs (Or.inr (Or.inr rfl)), rfl⟩
  obtain ⟨x, hx1, hx2⟩ := e2
  exact va_alen X.1 X.2.1 X.2.2.2.2.2.2.2.1.1 (gj_at hR z0 z1) 0 kd (by rw [hx1]; rfl) (gj_tys_at kd hk7) (by rw [hx2]; exact e1) hd kk
-- a cell changes
theorem gj_e_congr {S' : gj_S} {M' : gj_M} {z : Int} (h1 : S'.2.1 z = S.2.1 z) (h2 : ∀ b, S'.2.2 z b = S.2.2 z b) (h3 : ∀ b, M' z b = M z b) : gj_e G S' M' z = gj_e G S M z := by
  have e : ∀ ci i, gj_fv G S' M' z ci i = gj_fv G S M z ci i := fun ci i => by unfold gj_fv; rw [h2, h3]
  have e2 : gj_fv G S' M' z = gj_fv G S M z := funext fun ci => funext fun i => e ci i
  unfold gj_e
  rw [h1, e2]
  simp only [h2, h3]
theorem gj_R.put {H H1 : Heap} (hR : gj_R G S M H) {z : Int} {S' : gj_S} {M' : gj_M} (z0 : 0 ≤ z) (hsz : H1.size = H.size) (hoth : ∀ q : Nat, q ≠ gj_base G + z.toNat → H1[q]? = H[q]?) (hat : va_at (gj_D G) vwCl (gj_base G + z.toNat, gj_e G S' M' z) H1)
    (hS1 : S'.1 = S.1) (h1 : ∀ w, w ≠ z → S'.2.1 w = S.2.1 w) (h2 : ∀ w, w ≠ z → ∀ b, S'.2.2 w b = S.2.2 w b) (h3 : ∀ w, w ≠ z → ∀ b, M' w b = M w b) (hS' : gj_okS S') (hM' : gj_okm S' M') : gj_R G S' M' H1 := by
  obtain ⟨a1, a2, a3, a4, a5⟩ := hR
  refine ⟨by rw [hsz, a1, hS1], fun q hq => ?_, fun o hoo => ?_, hS', hM'⟩
  · rw [hoth q (by omega)]
    exact a2 q hq
  · by_cases hz : (o : Int) = z
    · subst hz
      exact hat
    · have hP : va_P (gj_D G) vwCl [(gj_base G + o, gj_e G S M o)] H := by
        have := gj_at (G := G) ⟨a1, a2, a3, a4, a5⟩ (z := o) (by omega) (by rw [← hS1]; exact hoo)
        exact this
      have h := hP.kept (H1 := H1) (fun k q hq => by
        cases k with
        | zero => cases hq; exact hoth _ (by show gj_base G + o ≠ _; omega)
        | succ k => cases hq)
      have h4 := h 0 _ rfl
      rw [gj_e_congr (h1 _ hz) (h2 _ hz) (h3 _ hz)]
      exact h4
theorem gj_okm.up {z i x : Int} (hM : gj_okm S M) (hx : ∀ j : Nat, (j : Int) = i → gj_okx (gj_ty (S.2.1 z).1 j) x) : gj_okm S (gj_up M z i x) := by
  intro o j
  unfold gj_up
  by_cases h : o = z ∧ (j : Int) = i
  · rw [if_pos h, h.1]
    exact hx j h.2
  · rw [if_neg h]
    exact hM o j
theorem gj_locs {locs : List Loc} {a i : Nat} (h : ∀ q ∈ locs, gj_base G ≤ q.base) : ∀ q ∈ locs ++ [(⟨gj_base G + a, i⟩ : Loc)], gj_base G ≤ q.base := by
  intro q hq
  rcases List.mem_append.mp hq with h1 | h1
  · exact h q h1
  · rw [List.mem_singleton] at h1
    subst h1
    exact Nat.le_add_right _ _
theorem gj_up_cell {z i : Int} {x : Int} (h0 : 0 ≤ i) (f : Int → Value) : updV (fun j : Nat => f (M z j)) i.toNat (f x) = fun j : Nat => f (gj_up M z i x z j) := by
  funext j
  unfold updV gj_up
  by_cases h : j = i.toNat
  · subst h
    rw [if_pos rfl, if_pos ⟨rfl, gj_pN h0⟩]
  · rw [if_neg h, if_neg (fun q => h (by omega))]
theorem gj_iast {z i x len : Int} (hd : decode cc pc = .ok (.iastore, 1)) (hs : S.2.1 z = (0, len)) (h0 : 0 ≤ i) (h1 : i < len) (hq : pc + 1 = q) (K : gj_W G l d mc ms y cc nL ret Q k n q ls st S (gj_up M z i x)) : gj_W G l d mc ms y cc nL ret Q k n pc ls (jI x :: jI i :: jR z :: st) S M := by
  subst hq
  intro p e R s m args below meth c H locs lsm Z X hZ hR hlc hl ho hk hn
  obtain ⟨z0, z1⟩ := gj_in hR.2.2.2.1 hs (by decide)
  have hln : len < 2147483648 := by have := (hR.2.2.2.1.2.2 z).2; rw [hs] at this; exact this
  obtain ⟨v1, v2⟩ := gj_ix h0 h1 hln
  rw [List.map_cons, List.map_cons, List.map_cons, gj_vR z0]
  have hP := gj_at hR z0 z1
  rw [gj_e_i hs (Or.inl rfl)] at hP
  have hc := hP 0 _ rfl
  refine W.iast X.1 X.2.1 hc ((X.2.2.2.2.2.2.2.1.1.2 0 _ (gj_tys_at 0 (by decide))).1 len.toNat (fun j : Nat => .int (Int32.ofInt (M z j)))) (fun q => by cases q) (by show ¬ (_ ∨ (arrV _ _ _).slots.size ≤ _); rw [arrV_size]; exact v1) rfl rfl hd fun H1 e1 e2 e3 => ?_
  refine K p e R s m args below meth c H1 _ lsm Z X hZ (hR.put z0 e2 e3 ?_ rfl (fun _ _ => rfl) (fun _ _ _ => rfl) (fun w hw b => if_neg (fun q => hw q.1)) hR.2.2.2.1 (hR.2.2.2.2.up fun j hj => ?_)) (gj_locs hlc) hl (gj_tail (gj_tail (gj_tail ho))) hk hn
  · rw [gj_e_i hs (Or.inl rfl)]
    show H1[_]? = some (vp_cell _ _)
    rw [e1, vp_cell_i, vp_cell_i, arrV_store, v2]
    exact congrArg (fun f => some (arrV _ _ f)) (gj_up_cell h0 (fun x => .int (Int32.ofInt x)))
  · rw [hs]
    exact ⟨fun _ => gj_o0 ho, (fun q => by cases q), (fun q => by cases q), (fun q => by cases q)⟩
theorem gj_zast {z i x len : Int} (hd : decode cc pc = .ok (.bastore, 1)) (hs : S.2.1 z = (3, len)) (h0 : 0 ≤ i) (h1 : i < len) (hx : x = 0 ∨ x = 1) (hq : pc + 1 = q) (K : gj_W G l d mc ms y cc nL ret Q k n q ls st S (gj_up M z i x)) : gj_W G l d mc ms y cc nL ret Q k n pc ls (jI x :: jI i :: jR z :: st) S M := by
  subst hq
  intro p e R s m args below meth c H locs lsm Z X hZ hR hlc hl ho hk hn
  obtain ⟨z0, z1⟩ := gj_in hR.2.2.2.1 hs (by decide)
  have hln : len < 2147483648 := by have := (hR.2.2.2.1.2.2 z).2; rw [hs] at this; exact this
  obtain ⟨v1, v2⟩ := gj_ix h0 h1 hln
  rw [List.map_cons, List.map_cons, List.map_cons, gj_vR z0]
  have hP := gj_at hR z0 z1
  rw [gj_e_i hs (Or.inr (Or.inr rfl))] at hP
  have hc := hP 0 _ rfl
  refine W.zast X.1 X.2.1 hc ((X.2.2.2.2.2.2.2.1.1.2 3 _ (gj_tys_at 3 (by decide))).1 len.toNat (fun j : Nat => .int (Int32.ofInt (M z j)))) (fun q => by cases q) (by show ¬ (_ ∨ (arrV _ _ _).slots.size ≤ _); rw [arrV_size]; exact v1) rfl rfl hd fun H1 e1 e2 e3 => ?_
  refine K p e R s m args below meth c H1 _ lsm Z X hZ (hR.put z0 e2 e3 ?_ rfl (fun _ _ => rfl) (fun _ _ _ => rfl) (fun w hw b => if_neg (fun q => hw q.1)) hR.2.2.2.1 (hR.2.2.2.2.up fun j hj => ?_)) (gj_locs hlc) hl (gj_tail (gj_tail (gj_tail ho))) hk hn
  · rw [gj_e_i hs (Or.inr (Or.inr rfl))]
    show H1[_]? = some (vp_cell _ _)
    rw [e1, gj_narZ hx, vp_cell_i, vp_cell_i, arrV_store, v2]
    exact congrArg (fun f => some (arrV _ _ f)) (gj_up_cell h0 (fun x => .int (Int32.ofInt x)))
  · rw [hs]
    exact ⟨(fun q => by cases q), (fun q => by cases q), (fun q => by cases q), fun _ => hx⟩
theorem gj_narB {x : Int} (h : -128 ≤ x ∧ x < 128) : narrow .byte (.int (Int32.ofInt x)) = .int (Int32.ofInt x) := by
  have e : (Int32.ofInt x).toInt8.toInt32 = Int32.ofInt x := by
    refine Int32.toInt_inj.1 ?_
    rw [Int8.toInt_toInt32, Int32.toInt_toInt8, gj_toI' ⟨by omega, by omega⟩]
    show x.bmod 256 = x
    rw [Int.bmod_def]
    split <;> omega
  rw [← e]
  exact pk_nb _
theorem gj_bast {z i x len : Int} (hd : decode cc pc = .ok (.bastore, 1)) (hs : S.2.1 z = (2, len)) (h0 : 0 ≤ i) (h1 : i < len) (hx : -128 ≤ x ∧ x < 128) (hq : pc + 1 = q) (K : gj_W G l d mc ms y cc nL ret Q k n q ls st S (gj_up M z i x)) : gj_W G l d mc ms y cc nL ret Q k n pc ls (jI x :: jI i :: jR z :: st) S M := by
  subst hq
  intro p e R s m args below meth c H locs lsm Z X hZ hR hlc hl ho hk hn
  obtain ⟨z0, z1⟩ := gj_in hR.2.2.2.1 hs (by decide)
  have hln : len < 2147483648 := by have := (hR.2.2.2.1.2.2 z).2; rw [hs] at this; exact this
  obtain ⟨v1, v2⟩ := gj_ix h0 h1 hln
  rw [List.map_cons, List.map_cons, List.map_cons, gj_vR z0]
  have hP := gj_at hR z0 z1
  rw [gj_e_i hs (Or.inr (Or.inl rfl))] at hP
  have hc := hP 0 _ rfl
  refine W.bast X.1 X.2.1 hc ((X.2.2.2.2.2.2.2.1.1.2 2 _ (gj_tys_at 2 (by decide))).1 len.toNat (fun j : Nat => .int (Int32.ofInt (M z j)))) (fun q => by cases q) (by show ¬ (_ ∨ (arrV _ _ _).slots.size ≤ _); rw [arrV_size]; exact v1) rfl rfl hd fun H1 e1 e2 e3 => ?_
  refine K p e R s m args below meth c H1 _ lsm Z X hZ (hR.put z0 e2 e3 ?_ rfl (fun _ _ => rfl) (fun _ _ _ => rfl) (fun w hw b => if_neg (fun q => hw q.1)) hR.2.2.2.1 (hR.2.2.2.2.up fun j hj => ?_)) (gj_locs hlc) hl (gj_tail (gj_tail (gj_tail ho))) hk hn
  · rw [gj_e_i hs (Or.inr (Or.inl rfl))]
    show H1[_]? = some (vp_cell _ _)
    rw [e1, gj_narB hx, vp_cell_i, vp_cell_i, arrV_store, v2]
    exact congrArg (fun f => some (arrV _ _ f)) (gj_up_cell h0 (fun x => .int (Int32.ofInt x)))
  · rw [hs]
    exact ⟨(fun q => by cases q), (fun q => by cases q), (fun _ => hx), (fun q => by cases q)⟩
theorem gj_last {z i x len : Int} (hd : decode cc pc = .ok (.lastore, 1)) (hs : S.2.1 z = (1, len)) (h0 : 0 ≤ i) (h1 : i < len) (hq : pc + 1 = q) (K : gj_W G l d mc ms y cc nL ret Q k n q ls st S (gj_up M z i x)) : gj_W G l d mc ms y cc nL ret Q k n pc ls (jL x :: jI i :: jR z :: st) S M := by
  subst hq
  intro p e R s m args below meth c H locs lsm Z X hZ hR hlc hl ho hk hn
  obtain ⟨z0, z1⟩ := gj_in hR.2.2.2.1 hs (by decide)
  have hln : len < 2147483648 := by have := (hR.2.2.2.1.2.2 z).2; rw [hs] at this; exact this
  obtain ⟨v1, v2⟩ := gj_ix h0 h1 hln
  rw [List.map_cons, List.map_cons, List.map_cons, gj_vR z0]
  have hP := gj_at hR z0 z1
  rw [gj_e_l hs] at hP
  have hc := hP 0 _ rfl
  refine W.last X.1 X.2.1 hc ((X.2.2.2.2.2.2.2.1.1.2 1 _ (gj_tys_at 1 (by decide))).1 len.toNat (fun j : Nat => .long (Int64.ofInt (M z j)))) (fun q => by cases q) (by show ¬ (_ ∨ (arrV _ _ _).slots.size ≤ _); rw [arrV_size]; exact v1) rfl rfl hd fun H1 e1 e2 e3 => ?_
  refine K p e R s m args below meth c H1 _ lsm Z X hZ (hR.put z0 e2 e3 ?_ rfl (fun _ _ => rfl) (fun _ _ _ => rfl) (fun w hw b => if_neg (fun q => hw q.1)) hR.2.2.2.1 (hR.2.2.2.2.up fun j hj => ?_)) (gj_locs hlc) hl (gj_tail (gj_tail (gj_tail ho))) hk hn
  · rw [gj_e_l hs]
    show H1[_]? = some (vp_cell _ _)
    rw [e1, vp_cell_l, vp_cell_l, arrV_store, v2]
    exact congrArg (fun f => some (arrV _ _ f)) (gj_up_cell h0 (fun x => .long (Int64.ofInt x)))
  · rw [hs]
    exact ⟨(fun q => by cases q), (fun _ => gj_O0 ho), (fun q => by cases q), (fun q => by cases q)⟩
-- fields
/-- the field that the entry idx of the class own names: the k-th of the N fields of class ci, its type t, final or not -/
def gj_F (own : String) (idx ci k N t : Nat) (fin : Bool) : Prop := ∃ (C : String) (T : u_T), vwCl[ci]? = some (C, T, N) ∧ Cond.fieldLink own idx C (T k).2.1 (T k).2.2.1 ∈ gj_TB ∧ k < N ∧ (T k).1 = C ∧ (T k).2.2.2 = fin ∧ gj_ft ci k = t
theorem gj_fs {z : Int} {ci N i : Nat} (hi : i < N) : ((List.range ((N : Int)).toNat).map (gj_fv G S M z ci))[i]? = some (gj_fv G S M z ci i) := by
  rw [Int.toNat_natCast, List.getElem?_map, List.getElem?_range hi]
  rfl
theorem gj_getX {z : Int} {idx ci i N t : Nat} {fin : Bool} {v : gj_V} (hd : decode cc pc = .ok (.getfield idx, 3)) (hf : gj_F y.cls idx ci i N t fin) (hs : S.2.1 z = (10 + ci, (N : Int))) (hk99 : ci ≠ 89) (hv : gj_fv G S M z ci i = gj_v G v) (hok : gj_okS S → gj_okm S M → gj_okv v) (hq : pc + 3 = q) (K : gj_W G l d mc ms y cc nL ret Q k n q ls (v :: st) S M) : gj_W G l d mc ms y cc nL ret Q k n pc ls (jR z :: st) S M := by
  subst hq
  intro p e R s m args below meth c H locs lsm Z X hZ hR hlc hl ho hk hn
  obtain ⟨z0, z1⟩ := gj_in hR.2.2.2.1 hs (by omega)
  obtain ⟨C, T, f1, f2, f3, f4, f5, f6⟩ := hf
  have kk := K p e R s m args below meth c H locs lsm Z X hZ hR hlc hl ⟨ho.1, fun w hw => by
    rcases List.mem_cons.mp hw with rfl | hw
    · exact hok hR.2.2.2.1 hR.2.2.2.2
    · exact ho.2 w (List.mem_cons_of_mem _ hw)⟩ hk hn
  rw [List.map_cons] at kk
  rw [List.map_cons, gj_vR z0]
  refine va_get (C := C) (T := T) (N := N) (ref := C) X.1 X.2.1 X.2.2.2.2.2.1 (gj_cls f1).1 X.2.2.2.2.1 X.2.2.2.2.2.2.2.1.1 (gj_at hR z0 z1) 0 (fs := (List.range ((N : Int)).toNat).map (gj_fv G S M z ci)) (by rw [gj_e_o hs]; rfl) f1 i f3 (X.2.2.2.2.2.1 _ f2) (fun x hx => by rw [f4] at hx; exact hx) (v := gj_v G v) (by rw [gj_fs f3, hv]) hd kk
theorem gj_okf {z : Int} {ci i : Nat} {len : Int} (hM : gj_okm S M) (hs : S.2.1 z = (10 + ci, len)) : gj_okx (gj_ft ci i) (M z i) := by
  have h := hM z i
  rw [hs] at h
  unfold gj_ty at h
  rw [if_neg (by omega), if_neg (by omega)] at h
  have e2 : 10 + ci - 10 = ci := by omega
  rw [e2] at h
  exact h
theorem gj_getI {z : Int} {idx ci i N : Nat} {fin : Bool} (hd : decode cc pc = .ok (.getfield idx, 3)) (hf : gj_F y.cls idx ci i N 0 fin) (hs : S.2.1 z = (10 + ci, (N : Int))) (hk99 : ci ≠ 89) (hq : pc + 3 = q) (K : gj_W G l d mc ms y cc nL ret Q k n q ls (jI (M z i) :: st) S M) : gj_W G l d mc ms y cc nL ret Q k n pc ls (jR z :: st) S M := by
  have f6 : gj_ft ci i = 0 := hf.choose_spec.choose_spec.2.2.2.2.2
  refine gj_getX hd hf hs hk99 ?_ (fun _ hM => ?_) hq K
  · unfold gj_fv
    rw [f6]
    rfl
  · have h := gj_okf (i := i) hM hs
    rw [f6] at h
    exact h.1 rfl
theorem gj_getZ {z : Int} {idx ci i N : Nat} {fin : Bool} (hd : decode cc pc = .ok (.getfield idx, 3)) (hf : gj_F y.cls idx ci i N 3 fin) (hs : S.2.1 z = (10 + ci, (N : Int))) (hk99 : ci ≠ 89) (hq : pc + 3 = q) (K : gj_W G l d mc ms y cc nL ret Q k n q ls (jI (M z i) :: st) S M) : gj_W G l d mc ms y cc nL ret Q k n pc ls (jR z :: st) S M := by
  have f6 : gj_ft ci i = 3 := hf.choose_spec.choose_spec.2.2.2.2.2
  refine gj_getX hd hf hs hk99 ?_ (fun _ hM => ?_) hq K
  · unfold gj_fv
    rw [f6]
    rfl
  · have h := gj_okf (i := i) hM hs
    rw [f6] at h
    rcases h.2.2.2 rfl with h | h
    · rw [h]; exact ⟨by decide, by decide⟩
    · rw [h]; exact ⟨by decide, by decide⟩
theorem gj_getL {z : Int} {idx ci i N : Nat} {fin : Bool} (hd : decode cc pc = .ok (.getfield idx, 3)) (hf : gj_F y.cls idx ci i N 1 fin) (hs : S.2.1 z = (10 + ci, (N : Int))) (hk99 : ci ≠ 89) (hq : pc + 3 = q) (K : gj_W G l d mc ms y cc nL ret Q k n q ls (jL (M z i) :: st) S M) : gj_W G l d mc ms y cc nL ret Q k n pc ls (jR z :: st) S M := by
  have f6 : gj_ft ci i = 1 := hf.choose_spec.choose_spec.2.2.2.2.2
  refine gj_getX hd hf hs hk99 ?_ (fun _ hM => ?_) hq K
  · unfold gj_fv
    rw [f6]
    rfl
  · have h := gj_okf (i := i) hM hs
    rw [f6] at h
    exact h.2.1 rfl
theorem gj_getR {z w : Int} {idx ci i N : Nat} {fin : Bool} (hd : decode cc pc = .ok (.getfield idx, 3)) (hf : gj_F y.cls idx ci i N 4 fin) (hs : S.2.1 z = (10 + ci, (N : Int))) (hk99 : ci ≠ 89) (hw : S.2.2 z i = w) (hq : pc + 3 = q) (K : gj_W G l d mc ms y cc nL ret Q k n q ls (jR w :: st) S M) : gj_W G l d mc ms y cc nL ret Q k n pc ls (jR z :: st) S M := by
  subst hw
  have f6 : gj_ft ci i = 4 := hf.choose_spec.choose_spec.2.2.2.2.2
  refine gj_getX (v := jR (S.2.2 z i)) hd hf hs hk99 ?_ (fun _ _ => trivial) hq K
  unfold gj_fv
  rw [f6]
  rfl
end GJ3
