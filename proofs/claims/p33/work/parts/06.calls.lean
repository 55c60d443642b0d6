/-! OWN LAYER: stores into fields, new objects and arrays, calls -/
section GJ4
variable {G : gj_G} {l : Launch} {d mc ms : Nat} {y : MethodName} {cc : ByteArray} {nL : Nat} {ret : Option FieldType} {Q : Option gj_V → gj_S → gj_M → Prop} {k n pc q : Nat} {ls : List (Nat × gj_V)} {st st' : List gj_V} {S : gj_S} {M : gj_M}
theorem gj_vV {N j : Nat} {F : Nat → Value} (h : j < N) : vp_V ((List.range ((N : Int)).toNat).map F) j = F j := by
  unfold vp_V
  rw [Int.toNat_natCast, List.getD_eq_getElem?_getD, List.getElem?_map, List.getElem?_range h]
  rfl
theorem gj_putX {z x : Int} {idx ci i N t : Nat} {v : gj_V} (hd : decode cc pc = .ok (.putfield idx, 3)) (hf : gj_F y.cls idx ci i N t false) (hs : S.2.1 z = (10 + ci, (N : Int))) (hk99 : ci ≠ 89)
    (hty : ∀ ty : FieldType, gj_ftc ty = t → narrow ty (gj_v G v) = gj_v G v ∧ fits ty (gj_v G v) = true) (hfv : gj_fv G S (gj_up M z i x) z ci i = gj_v G v) (hokx : gj_okv v → gj_okx t x) (hq : pc + 3 = q) (K : gj_W G l d mc ms y cc nL ret Q k n q ls st S (gj_up M z i x)) : gj_W G l d mc ms y cc nL ret Q k n pc ls (v :: jR z :: st) S M := by
  subst hq
  intro p e R s m args below meth c H locs lsm Z X hZ hR hlc hl ho hk hn
  obtain ⟨z0, z1⟩ := gj_in hR.2.2.2.1 hs (by omega)
  obtain ⟨C, T, f1, f2, f3, f4, f5, f6⟩ := hf
  have hts := X.2.2.2.2.2.1
  have hK := X.2.2.2.2.2.2.2.1.1
  obtain ⟨g1, g2, g3⟩ := gj_cls f1
  have hap := va_apart (own := y.cls) hts g1 _ g2 g3 hK f1
  have hP := gj_at hR z0 z1
  rw [gj_e_o hs] at hP
  obtain ⟨r, h1, cell, q1, q2, q3, q4⟩ := hP 0 _ rfl
  have hr : r = (C, T, N) := Option.some.inj (h1.symm.trans f1)
  subst hr
  obtain ⟨hS, hfc, kC, hkC, hkind⟩ := hK.1 ci _ f1
  obtain ⟨cf, kf, fi, f, hi, hsl⟩ := hS i f3
  have hlay := hts _ (g1 _ (u_in_lay f3))
  unfold u_lay at hlay
  rw [if_neg (by rw [show (T i).2.2.2 = false from f5]; decide)] at hlay
  have hst := (u_facts hfc hkC (u_lays hts g1 f3) hi).1
  obtain ⟨n1, n2⟩ := hty ((gj_fts.getD ci tyX0) i) f6
  have h6 := u_store hfc hkC hkind hlay hi (g2 i f3) n1 n2
  rw [List.map_cons, List.map_cons, gj_vR z0]
  refine W.putK X.1 X.2.1 (f := f) ⟨X.2.2.2.2.1, hts _ f2, ⟨_, _, _, by rw [show (T i).1 = C from f4] at hi; exact hi⟩, hst⟩ (by rw [q2]; exact h6) q1 q3 (by rw [hsl]; exact k2_hasslot (q4 i f3)) rfl rfl hd fun H' e1 e2 e3 => ?_
  rw [hsl] at e1 ⊢
  refine K p e R s m args below meth c H' _ lsm Z X hZ (hR.put z0 e2 e3 ?_ rfl (fun _ _ => rfl) (fun _ _ _ => rfl) (fun w hw b => if_neg (fun q => hw q.1)) hR.2.2.2.1 (hR.2.2.2.2.up fun j hj => ?_)) (gj_locs hlc) hl (gj_tail (gj_tail ho)) hk hn
  · rw [gj_e_o hs]
    refine ⟨_, h1, t_OB.to (V := updV (vp_V _) i (gj_v G v)) ⟨_, e1, q2, q3, t_set q4 hap f3 _⟩ (fun j hj => ?_)⟩
    rw [gj_vV hj]
    unfold updV
    by_cases hji : j = i
    · subst hji
      rw [if_pos rfl, hfv]
    · rw [if_neg hji, gj_vV hj]
      unfold gj_fv gj_up
      rw [if_neg (show ¬ (z = z ∧ (j : Int) = (i : Int)) from fun q => hji (by omega))]
  · have : j = i := by omega
    subst this
    rw [hs]
    unfold gj_ty
    rw [if_neg (by omega), if_neg (by omega), show 10 + ci - 10 = ci by omega, f6]
    exact hokx (ho.2 v List.mem_cons_self)
theorem gj_ftc0 {ty : FieldType} (h : gj_ftc ty = 0) : ty = .int := by cases ty <;> first | rfl | cases h
theorem gj_ftc1 {ty : FieldType} (h : gj_ftc ty = 1) : ty = .long := by cases ty <;> first | rfl | cases h
theorem gj_ftc3 {ty : FieldType} (h : gj_ftc ty = 3) : ty = .boolean := by cases ty <;> first | rfl | cases h
theorem gj_up_at {z i x : Int} : gj_up M z i x z i = x := if_pos ⟨rfl, rfl⟩
theorem gj_putI {z x : Int} {idx ci i N : Nat} (hd : decode cc pc = .ok (.putfield idx, 3)) (hf : gj_F y.cls idx ci i N 0 false) (hs : S.2.1 z = (10 + ci, (N : Int))) (hk99 : ci ≠ 89) (hq : pc + 3 = q) (K : gj_W G l d mc ms y cc nL ret Q k n q ls st S (gj_up M z i x)) : gj_W G l d mc ms y cc nL ret Q k n pc ls (jI x :: jR z :: st) S M := by
  have f6 : gj_ft ci i = 0 := hf.choose_spec.choose_spec.2.2.2.2.2
  refine gj_putX hd hf hs hk99 (fun ty h => by cases gj_ftc0 h; exact ⟨rfl, rfl⟩) ?_ (fun h => ⟨fun _ => h, (fun q => by cases q), (fun q => by cases q), (fun q => by cases q)⟩) hq K
  unfold gj_fv
  rw [f6, gj_up_at]
  rfl
theorem gj_putL {z x : Int} {idx ci i N : Nat} (hd : decode cc pc = .ok (.putfield idx, 3)) (hf : gj_F y.cls idx ci i N 1 false) (hs : S.2.1 z = (10 + ci, (N : Int))) (hk99 : ci ≠ 89) (hq : pc + 3 = q) (K : gj_W G l d mc ms y cc nL ret Q k n q ls st S (gj_up M z i x)) : gj_W G l d mc ms y cc nL ret Q k n pc ls (jL x :: jR z :: st) S M := by
  have f6 : gj_ft ci i = 1 := hf.choose_spec.choose_spec.2.2.2.2.2
  refine gj_putX hd hf hs hk99 (fun ty h => by cases gj_ftc1 h; exact ⟨rfl, rfl⟩) ?_ (fun h => ⟨(fun q => by cases q), (fun _ => h), (fun q => by cases q), (fun q => by cases q)⟩) hq K
  unfold gj_fv
  rw [f6, gj_up_at]
  rfl
theorem gj_putZ {z x : Int} {idx ci i N : Nat} (hd : decode cc pc = .ok (.putfield idx, 3)) (hf : gj_F y.cls idx ci i N 3 false) (hs : S.2.1 z = (10 + ci, (N : Int))) (hk99 : ci ≠ 89) (hx : x = 0 ∨ x = 1) (hq : pc + 3 = q) (K : gj_W G l d mc ms y cc nL ret Q k n q ls st S (gj_up M z i x)) : gj_W G l d mc ms y cc nL ret Q k n pc ls (jI x :: jR z :: st) S M := by
  have f6 : gj_ft ci i = 3 := hf.choose_spec.choose_spec.2.2.2.2.2
  refine gj_putX hd hf hs hk99 (fun ty h => by cases gj_ftc3 h; exact ⟨gj_narZ hx, by rcases hx with rfl | rfl <;> rfl⟩) ?_ (fun h => ⟨(fun q => by cases q), (fun q => by cases q), (fun q => by cases q), (fun _ => hx)⟩) hq K
  unfold gj_fv
  rw [f6, gj_up_at]
  rfl
def gj_upS (S : gj_S) (z i w : Int) : gj_S := (S.1, S.2.1, fun a b => if a = z ∧ b = i then w else S.2.2 a b)
theorem gj_rvF {w : Int} {ty : FieldType} (h : (∃ nm, ty = .object nm) ∨ ∃ t, ty = .array t) : narrow ty (gj_rv G w) = gj_rv G w ∧ fits ty (gj_rv G w) = true := by
  unfold gj_rv
  rcases h with ⟨nm, rfl⟩ | ⟨t, rfl⟩ <;> cases gj_ro G w <;> exact ⟨rfl, rfl⟩
/-- a final reference, in the constructor -/
theorem gj_putR {z w : Int} {idx ci i N : Nat} (hd : decode cc pc = .ok (.putfield idx, 3)) (hf : gj_F y.cls idx ci i N 4 true) (hs : S.2.1 z = (10 + ci, (N : Int))) (hk99 : ci ≠ 89) (hin : y.name = "<init>") (hcl : (vwCl[ci]?).map (·.1) = some y.cls) (hrt : (∃ nm, (gj_fts.getD ci tyX0) i = .object nm) ∨ ∃ t, (gj_fts.getD ci tyX0) i = .array t) (hq : pc + 3 = q)
    (K : gj_W G l d mc ms y cc nL ret Q k n q ls st (gj_upS S z i w) M) : gj_W G l d mc ms y cc nL ret Q k n pc ls (jR w :: jR z :: st) S M := by
  subst hq
  intro p e R s m args below meth c H locs lsm Z X hZ hR hlc hl ho hk hn
  obtain ⟨z0, z1⟩ := gj_in hR.2.2.2.1 hs (by omega)
  obtain ⟨C, T, f1, f2, f3, f4, f5, f6⟩ := hf
  have hts := X.2.2.2.2.2.1
  have hK := X.2.2.2.2.2.2.2.1.1
  obtain ⟨g1, g2, g3⟩ := gj_cls f1
  have hap := va_apart (own := y.cls) hts g1 _ g2 g3 hK f1
  have hP := gj_at hR z0 z1
  rw [gj_e_o hs] at hP
  obtain ⟨r, h1, cell, q1, q2, q3, q4⟩ := hP 0 _ rfl
  have hr : r = (C, T, N) := Option.some.inj (h1.symm.trans f1)
  subst hr
  obtain ⟨hS, hfc, kC, hkC, hkind⟩ := hK.1 ci _ f1
  obtain ⟨cf, kf, fi, f, hi, hsl⟩ := hS i f3
  have hlay := hts _ (g1 _ (u_in_lay f3))
  unfold u_lay at hlay
  rw [if_pos (show (T i).2.2.2 = true from f5)] at hlay
  have hst := (u_facts hfc hkC (u_lays hts g1 f3) hi).1
  have hCy : C = y.cls := by
    rw [f1] at hcl
    exact Option.some.inj hcl
  have hcf : m.cls = cf := by
    obtain ⟨_, _, c', _, _, _, -, -, hf', -, -, -, hown2, -⟩ := Cond.laysFinal_spec hlay
    have e1 : c' = cf := by have := hi.symm.trans hf'; simp at this; exact this.1.symm
    have hdecl : (T i).1 = y.cls := by rw [show (T i).1 = C from f4, hCy]
    rw [hdecl] at hown2
    rw [← e1]
    exact Option.some.inj (X.2.2.2.2.1.symm.trans hown2)
  obtain ⟨n1, n2⟩ := gj_rvF (G := G) (w := w) hrt
  have h6 := u_fits hfc hkC hkind (Or.inr hlay) hi (g2 i f3) n1 n2
  have hR' : gj_okS (gj_upS S z i w) := hR.2.2.2.1
  rw [List.map_cons, List.map_cons, gj_vR z0]
  refine W.putFinK X.1 X.2.1 X.2.2.2.2.1 (hts _ f2) (by rw [show (T i).1 = C from f4] at hi; exact hi) hst hcf ((X.2.2.2.2.2.2.2.2.2.2.2.2 hin).trans hin) (by rw [q2]; exact h6) q1 q3 (by rw [hsl]; exact k2_hasslot (q4 i f3)) rfl rfl hd fun H' e1 e2 e3 => ?_
  rw [hsl] at e1 ⊢
  refine K p e R s m args below meth c H' _ lsm Z X hZ (hR.put z0 e2 e3 ?_ rfl (fun _ _ => rfl) (fun w2 hw b => if_neg (fun q => hw q.1)) (fun _ _ _ => rfl) hR' hR.2.2.2.2) (gj_locs hlc) hl (gj_tail (gj_tail ho)) hk hn
  have hs' : (gj_upS S z i w).2.1 z = (10 + ci, (N : Int)) := hs
  rw [gj_e_o hs']
  refine ⟨_, h1, t_OB.to (V := updV (vp_V _) i (gj_rv G w)) ⟨_, e1, q2, q3, t_set q4 hap f3 _⟩ (fun j hj => ?_)⟩
  rw [gj_vV hj]
  unfold updV
  by_cases hji : j = i
  · subst hji
    rw [if_pos rfl]
    unfold gj_fv gj_upS
    rw [show gj_ft ci j = 4 from f6]
    show _ = gj_rv G (if z = z ∧ (j : Int) = (j : Int) then w else _)
    rw [if_pos ⟨rfl, rfl⟩]
  · rw [if_neg hji, gj_vV hj]
    unfold gj_fv gj_upS
    show _ = (if gj_ft ci j = 1 then Value.long (Int64.ofInt (M z j)) else if gj_ft ci j = 4 then gj_rv G (if z = z ∧ (j : Int) = (i : Int) then w else S.2.2 z j) else Value.int (Int32.ofInt (M z j)))
    rw [if_neg (show ¬ (z = z ∧ (j : Int) = (i : Int)) from fun q => hji (by omega))]
-- new
def gj_nS (S : gj_S) (kd : Nat) (len : Int) : gj_S := (S.1 + 1, (fun z => if z = S.1 then (kd, len) else S.2.1 z), fun z b => if z = S.1 then -1 else S.2.2 z b)
def gj_nM (S : gj_S) (M : gj_M) : gj_M := fun z b => if z = S.1 then 0 else M z b
theorem gj_okx_0 (t : Nat) : gj_okx t 0 := ⟨fun _ => ⟨by decide, by decide⟩, fun _ => ⟨by decide, by decide⟩, fun _ => ⟨by decide, by decide⟩, fun _ => Or.inl rfl⟩
theorem gj_nS_ok {kd : Nat} {len : Int} (hS : gj_okS S) (h : 0 ≤ len ∧ len < 2147483648) : gj_okS (gj_nS S kd len) := by
  obtain ⟨a, b, c⟩ := hS
  refine ⟨by show 0 ≤ S.1 + 1; omega, fun z hz => ?_, fun z => ?_⟩
  · have hz' : z < 0 ∨ S.1 + 1 ≤ z := hz
    show (if z = S.1 then (kd, len) else S.2.1 z) = _
    rw [if_neg (by omega)]
    exact b z (by omega)
  · show 0 ≤ (if z = S.1 then (kd, len) else S.2.1 z).2 ∧ (if z = S.1 then (kd, len) else S.2.1 z).2 < _
    split
    · exact h
    · exact c z
theorem gj_nM_ok {kd : Nat} {len : Int} (hM : gj_okm S M) : gj_okm (gj_nS S kd len) (gj_nM S M) := by
  intro o i
  show gj_okx (gj_ty (if o = S.1 then (kd, len) else S.2.1 o).1 i) (if o = S.1 then 0 else M o i)
  split
  · exact gj_okx_0 _
  · exact hM o i
theorem gj_R.grow {H H1 : Heap} (hR : gj_R G S M H) {kd : Nat} {len : Int} (hlen : 0 ≤ len ∧ len < 2147483648) (hsz : H1.size = H.size + 1) (hold : ∀ q : Nat, q < H.size → H1[q]? = H[q]?) (hat : va_at (gj_D G) vwCl (H.size, gj_e G (gj_nS S kd len) (gj_nM S M) S.1) H1) : gj_R G (gj_nS S kd len) (gj_nM S M) H1 := by
  obtain ⟨a1, a2, a3, a4, a5⟩ := hR
  have h0 := a4.1
  refine ⟨by show H1.size = gj_base G + (S.1 + 1).toNat; omega, fun q hq => ?_, fun o hoo => ?_, gj_nS_ok a4 hlen, gj_nM_ok a5⟩
  · rw [hold q (by omega)]
    exact a2 q hq
  · have hoo' : (o : Int) < S.1 + 1 := hoo
    by_cases hz : (o : Int) = S.1
    · rw [hz, show gj_base G + o = H.size by omega]
      exact hat
    · have hP : va_P (gj_D G) vwCl [(gj_base G + o, gj_e G S M o)] H := by
        have := gj_at (G := G) ⟨a1, a2, a3, a4, a5⟩ (z := o) (by omega) (by omega)
        exact this
      have h := hP.kept (H1 := H1) (fun k q hq => by
        cases k with
        | zero => cases hq; exact hold _ (by show gj_base G + o < _; omega)
        | succ k => cases hq)
      rw [gj_e_congr (S := S) (M := M) (show (gj_nS S kd len).2.1 o = _ from if_neg hz) (fun b => if_neg hz) (fun b => if_neg hz)]
      exact h 0 _ rfl
theorem gj_nRef {H : Heap} (hR : gj_R G S M H) : gj_v G (jR S.1) = .ref H.size := by
  rw [gj_vR hR.2.2.2.1.1, hR.1]
def gj_dv : FieldType → Bool
  | .int => true
  | .long => true
  | .byte => true
  | .boolean => true
  | .object _ => true
  | .array _ => true
  | _ => false
theorem gj_cdv : ∀ ci, ci < 11 → ∀ j, j < 60 → gj_dv ((gj_fts.getD ci tyX0) j) = true := by decide +kernel
theorem gj_dflt {ty : FieldType} (h : gj_dv ty = true) : defaultValue ty = if gj_ftc ty = 1 then Value.long (Int64.ofInt 0) else if gj_ftc ty = 4 then gj_rv G (-1) else Value.int (Int32.ofInt 0) := by
  cases ty <;> first | rfl | cases h
theorem gj_new {idx ci N : Nat} {C : String} {T : u_T} (hd : decode cc pc = .ok (.new idx, 3)) (hc : vwCl[ci]? = some (C, T, N)) (hcl : Cond.classLink y.cls idx C ∈ gj_TB) (hins : Cond.instantiable C N ∈ gj_TB) (hini : Cond.initialized C ∈ gj_TB) (hN : N < 100) (hmc : k + 1 ≤ mc) (hms : n + N ≤ ms) (hq : pc + 3 = q)
    (K : gj_W G l d mc ms y cc nL ret Q (k + 1) (n + N) q ls (jR S.1 :: st) (gj_nS S (10 + ci) N) (gj_nM S M)) : gj_W G l d mc ms y cc nL ret Q k n pc ls st S M := by
  subst hq
  intro p e R s m args below meth c H locs lsm Z X hZ hR hlc hl ho hk hn
  have hts := X.2.2.2.2.2.1
  have hK := X.2.2.2.2.2.2.2.1.1
  obtain ⟨g1, g2, g3⟩ := gj_cls hc
  have hKn := hK.1 ci _ hc
  refine W.newcK X.1 X.2.1 X.2.2.2.2.1 (hts _ hcl) (hts _ hins) (hts _ hini) rfl hd (by rw [X.2.2.2.2.2.2.2.2.2.2.1]; exact hmc) (by rw [X.2.2.2.2.2.2.2.2.2.2.2.1]; exact hms) hKn.2.1 rfl fun H1 kC hkC e1 z1 o1 => ?_
  have hs : (gj_nS S (10 + ci) N).2.1 S.1 = (10 + ci, (N : Int)) := if_pos rfl
  have kk := K p e R s m args below meth c H1 locs lsm Z X hZ (hR.grow ⟨by omega, by omega⟩ z1 o1 ?_) hlc hl (gj_pR ho) hmc hms
  · rw [List.map_cons, gj_nRef hR] at kk
    exact kk
  · rw [gj_e_o hs]
    refine ⟨_, hc, (u_born _ hts g1 hKn hkC e1 g2).to fun j hj => ?_⟩
    rw [gj_vV hj]
    unfold gj_fv gj_ft
    have e0 : gj_nM S M S.1 j = 0 := if_pos rfl
    have e4 : (gj_nS S (10 + ci) N).2.2 S.1 j = -1 := if_pos rfl
    rw [e0, e4]
    have hci : ci < 11 := (List.getElem?_eq_some_iff.mp hc).1
    have hN2 : N ≤ 60 := by
      have : ∀ ci, ci < 11 → (vwCl.getD ci (RX0, TX0, 3)).2.2 ≤ 60 := by decide +kernel
      have h2 := this ci hci
      rw [List.getD_eq_getElem?_getD, hc] at h2
      exact h2
    have hj2 : j < N := hj
    exact gj_dflt (gj_cdv ci hci j (by omega))
theorem gj_newarr {idx : ArrayType} {kd : Nat} {len : Int} (hd : decode cc pc = .ok (.newarray idx, 2)) (hkd : kd < 4) (hty : newarray.typeOf idx = gj_tyk kd) (harr : Cond.arrayClass (gj_tyk kd) ∈ gj_TB) (h0 : 0 ≤ len) (h1 : len ≤ 1000000) (hmc : k + 1 ≤ mc) (hms : n + len.toNat ≤ ms) (hq : pc + 2 = q)
    (K : gj_W G l d mc ms y cc nL ret Q (k + 1) (n + len.toNat) q ls (jR S.1 :: st) (gj_nS S kd len) (gj_nM S M)) : gj_W G l d mc ms y cc nL ret Q k n pc ls (jI len :: st) S M := by
  subst hq
  intro p e R s m args below meth c H locs lsm Z X hZ hR hlc hl ho hk hn
  have hts := X.2.2.2.2.2.1
  have hK := X.2.2.2.2.2.2.2.1.1
  obtain ⟨v1, v2⟩ := gj_ix (i := len) (len := len + 1) h0 (by omega) (by omega)
  have hneg : ¬ Int32.ofInt len < 0 := fun h => v1 (Or.inl h)
  have hbytes : len.toNat * componentBytes (newarray.typeOf idx) ≤ 536870912 := by
    have : componentBytes (newarray.typeOf idx) ≤ 8 := by cases idx <;> decide
    have h2 : len.toNat ≤ 1000000 := by omega
    calc _ ≤ 1000000 * 8 := Nat.mul_le_mul h2 this
      _ ≤ _ := by decide
  refine va_newaK X.1 X.2.1 (by rw [hty]; exact hts _ harr) rfl hd rfl hneg v2 hbytes (by rw [X.2.2.2.2.2.2.2.2.2.2.1]; exact hmc) (by rw [X.2.2.2.2.2.2.2.2.2.2.2.1]; exact hms) rfl fun H1 cA e1 z1 o1 hAr hNm => ?_
  have hcA : cA = gj_cA G kd := by
    have h2 := (hK.2 kd _ (gj_tys_at kd (by omega))).2
    have : kd = 0 ∨ kd = 1 ∨ kd = 2 ∨ kd = 3 := by omega
    rw [hty] at hNm
    rcases this with rfl | rfl | rfl | rfl <;> exact Option.some.inj (hNm.symm.trans h2)
  subst hcA
  have hs : (gj_nS S kd len).2.1 S.1 = (kd, len) := if_pos rfl
  have kk := K p e R s m args below meth c H1 locs lsm Z X hZ (hR.grow ⟨h0, by omega⟩ z1 o1 ?_) hlc hl (gj_pR (gj_tail ho)) hmc hms
  · rw [List.map_cons, gj_nRef hR] at kk
    exact kk
  · have e0 : ∀ j : Int, gj_nM S M S.1 j = 0 := fun j => if_pos rfl
    rw [hty] at e1
    have : kd = 0 ∨ kd = 1 ∨ kd = 2 ∨ kd = 3 := by omega
    rcases this with rfl | rfl | rfl | rfl
    · rw [gj_e_i hs (Or.inl rfl)]
      simp only [e0]
      exact e1
    · rw [gj_e_l hs]
      simp only [e0]
      exact e1
    · rw [gj_e_i hs (Or.inr (Or.inl rfl))]
      simp only [e0]
      exact e1
    · rw [gj_e_i hs (Or.inr (Or.inr rfl))]
      simp only [e0]
      exact e1
theorem gj_newarrR {idx : Nat} {kd : Nat} {len : Int} {C : String} (hd : decode cc pc = .ok (.anewarray idx, 3)) (hkd : kd = 4 ∧ C = "MayGreen$Life" ∨ kd = 5 ∧ C = "java/lang/String") (hcl : Cond.classLink y.cls idx C ∈ gj_TB) (h0 : 0 ≤ len) (h1 : len ≤ 1000000) (hmc : k + 1 ≤ mc) (hms : n + len.toNat ≤ ms) (hq : pc + 3 = q)
    (K : gj_W G l d mc ms y cc nL ret Q (k + 1) (n + len.toNat) q ls (jR S.1 :: st) (gj_nS S kd len) (gj_nM S M)) : gj_W G l d mc ms y cc nL ret Q k n pc ls (jI len :: st) S M := by
  subst hq
  intro p e R s m args below meth c H locs lsm Z X hZ hR hlc hl ho hk hn
  have hts := X.2.2.2.2.2.1
  have hK := X.2.2.2.2.2.2.2.1
  obtain ⟨v1, v2⟩ := gj_ix (i := len) (len := len + 1) h0 (by omega) (by omega)
  have hneg : ¬ Int32.ofInt len < 0 := fun h => v1 (Or.inl h)
  have hover : (Cond.arrayOver (.object C)).before args s = true := by
    rcases hkd with ⟨-, rfl⟩ | ⟨-, rfl⟩
    · exact hK.2.2.2.2.2.2.2.2.1.use
    · exact hK.2.2.2.2.2.2.2.2.2.1.use
  refine W.anew X.1 X.2.1 X.2.2.2.2.1 (hts _ hcl) hover rfl hd rfl hneg (by rw [v2]; omega) (by rw [X.2.2.2.2.2.2.2.2.2.2.1]; exact hmc) (by rw [X.2.2.2.2.2.2.2.2.2.2.2.1, v2]; exact hms) fun cA kA comp f1 f2 f3 f4 => ?_
  rw [v2]
  generalize hH1 : H.push ({ cls := cA, slots := Array.replicate len.toNat .null, vm := .none } : Cell) = H1
  have z1 : H1.size = H.size + 1 := by rw [← hH1, Array.size_push]
  have e1 : H1[H.size]? = some (arrV cA len.toNat (fun _ => .null)) := by rw [← hH1, Array.getElem?_push_size, ← arrV_new]
  have o1 : ∀ q : Nat, q < H.size → H1[q]? = H[q]? := fun q hq => by rw [← hH1, Array.getElem?_push, if_neg (Nat.ne_of_lt hq)]
  have hcA : cA = gj_cA G kd := by
    rcases hkd with ⟨rfl, rfl⟩ | ⟨rfl, rfl⟩
    · obtain ⟨_, _, -, -, -, h2⟩ := (hK.1.2 4 _ (gj_tys_at 4 (by decide))).2
      exact Option.some.inj (f1.symm.trans h2)
    · obtain ⟨_, _, -, -, -, h2⟩ := (hK.1.2 5 _ (gj_tys_at 5 (by decide))).2
      exact Option.some.inj (f1.symm.trans h2)
  subst hcA
  have hs : (gj_nS S kd len).2.1 S.1 = (kd, len) := if_pos rfl
  have kk := K p e R s m args below meth c H1 locs lsm Z X hZ (hR.grow ⟨h0, by omega⟩ z1 o1 ?_) hlc hl (gj_pR (gj_tail ho)) hmc hms
  · rw [List.map_cons, gj_nRef hR] at kk
    exact kk
  · have e4 : ∀ j : Int, (gj_nS S kd len).2.2 S.1 j = -1 := fun j => if_pos rfl
    rw [gj_e_r hs (by omega)]
    simp only [e4]
    exact e1
-- new int[a][b]
theorem gj_outer (c : ClassId) (N h0 : Nat) : ∀ i : Nat, Jvm.Free.Multi.outerC c N h0 i = arrV c N (fun j => va_rf (if j < i then some (h0 + 1 + j) else none))
  | 0 => by
    show ({ cls := c, slots := Array.replicate N .null, vm := .none } : Cell) = _
    rw [arrV_new]
    refine congrArg (arrV c N) (funext fun j => ?_)
    simp [va_rf]
  | i + 1 => by
    show (Jvm.Free.Multi.outerC c N h0 i).setSlot i (.ref (h0 + 1 + i)) = _
    rw [gj_outer c N h0 i, arrV_store]
    refine congrArg (arrV c N) (funext fun j => ?_)
    by_cases e : j = i
    · subst e
      simp [updV, va_rf]
    · by_cases h : j < i
      · simp [updV, e, h, Nat.lt_succ_of_lt h]
      · simp [updV, e, h, show ¬ j < i + 1 by omega]
def gj_mS (S : gj_S) (a b : Int) : gj_S := (S.1 + 1 + a, (fun z => if z = S.1 then (6, a) else if S.1 < z ∧ z < S.1 + 1 + a then (0, b) else S.2.1 z), fun z j => if z = S.1 then (if 0 ≤ j ∧ j < a then S.1 + 1 + j else -1) else if S.1 < z ∧ z < S.1 + 1 + a then -1 else S.2.2 z j)
def gj_mM (S : gj_S) (M : gj_M) (a : Int) : gj_M := fun z j => if S.1 ≤ z ∧ z < S.1 + 1 + a then 0 else M z j
theorem gj_mS_ok {a b : Int} (hS : gj_okS S) (h0 : 0 ≤ a ∧ a < 1000000) (h1 : 0 ≤ b ∧ b < 1000000) : gj_okS (gj_mS S a b) := by
  obtain ⟨p1, p2, p3⟩ := hS
  refine ⟨by show 0 ≤ S.1 + 1 + a; omega, fun z hz => ?_, fun z => ?_⟩
  · have hz' : z < 0 ∨ S.1 + 1 + a ≤ z := hz
    show (if z = S.1 then ((6 : Nat), a) else if S.1 < z ∧ z < S.1 + 1 + a then (0, b) else S.2.1 z) = _
    rw [if_neg (by omega), if_neg (by omega)]
    exact p2 z (by omega)
  · show 0 ≤ (if z = S.1 then ((6 : Nat), a) else if S.1 < z ∧ z < S.1 + 1 + a then (0, b) else S.2.1 z).2 ∧ (if z = S.1 then ((6 : Nat), a) else if S.1 < z ∧ z < S.1 + 1 + a then (0, b) else S.2.1 z).2 < _
    split
    · show 0 ≤ a ∧ a < _; omega
    · split
      · show 0 ≤ b ∧ b < _; omega
      · exact p3 z
theorem gj_mM_ok {a b : Int} (h0 : 0 ≤ a) (hM : gj_okm S M) : gj_okm (gj_mS S a b) (gj_mM S M a) := by
  intro o i
  show gj_okx (gj_ty (if o = S.1 then ((6 : Nat), a) else if S.1 < o ∧ o < S.1 + 1 + a then (0, b) else S.2.1 o).1 i) (if S.1 ≤ o ∧ o < S.1 + 1 + a then 0 else M o i)
  by_cases h : S.1 ≤ o ∧ o < S.1 + 1 + a
  · rw [if_pos h]
    exact gj_okx_0 _
  · rw [if_neg h, if_neg (by omega), if_neg (by omega)]
    exact hM o i
theorem gj_newarr2 {idx : Nat} {a b : Int} (hd : decode cc pc = .ok (.multianewarray idx 2, 4)) (hcl : Cond.classLink y.cls idx "[[I" ∈ gj_TB) (harr : Cond.arrayClass .int ∈ gj_TB) (ha : 0 ≤ a ∧ a < 1000000) (hb : 0 ≤ b ∧ b < 1000000) (hmc : k + 1 + a.toNat ≤ mc) (hms : n + a.toNat + a.toNat * b.toNat ≤ ms) (hq : pc + 4 = q)
    (K : gj_W G l d mc ms y cc nL ret Q (k + 1 + a.toNat) (n + a.toNat + a.toNat * b.toNat) q ls (jR S.1 :: st) (gj_mS S a b) (gj_mM S M a)) : gj_W G l d mc ms y cc nL ret Q k n pc ls (jI b :: jI a :: st) S M := by
  subst hq
  intro p e R s m args below meth c H locs lsm Z X hZ hR hlc hl ho hk hn
  have hts := X.2.2.2.2.2.1
  have hK := X.2.2.2.2.2.2.2.1
  obtain ⟨v1, v2⟩ := gj_ix (i := a) (len := a + 1) ha.1 (by omega) (by omega)
  have hnegA : ¬ Int32.ofInt a < 0 := fun h => v1 (Or.inl h)
  obtain ⟨w1, w2⟩ := gj_ix (i := b) (len := b + 1) hb.1 (by omega) (by omega)
  have hnegB : ¬ Int32.ofInt b < 0 := fun h => w1 (Or.inl h)
  have hover : (Cond.arrayOver (.array .int)).before args s = true := hK.2.2.2.2.2.2.2.2.2.2.1
  rw [List.map_cons, List.map_cons]
  intro T hT Xs
  obtain ⟨vm₁, cA, comp, -, fA, fC, hO, -, X', step⟩ := Xs.multianewarray2F (ty := .int) X.1 X.2.2.2.2.1 (hts _ hcl) hover (hts _ harr) (g := F0 m pc lsm (.int (Int32.ofInt b) :: .int (Int32.ofInt a) :: st.map (gj_v G))) rfl (by rw [X.2.1]; exact hd) rfl hnegA hnegB (by rw [v2]; omega) (by rw [w2]; show b.toNat * 4 ≤ _; omega) (by rw [w2]; omega) rfl rfl (by rw [X.2.2.2.2.2.2.2.2.2.2.1, v2]; omega) (by rw [X.2.2.2.2.2.2.2.2.2.2.2.1, v2, w2]; omega)
  rw [v2, w2] at X' step
  have ec : comp = gj_cA G 0 := by
    have h2 := (hK.1.2 0 _ (gj_tys_at 0 (by decide))).2
    exact Option.some.inj (fC.symm.trans h2)
  have ec2 : cA = gj_cA G 6 := by
    have h2 := (hK.1.2 6 _ (gj_tys_at 6 (by decide))).2
    exact Option.some.inj (fA.symm.trans h2)
  subst ec
  subst ec2
  generalize hF : Jvm.Free.Multi.fill (T.setVm vm₁) (gj_cA G 6) (gj_cA G 0) a.toNat b.toNat (defaultValue .int) a.toNat = F at X' step
  have hTh : (T.setVm vm₁).heap = H := hT
  obtain ⟨f1, f2, -, -⟩ := Jvm.Free.Multi.fill_facts (T.setVm vm₁) (gj_cA G 6) (gj_cA G 0) a.toNat b.toNat (defaultValue .int) a.toNat
  rw [hF, hTh] at f1 f2
  have hold : ∀ x : Nat, x < H.size → F.heap[x]? = H[x]? := fun x hx => by
    have := Jvm.Free.Multi.fill_old (T.setVm vm₁) (gj_cA G 6) (gj_cA G 0) a.toNat b.toNat (defaultValue .int) (a := x) (by rw [hTh]; exact hx) a.toNat
    rw [hF, hTh] at this
    exact this
  have hrow : ∀ j : Nat, j < a.toNat → F.heap[H.size + 1 + j]? = some (arrV (gj_cA G 0) b.toNat (fun _ => .int 0)) := fun j hj => by
    have := Jvm.Free.Multi.fill_inner (T.setVm vm₁) (gj_cA G 6) (gj_cA G 0) a.toNat b.toNat (defaultValue .int) a.toNat j hj
    rw [hF, hTh] at this
    rw [this, ← arrV_new]
    rfl
  rw [gj_outer] at f2
  obtain ⟨a1, a2, a3, a4, a5⟩ := hR
  have s0 := a4.1
  have hR' : gj_R G (gj_mS S a b) (gj_mM S M a) F.heap := by
    refine ⟨by show F.heap.size = gj_base G + (S.1 + 1 + a).toNat; omega, fun q hq => ?_, fun o hoo => ?_, gj_mS_ok a4 ha hb, gj_mM_ok ha.1 a5⟩
    · rw [hold q (by omega)]
      exact a2 q hq
    · have hoo' : (o : Int) < S.1 + 1 + a := hoo
      by_cases hz : (o : Int) = S.1
      · have hs : (gj_mS S a b).2.1 o = (6, a) := if_pos hz
        rw [gj_e_r hs (Or.inr (Or.inr rfl)), show gj_base G + o = H.size by omega]
        show F.heap[_]? = some (vp_cell _ _)
        rw [f2, vp_cell_q]
        refine congrArg (fun f => some (arrV _ _ f)) (funext fun j => congrArg va_rf ?_)
        have hrf : (gj_mS S a b).2.2 o j = if 0 ≤ (j : Int) ∧ (j : Int) < a then S.1 + 1 + j else -1 := if_pos hz
        rw [hrf]
        by_cases hj : j < a.toNat
        · rw [if_pos hj, if_pos (by omega), gj_roR (by omega)]
          congr 1
          omega
        · rw [if_neg hj, if_neg (by omega)]
          rfl
      · by_cases hz2 : S.1 < (o : Int)
        · have hs : (gj_mS S a b).2.1 o = (0, b) := by
            show (if (o : Int) = S.1 then _ else if S.1 < (o : Int) ∧ (o : Int) < S.1 + 1 + a then _ else _) = _
            rw [if_neg hz, if_pos ⟨hz2, hoo'⟩]
          rw [gj_e_i hs (Or.inl rfl)]
          have h3 := hrow (o - S.1.toNat - 1) (by omega)
          rw [show H.size + 1 + (o - S.1.toNat - 1) = gj_base G + o by omega] at h3
          have e0 : ∀ j : Int, gj_mM S M a o j = 0 := fun j => if_pos (by omega)
          simp only [e0]
          exact h3
        · have hP : va_P (gj_D G) vwCl [(gj_base G + o, gj_e G S M o)] H := by
            have := gj_at (G := G) ⟨a1, a2, a3, a4, a5⟩ (z := o) (by omega) (by omega)
            exact this
          have h := hP.kept (H1 := F.heap) (fun k q hq => by
            cases k with
            | zero => cases hq; exact hold _ (by show gj_base G + o < _; omega)
            | succ k => cases hq)
          rw [gj_e_congr (S := S) (M := M) (show (gj_mS S a b).2.1 o = _ from ?_) (fun j => ?_) (fun j => if_neg (by omega))]
          · exact h 0 _ rfl
          · show (if (o : Int) = S.1 then _ else if S.1 < (o : Int) ∧ (o : Int) < S.1 + 1 + a then _ else _) = _
            rw [if_neg hz, if_neg (by omega)]
          · show (if (o : Int) = S.1 then _ else if S.1 < (o : Int) ∧ (o : Int) < S.1 + 1 + a then _ else _) = _
            rw [if_neg hz, if_neg (by omega)]
  have kk := K p e R s m args below meth c F.heap locs lsm Z X hZ hR' hlc hl (gj_pR (gj_tail (gj_tail ho))) hmc hms
  rw [List.map_cons, gj_nRef ⟨a1, a2, a3, a4, a5⟩] at kk
  obtain ⟨t, b1, b2⟩ := kk F rfl X'
  have e9 : T.heap.size = H.size := by rw [hT]
  refine ⟨t, step t ?_, b2⟩
  rw [e9]
  exact b1
-- a reference is stored into an array, in constructors
theorem gj_aastL {z i w len len2 : Int} (hd : decode cc pc = .ok (.aastore, 1)) (hs : S.2.1 z = (4, len)) (hs2 : S.2.1 w = (13, len2)) (h0 : 0 ≤ i) (h1 : i < len) (hq : pc + 1 = q) (K : gj_W G l d mc ms y cc nL ret Q k n q ls st (gj_upS S z i w) M) : gj_W G l d mc ms y cc nL ret Q k n pc ls (jR w :: jI i :: jR z :: st) S M := by
  subst hq
  intro p e R s m args below meth c H locs lsm Z X hZ hR hlc hl ho hk hn
  obtain ⟨z0, z1⟩ := gj_in hR.2.2.2.1 hs (by decide)
  obtain ⟨y0, y1⟩ := gj_in hR.2.2.2.1 hs2 (by decide)
  have hln : len < 2147483648 := by have := (hR.2.2.2.1.2.2 z).2; rw [hs] at this; exact this
  obtain ⟨v1, v2⟩ := gj_ix h0 h1 hln
  rw [List.map_cons, List.map_cons, List.map_cons, gj_vR z0, gj_vR y0]
  have hK := X.2.2.2.2.2.2.2.1.1
  have hP := gj_at hR z0 z1
  rw [gj_e_r hs (Or.inl rfl)] at hP
  have hP2 := gj_at hR y0 y1
  rw [gj_e_o (ci := 3) hs2] at hP2
  have hc := hP 0 _ rfl
  obtain ⟨r', hr', cellV, g1, g2, g3, -⟩ := hP2 0 _ rfl
  have hr0 : r' = (RX3, TX3, 11) := Option.some.inj (hr'.symm.trans (show vwCl[3]? = some (RX3, TX3, 11) from rfl))
  have hcls := (hK.1 3 r' hr').2
  obtain ⟨kA, comp, k1, k2, k3, -⟩ := (hK.2 4 _ (gj_tys_at 4 (by decide))).2
  have hcomp : comp = (gj_D G).1 3 := by
    have h9 := hcls.1
    rw [hr0] at h9
    exact Option.some.inj (k3.symm.trans h9)
  subst hcomp
  obtain ⟨kC, hkC, -⟩ := hcls.2
  have hjl : (Int32.ofInt i).toNatClampNeg < len.toNat := by rw [v2]; omega
  refine W.aast (j := Int32.ofInt i) X.1 X.2.1 hc (fun q h => by cases h) (fun h => by cases h) k1 k2 rfl hkC ⟨fun h => v1 (Or.inl h), by show _ < (arrV _ _ _).slots.size; rw [arrV_size]; exact hjl⟩ g1 (fun q h => by rw [g3] at h; cases h) (by rw [g2]; exact hkC) (by rw [g2]; exact va_assign hcls) rfl rfl hd fun H1 e1 e2 e3 => ?_
  have hR' : gj_okS (gj_upS S z i w) := hR.2.2.2.1
  refine K p e R s m args below meth c H1 _ lsm Z X hZ (hR.put z0 e2 e3 ?_ rfl (fun _ _ => rfl) (fun w2 hw b => if_neg (fun q => hw q.1)) (fun _ _ _ => rfl) hR' hR.2.2.2.2) (gj_locs hlc) hl (gj_tail (gj_tail (gj_tail ho))) hk hn
  have hs' : (gj_upS S z i w).2.1 z = (4, len) := hs
  rw [gj_e_r hs' (Or.inl rfl)]
  show H1[_]? = some (vp_cell _ _)
  rw [e1, vp_cell_q, vp_cell_q, arrV_store, v2]
  refine congrArg (fun f => some (arrV _ _ f)) (funext fun j => ?_)
  unfold updV gj_upS
  by_cases h : j = i.toNat
  · subst h
    rw [if_pos rfl]
    show _ = va_rf (gj_ro G (if z = z ∧ ((i.toNat : Nat) : Int) = i then w else _))
    rw [if_pos ⟨rfl, gj_pN h0⟩, gj_roR y0]
    rfl
  · rw [if_neg h]
    show _ = va_rf (gj_ro G (if z = z ∧ (j : Int) = i then w else _))
    rw [if_neg (fun q => h (by omega))]
theorem gj_aastS {z i len : Int} (j : Nat) (hd : decode cc pc = .ok (.aastore, 1)) (hs : S.2.1 z = (5, len)) (hj : j < 9) (h0 : 0 ≤ i) (h1 : i < len) (hq : pc + 1 = q) {w : Int} (hw : -2 - (j : Int) = w) (K : gj_W G l d mc ms y cc nL ret Q k n q ls st (gj_upS S z i w) M) : gj_W G l d mc ms y cc nL ret Q k n pc ls (jR w :: jI i :: jR z :: st) S M := by
  subst hq
  subst hw
  intro p e R s m args below meth c H locs lsm Z X hZ hR hlc hl ho hk hn
  obtain ⟨z0, z1⟩ := gj_in hR.2.2.2.1 hs (by decide)
  have hln : len < 2147483648 := by have := (hR.2.2.2.1.2.2 z).2; rw [hs] at this; exact this
  obtain ⟨v1, v2⟩ := gj_ix h0 h1 hln
  have ew : gj_ro G (-2 - (j : Int)) = some (gj_aK G j) := by
    unfold gj_ro gj_ad
    rw [if_neg (by omega), if_neg (by omega), if_neg (by omega), if_neg (by omega), if_neg (by omega)]
    congr 2
    omega
  have ew2 : gj_v G (jR (-2 - (j : Int))) = .ref (gj_aK G j) := by
    show va_rf (gj_ro G _) = _
    rw [ew]
    rfl
  rw [List.map_cons, List.map_cons, List.map_cons, gj_vR z0, ew2]
  have hK := X.2.2.2.2.2.2.2.1
  have hP := gj_at hR z0 z1
  rw [gj_e_r hs (Or.inr (Or.inl rfl))] at hP
  have hc := hP 0 _ rfl
  obtain ⟨cellV, g1, g2, g3, g4⟩ := (hK.2.2.1.1 j hj).1
  obtain ⟨kA, comp, k1, k2, k3, -⟩ := (hK.1.2 5 _ (gj_tys_at 5 (by decide))).2
  have hcomp : comp = cellV.cls := Option.some.inj (k3.symm.trans g3)
  have hbk : gj_aK G j < gj_base G := (Array.getElem?_eq_some_iff.mp g1).1
  have g1' : H[gj_aK G j]? = some cellV := by rw [hR.2.1 _ hbk]; exact g1
  obtain ⟨kC, hkC, -⟩ := Vm.findClass_spec g3
  have hjl : (Int32.ofInt i).toNatClampNeg < len.toNat := by rw [v2]; omega
  refine W.aast (j := Int32.ofInt i) X.1 X.2.1 hc (fun q h => by cases h) (fun h => by cases h) k1 k2 rfl (by rw [hcomp]; exact hkC) ⟨fun h => v1 (Or.inl h), by show _ < (arrV _ _ _).slots.size; rw [arrV_size]; exact hjl⟩ g1' (fun q h => by rw [h] at g2; cases g2) hkC (by rw [hcomp]; exact va_asg _ _) rfl rfl hd fun H1 e1 e2 e3 => ?_
  have hR' : gj_okS (gj_upS S z i (-2 - (j : Int))) := hR.2.2.2.1
  refine K p e R s m args below meth c H1 _ lsm Z X hZ (hR.put z0 e2 e3 ?_ rfl (fun _ _ => rfl) (fun w2 hw b => if_neg (fun q => hw q.1)) (fun _ _ _ => rfl) hR' hR.2.2.2.2) (gj_locs hlc) hl (gj_tail (gj_tail (gj_tail ho))) hk hn
  have hs' : (gj_upS S z i (-2 - (j : Int))).2.1 z = (5, len) := hs
  rw [gj_e_r hs' (Or.inr (Or.inl rfl))]
  show H1[_]? = some (vp_cell _ _)
  rw [e1, vp_cell_q, vp_cell_q, arrV_store, v2]
  refine congrArg (fun f => some (arrV _ _ f)) (funext fun j2 => ?_)
  unfold updV gj_upS
  by_cases h : j2 = i.toNat
  · subst h
    rw [if_pos rfl]
    show _ = va_rf (gj_ro G (if z = z ∧ ((i.toNat : Nat) : Int) = i then _ else _))
    rw [if_pos ⟨rfl, gj_pN h0⟩, ew]
    rfl
  · rw [if_neg h]
    show _ = va_rf (gj_ro G (if z = z ∧ (j2 : Int) = i then _ else _))
    rw [if_neg (fun q => h (by omega))]
end GJ4
