/-! OWN LAYER: calls; what a method's end looks like; the script, texts -/
section GJ5
variable {G : gj_G} {l : Launch} {d mc ms : Nat} {y : MethodName} {cc : ByteArray} {nL : Nat} {ret : Option FieldType} {Q : Option gj_V → gj_S → gj_M → Prop} {k n pc q : Nat} {ls : List (Nat × gj_V)} {st st' : List gj_V} {S : gj_S} {M : gj_M}
variable {y' : MethodName} {cc' : ByteArray} {nL' d' mc' ms' n' : Nat} {ret' : Option FieldType} {av : List gj_V} {Q' : Option gj_V → gj_S → gj_M → Prop}
def gj_M0 (y : MethodName) (cc : ByteArray) (nL : Nat) (ret : Option FieldType) (n : Nat) : Prop := Cond.code y cc nL ret ∈ gj_TB ∧ Cond.initialized y.cls ∈ gj_TB ∧ (y.cls ≠ "java/lang/invoke/MethodHandle" ∧ y.cls ≠ "java/lang/invoke/VarHandle") ∧ (parseMethodDescriptor y.desc).map (fun d => d.parameters.length) = some n
def gj_MS (y : MethodName) (cc : ByteArray) (nL : Nat) (ret : Option FieldType) (n : Nat) : Prop := gj_M0 y cc nL ret n ∧ Cond.static y ∈ gj_TB
def gj_MV (y : MethodName) (cc : ByteArray) (nL : Nat) (ret : Option FieldType) (n : Nat) : Prop := gj_M0 y cc nL ret n ∧ Cond.instanceMethod y ∈ gj_TB ∧ Cond.selects y.cls y y ∈ gj_TB
def gj_MI (y : MethodName) (cc : ByteArray) (nL : Nat) (n : Nat) : Prop := gj_M0 y cc nL none n ∧ Cond.instanceMethod y ∈ gj_TB ∧ y.name = "<init>"
def gj_cats (st : List gj_V) : Nat := (st.map (fun v => if gj_two v then 2 else 1)).sum
theorem gj_cats_eq (st : List gj_V) : ((st.map (gj_v G)).map fun v => v.category).sum = gj_cats st := by
  induction st with
  | nil => rfl
  | cons v r ih =>
    have h := gj_cat G v
    rw [List.map_cons, List.map_cons, List.sum_cons, ih]
    show _ = (if gj_two v then 2 else 1) + gj_cats r
    rcases lv_cat (gj_v G v) with h1 | h1
    · rw [h1] at h
      rw [h1, ← h]
      rfl
    · rw [h1] at h
      rw [h1, ← h]
      rfl
theorem gj_blind : FrameBlind (gj_Pc G av S M) := by
  intro a U g mk h
  exact ⟨h.1, h.2.1.same rfl, h.2.2.1, h.2.2.2⟩
theorem gj_cwB {p : Program} {R : Room} {s : State} {m : MethodId} {args : Array Value} {meth : Method} {c : Code} {idx : Nat} (X : gj_cx G d mc ms y cc nL ret p R s m args meth c) (hm : gj_M0 y' cc' nL' ret' n') (hdd : d' + 1 ≤ d) (hnL : nL' ≤ 45) (hl : Cond.methodLink y.cls idx y' ∈ gj_TB) :
    CallB R s args y.cls idx y' cc' nL' ret' (gj_ws y' cc' nL' ret') { frames := d', cells := mc', slots := ms', locals := 64 * d' } mc' ms' n' := by
  have hts := X.2.2.2.2.2.1
  have h1 := X.2.2.2.2.2.2.2.2.1
  have h2 := X.2.2.2.2.2.2.2.2.2.1
  refine ⟨rfl, rfl, Nat.le_trans hdd h1, ?_, fun w hw a' U hW => ?_, List.mem_cons_self, hts _ hm.1, hts _ hm.2.1, hm.2.2.1, fun sig h => ?_, hts _ hl⟩
  · show 8 + (nL' + 11) + 64 * d' ≤ R.locals
    omega
  · have hw' : w ∈ gj_TB := by
      rcases List.mem_cons.mp hw with rfl | hw
      · exact hm.1
      · exact hw
    exact word_at hW (good_of_word (List.mem_filter.mp hw').2) (hts w hw')
  · have h3 := hm.2.2.2
    rw [h] at h3
    exact (Option.some.inj h3).symm
theorem gj_pre {s : State} {H : Heap} (hK : gj_K G s) (hR : gj_R G S M H) (hok : ∀ v ∈ av, gj_okv v) : ∀ U : State, U.heap = H → s.WarmedH U.vm → gj_Pc G av S M (av.map (gj_v G)).toArray U :=
  fun U hU hW => ⟨rfl, hK.warm hW, by rw [hU]; exact hR, hok⟩
theorem gj_run {p : Program} {e : Env} {R : Room} {s : State} {m : MethodId} {args : Array Value} {below : List Frame} {meth : Method} {c : Code} {H : Heap} {locs : List Loc} {lsm : Array Slot} {Z : State → Prop} {a : Array Value} {rest : List gj_V} {stv : List Value}
    (X : gj_cx G d mc ms y cc nL ret p R s m args meth c) (hZ : gj_fin G mc ms cc ret Q p l e R s m args below meth c Z) (hlc : ∀ q ∈ locs, gj_base G ≤ q.base) (hl : lv_has lsm nL (gj_lv G ls)) (ho : gj_oks ls rest) (hk : k + mc' ≤ mc) (hn : n + ms' ≤ ms)
    (hr : va_Run p l e R s m args below meth c H locs k n mc' ms' (F0 m pc lsm stv) (rest.map (gj_v G)) (gj_Qc G Q' a) (fun q => gj_base G ≤ q))
    (K : ∀ (r : Option gj_V) (S' : gj_S) (M' : gj_M), Q' r S' M' → gj_W G l d mc ms y cc nL ret Q (k + mc') (n + ms') (pc + 3) ls (r.toList ++ rest) S' M') : W p l e R s m args below meth c H locs k n Z (F0 m pc lsm stv) := by
  intro T hT Xs
  obtain ⟨v, st₀, t, T', L, h0, X', hL, e1, e2, ⟨r, S', M', hv, hq, hR', hok⟩, stp⟩ := hr T hT Xs
  cases hv
  have kk := K r S' M' hq p e R s m args below meth c T'.heap (locs ++ L) lsm Z X hZ (by rw [e1]; exact hR') (fun q hq => by
    rcases List.mem_append.mp hq with h | h
    · exact hlc q h
    · exact hL q h) hl ⟨ho.1, fun w hw => by
      rcases List.mem_append.mp hw with h | h
      · cases r with
        | none => cases h
        | some x =>
          rw [Option.toList_some, List.mem_singleton] at h
          rw [h]
          exact hok x rfl
      · exact ho.2 w h⟩ hk hn
  obtain ⟨t2, a1, b1⟩ := kk T' rfl X'
  refine ⟨t2, stp t2 ?_, b1⟩
  have e3 : (r.toList ++ rest).map (gj_v G) = (r.map (gj_v G)).toList ++ rest.map (gj_v G) := by
    rw [List.map_append]
    cases r <;> rfl
  rw [e3] at a1
  exact a1
theorem gj_okA {stk : List gj_V} (hst : stk = av.reverse ++ st) (ho : gj_oks ls stk) : (∀ v ∈ av, gj_okv v) ∧ gj_oks ls st := by
  subst hst
  exact ⟨fun v hv => ho.2 v (List.mem_append_left _ (List.mem_reverse.mpr hv)), ho.1, fun v hv => ho.2 v (List.mem_append_right _ hv)⟩
theorem gj_callS {stk : List gj_V} {idx : Nat} (av : List gj_V) (hst : stk = av.reverse ++ st) (hC : gj_C G l d' mc' ms' y' cc' nL' ret' av S M Q') (hd : decode cc pc = .ok (.invokestatic idx, 3)) (hl : Cond.methodLink y.cls idx y' ∈ gj_TB) (hm : gj_MS y' cc' nL' ret' n') (hnum : d' + 1 ≤ d ∧ nL' ≤ 45 ∧ av.length = n' ∧ gj_cats st ≤ 8 ∧ k + mc' ≤ mc ∧ n + ms' ≤ ms) (hq : pc + 3 = q)
    (K : ∀ (r : Option gj_V) (S' : gj_S) (M' : gj_M), Q' r S' M' → gj_W G l d mc ms y cc nL ret Q (k + mc') (n + ms') q ls (r.toList ++ st) S' M') : gj_W G l d mc ms y cc nL ret Q k n pc ls stk S M := by
  subst hq
  obtain ⟨n1, n2, n3, n4, n5, n6⟩ := hnum
  intro p e R s m args below meth c H locs lsm Z X hZ hR hlc hlv ho hk hn
  obtain ⟨ho1, ho2⟩ := gj_okA hst ho
  refine gj_run (Q := Q) X hZ hlc hlv ho2 n5 n6 (va_runS (As := av.map (gj_v G)) (Ts := gj_TB) ⟨X.1, X.2.1, X.2.2.2.1, X.2.2.2.2.1, X.2.2.2.2.2.1⟩ hC ⟨gj_cwB X hm.1 n1 n2 hl, X.2.2.2.2.2.1 _ hm.2⟩ ⟨gj_blind, gj_pre X.2.2.2.2.2.2.2.1 hR ho1⟩ rfl (by rw [List.length_map]; exact n3) hlv.1 (by show stk.map (gj_v G) = _; rw [hst, List.map_append, List.map_reverse]) (lv_room (by rw [gj_cats_eq]; exact n4)) hd ⟨by rw [X.2.2.2.2.2.2.2.2.2.2.1]; exact n5, by rw [X.2.2.2.2.2.2.2.2.2.2.2.1]; exact n6⟩) K
theorem gj_callV {stk : List gj_V} {idx ci : Nat} {z len : Int} (av : List gj_V) (hst : stk = av.reverse ++ jR z :: st) (hC : gj_C G l d' mc' ms' y' cc' nL' ret' (jR z :: av) S M Q') (hd : decode cc pc = .ok (.invokevirtual idx, 3)) (hl : Cond.methodLink y.cls idx y' ∈ gj_TB) (hm : gj_MV y' cc' nL' ret' n') (hs : S.2.1 z = (10 + ci, len)) (hci : (vwCl[ci]?).map (·.1) = some y'.cls) (hnum : d' + 1 ≤ d ∧ nL' ≤ 45 ∧ av.length = n' ∧ gj_cats st ≤ 8 ∧ k + mc' ≤ mc ∧ n + ms' ≤ ms) (hq : pc + 3 = q)
    (K : ∀ (r : Option gj_V) (S' : gj_S) (M' : gj_M), Q' r S' M' → gj_W G l d mc ms y cc nL ret Q (k + mc') (n + ms') q ls (r.toList ++ st) S' M') : gj_W G l d mc ms y cc nL ret Q k n pc ls stk S M := by
  subst hq
  obtain ⟨n1, n2, n3, n4, n5, n6⟩ := hnum
  intro p e R s m args below meth c H locs lsm Z X hZ hR hlc hlv ho hk hn
  have hst2 : stk = (jR z :: av).reverse ++ st := by rw [hst, List.reverse_cons, List.append_assoc]; rfl
  obtain ⟨ho1, ho2⟩ := gj_okA hst2 ho
  have hlt : ci < 11 := by
    cases h : vwCl[ci]? with
    | none => rw [h] at hci; cases hci
    | some r => exact (List.getElem?_eq_some_iff.mp h).1
  obtain ⟨z0, z1⟩ := gj_in hR.2.2.2.1 hs (by omega)
  have hP := gj_at hR z0 z1
  rw [gj_e_o hs] at hP
  have hK := X.2.2.2.2.2.2.2.1
  obtain ⟨r0, hr0⟩ : ∃ r0, vwCl[ci]? = some r0 := by
    cases h : vwCl[ci]? with
    | none => rw [h] at hci; cases hci
    | some r => exact ⟨r, rfl⟩
  have hrc := va_recv hK.1 hP hr0 (q0 := 0) rfl
  have hcls : r0.1 = y'.cls := by
    rw [hr0] at hci
    exact Option.some.inj hci
  rw [hcls] at hrc
  have hpre := gj_pre (av := jR z :: av) hK hR ho1
  rw [List.map_cons, gj_vR z0] at hpre
  refine gj_run (Q := Q) X hZ hlc hlv ho2 n5 n6 (va_runV (As := av.map (gj_v G)) (Ts := gj_TB) (C := y'.cls) ⟨X.1, X.2.1, X.2.2.2.1, X.2.2.2.2.1, X.2.2.2.2.2.1⟩ hC ⟨gj_cwB X hm.1 n1 n2 hl, X.2.2.2.2.2.1 _ hm.2.1, X.2.2.2.2.2.1 _ hm.2.2⟩ ⟨gj_blind, hrc, hpre⟩ rfl (by rw [List.length_map]; exact n3) hlv.1 (by show stk.map (gj_v G) = _; rw [hst, List.map_append, List.map_reverse, List.map_cons, gj_vR z0]) (lv_room (by rw [gj_cats_eq]; exact n4)) hd ⟨by rw [X.2.2.2.2.2.2.2.2.2.2.1]; exact n5, by rw [X.2.2.2.2.2.2.2.2.2.2.2.1]; exact n6⟩) K
theorem gj_callI {stk : List gj_V} {idx : Nat} {z : Int} (av : List gj_V) (hst : stk = av.reverse ++ jR z :: st) (hC : gj_C G l d' mc' ms' y' cc' nL' none (jR z :: av) S M Q') (hd : decode cc pc = .ok (.invokespecial idx, 3)) (hl : Cond.methodLink y.cls idx y' ∈ gj_TB) (hm : gj_MI y' cc' nL' n') (z0 : 0 ≤ z) (hnum : d' + 1 ≤ d ∧ nL' ≤ 45 ∧ av.length = n' ∧ gj_cats st ≤ 8 ∧ k + mc' ≤ mc ∧ n + ms' ≤ ms) (hq : pc + 3 = q)
    (K : ∀ (r : Option gj_V) (S' : gj_S) (M' : gj_M), Q' r S' M' → gj_W G l d mc ms y cc nL ret Q (k + mc') (n + ms') q ls (r.toList ++ st) S' M') : gj_W G l d mc ms y cc nL ret Q k n pc ls stk S M := by
  subst hq
  obtain ⟨n1, n2, n3, n4, n5, n6⟩ := hnum
  intro p e R s m args below meth c H locs lsm Z X hZ hR hlc hlv ho hk hn
  have hst2 : stk = (jR z :: av).reverse ++ st := by rw [hst, List.reverse_cons, List.append_assoc]; rfl
  obtain ⟨ho1, ho2⟩ := gj_okA hst2 ho
  have hK := X.2.2.2.2.2.2.2.1
  have hpre := gj_pre (av := jR z :: av) hK hR ho1
  rw [List.map_cons, gj_vR z0] at hpre
  refine gj_run (Q := Q) X hZ hlc hlv ho2 n5 n6 (va_runI (As := av.map (gj_v G)) (Ts := gj_TB) ⟨X.1, X.2.1, X.2.2.2.1, X.2.2.2.2.1, X.2.2.2.2.2.1⟩ hC ⟨gj_cwB X hm.1 n1 n2 hl, hm.2.2, X.2.2.2.2.2.1 _ hm.2.1⟩ ⟨gj_blind, hpre⟩ rfl (by rw [List.length_map]; exact n3) hlv.1 (by show stk.map (gj_v G) = _; rw [hst, List.map_append, List.map_reverse, List.map_cons, gj_vR z0]) (lv_room (by rw [gj_cats_eq]; exact n4)) hd ⟨by rw [X.2.2.2.2.2.2.2.2.2.2.1]; exact n5, by rw [X.2.2.2.2.2.2.2.2.2.2.2.1]; exact n6⟩) K
/-- a private constructor of a nest mate's -/
theorem gj_callN {stk : List gj_V} {idx : Nat} {z : Int} {host : String} (av : List gj_V) (hst : stk = av.reverse ++ jR z :: st) (hC : gj_C G l d' mc' ms' y' cc' nL' none (jR z :: av) S M Q') (hd : decode cc pc = .ok (.invokespecial idx, 3)) (hl : (y.cls, idx, y', host) ∈ gj_nest) (hm : gj_MI y' cc' nL' n') (z0 : 0 ≤ z) (hnum : d' + 1 ≤ d ∧ nL' ≤ 45 ∧ av.length = n' ∧ gj_cats st ≤ 8 ∧ k + mc' ≤ mc ∧ n + ms' ≤ ms) (hq : pc + 3 = q)
    (K : ∀ (r : Option gj_V) (S' : gj_S) (M' : gj_M), Q' r S' M' → gj_W G l d mc ms y cc nL ret Q (k + mc') (n + ms') q ls (r.toList ++ st) S' M') : gj_W G l d mc ms y cc nL ret Q k n pc ls stk S M := by
  subst hq
  obtain ⟨n1, n2, n3, n4, n5, n6⟩ := hnum
  intro p e R s m args below meth c H locs lsm Z X hZ hR hlc hlv ho hk hn
  have hst2 : stk = (jR z :: av).reverse ++ st := by rw [hst, List.reverse_cons, List.append_assoc]; rfl
  obtain ⟨ho1, ho2⟩ := gj_okA hst2 ho
  have hK := X.2.2.2.2.2.2.2.1
  have hts := X.2.2.2.2.2.1
  have h1 := X.2.2.2.2.2.2.2.2.1
  have h2 := X.2.2.2.2.2.2.2.2.2.1
  have hpre := gj_pre (av := jR z :: av) hK hR ho1
  rw [List.map_cons, gj_vR z0] at hpre
  have cw : va_CN R s args y.cls idx y' host cc' nL' none (gj_ws y' cc' nL' none) { frames := d', cells := mc', slots := ms', locals := 64 * d' } mc' ms' n' := by
    refine ⟨⟨rfl, rfl, Nat.le_trans n1 h1, by show 8 + (nL' + 11) + 64 * d' ≤ R.locals; omega, fun w hw a' U hW => ?_, List.mem_cons_self⟩, hts _ hm.1.1, hts _ hm.1.2.1, hm.1.2.2.1, fun sig h => ?_, (hK.2.2.2.2.2.2.2.2.2.2.2 _ hl).use rfl⟩
    · have hw' : w ∈ gj_TB := by
        rcases List.mem_cons.mp hw with rfl | hw
        · exact hm.1.1
        · exact hw
      exact word_at hW (good_of_word (List.mem_filter.mp hw').2) (hts w hw')
    · have h3 := hm.1.2.2.2
      rw [h] at h3
      exact (Option.some.inj h3).symm
  refine gj_run (Q := Q) X hZ hlc hlv ho2 n5 n6 (va_runIN (As := av.map (gj_v G)) (Ts := gj_TB) ⟨X.1, X.2.1, X.2.2.2.1, X.2.2.2.2.1, X.2.2.2.2.2.1⟩ hC ⟨cw, hm.2.2, hts _ hm.2.1⟩ ⟨gj_blind, hpre⟩ rfl (by rw [List.length_map]; exact n3) hlv.1 (by show stk.map (gj_v G) = _; rw [hst, List.map_append, List.map_reverse, List.map_cons, gj_vR z0]) (lv_room (by rw [gj_cats_eq]; exact n4)) hd ⟨by rw [X.2.2.2.2.2.2.2.2.2.2.1]; exact n5, by rw [X.2.2.2.2.2.2.2.2.2.2.2.1]; exact n6⟩) K
theorem gj_objInit {idx : Nat} {z : Int} (hd : decode cc pc = .ok (.invokespecial idx, 3)) (z0 : 0 ≤ z) (hl : Cond.methodLink y.cls idx Lib.objectInit ∈ gj_TB) (hi : Cond.instanceMethod Lib.objectInit ∈ gj_TB) (hco : Cond.code Lib.objectInit ⟨#[0xb1]⟩ 1 none ∈ gj_TB) (hnum : 1 ≤ d ∧ gj_cats st ≤ 8) (hq : pc + 3 = q) (K : gj_W G l d mc ms y cc nL ret Q k n q ls st S M) : gj_W G l d mc ms y cc nL ret Q k n pc ls (jR z :: st) S M := by
  subst hq
  intro p e R s m args below meth c H locs lsm Z X hZ hR hlc hlv ho hk hn
  have kk := K p e R s m args below meth c H locs lsm Z X hZ hR hlc hlv (gj_tail ho) hk hn
  have hts := X.2.2.2.2.2.1
  have h1 := X.2.2.2.2.2.2.2.2.1
  have h2 := X.2.2.2.2.2.2.2.2.2.1
  rw [List.map_cons, gj_vR z0]
  have h8 := lv_room (m := m) (pc := pc) (ls := lsm) (rest := .ref (gj_base G + z.toNat) :: st.map (gj_v G)) (st := st.map (gj_v G)) (by rw [gj_cats_eq]; exact hnum.2)
  exact W.objInit X.1 X.2.1 X.2.2.2.2.1 (hts _ hl) (hts _ hi) (hts _ hco) rfl (by rw [X.2.2.2.1]; exact hlv.1) rfl hd (by omega) (by omega) kk
-- ends of methods, by kind
def gj_qI (P : Int → gj_S → gj_M → Prop) : Option gj_V → gj_S → gj_M → Prop := fun r S M => ∃ x, r = some (jI x) ∧ P x S M
def gj_qL (P : Int → gj_S → gj_M → Prop) : Option gj_V → gj_S → gj_M → Prop := fun r S M => ∃ x, r = some (jL x) ∧ P x S M
def gj_qR (P : Int → gj_S → gj_M → Prop) : Option gj_V → gj_S → gj_M → Prop := fun r S M => ∃ x, r = some (jR x) ∧ P x S M
def gj_qV (P : gj_S → gj_M → Prop) : Option gj_V → gj_S → gj_M → Prop := fun r S M => r = none ∧ P S M
theorem gj_kI {P : Int → gj_S → gj_M → Prop} {k n pc : Nat} (K : ∀ x S' M', P x S' M' → gj_W G l d mc ms y cc nL ret Q k n pc ls (jI x :: st) S' M') : ∀ (r : Option gj_V) (S' : gj_S) (M' : gj_M), gj_qI P r S' M' → gj_W G l d mc ms y cc nL ret Q k n pc ls (r.toList ++ st) S' M' := by
  rintro _ S' M' ⟨x, rfl, h⟩
  exact K x S' M' h
theorem gj_kL {P : Int → gj_S → gj_M → Prop} {k n pc : Nat} (K : ∀ x S' M', P x S' M' → gj_W G l d mc ms y cc nL ret Q k n pc ls (jL x :: st) S' M') : ∀ (r : Option gj_V) (S' : gj_S) (M' : gj_M), gj_qL P r S' M' → gj_W G l d mc ms y cc nL ret Q k n pc ls (r.toList ++ st) S' M' := by
  rintro _ S' M' ⟨x, rfl, h⟩
  exact K x S' M' h
theorem gj_kR {P : Int → gj_S → gj_M → Prop} {k n pc : Nat} (K : ∀ x S' M', P x S' M' → gj_W G l d mc ms y cc nL ret Q k n pc ls (jR x :: st) S' M') : ∀ (r : Option gj_V) (S' : gj_S) (M' : gj_M), gj_qR P r S' M' → gj_W G l d mc ms y cc nL ret Q k n pc ls (r.toList ++ st) S' M' := by
  rintro _ S' M' ⟨x, rfl, h⟩
  exact K x S' M' h
theorem gj_kV {P : gj_S → gj_M → Prop} {k n pc : Nat} (K : ∀ S' M', P S' M' → gj_W G l d mc ms y cc nL ret Q k n pc ls st S' M') : ∀ (r : Option gj_V) (S' : gj_S) (M' : gj_M), gj_qV P r S' M' → gj_W G l d mc ms y cc nL ret Q k n pc ls (r.toList ++ st) S' M' := by
  rintro _ S' M' ⟨rfl, h⟩
  exact K S' M' h
-- the script
theorem gj_sv {L : Int} {hL : L = -100} : gj_v G (jR L) = .ref (gj_b G) := by
  subst hL
  rfl
theorem gj_sld {i : Int} (hd : decode cc pc = .ok (.iaload, 1)) (h0 : 0 ≤ i) (h1 : i < gj_n G) (hq : pc + 1 = q) (K : gj_W G l d mc ms y cc nL ret Q k n q ls (jI (gj_x G i.toNat).toInt :: st) S M) : gj_W G l d mc ms y cc nL ret Q k n pc ls (jI i :: jR (-100) :: st) S M := by
  subst hq
  intro p e R s m args below meth c H locs lsm Z X hZ hR hlc hlv ho hk hn
  have kk := K p e R s m args below meth c H locs lsm Z X hZ hR hlc hlv (gj_2I (gj_rI _) ho) hk hn
  have hK := X.2.2.2.2.2.2.2.1
  obtain ⟨scr, x1, x2, x3, x4, x5⟩ := hK.2.2.2.2.2.1
  have hb := hK.2.2.2.2.2.2.1
  have hn2 := hK.2.2.2.2.2.2.2.1
  obtain ⟨v1, v2⟩ := gj_ix (i := i) (len := gj_n G) h0 h1 (by omega)
  rw [Int.toNat_natCast] at v1
  rw [List.map_cons, List.map_cons]
  refine W.iald (v := .int (gj_x G i.toNat)) X.1 X.2.1 (a := gj_b G) (cell := scr) (by rw [hR.2.1 _ hb]; exact x1) x2 x3 (by rw [x4]; exact v1) (by rw [v2]; exact x5 _ (by omega)) rfl rfl hd ?_
  rw [List.map_cons] at kk
  have e1 : gj_v G (jI (gj_x G i.toNat).toInt) = .int (gj_x G i.toNat) := by
    show Value.int (Int32.ofInt _) = _
    rw [Int32.ofInt_toInt]
  rw [e1] at kk
  exact kk
theorem gj_slen (hd : decode cc pc = .ok (.arraylength, 1)) (hq : pc + 1 = q) (K : gj_W G l d mc ms y cc nL ret Q k n q ls (jI (gj_n G) :: st) S M) : gj_W G l d mc ms y cc nL ret Q k n pc ls (jR (-100) :: st) S M := by
  subst hq
  intro p e R s m args below meth c H locs lsm Z X hZ hR hlc hlv ho hk hn
  have hK := X.2.2.2.2.2.2.2.1
  have hn2 := hK.2.2.2.2.2.2.2.1
  have kk := K p e R s m args below meth c H locs lsm Z X hZ hR hlc hlv (gj_1I ⟨by omega, by omega⟩ ho) hk hn
  obtain ⟨scr, x1, x2, x3, x4, x5⟩ := hK.2.2.2.2.2.1
  have hb := hK.2.2.2.2.2.2.1
  rw [List.map_cons]
  refine W.alen (n := Int32.ofInt (gj_n G)) X.1 X.2.1 (a := gj_b G) (cell := scr) (by rw [hR.2.1 _ hb]; exact x1) x2 (by rw [x4]; exact (Int32.ofInt_eq_ofNat).symm) rfl rfl hd kk
end GJ5
