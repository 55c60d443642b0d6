/-! the JDK's String: length and charAt of the constants; Math.min and max -/
section GJ8
variable {G : gj_G} {l : Launch} {d mc ms : Nat} {y : MethodName} {cc : ByteArray} {nL : Nat} {ret : Option FieldType} {Q : Option gj_V → gj_S → gj_M → Prop} {k n pc q : Nat} {ls : List (Nat × gj_V)} {st st' : List gj_V} {S : gj_S} {M : gj_M}
variable {y' : MethodName} {cc' : ByteArray} {nL' d' mc' ms' n' : Nat} {ret' : Option FieldType} {av : List gj_V} {Q' : Option gj_V → gj_S → gj_M → Prop}
theorem gj_nm {d' d nL' n' k mc' mc n ms' ms : Nat} {av st : List gj_V} (h : (Nat.ble (d' + 1) d && (Nat.ble nL' 45 && (Nat.beq av.length n' && (Nat.ble (gj_cats st) 8 && (Nat.ble (k + mc') mc && Nat.ble (n + ms') ms))))) = true) : d' + 1 ≤ d ∧ nL' ≤ 45 ∧ av.length = n' ∧ gj_cats st ≤ 8 ∧ k + mc' ≤ mc ∧ n + ms' ≤ ms := by
  simp only [Bool.and_eq_true] at h
  exact ⟨Nat.le_of_ble_eq_true h.1, Nat.le_of_ble_eq_true h.2.1, Nat.eq_of_beq_eq_true h.2.2.1, Nat.le_of_ble_eq_true h.2.2.2.1, Nat.le_of_ble_eq_true h.2.2.2.2.1, Nat.le_of_ble_eq_true h.2.2.2.2.2⟩
theorem gj_abs (K : ∀ M', M' = M → gj_W G l d mc ms y cc nL ret Q k n pc ls st S M') : gj_W G l d mc ms y cc nL ret Q k n pc ls st S M := K M rfl
theorem gj_lgsl (G : gj_G) (av : List gj_V) : (lg_sl (av.map (gj_v G))).length = gj_cats av := by
  induction av with
  | nil => rfl
  | cons v r ih =>
    have h := gj_cat G v
    have e1 : lg_sl ((v :: r).map (gj_v G)) = (if (gj_v G v).category = 2 then [Slot.val (gj_v G v), .second] else [.val (gj_v G v)]) ++ lg_sl (r.map (gj_v G)) := by
      unfold lg_sl
      rw [List.map_cons, List.flatMap_cons]
    rw [e1, List.length_append, ih]
    show _ = (if gj_two v then 2 else 1) + gj_cats r
    rcases lv_cat (gj_v G v) with h1 | h1
    · rw [h1] at h
      rw [h1, ← h]
      rfl
    · rw [h1] at h
      rw [h1, ← h]
      rfl
theorem gj_Cof {d mc ms : Nat} {y : MethodName} {cc : ByteArray} {nL : Nat} {ret : Option FieldType} {av : List gj_V} {Q : Option gj_V → gj_S → gj_M → Prop}
    (hy : plainName y.cls = true) (hn : gj_cats av ≤ nL) (hW : gj_W G l d mc ms y cc nL ret Q 0 0 0 (gj_ar 0 av) [] S M) : gj_C G l d mc ms y cc nL ret av S M Q :=
  gj_C.of hy (fun G => by rw [gj_lgsl]; exact hn) hW
def gj_len (j : Nat) : Int := ((gj_sl.getD j 0 : Nat) : Int)
def gj_ch (j i : Nat) : Int := ((gj_sb.getD j []).getD i 0).toInt
theorem gj_sl_ok : ∀ j, j < 9 → gj_sl.getD j 0 = (gj_sb.getD j []).length ∧ gj_sl.getD j 0 ≤ 5 ∧ 3 ≤ gj_sl.getD j 0 := by decide +kernel
theorem gj_ch_ok : ∀ j, j < 9 → ∀ i, i < 5 → gj_and (gj_ch j i) 255 = gj_ch j i ∧ 0 ≤ gj_ch j i ∧ gj_ch j i < 128 := by decide +kernel
theorem gj_vT {j : Nat} (hj : j < 9) : gj_v G (jR (-2 - (j : Int))) = .ref (gj_aK G j) := by
  show gj_rv G _ = _
  unfold gj_rv gj_ro gj_ad
  rw [if_neg (by omega), if_neg (by omega), if_neg (by omega), if_neg (by omega), if_neg (by omega)]
  show Value.ref _ = _
  congr 2
  omega
theorem gj_vB {j : Nat} (hj : j < 9) : gj_v G (jR (-30 - (j : Int))) = .ref (gj_aV G j) := by
  show gj_rv G _ = _
  unfold gj_rv gj_ro gj_ad
  rw [if_neg (by omega), if_neg (by omega), if_neg (by omega), if_neg (by omega), if_pos (by omega)]
  show Value.ref _ = _
  congr 2
  omega
theorem gj_getsI {idx : Nat} (hd : decode cc pc = .ok (.getstatic idx, 3)) (hl : Cond.fieldLink y.cls idx "java/lang/String" "COMPACT_STRINGS" "Z" ∈ gj_TB) (hq : pc + 3 = q) (K : gj_W G l d mc ms y cc nL ret Q k n q ls (jI 1 :: st) S M) : gj_W G l d mc ms y cc nL ret Q k n pc ls st S M := by
  subst hq
  intro p e R s m args below meth c H locs lsm Z X hZ hR hlc hlv ho hk hn
  have kk := K p e R s m args below meth c H locs lsm Z X hZ hR hlc hlv (gj_pI ho ⟨by decide, by decide⟩) hk hn
  obtain ⟨cf, kf, fi, f, a, cell, h1, h2, h3, h4, h5, h6, h7, h8⟩ := X.2.2.2.2.2.2.2.1.2.2.2.1
  have hb : a < gj_base G := (Array.getElem?_eq_some_iff.mp h5).1
  have h5' : H[a]? = some cell := by rw [hR.2.1 a hb]; exact h5
  exact W.gets X.1 X.2.1 X.2.2.2.2.1 (X.2.2.2.2.2.1 _ hl) h1 h2 h3 h4 h5' (fun e => by rw [e] at h6; cases h6) h7 rfl hd kk
theorem gj_getsF {idx : Nat} (hd : decode cc pc = .ok (.getstatic idx, 3)) (hl : Cond.fieldLink y.cls idx "jdk/internal/util/Preconditions" "SIOOBE_FORMATTER" "Ljava/util/function/BiFunction;" ∈ gj_TB) (hq : pc + 3 = q) (K : gj_W G l d mc ms y cc nL ret Q k n q ls (jR (gj_g G) :: st) S M) : gj_W G l d mc ms y cc nL ret Q k n pc ls st S M := by
  subst hq
  intro p e R s m args below meth c H locs lsm Z X hZ hR hlc hlv ho hk hn
  have kk := K p e R s m args below meth c H locs lsm Z X hZ hR hlc hlv (gj_pR ho) hk hn
  obtain ⟨cf, kf, fi, f, a, cell, h1, h2, h3, h4, h5, h6, h7, h8⟩ := X.2.2.2.2.2.2.2.1.2.2.2.2.1
  have hb : a < gj_base G := (Array.getElem?_eq_some_iff.mp h5).1
  have h5' : H[a]? = some cell := by rw [hR.2.1 a hb]; exact h5
  exact W.gets X.1 X.2.1 X.2.2.2.2.1 (X.2.2.2.2.2.1 _ hl) h1 h2 h3 h4 h5' (fun e => by rw [e] at h6; cases h6) h7 rfl hd kk
theorem gj_getTv {idx j : Nat} {z : Int} (hj : j < 9) (hz : z = -2 - (j : Int)) (hd : decode cc pc = .ok (.getfield idx, 3)) (hl : Cond.fieldLink y.cls idx "java/lang/String" "value" "[B" ∈ gj_TB) (hq : pc + 3 = q) (K : gj_W G l d mc ms y cc nL ret Q k n q ls (jR (-30 - (j : Int)) :: st) S M) : gj_W G l d mc ms y cc nL ret Q k n pc ls (jR z :: st) S M := by
  subst hq
  subst hz
  intro p e R s m args below meth c H locs lsm Z X hZ hR hlc hlv ho hk hn
  have kk := K p e R s m args below meth c H locs lsm Z X hZ hR hlc hlv (gj_pR (gj_tail ho)) hk hn
  obtain ⟨cf, kf, fi, f, cell, h1, h2, h3, h4, h5, h6⟩ := (X.2.2.2.2.2.2.2.1.2.2.1.1 j hj).2.2.1
  have hb : gj_aK G j < gj_base G := (Array.getElem?_eq_some_iff.mp h3).1
  have h3' : H[gj_aK G j]? = some cell := by rw [hR.2.1 _ hb]; exact h3
  rw [List.map_cons, gj_vT hj]
  rw [List.map_cons, gj_vB hj] at kk
  exact W.getf X.1 X.2.1 X.2.2.2.2.1 (X.2.2.2.2.2.1 _ hl) h1 h2 h3' h4 h5 rfl rfl hd kk
theorem gj_getTc {idx j : Nat} {z : Int} (hj : j < 9) (hz : z = -2 - (j : Int)) (hd : decode cc pc = .ok (.getfield idx, 3)) (hl : Cond.fieldLink y.cls idx "java/lang/String" "coder" "B" ∈ gj_TB) (hq : pc + 3 = q) (K : gj_W G l d mc ms y cc nL ret Q k n q ls (jI 0 :: st) S M) : gj_W G l d mc ms y cc nL ret Q k n pc ls (jR z :: st) S M := by
  subst hq
  subst hz
  intro p e R s m args below meth c H locs lsm Z X hZ hR hlc hlv ho hk hn
  have kk := K p e R s m args below meth c H locs lsm Z X hZ hR hlc hlv (gj_pI (gj_tail ho) ⟨by decide, by decide⟩) hk hn
  obtain ⟨cf, kf, fi, f, cell, h1, h2, h3, h4, h5, h6⟩ := (X.2.2.2.2.2.2.2.1.2.2.1.1 j hj).2.1
  have hb : gj_aK G j < gj_base G := (Array.getElem?_eq_some_iff.mp h3).1
  have h3' : H[gj_aK G j]? = some cell := by rw [hR.2.1 _ hb]; exact h3
  rw [List.map_cons, gj_vT hj]
  exact W.getf X.1 X.2.1 X.2.2.2.2.1 (X.2.2.2.2.2.1 _ hl) h1 h2 h3' h4 h5 rfl rfl hd kk
theorem gj_Tlen {j : Nat} (hj : j < 9) (hd : decode cc pc = .ok (.arraylength, 1)) (hq : pc + 1 = q) (K : gj_W G l d mc ms y cc nL ret Q k n q ls (jI (gj_len j) :: st) S M) : gj_W G l d mc ms y cc nL ret Q k n pc ls (jR (-30 - (j : Int)) :: st) S M := by
  subst hq
  intro p e R s m args below meth c H locs lsm Z X hZ hR hlc hlv ho hk hn
  have hl5 := gj_sl_ok j hj
  have kk := K p e R s m args below meth c H locs lsm Z X hZ hR hlc hlv (gj_pI (gj_tail ho) (by unfold gj_len; exact ⟨by omega, by omega⟩)) hk hn
  obtain ⟨cell, h1, h2, h3, h4, h5, h6, h7⟩ := (X.2.2.2.2.2.2.2.1.2.2.1.1 j hj).2.2.2
  have hb : gj_aV G j < gj_base G := (Array.getElem?_eq_some_iff.mp h1).1
  have h1' : H[gj_aV G j]? = some cell := by rw [hR.2.1 _ hb]; exact h1
  rw [List.map_cons, gj_vB hj]
  exact W.alen (n := Int32.ofInt (gj_len j)) X.1 X.2.1 h1' h2 (h5.trans (Int32.ofInt_eq_ofNat).symm) rfl rfl hd kk
theorem gj_Tld {j : Nat} {i : Int} (hj : j < 9) (h0 : 0 ≤ i) (h1 : i < gj_len j) (hd : decode cc pc = .ok (.baload, 1)) (hq : pc + 1 = q) (K : gj_W G l d mc ms y cc nL ret Q k n q ls (jI (gj_ch j i.toNat) :: st) S M) : gj_W G l d mc ms y cc nL ret Q k n pc ls (jI i :: jR (-30 - (j : Int)) :: st) S M := by
  subst hq
  intro p e R s m args below meth c H locs lsm Z X hZ hR hlc hlv ho hk hn
  have hl5 := gj_sl_ok j hj
  have hlen : gj_len j ≤ 5 := by unfold gj_len; omega
  have kk := K p e R s m args below meth c H locs lsm Z X hZ hR hlc hlv (gj_pI (gj_tail (gj_tail ho)) (gj_rI _)) hk hn
  obtain ⟨cell, h2, h3, h4, h5, h6, h7, h8⟩ := (X.2.2.2.2.2.2.2.1.2.2.1.1 j hj).2.2.2
  have hb : gj_aV G j < gj_base G := (Array.getElem?_eq_some_iff.mp h2).1
  have h2' : H[gj_aV G j]? = some cell := by rw [hR.2.1 _ hb]; exact h2
  obtain ⟨v1, v2⟩ := gj_ix h0 h1 (by omega)
  rw [List.map_cons, List.map_cons, gj_vB hj]
  have hlt : i.toNat < gj_sl.getD j 0 := by
    have h9 : i < ((gj_sl.getD j 0 : Nat) : Int) := h1
    omega
  refine W.bald (v := .int (Int32.ofInt (gj_ch j i.toNat))) X.1 X.2.1 h2' h3 h4 ?_ ?_ rfl rfl hd kk
  · rw [v2]
    rintro (h | h)
    · exact v1 (Or.inl h)
    · omega
  · rw [v2, h7 _ hlt]
    unfold gj_ch
    rw [Int32.ofInt_toInt]
theorem gj_ishr0 {a : Int} (hd : decode cc pc = .ok (.ishr, 1)) (hq : pc + 1 = q) (K : gj_W G l d mc ms y cc nL ret Q k n q ls (jI a :: st) S M) : gj_W G l d mc ms y cc nL ret Q k n pc ls (jI 0 :: jI a :: st) S M := by
  subst hq
  refine gj_op (fun p e R s m args below meth c H locs lsm Z hx hb hown hts hK hl ho k => lv_ishr hx hb hd ?_) (fun h => gj_2I (gj_o1 h) h) K
  have e1 : Int32.ofInt a >>> (Int32.ofInt 0 &&& 31) = Int32.ofInt a := by
    refine Int32.toInt_inj.1 ?_
    rw [pk_shr _ _ 0 (by decide)]
    simp
  rw [e1]
  exact k
theorem gj_i2c {a : Int} (hd : decode cc pc = .ok (.i2c, 1)) (h0 : 0 ≤ a ∧ a < 65536) (hq : pc + 1 = q) (K : gj_W G l d mc ms y cc nL ret Q k n q ls (jI a :: st) S M) : gj_W G l d mc ms y cc nL ret Q k n pc ls (jI a :: st) S M := by
  subst hq
  refine gj_op (fun p e R s m args below meth c H locs lsm Z hx hb hown hts hK hl ho k => lv_i2c hx hb hd (v := Int32.ofInt a) ?_ k) (fun h => h) K
  obtain ⟨b, rfl⟩ := Int.eq_ofNat_of_zero_le h0.1
  have hb : b < 65536 := by omega
  have e1 : Int32.ofInt (b : Int) = nI b := Int32.ofInt_eq_ofNat
  rw [e1, pk_char, pk_tn (by omega), Nat.mod_eq_of_lt hb]
theorem gj_narC {a : Int} (h0 : 0 ≤ a ∧ a < 65536) : narrow .char (.int (Int32.ofInt a)) = .int (Int32.ofInt a) := by
  obtain ⟨b, rfl⟩ := Int.eq_ofNat_of_zero_le h0.1
  rw [show Int32.ofInt (b : Int) = nI b from Int32.ofInt_eq_ofNat]
  exact (pk_charN (by omega)).1
/-- a method of a text -/
theorem gj_callT {stk : List gj_V} {idx j : Nat} {z : Int} (av : List gj_V) (hj : j < 9) (hz : z = -2 - (j : Int)) (hst : stk = av.reverse ++ jR z :: st) (hC : gj_C G l d' mc' ms' y' cc' nL' ret' (jR z :: av) S M Q') (hd : decode cc pc = .ok (.invokevirtual idx, 3)) (hl : Cond.methodLink y.cls idx y' ∈ gj_TB) (hm : gj_MV y' cc' nL' ret' n') (hcy : y'.cls = "java/lang/String") (hnum : d' + 1 ≤ d ∧ nL' ≤ 45 ∧ av.length = n' ∧ gj_cats st ≤ 8 ∧ k + mc' ≤ mc ∧ n + ms' ≤ ms) (hq : pc + 3 = q)
    (K : ∀ (r : Option gj_V) (S' : gj_S) (M' : gj_M), Q' r S' M' → gj_W G l d mc ms y cc nL ret Q (k + mc') (n + ms') q ls (r.toList ++ st) S' M') : gj_W G l d mc ms y cc nL ret Q k n pc ls stk S M := by
  subst hq
  subst hz
  obtain ⟨n1, n2, n3, n4, n5, n6⟩ := hnum
  intro p e R s m args below meth c H locs lsm Z X hZ hR hlc hlv ho hk hn
  have hst2 : stk = (jR (-2 - (j : Int)) :: av).reverse ++ st := by rw [hst, List.reverse_cons, List.append_assoc]; rfl
  obtain ⟨ho1, ho2⟩ := gj_okA hst2 ho
  have hK := X.2.2.2.2.2.2.2.1
  obtain ⟨cell, h1, h2, h3, h4⟩ := (hK.2.2.1.1 j hj).1
  have hb : gj_aK G j < gj_base G := (Array.getElem?_eq_some_iff.mp h1).1
  have hrc : ∃ cell : Cell, H[gj_aK G j]? = some cell ∧ cell.vm.isStatics = false ∧ s.vm.findClass y'.cls = some cell.cls := ⟨cell, by rw [hR.2.1 _ hb]; exact h1, h2, by rw [hcy]; exact h3⟩
  have hpre := gj_pre (av := jR (-2 - (j : Int)) :: av) hK hR ho1
  rw [List.map_cons, gj_vT hj] at hpre
  refine gj_run (Q := Q) X hZ hlc hlv ho2 n5 n6 (va_runV (As := av.map (gj_v G)) (Ts := gj_TB) (C := y'.cls) ⟨X.1, X.2.1, X.2.2.2.1, X.2.2.2.2.1, X.2.2.2.2.2.1⟩ hC ⟨gj_cwB X hm.1 n1 n2 hl, X.2.2.2.2.2.1 _ hm.2.1, X.2.2.2.2.2.1 _ hm.2.2⟩ ⟨gj_blind, hrc, hpre⟩ rfl (by rw [List.length_map]; exact n3) hlv.1 (by show stk.map (gj_v G) = _; rw [hst, List.map_append, List.map_reverse, List.map_cons, gj_vT hj]) (lv_room (by rw [gj_cats_eq]; exact n4)) hd ⟨by rw [X.2.2.2.2.2.2.2.2.2.2.1]; exact n5, by rw [X.2.2.2.2.2.2.2.2.2.2.2.1]; exact n6⟩) K
def f_min (a b : Int) : Int := if b < a then b else a
def f_max (a b : Int) : Int := if a < b then b else a
def f_maxL (a b : Int) : Int := if b < a then a else b
theorem gj_mmax {a b : Int} {idx : Nat} (hd : decode cc pc = .ok (.invokestatic idx, 3)) (hl : Cond.methodLink y.cls idx yJ9_max_7cf53 ∈ gj_TB) (hnum : 1 ≤ d ∧ gj_cats st ≤ 8) (hq : pc + 3 = q) (K : gj_W G l d mc ms y cc nL ret Q k n q ls (jI (f_max a b) :: st) S M) : gj_W G l d mc ms y cc nL ret Q k n pc ls (jI b :: jI a :: st) S M := by
  subst hq
  intro p e R s m args below meth c H locs lsm Z X hZ hR hlc hlv ho hk hn
  have kk := K p e R s m args below meth c H locs lsm Z X hZ hR hlc hlv (gj_2I (by unfold f_max; split; exact gj_o0 ho; exact gj_o1 ho) ho) hk hn
  have hts := X.2.2.2.2.2.1
  have h1 := X.2.2.2.2.2.2.2.2.1
  have h2 := X.2.2.2.2.2.2.2.2.2.1
  have hc8 := gj_cats_eq (G := G) st
  rw [List.map_cons, List.map_cons]
  refine va_mmax X.1 X.2.1 (by rw [X.2.2.2.1]; exact hlv.1.symm) X.2.2.2.2.1 (hts _ hl) (hts _ kt_J9_max_7cf53) (hts _ ini_J9) (hts _ kd_J9_max_7cf53) (by omega) (by omega) (by rw [X.2.2.2.2.2.2.2.2.2.2.1]; exact hk) (by rw [X.2.2.2.2.2.2.2.2.2.2.2.1]; exact hn) hd ?_
  rw [List.map_cons] at kk
  have e1 : (if Int32.ofInt a < Int32.ofInt b then Int32.ofInt b else Int32.ofInt a) = Int32.ofInt (f_max a b) := by
    unfold f_max
    by_cases h : a < b
    · rw [if_pos h, if_pos ((gj_ltI (gj_o1 ho) (gj_o0 ho)).mpr h)]
    · rw [if_neg h, if_neg (fun z => h ((gj_ltI (gj_o1 ho) (gj_o0 ho)).mp z))]
  rw [e1]
  exact kk
theorem gj_mmin {a b : Int} {idx : Nat} (hd : decode cc pc = .ok (.invokestatic idx, 3)) (hl : Cond.methodLink y.cls idx yJ9_min_7cf53 ∈ gj_TB) (hnum : 1 ≤ d ∧ gj_cats st ≤ 8) (hq : pc + 3 = q) (K : gj_W G l d mc ms y cc nL ret Q k n q ls (jI (f_min a b) :: st) S M) : gj_W G l d mc ms y cc nL ret Q k n pc ls (jI b :: jI a :: st) S M := by
  subst hq
  intro p e R s m args below meth c H locs lsm Z X hZ hR hlc hlv ho hk hn
  have kk := K p e R s m args below meth c H locs lsm Z X hZ hR hlc hlv (gj_2I (by unfold f_min; split; exact gj_o0 ho; exact gj_o1 ho) ho) hk hn
  have hts := X.2.2.2.2.2.1
  have h1 := X.2.2.2.2.2.2.2.2.1
  have h2 := X.2.2.2.2.2.2.2.2.2.1
  have hc8 := gj_cats_eq (G := G) st
  rw [List.map_cons, List.map_cons]
  refine va_mmin X.1 X.2.1 (by rw [X.2.2.2.1]; exact hlv.1.symm) X.2.2.2.2.1 (hts _ hl) (hts _ kt_J9_min_7cf53) (hts _ ini_J9) (hts _ kd_J9_min_7cf53) (by omega) (by omega) (by rw [X.2.2.2.2.2.2.2.2.2.2.1]; exact hk) (by rw [X.2.2.2.2.2.2.2.2.2.2.2.1]; exact hn) hd ?_
  rw [List.map_cons] at kk
  have e1 : (if Int32.ofInt b < Int32.ofInt a then Int32.ofInt b else Int32.ofInt a) = Int32.ofInt (f_min a b) := by
    unfold f_min
    by_cases h : b < a
    · rw [if_pos h, if_pos ((gj_ltI (gj_o0 ho) (gj_o1 ho)).mpr h)]
    · rw [if_neg h, if_neg (fun z => h ((gj_ltI (gj_o0 ho) (gj_o1 ho)).mp z))]
  rw [e1]
  exact kk
theorem gj_ltL {a b : Int} (ha : gj_i64 a) (hb : gj_i64 b) : Int64.ofInt a < Int64.ofInt b ↔ a < b := by rw [Int64.lt_iff_toInt_lt, gj_toL' ha, gj_toL' hb]
theorem gj_mmaxL {a b : Int} {idx : Nat} (hd : decode cc pc = .ok (.invokestatic idx, 3)) (hl : Cond.methodLink y.cls idx yJ9_max_f86c9 ∈ gj_TB) (hnum : 1 ≤ d ∧ gj_cats st ≤ 8) (hq : pc + 3 = q) (K : gj_W G l d mc ms y cc nL ret Q k n q ls (jL (f_maxL a b) :: st) S M) : gj_W G l d mc ms y cc nL ret Q k n pc ls (jL b :: jL a :: st) S M := by
  subst hq
  intro p e R s m args below meth c H locs lsm Z X hZ hR hlc hlv ho hk hn
  have kk := K p e R s m args below meth c H locs lsm Z X hZ hR hlc hlv (gj_2L (by unfold f_maxL; split; exact gj_O1 ho; exact gj_O0 ho) ho) hk hn
  have hts := X.2.2.2.2.2.1
  have h1 := X.2.2.2.2.2.2.2.2.1
  have h2 := X.2.2.2.2.2.2.2.2.2.1
  have hc8 := gj_cats_eq (G := G) st
  rw [List.map_cons, List.map_cons]
  refine va_mmax_long X.1 X.2.1 (by rw [X.2.2.2.1]; exact hlv.1.symm) X.2.2.2.2.1 (hts _ hl) (hts _ kt_J9_max_f86c9) (hts _ ini_J9) (hts _ kd_J9_max_f86c9) (by omega) (by omega) (by rw [X.2.2.2.2.2.2.2.2.2.2.1]; exact hk) (by rw [X.2.2.2.2.2.2.2.2.2.2.2.1]; exact hn) hd ?_
  rw [List.map_cons] at kk
  have e1 : (if Int64.ofInt b < Int64.ofInt a then Int64.ofInt a else Int64.ofInt b) = Int64.ofInt (f_maxL a b) := by
    unfold f_maxL
    by_cases h : b < a
    · rw [if_pos h, if_pos ((gj_ltL (gj_O0 ho) (gj_O1 ho)).mpr h)]
    · rw [if_neg h, if_neg (fun z => h ((gj_ltL (gj_O0 ho) (gj_O1 ho)).mp z))]
  rw [e1]
  exact kk
end GJ8
section GJ9
variable {G : gj_G} {l : Launch} {S : gj_S} {M : gj_M}
theorem c_J0_coder {j : Nat} (hj : j < 9) : gj_C G l 1 0 0 yJ0_coder_7d493 cJ0_coder_7d493 1 (some .byte) [jR (-2 - (j : Int))] S M (gj_qI fun x S' M' => 0 = x ∧ S = S' ∧ M = M') := by
  refine gj_Cof (by decide +kernel) (Nat.le_of_ble_eq_true rfl) ?_
  refine gj_getsI (q := 3) (gj_dk okJ0_coder_7d493 0 rfl) kf_J0_38 rfl ?_
  refine gj_if_eq (q := 6) (tgt := 13) (gj_dk okJ0_coder_7d493 1 rfl) (by decide) rfl (fun c => absurd c (by decide)) (fun _ => ?_)
  refine gj_aload_n (q := 7) (gj_dk okJ0_coder_7d493 2 rfl) rfl rfl ?_
  refine gj_getTc (q := 10) hj rfl (gj_dk okJ0_coder_7d493 3 rfl) kf_J0_15 rfl ?_
  refine gj_goto (tgt := 14) (gj_dk okJ0_coder_7d493 4 rfl) (by decide) ?_
  exact gj_ireturn .byte (gj_dk okJ0_coder_7d493 6 rfl) rfl rfl ⟨_, rfl, rfl, rfl, rfl⟩
theorem c_J0_isLatin1 {j : Nat} (hj : j < 9) : gj_C G l 1 0 0 yJ0_isLatin1_aae02 cJ0_isLatin1_aae02 1 (some .boolean) [jR (-2 - (j : Int))] S M (gj_qI fun x S' M' => 1 = x ∧ S = S' ∧ M = M') := by
  refine gj_Cof (by decide +kernel) (Nat.le_of_ble_eq_true rfl) ?_
  refine gj_getsI (q := 3) (gj_dk okJ0_isLatin1_aae02 0 rfl) kf_J0_38 rfl ?_
  refine gj_if_eq (q := 6) (tgt := 17) (gj_dk okJ0_isLatin1_aae02 1 rfl) (by decide) rfl (fun c => absurd c (by decide)) (fun _ => ?_)
  refine gj_aload_n (q := 7) (gj_dk okJ0_isLatin1_aae02 2 rfl) rfl rfl ?_
  refine gj_getTc (q := 10) hj rfl (gj_dk okJ0_isLatin1_aae02 3 rfl) kf_J0_15 rfl ?_
  refine gj_if_ne (q := 13) (tgt := 17) (gj_dk okJ0_isLatin1_aae02 4 rfl) (by decide) rfl (fun c => absurd rfl c) (fun _ => ?_)
  refine gj_iconst (q := 14) (gj_dk okJ0_isLatin1_aae02 5 rfl) (by decide) rfl ?_
  refine gj_goto (tgt := 18) (gj_dk okJ0_isLatin1_aae02 6 rfl) (by decide) ?_
  exact gj_zret (gj_dk okJ0_isLatin1_aae02 8 rfl) rfl (by decide) ⟨_, rfl, rfl, rfl, rfl⟩
theorem c_J0_length {j : Nat} {z : Int} (hj : j < 9) (hz : z = -2 - (j : Int)) : gj_C G l 2 0 0 yJ0_length_8abf5 cJ0_length_8abf5 1 (some .int) [jR z] S M (gj_qI fun x S' M' => gj_len j = x ∧ S = S' ∧ M = M') := by
  subst hz
  refine gj_Cof (by decide +kernel) (Nat.le_of_ble_eq_true rfl) ?_
  refine gj_aload_n (q := 1) (gj_dk okJ0_length_8abf5 0 rfl) rfl rfl ?_
  refine gj_getTv (q := 4) hj rfl (gj_dk okJ0_length_8abf5 1 rfl) kf_J0_9 rfl ?_
  refine gj_Tlen (q := 5) hj (gj_dk okJ0_length_8abf5 2 rfl) rfl ?_
  refine gj_aload_n (q := 6) (gj_dk okJ0_length_8abf5 3 rfl) rfl rfl ?_
  refine gj_callT (q := 9) [] hj rfl rfl (c_J0_coder hj) (gj_dk okJ0_length_8abf5 4 rfl) ml_J0_335 me_J0_coder_7d493 rfl (gj_nm rfl) rfl (gj_kI fun x S' M' h => ?_)
  obtain ⟨e0, e1, e2⟩ := h
  subst e0
  subst e1
  subst e2
  refine gj_ishr0 (q := 10) (gj_dk okJ0_length_8abf5 5 rfl) rfl ?_
  exact gj_iret (gj_dk okJ0_length_8abf5 6 rfl) rfl ⟨_, rfl, rfl, rfl, rfl⟩
theorem c_J3_checkIndex {i n : Int} {z : Int} (h0 : 0 ≤ i) (h1 : i < n) : gj_C G l 1 0 0 yJ3_checkIndex_8e157 cJ3_checkIndex_8e157 3 (some .int) [jI i, jI n, jR z] S M (gj_qI fun x S' M' => S = S' ∧ M = M') := by
  refine gj_Cof (by decide +kernel) (Nat.le_of_ble_eq_true rfl) ?_
  refine gj_iload_n (q := 1) (gj_dk okJ3_checkIndex_8e157 0 rfl) rfl rfl ?_
  refine gj_if_lt (q := 4) (tgt := 9) (gj_dk okJ3_checkIndex_8e157 1 rfl) (by decide) rfl (fun c => by omega) (fun _ => ?_)
  refine gj_iload_n (q := 5) (gj_dk okJ3_checkIndex_8e157 2 rfl) rfl rfl ?_
  refine gj_iload_n (q := 6) (gj_dk okJ3_checkIndex_8e157 3 rfl) rfl rfl ?_
  refine gj_icmp_lt (q := 9) (tgt := 16) (gj_dk okJ3_checkIndex_8e157 4 rfl) (by decide) rfl (fun _ => ?_) (fun c => by omega)
  refine gj_iload_n (q := 17) (gj_dk okJ3_checkIndex_8e157 10 rfl) rfl rfl ?_
  exact gj_iret (gj_dk okJ3_checkIndex_8e157 11 rfl) rfl ⟨_, rfl, rfl, rfl⟩
theorem c_J0_checkIndex {i n : Int} (h0 : 0 ≤ i) (h1 : i < n) : gj_C G l 2 0 0 yJ0_checkIndex_df160 cJ0_checkIndex_df160 2 none [jI i, jI n] S M (gj_qV fun S' M' => S = S' ∧ M = M') := by
  refine gj_Cof (by decide +kernel) (Nat.le_of_ble_eq_true rfl) ?_
  refine gj_iload_n (q := 1) (gj_dk okJ0_checkIndex_df160 0 rfl) rfl rfl ?_
  refine gj_iload_n (q := 2) (gj_dk okJ0_checkIndex_df160 1 rfl) rfl rfl ?_
  refine gj_getsF (q := 5) (gj_dk okJ0_checkIndex_df160 2 rfl) kf_J0_1053 rfl ?_
  refine gj_callS (q := 8) [_, _, _] rfl (c_J3_checkIndex h0 h1) (gj_dk okJ0_checkIndex_df160 3 rfl) ml_J0_1059 me_J3_checkIndex_8e157 (gj_nm rfl) rfl (gj_kI fun x S' M' h => ?_)
  obtain ⟨e1, e2⟩ := h
  subst e1
  subst e2
  refine gj_pop (q := 9) (gj_dk okJ0_checkIndex_df160 4 rfl) rfl rfl ?_
  exact gj_vret (gj_dk okJ0_checkIndex_df160 5 rfl) rfl ⟨rfl, rfl, rfl⟩
theorem c_J1_charAt {j : Nat} {i : Int} (hj : j < 9) (h0 : 0 ≤ i) (h1 : i < gj_len j) : gj_C G l 3 0 0 yJ1_charAt_3b067 cJ1_charAt_3b067 2 (some .char) [jR (-30 - (j : Int)), jI i] S M (gj_qI fun x S' M' => gj_ch j i.toNat = x ∧ S = S' ∧ M = M') := by
  have hl5 := gj_sl_ok j hj
  have hlen : gj_len j ≤ 5 := by unfold gj_len; omega
  obtain ⟨g1, g2, g3⟩ := gj_ch_ok j hj i.toNat (by omega)
  refine gj_Cof (by decide +kernel) (Nat.le_of_ble_eq_true rfl) ?_
  refine gj_iload_n (q := 1) (gj_dk okJ1_charAt_3b067 0 rfl) rfl rfl ?_
  refine gj_aload_n (q := 2) (gj_dk okJ1_charAt_3b067 1 rfl) rfl rfl ?_
  refine gj_Tlen (q := 3) hj (gj_dk okJ1_charAt_3b067 2 rfl) rfl ?_
  refine gj_callS (q := 6) [_, _] rfl (c_J0_checkIndex h0 h1) (gj_dk okJ1_charAt_3b067 3 rfl) ml_J1_9 me_J0_checkIndex_df160 (gj_nm rfl) rfl (gj_kV fun S' M' h => ?_)
  obtain ⟨e1, e2⟩ := h
  subst e1
  subst e2
  refine gj_aload_n (q := 7) (gj_dk okJ1_charAt_3b067 4 rfl) rfl rfl ?_
  refine gj_iload_n (q := 8) (gj_dk okJ1_charAt_3b067 5 rfl) rfl rfl ?_
  refine gj_Tld (q := 9) hj h0 h1 (gj_dk okJ1_charAt_3b067 6 rfl) rfl ?_
  refine gj_sipush (q := 12) (gj_dk okJ1_charAt_3b067 7 rfl) (by decide) rfl rfl ?_
  refine gj_iand (q := 13) (gj_dk okJ1_charAt_3b067 8 rfl) rfl ?_
  rw [g1]
  refine gj_i2c (q := 14) (gj_dk okJ1_charAt_3b067 9 rfl) ⟨g2, by omega⟩ rfl ?_
  exact gj_ireturn .char (gj_dk okJ1_charAt_3b067 10 rfl) rfl (gj_narC ⟨g2, by omega⟩) ⟨_, rfl, rfl, rfl, rfl⟩
theorem c_J0_charAt {j : Nat} {i z : Int} (hj : j < 9) (hz : z = -2 - (j : Int)) (h0 : 0 ≤ i) (h1 : i < gj_len j) : gj_C G l 4 0 0 yJ0_charAt_5068e cJ0_charAt_5068e 2 (some .char) [jR z, jI i] S M (gj_qI fun x S' M' => gj_ch j i.toNat = x ∧ S = S' ∧ M = M') := by
  subst hz
  have hl5 := gj_sl_ok j hj
  have hlen : gj_len j ≤ 5 := by unfold gj_len; omega
  obtain ⟨g1, g2, g3⟩ := gj_ch_ok j hj i.toNat (by omega)
  refine gj_Cof (by decide +kernel) (Nat.le_of_ble_eq_true rfl) ?_
  refine gj_aload_n (q := 1) (gj_dk okJ0_charAt_5068e 0 rfl) rfl rfl ?_
  refine gj_callT (q := 4) [] hj rfl rfl (c_J0_isLatin1 hj) (gj_dk okJ0_charAt_5068e 1 rfl) ml_J0_492 me_J0_isLatin1_aae02 rfl (gj_nm rfl) rfl (gj_kI fun x S' M' h => ?_)
  obtain ⟨e0, e1, e2⟩ := h
  subst e0
  subst e1
  subst e2
  refine gj_if_eq (q := 7) (tgt := 16) (gj_dk okJ0_charAt_5068e 2 rfl) (by decide) rfl (fun c => absurd c (by decide)) (fun _ => ?_)
  refine gj_aload_n (q := 8) (gj_dk okJ0_charAt_5068e 3 rfl) rfl rfl ?_
  refine gj_getTv (q := 11) hj rfl (gj_dk okJ0_charAt_5068e 4 rfl) kf_J0_9 rfl ?_
  refine gj_iload_n (q := 12) (gj_dk okJ0_charAt_5068e 5 rfl) rfl rfl ?_
  refine gj_callS (q := 15) [_, _] rfl (c_J1_charAt hj h0 h1) (gj_dk okJ0_charAt_5068e 6 rfl) ml_J0_495 me_J1_charAt_3b067 (gj_nm rfl) rfl (gj_kI fun x S' M' h => ?_)
  obtain ⟨e0, e1, e2⟩ := h
  subst e0
  subst e1
  subst e2
  exact gj_ireturn .char (gj_dk okJ0_charAt_5068e 7 rfl) rfl (gj_narC ⟨g2, by omega⟩) ⟨_, rfl, rfl, rfl, rfl⟩
end GJ9
