/-! FROM THE LAW'S ENTRY INTO THE OWN LAYER -/
def n_C : Cond := Jvm.Cond.and given_1 narrow_1
def n_t (i : Nat) : Term := Term.string RX12 (gj_s12.getD i 0)
def n_v (i : Nat) : Term := Term.field (n_t i) "java/lang/String" "value" "[B"
def n_L : List Cond := flatC n_C
def n_ok (i : Nat) (w : Cond) : Bool := decide (n_L[i]? = some w)
theorem n_ok_in {i : Nat} {w : Cond} (h : n_ok i w = true) : w ∈ n_L := List.mem_of_getElem? (of_decide_eq_true h)
def n_tk (i : Nat) (w : Cond) : Bool := decide (tables_1[i]? = some w)
theorem n_tk_in {i : Nat} {w : Cond} (h : n_tk i w = true) : w ∈ tables_1 := List.mem_of_getElem? (of_decide_eq_true h)
def n_i (l : List Nat) (i : Nat) : Nat := l.getD i 0
set_option maxRecDepth 100000 in
theorem n_ex : ((List.range 9).all fun i => n_ok (n_i [121, 138, 157, 177, 196, 218, 241, 265, 288] i) (Cond.exactly (n_t i) "java/lang/String") && (n_ok (n_i [122, 139, 158, 178, 197, 219, 242, 266, 289] i) (Cond.eq (.field (n_t i) "java/lang/String" "coder" "B") (.int 0)) && (n_ok (n_i [123, 140, 159, 179, 198, 220, 243, 267, 290] i) (Cond.arrayOf (n_v i) .byte) && (n_ok (n_i [124, 141, 160, 180, 199, 221, 244, 268, 291] i) (Cond.eq (.length (n_v i)) (.int (Int32.ofNat (gj_sl.getD i 0)))) && n_ok (n_i [129, 148, 168, 187, 209, 232, 256, 279, 305] i) (Cond.eq (Term.string RX6 (gj_s6.getD i 0)) (n_t i)))))) = true := by decide +kernel
def n_il (l : List (List Nat)) (i j : Nat) : Nat := (l.getD i []).getD j 0
set_option maxRecDepth 100000 in
theorem n_el : ((List.range 9).all fun i => (List.range (gj_sl.getD i 0)).all fun j => n_ok (n_il [[125, 126, 127, 128], [142, 143, 144, 145, 146], [161, 162, 163, 164, 165], [181, 182, 183], [200, 201, 202, 203, 204], [222, 223, 224, 225, 226], [245, 246, 247, 248, 249], [269, 270, 271], [292, 293, 294, 295, 296]] i j) (Cond.eq (.elem (n_v i) (.int (Int32.ofNat j))) (.int ((gj_sb.getD i []).getD j 0)))) = true := by decide +kernel
set_option maxRecDepth 100000 in
theorem n_ne : ((List.range 9).all fun i => (List.range 9).all fun j => decide (i = j) || n_ok (n_il [[0, 156, 175, 193, 214, 236, 259, 281, 306], [156, 0, 176, 194, 215, 237, 260, 282, 307], [175, 176, 0, 195, 216, 238, 261, 283, 308], [193, 194, 195, 0, 217, 239, 262, 284, 309], [214, 215, 216, 217, 0, 240, 263, 285, 310], [236, 237, 238, 239, 240, 0, 264, 286, 311], [259, 260, 261, 262, 263, 264, 0, 287, 312], [281, 282, 283, 284, 285, 286, 287, 0, 313], [306, 307, 308, 309, 310, 311, 312, 313, 0]] i j) (Cond.not (Cond.eq (n_t (min i j)) (n_t (max i j))))) = true := by decide +kernel
set_option maxRecDepth 100000 in
theorem n_st : ((List.range 9).all fun i => n_tk (n_i [486, 552, 553, 554, 555, 556, 557, 558, 559] i) (Cond.stringRef RX6 (gj_s6.getD i 0) (gj_st.getD i "")) && n_tk (n_i [1133, 1134, 1135, 1136, 1137, 1138, 1139, 1140, 1141] i) (Cond.stringRef RX12 (gj_s12.getD i 0) (gj_st.getD i ""))) = true := by decide +kernel
set_option maxRecDepth 100000 in
theorem n_zz : (n_ok 4 (Cond.eq (.static "java/lang/String" "COMPACT_STRINGS" "Z") (.int 1)) && (n_ok 5 (Cond.isRef (.static "jdk/internal/util/Preconditions" "SIOOBE_FORMATTER" "Ljava/util/function/BiFunction;")) && (n_tk 500 (Cond.laysStatic "java/lang/String" "COMPACT_STRINGS" "Z") && (n_tk 516 (Cond.laysStatic "jdk/internal/util/Preconditions" "SIOOBE_FORMATTER" "Ljava/util/function/BiFunction;") && (n_tk 13 (Cond.initialized "java/lang/String") && n_tk 15 (Cond.initialized "jdk/internal/util/Preconditions")))))) = true := by decide +kernel
set_option maxRecDepth 100000 in
theorem n_ar : (n_tk 40 (Cond.arrayClass .int) && (n_tk 178 (Cond.arrayClass .long) && (n_tk 636 (Cond.arrayClass .byte) && (n_tk 179 (Cond.arrayClass .boolean) && (n_tk 377 (Cond.arrayOver (.object "MayGreen$Life")) && (n_tk 1132 (Cond.arrayOver (.object "java/lang/String")) && n_tk 1130 (Cond.arrayOver (.array .int)))))))) = true := by decide +kernel
set_option maxRecDepth 100000 in
theorem n_in : ((List.range 11).all fun i => n_tk (n_i [339, 187, 309, 181, 269, 42, 142, 356, 28, 20, 1124] i) (Cond.instantiable (vwCl.getD i (RX0, TX0, 3)).1 (vwCl.getD i (RX0, TX0, 3)).2.2)) = true := by decide +kernel
set_option maxRecDepth 100000 in
theorem n_ns : (gj_nest.all fun q => ([29, 43, 188].any fun i => n_tk i (Cond.methodLinkNest q.1 q.2.1 q.2.2.1 q.2.2.2))) = true := by decide +kernel
theorem n_ov {args : Array Value} {first s : State} {o : Option Outcome} {idx : List Nat} {t : FieldType} (h : (Cond.arrayOver (.array t)).holds args first o s idx = true) :
    ∃ comp c k, s.vm.classes[c]? = some k ∧ k.kind = .array comp (.array t) ∧ s.vm.findClass ("[" ++ (FieldType.array t).toString) = some c := by
  simp only [Cond.holds, Cond.value, beq_iff_eq] at h
  cases hc : s.vm.findClass (FieldType.array t).toString with
  | none => simp [hc] at h
  | some comp =>
    simp only [hc, Option.bind_some, Option.bind_eq_some_iff, Option.map_eq_some_iff] at h
    obtain ⟨c, hi, k, hk, hb⟩ := h
    cases hkind : k.kind with
    | array component ty =>
      rw [hkind] at hb
      simp at hb
      exact ⟨component, c, k, hk, by rw [hkind, hb.1], hb.2⟩
    | _ => rw [hkind] at hb; simp at hb
theorem n_prim {args : Array Value} {s : State} {t : FieldType} (ht : t = .int ∨ t = .long ∨ t = .byte ∨ t = .boolean) (h : (Cond.arrayClass t).before args s = true) : ∃ c, ArrOfT s c t ∧ va_RA s c t := by
  obtain ⟨c, k, comp, h1, h2, h3⟩ := Cond.arrayClass_spec h
  refine ⟨c, fun n z => ⟨fun k h => (by cases h), k, h2, comp, h3⟩, ?_⟩
  rcases ht with rfl | rfl | rfl | rfl <;> exact h1
theorem n_obj {args : Array Value} {s : State} {C : String} (h : (Cond.arrayOver (.object C)).before args s = true) : ∃ c, ArrOfT s c (.object C) ∧ va_RA s c (.object C) := by
  obtain ⟨comp, c, k, h1, -, h3, h4, h5⟩ := Cond.arrayOver_spec h
  exact ⟨c, fun n z => ⟨fun k h => (by cases h), k, h3, comp, h4⟩, k, comp, h3, h4, h1, h5⟩
theorem n_arr {args : Array Value} {s : State} (h : (Cond.arrayOver (.array .int)).before args s = true) : ∃ c, ArrOfT s c (.array .int) ∧ va_RA s c (.array .int) := by
  obtain ⟨comp, c, k, h3, h4, h5⟩ := n_ov h
  exact ⟨c, fun n z => ⟨fun k h => (by cases h), k, h3, comp, h4⟩, h5⟩
/-- no object yet -/
def n_S0 : gj_S := (0, fun _ => (99, 0), fun _ _ => -1)
def n_M0 : gj_M := fun _ _ => 0
theorem n_K {s : State} {b L : Nat} {xs : Nat → Int32} {args : Array Value} (hL : L < 2147483648) (hts : ∀ w ∈ lw_tbl, w.before args s = true) (hX : va_X b L xs s s.heap) (hb : b < s.heap.size) (hgv : n_C.before args s = true) :
    ∃ G : gj_G, gj_K G s ∧ gj_H G = s.heap ∧ gj_b G = b ∧ gj_n G = L ∧ gj_x G = xs := by
  have hT : ∀ w ∈ tables_1, w.before args s = true := fun w h => hts w (List.mem_append_right _ h)
  have hN : ∀ w ∈ n_L, w.before args s = true := flat_of_before _ hgv
  have hA : ∀ a : Nat, a < s.heap.size → ¬ (fun q : Nat => s.heap.size ≤ q) a := fun a h => Nat.not_le.mpr h
  have e1 := List.all_eq_true.mp n_ex
  have e2 := List.all_eq_true.mp n_el
  have e3 := List.all_eq_true.mp n_ne
  have e4 := List.all_eq_true.mp n_st
  simp only [Bool.and_eq_true, List.mem_range] at e1 e4
  have z := n_zz
  have ar := n_ar
  simp only [Bool.and_eq_true] at z ar
  obtain ⟨aK, aV, hS, hev⟩ := vk_Sof (s := s) (args := args) (N := 9) (tm := n_t) (len := gj_sl) (byt := gj_sb) (A := fun q : Nat => s.heap.size ≤ q) (by decide) (fun i hi => hN _ (n_ok_in (e1 i hi).1)) (fun i hi => hN _ (n_ok_in (e1 i hi).2.1)) (fun i hi => hN _ (n_ok_in (e1 i hi).2.2.1)) (fun i hi => hN _ (n_ok_in (e1 i hi).2.2.2.1))
    (fun i hi j hj => hN _ (n_ok_in (List.all_eq_true.mp (e2 i (List.mem_range.mpr hi)) j (List.mem_range.mpr hj))))
    (fun i j hi hj hne => by
      have h := List.all_eq_true.mp (e3 i (List.mem_range.mpr hi)) j (List.mem_range.mpr hj)
      rw [Bool.or_eq_true, decide_eq_true_eq] at h
      rcases h with h | h
      · exact absurd h hne
      · have h2 := hN _ (n_ok_in h)
        rcases Nat.le_total i j with q | q
        · rw [Nat.min_eq_left q, Nat.max_eq_right q] at h2
          exact Or.inl h2
        · rw [Nat.min_eq_right q, Nat.max_eq_left q] at h2
          exact Or.inr h2) hA
  have ec := List.all_eq_true.mp n_in
  obtain ⟨dC, dI, hKc⟩ : ∃ (dC : Nat → ClassId) (dI : Nat → Nat → Nat), ∀ (k : Nat) (q : vw_C), vwCl[k]? = some q → u_Kn s q.1 q.2.1 q.2.2 (dC k) (dI k) := by
    have hk : ∀ k : Nat, ∃ x : ClassId × (Nat → Nat), ∀ q : vw_C, vwCl[k]? = some q → u_Kn s q.1 q.2.1 q.2.2 x.1 x.2 := by
      intro k
      cases hq : vwCl[k]? with
      | none => exact ⟨(0, fun _ => 0), fun q h => by cases h⟩
      | some r =>
        obtain ⟨c, i, h⟩ := u_known (C := r.1) (T := r.2.1) (N := r.2.2) (n := r.2.2) hts (fun w hw => (List.mem_filter.mp ((gj_cls hq).1 w hw)).1) (hT _ (by have h5 := n_tk_in (ec k (List.mem_range.mpr (List.getElem?_eq_some_iff.mp hq).1)); rw [List.getD_eq_getElem?_getD, hq] at h5; exact h5))
        exact ⟨(c, i), fun q h => by cases h; exact h⟩
    exact ⟨fun k => (hk k).choose.1, fun k => (hk k).choose.2, fun k q h => (hk k).choose_spec q h⟩
  obtain ⟨c0, p0⟩ := n_prim (Or.inl rfl) (hT _ (n_tk_in ar.1))
  obtain ⟨c1, p1⟩ := n_prim (Or.inr (Or.inl rfl)) (hT _ (n_tk_in ar.2.1))
  obtain ⟨c2, p2⟩ := n_prim (Or.inr (Or.inr (Or.inl rfl))) (hT _ (n_tk_in ar.2.2.1))
  obtain ⟨c3, p3⟩ := n_prim (Or.inr (Or.inr (Or.inr rfl))) (hT _ (n_tk_in ar.2.2.2.1))
  obtain ⟨c4, p4⟩ := n_obj (hT _ (n_tk_in ar.2.2.2.2.1))
  obtain ⟨c5, p5⟩ := n_obj (hT _ (n_tk_in ar.2.2.2.2.2.1))
  obtain ⟨c6, p6⟩ := n_arr (hT _ (n_tk_in ar.2.2.2.2.2.2))
  have hcz := va_Zof (A := fun q : Nat => s.heap.size ≤ q) (hT _ (n_tk_in z.2.2.1)) (hT _ (n_tk_in z.2.2.2.2.1)) (va_eqt (hN _ (n_ok_in z.1))) hA
  obtain ⟨v, hv, hvr⟩ := Cond.isRef_spec (hN _ (n_ok_in z.2.1))
  have hfz := va_Zof (A := fun q : Nat => s.heap.size ≤ q) (hT _ (n_tk_in z.2.2.2.1)) (hT _ (n_tk_in z.2.2.2.2.2)) hv hA
  let cA : Nat → ClassId := fun k => if k = 0 then c0 else if k = 1 then c1 else if k = 2 then c2 else if k = 3 then c3 else if k = 4 then c4 else if k = 5 then c5 else c6
  have en := List.all_eq_true.mp n_ns
  have key : ∀ f : Nat, gj_rv (((dC, dI), cA, aK, aV, s.heap, b, L, xs, f) : gj_G) (gj_g (((dC, dI), cA, aK, aV, s.heap, b, L, xs, f) : gj_G)) = v → ∃ G : gj_G, gj_K G s ∧ gj_H G = s.heap ∧ gj_b G = b ∧ gj_n G = L ∧ gj_x G = xs := by
    intro f hf
    refine ⟨((dC, dI), cA, aK, aV, s.heap, b, L, xs, f), ⟨⟨hKc, fun k q hq => ?_⟩, fun i hi => ⟨?_, ?_⟩, hS, hcz, ?_, hX, hb, hL, va_AO.of (hT _ (n_tk_in ar.2.2.2.2.1)), va_AO.of (hT _ (n_tk_in ar.2.2.2.2.2.1)), ?_, fun q hq => va_Nw.of rfl (by obtain ⟨i, -, hi⟩ := List.any_eq_true.mp (en q hq); exact hT _ (n_tk_in hi))⟩, rfl, rfl, rfl, rfl⟩
    · match k, hq with
      | 0, hq => cases hq; exact p0
      | 1, hq => cases hq; exact p1
      | 2, hq => cases hq; exact p2
      | 3, hq => cases hq; exact p3
      | 4, hq => cases hq; exact p4
      | 5, hq => cases hq; exact p5
      | 6, hq => cases hq; exact p6
      | k + 7, hq => simp [gj_tys] at hq
    · exact vk_R.of (hT _ (n_tk_in (e4 i hi).1)) (Cond.eq_refs (hN _ (n_ok_in (e1 i hi).2.2.2.2)) (hev i hi) rfl)
    · exact vk_R.of (hT _ (n_tk_in (e4 i hi).2)) (hev i hi)
    · rw [hf]
      exact hfz
    · exact hT _ (n_tk_in ar.2.2.2.2.2.2)
  cases v with
  | null => exact key 0 rfl
  | ref t => exact key (t + 1) rfl
  | _ => cases hvr
theorem n_R {G : gj_G} {s : State} (h : gj_H G = s.heap) : gj_R G n_S0 n_M0 s.heap := by
  refine ⟨by unfold gj_base; rw [h]; rfl, fun q _ => by rw [h], fun o ho => absurd ho (by show ¬ ((o : Int) < 0); omega), ⟨by decide, fun z _ => rfl, fun z => ⟨by show (0 : Int) ≤ 0; decide, by show (0 : Int) < 2147483648; decide⟩⟩, fun o i => gj_okx_0 _⟩
