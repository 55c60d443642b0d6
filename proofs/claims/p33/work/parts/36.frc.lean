/-! FRAMES: what an F leaves as it was -/
def gj_fp (os : List Int) (ps : List (Int × Int)) (z i : Int) : Bool := os.contains z || ps.contains (z, i)
def gj_Fr (os : List Int) (ps : List (Int × Int)) (M M' : gj_M) : Prop := ∀ z i : Int, z < 136 → gj_fp os ps z i = false → M' z i = M z i
def gj_FO {R : Type} (pi : R → gj_M) (os : List Int) (ps : List (Int × Int)) (M : gj_M) (x : Option R) : Prop := ∀ r, x = some r → gj_Fr os ps M (pi r)
section GJFRM
variable {R : Type} {pi : R → gj_M} {os : List Int} {ps : List (Int × Int)} {M0 : gj_M}
theorem gj_Fr.rf {M : gj_M} : gj_Fr os ps M M := fun _ _ _ _ => rfl
theorem gj_Fr.trans {M M' : gj_M} (h : gj_Fr os ps M0 M) (h' : gj_Fr os ps M M') : gj_Fr os ps M0 M' := fun z i a b => (h' z i a b).trans (h z i a b)
def gj_fsub (os os' : List Int) (ps ps' : List (Int × Int)) : Bool := os.all (fun z => os'.contains z) && ps.all (fun q => os'.contains q.1 || ps'.contains q)
theorem gj_fsub_in {os' : List Int} {ps' : List (Int × Int)} (h : gj_fsub os os' ps ps' = true) {z i : Int} (hz : gj_fp os' ps' z i = false) : gj_fp os ps z i = false := by
  unfold gj_fsub at h
  unfold gj_fp at *
  rw [Bool.and_eq_true] at h
  rw [Bool.or_eq_false_iff] at *
  refine ⟨?_, ?_⟩
  · rw [← Bool.not_eq_true]
    intro q
    have h1 := List.all_eq_true.mp h.1 z (List.elem_iff.mp q)
    rw [hz.1] at h1
    cases h1
  · rw [← Bool.not_eq_true]
    intro q
    have h1 := List.all_eq_true.mp h.2 (z, i) (List.elem_iff.mp q)
    rw [hz.1, hz.2] at h1
    cases h1
theorem gj_Fr.wide {os' : List Int} {ps' : List (Int × Int)} {M M' : gj_M} (h : gj_Fr os ps M M') (hc : gj_fsub os os' ps ps' = true) : gj_Fr os' ps' M M' := fun z i a b => h z i a (gj_fsub_in hc b)
theorem gj_fpz {z a b : Int} (h : os.contains z = true) (h2 : gj_fp os ps a b = false) : a ≠ z := by
  intro e
  subst e
  unfold gj_fp at h2
  rw [h] at h2
  cases h2
theorem gj_Fr.up {M : gj_M} {z i v : Int} (h : gj_Fr os ps M0 M) (hz : (os.contains z || ps.contains (z, i)) = true) : gj_Fr os ps M0 (gj_up M z i v) := by
  intro a b h1 h2
  have : ¬ (a = z ∧ b = i) := by
    rintro ⟨rfl, rfl⟩
    unfold gj_fp at h2
    rw [hz] at h2
    cases h2
  exact (if_neg this).trans (h a b h1 h2)
theorem gj_Fr.put {M : gj_M} {z n i v : Int} (h : gj_Fr os ps M0 M) (hz : os.contains z = true) : gj_Fr os ps M0 (f_put M z n i v) := by
  unfold f_put
  split
  · exact h.up (by rw [hz]; rfl)
  · exact h
theorem gj_Fr.fill {M : gj_M} {z n v : Int} (h : gj_Fr os ps M0 M) (hz : os.contains z = true) : gj_Fr os ps M0 (f_fill M z n v) := fun a b h1 h2 => (if_neg (fun q => gj_fpz hz h2 q.1)).trans (h a b h1 h2)
theorem gj_Fr.copy {M : gj_M} {z n w m : Int} (h : gj_Fr os ps M0 M) (hz : os.contains w = true) : gj_Fr os ps M0 (f_copy M z n w m) := fun a b h1 h2 => (if_neg (fun q => gj_fpz hz h2 q.1)).trans (h a b h1 h2)
theorem gj_Fr.nMc {M : gj_M} {c : Int} (h : gj_Fr os ps M0 M) (hc : 136 ≤ c) : gj_Fr os ps M0 (gj_nMc c M) := fun a b h1 h2 => (if_neg (by omega)).trans (h a b h1 h2)
theorem gj_Fr.upN {M : gj_M} {z i v : Int} (h : gj_Fr os ps M0 M) (hz : 136 ≤ z) : gj_Fr os ps M0 (gj_up M z i v) := fun a b h1 h2 => (if_neg (by omega)).trans (h a b h1 h2)
theorem gj_FOu {r : R} {x : Option R} (h : gj_FO pi os ps M0 x) (e : x = some r) : gj_Fr os ps M0 (pi r) := h r e
theorem fo_some {r : R} (h : gj_Fr os ps M0 (pi r)) : gj_FO pi os ps M0 (some r) := fun r' e => by cases e; exact h
theorem fo_none : gj_FO pi os ps M0 none := fun r' e => by cases e
theorem fo_ite {c : Prop} [Decidable c] {x y : Option R} (hx : gj_FO pi os ps M0 x) (hy : gj_FO pi os ps M0 y) : gj_FO pi os ps M0 (if c then x else y) := by split <;> assumption
theorem fo_chk {c : Prop} [Decidable c] {x : Option R} (hx : gj_FO pi os ps M0 x) : gj_FO pi os ps M0 (gj_chk c x) := fun r e => hx r (gj_ckd e).2
theorem fo_let {A : gj_M} {f : gj_M → Option R} (hA : gj_Fr os ps M0 A) (hf : ∀ M1, gj_Fr os ps M0 M1 → gj_FO pi os ps M0 (f M1)) : gj_FO pi os ps M0 (gj_let A f) := hf A hA
theorem fo_letI {v : Int} {f : Int → Option R} (hf : ∀ x, gj_FO pi os ps M0 (f x)) : gj_FO pi os ps M0 (gj_letI v f) := hf v
theorem fo_let2 {p : Int × gj_M} {f : Int → gj_M → Option R} (hA : gj_Fr os ps M0 p.2) (hf : ∀ x M1, gj_Fr os ps M0 M1 → gj_FO pi os ps M0 (f x M1)) : gj_FO pi os ps M0 (gj_let2 p f) := hf _ _ hA
theorem fo_bnd {a : Option Int} {f : Int → Option R} (hf : ∀ x, gj_FO pi os ps M0 (f x)) : gj_FO pi os ps M0 (gj_bnd a f) := fun r e => by obtain ⟨x, -, h⟩ := gj_bndd e; exact hf x r h
theorem fo_bndM {a : Option gj_M} {f : gj_M → Option R} (hA : ∀ m, a = some m → gj_Fr os ps M0 m) (hf : ∀ M1, gj_Fr os ps M0 M1 → gj_FO pi os ps M0 (f M1)) : gj_FO pi os ps M0 (gj_bnd a f) := fun r e => by obtain ⟨x, h1, h⟩ := gj_bndd e; exact hf x (hA x h1) r h
theorem fo_bnd2 {a : Option (Int × gj_M)} {f : Int → gj_M → Option R} (hA : ∀ x m, a = some (x, m) → gj_Fr os ps M0 m) (hf : ∀ x M1, gj_Fr os ps M0 M1 → gj_FO pi os ps M0 (f x M1)) : gj_FO pi os ps M0 (gj_bnd2 a f) := fun r e => by obtain ⟨x, m, h1, h⟩ := gj_bnd2d e; exact hf x m (hA x m h1) r h
theorem fo_bnd3 {a : Option (Int × (Int × gj_M))} {f : Int → Int → gj_M → Option R} (hA : ∀ x c m, a = some (x, (c, m)) → 136 ≤ c ∧ gj_Fr os ps M0 m) (hf : ∀ x c M1, 136 ≤ c → gj_Fr os ps M0 M1 → gj_FO pi os ps M0 (f x c M1)) : gj_FO pi os ps M0 (gj_bnd3 a f) := fun r e => by obtain ⟨x, c, m, h1, h⟩ := gj_bnd3d e; exact hf x c m (hA x c m h1).1 (hA x c m h1).2 r h
end GJFRM
section GJFRT
variable {R : Type} {pi : R → gj_M} {os : List Int} {ps : List (Int × Int)} {M0 : gj_M}
theorem fo_tr {M1 : gj_M} {x : Option R} (h : gj_Fr os ps M0 M1) (hx : gj_FO pi os ps M1 x) : gj_FO pi os ps M0 x := fun r e => h.trans (hx r e)
theorem ft_ite {c : Prop} [Decidable c] {x y : gj_M} (hx : gj_Fr os ps M0 x) (hy : gj_Fr os ps M0 y) : gj_Fr os ps M0 (if c then x else y) := by split <;> assumption
theorem ft_let {A : gj_M} {f : gj_M → gj_M} (hA : gj_Fr os ps M0 A) (hf : ∀ M1, gj_Fr os ps M0 M1 → gj_Fr os ps M0 (f M1)) : gj_Fr os ps M0 (gj_let A f) := hf A hA
theorem ft_letI {v : Int} {f : Int → gj_M} (hf : ∀ x, gj_Fr os ps M0 (f x)) : gj_Fr os ps M0 (gj_letI v f) := hf v
theorem ft_let2 {p : Int × gj_M} {f : Int → gj_M → gj_M} (hA : gj_Fr os ps M0 p.2) (hf : ∀ x M1, gj_Fr os ps M0 M1 → gj_Fr os ps M0 (f x M1)) : gj_Fr os ps M0 (gj_let2 p f) := hf _ _ hA
theorem fu_ite {c : Prop} [Decidable c] {x y : Int × gj_M} (hx : gj_Fr os ps M0 x.2) (hy : gj_Fr os ps M0 y.2) : gj_Fr os ps M0 (if c then x else y).2 := by split <;> assumption
theorem fu_let {A : gj_M} {f : gj_M → Int × gj_M} (hA : gj_Fr os ps M0 A) (hf : ∀ M1, gj_Fr os ps M0 M1 → gj_Fr os ps M0 (f M1).2) : gj_Fr os ps M0 (gj_let A f).2 := hf A hA
theorem fu_letI {v : Int} {f : Int → Int × gj_M} (hf : ∀ x, gj_Fr os ps M0 (f x).2) : gj_Fr os ps M0 (gj_letI v f).2 := hf v
theorem fu_let2 {p : Int × gj_M} {f : Int → gj_M → Int × gj_M} (hA : gj_Fr os ps M0 p.2) (hf : ∀ x M1, gj_Fr os ps M0 M1 → gj_Fr os ps M0 (f x M1).2) : gj_Fr os ps M0 (gj_let2 p f).2 := hf _ _ hA
theorem fu_mk {v : Int} {M : gj_M} (h : gj_Fr os ps M0 M) : gj_Fr os ps M0 (v, M).2 := h
end GJFRT
section GJFC2
variable {G : gj_G} {l : Launch} {S : gj_S}
set_option maxHeartbeats 600000 in
theorem fr_X11_refuse (a1 : Int) {M : gj_M} : gj_Fr [78] [] M (f_X11_refuse a1 M).2 := by
  unfold f_X11_refuse
  have hM : gj_Fr [78] [] M M := gj_Fr.rf
  repeat' first
    | with_reducible assumption
    | with_reducible exact gj_Fr.rf
    | with_reducible refine ft_ite ?_ ?_
    | with_reducible refine ft_let ?_ (fun _ _ => ?_)
    | with_reducible refine ft_letI (fun _ => ?_)
    | with_reducible refine ft_let2 ?_ (fun _ _ _ => ?_)
    | with_reducible refine fu_ite ?_ ?_
    | with_reducible refine fu_let ?_ (fun _ _ => ?_)
    | with_reducible refine fu_letI (fun _ => ?_)
    | with_reducible refine fu_let2 ?_ (fun _ _ _ => ?_)
    | (with_reducible refine gj_Fr.up ?_ ?_; rotate_left; · first | decide +kernel | rfl | simp)
    | (with_reducible refine gj_Fr.put ?_ ?_; rotate_left; · first | decide +kernel | rfl | simp)
    | (with_reducible refine gj_Fr.fill ?_ ?_; rotate_left; · first | decide +kernel | rfl | simp)
    | (with_reducible refine gj_Fr.copy ?_ ?_; rotate_left; · first | decide +kernel | rfl | simp)

set_option maxHeartbeats 600000 in
theorem fr_J_X9_append_47 {rec3 : Int → Int → gj_M → Option (gj_M)} (hrec3 : ∀ (l1 l2 : Int) (M : gj_M), gj_FO (fun m => m) [2] [(1, 1)] M (rec3 l1 l2 M)) (l1 l2 : Int) (M : gj_M) : gj_FO (fun m => m) [2] [(1, 1)] M (J_X9_append_47 rec3 l1 l2 M) := by
  unfold J_X9_append_47
  have hM : gj_Fr [2] [(1, 1)] M M := gj_Fr.rf
  repeat' first
    | with_reducible assumption
    | with_reducible exact gj_Fr.rf
    | with_reducible exact fo_none
    | with_reducible refine fo_some ?_
    | with_reducible refine fo_ite ?_ ?_
    | with_reducible refine fo_chk ?_
    | with_reducible refine fo_let ?_ (fun _ _ => ?_)
    | with_reducible refine fo_letI (fun _ => ?_)
    | with_reducible refine fo_let2 ?_ (fun _ _ _ => ?_)
    | with_reducible refine fo_bndM (fun _ _ => ?_) (fun _ _ => ?_)
    | with_reducible refine fo_bnd (fun _ => ?_)
    | with_reducible refine fo_bnd2 (fun _ _ _ => ?_) (fun _ _ _ => ?_)
    | (with_reducible refine gj_Fr.up ?_ ?_; rotate_left; · first | decide +kernel | rfl | simp)
    | (with_reducible refine gj_Fr.put ?_ ?_; rotate_left; · first | decide +kernel | rfl | simp)
    | (with_reducible refine gj_Fr.fill ?_ ?_; rotate_left; · first | decide +kernel | rfl | simp)
    | (with_reducible refine gj_Fr.copy ?_ ?_; rotate_left; · first | decide +kernel | rfl | simp)
    | with_reducible exact fo_tr (by with_reducible assumption) (hrec3 _ _ _)

set_option maxHeartbeats 600000 in
theorem fr_B_X9_append_3 {rec3 : Int → Int → gj_M → Option (gj_M)} (hrec3 : ∀ (l1 l2 : Int) (M : gj_M), gj_FO (fun m => m) [2] [(1, 1)] M (rec3 l1 l2 M)) (l1 l2 : Int) (M : gj_M) : gj_FO (fun m => m) [2] [(1, 1)] M (B_X9_append_3 rec3 l1 l2 M) := by
  unfold B_X9_append_3
  have hM : gj_Fr [2] [(1, 1)] M M := gj_Fr.rf
  repeat' first
    | with_reducible assumption
    | with_reducible exact gj_Fr.rf
    | with_reducible exact fo_none
    | with_reducible refine fo_some ?_
    | with_reducible refine fo_ite ?_ ?_
    | with_reducible refine fo_chk ?_
    | with_reducible refine fo_let ?_ (fun _ _ => ?_)
    | with_reducible refine fo_letI (fun _ => ?_)
    | with_reducible refine fo_let2 ?_ (fun _ _ _ => ?_)
    | with_reducible refine fo_bndM (fun _ _ => ?_) (fun _ _ => ?_)
    | with_reducible refine fo_bnd (fun _ => ?_)
    | with_reducible refine fo_bnd2 (fun _ _ _ => ?_) (fun _ _ _ => ?_)
    | (with_reducible refine gj_Fr.up ?_ ?_; rotate_left; · first | decide +kernel | rfl | simp)
    | (with_reducible refine gj_Fr.put ?_ ?_; rotate_left; · first | decide +kernel | rfl | simp)
    | (with_reducible refine gj_Fr.fill ?_ ?_; rotate_left; · first | decide +kernel | rfl | simp)
    | (with_reducible refine gj_Fr.copy ?_ ?_; rotate_left; · first | decide +kernel | rfl | simp)
    | with_reducible exact fo_tr (by with_reducible assumption) (fr_J_X9_append_47 hrec3 _ _ _)
    | with_reducible exact fo_tr (by with_reducible assumption) (hrec3 _ _ _)

theorem frL_X9_append_3 : ∀ (m : Nat) (l1 l2 : Int) (M : gj_M), gj_FO (fun m => m) [2] [(1, 1)] M (gj_it (fun _ _ _ => none) (B_X9_append_3) m l1 l2 M)
  | 0, l1, l2, M => fun r e => by cases (show (none : Option (gj_M)) = some r from e)
  | m + 1, l1, l2, M => fr_B_X9_append_3 (fun l1 l2 M => frL_X9_append_3 m l1 l2 M) l1 l2 M
set_option maxHeartbeats 600000 in
theorem fr_X9_append (a1 : Int) {M : gj_M} : gj_FO (fun m => m) [2] [(1, 1)] M (F_X9_append a1 M) := by
  unfold F_X9_append
  have hM : gj_Fr [2] [(1, 1)] M M := gj_Fr.rf
  repeat' first
    | with_reducible assumption
    | with_reducible exact gj_Fr.rf
    | with_reducible exact fo_none
    | with_reducible refine fo_some ?_
    | with_reducible refine fo_ite ?_ ?_
    | with_reducible refine fo_chk ?_
    | with_reducible refine fo_let ?_ (fun _ _ => ?_)
    | with_reducible refine fo_letI (fun _ => ?_)
    | with_reducible refine fo_let2 ?_ (fun _ _ _ => ?_)
    | with_reducible refine fo_bndM (fun _ _ => ?_) (fun _ _ => ?_)
    | with_reducible refine fo_bnd (fun _ => ?_)
    | with_reducible refine fo_bnd2 (fun _ _ _ => ?_) (fun _ _ _ => ?_)
    | (with_reducible refine gj_Fr.up ?_ ?_; rotate_left; · first | decide +kernel | rfl | simp)
    | (with_reducible refine gj_Fr.put ?_ ?_; rotate_left; · first | decide +kernel | rfl | simp)
    | (with_reducible refine gj_Fr.fill ?_ ?_; rotate_left; · first | decide +kernel | rfl | simp)
    | (with_reducible refine gj_Fr.copy ?_ ?_; rotate_left; · first | decide +kernel | rfl | simp)
    | with_reducible exact fo_tr (by with_reducible assumption) (frL_X9_append_3 _ _ _ _)

set_option maxHeartbeats 600000 in
theorem fr_X11_feed (a1 : Int) (a2 : Int) (a3 : Int) (a4 : Int) (a5 : Int) {M : gj_M} : gj_FO Prod.snd [2, 78] [(1, 1)] M (F_X11_feed a1 a2 a3 a4 a5 M) := by
  unfold F_X11_feed
  have hM : gj_Fr [2, 78] [(1, 1)] M M := gj_Fr.rf
  repeat' first
    | with_reducible assumption
    | with_reducible exact gj_Fr.rf
    | with_reducible exact fo_none
    | with_reducible refine fo_some ?_
    | with_reducible refine fo_ite ?_ ?_
    | with_reducible refine fo_chk ?_
    | with_reducible refine fo_let ?_ (fun _ _ => ?_)
    | with_reducible refine fo_letI (fun _ => ?_)
    | with_reducible refine fo_let2 ?_ (fun _ _ _ => ?_)
    | with_reducible refine fo_bndM (fun _ _ => ?_) (fun _ _ => ?_)
    | with_reducible refine fo_bnd (fun _ => ?_)
    | with_reducible refine fo_bnd2 (fun _ _ _ => ?_) (fun _ _ _ => ?_)
    | (with_reducible refine gj_Fr.up ?_ ?_; rotate_left; · first | decide +kernel | rfl | simp)
    | (with_reducible refine gj_Fr.put ?_ ?_; rotate_left; · first | decide +kernel | rfl | simp)
    | (with_reducible refine gj_Fr.fill ?_ ?_; rotate_left; · first | decide +kernel | rfl | simp)
    | (with_reducible refine gj_Fr.copy ?_ ?_; rotate_left; · first | decide +kernel | rfl | simp)
    | (with_reducible refine gj_Fr.trans ?_ (gj_Fr.wide (gj_FOu (fr_X9_append _) (by with_reducible assumption)) ?_); rotate_left; · first | decide +kernel | simp [gj_fsub])
    | (with_reducible refine gj_Fr.trans ?_ (gj_Fr.wide (fr_X11_refuse _) ?_); rotate_left; · first | decide +kernel | simp [gj_fsub])

set_option maxHeartbeats 600000 in
theorem fr_X9_cutTo (a1 : Int) {M : gj_M} : gj_Fr [] [(1, 1)] M (f_X9_cutTo a1 M) := by
  unfold f_X9_cutTo
  have hM : gj_Fr [] [(1, 1)] M M := gj_Fr.rf
  repeat' first
    | with_reducible assumption
    | with_reducible exact gj_Fr.rf
    | with_reducible refine ft_ite ?_ ?_
    | with_reducible refine ft_let ?_ (fun _ _ => ?_)
    | with_reducible refine ft_letI (fun _ => ?_)
    | with_reducible refine ft_let2 ?_ (fun _ _ _ => ?_)
    | with_reducible refine fu_ite ?_ ?_
    | with_reducible refine fu_let ?_ (fun _ _ => ?_)
    | with_reducible refine fu_letI (fun _ => ?_)
    | with_reducible refine fu_let2 ?_ (fun _ _ _ => ?_)
    | (with_reducible refine gj_Fr.up ?_ ?_; rotate_left; · first | decide +kernel | rfl | simp)
    | (with_reducible refine gj_Fr.put ?_ ?_; rotate_left; · first | decide +kernel | rfl | simp)
    | (with_reducible refine gj_Fr.fill ?_ ?_; rotate_left; · first | decide +kernel | rfl | simp)
    | (with_reducible refine gj_Fr.copy ?_ ?_; rotate_left; · first | decide +kernel | rfl | simp)

set_option maxHeartbeats 600000 in
theorem fr_X11_end (a1 : Int) {M : gj_M} : gj_Fr [78] [(1, 1)] M (f_X11_end a1 M).2 := by
  unfold f_X11_end
  have hM : gj_Fr [78] [(1, 1)] M M := gj_Fr.rf
  repeat' first
    | with_reducible assumption
    | with_reducible exact gj_Fr.rf
    | with_reducible refine ft_ite ?_ ?_
    | with_reducible refine ft_let ?_ (fun _ _ => ?_)
    | with_reducible refine ft_letI (fun _ => ?_)
    | with_reducible refine ft_let2 ?_ (fun _ _ _ => ?_)
    | with_reducible refine fu_ite ?_ ?_
    | with_reducible refine fu_let ?_ (fun _ _ => ?_)
    | with_reducible refine fu_letI (fun _ => ?_)
    | with_reducible refine fu_let2 ?_ (fun _ _ _ => ?_)
    | (with_reducible refine gj_Fr.up ?_ ?_; rotate_left; · first | decide +kernel | rfl | simp)
    | (with_reducible refine gj_Fr.put ?_ ?_; rotate_left; · first | decide +kernel | rfl | simp)
    | (with_reducible refine gj_Fr.fill ?_ ?_; rotate_left; · first | decide +kernel | rfl | simp)
    | (with_reducible refine gj_Fr.copy ?_ ?_; rotate_left; · first | decide +kernel | rfl | simp)
    | (with_reducible refine gj_Fr.trans ?_ (gj_Fr.wide (fr_X9_cutTo _) ?_); rotate_left; · first | decide +kernel | simp [gj_fsub])
    | (with_reducible refine gj_Fr.trans ?_ (gj_Fr.wide (fr_X11_refuse _) ?_); rotate_left; · first | decide +kernel | simp [gj_fsub])

set_option maxHeartbeats 600000 in
theorem fr_X5_clear {M : gj_M} : gj_Fr [4, 5, 6, 7, 8] [(3, 0), (3, 1), (3, 2), (3, 3), (3, 4), (3, 5), (3, 6), (3, 7), (3, 8), (3, 9)] M (f_X5_clear M) := by
  unfold f_X5_clear
  have hM : gj_Fr [4, 5, 6, 7, 8] [(3, 0), (3, 1), (3, 2), (3, 3), (3, 4), (3, 5), (3, 6), (3, 7), (3, 8), (3, 9)] M M := gj_Fr.rf
  repeat' first
    | with_reducible assumption
    | with_reducible exact gj_Fr.rf
    | with_reducible refine ft_ite ?_ ?_
    | with_reducible refine ft_let ?_ (fun _ _ => ?_)
    | with_reducible refine ft_letI (fun _ => ?_)
    | with_reducible refine ft_let2 ?_ (fun _ _ _ => ?_)
    | with_reducible refine fu_ite ?_ ?_
    | with_reducible refine fu_let ?_ (fun _ _ => ?_)
    | with_reducible refine fu_letI (fun _ => ?_)
    | with_reducible refine fu_let2 ?_ (fun _ _ _ => ?_)
    | (with_reducible refine gj_Fr.up ?_ ?_; rotate_left; · first | decide +kernel | rfl | simp)
    | (with_reducible refine gj_Fr.put ?_ ?_; rotate_left; · first | decide +kernel | rfl | simp)
    | (with_reducible refine gj_Fr.fill ?_ ?_; rotate_left; · first | decide +kernel | rfl | simp)
    | (with_reducible refine gj_Fr.copy ?_ ?_; rotate_left; · first | decide +kernel | rfl | simp)

set_option maxHeartbeats 600000 in
theorem fr_B_X6_scan_110 {rec110 : gj_M → Option (gj_M)} (hrec110 : ∀ (M : gj_M), gj_FO (fun m => m) [] [(10, 6), (10, 7), (10, 8)] M (rec110 M)) (M : gj_M) : gj_FO (fun m => m) [] [(10, 6), (10, 7), (10, 8)] M (B_X6_scan_110 rec110 M) := by
  unfold B_X6_scan_110
  have hM : gj_Fr [] [(10, 6), (10, 7), (10, 8)] M M := gj_Fr.rf
  repeat' first
    | with_reducible assumption
    | with_reducible exact gj_Fr.rf
    | with_reducible exact fo_none
    | with_reducible refine fo_some ?_
    | with_reducible refine fo_ite ?_ ?_
    | with_reducible refine fo_chk ?_
    | with_reducible refine fo_let ?_ (fun _ _ => ?_)
    | with_reducible refine fo_letI (fun _ => ?_)
    | with_reducible refine fo_let2 ?_ (fun _ _ _ => ?_)
    | with_reducible refine fo_bndM (fun _ _ => ?_) (fun _ _ => ?_)
    | with_reducible refine fo_bnd (fun _ => ?_)
    | with_reducible refine fo_bnd2 (fun _ _ _ => ?_) (fun _ _ _ => ?_)
    | (with_reducible refine gj_Fr.up ?_ ?_; rotate_left; · first | decide +kernel | rfl | simp)
    | (with_reducible refine gj_Fr.put ?_ ?_; rotate_left; · first | decide +kernel | rfl | simp)
    | (with_reducible refine gj_Fr.fill ?_ ?_; rotate_left; · first | decide +kernel | rfl | simp)
    | (with_reducible refine gj_Fr.copy ?_ ?_; rotate_left; · first | decide +kernel | rfl | simp)
    | with_reducible exact fo_tr (by with_reducible assumption) (hrec110 _)

theorem frL_X6_scan_110 : ∀ (m : Nat) (M : gj_M), gj_FO (fun m => m) [] [(10, 6), (10, 7), (10, 8)] M (gj_it (fun _ => none) (B_X6_scan_110) m M)
  | 0, M => fun r e => by cases (show (none : Option (gj_M)) = some r from e)
  | m + 1, M => fr_B_X6_scan_110 (fun M => frL_X6_scan_110 m M) M
set_option maxHeartbeats 600000 in
theorem fr_J_X6_scan_91 (s1 : Int) (M : gj_M) : gj_FO (fun m => m) [] [(10, 6), (10, 7), (10, 8)] M (J_X6_scan_91 s1 M) := by
  unfold J_X6_scan_91
  have hM : gj_Fr [] [(10, 6), (10, 7), (10, 8)] M M := gj_Fr.rf
  repeat' first
    | with_reducible assumption
    | with_reducible exact gj_Fr.rf
    | with_reducible exact fo_none
    | with_reducible refine fo_some ?_
    | with_reducible refine fo_ite ?_ ?_
    | with_reducible refine fo_chk ?_
    | with_reducible refine fo_let ?_ (fun _ _ => ?_)
    | with_reducible refine fo_letI (fun _ => ?_)
    | with_reducible refine fo_let2 ?_ (fun _ _ _ => ?_)
    | with_reducible refine fo_bndM (fun _ _ => ?_) (fun _ _ => ?_)
    | with_reducible refine fo_bnd (fun _ => ?_)
    | with_reducible refine fo_bnd2 (fun _ _ _ => ?_) (fun _ _ _ => ?_)
    | (with_reducible refine gj_Fr.up ?_ ?_; rotate_left; · first | decide +kernel | rfl | simp)
    | (with_reducible refine gj_Fr.put ?_ ?_; rotate_left; · first | decide +kernel | rfl | simp)
    | (with_reducible refine gj_Fr.fill ?_ ?_; rotate_left; · first | decide +kernel | rfl | simp)
    | (with_reducible refine gj_Fr.copy ?_ ?_; rotate_left; · first | decide +kernel | rfl | simp)
    | with_reducible exact fo_tr (by with_reducible assumption) (frL_X6_scan_110 _ _)

set_option maxHeartbeats 600000 in
theorem fr_J_X6_scan_52 (M : gj_M) : gj_FO (fun m => m) [] [(10, 6), (10, 7), (10, 8)] M (J_X6_scan_52 M) := by
  unfold J_X6_scan_52
  have hM : gj_Fr [] [(10, 6), (10, 7), (10, 8)] M M := gj_Fr.rf
  repeat' first
    | with_reducible assumption
    | with_reducible exact gj_Fr.rf
    | with_reducible exact fo_none
    | with_reducible refine fo_some ?_
    | with_reducible refine fo_ite ?_ ?_
    | with_reducible refine fo_chk ?_
    | with_reducible refine fo_let ?_ (fun _ _ => ?_)
    | with_reducible refine fo_letI (fun _ => ?_)
    | with_reducible refine fo_let2 ?_ (fun _ _ _ => ?_)
    | with_reducible refine fo_bndM (fun _ _ => ?_) (fun _ _ => ?_)
    | with_reducible refine fo_bnd (fun _ => ?_)
    | with_reducible refine fo_bnd2 (fun _ _ _ => ?_) (fun _ _ _ => ?_)
    | (with_reducible refine gj_Fr.up ?_ ?_; rotate_left; · first | decide +kernel | rfl | simp)
    | (with_reducible refine gj_Fr.put ?_ ?_; rotate_left; · first | decide +kernel | rfl | simp)
    | (with_reducible refine gj_Fr.fill ?_ ?_; rotate_left; · first | decide +kernel | rfl | simp)
    | (with_reducible refine gj_Fr.copy ?_ ?_; rotate_left; · first | decide +kernel | rfl | simp)
    | with_reducible exact fo_tr (by with_reducible assumption) (fr_J_X6_scan_91 _ _)

set_option maxHeartbeats 600000 in
theorem fr_B_X6_scan_8 {rec8 : gj_M → Option (gj_M)} (hrec8 : ∀ (M : gj_M), gj_FO (fun m => m) [] [(10, 6), (10, 7), (10, 8)] M (rec8 M)) (M : gj_M) : gj_FO (fun m => m) [] [(10, 6), (10, 7), (10, 8)] M (B_X6_scan_8 rec8 M) := by
  unfold B_X6_scan_8
  have hM : gj_Fr [] [(10, 6), (10, 7), (10, 8)] M M := gj_Fr.rf
  repeat' first
    | with_reducible assumption
    | with_reducible exact gj_Fr.rf
    | with_reducible exact fo_none
    | with_reducible refine fo_some ?_
    | with_reducible refine fo_ite ?_ ?_
    | with_reducible refine fo_chk ?_
    | with_reducible refine fo_let ?_ (fun _ _ => ?_)
    | with_reducible refine fo_letI (fun _ => ?_)
    | with_reducible refine fo_let2 ?_ (fun _ _ _ => ?_)
    | with_reducible refine fo_bndM (fun _ _ => ?_) (fun _ _ => ?_)
    | with_reducible refine fo_bnd (fun _ => ?_)
    | with_reducible refine fo_bnd2 (fun _ _ _ => ?_) (fun _ _ _ => ?_)
    | (with_reducible refine gj_Fr.up ?_ ?_; rotate_left; · first | decide +kernel | rfl | simp)
    | (with_reducible refine gj_Fr.put ?_ ?_; rotate_left; · first | decide +kernel | rfl | simp)
    | (with_reducible refine gj_Fr.fill ?_ ?_; rotate_left; · first | decide +kernel | rfl | simp)
    | (with_reducible refine gj_Fr.copy ?_ ?_; rotate_left; · first | decide +kernel | rfl | simp)
    | with_reducible exact fo_tr (by with_reducible assumption) (fr_J_X6_scan_52 _)
    | with_reducible exact fo_tr (by with_reducible assumption) (hrec8 _)

theorem frL_X6_scan_8 : ∀ (m : Nat) (M : gj_M), gj_FO (fun m => m) [] [(10, 6), (10, 7), (10, 8)] M (gj_it (fun _ => none) (B_X6_scan_8) m M)
  | 0, M => fun r e => by cases (show (none : Option (gj_M)) = some r from e)
  | m + 1, M => fr_B_X6_scan_8 (fun M => frL_X6_scan_8 m M) M
set_option maxHeartbeats 600000 in
theorem fr_X6_scan {M : gj_M} : gj_FO (fun m => m) [] [(10, 6), (10, 7), (10, 8)] M (F_X6_scan M) := by
  unfold F_X6_scan
  have hM : gj_Fr [] [(10, 6), (10, 7), (10, 8)] M M := gj_Fr.rf
  repeat' first
    | with_reducible assumption
    | with_reducible exact gj_Fr.rf
    | with_reducible exact fo_none
    | with_reducible refine fo_some ?_
    | with_reducible refine fo_ite ?_ ?_
    | with_reducible refine fo_chk ?_
    | with_reducible refine fo_let ?_ (fun _ _ => ?_)
    | with_reducible refine fo_letI (fun _ => ?_)
    | with_reducible refine fo_let2 ?_ (fun _ _ _ => ?_)
    | with_reducible refine fo_bndM (fun _ _ => ?_) (fun _ _ => ?_)
    | with_reducible refine fo_bnd (fun _ => ?_)
    | with_reducible refine fo_bnd2 (fun _ _ _ => ?_) (fun _ _ _ => ?_)
    | (with_reducible refine gj_Fr.up ?_ ?_; rotate_left; · first | decide +kernel | rfl | simp)
    | (with_reducible refine gj_Fr.put ?_ ?_; rotate_left; · first | decide +kernel | rfl | simp)
    | (with_reducible refine gj_Fr.fill ?_ ?_; rotate_left; · first | decide +kernel | rfl | simp)
    | (with_reducible refine gj_Fr.copy ?_ ?_; rotate_left; · first | decide +kernel | rfl | simp)
    | with_reducible exact fo_tr (by with_reducible assumption) (frL_X6_scan_8 _ _)

set_option maxHeartbeats 600000 in
theorem fr_X6_takeNumber (a1 : Int) (a2 : Int) {M : gj_M} : gj_FO Prod.snd [] [(10, 6), (10, 7), (10, 8), (10, 9)] M (F_X6_takeNumber a1 a2 M) := by
  unfold F_X6_takeNumber
  have hM : gj_Fr [] [(10, 6), (10, 7), (10, 8), (10, 9)] M M := gj_Fr.rf
  repeat' first
    | with_reducible assumption
    | with_reducible exact gj_Fr.rf
    | with_reducible exact fo_none
    | with_reducible refine fo_some ?_
    | with_reducible refine fo_ite ?_ ?_
    | with_reducible refine fo_chk ?_
    | with_reducible refine fo_let ?_ (fun _ _ => ?_)
    | with_reducible refine fo_letI (fun _ => ?_)
    | with_reducible refine fo_let2 ?_ (fun _ _ _ => ?_)
    | with_reducible refine fo_bndM (fun _ _ => ?_) (fun _ _ => ?_)
    | with_reducible refine fo_bnd (fun _ => ?_)
    | with_reducible refine fo_bnd2 (fun _ _ _ => ?_) (fun _ _ _ => ?_)
    | (with_reducible refine gj_Fr.up ?_ ?_; rotate_left; · first | decide +kernel | rfl | simp)
    | (with_reducible refine gj_Fr.put ?_ ?_; rotate_left; · first | decide +kernel | rfl | simp)
    | (with_reducible refine gj_Fr.fill ?_ ?_; rotate_left; · first | decide +kernel | rfl | simp)
    | (with_reducible refine gj_Fr.copy ?_ ?_; rotate_left; · first | decide +kernel | rfl | simp)
    | (with_reducible refine gj_Fr.trans ?_ (gj_Fr.wide (gj_FOu (fr_X6_scan) (by with_reducible assumption)) ?_); rotate_left; · first | decide +kernel | simp [gj_fsub])

set_option maxHeartbeats 600000 in
theorem fr_X6_takeStop {M : gj_M} : gj_FO Prod.snd [] [(10, 6), (10, 7), (10, 8)] M (F_X6_takeStop M) := by
  unfold F_X6_takeStop
  have hM : gj_Fr [] [(10, 6), (10, 7), (10, 8)] M M := gj_Fr.rf
  repeat' first
    | with_reducible assumption
    | with_reducible exact gj_Fr.rf
    | with_reducible exact fo_none
    | with_reducible refine fo_some ?_
    | with_reducible refine fo_ite ?_ ?_
    | with_reducible refine fo_chk ?_
    | with_reducible refine fo_let ?_ (fun _ _ => ?_)
    | with_reducible refine fo_letI (fun _ => ?_)
    | with_reducible refine fo_let2 ?_ (fun _ _ _ => ?_)
    | with_reducible refine fo_bndM (fun _ _ => ?_) (fun _ _ => ?_)
    | with_reducible refine fo_bnd (fun _ => ?_)
    | with_reducible refine fo_bnd2 (fun _ _ _ => ?_) (fun _ _ _ => ?_)
    | (with_reducible refine gj_Fr.up ?_ ?_; rotate_left; · first | decide +kernel | rfl | simp)
    | (with_reducible refine gj_Fr.put ?_ ?_; rotate_left; · first | decide +kernel | rfl | simp)
    | (with_reducible refine gj_Fr.fill ?_ ?_; rotate_left; · first | decide +kernel | rfl | simp)
    | (with_reducible refine gj_Fr.copy ?_ ?_; rotate_left; · first | decide +kernel | rfl | simp)
    | (with_reducible refine gj_Fr.trans ?_ (gj_Fr.wide (gj_FOu (fr_X6_scan) (by with_reducible assumption)) ?_); rotate_left; · first | decide +kernel | simp [gj_fsub])

set_option maxHeartbeats 600000 in
theorem fr_J_X6_readPerson_84 (l1 l5 : Int) (M : gj_M) : gj_FO Prod.snd [4, 11] [(3, 0), (3, 1), (10, 6), (10, 7), (10, 8), (10, 9)] M (J_X6_readPerson_84 l1 l5 M) := by
  unfold J_X6_readPerson_84
  have hM : gj_Fr [4, 11] [(3, 0), (3, 1), (10, 6), (10, 7), (10, 8), (10, 9)] M M := gj_Fr.rf
  repeat' first
    | with_reducible assumption
    | with_reducible exact gj_Fr.rf
    | with_reducible exact fo_none
    | with_reducible refine fo_some ?_
    | with_reducible refine fo_ite ?_ ?_
    | with_reducible refine fo_chk ?_
    | with_reducible refine fo_let ?_ (fun _ _ => ?_)
    | with_reducible refine fo_letI (fun _ => ?_)
    | with_reducible refine fo_let2 ?_ (fun _ _ _ => ?_)
    | with_reducible refine fo_bndM (fun _ _ => ?_) (fun _ _ => ?_)
    | with_reducible refine fo_bnd (fun _ => ?_)
    | with_reducible refine fo_bnd2 (fun _ _ _ => ?_) (fun _ _ _ => ?_)
    | (with_reducible refine gj_Fr.up ?_ ?_; rotate_left; · first | decide +kernel | rfl | simp)
    | (with_reducible refine gj_Fr.put ?_ ?_; rotate_left; · first | decide +kernel | rfl | simp)
    | (with_reducible refine gj_Fr.fill ?_ ?_; rotate_left; · first | decide +kernel | rfl | simp)
    | (with_reducible refine gj_Fr.copy ?_ ?_; rotate_left; · first | decide +kernel | rfl | simp)
    | (with_reducible refine gj_Fr.trans ?_ (gj_Fr.wide (gj_FOu (fr_X6_takeNumber _ _) (by with_reducible assumption)) ?_); rotate_left; · first | decide +kernel | simp [gj_fsub])
    | (with_reducible refine gj_Fr.trans ?_ (gj_Fr.wide (gj_FOu (fr_X6_takeStop) (by with_reducible assumption)) ?_); rotate_left; · first | decide +kernel | simp [gj_fsub])
    | (with_reducible refine gj_Fr.trans ?_ (gj_Fr.wide (gj_FOu (fr_X6_scan) (by with_reducible assumption)) ?_); rotate_left; · first | decide +kernel | simp [gj_fsub])

set_option maxHeartbeats 600000 in
theorem fr_X6_readPerson (a1 : Int) (a2 : Int) {M : gj_M} : gj_FO Prod.snd [4, 11] [(3, 0), (3, 1), (10, 6), (10, 7), (10, 8), (10, 9)] M (F_X6_readPerson a1 a2 M) := by
  unfold F_X6_readPerson
  have hM : gj_Fr [4, 11] [(3, 0), (3, 1), (10, 6), (10, 7), (10, 8), (10, 9)] M M := gj_Fr.rf
  repeat' first
    | with_reducible assumption
    | with_reducible exact gj_Fr.rf
    | with_reducible exact fo_none
    | with_reducible refine fo_some ?_
    | with_reducible refine fo_ite ?_ ?_
    | with_reducible refine fo_chk ?_
    | with_reducible refine fo_let ?_ (fun _ _ => ?_)
    | with_reducible refine fo_letI (fun _ => ?_)
    | with_reducible refine fo_let2 ?_ (fun _ _ _ => ?_)
    | with_reducible refine fo_bndM (fun _ _ => ?_) (fun _ _ => ?_)
    | with_reducible refine fo_bnd (fun _ => ?_)
    | with_reducible refine fo_bnd2 (fun _ _ _ => ?_) (fun _ _ _ => ?_)
    | (with_reducible refine gj_Fr.up ?_ ?_; rotate_left; · first | decide +kernel | rfl | simp)
    | (with_reducible refine gj_Fr.put ?_ ?_; rotate_left; · first | decide +kernel | rfl | simp)
    | (with_reducible refine gj_Fr.fill ?_ ?_; rotate_left; · first | decide +kernel | rfl | simp)
    | (with_reducible refine gj_Fr.copy ?_ ?_; rotate_left; · first | decide +kernel | rfl | simp)
    | with_reducible exact fo_tr (by with_reducible assumption) (fr_J_X6_readPerson_84 _ _ _)
    | (with_reducible refine gj_Fr.trans ?_ (gj_Fr.wide (gj_FOu (fr_X6_takeNumber _ _) (by with_reducible assumption)) ?_); rotate_left; · first | decide +kernel | simp [gj_fsub])
    | (with_reducible refine gj_Fr.trans ?_ (gj_Fr.wide (gj_FOu (fr_X6_takeStop) (by with_reducible assumption)) ?_); rotate_left; · first | decide +kernel | simp [gj_fsub])
    | (with_reducible refine gj_Fr.trans ?_ (gj_Fr.wide (gj_FOu (fr_X6_scan) (by with_reducible assumption)) ?_); rotate_left; · first | decide +kernel | simp [gj_fsub])

set_option maxHeartbeats 600000 in
theorem fr_X6_readThink {M : gj_M} : gj_FO Prod.snd [5, 6, 7, 12] [(10, 6), (10, 7), (10, 8), (10, 9)] M (F_X6_readThink M) := by
  unfold F_X6_readThink
  have hM : gj_Fr [5, 6, 7, 12] [(10, 6), (10, 7), (10, 8), (10, 9)] M M := gj_Fr.rf
  repeat' first
    | with_reducible assumption
    | with_reducible exact gj_Fr.rf
    | with_reducible exact fo_none
    | with_reducible refine fo_some ?_
    | with_reducible refine fo_ite ?_ ?_
    | with_reducible refine fo_chk ?_
    | with_reducible refine fo_let ?_ (fun _ _ => ?_)
    | with_reducible refine fo_letI (fun _ => ?_)
    | with_reducible refine fo_let2 ?_ (fun _ _ _ => ?_)
    | with_reducible refine fo_bndM (fun _ _ => ?_) (fun _ _ => ?_)
    | with_reducible refine fo_bnd (fun _ => ?_)
    | with_reducible refine fo_bnd2 (fun _ _ _ => ?_) (fun _ _ _ => ?_)
    | (with_reducible refine gj_Fr.up ?_ ?_; rotate_left; · first | decide +kernel | rfl | simp)
    | (with_reducible refine gj_Fr.put ?_ ?_; rotate_left; · first | decide +kernel | rfl | simp)
    | (with_reducible refine gj_Fr.fill ?_ ?_; rotate_left; · first | decide +kernel | rfl | simp)
    | (with_reducible refine gj_Fr.copy ?_ ?_; rotate_left; · first | decide +kernel | rfl | simp)
    | (with_reducible refine gj_Fr.trans ?_ (gj_Fr.wide (gj_FOu (fr_X6_takeNumber _ _) (by with_reducible assumption)) ?_); rotate_left; · first | decide +kernel | simp [gj_fsub])
    | (with_reducible refine gj_Fr.trans ?_ (gj_Fr.wide (gj_FOu (fr_X6_takeStop) (by with_reducible assumption)) ?_); rotate_left; · first | decide +kernel | simp [gj_fsub])
    | (with_reducible refine gj_Fr.trans ?_ (gj_Fr.wide (gj_FOu (fr_X6_scan) (by with_reducible assumption)) ?_); rotate_left; · first | decide +kernel | simp [gj_fsub])

set_option maxHeartbeats 600000 in
theorem fr_X6_readFit {M : gj_M} : gj_FO Prod.snd [8, 13] [(10, 6), (10, 7), (10, 8), (10, 9)] M (F_X6_readFit M) := by
  unfold F_X6_readFit
  have hM : gj_Fr [8, 13] [(10, 6), (10, 7), (10, 8), (10, 9)] M M := gj_Fr.rf
  repeat' first
    | with_reducible assumption
    | with_reducible exact gj_Fr.rf
    | with_reducible exact fo_none
    | with_reducible refine fo_some ?_
    | with_reducible refine fo_ite ?_ ?_
    | with_reducible refine fo_chk ?_
    | with_reducible refine fo_let ?_ (fun _ _ => ?_)
    | with_reducible refine fo_letI (fun _ => ?_)
    | with_reducible refine fo_let2 ?_ (fun _ _ _ => ?_)
    | with_reducible refine fo_bndM (fun _ _ => ?_) (fun _ _ => ?_)
    | with_reducible refine fo_bnd (fun _ => ?_)
    | with_reducible refine fo_bnd2 (fun _ _ _ => ?_) (fun _ _ _ => ?_)
    | (with_reducible refine gj_Fr.up ?_ ?_; rotate_left; · first | decide +kernel | rfl | simp)
    | (with_reducible refine gj_Fr.put ?_ ?_; rotate_left; · first | decide +kernel | rfl | simp)
    | (with_reducible refine gj_Fr.fill ?_ ?_; rotate_left; · first | decide +kernel | rfl | simp)
    | (with_reducible refine gj_Fr.copy ?_ ?_; rotate_left; · first | decide +kernel | rfl | simp)
    | (with_reducible refine gj_Fr.trans ?_ (gj_Fr.wide (gj_FOu (fr_X6_takeNumber _ _) (by with_reducible assumption)) ?_); rotate_left; · first | decide +kernel | simp [gj_fsub])
    | (with_reducible refine gj_Fr.trans ?_ (gj_Fr.wide (gj_FOu (fr_X6_takeStop) (by with_reducible assumption)) ?_); rotate_left; · first | decide +kernel | simp [gj_fsub])
    | (with_reducible refine gj_Fr.trans ?_ (gj_Fr.wide (gj_FOu (fr_X6_scan) (by with_reducible assumption)) ?_); rotate_left; · first | decide +kernel | simp [gj_fsub])

set_option maxHeartbeats 600000 in
theorem fr_X6_firstTold (a1 : Int) {M : gj_M} : gj_FO Prod.snd [] [(10, 5), (10, 6), (10, 7), (10, 8)] M (F_X6_firstTold a1 M) := by
  unfold F_X6_firstTold
  have hM : gj_Fr [] [(10, 5), (10, 6), (10, 7), (10, 8)] M M := gj_Fr.rf
  repeat' first
    | with_reducible assumption
    | with_reducible exact gj_Fr.rf
    | with_reducible exact fo_none
    | with_reducible refine fo_some ?_
    | with_reducible refine fo_ite ?_ ?_
    | with_reducible refine fo_chk ?_
    | with_reducible refine fo_let ?_ (fun _ _ => ?_)
    | with_reducible refine fo_letI (fun _ => ?_)
    | with_reducible refine fo_let2 ?_ (fun _ _ _ => ?_)
    | with_reducible refine fo_bndM (fun _ _ => ?_) (fun _ _ => ?_)
    | with_reducible refine fo_bnd (fun _ => ?_)
    | with_reducible refine fo_bnd2 (fun _ _ _ => ?_) (fun _ _ _ => ?_)
    | (with_reducible refine gj_Fr.up ?_ ?_; rotate_left; · first | decide +kernel | rfl | simp)
    | (with_reducible refine gj_Fr.put ?_ ?_; rotate_left; · first | decide +kernel | rfl | simp)
    | (with_reducible refine gj_Fr.fill ?_ ?_; rotate_left; · first | decide +kernel | rfl | simp)
    | (with_reducible refine gj_Fr.copy ?_ ?_; rotate_left; · first | decide +kernel | rfl | simp)
    | (with_reducible refine gj_Fr.trans ?_ (gj_Fr.wide (gj_FOu (fr_X6_scan) (by with_reducible assumption)) ?_); rotate_left; · first | decide +kernel | simp [gj_fsub])

set_option maxHeartbeats 600000 in
theorem fr_X6_readWorth {M : gj_M} : gj_FO Prod.snd [] [(3, 2), (3, 3), (10, 5), (10, 6), (10, 7), (10, 8), (10, 9)] M (F_X6_readWorth M) := by
  unfold F_X6_readWorth
  have hM : gj_Fr [] [(3, 2), (3, 3), (10, 5), (10, 6), (10, 7), (10, 8), (10, 9)] M M := gj_Fr.rf
  repeat' first
    | with_reducible assumption
    | with_reducible exact gj_Fr.rf
    | with_reducible exact fo_none
    | with_reducible refine fo_some ?_
    | with_reducible refine fo_ite ?_ ?_
    | with_reducible refine fo_chk ?_
    | with_reducible refine fo_let ?_ (fun _ _ => ?_)
    | with_reducible refine fo_letI (fun _ => ?_)
    | with_reducible refine fo_let2 ?_ (fun _ _ _ => ?_)
    | with_reducible refine fo_bndM (fun _ _ => ?_) (fun _ _ => ?_)
    | with_reducible refine fo_bnd (fun _ => ?_)
    | with_reducible refine fo_bnd2 (fun _ _ _ => ?_) (fun _ _ _ => ?_)
    | (with_reducible refine gj_Fr.up ?_ ?_; rotate_left; · first | decide +kernel | rfl | simp)
    | (with_reducible refine gj_Fr.put ?_ ?_; rotate_left; · first | decide +kernel | rfl | simp)
    | (with_reducible refine gj_Fr.fill ?_ ?_; rotate_left; · first | decide +kernel | rfl | simp)
    | (with_reducible refine gj_Fr.copy ?_ ?_; rotate_left; · first | decide +kernel | rfl | simp)
    | (with_reducible refine gj_Fr.trans ?_ (gj_Fr.wide (gj_FOu (fr_X6_takeStop) (by with_reducible assumption)) ?_); rotate_left; · first | decide +kernel | simp [gj_fsub])
    | (with_reducible refine gj_Fr.trans ?_ (gj_Fr.wide (gj_FOu (fr_X6_firstTold _) (by with_reducible assumption)) ?_); rotate_left; · first | decide +kernel | simp [gj_fsub])
    | (with_reducible refine gj_Fr.trans ?_ (gj_Fr.wide (gj_FOu (fr_X6_takeNumber _ _) (by with_reducible assumption)) ?_); rotate_left; · first | decide +kernel | simp [gj_fsub])

set_option maxHeartbeats 600000 in
theorem fr_X6_readHouse {M : gj_M} : gj_FO Prod.snd [] [(3, 4), (3, 5), (10, 5), (10, 6), (10, 7), (10, 8), (10, 9)] M (F_X6_readHouse M) := by
  unfold F_X6_readHouse
  have hM : gj_Fr [] [(3, 4), (3, 5), (10, 5), (10, 6), (10, 7), (10, 8), (10, 9)] M M := gj_Fr.rf
  repeat' first
    | with_reducible assumption
    | with_reducible exact gj_Fr.rf
    | with_reducible exact fo_none
    | with_reducible refine fo_some ?_
    | with_reducible refine fo_ite ?_ ?_
    | with_reducible refine fo_chk ?_
    | with_reducible refine fo_let ?_ (fun _ _ => ?_)
    | with_reducible refine fo_letI (fun _ => ?_)
    | with_reducible refine fo_let2 ?_ (fun _ _ _ => ?_)
    | with_reducible refine fo_bndM (fun _ _ => ?_) (fun _ _ => ?_)
    | with_reducible refine fo_bnd (fun _ => ?_)
    | with_reducible refine fo_bnd2 (fun _ _ _ => ?_) (fun _ _ _ => ?_)
    | (with_reducible refine gj_Fr.up ?_ ?_; rotate_left; · first | decide +kernel | rfl | simp)
    | (with_reducible refine gj_Fr.put ?_ ?_; rotate_left; · first | decide +kernel | rfl | simp)
    | (with_reducible refine gj_Fr.fill ?_ ?_; rotate_left; · first | decide +kernel | rfl | simp)
    | (with_reducible refine gj_Fr.copy ?_ ?_; rotate_left; · first | decide +kernel | rfl | simp)
    | (with_reducible refine gj_Fr.trans ?_ (gj_Fr.wide (gj_FOu (fr_X6_takeStop) (by with_reducible assumption)) ?_); rotate_left; · first | decide +kernel | simp [gj_fsub])
    | (with_reducible refine gj_Fr.trans ?_ (gj_Fr.wide (gj_FOu (fr_X6_firstTold _) (by with_reducible assumption)) ?_); rotate_left; · first | decide +kernel | simp [gj_fsub])
    | (with_reducible refine gj_Fr.trans ?_ (gj_Fr.wide (gj_FOu (fr_X6_takeNumber _ _) (by with_reducible assumption)) ?_); rotate_left; · first | decide +kernel | simp [gj_fsub])

set_option maxHeartbeats 600000 in
theorem fr_X6_readChild {M : gj_M} : gj_FO Prod.snd [] [(3, 6), (3, 7), (10, 5), (10, 6), (10, 7), (10, 8), (10, 9)] M (F_X6_readChild M) := by
  unfold F_X6_readChild
  have hM : gj_Fr [] [(3, 6), (3, 7), (10, 5), (10, 6), (10, 7), (10, 8), (10, 9)] M M := gj_Fr.rf
  repeat' first
    | with_reducible assumption
    | with_reducible exact gj_Fr.rf
    | with_reducible exact fo_none
    | with_reducible refine fo_some ?_
    | with_reducible refine fo_ite ?_ ?_
    | with_reducible refine fo_chk ?_
    | with_reducible refine fo_let ?_ (fun _ _ => ?_)
    | with_reducible refine fo_letI (fun _ => ?_)
    | with_reducible refine fo_let2 ?_ (fun _ _ _ => ?_)
    | with_reducible refine fo_bndM (fun _ _ => ?_) (fun _ _ => ?_)
    | with_reducible refine fo_bnd (fun _ => ?_)
    | with_reducible refine fo_bnd2 (fun _ _ _ => ?_) (fun _ _ _ => ?_)
    | (with_reducible refine gj_Fr.up ?_ ?_; rotate_left; · first | decide +kernel | rfl | simp)
    | (with_reducible refine gj_Fr.put ?_ ?_; rotate_left; · first | decide +kernel | rfl | simp)
    | (with_reducible refine gj_Fr.fill ?_ ?_; rotate_left; · first | decide +kernel | rfl | simp)
    | (with_reducible refine gj_Fr.copy ?_ ?_; rotate_left; · first | decide +kernel | rfl | simp)
    | (with_reducible refine gj_Fr.trans ?_ (gj_Fr.wide (gj_FOu (fr_X6_takeStop) (by with_reducible assumption)) ?_); rotate_left; · first | decide +kernel | simp [gj_fsub])
    | (with_reducible refine gj_Fr.trans ?_ (gj_Fr.wide (gj_FOu (fr_X6_firstTold _) (by with_reducible assumption)) ?_); rotate_left; · first | decide +kernel | simp [gj_fsub])
    | (with_reducible refine gj_Fr.trans ?_ (gj_Fr.wide (gj_FOu (fr_X6_takeNumber _ _) (by with_reducible assumption)) ?_); rotate_left; · first | decide +kernel | simp [gj_fsub])

set_option maxHeartbeats 600000 in
theorem fr_X6_readCow {M : gj_M} : gj_FO Prod.snd [] [(3, 8), (10, 5), (10, 6), (10, 7), (10, 8), (10, 9)] M (F_X6_readCow M) := by
  unfold F_X6_readCow
  have hM : gj_Fr [] [(3, 8), (10, 5), (10, 6), (10, 7), (10, 8), (10, 9)] M M := gj_Fr.rf
  repeat' first
    | with_reducible assumption
    | with_reducible exact gj_Fr.rf
    | with_reducible exact fo_none
    | with_reducible refine fo_some ?_
    | with_reducible refine fo_ite ?_ ?_
    | with_reducible refine fo_chk ?_
    | with_reducible refine fo_let ?_ (fun _ _ => ?_)
    | with_reducible refine fo_letI (fun _ => ?_)
    | with_reducible refine fo_let2 ?_ (fun _ _ _ => ?_)
    | with_reducible refine fo_bndM (fun _ _ => ?_) (fun _ _ => ?_)
    | with_reducible refine fo_bnd (fun _ => ?_)
    | with_reducible refine fo_bnd2 (fun _ _ _ => ?_) (fun _ _ _ => ?_)
    | (with_reducible refine gj_Fr.up ?_ ?_; rotate_left; · first | decide +kernel | rfl | simp)
    | (with_reducible refine gj_Fr.put ?_ ?_; rotate_left; · first | decide +kernel | rfl | simp)
    | (with_reducible refine gj_Fr.fill ?_ ?_; rotate_left; · first | decide +kernel | rfl | simp)
    | (with_reducible refine gj_Fr.copy ?_ ?_; rotate_left; · first | decide +kernel | rfl | simp)
    | (with_reducible refine gj_Fr.trans ?_ (gj_Fr.wide (gj_FOu (fr_X6_takeStop) (by with_reducible assumption)) ?_); rotate_left; · first | decide +kernel | simp [gj_fsub])
    | (with_reducible refine gj_Fr.trans ?_ (gj_Fr.wide (gj_FOu (fr_X6_firstTold _) (by with_reducible assumption)) ?_); rotate_left; · first | decide +kernel | simp [gj_fsub])
    | (with_reducible refine gj_Fr.trans ?_ (gj_Fr.wide (gj_FOu (fr_X6_takeNumber _ _) (by with_reducible assumption)) ?_); rotate_left; · first | decide +kernel | simp [gj_fsub])

set_option maxHeartbeats 600000 in
theorem fr_X6_readAhead {M : gj_M} : gj_FO Prod.snd [] [(3, 9), (10, 5), (10, 6), (10, 7), (10, 8), (10, 9)] M (F_X6_readAhead M) := by
  unfold F_X6_readAhead
  have hM : gj_Fr [] [(3, 9), (10, 5), (10, 6), (10, 7), (10, 8), (10, 9)] M M := gj_Fr.rf
  repeat' first
    | with_reducible assumption
    | with_reducible exact gj_Fr.rf
    | with_reducible exact fo_none
    | with_reducible refine fo_some ?_
    | with_reducible refine fo_ite ?_ ?_
    | with_reducible refine fo_chk ?_
    | with_reducible refine fo_let ?_ (fun _ _ => ?_)
    | with_reducible refine fo_letI (fun _ => ?_)
    | with_reducible refine fo_let2 ?_ (fun _ _ _ => ?_)
    | with_reducible refine fo_bndM (fun _ _ => ?_) (fun _ _ => ?_)
    | with_reducible refine fo_bnd (fun _ => ?_)
    | with_reducible refine fo_bnd2 (fun _ _ _ => ?_) (fun _ _ _ => ?_)
    | (with_reducible refine gj_Fr.up ?_ ?_; rotate_left; · first | decide +kernel | rfl | simp)
    | (with_reducible refine gj_Fr.put ?_ ?_; rotate_left; · first | decide +kernel | rfl | simp)
    | (with_reducible refine gj_Fr.fill ?_ ?_; rotate_left; · first | decide +kernel | rfl | simp)
    | (with_reducible refine gj_Fr.copy ?_ ?_; rotate_left; · first | decide +kernel | rfl | simp)
    | (with_reducible refine gj_Fr.trans ?_ (gj_Fr.wide (gj_FOu (fr_X6_takeStop) (by with_reducible assumption)) ?_); rotate_left; · first | decide +kernel | simp [gj_fsub])
    | (with_reducible refine gj_Fr.trans ?_ (gj_Fr.wide (gj_FOu (fr_X6_firstTold _) (by with_reducible assumption)) ?_); rotate_left; · first | decide +kernel | simp [gj_fsub])
    | (with_reducible refine gj_Fr.trans ?_ (gj_Fr.wide (gj_FOu (fr_X6_takeNumber _ _) (by with_reducible assumption)) ?_); rotate_left; · first | decide +kernel | simp [gj_fsub])

set_option maxHeartbeats 600000 in
theorem fr_X6_readLine {M : gj_M} : gj_FO Prod.snd [4, 5, 6, 7, 8, 11, 12, 13] [(3, 0), (3, 1), (3, 2), (3, 3), (3, 4), (3, 5), (3, 6), (3, 7), (3, 8), (3, 9), (10, 5), (10, 6), (10, 7), (10, 8), (10, 9)] M (F_X6_readLine M) := by
  unfold F_X6_readLine
  have hM : gj_Fr [4, 5, 6, 7, 8, 11, 12, 13] [(3, 0), (3, 1), (3, 2), (3, 3), (3, 4), (3, 5), (3, 6), (3, 7), (3, 8), (3, 9), (10, 5), (10, 6), (10, 7), (10, 8), (10, 9)] M M := gj_Fr.rf
  repeat' first
    | with_reducible assumption
    | with_reducible exact gj_Fr.rf
    | with_reducible exact fo_none
    | with_reducible refine fo_some ?_
    | with_reducible refine fo_ite ?_ ?_
    | with_reducible refine fo_chk ?_
    | with_reducible refine fo_let ?_ (fun _ _ => ?_)
    | with_reducible refine fo_letI (fun _ => ?_)
    | with_reducible refine fo_let2 ?_ (fun _ _ _ => ?_)
    | with_reducible refine fo_bndM (fun _ _ => ?_) (fun _ _ => ?_)
    | with_reducible refine fo_bnd (fun _ => ?_)
    | with_reducible refine fo_bnd2 (fun _ _ _ => ?_) (fun _ _ _ => ?_)
    | (with_reducible refine gj_Fr.up ?_ ?_; rotate_left; · first | decide +kernel | rfl | simp)
    | (with_reducible refine gj_Fr.put ?_ ?_; rotate_left; · first | decide +kernel | rfl | simp)
    | (with_reducible refine gj_Fr.fill ?_ ?_; rotate_left; · first | decide +kernel | rfl | simp)
    | (with_reducible refine gj_Fr.copy ?_ ?_; rotate_left; · first | decide +kernel | rfl | simp)
    | (with_reducible refine gj_Fr.trans ?_ (gj_Fr.wide (gj_FOu (fr_X6_readWorth) (by with_reducible assumption)) ?_); rotate_left; · first | decide +kernel | simp [gj_fsub])
    | (with_reducible refine gj_Fr.trans ?_ (gj_Fr.wide (gj_FOu (fr_X6_readThink) (by with_reducible assumption)) ?_); rotate_left; · first | decide +kernel | simp [gj_fsub])
    | (with_reducible refine gj_Fr.trans ?_ (gj_Fr.wide (gj_FOu (fr_X6_readAhead) (by with_reducible assumption)) ?_); rotate_left; · first | decide +kernel | simp [gj_fsub])
    | (with_reducible refine gj_Fr.trans ?_ (gj_Fr.wide (gj_FOu (fr_X6_readChild) (by with_reducible assumption)) ?_); rotate_left; · first | decide +kernel | simp [gj_fsub])
    | (with_reducible refine gj_Fr.trans ?_ (gj_Fr.wide (gj_FOu (fr_X6_readHouse) (by with_reducible assumption)) ?_); rotate_left; · first | decide +kernel | simp [gj_fsub])
    | (with_reducible refine gj_Fr.trans ?_ (gj_Fr.wide (gj_FOu (fr_X6_readCow) (by with_reducible assumption)) ?_); rotate_left; · first | decide +kernel | simp [gj_fsub])
    | (with_reducible refine gj_Fr.trans ?_ (gj_Fr.wide (gj_FOu (fr_X6_readPerson _ _) (by with_reducible assumption)) ?_); rotate_left; · first | decide +kernel | simp [gj_fsub])
    | (with_reducible refine gj_Fr.trans ?_ (gj_Fr.wide (gj_FOu (fr_X6_readFit) (by with_reducible assumption)) ?_); rotate_left; · first | decide +kernel | simp [gj_fsub])

set_option maxHeartbeats 600000 in
theorem fr_J_X6_read_73 (M : gj_M) : gj_FO Prod.snd [4, 5, 6, 7, 8, 11, 12, 13] [(3, 0), (3, 1), (3, 2), (3, 3), (3, 4), (3, 5), (3, 6), (3, 7), (3, 8), (3, 9), (10, 5), (10, 6), (10, 7), (10, 8), (10, 9)] M (J_X6_read_73 M) := by
  unfold J_X6_read_73
  have hM : gj_Fr [4, 5, 6, 7, 8, 11, 12, 13] [(3, 0), (3, 1), (3, 2), (3, 3), (3, 4), (3, 5), (3, 6), (3, 7), (3, 8), (3, 9), (10, 5), (10, 6), (10, 7), (10, 8), (10, 9)] M M := gj_Fr.rf
  repeat' first
    | with_reducible assumption
    | with_reducible exact gj_Fr.rf
    | with_reducible exact fo_none
    | with_reducible refine fo_some ?_
    | with_reducible refine fo_ite ?_ ?_
    | with_reducible refine fo_chk ?_
    | with_reducible refine fo_let ?_ (fun _ _ => ?_)
    | with_reducible refine fo_letI (fun _ => ?_)
    | with_reducible refine fo_let2 ?_ (fun _ _ _ => ?_)
    | with_reducible refine fo_bndM (fun _ _ => ?_) (fun _ _ => ?_)
    | with_reducible refine fo_bnd (fun _ => ?_)
    | with_reducible refine fo_bnd2 (fun _ _ _ => ?_) (fun _ _ _ => ?_)
    | (with_reducible refine gj_Fr.up ?_ ?_; rotate_left; · first | decide +kernel | rfl | simp)
    | (with_reducible refine gj_Fr.put ?_ ?_; rotate_left; · first | decide +kernel | rfl | simp)
    | (with_reducible refine gj_Fr.fill ?_ ?_; rotate_left; · first | decide +kernel | rfl | simp)
    | (with_reducible refine gj_Fr.copy ?_ ?_; rotate_left; · first | decide +kernel | rfl | simp)
    | (with_reducible refine gj_Fr.trans ?_ (gj_Fr.wide (gj_FOu (fr_X6_readLine) (by with_reducible assumption)) ?_); rotate_left; · first | decide +kernel | simp [gj_fsub])
    | (with_reducible refine gj_Fr.trans ?_ (gj_Fr.wide (gj_FOu (fr_X6_scan) (by with_reducible assumption)) ?_); rotate_left; · first | decide +kernel | simp [gj_fsub])
    | (with_reducible refine gj_Fr.trans ?_ (gj_Fr.wide (fr_X5_clear) ?_); rotate_left; · first | decide +kernel | simp [gj_fsub])

set_option maxHeartbeats 600000 in
theorem fr_B_X6_read_37 {rec37 : Int → gj_M → Option (Int × gj_M)} (hrec37 : ∀ (l1 : Int) (M : gj_M), gj_FO Prod.snd [4, 5, 6, 7, 8, 11, 12, 13] [(3, 0), (3, 1), (3, 2), (3, 3), (3, 4), (3, 5), (3, 6), (3, 7), (3, 8), (3, 9), (10, 5), (10, 6), (10, 7), (10, 8), (10, 9)] M (rec37 l1 M)) (l1 : Int) (M : gj_M) : gj_FO Prod.snd [4, 5, 6, 7, 8, 11, 12, 13] [(3, 0), (3, 1), (3, 2), (3, 3), (3, 4), (3, 5), (3, 6), (3, 7), (3, 8), (3, 9), (10, 5), (10, 6), (10, 7), (10, 8), (10, 9)] M (B_X6_read_37 rec37 l1 M) := by
  unfold B_X6_read_37
  have hM : gj_Fr [4, 5, 6, 7, 8, 11, 12, 13] [(3, 0), (3, 1), (3, 2), (3, 3), (3, 4), (3, 5), (3, 6), (3, 7), (3, 8), (3, 9), (10, 5), (10, 6), (10, 7), (10, 8), (10, 9)] M M := gj_Fr.rf
  repeat' first
    | with_reducible assumption
    | with_reducible exact gj_Fr.rf
    | with_reducible exact fo_none
    | with_reducible refine fo_some ?_
    | with_reducible refine fo_ite ?_ ?_
    | with_reducible refine fo_chk ?_
    | with_reducible refine fo_let ?_ (fun _ _ => ?_)
    | with_reducible refine fo_letI (fun _ => ?_)
    | with_reducible refine fo_let2 ?_ (fun _ _ _ => ?_)
    | with_reducible refine fo_bndM (fun _ _ => ?_) (fun _ _ => ?_)
    | with_reducible refine fo_bnd (fun _ => ?_)
    | with_reducible refine fo_bnd2 (fun _ _ _ => ?_) (fun _ _ _ => ?_)
    | (with_reducible refine gj_Fr.up ?_ ?_; rotate_left; · first | decide +kernel | rfl | simp)
    | (with_reducible refine gj_Fr.put ?_ ?_; rotate_left; · first | decide +kernel | rfl | simp)
    | (with_reducible refine gj_Fr.fill ?_ ?_; rotate_left; · first | decide +kernel | rfl | simp)
    | (with_reducible refine gj_Fr.copy ?_ ?_; rotate_left; · first | decide +kernel | rfl | simp)
    | with_reducible exact fo_tr (by with_reducible assumption) (fr_J_X6_read_73 _)
    | with_reducible exact fo_tr (by with_reducible assumption) (hrec37 _ _)
    | (with_reducible refine gj_Fr.trans ?_ (gj_Fr.wide (gj_FOu (fr_X6_readLine) (by with_reducible assumption)) ?_); rotate_left; · first | decide +kernel | simp [gj_fsub])
    | (with_reducible refine gj_Fr.trans ?_ (gj_Fr.wide (gj_FOu (fr_X6_scan) (by with_reducible assumption)) ?_); rotate_left; · first | decide +kernel | simp [gj_fsub])
    | (with_reducible refine gj_Fr.trans ?_ (gj_Fr.wide (fr_X5_clear) ?_); rotate_left; · first | decide +kernel | simp [gj_fsub])

theorem frL_X6_read_37 : ∀ (m : Nat) (l1 : Int) (M : gj_M), gj_FO Prod.snd [4, 5, 6, 7, 8, 11, 12, 13] [(3, 0), (3, 1), (3, 2), (3, 3), (3, 4), (3, 5), (3, 6), (3, 7), (3, 8), (3, 9), (10, 5), (10, 6), (10, 7), (10, 8), (10, 9)] M (gj_it (fun _ _ => none) (B_X6_read_37) m l1 M)
  | 0, l1, M => fun r e => by cases (show (none : Option (Int × gj_M)) = some r from e)
  | m + 1, l1, M => fr_B_X6_read_37 (fun l1 M => frL_X6_read_37 m l1 M) l1 M
set_option maxHeartbeats 600000 in
theorem fr_X6_read {M : gj_M} : gj_FO Prod.snd [4, 5, 6, 7, 8, 11, 12, 13] [(3, 0), (3, 1), (3, 2), (3, 3), (3, 4), (3, 5), (3, 6), (3, 7), (3, 8), (3, 9), (10, 5), (10, 6), (10, 7), (10, 8), (10, 9)] M (F_X6_read M) := by
  unfold F_X6_read
  have hM : gj_Fr [4, 5, 6, 7, 8, 11, 12, 13] [(3, 0), (3, 1), (3, 2), (3, 3), (3, 4), (3, 5), (3, 6), (3, 7), (3, 8), (3, 9), (10, 5), (10, 6), (10, 7), (10, 8), (10, 9)] M M := gj_Fr.rf
  repeat' first
    | with_reducible assumption
    | with_reducible exact gj_Fr.rf
    | with_reducible exact fo_none
    | with_reducible refine fo_some ?_
    | with_reducible refine fo_ite ?_ ?_
    | with_reducible refine fo_chk ?_
    | with_reducible refine fo_let ?_ (fun _ _ => ?_)
    | with_reducible refine fo_letI (fun _ => ?_)
    | with_reducible refine fo_let2 ?_ (fun _ _ _ => ?_)
    | with_reducible refine fo_bndM (fun _ _ => ?_) (fun _ _ => ?_)
    | with_reducible refine fo_bnd (fun _ => ?_)
    | with_reducible refine fo_bnd2 (fun _ _ _ => ?_) (fun _ _ _ => ?_)
    | (with_reducible refine gj_Fr.up ?_ ?_; rotate_left; · first | decide +kernel | rfl | simp)
    | (with_reducible refine gj_Fr.put ?_ ?_; rotate_left; · first | decide +kernel | rfl | simp)
    | (with_reducible refine gj_Fr.fill ?_ ?_; rotate_left; · first | decide +kernel | rfl | simp)
    | (with_reducible refine gj_Fr.copy ?_ ?_; rotate_left; · first | decide +kernel | rfl | simp)
    | with_reducible exact fo_tr (by with_reducible assumption) (frL_X6_read_37 _ _ _)
    | (with_reducible refine gj_Fr.trans ?_ (gj_Fr.wide (gj_FOu (fr_X6_readLine) (by with_reducible assumption)) ?_); rotate_left; · first | decide +kernel | simp [gj_fsub])
    | (with_reducible refine gj_Fr.trans ?_ (gj_Fr.wide (gj_FOu (fr_X6_scan) (by with_reducible assumption)) ?_); rotate_left; · first | decide +kernel | simp [gj_fsub])
    | (with_reducible refine gj_Fr.trans ?_ (gj_Fr.wide (fr_X5_clear) ?_); rotate_left; · first | decide +kernel | simp [gj_fsub])

set_option maxHeartbeats 600000 in
theorem fr_X11_fault {M : gj_M} : gj_FO Prod.snd [4, 5, 6, 7, 8, 11, 12, 13] [(3, 0), (3, 1), (3, 2), (3, 3), (3, 4), (3, 5), (3, 6), (3, 7), (3, 8), (3, 9), (10, 5), (10, 6), (10, 7), (10, 8), (10, 9)] M (F_X11_fault M) := by
  unfold F_X11_fault
  have hM : gj_Fr [4, 5, 6, 7, 8, 11, 12, 13] [(3, 0), (3, 1), (3, 2), (3, 3), (3, 4), (3, 5), (3, 6), (3, 7), (3, 8), (3, 9), (10, 5), (10, 6), (10, 7), (10, 8), (10, 9)] M M := gj_Fr.rf
  repeat' first
    | with_reducible assumption
    | with_reducible exact gj_Fr.rf
    | with_reducible exact fo_none
    | with_reducible refine fo_some ?_
    | with_reducible refine fo_ite ?_ ?_
    | with_reducible refine fo_chk ?_
    | with_reducible refine fo_let ?_ (fun _ _ => ?_)
    | with_reducible refine fo_letI (fun _ => ?_)
    | with_reducible refine fo_let2 ?_ (fun _ _ _ => ?_)
    | with_reducible refine fo_bndM (fun _ _ => ?_) (fun _ _ => ?_)
    | with_reducible refine fo_bnd (fun _ => ?_)
    | with_reducible refine fo_bnd2 (fun _ _ _ => ?_) (fun _ _ _ => ?_)
    | (with_reducible refine gj_Fr.up ?_ ?_; rotate_left; · first | decide +kernel | rfl | simp)
    | (with_reducible refine gj_Fr.put ?_ ?_; rotate_left; · first | decide +kernel | rfl | simp)
    | (with_reducible refine gj_Fr.fill ?_ ?_; rotate_left; · first | decide +kernel | rfl | simp)
    | (with_reducible refine gj_Fr.copy ?_ ?_; rotate_left; · first | decide +kernel | rfl | simp)
    | (with_reducible refine gj_Fr.trans ?_ (gj_Fr.wide (gj_FOu (fr_X6_read) (by with_reducible assumption)) ?_); rotate_left; · first | decide +kernel | simp [gj_fsub])

set_option maxHeartbeats 600000 in
theorem fr_J_X5_reckonShown_57 {rec2 : Int → gj_M → Option (gj_M)} (hrec2 : ∀ (l1 : Int) (M : gj_M), gj_FO (fun m => m) [20] [] M (rec2 l1 M)) (l1 : Int) (M : gj_M) : gj_FO (fun m => m) [20] [] M (J_X5_reckonShown_57 rec2 l1 M) := by
  unfold J_X5_reckonShown_57
  have hM : gj_Fr [20] [] M M := gj_Fr.rf
  repeat' first
    | with_reducible assumption
    | with_reducible exact gj_Fr.rf
    | with_reducible exact fo_none
    | with_reducible refine fo_some ?_
    | with_reducible refine fo_ite ?_ ?_
    | with_reducible refine fo_chk ?_
    | with_reducible refine fo_let ?_ (fun _ _ => ?_)
    | with_reducible refine fo_letI (fun _ => ?_)
    | with_reducible refine fo_let2 ?_ (fun _ _ _ => ?_)
    | with_reducible refine fo_bndM (fun _ _ => ?_) (fun _ _ => ?_)
    | with_reducible refine fo_bnd (fun _ => ?_)
    | with_reducible refine fo_bnd2 (fun _ _ _ => ?_) (fun _ _ _ => ?_)
    | (with_reducible refine gj_Fr.up ?_ ?_; rotate_left; · first | decide +kernel | rfl | simp)
    | (with_reducible refine gj_Fr.put ?_ ?_; rotate_left; · first | decide +kernel | rfl | simp)
    | (with_reducible refine gj_Fr.fill ?_ ?_; rotate_left; · first | decide +kernel | rfl | simp)
    | (with_reducible refine gj_Fr.copy ?_ ?_; rotate_left; · first | decide +kernel | rfl | simp)
    | with_reducible exact fo_tr (by with_reducible assumption) (hrec2 _ _)

set_option maxHeartbeats 600000 in
theorem fr_J_X5_reckonShown_51 {rec2 : Int → gj_M → Option (gj_M)} {rec10 : Int → Int → gj_M → Option (gj_M)} (hrec2 : ∀ (l1 : Int) (M : gj_M), gj_FO (fun m => m) [20] [] M (rec2 l1 M)) (hrec10 : ∀ (l1 l2 : Int) (M : gj_M), gj_FO (fun m => m) [20] [] M (rec10 l1 l2 M)) (l1 l2 : Int) (M : gj_M) : gj_FO (fun m => m) [20] [] M (J_X5_reckonShown_51 rec2 rec10 l1 l2 M) := by
  unfold J_X5_reckonShown_51
  have hM : gj_Fr [20] [] M M := gj_Fr.rf
  repeat' first
    | with_reducible assumption
    | with_reducible exact gj_Fr.rf
    | with_reducible exact fo_none
    | with_reducible refine fo_some ?_
    | with_reducible refine fo_ite ?_ ?_
    | with_reducible refine fo_chk ?_
    | with_reducible refine fo_let ?_ (fun _ _ => ?_)
    | with_reducible refine fo_letI (fun _ => ?_)
    | with_reducible refine fo_let2 ?_ (fun _ _ _ => ?_)
    | with_reducible refine fo_bndM (fun _ _ => ?_) (fun _ _ => ?_)
    | with_reducible refine fo_bnd (fun _ => ?_)
    | with_reducible refine fo_bnd2 (fun _ _ _ => ?_) (fun _ _ _ => ?_)
    | (with_reducible refine gj_Fr.up ?_ ?_; rotate_left; · first | decide +kernel | rfl | simp)
    | (with_reducible refine gj_Fr.put ?_ ?_; rotate_left; · first | decide +kernel | rfl | simp)
    | (with_reducible refine gj_Fr.fill ?_ ?_; rotate_left; · first | decide +kernel | rfl | simp)
    | (with_reducible refine gj_Fr.copy ?_ ?_; rotate_left; · first | decide +kernel | rfl | simp)
    | with_reducible exact fo_tr (by with_reducible assumption) (hrec2 _ _)
    | with_reducible exact fo_tr (by with_reducible assumption) (hrec10 _ _ _)

set_option maxHeartbeats 600000 in
theorem fr_B_X5_reckonShown_17 {rec2 : Int → gj_M → Option (gj_M)} {rec10 : Int → Int → gj_M → Option (gj_M)} {rec17 : Int → Int → Int → gj_M → Option (gj_M)} (hrec2 : ∀ (l1 : Int) (M : gj_M), gj_FO (fun m => m) [20] [] M (rec2 l1 M)) (hrec10 : ∀ (l1 l2 : Int) (M : gj_M), gj_FO (fun m => m) [20] [] M (rec10 l1 l2 M)) (hrec17 : ∀ (l1 l2 l3 : Int) (M : gj_M), gj_FO (fun m => m) [20] [] M (rec17 l1 l2 l3 M)) (l1 l2 l3 : Int) (M : gj_M) : gj_FO (fun m => m) [20] [] M (B_X5_reckonShown_17 rec2 rec10 rec17 l1 l2 l3 M) := by
  unfold B_X5_reckonShown_17
  have hM : gj_Fr [20] [] M M := gj_Fr.rf
  repeat' first
    | with_reducible assumption
    | with_reducible exact gj_Fr.rf
    | with_reducible exact fo_none
    | with_reducible refine fo_some ?_
    | with_reducible refine fo_ite ?_ ?_
    | with_reducible refine fo_chk ?_
    | with_reducible refine fo_let ?_ (fun _ _ => ?_)
    | with_reducible refine fo_letI (fun _ => ?_)
    | with_reducible refine fo_let2 ?_ (fun _ _ _ => ?_)
    | with_reducible refine fo_bndM (fun _ _ => ?_) (fun _ _ => ?_)
    | with_reducible refine fo_bnd (fun _ => ?_)
    | with_reducible refine fo_bnd2 (fun _ _ _ => ?_) (fun _ _ _ => ?_)
    | (with_reducible refine gj_Fr.up ?_ ?_; rotate_left; · first | decide +kernel | rfl | simp)
    | (with_reducible refine gj_Fr.put ?_ ?_; rotate_left; · first | decide +kernel | rfl | simp)
    | (with_reducible refine gj_Fr.fill ?_ ?_; rotate_left; · first | decide +kernel | rfl | simp)
    | (with_reducible refine gj_Fr.copy ?_ ?_; rotate_left; · first | decide +kernel | rfl | simp)
    | with_reducible exact fo_tr (by with_reducible assumption) (fr_J_X5_reckonShown_51 hrec2 hrec10 _ _ _)
    | with_reducible exact fo_tr (by with_reducible assumption) (hrec2 _ _)
    | with_reducible exact fo_tr (by with_reducible assumption) (hrec10 _ _ _)
    | with_reducible exact fo_tr (by with_reducible assumption) (hrec17 _ _ _ _)

theorem frL_X5_reckonShown_17 {rec2 : Int → gj_M → Option (gj_M)} {rec10 : Int → Int → gj_M → Option (gj_M)} (hrec2 : ∀ (l1 : Int) (M : gj_M), gj_FO (fun m => m) [20] [] M (rec2 l1 M)) (hrec10 : ∀ (l1 l2 : Int) (M : gj_M), gj_FO (fun m => m) [20] [] M (rec10 l1 l2 M)) : ∀ (m : Nat) (l1 l2 l3 : Int) (M : gj_M), gj_FO (fun m => m) [20] [] M (gj_it (fun _ _ _ _ => none) (B_X5_reckonShown_17 rec2 rec10) m l1 l2 l3 M)
  | 0, l1, l2, l3, M => fun r e => by cases (show (none : Option (gj_M)) = some r from e)
  | m + 1, l1, l2, l3, M => fr_B_X5_reckonShown_17 hrec2 hrec10 (fun l1 l2 l3 M => frL_X5_reckonShown_17 hrec2 hrec10 m l1 l2 l3 M) l1 l2 l3 M
set_option maxHeartbeats 600000 in
theorem fr_B_X5_reckonShown_10 {rec2 : Int → gj_M → Option (gj_M)} {rec10 : Int → Int → gj_M → Option (gj_M)} (hrec2 : ∀ (l1 : Int) (M : gj_M), gj_FO (fun m => m) [20] [] M (rec2 l1 M)) (hrec10 : ∀ (l1 l2 : Int) (M : gj_M), gj_FO (fun m => m) [20] [] M (rec10 l1 l2 M)) (l1 l2 : Int) (M : gj_M) : gj_FO (fun m => m) [20] [] M (B_X5_reckonShown_10 rec2 rec10 l1 l2 M) := by
  unfold B_X5_reckonShown_10
  have hM : gj_Fr [20] [] M M := gj_Fr.rf
  repeat' first
    | with_reducible assumption
    | with_reducible exact gj_Fr.rf
    | with_reducible exact fo_none
    | with_reducible refine fo_some ?_
    | with_reducible refine fo_ite ?_ ?_
    | with_reducible refine fo_chk ?_
    | with_reducible refine fo_let ?_ (fun _ _ => ?_)
    | with_reducible refine fo_letI (fun _ => ?_)
    | with_reducible refine fo_let2 ?_ (fun _ _ _ => ?_)
    | with_reducible refine fo_bndM (fun _ _ => ?_) (fun _ _ => ?_)
    | with_reducible refine fo_bnd (fun _ => ?_)
    | with_reducible refine fo_bnd2 (fun _ _ _ => ?_) (fun _ _ _ => ?_)
    | (with_reducible refine gj_Fr.up ?_ ?_; rotate_left; · first | decide +kernel | rfl | simp)
    | (with_reducible refine gj_Fr.put ?_ ?_; rotate_left; · first | decide +kernel | rfl | simp)
    | (with_reducible refine gj_Fr.fill ?_ ?_; rotate_left; · first | decide +kernel | rfl | simp)
    | (with_reducible refine gj_Fr.copy ?_ ?_; rotate_left; · first | decide +kernel | rfl | simp)
    | with_reducible exact fo_tr (by with_reducible assumption) (frL_X5_reckonShown_17 hrec2 hrec10 _ _ _ _ _)
    | with_reducible exact fo_tr (by with_reducible assumption) (fr_J_X5_reckonShown_57 hrec2 _ _)
    | with_reducible exact fo_tr (by with_reducible assumption) (hrec2 _ _)
    | with_reducible exact fo_tr (by with_reducible assumption) (hrec10 _ _ _)

theorem frL_X5_reckonShown_10 {rec2 : Int → gj_M → Option (gj_M)} (hrec2 : ∀ (l1 : Int) (M : gj_M), gj_FO (fun m => m) [20] [] M (rec2 l1 M)) : ∀ (m : Nat) (l1 l2 : Int) (M : gj_M), gj_FO (fun m => m) [20] [] M (gj_it (fun _ _ _ => none) (B_X5_reckonShown_10 rec2) m l1 l2 M)
  | 0, l1, l2, M => fun r e => by cases (show (none : Option (gj_M)) = some r from e)
  | m + 1, l1, l2, M => fr_B_X5_reckonShown_10 hrec2 (fun l1 l2 M => frL_X5_reckonShown_10 hrec2 m l1 l2 M) l1 l2 M
set_option maxHeartbeats 600000 in
theorem fr_B_X5_reckonShown_2 {rec2 : Int → gj_M → Option (gj_M)} (hrec2 : ∀ (l1 : Int) (M : gj_M), gj_FO (fun m => m) [20] [] M (rec2 l1 M)) (l1 : Int) (M : gj_M) : gj_FO (fun m => m) [20] [] M (B_X5_reckonShown_2 rec2 l1 M) := by
  unfold B_X5_reckonShown_2
  have hM : gj_Fr [20] [] M M := gj_Fr.rf
  repeat' first
    | with_reducible assumption
    | with_reducible exact gj_Fr.rf
    | with_reducible exact fo_none
    | with_reducible refine fo_some ?_
    | with_reducible refine fo_ite ?_ ?_
    | with_reducible refine fo_chk ?_
    | with_reducible refine fo_let ?_ (fun _ _ => ?_)
    | with_reducible refine fo_letI (fun _ => ?_)
    | with_reducible refine fo_let2 ?_ (fun _ _ _ => ?_)
    | with_reducible refine fo_bndM (fun _ _ => ?_) (fun _ _ => ?_)
    | with_reducible refine fo_bnd (fun _ => ?_)
    | with_reducible refine fo_bnd2 (fun _ _ _ => ?_) (fun _ _ _ => ?_)
    | (with_reducible refine gj_Fr.up ?_ ?_; rotate_left; · first | decide +kernel | rfl | simp)
    | (with_reducible refine gj_Fr.put ?_ ?_; rotate_left; · first | decide +kernel | rfl | simp)
    | (with_reducible refine gj_Fr.fill ?_ ?_; rotate_left; · first | decide +kernel | rfl | simp)
    | (with_reducible refine gj_Fr.copy ?_ ?_; rotate_left; · first | decide +kernel | rfl | simp)
    | with_reducible exact fo_tr (by with_reducible assumption) (frL_X5_reckonShown_10 hrec2 _ _ _ _)
    | with_reducible exact fo_tr (by with_reducible assumption) (hrec2 _ _)

theorem frL_X5_reckonShown_2 : ∀ (m : Nat) (l1 : Int) (M : gj_M), gj_FO (fun m => m) [20] [] M (gj_it (fun _ _ => none) (B_X5_reckonShown_2) m l1 M)
  | 0, l1, M => fun r e => by cases (show (none : Option (gj_M)) = some r from e)
  | m + 1, l1, M => fr_B_X5_reckonShown_2 (fun l1 M => frL_X5_reckonShown_2 m l1 M) l1 M
set_option maxHeartbeats 600000 in
theorem fr_X5_reckonShown {M : gj_M} : gj_FO (fun m => m) [20] [] M (F_X5_reckonShown M) := by
  unfold F_X5_reckonShown
  have hM : gj_Fr [20] [] M M := gj_Fr.rf
  repeat' first
    | with_reducible assumption
    | with_reducible exact gj_Fr.rf
    | with_reducible exact fo_none
    | with_reducible refine fo_some ?_
    | with_reducible refine fo_ite ?_ ?_
    | with_reducible refine fo_chk ?_
    | with_reducible refine fo_let ?_ (fun _ _ => ?_)
    | with_reducible refine fo_letI (fun _ => ?_)
    | with_reducible refine fo_let2 ?_ (fun _ _ _ => ?_)
    | with_reducible refine fo_bndM (fun _ _ => ?_) (fun _ _ => ?_)
    | with_reducible refine fo_bnd (fun _ => ?_)
    | with_reducible refine fo_bnd2 (fun _ _ _ => ?_) (fun _ _ _ => ?_)
    | (with_reducible refine gj_Fr.up ?_ ?_; rotate_left; · first | decide +kernel | rfl | simp)
    | (with_reducible refine gj_Fr.put ?_ ?_; rotate_left; · first | decide +kernel | rfl | simp)
    | (with_reducible refine gj_Fr.fill ?_ ?_; rotate_left; · first | decide +kernel | rfl | simp)
    | (with_reducible refine gj_Fr.copy ?_ ?_; rotate_left; · first | decide +kernel | rfl | simp)
    | with_reducible exact fo_tr (by with_reducible assumption) (frL_X5_reckonShown_2 _ _ _)

set_option maxHeartbeats 600000 in
theorem fr_X5_take {M : gj_M} : gj_FO (fun m => m) [15, 16, 17, 18, 19, 20] [(14, 0), (14, 1), (14, 2), (14, 3), (14, 4), (14, 5), (14, 6), (14, 7), (14, 8), (14, 9)] M (F_X5_take M) := by
  unfold F_X5_take
  have hM : gj_Fr [15, 16, 17, 18, 19, 20] [(14, 0), (14, 1), (14, 2), (14, 3), (14, 4), (14, 5), (14, 6), (14, 7), (14, 8), (14, 9)] M M := gj_Fr.rf
  repeat' first
    | with_reducible assumption
    | with_reducible exact gj_Fr.rf
    | with_reducible exact fo_none
    | with_reducible refine fo_some ?_
    | with_reducible refine fo_ite ?_ ?_
    | with_reducible refine fo_chk ?_
    | with_reducible refine fo_let ?_ (fun _ _ => ?_)
    | with_reducible refine fo_letI (fun _ => ?_)
    | with_reducible refine fo_let2 ?_ (fun _ _ _ => ?_)
    | with_reducible refine fo_bndM (fun _ _ => ?_) (fun _ _ => ?_)
    | with_reducible refine fo_bnd (fun _ => ?_)
    | with_reducible refine fo_bnd2 (fun _ _ _ => ?_) (fun _ _ _ => ?_)
    | (with_reducible refine gj_Fr.up ?_ ?_; rotate_left; · first | decide +kernel | rfl | simp)
    | (with_reducible refine gj_Fr.put ?_ ?_; rotate_left; · first | decide +kernel | rfl | simp)
    | (with_reducible refine gj_Fr.fill ?_ ?_; rotate_left; · first | decide +kernel | rfl | simp)
    | (with_reducible refine gj_Fr.copy ?_ ?_; rotate_left; · first | decide +kernel | rfl | simp)
    | (with_reducible refine gj_Fr.trans ?_ (gj_Fr.wide (gj_FOu (fr_X5_reckonShown) (by with_reducible assumption)) ?_); rotate_left; · first | decide +kernel | simp [gj_fsub])

set_option maxHeartbeats 600000 in
theorem fr_B_X0_spread_12 {rec12 : Int → Int → gj_M → Option (Int × gj_M)} (hrec12 : ∀ (l2 l3 : Int) (M : gj_M), gj_FO Prod.snd [42] [] M (rec12 l2 l3 M)) (l2 l3 : Int) (M : gj_M) : gj_FO Prod.snd [42] [] M (B_X0_spread_12 rec12 l2 l3 M) := by
  unfold B_X0_spread_12
  have hM : gj_Fr [42] [] M M := gj_Fr.rf
  repeat' first
    | with_reducible assumption
    | with_reducible exact gj_Fr.rf
    | with_reducible exact fo_none
    | with_reducible refine fo_some ?_
    | with_reducible refine fo_ite ?_ ?_
    | with_reducible refine fo_chk ?_
    | with_reducible refine fo_let ?_ (fun _ _ => ?_)
    | with_reducible refine fo_letI (fun _ => ?_)
    | with_reducible refine fo_let2 ?_ (fun _ _ _ => ?_)
    | with_reducible refine fo_bndM (fun _ _ => ?_) (fun _ _ => ?_)
    | with_reducible refine fo_bnd (fun _ => ?_)
    | with_reducible refine fo_bnd2 (fun _ _ _ => ?_) (fun _ _ _ => ?_)
    | (with_reducible refine gj_Fr.up ?_ ?_; rotate_left; · first | decide +kernel | rfl | simp)
    | (with_reducible refine gj_Fr.put ?_ ?_; rotate_left; · first | decide +kernel | rfl | simp)
    | (with_reducible refine gj_Fr.fill ?_ ?_; rotate_left; · first | decide +kernel | rfl | simp)
    | (with_reducible refine gj_Fr.copy ?_ ?_; rotate_left; · first | decide +kernel | rfl | simp)
    | with_reducible exact fo_tr (by with_reducible assumption) (hrec12 _ _ _)

theorem frL_X0_spread_12 : ∀ (m : Nat) (l2 l3 : Int) (M : gj_M), gj_FO Prod.snd [42] [] M (gj_it (fun _ _ _ => none) (B_X0_spread_12) m l2 l3 M)
  | 0, l2, l3, M => fun r e => by cases (show (none : Option (Int × gj_M)) = some r from e)
  | m + 1, l2, l3, M => fr_B_X0_spread_12 (fun l2 l3 M => frL_X0_spread_12 m l2 l3 M) l2 l3 M
set_option maxHeartbeats 600000 in
theorem fr_X0_spread (a1 : Int) {M : gj_M} : gj_FO Prod.snd [42] [] M (F_X0_spread a1 M) := by
  unfold F_X0_spread
  have hM : gj_Fr [42] [] M M := gj_Fr.rf
  repeat' first
    | with_reducible assumption
    | with_reducible exact gj_Fr.rf
    | with_reducible exact fo_none
    | with_reducible refine fo_some ?_
    | with_reducible refine fo_ite ?_ ?_
    | with_reducible refine fo_chk ?_
    | with_reducible refine fo_let ?_ (fun _ _ => ?_)
    | with_reducible refine fo_letI (fun _ => ?_)
    | with_reducible refine fo_let2 ?_ (fun _ _ _ => ?_)
    | with_reducible refine fo_bndM (fun _ _ => ?_) (fun _ _ => ?_)
    | with_reducible refine fo_bnd (fun _ => ?_)
    | with_reducible refine fo_bnd2 (fun _ _ _ => ?_) (fun _ _ _ => ?_)
    | (with_reducible refine gj_Fr.up ?_ ?_; rotate_left; · first | decide +kernel | rfl | simp)
    | (with_reducible refine gj_Fr.put ?_ ?_; rotate_left; · first | decide +kernel | rfl | simp)
    | (with_reducible refine gj_Fr.fill ?_ ?_; rotate_left; · first | decide +kernel | rfl | simp)
    | (with_reducible refine gj_Fr.copy ?_ ?_; rotate_left; · first | decide +kernel | rfl | simp)
    | with_reducible exact fo_tr (by with_reducible assumption) (frL_X0_spread_12 _ _ _ _)

set_option maxHeartbeats 600000 in
theorem fr_J_X0_choose_49 {rec4 : Int → Int → gj_M → Option (gj_M)} (hrec4 : ∀ (l1 l2 : Int) (M : gj_M), gj_FO (fun m => m) [42, 43] [] M (rec4 l1 l2 M)) (l1 l2 : Int) (M : gj_M) : gj_FO (fun m => m) [42, 43] [] M (J_X0_choose_49 rec4 l1 l2 M) := by
  unfold J_X0_choose_49
  have hM : gj_Fr [42, 43] [] M M := gj_Fr.rf
  repeat' first
    | with_reducible assumption
    | with_reducible exact gj_Fr.rf
    | with_reducible exact fo_none
    | with_reducible refine fo_some ?_
    | with_reducible refine fo_ite ?_ ?_
    | with_reducible refine fo_chk ?_
    | with_reducible refine fo_let ?_ (fun _ _ => ?_)
    | with_reducible refine fo_letI (fun _ => ?_)
    | with_reducible refine fo_let2 ?_ (fun _ _ _ => ?_)
    | with_reducible refine fo_bndM (fun _ _ => ?_) (fun _ _ => ?_)
    | with_reducible refine fo_bnd (fun _ => ?_)
    | with_reducible refine fo_bnd2 (fun _ _ _ => ?_) (fun _ _ _ => ?_)
    | (with_reducible refine gj_Fr.up ?_ ?_; rotate_left; · first | decide +kernel | rfl | simp)
    | (with_reducible refine gj_Fr.put ?_ ?_; rotate_left; · first | decide +kernel | rfl | simp)
    | (with_reducible refine gj_Fr.fill ?_ ?_; rotate_left; · first | decide +kernel | rfl | simp)
    | (with_reducible refine gj_Fr.copy ?_ ?_; rotate_left; · first | decide +kernel | rfl | simp)
    | with_reducible exact fo_tr (by with_reducible assumption) (hrec4 _ _ _)
    | (with_reducible refine gj_Fr.trans ?_ (gj_Fr.wide (gj_FOu (fr_X0_spread _) (by with_reducible assumption)) ?_); rotate_left; · first | decide +kernel | simp [gj_fsub])

set_option maxHeartbeats 600000 in
theorem fr_B_X0_choose_4 {rec4 : Int → Int → gj_M → Option (gj_M)} (hrec4 : ∀ (l1 l2 : Int) (M : gj_M), gj_FO (fun m => m) [42, 43] [] M (rec4 l1 l2 M)) (l1 l2 : Int) (M : gj_M) : gj_FO (fun m => m) [42, 43] [] M (B_X0_choose_4 rec4 l1 l2 M) := by
  unfold B_X0_choose_4
  have hM : gj_Fr [42, 43] [] M M := gj_Fr.rf
  repeat' first
    | with_reducible assumption
    | with_reducible exact gj_Fr.rf
    | with_reducible exact fo_none
    | with_reducible refine fo_some ?_
    | with_reducible refine fo_ite ?_ ?_
    | with_reducible refine fo_chk ?_
    | with_reducible refine fo_let ?_ (fun _ _ => ?_)
    | with_reducible refine fo_letI (fun _ => ?_)
    | with_reducible refine fo_let2 ?_ (fun _ _ _ => ?_)
    | with_reducible refine fo_bndM (fun _ _ => ?_) (fun _ _ => ?_)
    | with_reducible refine fo_bnd (fun _ => ?_)
    | with_reducible refine fo_bnd2 (fun _ _ _ => ?_) (fun _ _ _ => ?_)
    | (with_reducible refine gj_Fr.up ?_ ?_; rotate_left; · first | decide +kernel | rfl | simp)
    | (with_reducible refine gj_Fr.put ?_ ?_; rotate_left; · first | decide +kernel | rfl | simp)
    | (with_reducible refine gj_Fr.fill ?_ ?_; rotate_left; · first | decide +kernel | rfl | simp)
    | (with_reducible refine gj_Fr.copy ?_ ?_; rotate_left; · first | decide +kernel | rfl | simp)
    | with_reducible exact fo_tr (by with_reducible assumption) (fr_J_X0_choose_49 hrec4 _ _ _)
    | with_reducible exact fo_tr (by with_reducible assumption) (hrec4 _ _ _)
    | (with_reducible refine gj_Fr.trans ?_ (gj_Fr.wide (gj_FOu (fr_X0_spread _) (by with_reducible assumption)) ?_); rotate_left; · first | decide +kernel | simp [gj_fsub])

theorem frL_X0_choose_4 : ∀ (m : Nat) (l1 l2 : Int) (M : gj_M), gj_FO (fun m => m) [42, 43] [] M (gj_it (fun _ _ _ => none) (B_X0_choose_4) m l1 l2 M)
  | 0, l1, l2, M => fun r e => by cases (show (none : Option (gj_M)) = some r from e)
  | m + 1, l1, l2, M => fr_B_X0_choose_4 (fun l1 l2 M => frL_X0_choose_4 m l1 l2 M) l1 l2 M
set_option maxHeartbeats 600000 in
theorem fr_X0_choose {M : gj_M} : gj_FO (fun m => m) [42, 43] [] M (F_X0_choose M) := by
  unfold F_X0_choose
  have hM : gj_Fr [42, 43] [] M M := gj_Fr.rf
  repeat' first
    | with_reducible assumption
    | with_reducible exact gj_Fr.rf
    | with_reducible exact fo_none
    | with_reducible refine fo_some ?_
    | with_reducible refine fo_ite ?_ ?_
    | with_reducible refine fo_chk ?_
    | with_reducible refine fo_let ?_ (fun _ _ => ?_)
    | with_reducible refine fo_letI (fun _ => ?_)
    | with_reducible refine fo_let2 ?_ (fun _ _ _ => ?_)
    | with_reducible refine fo_bndM (fun _ _ => ?_) (fun _ _ => ?_)
    | with_reducible refine fo_bnd (fun _ => ?_)
    | with_reducible refine fo_bnd2 (fun _ _ _ => ?_) (fun _ _ _ => ?_)
    | (with_reducible refine gj_Fr.up ?_ ?_; rotate_left; · first | decide +kernel | rfl | simp)
    | (with_reducible refine gj_Fr.put ?_ ?_; rotate_left; · first | decide +kernel | rfl | simp)
    | (with_reducible refine gj_Fr.fill ?_ ?_; rotate_left; · first | decide +kernel | rfl | simp)
    | (with_reducible refine gj_Fr.copy ?_ ?_; rotate_left; · first | decide +kernel | rfl | simp)
    | with_reducible exact fo_tr (by with_reducible assumption) (frL_X0_choose_4 _ _ _ _)
    | (with_reducible refine gj_Fr.trans ?_ (gj_Fr.wide (gj_FOu (fr_X0_spread _) (by with_reducible assumption)) ?_); rotate_left; · first | decide +kernel | simp [gj_fsub])

set_option maxHeartbeats 600000 in
theorem fr_X1_clear {M : gj_M} : gj_Fr [] [(29, 1), (29, 2)] M (f_X1_clear M) := by
  unfold f_X1_clear
  have hM : gj_Fr [] [(29, 1), (29, 2)] M M := gj_Fr.rf
  repeat' first
    | with_reducible assumption
    | with_reducible exact gj_Fr.rf
    | with_reducible refine ft_ite ?_ ?_
    | with_reducible refine ft_let ?_ (fun _ _ => ?_)
    | with_reducible refine ft_letI (fun _ => ?_)
    | with_reducible refine ft_let2 ?_ (fun _ _ _ => ?_)
    | with_reducible refine fu_ite ?_ ?_
    | with_reducible refine fu_let ?_ (fun _ _ => ?_)
    | with_reducible refine fu_letI (fun _ => ?_)
    | with_reducible refine fu_let2 ?_ (fun _ _ _ => ?_)
    | (with_reducible refine gj_Fr.up ?_ ?_; rotate_left; · first | decide +kernel | rfl | simp)
    | (with_reducible refine gj_Fr.put ?_ ?_; rotate_left; · first | decide +kernel | rfl | simp)
    | (with_reducible refine gj_Fr.fill ?_ ?_; rotate_left; · first | decide +kernel | rfl | simp)
    | (with_reducible refine gj_Fr.copy ?_ ?_; rotate_left; · first | decide +kernel | rfl | simp)

set_option maxHeartbeats 600000 in
theorem fr_X3_begin {M : gj_M} : gj_Fr [22, 23, 24, 25, 26, 27, 28] [(21, 0), (21, 1), (21, 2), (29, 1), (29, 2)] M (f_X3_begin M) := by
  unfold f_X3_begin
  have hM : gj_Fr [22, 23, 24, 25, 26, 27, 28] [(21, 0), (21, 1), (21, 2), (29, 1), (29, 2)] M M := gj_Fr.rf
  repeat' first
    | with_reducible assumption
    | with_reducible exact gj_Fr.rf
    | with_reducible refine ft_ite ?_ ?_
    | with_reducible refine ft_let ?_ (fun _ _ => ?_)
    | with_reducible refine ft_letI (fun _ => ?_)
    | with_reducible refine ft_let2 ?_ (fun _ _ _ => ?_)
    | with_reducible refine fu_ite ?_ ?_
    | with_reducible refine fu_let ?_ (fun _ _ => ?_)
    | with_reducible refine fu_letI (fun _ => ?_)
    | with_reducible refine fu_let2 ?_ (fun _ _ _ => ?_)
    | (with_reducible refine gj_Fr.up ?_ ?_; rotate_left; · first | decide +kernel | rfl | simp)
    | (with_reducible refine gj_Fr.put ?_ ?_; rotate_left; · first | decide +kernel | rfl | simp)
    | (with_reducible refine gj_Fr.fill ?_ ?_; rotate_left; · first | decide +kernel | rfl | simp)
    | (with_reducible refine gj_Fr.copy ?_ ?_; rotate_left; · first | decide +kernel | rfl | simp)
    | (with_reducible refine gj_Fr.trans ?_ (gj_Fr.wide (fr_X1_clear) ?_); rotate_left; · first | decide +kernel | simp [gj_fsub])

set_option maxHeartbeats 600000 in
theorem fr_X11_village {M : gj_M} : gj_FO Prod.snd [4, 5, 6, 7, 8, 11, 12, 13, 15, 16, 17, 18, 19, 20, 22, 23, 24, 25, 26, 27, 28, 42, 43, 77, 78] [(1, 1), (3, 0), (3, 1), (3, 2), (3, 3), (3, 4), (3, 5), (3, 6), (3, 7), (3, 8), (3, 9), (10, 5), (10, 6), (10, 7), (10, 8), (10, 9), (14, 0), (14, 1), (14, 2), (14, 3), (14, 4), (14, 5), (14, 6), (14, 7), (14, 8), (14, 9), (21, 0), (21, 1), (21, 2), (29, 1), (29, 2)] M (F_X11_village M) := by
  unfold F_X11_village
  have hM : gj_Fr [4, 5, 6, 7, 8, 11, 12, 13, 15, 16, 17, 18, 19, 20, 22, 23, 24, 25, 26, 27, 28, 42, 43, 77, 78] [(1, 1), (3, 0), (3, 1), (3, 2), (3, 3), (3, 4), (3, 5), (3, 6), (3, 7), (3, 8), (3, 9), (10, 5), (10, 6), (10, 7), (10, 8), (10, 9), (14, 0), (14, 1), (14, 2), (14, 3), (14, 4), (14, 5), (14, 6), (14, 7), (14, 8), (14, 9), (21, 0), (21, 1), (21, 2), (29, 1), (29, 2)] M M := gj_Fr.rf
  repeat' first
    | with_reducible assumption
    | with_reducible exact gj_Fr.rf
    | with_reducible exact fo_none
    | with_reducible refine fo_some ?_
    | with_reducible refine fo_ite ?_ ?_
    | with_reducible refine fo_chk ?_
    | with_reducible refine fo_let ?_ (fun _ _ => ?_)
    | with_reducible refine fo_letI (fun _ => ?_)
    | with_reducible refine fo_let2 ?_ (fun _ _ _ => ?_)
    | with_reducible refine fo_bndM (fun _ _ => ?_) (fun _ _ => ?_)
    | with_reducible refine fo_bnd (fun _ => ?_)
    | with_reducible refine fo_bnd2 (fun _ _ _ => ?_) (fun _ _ _ => ?_)
    | (with_reducible refine gj_Fr.up ?_ ?_; rotate_left; · first | decide +kernel | rfl | simp)
    | (with_reducible refine gj_Fr.put ?_ ?_; rotate_left; · first | decide +kernel | rfl | simp)
    | (with_reducible refine gj_Fr.fill ?_ ?_; rotate_left; · first | decide +kernel | rfl | simp)
    | (with_reducible refine gj_Fr.copy ?_ ?_; rotate_left; · first | decide +kernel | rfl | simp)
    | (with_reducible refine gj_Fr.trans ?_ (gj_Fr.wide (gj_FOu (fr_X6_read) (by with_reducible assumption)) ?_); rotate_left; · first | decide +kernel | simp [gj_fsub])
    | (with_reducible refine gj_Fr.trans ?_ (gj_Fr.wide (gj_FOu (fr_X5_take) (by with_reducible assumption)) ?_); rotate_left; · first | decide +kernel | simp [gj_fsub])
    | (with_reducible refine gj_Fr.trans ?_ (gj_Fr.wide (fr_X9_cutTo _) ?_); rotate_left; · first | decide +kernel | simp [gj_fsub])
    | (with_reducible refine gj_Fr.trans ?_ (gj_Fr.wide (fr_X11_refuse _) ?_); rotate_left; · first | decide +kernel | simp [gj_fsub])
    | (with_reducible refine gj_Fr.trans ?_ (gj_Fr.wide (fr_X3_begin) ?_); rotate_left; · first | decide +kernel | simp [gj_fsub])
    | (with_reducible refine gj_Fr.trans ?_ (gj_Fr.wide (gj_FOu (fr_X0_choose) (by with_reducible assumption)) ?_); rotate_left; · first | decide +kernel | simp [gj_fsub])

set_option maxHeartbeats 600000 in
theorem fr_J_X2_look_94 {rec2 : Int → Int → gj_M → Option (gj_M)} (hrec2 : ∀ (l1 l2 : Int) (M : gj_M), gj_FO (fun m => m) [36, 37] [] M (rec2 l1 l2 M)) (l1 l2 : Int) (M : gj_M) : gj_FO (fun m => m) [36, 37] [] M (J_X2_look_94 rec2 l1 l2 M) := by
  unfold J_X2_look_94
  have hM : gj_Fr [36, 37] [] M M := gj_Fr.rf
  repeat' first
    | with_reducible assumption
    | with_reducible exact gj_Fr.rf
    | with_reducible exact fo_none
    | with_reducible refine fo_some ?_
    | with_reducible refine fo_ite ?_ ?_
    | with_reducible refine fo_chk ?_
    | with_reducible refine fo_let ?_ (fun _ _ => ?_)
    | with_reducible refine fo_letI (fun _ => ?_)
    | with_reducible refine fo_let2 ?_ (fun _ _ _ => ?_)
    | with_reducible refine fo_bndM (fun _ _ => ?_) (fun _ _ => ?_)
    | with_reducible refine fo_bnd (fun _ => ?_)
    | with_reducible refine fo_bnd2 (fun _ _ _ => ?_) (fun _ _ _ => ?_)
    | (with_reducible refine gj_Fr.up ?_ ?_; rotate_left; · first | decide +kernel | rfl | simp)
    | (with_reducible refine gj_Fr.put ?_ ?_; rotate_left; · first | decide +kernel | rfl | simp)
    | (with_reducible refine gj_Fr.fill ?_ ?_; rotate_left; · first | decide +kernel | rfl | simp)
    | (with_reducible refine gj_Fr.copy ?_ ?_; rotate_left; · first | decide +kernel | rfl | simp)
    | with_reducible exact fo_tr (by with_reducible assumption) (hrec2 _ _ _)

set_option maxHeartbeats 600000 in
theorem fr_J_X2_look_85 {rec2 : Int → Int → gj_M → Option (gj_M)} {rec9 : Int → Int → Int → gj_M → Option (gj_M)} (hrec2 : ∀ (l1 l2 : Int) (M : gj_M), gj_FO (fun m => m) [36, 37] [] M (rec2 l1 l2 M)) (hrec9 : ∀ (l1 l2 l3 : Int) (M : gj_M), gj_FO (fun m => m) [36, 37] [] M (rec9 l1 l2 l3 M)) (l1 l2 l3 s1 s2 : Int) (M : gj_M) : gj_FO (fun m => m) [36, 37] [] M (J_X2_look_85 rec2 rec9 l1 l2 l3 s1 s2 M) := by
  unfold J_X2_look_85
  have hM : gj_Fr [36, 37] [] M M := gj_Fr.rf
  repeat' first
    | with_reducible assumption
    | with_reducible exact gj_Fr.rf
    | with_reducible exact fo_none
    | with_reducible refine fo_some ?_
    | with_reducible refine fo_ite ?_ ?_
    | with_reducible refine fo_chk ?_
    | with_reducible refine fo_let ?_ (fun _ _ => ?_)
    | with_reducible refine fo_letI (fun _ => ?_)
    | with_reducible refine fo_let2 ?_ (fun _ _ _ => ?_)
    | with_reducible refine fo_bndM (fun _ _ => ?_) (fun _ _ => ?_)
    | with_reducible refine fo_bnd (fun _ => ?_)
    | with_reducible refine fo_bnd2 (fun _ _ _ => ?_) (fun _ _ _ => ?_)
    | (with_reducible refine gj_Fr.up ?_ ?_; rotate_left; · first | decide +kernel | rfl | simp)
    | (with_reducible refine gj_Fr.put ?_ ?_; rotate_left; · first | decide +kernel | rfl | simp)
    | (with_reducible refine gj_Fr.fill ?_ ?_; rotate_left; · first | decide +kernel | rfl | simp)
    | (with_reducible refine gj_Fr.copy ?_ ?_; rotate_left; · first | decide +kernel | rfl | simp)
    | with_reducible exact fo_tr (by with_reducible assumption) (hrec2 _ _ _)
    | with_reducible exact fo_tr (by with_reducible assumption) (hrec9 _ _ _ _)

set_option maxHeartbeats 600000 in
theorem fr_B_X2_look_9 {rec2 : Int → Int → gj_M → Option (gj_M)} {rec9 : Int → Int → Int → gj_M → Option (gj_M)} (hrec2 : ∀ (l1 l2 : Int) (M : gj_M), gj_FO (fun m => m) [36, 37] [] M (rec2 l1 l2 M)) (hrec9 : ∀ (l1 l2 l3 : Int) (M : gj_M), gj_FO (fun m => m) [36, 37] [] M (rec9 l1 l2 l3 M)) (l1 l2 l3 : Int) (M : gj_M) : gj_FO (fun m => m) [36, 37] [] M (B_X2_look_9 rec2 rec9 l1 l2 l3 M) := by
  unfold B_X2_look_9
  have hM : gj_Fr [36, 37] [] M M := gj_Fr.rf
  repeat' first
    | with_reducible assumption
    | with_reducible exact gj_Fr.rf
    | with_reducible exact fo_none
    | with_reducible refine fo_some ?_
    | with_reducible refine fo_ite ?_ ?_
    | with_reducible refine fo_chk ?_
    | with_reducible refine fo_let ?_ (fun _ _ => ?_)
    | with_reducible refine fo_letI (fun _ => ?_)
    | with_reducible refine fo_let2 ?_ (fun _ _ _ => ?_)
    | with_reducible refine fo_bndM (fun _ _ => ?_) (fun _ _ => ?_)
    | with_reducible refine fo_bnd (fun _ => ?_)
    | with_reducible refine fo_bnd2 (fun _ _ _ => ?_) (fun _ _ _ => ?_)
    | (with_reducible refine gj_Fr.up ?_ ?_; rotate_left; · first | decide +kernel | rfl | simp)
    | (with_reducible refine gj_Fr.put ?_ ?_; rotate_left; · first | decide +kernel | rfl | simp)
    | (with_reducible refine gj_Fr.fill ?_ ?_; rotate_left; · first | decide +kernel | rfl | simp)
    | (with_reducible refine gj_Fr.copy ?_ ?_; rotate_left; · first | decide +kernel | rfl | simp)
    | with_reducible exact fo_tr (by with_reducible assumption) (fr_J_X2_look_85 hrec2 hrec9 _ _ _ _ _ _)
    | with_reducible exact fo_tr (by with_reducible assumption) (fr_J_X2_look_94 hrec2 _ _ _)
    | with_reducible exact fo_tr (by with_reducible assumption) (hrec2 _ _ _)
    | with_reducible exact fo_tr (by with_reducible assumption) (hrec9 _ _ _ _)

theorem frL_X2_look_9 {rec2 : Int → Int → gj_M → Option (gj_M)} (hrec2 : ∀ (l1 l2 : Int) (M : gj_M), gj_FO (fun m => m) [36, 37] [] M (rec2 l1 l2 M)) : ∀ (m : Nat) (l1 l2 l3 : Int) (M : gj_M), gj_FO (fun m => m) [36, 37] [] M (gj_it (fun _ _ _ _ => none) (B_X2_look_9 rec2) m l1 l2 l3 M)
  | 0, l1, l2, l3, M => fun r e => by cases (show (none : Option (gj_M)) = some r from e)
  | m + 1, l1, l2, l3, M => fr_B_X2_look_9 hrec2 (fun l1 l2 l3 M => frL_X2_look_9 hrec2 m l1 l2 l3 M) l1 l2 l3 M
set_option maxHeartbeats 600000 in
theorem fr_B_X2_look_2 {rec2 : Int → Int → gj_M → Option (gj_M)} (hrec2 : ∀ (l1 l2 : Int) (M : gj_M), gj_FO (fun m => m) [36, 37] [] M (rec2 l1 l2 M)) (l1 l2 : Int) (M : gj_M) : gj_FO (fun m => m) [36, 37] [] M (B_X2_look_2 rec2 l1 l2 M) := by
  unfold B_X2_look_2
  have hM : gj_Fr [36, 37] [] M M := gj_Fr.rf
  repeat' first
    | with_reducible assumption
    | with_reducible exact gj_Fr.rf
    | with_reducible exact fo_none
    | with_reducible refine fo_some ?_
    | with_reducible refine fo_ite ?_ ?_
    | with_reducible refine fo_chk ?_
    | with_reducible refine fo_let ?_ (fun _ _ => ?_)
    | with_reducible refine fo_letI (fun _ => ?_)
    | with_reducible refine fo_let2 ?_ (fun _ _ _ => ?_)
    | with_reducible refine fo_bndM (fun _ _ => ?_) (fun _ _ => ?_)
    | with_reducible refine fo_bnd (fun _ => ?_)
    | with_reducible refine fo_bnd2 (fun _ _ _ => ?_) (fun _ _ _ => ?_)
    | (with_reducible refine gj_Fr.up ?_ ?_; rotate_left; · first | decide +kernel | rfl | simp)
    | (with_reducible refine gj_Fr.put ?_ ?_; rotate_left; · first | decide +kernel | rfl | simp)
    | (with_reducible refine gj_Fr.fill ?_ ?_; rotate_left; · first | decide +kernel | rfl | simp)
    | (with_reducible refine gj_Fr.copy ?_ ?_; rotate_left; · first | decide +kernel | rfl | simp)
    | with_reducible exact fo_tr (by with_reducible assumption) (frL_X2_look_9 hrec2 _ _ _ _ _)
    | with_reducible exact fo_tr (by with_reducible assumption) (hrec2 _ _ _)

theorem frL_X2_look_2 : ∀ (m : Nat) (l1 l2 : Int) (M : gj_M), gj_FO (fun m => m) [36, 37] [] M (gj_it (fun _ _ _ => none) (B_X2_look_2) m l1 l2 M)
  | 0, l1, l2, M => fun r e => by cases (show (none : Option (gj_M)) = some r from e)
  | m + 1, l1, l2, M => fr_B_X2_look_2 (fun l1 l2 M => frL_X2_look_2 m l1 l2 M) l1 l2 M
set_option maxHeartbeats 600000 in
theorem fr_X2_look (a1 : Int) {M : gj_M} : gj_FO (fun m => m) [36, 37] [] M (F_X2_look a1 M) := by
  unfold F_X2_look
  have hM : gj_Fr [36, 37] [] M M := gj_Fr.rf
  repeat' first
    | with_reducible assumption
    | with_reducible exact gj_Fr.rf
    | with_reducible exact fo_none
    | with_reducible refine fo_some ?_
    | with_reducible refine fo_ite ?_ ?_
    | with_reducible refine fo_chk ?_
    | with_reducible refine fo_let ?_ (fun _ _ => ?_)
    | with_reducible refine fo_letI (fun _ => ?_)
    | with_reducible refine fo_let2 ?_ (fun _ _ _ => ?_)
    | with_reducible refine fo_bndM (fun _ _ => ?_) (fun _ _ => ?_)
    | with_reducible refine fo_bnd (fun _ => ?_)
    | with_reducible refine fo_bnd2 (fun _ _ _ => ?_) (fun _ _ _ => ?_)
    | (with_reducible refine gj_Fr.up ?_ ?_; rotate_left; · first | decide +kernel | rfl | simp)
    | (with_reducible refine gj_Fr.put ?_ ?_; rotate_left; · first | decide +kernel | rfl | simp)
    | (with_reducible refine gj_Fr.fill ?_ ?_; rotate_left; · first | decide +kernel | rfl | simp)
    | (with_reducible refine gj_Fr.copy ?_ ?_; rotate_left; · first | decide +kernel | rfl | simp)
    | with_reducible exact fo_tr (by with_reducible assumption) (frL_X2_look_2 _ _ _ _)

set_option maxHeartbeats 600000 in
theorem fr_X11_sooner (a1 : Int) (a2 : Int) (a3 : Int) {M : gj_M} : gj_FO Prod.snd [36, 37] [] M (F_X11_sooner a1 a2 a3 M) := by
  unfold F_X11_sooner
  have hM : gj_Fr [36, 37] [] M M := gj_Fr.rf
  repeat' first
    | with_reducible assumption
    | with_reducible exact gj_Fr.rf
    | with_reducible exact fo_none
    | with_reducible refine fo_some ?_
    | with_reducible refine fo_ite ?_ ?_
    | with_reducible refine fo_chk ?_
    | with_reducible refine fo_let ?_ (fun _ _ => ?_)
    | with_reducible refine fo_letI (fun _ => ?_)
    | with_reducible refine fo_let2 ?_ (fun _ _ _ => ?_)
    | with_reducible refine fo_bndM (fun _ _ => ?_) (fun _ _ => ?_)
    | with_reducible refine fo_bnd (fun _ => ?_)
    | with_reducible refine fo_bnd2 (fun _ _ _ => ?_) (fun _ _ _ => ?_)
    | (with_reducible refine gj_Fr.up ?_ ?_; rotate_left; · first | decide +kernel | rfl | simp)
    | (with_reducible refine gj_Fr.put ?_ ?_; rotate_left; · first | decide +kernel | rfl | simp)
    | (with_reducible refine gj_Fr.fill ?_ ?_; rotate_left; · first | decide +kernel | rfl | simp)
    | (with_reducible refine gj_Fr.copy ?_ ?_; rotate_left; · first | decide +kernel | rfl | simp)
    | (with_reducible refine gj_Fr.trans ?_ (gj_Fr.wide (gj_FOu (fr_X2_look _) (by with_reducible assumption)) ?_); rotate_left; · first | decide +kernel | simp [gj_fsub])

set_option maxHeartbeats 600000 in
theorem fr_J_X4_enter_123 (l1 : Int) (M : gj_M) : gj_FO (fun m => m) [32, 33, 34] [(31, 5), (31, 6), (31, 7), (31, 8), (31, 9), (31, 10)] M (J_X4_enter_123 l1 M) := by
  unfold J_X4_enter_123
  have hM : gj_Fr [32, 33, 34] [(31, 5), (31, 6), (31, 7), (31, 8), (31, 9), (31, 10)] M M := gj_Fr.rf
  repeat' first
    | with_reducible assumption
    | with_reducible exact gj_Fr.rf
    | with_reducible exact fo_none
    | with_reducible refine fo_some ?_
    | with_reducible refine fo_ite ?_ ?_
    | with_reducible refine fo_chk ?_
    | with_reducible refine fo_let ?_ (fun _ _ => ?_)
    | with_reducible refine fo_letI (fun _ => ?_)
    | with_reducible refine fo_let2 ?_ (fun _ _ _ => ?_)
    | with_reducible refine fo_bndM (fun _ _ => ?_) (fun _ _ => ?_)
    | with_reducible refine fo_bnd (fun _ => ?_)
    | with_reducible refine fo_bnd2 (fun _ _ _ => ?_) (fun _ _ _ => ?_)
    | (with_reducible refine gj_Fr.up ?_ ?_; rotate_left; · first | decide +kernel | rfl | simp)
    | (with_reducible refine gj_Fr.put ?_ ?_; rotate_left; · first | decide +kernel | rfl | simp)
    | (with_reducible refine gj_Fr.fill ?_ ?_; rotate_left; · first | decide +kernel | rfl | simp)
    | (with_reducible refine gj_Fr.copy ?_ ?_; rotate_left; · first | decide +kernel | rfl | simp)

set_option maxHeartbeats 600000 in
theorem fr_B_X4_enter_33 {rec33 : Int → Int → gj_M → Option (gj_M)} (hrec33 : ∀ (l1 l2 : Int) (M : gj_M), gj_FO (fun m => m) [32, 33, 34] [(31, 5), (31, 6), (31, 7), (31, 8), (31, 9), (31, 10)] M (rec33 l1 l2 M)) (l1 l2 : Int) (M : gj_M) : gj_FO (fun m => m) [32, 33, 34] [(31, 5), (31, 6), (31, 7), (31, 8), (31, 9), (31, 10)] M (B_X4_enter_33 rec33 l1 l2 M) := by
  unfold B_X4_enter_33
  have hM : gj_Fr [32, 33, 34] [(31, 5), (31, 6), (31, 7), (31, 8), (31, 9), (31, 10)] M M := gj_Fr.rf
  repeat' first
    | with_reducible assumption
    | with_reducible exact gj_Fr.rf
    | with_reducible exact fo_none
    | with_reducible refine fo_some ?_
    | with_reducible refine fo_ite ?_ ?_
    | with_reducible refine fo_chk ?_
    | with_reducible refine fo_let ?_ (fun _ _ => ?_)
    | with_reducible refine fo_letI (fun _ => ?_)
    | with_reducible refine fo_let2 ?_ (fun _ _ _ => ?_)
    | with_reducible refine fo_bndM (fun _ _ => ?_) (fun _ _ => ?_)
    | with_reducible refine fo_bnd (fun _ => ?_)
    | with_reducible refine fo_bnd2 (fun _ _ _ => ?_) (fun _ _ _ => ?_)
    | (with_reducible refine gj_Fr.up ?_ ?_; rotate_left; · first | decide +kernel | rfl | simp)
    | (with_reducible refine gj_Fr.put ?_ ?_; rotate_left; · first | decide +kernel | rfl | simp)
    | (with_reducible refine gj_Fr.fill ?_ ?_; rotate_left; · first | decide +kernel | rfl | simp)
    | (with_reducible refine gj_Fr.copy ?_ ?_; rotate_left; · first | decide +kernel | rfl | simp)
    | with_reducible exact fo_tr (by with_reducible assumption) (fr_J_X4_enter_123 _ _)
    | with_reducible exact fo_tr (by with_reducible assumption) (hrec33 _ _ _)

theorem frL_X4_enter_33 : ∀ (m : Nat) (l1 l2 : Int) (M : gj_M), gj_FO (fun m => m) [32, 33, 34] [(31, 5), (31, 6), (31, 7), (31, 8), (31, 9), (31, 10)] M (gj_it (fun _ _ _ => none) (B_X4_enter_33) m l1 l2 M)
  | 0, l1, l2, M => fun r e => by cases (show (none : Option (gj_M)) = some r from e)
  | m + 1, l1, l2, M => fr_B_X4_enter_33 (fun l1 l2 M => frL_X4_enter_33 m l1 l2 M) l1 l2 M
set_option maxHeartbeats 600000 in
theorem fr_J_X4_enter_28 (l1 s1 : Int) (M : gj_M) : gj_FO (fun m => m) [32, 33, 34] [(31, 5), (31, 6), (31, 7), (31, 8), (31, 9), (31, 10)] M (J_X4_enter_28 l1 s1 M) := by
  unfold J_X4_enter_28
  have hM : gj_Fr [32, 33, 34] [(31, 5), (31, 6), (31, 7), (31, 8), (31, 9), (31, 10)] M M := gj_Fr.rf
  repeat' first
    | with_reducible assumption
    | with_reducible exact gj_Fr.rf
    | with_reducible exact fo_none
    | with_reducible refine fo_some ?_
    | with_reducible refine fo_ite ?_ ?_
    | with_reducible refine fo_chk ?_
    | with_reducible refine fo_let ?_ (fun _ _ => ?_)
    | with_reducible refine fo_letI (fun _ => ?_)
    | with_reducible refine fo_let2 ?_ (fun _ _ _ => ?_)
    | with_reducible refine fo_bndM (fun _ _ => ?_) (fun _ _ => ?_)
    | with_reducible refine fo_bnd (fun _ => ?_)
    | with_reducible refine fo_bnd2 (fun _ _ _ => ?_) (fun _ _ _ => ?_)
    | (with_reducible refine gj_Fr.up ?_ ?_; rotate_left; · first | decide +kernel | rfl | simp)
    | (with_reducible refine gj_Fr.put ?_ ?_; rotate_left; · first | decide +kernel | rfl | simp)
    | (with_reducible refine gj_Fr.fill ?_ ?_; rotate_left; · first | decide +kernel | rfl | simp)
    | (with_reducible refine gj_Fr.copy ?_ ?_; rotate_left; · first | decide +kernel | rfl | simp)
    | with_reducible exact fo_tr (by with_reducible assumption) (frL_X4_enter_33 _ _ _ _)

set_option maxHeartbeats 600000 in
theorem fr_X4_enter (a1 : Int) {M : gj_M} : gj_FO (fun m => m) [32, 33, 34] [(31, 5), (31, 6), (31, 7), (31, 8), (31, 9), (31, 10)] M (F_X4_enter a1 M) := by
  unfold F_X4_enter
  have hM : gj_Fr [32, 33, 34] [(31, 5), (31, 6), (31, 7), (31, 8), (31, 9), (31, 10)] M M := gj_Fr.rf
  repeat' first
    | with_reducible assumption
    | with_reducible exact gj_Fr.rf
    | with_reducible exact fo_none
    | with_reducible refine fo_some ?_
    | with_reducible refine fo_ite ?_ ?_
    | with_reducible refine fo_chk ?_
    | with_reducible refine fo_let ?_ (fun _ _ => ?_)
    | with_reducible refine fo_letI (fun _ => ?_)
    | with_reducible refine fo_let2 ?_ (fun _ _ _ => ?_)
    | with_reducible refine fo_bndM (fun _ _ => ?_) (fun _ _ => ?_)
    | with_reducible refine fo_bnd (fun _ => ?_)
    | with_reducible refine fo_bnd2 (fun _ _ _ => ?_) (fun _ _ _ => ?_)
    | (with_reducible refine gj_Fr.up ?_ ?_; rotate_left; · first | decide +kernel | rfl | simp)
    | (with_reducible refine gj_Fr.put ?_ ?_; rotate_left; · first | decide +kernel | rfl | simp)
    | (with_reducible refine gj_Fr.fill ?_ ?_; rotate_left; · first | decide +kernel | rfl | simp)
    | (with_reducible refine gj_Fr.copy ?_ ?_; rotate_left; · first | decide +kernel | rfl | simp)
    | with_reducible exact fo_tr (by with_reducible assumption) (fr_J_X4_enter_28 _ _ _)

set_option maxHeartbeats 600000 in
theorem fr_J_X4_doing_186 {rec : Int → Int → Int → gj_M → Option (Int × gj_M)} (hrec : ∀ (b0 : Int) (b1 : Int) (b2 : Int) (M : gj_M), gj_FO Prod.snd [32, 33] [] M (rec b0 b1 b2 M)) (l1 l2 l5 l7 l8 l9 l10 l12 : Int) (M : gj_M) : gj_FO Prod.snd [32, 33] [] M (J_X4_doing_186 rec l1 l2 l5 l7 l8 l9 l10 l12 M) := by
  unfold J_X4_doing_186
  have hM : gj_Fr [32, 33] [] M M := gj_Fr.rf
  repeat' first
    | with_reducible assumption
    | with_reducible exact gj_Fr.rf
    | with_reducible exact fo_none
    | with_reducible refine fo_some ?_
    | with_reducible refine fo_ite ?_ ?_
    | with_reducible refine fo_chk ?_
    | with_reducible refine fo_let ?_ (fun _ _ => ?_)
    | with_reducible refine fo_letI (fun _ => ?_)
    | with_reducible refine fo_let2 ?_ (fun _ _ _ => ?_)
    | with_reducible refine fo_bndM (fun _ _ => ?_) (fun _ _ => ?_)
    | with_reducible refine fo_bnd (fun _ => ?_)
    | with_reducible refine fo_bnd2 (fun _ _ _ => ?_) (fun _ _ _ => ?_)
    | (with_reducible refine gj_Fr.up ?_ ?_; rotate_left; · first | decide +kernel | rfl | simp)
    | (with_reducible refine gj_Fr.put ?_ ?_; rotate_left; · first | decide +kernel | rfl | simp)
    | (with_reducible refine gj_Fr.fill ?_ ?_; rotate_left; · first | decide +kernel | rfl | simp)
    | (with_reducible refine gj_Fr.copy ?_ ?_; rotate_left; · first | decide +kernel | rfl | simp)
    | with_reducible exact gj_Fr.trans (by with_reducible assumption) (gj_FOu (hrec _ _ _ _) (by with_reducible assumption))

set_option maxHeartbeats 600000 in
theorem fr_J_X4_doing_94 {rec : Int → Int → Int → gj_M → Option (Int × gj_M)} (hrec : ∀ (b0 : Int) (b1 : Int) (b2 : Int) (M : gj_M), gj_FO Prod.snd [32, 33] [] M (rec b0 b1 b2 M)) (l1 l2 l5 l7 l8 s0 : Int) (M : gj_M) : gj_FO Prod.snd [32, 33] [] M (J_X4_doing_94 rec l1 l2 l5 l7 l8 s0 M) := by
  unfold J_X4_doing_94
  have hM : gj_Fr [32, 33] [] M M := gj_Fr.rf
  repeat' first
    | with_reducible assumption
    | with_reducible exact gj_Fr.rf
    | with_reducible exact fo_none
    | with_reducible refine fo_some ?_
    | with_reducible refine fo_ite ?_ ?_
    | with_reducible refine fo_chk ?_
    | with_reducible refine fo_let ?_ (fun _ _ => ?_)
    | with_reducible refine fo_letI (fun _ => ?_)
    | with_reducible refine fo_let2 ?_ (fun _ _ _ => ?_)
    | with_reducible refine fo_bndM (fun _ _ => ?_) (fun _ _ => ?_)
    | with_reducible refine fo_bnd (fun _ => ?_)
    | with_reducible refine fo_bnd2 (fun _ _ _ => ?_) (fun _ _ _ => ?_)
    | (with_reducible refine gj_Fr.up ?_ ?_; rotate_left; · first | decide +kernel | rfl | simp)
    | (with_reducible refine gj_Fr.put ?_ ?_; rotate_left; · first | decide +kernel | rfl | simp)
    | (with_reducible refine gj_Fr.fill ?_ ?_; rotate_left; · first | decide +kernel | rfl | simp)
    | (with_reducible refine gj_Fr.copy ?_ ?_; rotate_left; · first | decide +kernel | rfl | simp)
    | with_reducible exact fo_tr (by with_reducible assumption) (fr_J_X4_doing_186 hrec _ _ _ _ _ _ _ _ _)
    | with_reducible exact gj_Fr.trans (by with_reducible assumption) (gj_FOu (hrec _ _ _ _) (by with_reducible assumption))

set_option maxHeartbeats 600000 in
theorem fr_J_X4_doing_23 {rec : Int → Int → Int → gj_M → Option (Int × gj_M)} (hrec : ∀ (b0 : Int) (b1 : Int) (b2 : Int) (M : gj_M), gj_FO Prod.snd [32, 33] [] M (rec b0 b1 b2 M)) (l1 l2 l3 l4 s0 : Int) (M : gj_M) : gj_FO Prod.snd [32, 33] [] M (J_X4_doing_23 rec l1 l2 l3 l4 s0 M) := by
  unfold J_X4_doing_23
  have hM : gj_Fr [32, 33] [] M M := gj_Fr.rf
  repeat' first
    | with_reducible assumption
    | with_reducible exact gj_Fr.rf
    | with_reducible exact fo_none
    | with_reducible refine fo_some ?_
    | with_reducible refine fo_ite ?_ ?_
    | with_reducible refine fo_chk ?_
    | with_reducible refine fo_let ?_ (fun _ _ => ?_)
    | with_reducible refine fo_letI (fun _ => ?_)
    | with_reducible refine fo_let2 ?_ (fun _ _ _ => ?_)
    | with_reducible refine fo_bndM (fun _ _ => ?_) (fun _ _ => ?_)
    | with_reducible refine fo_bnd (fun _ => ?_)
    | with_reducible refine fo_bnd2 (fun _ _ _ => ?_) (fun _ _ _ => ?_)
    | (with_reducible refine gj_Fr.up ?_ ?_; rotate_left; · first | decide +kernel | rfl | simp)
    | (with_reducible refine gj_Fr.put ?_ ?_; rotate_left; · first | decide +kernel | rfl | simp)
    | (with_reducible refine gj_Fr.fill ?_ ?_; rotate_left; · first | decide +kernel | rfl | simp)
    | (with_reducible refine gj_Fr.copy ?_ ?_; rotate_left; · first | decide +kernel | rfl | simp)
    | with_reducible exact fo_tr (by with_reducible assumption) (fr_J_X4_doing_94 hrec _ _ _ _ _ _ _)
    | with_reducible exact gj_Fr.trans (by with_reducible assumption) (gj_FOu (hrec _ _ _ _) (by with_reducible assumption))

set_option maxHeartbeats 600000 in
theorem fr_X4_doing {rec : Int → Int → Int → gj_M → Option (Int × gj_M)} (hrec : ∀ (b0 : Int) (b1 : Int) (b2 : Int) (M : gj_M), gj_FO Prod.snd [32, 33] [] M (rec b0 b1 b2 M)) (a1 : Int) (a2 : Int) (a3 : Int) (a4 : Int) {M : gj_M} : gj_FO Prod.snd [32, 33] [] M (F_X4_doing rec a1 a2 a3 a4 M) := by
  unfold F_X4_doing
  have hM : gj_Fr [32, 33] [] M M := gj_Fr.rf
  repeat' first
    | with_reducible assumption
    | with_reducible exact gj_Fr.rf
    | with_reducible exact fo_none
    | with_reducible refine fo_some ?_
    | with_reducible refine fo_ite ?_ ?_
    | with_reducible refine fo_chk ?_
    | with_reducible refine fo_let ?_ (fun _ _ => ?_)
    | with_reducible refine fo_letI (fun _ => ?_)
    | with_reducible refine fo_let2 ?_ (fun _ _ _ => ?_)
    | with_reducible refine fo_bndM (fun _ _ => ?_) (fun _ _ => ?_)
    | with_reducible refine fo_bnd (fun _ => ?_)
    | with_reducible refine fo_bnd2 (fun _ _ _ => ?_) (fun _ _ _ => ?_)
    | (with_reducible refine gj_Fr.up ?_ ?_; rotate_left; · first | decide +kernel | rfl | simp)
    | (with_reducible refine gj_Fr.put ?_ ?_; rotate_left; · first | decide +kernel | rfl | simp)
    | (with_reducible refine gj_Fr.fill ?_ ?_; rotate_left; · first | decide +kernel | rfl | simp)
    | (with_reducible refine gj_Fr.copy ?_ ?_; rotate_left; · first | decide +kernel | rfl | simp)
    | with_reducible exact fo_tr (by with_reducible assumption) (fr_J_X4_doing_23 hrec _ _ _ _ _ _)
    | with_reducible exact gj_Fr.trans (by with_reducible assumption) (gj_FOu (hrec _ _ _ _) (by with_reducible assumption))

set_option maxHeartbeats 600000 in
theorem fr_J_X4_worthOf_59 {rec : Int → Int → Int → gj_M → Option (Int × gj_M)} (hrec : ∀ (b0 : Int) (b1 : Int) (b2 : Int) (M : gj_M), gj_FO Prod.snd [32, 33] [] M (rec b0 b1 b2 M)) {rec19 : Int → Int → Int → Int → Int → gj_M → Option (Int × gj_M)} (hrec19 : ∀ (l1 l2 l3 l4 l6 : Int) (M : gj_M), gj_FO Prod.snd [32, 33] [] M (rec19 l1 l2 l3 l4 l6 M)) (l1 l2 l3 l4 l6 : Int) (M : gj_M) : gj_FO Prod.snd [32, 33] [] M (J_X4_worthOf_59 rec rec19 l1 l2 l3 l4 l6 M) := by
  unfold J_X4_worthOf_59
  have hM : gj_Fr [32, 33] [] M M := gj_Fr.rf
  repeat' first
    | with_reducible assumption
    | with_reducible exact gj_Fr.rf
    | with_reducible exact fo_none
    | with_reducible refine fo_some ?_
    | with_reducible refine fo_ite ?_ ?_
    | with_reducible refine fo_chk ?_
    | with_reducible refine fo_let ?_ (fun _ _ => ?_)
    | with_reducible refine fo_letI (fun _ => ?_)
    | with_reducible refine fo_let2 ?_ (fun _ _ _ => ?_)
    | with_reducible refine fo_bndM (fun _ _ => ?_) (fun _ _ => ?_)
    | with_reducible refine fo_bnd (fun _ => ?_)
    | with_reducible refine fo_bnd2 (fun _ _ _ => ?_) (fun _ _ _ => ?_)
    | (with_reducible refine gj_Fr.up ?_ ?_; rotate_left; · first | decide +kernel | rfl | simp)
    | (with_reducible refine gj_Fr.put ?_ ?_; rotate_left; · first | decide +kernel | rfl | simp)
    | (with_reducible refine gj_Fr.fill ?_ ?_; rotate_left; · first | decide +kernel | rfl | simp)
    | (with_reducible refine gj_Fr.copy ?_ ?_; rotate_left; · first | decide +kernel | rfl | simp)
    | with_reducible exact fo_tr (by with_reducible assumption) (hrec19 _ _ _ _ _ _)
    | (with_reducible refine gj_Fr.trans ?_ (gj_Fr.wide (gj_FOu (fr_X4_doing hrec _ _ _ _) (by with_reducible assumption)) ?_); rotate_left; · first | decide +kernel | simp [gj_fsub])
    | with_reducible exact gj_Fr.trans (by with_reducible assumption) (gj_FOu (hrec _ _ _ _) (by with_reducible assumption))

set_option maxHeartbeats 600000 in
theorem fr_B_X4_worthOf_19 {rec : Int → Int → Int → gj_M → Option (Int × gj_M)} (hrec : ∀ (b0 : Int) (b1 : Int) (b2 : Int) (M : gj_M), gj_FO Prod.snd [32, 33] [] M (rec b0 b1 b2 M)) {rec19 : Int → Int → Int → Int → Int → gj_M → Option (Int × gj_M)} (hrec19 : ∀ (l1 l2 l3 l4 l6 : Int) (M : gj_M), gj_FO Prod.snd [32, 33] [] M (rec19 l1 l2 l3 l4 l6 M)) (l1 l2 l3 l4 l6 : Int) (M : gj_M) : gj_FO Prod.snd [32, 33] [] M (B_X4_worthOf_19 rec rec19 l1 l2 l3 l4 l6 M) := by
  unfold B_X4_worthOf_19
  have hM : gj_Fr [32, 33] [] M M := gj_Fr.rf
  repeat' first
    | with_reducible assumption
    | with_reducible exact gj_Fr.rf
    | with_reducible exact fo_none
    | with_reducible refine fo_some ?_
    | with_reducible refine fo_ite ?_ ?_
    | with_reducible refine fo_chk ?_
    | with_reducible refine fo_let ?_ (fun _ _ => ?_)
    | with_reducible refine fo_letI (fun _ => ?_)
    | with_reducible refine fo_let2 ?_ (fun _ _ _ => ?_)
    | with_reducible refine fo_bndM (fun _ _ => ?_) (fun _ _ => ?_)
    | with_reducible refine fo_bnd (fun _ => ?_)
    | with_reducible refine fo_bnd2 (fun _ _ _ => ?_) (fun _ _ _ => ?_)
    | (with_reducible refine gj_Fr.up ?_ ?_; rotate_left; · first | decide +kernel | rfl | simp)
    | (with_reducible refine gj_Fr.put ?_ ?_; rotate_left; · first | decide +kernel | rfl | simp)
    | (with_reducible refine gj_Fr.fill ?_ ?_; rotate_left; · first | decide +kernel | rfl | simp)
    | (with_reducible refine gj_Fr.copy ?_ ?_; rotate_left; · first | decide +kernel | rfl | simp)
    | with_reducible exact fo_tr (by with_reducible assumption) (fr_J_X4_worthOf_59 hrec hrec19 _ _ _ _ _ _)
    | with_reducible exact fo_tr (by with_reducible assumption) (hrec19 _ _ _ _ _ _)
    | (with_reducible refine gj_Fr.trans ?_ (gj_Fr.wide (gj_FOu (fr_X4_doing hrec _ _ _ _) (by with_reducible assumption)) ?_); rotate_left; · first | decide +kernel | simp [gj_fsub])
    | with_reducible exact gj_Fr.trans (by with_reducible assumption) (gj_FOu (hrec _ _ _ _) (by with_reducible assumption))

theorem frL_X4_worthOf_19 {rec : Int → Int → Int → gj_M → Option (Int × gj_M)} (hrec : ∀ (b0 : Int) (b1 : Int) (b2 : Int) (M : gj_M), gj_FO Prod.snd [32, 33] [] M (rec b0 b1 b2 M)) : ∀ (m : Nat) (l1 l2 l3 l4 l6 : Int) (M : gj_M), gj_FO Prod.snd [32, 33] [] M (gj_it (fun _ _ _ _ _ _ => none) (B_X4_worthOf_19 rec) m l1 l2 l3 l4 l6 M)
  | 0, l1, l2, l3, l4, l6, M => fun r e => by cases (show (none : Option (Int × gj_M)) = some r from e)
  | m + 1, l1, l2, l3, l4, l6, M => fr_B_X4_worthOf_19 hrec (fun l1 l2 l3 l4 l6 M => frL_X4_worthOf_19 hrec m l1 l2 l3 l4 l6 M) l1 l2 l3 l4 l6 M
set_option maxHeartbeats 600000 in
theorem fr_X4_worthOf {rec : Int → Int → Int → gj_M → Option (Int × gj_M)} (hrec : ∀ (b0 : Int) (b1 : Int) (b2 : Int) (M : gj_M), gj_FO Prod.snd [32, 33] [] M (rec b0 b1 b2 M)) (a1 : Int) (a2 : Int) (a3 : Int) {M : gj_M} : gj_FO Prod.snd [32, 33] [] M (F_X4_worthOf rec a1 a2 a3 M) := by
  unfold F_X4_worthOf
  have hM : gj_Fr [32, 33] [] M M := gj_Fr.rf
  repeat' first
    | with_reducible assumption
    | with_reducible exact gj_Fr.rf
    | with_reducible exact fo_none
    | with_reducible refine fo_some ?_
    | with_reducible refine fo_ite ?_ ?_
    | with_reducible refine fo_chk ?_
    | with_reducible refine fo_let ?_ (fun _ _ => ?_)
    | with_reducible refine fo_letI (fun _ => ?_)
    | with_reducible refine fo_let2 ?_ (fun _ _ _ => ?_)
    | with_reducible refine fo_bndM (fun _ _ => ?_) (fun _ _ => ?_)
    | with_reducible refine fo_bnd (fun _ => ?_)
    | with_reducible refine fo_bnd2 (fun _ _ _ => ?_) (fun _ _ _ => ?_)
    | (with_reducible refine gj_Fr.up ?_ ?_; rotate_left; · first | decide +kernel | rfl | simp)
    | (with_reducible refine gj_Fr.put ?_ ?_; rotate_left; · first | decide +kernel | rfl | simp)
    | (with_reducible refine gj_Fr.fill ?_ ?_; rotate_left; · first | decide +kernel | rfl | simp)
    | (with_reducible refine gj_Fr.copy ?_ ?_; rotate_left; · first | decide +kernel | rfl | simp)
    | with_reducible exact fo_tr (by with_reducible assumption) (frL_X4_worthOf_19 hrec _ _ _ _ _ _ _)
    | (with_reducible refine gj_Fr.trans ?_ (gj_Fr.wide (gj_FOu (fr_X4_doing hrec _ _ _ _) (by with_reducible assumption)) ?_); rotate_left; · first | decide +kernel | simp [gj_fsub])
    | with_reducible exact gj_Fr.trans (by with_reducible assumption) (gj_FOu (hrec _ _ _ _) (by with_reducible assumption))

theorem fr_X4_worthN : ∀ (n : Nat) (a1 a2 a3 : Int) (M : gj_M), gj_FO Prod.snd [32, 33] [] M (F_X4_worth n a1 a2 a3 M)
  | 0, a1, a2, a3, M => fun r e => by cases (show (none : Option (Int × gj_M)) = some r from e)
  | n + 1, a1, a2, a3, M => fr_X4_worthOf (fun b0 b1 b2 M => fr_X4_worthN n b0 b1 b2 M) a1 a2 a3
theorem fr_X4_worthC (a1 a2 a3 : Int) {M : gj_M} : gj_FO Prod.snd [32, 33] [] M (F_X4_worth 6 a1 a2 a3 M) := fr_X4_worthN 6 a1 a2 a3 M
theorem fr_X4_doingC (a1 a2 a3 a4 : Int) {M : gj_M} : gj_FO Prod.snd [32, 33] [] M (F_X4_doing (F_X4_worth 5) a1 a2 a3 a4 M) := fr_X4_doing (fun b0 b1 b2 M => fr_X4_worthN 5 b0 b1 b2 M) a1 a2 a3 a4
set_option maxHeartbeats 600000 in
theorem fr_X4_bestWorth (a1 : Int) {M : gj_M} : gj_FO Prod.snd [32, 33] [] M (F_X4_bestWorth a1 M) := by
  unfold F_X4_bestWorth
  have hM : gj_Fr [32, 33] [] M M := gj_Fr.rf
  repeat' first
    | with_reducible assumption
    | with_reducible exact gj_Fr.rf
    | with_reducible exact fo_none
    | with_reducible refine fo_some ?_
    | with_reducible refine fo_ite ?_ ?_
    | with_reducible refine fo_chk ?_
    | with_reducible refine fo_let ?_ (fun _ _ => ?_)
    | with_reducible refine fo_letI (fun _ => ?_)
    | with_reducible refine fo_let2 ?_ (fun _ _ _ => ?_)
    | with_reducible refine fo_bndM (fun _ _ => ?_) (fun _ _ => ?_)
    | with_reducible refine fo_bnd (fun _ => ?_)
    | with_reducible refine fo_bnd2 (fun _ _ _ => ?_) (fun _ _ _ => ?_)
    | (with_reducible refine gj_Fr.up ?_ ?_; rotate_left; · first | decide +kernel | rfl | simp)
    | (with_reducible refine gj_Fr.put ?_ ?_; rotate_left; · first | decide +kernel | rfl | simp)
    | (with_reducible refine gj_Fr.fill ?_ ?_; rotate_left; · first | decide +kernel | rfl | simp)
    | (with_reducible refine gj_Fr.copy ?_ ?_; rotate_left; · first | decide +kernel | rfl | simp)
    | (with_reducible refine gj_Fr.trans ?_ (gj_Fr.wide (gj_FOu (fr_X4_worthC _ _ _) (by with_reducible assumption)) ?_); rotate_left; · first | decide +kernel | simp [gj_fsub])

set_option maxHeartbeats 600000 in
theorem fr_J_X4_bestAct_86 {rec26 : Int → Int → Int → Int → gj_M → Option (Int × gj_M)} (hrec26 : ∀ (l1 l2 l3 l5 : Int) (M : gj_M), gj_FO Prod.snd [32, 33] [] M (rec26 l1 l2 l3 l5 M)) (l1 l2 l3 l5 : Int) (M : gj_M) : gj_FO Prod.snd [32, 33] [] M (J_X4_bestAct_86 rec26 l1 l2 l3 l5 M) := by
  unfold J_X4_bestAct_86
  have hM : gj_Fr [32, 33] [] M M := gj_Fr.rf
  repeat' first
    | with_reducible assumption
    | with_reducible exact gj_Fr.rf
    | with_reducible exact fo_none
    | with_reducible refine fo_some ?_
    | with_reducible refine fo_ite ?_ ?_
    | with_reducible refine fo_chk ?_
    | with_reducible refine fo_let ?_ (fun _ _ => ?_)
    | with_reducible refine fo_letI (fun _ => ?_)
    | with_reducible refine fo_let2 ?_ (fun _ _ _ => ?_)
    | with_reducible refine fo_bndM (fun _ _ => ?_) (fun _ _ => ?_)
    | with_reducible refine fo_bnd (fun _ => ?_)
    | with_reducible refine fo_bnd2 (fun _ _ _ => ?_) (fun _ _ _ => ?_)
    | (with_reducible refine gj_Fr.up ?_ ?_; rotate_left; · first | decide +kernel | rfl | simp)
    | (with_reducible refine gj_Fr.put ?_ ?_; rotate_left; · first | decide +kernel | rfl | simp)
    | (with_reducible refine gj_Fr.fill ?_ ?_; rotate_left; · first | decide +kernel | rfl | simp)
    | (with_reducible refine gj_Fr.copy ?_ ?_; rotate_left; · first | decide +kernel | rfl | simp)
    | with_reducible exact fo_tr (by with_reducible assumption) (hrec26 _ _ _ _ _)
    | (with_reducible refine gj_Fr.trans ?_ (gj_Fr.wide (gj_FOu (fr_X4_doingC _ _ _ _) (by with_reducible assumption)) ?_); rotate_left; · first | decide +kernel | simp [gj_fsub])

set_option maxHeartbeats 600000 in
theorem fr_B_X4_bestAct_26 {rec26 : Int → Int → Int → Int → gj_M → Option (Int × gj_M)} (hrec26 : ∀ (l1 l2 l3 l5 : Int) (M : gj_M), gj_FO Prod.snd [32, 33] [] M (rec26 l1 l2 l3 l5 M)) (l1 l2 l3 l5 : Int) (M : gj_M) : gj_FO Prod.snd [32, 33] [] M (B_X4_bestAct_26 rec26 l1 l2 l3 l5 M) := by
  unfold B_X4_bestAct_26
  have hM : gj_Fr [32, 33] [] M M := gj_Fr.rf
  repeat' first
    | with_reducible assumption
    | with_reducible exact gj_Fr.rf
    | with_reducible exact fo_none
    | with_reducible refine fo_some ?_
    | with_reducible refine fo_ite ?_ ?_
    | with_reducible refine fo_chk ?_
    | with_reducible refine fo_let ?_ (fun _ _ => ?_)
    | with_reducible refine fo_letI (fun _ => ?_)
    | with_reducible refine fo_let2 ?_ (fun _ _ _ => ?_)
    | with_reducible refine fo_bndM (fun _ _ => ?_) (fun _ _ => ?_)
    | with_reducible refine fo_bnd (fun _ => ?_)
    | with_reducible refine fo_bnd2 (fun _ _ _ => ?_) (fun _ _ _ => ?_)
    | (with_reducible refine gj_Fr.up ?_ ?_; rotate_left; · first | decide +kernel | rfl | simp)
    | (with_reducible refine gj_Fr.put ?_ ?_; rotate_left; · first | decide +kernel | rfl | simp)
    | (with_reducible refine gj_Fr.fill ?_ ?_; rotate_left; · first | decide +kernel | rfl | simp)
    | (with_reducible refine gj_Fr.copy ?_ ?_; rotate_left; · first | decide +kernel | rfl | simp)
    | with_reducible exact fo_tr (by with_reducible assumption) (fr_J_X4_bestAct_86 hrec26 _ _ _ _ _)
    | with_reducible exact fo_tr (by with_reducible assumption) (hrec26 _ _ _ _ _)
    | (with_reducible refine gj_Fr.trans ?_ (gj_Fr.wide (gj_FOu (fr_X4_doingC _ _ _ _) (by with_reducible assumption)) ?_); rotate_left; · first | decide +kernel | simp [gj_fsub])

theorem frL_X4_bestAct_26 : ∀ (m : Nat) (l1 l2 l3 l5 : Int) (M : gj_M), gj_FO Prod.snd [32, 33] [] M (gj_it (fun _ _ _ _ _ => none) (B_X4_bestAct_26) m l1 l2 l3 l5 M)
  | 0, l1, l2, l3, l5, M => fun r e => by cases (show (none : Option (Int × gj_M)) = some r from e)
  | m + 1, l1, l2, l3, l5, M => fr_B_X4_bestAct_26 (fun l1 l2 l3 l5 M => frL_X4_bestAct_26 m l1 l2 l3 l5 M) l1 l2 l3 l5 M
set_option maxHeartbeats 600000 in
theorem fr_X4_bestAct (a1 : Int) {M : gj_M} : gj_FO Prod.snd [32, 33] [] M (F_X4_bestAct a1 M) := by
  unfold F_X4_bestAct
  have hM : gj_Fr [32, 33] [] M M := gj_Fr.rf
  repeat' first
    | with_reducible assumption
    | with_reducible exact gj_Fr.rf
    | with_reducible exact fo_none
    | with_reducible refine fo_some ?_
    | with_reducible refine fo_ite ?_ ?_
    | with_reducible refine fo_chk ?_
    | with_reducible refine fo_let ?_ (fun _ _ => ?_)
    | with_reducible refine fo_letI (fun _ => ?_)
    | with_reducible refine fo_let2 ?_ (fun _ _ _ => ?_)
    | with_reducible refine fo_bndM (fun _ _ => ?_) (fun _ _ => ?_)
    | with_reducible refine fo_bnd (fun _ => ?_)
    | with_reducible refine fo_bnd2 (fun _ _ _ => ?_) (fun _ _ _ => ?_)
    | (with_reducible refine gj_Fr.up ?_ ?_; rotate_left; · first | decide +kernel | rfl | simp)
    | (with_reducible refine gj_Fr.put ?_ ?_; rotate_left; · first | decide +kernel | rfl | simp)
    | (with_reducible refine gj_Fr.fill ?_ ?_; rotate_left; · first | decide +kernel | rfl | simp)
    | (with_reducible refine gj_Fr.copy ?_ ?_; rotate_left; · first | decide +kernel | rfl | simp)
    | with_reducible exact fo_tr (by with_reducible assumption) (frL_X4_bestAct_26 _ _ _ _ _ _)
    | (with_reducible refine gj_Fr.trans ?_ (gj_Fr.wide (gj_FOu (fr_X4_doingC _ _ _ _) (by with_reducible assumption)) ?_); rotate_left; · first | decide +kernel | simp [gj_fsub])

set_option maxHeartbeats 600000 in
theorem fr_X11_best (a1 : Int) (a2 : Int) (a3 : Int) {M : gj_M} : gj_FO Prod.snd [32, 33, 34] [(31, 5), (31, 6), (31, 7), (31, 8), (31, 9), (31, 10)] M (F_X11_best a1 a2 a3 M) := by
  unfold F_X11_best
  have hM : gj_Fr [32, 33, 34] [(31, 5), (31, 6), (31, 7), (31, 8), (31, 9), (31, 10)] M M := gj_Fr.rf
  repeat' first
    | with_reducible assumption
    | with_reducible exact gj_Fr.rf
    | with_reducible exact fo_none
    | with_reducible refine fo_some ?_
    | with_reducible refine fo_ite ?_ ?_
    | with_reducible refine fo_chk ?_
    | with_reducible refine fo_let ?_ (fun _ _ => ?_)
    | with_reducible refine fo_letI (fun _ => ?_)
    | with_reducible refine fo_let2 ?_ (fun _ _ _ => ?_)
    | with_reducible refine fo_bndM (fun _ _ => ?_) (fun _ _ => ?_)
    | with_reducible refine fo_bnd (fun _ => ?_)
    | with_reducible refine fo_bnd2 (fun _ _ _ => ?_) (fun _ _ _ => ?_)
    | (with_reducible refine gj_Fr.up ?_ ?_; rotate_left; · first | decide +kernel | rfl | simp)
    | (with_reducible refine gj_Fr.put ?_ ?_; rotate_left; · first | decide +kernel | rfl | simp)
    | (with_reducible refine gj_Fr.fill ?_ ?_; rotate_left; · first | decide +kernel | rfl | simp)
    | (with_reducible refine gj_Fr.copy ?_ ?_; rotate_left; · first | decide +kernel | rfl | simp)
    | (with_reducible refine gj_Fr.trans ?_ (gj_Fr.wide (gj_FOu (fr_X4_bestWorth _) (by with_reducible assumption)) ?_); rotate_left; · first | decide +kernel | simp [gj_fsub])
    | (with_reducible refine gj_Fr.trans ?_ (gj_Fr.wide (gj_FOu (fr_X4_enter _) (by with_reducible assumption)) ?_); rotate_left; · first | decide +kernel | simp [gj_fsub])
    | (with_reducible refine gj_Fr.trans ?_ (gj_Fr.wide (gj_FOu (fr_X4_bestAct _) (by with_reducible assumption)) ?_); rotate_left; · first | decide +kernel | simp [gj_fsub])

set_option maxHeartbeats 600000 in
theorem fr_X4_worthOfAct (a1 : Int) (a2 : Int) {M : gj_M} : gj_FO Prod.snd [32, 33] [] M (F_X4_worthOfAct a1 a2 M) := by
  unfold F_X4_worthOfAct
  have hM : gj_Fr [32, 33] [] M M := gj_Fr.rf
  repeat' first
    | with_reducible assumption
    | with_reducible exact gj_Fr.rf
    | with_reducible exact fo_none
    | with_reducible refine fo_some ?_
    | with_reducible refine fo_ite ?_ ?_
    | with_reducible refine fo_chk ?_
    | with_reducible refine fo_let ?_ (fun _ _ => ?_)
    | with_reducible refine fo_letI (fun _ => ?_)
    | with_reducible refine fo_let2 ?_ (fun _ _ _ => ?_)
    | with_reducible refine fo_bndM (fun _ _ => ?_) (fun _ _ => ?_)
    | with_reducible refine fo_bnd (fun _ => ?_)
    | with_reducible refine fo_bnd2 (fun _ _ _ => ?_) (fun _ _ _ => ?_)
    | (with_reducible refine gj_Fr.up ?_ ?_; rotate_left; · first | decide +kernel | rfl | simp)
    | (with_reducible refine gj_Fr.put ?_ ?_; rotate_left; · first | decide +kernel | rfl | simp)
    | (with_reducible refine gj_Fr.fill ?_ ?_; rotate_left; · first | decide +kernel | rfl | simp)
    | (with_reducible refine gj_Fr.copy ?_ ?_; rotate_left; · first | decide +kernel | rfl | simp)
    | (with_reducible refine gj_Fr.trans ?_ (gj_Fr.wide (gj_FOu (fr_X4_doingC _ _ _ _) (by with_reducible assumption)) ?_); rotate_left; · first | decide +kernel | simp [gj_fsub])

set_option maxHeartbeats 600000 in
theorem fr_X11_act (a1 : Int) (a2 : Int) (a3 : Int) {M : gj_M} : gj_FO Prod.snd [32, 33, 34] [(31, 5), (31, 6), (31, 7), (31, 8), (31, 9), (31, 10)] M (F_X11_act a1 a2 a3 M) := by
  unfold F_X11_act
  have hM : gj_Fr [32, 33, 34] [(31, 5), (31, 6), (31, 7), (31, 8), (31, 9), (31, 10)] M M := gj_Fr.rf
  repeat' first
    | with_reducible assumption
    | with_reducible exact gj_Fr.rf
    | with_reducible exact fo_none
    | with_reducible refine fo_some ?_
    | with_reducible refine fo_ite ?_ ?_
    | with_reducible refine fo_chk ?_
    | with_reducible refine fo_let ?_ (fun _ _ => ?_)
    | with_reducible refine fo_letI (fun _ => ?_)
    | with_reducible refine fo_let2 ?_ (fun _ _ _ => ?_)
    | with_reducible refine fo_bndM (fun _ _ => ?_) (fun _ _ => ?_)
    | with_reducible refine fo_bnd (fun _ => ?_)
    | with_reducible refine fo_bnd2 (fun _ _ _ => ?_) (fun _ _ _ => ?_)
    | (with_reducible refine gj_Fr.up ?_ ?_; rotate_left; · first | decide +kernel | rfl | simp)
    | (with_reducible refine gj_Fr.put ?_ ?_; rotate_left; · first | decide +kernel | rfl | simp)
    | (with_reducible refine gj_Fr.fill ?_ ?_; rotate_left; · first | decide +kernel | rfl | simp)
    | (with_reducible refine gj_Fr.copy ?_ ?_; rotate_left; · first | decide +kernel | rfl | simp)
    | (with_reducible refine gj_Fr.trans ?_ (gj_Fr.wide (gj_FOu (fr_X4_enter _) (by with_reducible assumption)) ?_); rotate_left; · first | decide +kernel | simp [gj_fsub])
    | (with_reducible refine gj_Fr.trans ?_ (gj_Fr.wide (gj_FOu (fr_X4_worthOfAct _ _) (by with_reducible assumption)) ?_); rotate_left; · first | decide +kernel | simp [gj_fsub])

set_option maxHeartbeats 600000 in
theorem fr_X4_stays (a1 : Int) {M : gj_M} : gj_FO Prod.snd [32, 33] [] M (F_X4_stays a1 M) := by
  unfold F_X4_stays
  have hM : gj_Fr [32, 33] [] M M := gj_Fr.rf
  repeat' first
    | with_reducible assumption
    | with_reducible exact gj_Fr.rf
    | with_reducible exact fo_none
    | with_reducible refine fo_some ?_
    | with_reducible refine fo_ite ?_ ?_
    | with_reducible refine fo_chk ?_
    | with_reducible refine fo_let ?_ (fun _ _ => ?_)
    | with_reducible refine fo_letI (fun _ => ?_)
    | with_reducible refine fo_let2 ?_ (fun _ _ _ => ?_)
    | with_reducible refine fo_bndM (fun _ _ => ?_) (fun _ _ => ?_)
    | with_reducible refine fo_bnd (fun _ => ?_)
    | with_reducible refine fo_bnd2 (fun _ _ _ => ?_) (fun _ _ _ => ?_)
    | (with_reducible refine gj_Fr.up ?_ ?_; rotate_left; · first | decide +kernel | rfl | simp)
    | (with_reducible refine gj_Fr.put ?_ ?_; rotate_left; · first | decide +kernel | rfl | simp)
    | (with_reducible refine gj_Fr.fill ?_ ?_; rotate_left; · first | decide +kernel | rfl | simp)
    | (with_reducible refine gj_Fr.copy ?_ ?_; rotate_left; · first | decide +kernel | rfl | simp)
    | (with_reducible refine gj_Fr.trans ?_ (gj_Fr.wide (gj_FOu (fr_X4_bestAct _) (by with_reducible assumption)) ?_); rotate_left; · first | decide +kernel | simp [gj_fsub])

set_option maxHeartbeats 600000 in
theorem fr_X11_silent (a1 : Int) (a2 : Int) {M : gj_M} : gj_FO Prod.snd [32, 33, 34] [(31, 5), (31, 6), (31, 7), (31, 8), (31, 9), (31, 10)] M (F_X11_silent a1 a2 M) := by
  unfold F_X11_silent
  have hM : gj_Fr [32, 33, 34] [(31, 5), (31, 6), (31, 7), (31, 8), (31, 9), (31, 10)] M M := gj_Fr.rf
  repeat' first
    | with_reducible assumption
    | with_reducible exact gj_Fr.rf
    | with_reducible exact fo_none
    | with_reducible refine fo_some ?_
    | with_reducible refine fo_ite ?_ ?_
    | with_reducible refine fo_chk ?_
    | with_reducible refine fo_let ?_ (fun _ _ => ?_)
    | with_reducible refine fo_letI (fun _ => ?_)
    | with_reducible refine fo_let2 ?_ (fun _ _ _ => ?_)
    | with_reducible refine fo_bndM (fun _ _ => ?_) (fun _ _ => ?_)
    | with_reducible refine fo_bnd (fun _ => ?_)
    | with_reducible refine fo_bnd2 (fun _ _ _ => ?_) (fun _ _ _ => ?_)
    | (with_reducible refine gj_Fr.up ?_ ?_; rotate_left; · first | decide +kernel | rfl | simp)
    | (with_reducible refine gj_Fr.put ?_ ?_; rotate_left; · first | decide +kernel | rfl | simp)
    | (with_reducible refine gj_Fr.fill ?_ ?_; rotate_left; · first | decide +kernel | rfl | simp)
    | (with_reducible refine gj_Fr.copy ?_ ?_; rotate_left; · first | decide +kernel | rfl | simp)
    | (with_reducible refine gj_Fr.trans ?_ (gj_Fr.wide (gj_FOu (fr_X4_stays _) (by with_reducible assumption)) ?_); rotate_left; · first | decide +kernel | simp [gj_fsub])
    | (with_reducible refine gj_Fr.trans ?_ (gj_Fr.wide (gj_FOu (fr_X4_enter _) (by with_reducible assumption)) ?_); rotate_left; · first | decide +kernel | simp [gj_fsub])

set_option maxHeartbeats 600000 in
theorem fr_B_X4_leastGood_13 {rec13 : Int → Int → Int → Int → gj_M → Option (Int × gj_M)} (hrec13 : ∀ (l1 l2 l3 l4 : Int) (M : gj_M), gj_FO Prod.snd [32, 33] [(31, 7), (31, 8)] M (rec13 l1 l2 l3 l4 M)) (l1 l2 l3 l4 : Int) (M : gj_M) : gj_FO Prod.snd [32, 33] [(31, 7), (31, 8)] M (B_X4_leastGood_13 rec13 l1 l2 l3 l4 M) := by
  unfold B_X4_leastGood_13
  have hM : gj_Fr [32, 33] [(31, 7), (31, 8)] M M := gj_Fr.rf
  repeat' first
    | with_reducible assumption
    | with_reducible exact gj_Fr.rf
    | with_reducible exact fo_none
    | with_reducible refine fo_some ?_
    | with_reducible refine fo_ite ?_ ?_
    | with_reducible refine fo_chk ?_
    | with_reducible refine fo_let ?_ (fun _ _ => ?_)
    | with_reducible refine fo_letI (fun _ => ?_)
    | with_reducible refine fo_let2 ?_ (fun _ _ _ => ?_)
    | with_reducible refine fo_bndM (fun _ _ => ?_) (fun _ _ => ?_)
    | with_reducible refine fo_bnd (fun _ => ?_)
    | with_reducible refine fo_bnd2 (fun _ _ _ => ?_) (fun _ _ _ => ?_)
    | (with_reducible refine gj_Fr.up ?_ ?_; rotate_left; · first | decide +kernel | rfl | simp)
    | (with_reducible refine gj_Fr.put ?_ ?_; rotate_left; · first | decide +kernel | rfl | simp)
    | (with_reducible refine gj_Fr.fill ?_ ?_; rotate_left; · first | decide +kernel | rfl | simp)
    | (with_reducible refine gj_Fr.copy ?_ ?_; rotate_left; · first | decide +kernel | rfl | simp)
    | with_reducible exact fo_tr (by with_reducible assumption) (hrec13 _ _ _ _ _)
    | (with_reducible refine gj_Fr.trans ?_ (gj_Fr.wide (gj_FOu (fr_X4_stays _) (by with_reducible assumption)) ?_); rotate_left; · first | decide +kernel | simp [gj_fsub])

theorem frL_X4_leastGood_13 : ∀ (m : Nat) (l1 l2 l3 l4 : Int) (M : gj_M), gj_FO Prod.snd [32, 33] [(31, 7), (31, 8)] M (gj_it (fun _ _ _ _ _ => none) (B_X4_leastGood_13) m l1 l2 l3 l4 M)
  | 0, l1, l2, l3, l4, M => fun r e => by cases (show (none : Option (Int × gj_M)) = some r from e)
  | m + 1, l1, l2, l3, l4, M => fr_B_X4_leastGood_13 (fun l1 l2 l3 l4 M => frL_X4_leastGood_13 m l1 l2 l3 l4 M) l1 l2 l3 l4 M
set_option maxHeartbeats 600000 in
theorem fr_X4_leastGood (a1 : Int) (a2 : Int) (a3 : Int) {M : gj_M} : gj_FO Prod.snd [32, 33] [(31, 7), (31, 8)] M (F_X4_leastGood a1 a2 a3 M) := by
  unfold F_X4_leastGood
  have hM : gj_Fr [32, 33] [(31, 7), (31, 8)] M M := gj_Fr.rf
  repeat' first
    | with_reducible assumption
    | with_reducible exact gj_Fr.rf
    | with_reducible exact fo_none
    | with_reducible refine fo_some ?_
    | with_reducible refine fo_ite ?_ ?_
    | with_reducible refine fo_chk ?_
    | with_reducible refine fo_let ?_ (fun _ _ => ?_)
    | with_reducible refine fo_letI (fun _ => ?_)
    | with_reducible refine fo_let2 ?_ (fun _ _ _ => ?_)
    | with_reducible refine fo_bndM (fun _ _ => ?_) (fun _ _ => ?_)
    | with_reducible refine fo_bnd (fun _ => ?_)
    | with_reducible refine fo_bnd2 (fun _ _ _ => ?_) (fun _ _ _ => ?_)
    | (with_reducible refine gj_Fr.up ?_ ?_; rotate_left; · first | decide +kernel | rfl | simp)
    | (with_reducible refine gj_Fr.put ?_ ?_; rotate_left; · first | decide +kernel | rfl | simp)
    | (with_reducible refine gj_Fr.fill ?_ ?_; rotate_left; · first | decide +kernel | rfl | simp)
    | (with_reducible refine gj_Fr.copy ?_ ?_; rotate_left; · first | decide +kernel | rfl | simp)
    | with_reducible exact fo_tr (by with_reducible assumption) (frL_X4_leastGood_13 _ _ _ _ _ _)
    | (with_reducible refine gj_Fr.trans ?_ (gj_Fr.wide (gj_FOu (fr_X4_stays _) (by with_reducible assumption)) ?_); rotate_left; · first | decide +kernel | simp [gj_fsub])

set_option maxHeartbeats 600000 in
theorem fr_X11_bar (a1 : Int) (a2 : Int) (a3 : Int) (a4 : Int) {M : gj_M} : gj_FO Prod.snd [32, 33, 34] [(31, 5), (31, 6), (31, 7), (31, 8), (31, 9), (31, 10)] M (F_X11_bar a1 a2 a3 a4 M) := by
  unfold F_X11_bar
  have hM : gj_Fr [32, 33, 34] [(31, 5), (31, 6), (31, 7), (31, 8), (31, 9), (31, 10)] M M := gj_Fr.rf
  repeat' first
    | with_reducible assumption
    | with_reducible exact gj_Fr.rf
    | with_reducible exact fo_none
    | with_reducible refine fo_some ?_
    | with_reducible refine fo_ite ?_ ?_
    | with_reducible refine fo_chk ?_
    | with_reducible refine fo_let ?_ (fun _ _ => ?_)
    | with_reducible refine fo_letI (fun _ => ?_)
    | with_reducible refine fo_let2 ?_ (fun _ _ _ => ?_)
    | with_reducible refine fo_bndM (fun _ _ => ?_) (fun _ _ => ?_)
    | with_reducible refine fo_bnd (fun _ => ?_)
    | with_reducible refine fo_bnd2 (fun _ _ _ => ?_) (fun _ _ _ => ?_)
    | (with_reducible refine gj_Fr.up ?_ ?_; rotate_left; · first | decide +kernel | rfl | simp)
    | (with_reducible refine gj_Fr.put ?_ ?_; rotate_left; · first | decide +kernel | rfl | simp)
    | (with_reducible refine gj_Fr.fill ?_ ?_; rotate_left; · first | decide +kernel | rfl | simp)
    | (with_reducible refine gj_Fr.copy ?_ ?_; rotate_left; · first | decide +kernel | rfl | simp)
    | (with_reducible refine gj_Fr.trans ?_ (gj_Fr.wide (gj_FOu (fr_X4_enter _) (by with_reducible assumption)) ?_); rotate_left; · first | decide +kernel | simp [gj_fsub])
    | (with_reducible refine gj_Fr.trans ?_ (gj_Fr.wide (gj_FOu (fr_X4_leastGood _ _ _) (by with_reducible assumption)) ?_); rotate_left; · first | decide +kernel | simp [gj_fsub])

set_option maxHeartbeats 600000 in
theorem fr_B_X4_leastCow_17 {rec17 : Int → Int → Int → Int → gj_M → Option (Int × gj_M)} (hrec17 : ∀ (l1 l2 l4 l6 : Int) (M : gj_M), gj_FO Prod.snd [32, 33] [(31, 9)] M (rec17 l1 l2 l4 l6 M)) (l1 l2 l4 l6 : Int) (M : gj_M) : gj_FO Prod.snd [32, 33] [(31, 9)] M (B_X4_leastCow_17 rec17 l1 l2 l4 l6 M) := by
  unfold B_X4_leastCow_17
  have hM : gj_Fr [32, 33] [(31, 9)] M M := gj_Fr.rf
  repeat' first
    | with_reducible assumption
    | with_reducible exact gj_Fr.rf
    | with_reducible exact fo_none
    | with_reducible refine fo_some ?_
    | with_reducible refine fo_ite ?_ ?_
    | with_reducible refine fo_chk ?_
    | with_reducible refine fo_let ?_ (fun _ _ => ?_)
    | with_reducible refine fo_letI (fun _ => ?_)
    | with_reducible refine fo_let2 ?_ (fun _ _ _ => ?_)
    | with_reducible refine fo_bndM (fun _ _ => ?_) (fun _ _ => ?_)
    | with_reducible refine fo_bnd (fun _ => ?_)
    | with_reducible refine fo_bnd2 (fun _ _ _ => ?_) (fun _ _ _ => ?_)
    | (with_reducible refine gj_Fr.up ?_ ?_; rotate_left; · first | decide +kernel | rfl | simp)
    | (with_reducible refine gj_Fr.put ?_ ?_; rotate_left; · first | decide +kernel | rfl | simp)
    | (with_reducible refine gj_Fr.fill ?_ ?_; rotate_left; · first | decide +kernel | rfl | simp)
    | (with_reducible refine gj_Fr.copy ?_ ?_; rotate_left; · first | decide +kernel | rfl | simp)
    | with_reducible exact fo_tr (by with_reducible assumption) (hrec17 _ _ _ _ _)
    | (with_reducible refine gj_Fr.trans ?_ (gj_Fr.wide (gj_FOu (fr_X4_doingC _ _ _ _) (by with_reducible assumption)) ?_); rotate_left; · first | decide +kernel | simp [gj_fsub])
    | (with_reducible refine gj_Fr.trans ?_ (gj_Fr.wide (gj_FOu (fr_X4_worthC _ _ _) (by with_reducible assumption)) ?_); rotate_left; · first | decide +kernel | simp [gj_fsub])

theorem frL_X4_leastCow_17 : ∀ (m : Nat) (l1 l2 l4 l6 : Int) (M : gj_M), gj_FO Prod.snd [32, 33] [(31, 9)] M (gj_it (fun _ _ _ _ _ => none) (B_X4_leastCow_17) m l1 l2 l4 l6 M)
  | 0, l1, l2, l4, l6, M => fun r e => by cases (show (none : Option (Int × gj_M)) = some r from e)
  | m + 1, l1, l2, l4, l6, M => fr_B_X4_leastCow_17 (fun l1 l2 l4 l6 M => frL_X4_leastCow_17 m l1 l2 l4 l6 M) l1 l2 l4 l6 M
set_option maxHeartbeats 600000 in
theorem fr_X4_leastCow (a1 : Int) {M : gj_M} : gj_FO Prod.snd [32, 33] [(31, 9)] M (F_X4_leastCow a1 M) := by
  unfold F_X4_leastCow
  have hM : gj_Fr [32, 33] [(31, 9)] M M := gj_Fr.rf
  repeat' first
    | with_reducible assumption
    | with_reducible exact gj_Fr.rf
    | with_reducible exact fo_none
    | with_reducible refine fo_some ?_
    | with_reducible refine fo_ite ?_ ?_
    | with_reducible refine fo_chk ?_
    | with_reducible refine fo_let ?_ (fun _ _ => ?_)
    | with_reducible refine fo_letI (fun _ => ?_)
    | with_reducible refine fo_let2 ?_ (fun _ _ _ => ?_)
    | with_reducible refine fo_bndM (fun _ _ => ?_) (fun _ _ => ?_)
    | with_reducible refine fo_bnd (fun _ => ?_)
    | with_reducible refine fo_bnd2 (fun _ _ _ => ?_) (fun _ _ _ => ?_)
    | (with_reducible refine gj_Fr.up ?_ ?_; rotate_left; · first | decide +kernel | rfl | simp)
    | (with_reducible refine gj_Fr.put ?_ ?_; rotate_left; · first | decide +kernel | rfl | simp)
    | (with_reducible refine gj_Fr.fill ?_ ?_; rotate_left; · first | decide +kernel | rfl | simp)
    | (with_reducible refine gj_Fr.copy ?_ ?_; rotate_left; · first | decide +kernel | rfl | simp)
    | with_reducible exact fo_tr (by with_reducible assumption) (frL_X4_leastCow_17 _ _ _ _ _ _)
    | (with_reducible refine gj_Fr.trans ?_ (gj_Fr.wide (gj_FOu (fr_X4_doingC _ _ _ _) (by with_reducible assumption)) ?_); rotate_left; · first | decide +kernel | simp [gj_fsub])
    | (with_reducible refine gj_Fr.trans ?_ (gj_Fr.wide (gj_FOu (fr_X4_worthC _ _ _) (by with_reducible assumption)) ?_); rotate_left; · first | decide +kernel | simp [gj_fsub])

set_option maxHeartbeats 600000 in
theorem fr_X11_price (a1 : Int) (a2 : Int) {M : gj_M} : gj_FO Prod.snd [32, 33, 34] [(31, 5), (31, 6), (31, 7), (31, 8), (31, 9), (31, 10)] M (F_X11_price a1 a2 M) := by
  unfold F_X11_price
  have hM : gj_Fr [32, 33, 34] [(31, 5), (31, 6), (31, 7), (31, 8), (31, 9), (31, 10)] M M := gj_Fr.rf
  repeat' first
    | with_reducible assumption
    | with_reducible exact gj_Fr.rf
    | with_reducible exact fo_none
    | with_reducible refine fo_some ?_
    | with_reducible refine fo_ite ?_ ?_
    | with_reducible refine fo_chk ?_
    | with_reducible refine fo_let ?_ (fun _ _ => ?_)
    | with_reducible refine fo_letI (fun _ => ?_)
    | with_reducible refine fo_let2 ?_ (fun _ _ _ => ?_)
    | with_reducible refine fo_bndM (fun _ _ => ?_) (fun _ _ => ?_)
    | with_reducible refine fo_bnd (fun _ => ?_)
    | with_reducible refine fo_bnd2 (fun _ _ _ => ?_) (fun _ _ _ => ?_)
    | (with_reducible refine gj_Fr.up ?_ ?_; rotate_left; · first | decide +kernel | rfl | simp)
    | (with_reducible refine gj_Fr.put ?_ ?_; rotate_left; · first | decide +kernel | rfl | simp)
    | (with_reducible refine gj_Fr.fill ?_ ?_; rotate_left; · first | decide +kernel | rfl | simp)
    | (with_reducible refine gj_Fr.copy ?_ ?_; rotate_left; · first | decide +kernel | rfl | simp)
    | (with_reducible refine gj_Fr.trans ?_ (gj_Fr.wide (gj_FOu (fr_X4_enter _) (by with_reducible assumption)) ?_); rotate_left; · first | decide +kernel | simp [gj_fsub])
    | (with_reducible refine gj_Fr.trans ?_ (gj_Fr.wide (gj_FOu (fr_X4_leastCow _) (by with_reducible assumption)) ?_); rotate_left; · first | decide +kernel | simp [gj_fsub])

set_option maxHeartbeats 600000 in
theorem fr_X4_shutOut (a1 : Int) {M : gj_M} : gj_Fr [] [(31, 10)] M (f_X4_shutOut a1 M) := by
  unfold f_X4_shutOut
  have hM : gj_Fr [] [(31, 10)] M M := gj_Fr.rf
  repeat' first
    | with_reducible assumption
    | with_reducible exact gj_Fr.rf
    | with_reducible refine ft_ite ?_ ?_
    | with_reducible refine ft_let ?_ (fun _ _ => ?_)
    | with_reducible refine ft_letI (fun _ => ?_)
    | with_reducible refine ft_let2 ?_ (fun _ _ _ => ?_)
    | with_reducible refine fu_ite ?_ ?_
    | with_reducible refine fu_let ?_ (fun _ _ => ?_)
    | with_reducible refine fu_letI (fun _ => ?_)
    | with_reducible refine fu_let2 ?_ (fun _ _ _ => ?_)
    | (with_reducible refine gj_Fr.up ?_ ?_; rotate_left; · first | decide +kernel | rfl | simp)
    | (with_reducible refine gj_Fr.put ?_ ?_; rotate_left; · first | decide +kernel | rfl | simp)
    | (with_reducible refine gj_Fr.fill ?_ ?_; rotate_left; · first | decide +kernel | rfl | simp)
    | (with_reducible refine gj_Fr.copy ?_ ?_; rotate_left; · first | decide +kernel | rfl | simp)

set_option maxHeartbeats 600000 in
theorem fr_J_X11_waits_86 (l3 l4 l5 s0 : Int) (M : gj_M) : gj_FO Prod.snd [32, 33, 34] [(31, 5), (31, 6), (31, 7), (31, 8), (31, 9), (31, 10)] M (J_X11_waits_86 l3 l4 l5 s0 M) := by
  unfold J_X11_waits_86
  have hM : gj_Fr [32, 33, 34] [(31, 5), (31, 6), (31, 7), (31, 8), (31, 9), (31, 10)] M M := gj_Fr.rf
  repeat' first
    | with_reducible assumption
    | with_reducible exact gj_Fr.rf
    | with_reducible exact fo_none
    | with_reducible refine fo_some ?_
    | with_reducible refine fo_ite ?_ ?_
    | with_reducible refine fo_chk ?_
    | with_reducible refine fo_let ?_ (fun _ _ => ?_)
    | with_reducible refine fo_letI (fun _ => ?_)
    | with_reducible refine fo_let2 ?_ (fun _ _ _ => ?_)
    | with_reducible refine fo_bndM (fun _ _ => ?_) (fun _ _ => ?_)
    | with_reducible refine fo_bnd (fun _ => ?_)
    | with_reducible refine fo_bnd2 (fun _ _ _ => ?_) (fun _ _ _ => ?_)
    | (with_reducible refine gj_Fr.up ?_ ?_; rotate_left; · first | decide +kernel | rfl | simp)
    | (with_reducible refine gj_Fr.put ?_ ?_; rotate_left; · first | decide +kernel | rfl | simp)
    | (with_reducible refine gj_Fr.fill ?_ ?_; rotate_left; · first | decide +kernel | rfl | simp)
    | (with_reducible refine gj_Fr.copy ?_ ?_; rotate_left; · first | decide +kernel | rfl | simp)
    | (with_reducible refine gj_Fr.trans ?_ (gj_Fr.wide (gj_FOu (fr_X4_bestWorth _) (by with_reducible assumption)) ?_); rotate_left; · first | decide +kernel | simp [gj_fsub])
    | (with_reducible refine gj_Fr.trans ?_ (gj_Fr.wide (gj_FOu (fr_X4_enter _) (by with_reducible assumption)) ?_); rotate_left; · first | decide +kernel | simp [gj_fsub])
    | (with_reducible refine gj_Fr.trans ?_ (gj_Fr.wide (fr_X4_shutOut _) ?_); rotate_left; · first | decide +kernel | simp [gj_fsub])

set_option maxHeartbeats 600000 in
theorem fr_X11_waits (a1 : Int) (a2 : Int) (a3 : Int) {M : gj_M} : gj_FO Prod.snd [32, 33, 34] [(31, 5), (31, 6), (31, 7), (31, 8), (31, 9), (31, 10)] M (F_X11_waits a1 a2 a3 M) := by
  unfold F_X11_waits
  have hM : gj_Fr [32, 33, 34] [(31, 5), (31, 6), (31, 7), (31, 8), (31, 9), (31, 10)] M M := gj_Fr.rf
  repeat' first
    | with_reducible assumption
    | with_reducible exact gj_Fr.rf
    | with_reducible exact fo_none
    | with_reducible refine fo_some ?_
    | with_reducible refine fo_ite ?_ ?_
    | with_reducible refine fo_chk ?_
    | with_reducible refine fo_let ?_ (fun _ _ => ?_)
    | with_reducible refine fo_letI (fun _ => ?_)
    | with_reducible refine fo_let2 ?_ (fun _ _ _ => ?_)
    | with_reducible refine fo_bndM (fun _ _ => ?_) (fun _ _ => ?_)
    | with_reducible refine fo_bnd (fun _ => ?_)
    | with_reducible refine fo_bnd2 (fun _ _ _ => ?_) (fun _ _ _ => ?_)
    | (with_reducible refine gj_Fr.up ?_ ?_; rotate_left; · first | decide +kernel | rfl | simp)
    | (with_reducible refine gj_Fr.put ?_ ?_; rotate_left; · first | decide +kernel | rfl | simp)
    | (with_reducible refine gj_Fr.fill ?_ ?_; rotate_left; · first | decide +kernel | rfl | simp)
    | (with_reducible refine gj_Fr.copy ?_ ?_; rotate_left; · first | decide +kernel | rfl | simp)
    | with_reducible exact fo_tr (by with_reducible assumption) (fr_J_X11_waits_86 _ _ _ _ _)
    | (with_reducible refine gj_Fr.trans ?_ (gj_Fr.wide (gj_FOu (fr_X4_bestWorth _) (by with_reducible assumption)) ?_); rotate_left; · first | decide +kernel | simp [gj_fsub])
    | (with_reducible refine gj_Fr.trans ?_ (gj_Fr.wide (gj_FOu (fr_X4_enter _) (by with_reducible assumption)) ?_); rotate_left; · first | decide +kernel | simp [gj_fsub])
    | (with_reducible refine gj_Fr.trans ?_ (gj_Fr.wide (fr_X4_shutOut _) ?_); rotate_left; · first | decide +kernel | simp [gj_fsub])

set_option maxHeartbeats 600000 in
theorem fr_X11_way (a1 : Int) {M : gj_M} : gj_Fr [78] [(21, 1)] M (f_X11_way a1 M).2 := by
  unfold f_X11_way
  have hM : gj_Fr [78] [(21, 1)] M M := gj_Fr.rf
  repeat' first
    | with_reducible assumption
    | with_reducible exact gj_Fr.rf
    | with_reducible refine ft_ite ?_ ?_
    | with_reducible refine ft_let ?_ (fun _ _ => ?_)
    | with_reducible refine ft_letI (fun _ => ?_)
    | with_reducible refine ft_let2 ?_ (fun _ _ _ => ?_)
    | with_reducible refine fu_ite ?_ ?_
    | with_reducible refine fu_let ?_ (fun _ _ => ?_)
    | with_reducible refine fu_letI (fun _ => ?_)
    | with_reducible refine fu_let2 ?_ (fun _ _ _ => ?_)
    | (with_reducible refine gj_Fr.up ?_ ?_; rotate_left; · first | decide +kernel | rfl | simp)
    | (with_reducible refine gj_Fr.put ?_ ?_; rotate_left; · first | decide +kernel | rfl | simp)
    | (with_reducible refine gj_Fr.fill ?_ ?_; rotate_left; · first | decide +kernel | rfl | simp)
    | (with_reducible refine gj_Fr.copy ?_ ?_; rotate_left; · first | decide +kernel | rfl | simp)
    | (with_reducible refine gj_Fr.trans ?_ (gj_Fr.wide (fr_X11_refuse _) ?_); rotate_left; · first | decide +kernel | simp [gj_fsub])

set_option maxHeartbeats 600000 in
theorem fr_X11_seed (a1 : Int) {M : gj_M} : gj_Fr [78] [(21, 2)] M (f_X11_seed a1 M).2 := by
  unfold f_X11_seed
  have hM : gj_Fr [78] [(21, 2)] M M := gj_Fr.rf
  repeat' first
    | with_reducible assumption
    | with_reducible exact gj_Fr.rf
    | with_reducible refine ft_ite ?_ ?_
    | with_reducible refine ft_let ?_ (fun _ _ => ?_)
    | with_reducible refine ft_letI (fun _ => ?_)
    | with_reducible refine ft_let2 ?_ (fun _ _ _ => ?_)
    | with_reducible refine fu_ite ?_ ?_
    | with_reducible refine fu_let ?_ (fun _ _ => ?_)
    | with_reducible refine fu_letI (fun _ => ?_)
    | with_reducible refine fu_let2 ?_ (fun _ _ _ => ?_)
    | (with_reducible refine gj_Fr.up ?_ ?_; rotate_left; · first | decide +kernel | rfl | simp)
    | (with_reducible refine gj_Fr.put ?_ ?_; rotate_left; · first | decide +kernel | rfl | simp)
    | (with_reducible refine gj_Fr.fill ?_ ?_; rotate_left; · first | decide +kernel | rfl | simp)
    | (with_reducible refine gj_Fr.copy ?_ ?_; rotate_left; · first | decide +kernel | rfl | simp)
    | (with_reducible refine gj_Fr.trans ?_ (gj_Fr.wide (fr_X11_refuse _) ?_); rotate_left; · first | decide +kernel | simp [gj_fsub])

set_option maxHeartbeats 600000 in
theorem fr_J_X2_gather_58 {rec2 : Int → Int → gj_M → Option (gj_M)} (hrec2 : ∀ (l1 l2 : Int) (M : gj_M), gj_FO (fun m => m) [38] [] M (rec2 l1 l2 M)) (l1 l2 s1 s2 : Int) (M : gj_M) : gj_FO (fun m => m) [38] [] M (J_X2_gather_58 rec2 l1 l2 s1 s2 M) := by
  unfold J_X2_gather_58
  have hM : gj_Fr [38] [] M M := gj_Fr.rf
  repeat' first
    | with_reducible assumption
    | with_reducible exact gj_Fr.rf
    | with_reducible exact fo_none
    | with_reducible refine fo_some ?_
    | with_reducible refine fo_ite ?_ ?_
    | with_reducible refine fo_chk ?_
    | with_reducible refine fo_let ?_ (fun _ _ => ?_)
    | with_reducible refine fo_letI (fun _ => ?_)
    | with_reducible refine fo_let2 ?_ (fun _ _ _ => ?_)
    | with_reducible refine fo_bndM (fun _ _ => ?_) (fun _ _ => ?_)
    | with_reducible refine fo_bnd (fun _ => ?_)
    | with_reducible refine fo_bnd2 (fun _ _ _ => ?_) (fun _ _ _ => ?_)
    | (with_reducible refine gj_Fr.up ?_ ?_; rotate_left; · first | decide +kernel | rfl | simp)
    | (with_reducible refine gj_Fr.put ?_ ?_; rotate_left; · first | decide +kernel | rfl | simp)
    | (with_reducible refine gj_Fr.fill ?_ ?_; rotate_left; · first | decide +kernel | rfl | simp)
    | (with_reducible refine gj_Fr.copy ?_ ?_; rotate_left; · first | decide +kernel | rfl | simp)
    | with_reducible exact fo_tr (by with_reducible assumption) (hrec2 _ _ _)

set_option maxHeartbeats 600000 in
theorem fr_J_X2_gather_32 {rec2 : Int → Int → gj_M → Option (gj_M)} (hrec2 : ∀ (l1 l2 : Int) (M : gj_M), gj_FO (fun m => m) [38] [] M (rec2 l1 l2 M)) (l1 l2 s0 : Int) (M : gj_M) : gj_FO (fun m => m) [38] [] M (J_X2_gather_32 rec2 l1 l2 s0 M) := by
  unfold J_X2_gather_32
  have hM : gj_Fr [38] [] M M := gj_Fr.rf
  repeat' first
    | with_reducible assumption
    | with_reducible exact gj_Fr.rf
    | with_reducible exact fo_none
    | with_reducible refine fo_some ?_
    | with_reducible refine fo_ite ?_ ?_
    | with_reducible refine fo_chk ?_
    | with_reducible refine fo_let ?_ (fun _ _ => ?_)
    | with_reducible refine fo_letI (fun _ => ?_)
    | with_reducible refine fo_let2 ?_ (fun _ _ _ => ?_)
    | with_reducible refine fo_bndM (fun _ _ => ?_) (fun _ _ => ?_)
    | with_reducible refine fo_bnd (fun _ => ?_)
    | with_reducible refine fo_bnd2 (fun _ _ _ => ?_) (fun _ _ _ => ?_)
    | (with_reducible refine gj_Fr.up ?_ ?_; rotate_left; · first | decide +kernel | rfl | simp)
    | (with_reducible refine gj_Fr.put ?_ ?_; rotate_left; · first | decide +kernel | rfl | simp)
    | (with_reducible refine gj_Fr.fill ?_ ?_; rotate_left; · first | decide +kernel | rfl | simp)
    | (with_reducible refine gj_Fr.copy ?_ ?_; rotate_left; · first | decide +kernel | rfl | simp)
    | with_reducible exact fo_tr (by with_reducible assumption) (fr_J_X2_gather_58 hrec2 _ _ _ _ _)
    | with_reducible exact fo_tr (by with_reducible assumption) (hrec2 _ _ _)

set_option maxHeartbeats 600000 in
theorem fr_B_X2_gather_2 {rec2 : Int → Int → gj_M → Option (gj_M)} (hrec2 : ∀ (l1 l2 : Int) (M : gj_M), gj_FO (fun m => m) [38] [] M (rec2 l1 l2 M)) (l1 l2 : Int) (M : gj_M) : gj_FO (fun m => m) [38] [] M (B_X2_gather_2 rec2 l1 l2 M) := by
  unfold B_X2_gather_2
  have hM : gj_Fr [38] [] M M := gj_Fr.rf
  repeat' first
    | with_reducible assumption
    | with_reducible exact gj_Fr.rf
    | with_reducible exact fo_none
    | with_reducible refine fo_some ?_
    | with_reducible refine fo_ite ?_ ?_
    | with_reducible refine fo_chk ?_
    | with_reducible refine fo_let ?_ (fun _ _ => ?_)
    | with_reducible refine fo_letI (fun _ => ?_)
    | with_reducible refine fo_let2 ?_ (fun _ _ _ => ?_)
    | with_reducible refine fo_bndM (fun _ _ => ?_) (fun _ _ => ?_)
    | with_reducible refine fo_bnd (fun _ => ?_)
    | with_reducible refine fo_bnd2 (fun _ _ _ => ?_) (fun _ _ _ => ?_)
    | (with_reducible refine gj_Fr.up ?_ ?_; rotate_left; · first | decide +kernel | rfl | simp)
    | (with_reducible refine gj_Fr.put ?_ ?_; rotate_left; · first | decide +kernel | rfl | simp)
    | (with_reducible refine gj_Fr.fill ?_ ?_; rotate_left; · first | decide +kernel | rfl | simp)
    | (with_reducible refine gj_Fr.copy ?_ ?_; rotate_left; · first | decide +kernel | rfl | simp)
    | with_reducible exact fo_tr (by with_reducible assumption) (fr_J_X2_gather_32 hrec2 _ _ _ _)
    | with_reducible exact fo_tr (by with_reducible assumption) (hrec2 _ _ _)

theorem frL_X2_gather_2 : ∀ (m : Nat) (l1 l2 : Int) (M : gj_M), gj_FO (fun m => m) [38] [] M (gj_it (fun _ _ _ => none) (B_X2_gather_2) m l1 l2 M)
  | 0, l1, l2, M => fun r e => by cases (show (none : Option (gj_M)) = some r from e)
  | m + 1, l1, l2, M => fr_B_X2_gather_2 (fun l1 l2 M => frL_X2_gather_2 m l1 l2 M) l1 l2 M
set_option maxHeartbeats 600000 in
theorem fr_X2_gather (a1 : Int) {M : gj_M} : gj_FO (fun m => m) [38] [] M (F_X2_gather a1 M) := by
  unfold F_X2_gather
  have hM : gj_Fr [38] [] M M := gj_Fr.rf
  repeat' first
    | with_reducible assumption
    | with_reducible exact gj_Fr.rf
    | with_reducible exact fo_none
    | with_reducible refine fo_some ?_
    | with_reducible refine fo_ite ?_ ?_
    | with_reducible refine fo_chk ?_
    | with_reducible refine fo_let ?_ (fun _ _ => ?_)
    | with_reducible refine fo_letI (fun _ => ?_)
    | with_reducible refine fo_let2 ?_ (fun _ _ _ => ?_)
    | with_reducible refine fo_bndM (fun _ _ => ?_) (fun _ _ => ?_)
    | with_reducible refine fo_bnd (fun _ => ?_)
    | with_reducible refine fo_bnd2 (fun _ _ _ => ?_) (fun _ _ _ => ?_)
    | (with_reducible refine gj_Fr.up ?_ ?_; rotate_left; · first | decide +kernel | rfl | simp)
    | (with_reducible refine gj_Fr.put ?_ ?_; rotate_left; · first | decide +kernel | rfl | simp)
    | (with_reducible refine gj_Fr.fill ?_ ?_; rotate_left; · first | decide +kernel | rfl | simp)
    | (with_reducible refine gj_Fr.copy ?_ ?_; rotate_left; · first | decide +kernel | rfl | simp)
    | with_reducible exact fo_tr (by with_reducible assumption) (frL_X2_gather_2 _ _ _ _)

set_option maxHeartbeats 600000 in
theorem fr_X2_tie (a1 : Int) (a2 : Int) {M : gj_M} : gj_Fr [40] [] M (f_X2_tie a1 a2 M) := by
  unfold f_X2_tie
  have hM : gj_Fr [40] [] M M := gj_Fr.rf
  repeat' first
    | with_reducible assumption
    | with_reducible exact gj_Fr.rf
    | with_reducible refine ft_ite ?_ ?_
    | with_reducible refine ft_let ?_ (fun _ _ => ?_)
    | with_reducible refine ft_letI (fun _ => ?_)
    | with_reducible refine ft_let2 ?_ (fun _ _ _ => ?_)
    | with_reducible refine fu_ite ?_ ?_
    | with_reducible refine fu_let ?_ (fun _ _ => ?_)
    | with_reducible refine fu_letI (fun _ => ?_)
    | with_reducible refine fu_let2 ?_ (fun _ _ _ => ?_)
    | (with_reducible refine gj_Fr.up ?_ ?_; rotate_left; · first | decide +kernel | rfl | simp)
    | (with_reducible refine gj_Fr.put ?_ ?_; rotate_left; · first | decide +kernel | rfl | simp)
    | (with_reducible refine gj_Fr.fill ?_ ?_; rotate_left; · first | decide +kernel | rfl | simp)
    | (with_reducible refine gj_Fr.copy ?_ ?_; rotate_left; · first | decide +kernel | rfl | simp)

set_option maxHeartbeats 600000 in
theorem fr_X2_ask (a1 : Int) (a2 : Int) {M : gj_M} : gj_Fr [39, 40] [] M (f_X2_ask a1 a2 M) := by
  unfold f_X2_ask
  have hM : gj_Fr [39, 40] [] M M := gj_Fr.rf
  repeat' first
    | with_reducible assumption
    | with_reducible exact gj_Fr.rf
    | with_reducible refine ft_ite ?_ ?_
    | with_reducible refine ft_let ?_ (fun _ _ => ?_)
    | with_reducible refine ft_letI (fun _ => ?_)
    | with_reducible refine ft_let2 ?_ (fun _ _ _ => ?_)
    | with_reducible refine fu_ite ?_ ?_
    | with_reducible refine fu_let ?_ (fun _ _ => ?_)
    | with_reducible refine fu_letI (fun _ => ?_)
    | with_reducible refine fu_let2 ?_ (fun _ _ _ => ?_)
    | (with_reducible refine gj_Fr.up ?_ ?_; rotate_left; · first | decide +kernel | rfl | simp)
    | (with_reducible refine gj_Fr.put ?_ ?_; rotate_left; · first | decide +kernel | rfl | simp)
    | (with_reducible refine gj_Fr.fill ?_ ?_; rotate_left; · first | decide +kernel | rfl | simp)
    | (with_reducible refine gj_Fr.copy ?_ ?_; rotate_left; · first | decide +kernel | rfl | simp)
    | (with_reducible refine gj_Fr.trans ?_ (gj_Fr.wide (fr_X2_tie _ _) ?_); rotate_left; · first | decide +kernel | simp [gj_fsub])

set_option maxHeartbeats 600000 in
theorem fr_J_X2_askAll_45 {rec2 : Int → Int → gj_M → Option (gj_M)} (hrec2 : ∀ (l1 l2 : Int) (M : gj_M), gj_FO (fun m => m) [39, 40] [] M (rec2 l1 l2 M)) (l1 l2 : Int) (M : gj_M) : gj_FO (fun m => m) [39, 40] [] M (J_X2_askAll_45 rec2 l1 l2 M) := by
  unfold J_X2_askAll_45
  have hM : gj_Fr [39, 40] [] M M := gj_Fr.rf
  repeat' first
    | with_reducible assumption
    | with_reducible exact gj_Fr.rf
    | with_reducible exact fo_none
    | with_reducible refine fo_some ?_
    | with_reducible refine fo_ite ?_ ?_
    | with_reducible refine fo_chk ?_
    | with_reducible refine fo_let ?_ (fun _ _ => ?_)
    | with_reducible refine fo_letI (fun _ => ?_)
    | with_reducible refine fo_let2 ?_ (fun _ _ _ => ?_)
    | with_reducible refine fo_bndM (fun _ _ => ?_) (fun _ _ => ?_)
    | with_reducible refine fo_bnd (fun _ => ?_)
    | with_reducible refine fo_bnd2 (fun _ _ _ => ?_) (fun _ _ _ => ?_)
    | (with_reducible refine gj_Fr.up ?_ ?_; rotate_left; · first | decide +kernel | rfl | simp)
    | (with_reducible refine gj_Fr.put ?_ ?_; rotate_left; · first | decide +kernel | rfl | simp)
    | (with_reducible refine gj_Fr.fill ?_ ?_; rotate_left; · first | decide +kernel | rfl | simp)
    | (with_reducible refine gj_Fr.copy ?_ ?_; rotate_left; · first | decide +kernel | rfl | simp)
    | with_reducible exact fo_tr (by with_reducible assumption) (hrec2 _ _ _)
    | (with_reducible refine gj_Fr.trans ?_ (gj_Fr.wide (fr_X2_ask _ _) ?_); rotate_left; · first | decide +kernel | simp [gj_fsub])

set_option maxHeartbeats 600000 in
theorem fr_J_X2_askAll_39 {rec2 : Int → Int → gj_M → Option (gj_M)} {rec10 : Int → Int → Int → gj_M → Option (gj_M)} (hrec2 : ∀ (l1 l2 : Int) (M : gj_M), gj_FO (fun m => m) [39, 40] [] M (rec2 l1 l2 M)) (hrec10 : ∀ (l1 l2 l3 : Int) (M : gj_M), gj_FO (fun m => m) [39, 40] [] M (rec10 l1 l2 l3 M)) (l1 l2 l3 : Int) (M : gj_M) : gj_FO (fun m => m) [39, 40] [] M (J_X2_askAll_39 rec2 rec10 l1 l2 l3 M) := by
  unfold J_X2_askAll_39
  have hM : gj_Fr [39, 40] [] M M := gj_Fr.rf
  repeat' first
    | with_reducible assumption
    | with_reducible exact gj_Fr.rf
    | with_reducible exact fo_none
    | with_reducible refine fo_some ?_
    | with_reducible refine fo_ite ?_ ?_
    | with_reducible refine fo_chk ?_
    | with_reducible refine fo_let ?_ (fun _ _ => ?_)
    | with_reducible refine fo_letI (fun _ => ?_)
    | with_reducible refine fo_let2 ?_ (fun _ _ _ => ?_)
    | with_reducible refine fo_bndM (fun _ _ => ?_) (fun _ _ => ?_)
    | with_reducible refine fo_bnd (fun _ => ?_)
    | with_reducible refine fo_bnd2 (fun _ _ _ => ?_) (fun _ _ _ => ?_)
    | (with_reducible refine gj_Fr.up ?_ ?_; rotate_left; · first | decide +kernel | rfl | simp)
    | (with_reducible refine gj_Fr.put ?_ ?_; rotate_left; · first | decide +kernel | rfl | simp)
    | (with_reducible refine gj_Fr.fill ?_ ?_; rotate_left; · first | decide +kernel | rfl | simp)
    | (with_reducible refine gj_Fr.copy ?_ ?_; rotate_left; · first | decide +kernel | rfl | simp)
    | with_reducible exact fo_tr (by with_reducible assumption) (hrec2 _ _ _)
    | with_reducible exact fo_tr (by with_reducible assumption) (hrec10 _ _ _ _)
    | (with_reducible refine gj_Fr.trans ?_ (gj_Fr.wide (fr_X2_ask _ _) ?_); rotate_left; · first | decide +kernel | simp [gj_fsub])

set_option maxHeartbeats 600000 in
theorem fr_B_X2_askAll_10 {rec2 : Int → Int → gj_M → Option (gj_M)} {rec10 : Int → Int → Int → gj_M → Option (gj_M)} (hrec2 : ∀ (l1 l2 : Int) (M : gj_M), gj_FO (fun m => m) [39, 40] [] M (rec2 l1 l2 M)) (hrec10 : ∀ (l1 l2 l3 : Int) (M : gj_M), gj_FO (fun m => m) [39, 40] [] M (rec10 l1 l2 l3 M)) (l1 l2 l3 : Int) (M : gj_M) : gj_FO (fun m => m) [39, 40] [] M (B_X2_askAll_10 rec2 rec10 l1 l2 l3 M) := by
  unfold B_X2_askAll_10
  have hM : gj_Fr [39, 40] [] M M := gj_Fr.rf
  repeat' first
    | with_reducible assumption
    | with_reducible exact gj_Fr.rf
    | with_reducible exact fo_none
    | with_reducible refine fo_some ?_
    | with_reducible refine fo_ite ?_ ?_
    | with_reducible refine fo_chk ?_
    | with_reducible refine fo_let ?_ (fun _ _ => ?_)
    | with_reducible refine fo_letI (fun _ => ?_)
    | with_reducible refine fo_let2 ?_ (fun _ _ _ => ?_)
    | with_reducible refine fo_bndM (fun _ _ => ?_) (fun _ _ => ?_)
    | with_reducible refine fo_bnd (fun _ => ?_)
    | with_reducible refine fo_bnd2 (fun _ _ _ => ?_) (fun _ _ _ => ?_)
    | (with_reducible refine gj_Fr.up ?_ ?_; rotate_left; · first | decide +kernel | rfl | simp)
    | (with_reducible refine gj_Fr.put ?_ ?_; rotate_left; · first | decide +kernel | rfl | simp)
    | (with_reducible refine gj_Fr.fill ?_ ?_; rotate_left; · first | decide +kernel | rfl | simp)
    | (with_reducible refine gj_Fr.copy ?_ ?_; rotate_left; · first | decide +kernel | rfl | simp)
    | with_reducible exact fo_tr (by with_reducible assumption) (fr_J_X2_askAll_39 hrec2 hrec10 _ _ _ _)
    | with_reducible exact fo_tr (by with_reducible assumption) (fr_J_X2_askAll_45 hrec2 _ _ _)
    | with_reducible exact fo_tr (by with_reducible assumption) (hrec2 _ _ _)
    | with_reducible exact fo_tr (by with_reducible assumption) (hrec10 _ _ _ _)
    | (with_reducible refine gj_Fr.trans ?_ (gj_Fr.wide (fr_X2_ask _ _) ?_); rotate_left; · first | decide +kernel | simp [gj_fsub])

theorem frL_X2_askAll_10 {rec2 : Int → Int → gj_M → Option (gj_M)} (hrec2 : ∀ (l1 l2 : Int) (M : gj_M), gj_FO (fun m => m) [39, 40] [] M (rec2 l1 l2 M)) : ∀ (m : Nat) (l1 l2 l3 : Int) (M : gj_M), gj_FO (fun m => m) [39, 40] [] M (gj_it (fun _ _ _ _ => none) (B_X2_askAll_10 rec2) m l1 l2 l3 M)
  | 0, l1, l2, l3, M => fun r e => by cases (show (none : Option (gj_M)) = some r from e)
  | m + 1, l1, l2, l3, M => fr_B_X2_askAll_10 hrec2 (fun l1 l2 l3 M => frL_X2_askAll_10 hrec2 m l1 l2 l3 M) l1 l2 l3 M
set_option maxHeartbeats 600000 in
theorem fr_B_X2_askAll_2 {rec2 : Int → Int → gj_M → Option (gj_M)} (hrec2 : ∀ (l1 l2 : Int) (M : gj_M), gj_FO (fun m => m) [39, 40] [] M (rec2 l1 l2 M)) (l1 l2 : Int) (M : gj_M) : gj_FO (fun m => m) [39, 40] [] M (B_X2_askAll_2 rec2 l1 l2 M) := by
  unfold B_X2_askAll_2
  have hM : gj_Fr [39, 40] [] M M := gj_Fr.rf
  repeat' first
    | with_reducible assumption
    | with_reducible exact gj_Fr.rf
    | with_reducible exact fo_none
    | with_reducible refine fo_some ?_
    | with_reducible refine fo_ite ?_ ?_
    | with_reducible refine fo_chk ?_
    | with_reducible refine fo_let ?_ (fun _ _ => ?_)
    | with_reducible refine fo_letI (fun _ => ?_)
    | with_reducible refine fo_let2 ?_ (fun _ _ _ => ?_)
    | with_reducible refine fo_bndM (fun _ _ => ?_) (fun _ _ => ?_)
    | with_reducible refine fo_bnd (fun _ => ?_)
    | with_reducible refine fo_bnd2 (fun _ _ _ => ?_) (fun _ _ _ => ?_)
    | (with_reducible refine gj_Fr.up ?_ ?_; rotate_left; · first | decide +kernel | rfl | simp)
    | (with_reducible refine gj_Fr.put ?_ ?_; rotate_left; · first | decide +kernel | rfl | simp)
    | (with_reducible refine gj_Fr.fill ?_ ?_; rotate_left; · first | decide +kernel | rfl | simp)
    | (with_reducible refine gj_Fr.copy ?_ ?_; rotate_left; · first | decide +kernel | rfl | simp)
    | with_reducible exact fo_tr (by with_reducible assumption) (frL_X2_askAll_10 hrec2 _ _ _ _ _)
    | with_reducible exact fo_tr (by with_reducible assumption) (hrec2 _ _ _)
    | (with_reducible refine gj_Fr.trans ?_ (gj_Fr.wide (fr_X2_ask _ _) ?_); rotate_left; · first | decide +kernel | simp [gj_fsub])

theorem frL_X2_askAll_2 : ∀ (m : Nat) (l1 l2 : Int) (M : gj_M), gj_FO (fun m => m) [39, 40] [] M (gj_it (fun _ _ _ => none) (B_X2_askAll_2) m l1 l2 M)
  | 0, l1, l2, M => fun r e => by cases (show (none : Option (gj_M)) = some r from e)
  | m + 1, l1, l2, M => fr_B_X2_askAll_2 (fun l1 l2 M => frL_X2_askAll_2 m l1 l2 M) l1 l2 M
set_option maxHeartbeats 600000 in
theorem fr_X2_askAll (a1 : Int) {M : gj_M} : gj_FO (fun m => m) [39, 40] [] M (F_X2_askAll a1 M) := by
  unfold F_X2_askAll
  have hM : gj_Fr [39, 40] [] M M := gj_Fr.rf
  repeat' first
    | with_reducible assumption
    | with_reducible exact gj_Fr.rf
    | with_reducible exact fo_none
    | with_reducible refine fo_some ?_
    | with_reducible refine fo_ite ?_ ?_
    | with_reducible refine fo_chk ?_
    | with_reducible refine fo_let ?_ (fun _ _ => ?_)
    | with_reducible refine fo_letI (fun _ => ?_)
    | with_reducible refine fo_let2 ?_ (fun _ _ _ => ?_)
    | with_reducible refine fo_bndM (fun _ _ => ?_) (fun _ _ => ?_)
    | with_reducible refine fo_bnd (fun _ => ?_)
    | with_reducible refine fo_bnd2 (fun _ _ _ => ?_) (fun _ _ _ => ?_)
    | (with_reducible refine gj_Fr.up ?_ ?_; rotate_left; · first | decide +kernel | rfl | simp)
    | (with_reducible refine gj_Fr.put ?_ ?_; rotate_left; · first | decide +kernel | rfl | simp)
    | (with_reducible refine gj_Fr.fill ?_ ?_; rotate_left; · first | decide +kernel | rfl | simp)
    | (with_reducible refine gj_Fr.copy ?_ ?_; rotate_left; · first | decide +kernel | rfl | simp)
    | with_reducible exact fo_tr (by with_reducible assumption) (frL_X2_askAll_2 _ _ _ _)
    | (with_reducible refine gj_Fr.trans ?_ (gj_Fr.wide (fr_X2_ask _ _) ?_); rotate_left; · first | decide +kernel | simp [gj_fsub])

set_option maxHeartbeats 600000 in
theorem fr_J_X2_takeTurns_49 {rec2 : Int → gj_M → Option (gj_M)} (hrec2 : ∀ (l1 : Int) (M : gj_M), gj_FO (fun m => m) [40] [] M (rec2 l1 M)) (l1 l2 : Int) (M : gj_M) : gj_FO (fun m => m) [40] [] M (J_X2_takeTurns_49 rec2 l1 l2 M) := by
  unfold J_X2_takeTurns_49
  have hM : gj_Fr [40] [] M M := gj_Fr.rf
  repeat' first
    | with_reducible assumption
    | with_reducible exact gj_Fr.rf
    | with_reducible exact fo_none
    | with_reducible refine fo_some ?_
    | with_reducible refine fo_ite ?_ ?_
    | with_reducible refine fo_chk ?_
    | with_reducible refine fo_let ?_ (fun _ _ => ?_)
    | with_reducible refine fo_letI (fun _ => ?_)
    | with_reducible refine fo_let2 ?_ (fun _ _ _ => ?_)
    | with_reducible refine fo_bndM (fun _ _ => ?_) (fun _ _ => ?_)
    | with_reducible refine fo_bnd (fun _ => ?_)
    | with_reducible refine fo_bnd2 (fun _ _ _ => ?_) (fun _ _ _ => ?_)
    | (with_reducible refine gj_Fr.up ?_ ?_; rotate_left; · first | decide +kernel | rfl | simp)
    | (with_reducible refine gj_Fr.put ?_ ?_; rotate_left; · first | decide +kernel | rfl | simp)
    | (with_reducible refine gj_Fr.fill ?_ ?_; rotate_left; · first | decide +kernel | rfl | simp)
    | (with_reducible refine gj_Fr.copy ?_ ?_; rotate_left; · first | decide +kernel | rfl | simp)
    | with_reducible exact fo_tr (by with_reducible assumption) (hrec2 _ _)
    | (with_reducible refine gj_Fr.trans ?_ (gj_Fr.wide (fr_X2_tie _ _) ?_); rotate_left; · first | decide +kernel | simp [gj_fsub])

set_option maxHeartbeats 600000 in
theorem fr_J_X2_takeTurns_43 {rec2 : Int → gj_M → Option (gj_M)} {rec11 : Int → Int → Int → gj_M → Option (gj_M)} (hrec2 : ∀ (l1 : Int) (M : gj_M), gj_FO (fun m => m) [40] [] M (rec2 l1 M)) (hrec11 : ∀ (l1 l2 l3 : Int) (M : gj_M), gj_FO (fun m => m) [40] [] M (rec11 l1 l2 l3 M)) (l1 l2 l3 : Int) (M : gj_M) : gj_FO (fun m => m) [40] [] M (J_X2_takeTurns_43 rec2 rec11 l1 l2 l3 M) := by
  unfold J_X2_takeTurns_43
  have hM : gj_Fr [40] [] M M := gj_Fr.rf
  repeat' first
    | with_reducible assumption
    | with_reducible exact gj_Fr.rf
    | with_reducible exact fo_none
    | with_reducible refine fo_some ?_
    | with_reducible refine fo_ite ?_ ?_
    | with_reducible refine fo_chk ?_
    | with_reducible refine fo_let ?_ (fun _ _ => ?_)
    | with_reducible refine fo_letI (fun _ => ?_)
    | with_reducible refine fo_let2 ?_ (fun _ _ _ => ?_)
    | with_reducible refine fo_bndM (fun _ _ => ?_) (fun _ _ => ?_)
    | with_reducible refine fo_bnd (fun _ => ?_)
    | with_reducible refine fo_bnd2 (fun _ _ _ => ?_) (fun _ _ _ => ?_)
    | (with_reducible refine gj_Fr.up ?_ ?_; rotate_left; · first | decide +kernel | rfl | simp)
    | (with_reducible refine gj_Fr.put ?_ ?_; rotate_left; · first | decide +kernel | rfl | simp)
    | (with_reducible refine gj_Fr.fill ?_ ?_; rotate_left; · first | decide +kernel | rfl | simp)
    | (with_reducible refine gj_Fr.copy ?_ ?_; rotate_left; · first | decide +kernel | rfl | simp)
    | with_reducible exact fo_tr (by with_reducible assumption) (hrec2 _ _)
    | with_reducible exact fo_tr (by with_reducible assumption) (hrec11 _ _ _ _)
    | (with_reducible refine gj_Fr.trans ?_ (gj_Fr.wide (fr_X2_tie _ _) ?_); rotate_left; · first | decide +kernel | simp [gj_fsub])

set_option maxHeartbeats 600000 in
theorem fr_B_X2_takeTurns_11 {rec2 : Int → gj_M → Option (gj_M)} {rec11 : Int → Int → Int → gj_M → Option (gj_M)} (hrec2 : ∀ (l1 : Int) (M : gj_M), gj_FO (fun m => m) [40] [] M (rec2 l1 M)) (hrec11 : ∀ (l1 l2 l3 : Int) (M : gj_M), gj_FO (fun m => m) [40] [] M (rec11 l1 l2 l3 M)) (l1 l2 l3 : Int) (M : gj_M) : gj_FO (fun m => m) [40] [] M (B_X2_takeTurns_11 rec2 rec11 l1 l2 l3 M) := by
  unfold B_X2_takeTurns_11
  have hM : gj_Fr [40] [] M M := gj_Fr.rf
  repeat' first
    | with_reducible assumption
    | with_reducible exact gj_Fr.rf
    | with_reducible exact fo_none
    | with_reducible refine fo_some ?_
    | with_reducible refine fo_ite ?_ ?_
    | with_reducible refine fo_chk ?_
    | with_reducible refine fo_let ?_ (fun _ _ => ?_)
    | with_reducible refine fo_letI (fun _ => ?_)
    | with_reducible refine fo_let2 ?_ (fun _ _ _ => ?_)
    | with_reducible refine fo_bndM (fun _ _ => ?_) (fun _ _ => ?_)
    | with_reducible refine fo_bnd (fun _ => ?_)
    | with_reducible refine fo_bnd2 (fun _ _ _ => ?_) (fun _ _ _ => ?_)
    | (with_reducible refine gj_Fr.up ?_ ?_; rotate_left; · first | decide +kernel | rfl | simp)
    | (with_reducible refine gj_Fr.put ?_ ?_; rotate_left; · first | decide +kernel | rfl | simp)
    | (with_reducible refine gj_Fr.fill ?_ ?_; rotate_left; · first | decide +kernel | rfl | simp)
    | (with_reducible refine gj_Fr.copy ?_ ?_; rotate_left; · first | decide +kernel | rfl | simp)
    | with_reducible exact fo_tr (by with_reducible assumption) (fr_J_X2_takeTurns_43 hrec2 hrec11 _ _ _ _)
    | with_reducible exact fo_tr (by with_reducible assumption) (fr_J_X2_takeTurns_49 hrec2 _ _ _)
    | with_reducible exact fo_tr (by with_reducible assumption) (hrec2 _ _)
    | with_reducible exact fo_tr (by with_reducible assumption) (hrec11 _ _ _ _)
    | (with_reducible refine gj_Fr.trans ?_ (gj_Fr.wide (fr_X2_tie _ _) ?_); rotate_left; · first | decide +kernel | simp [gj_fsub])

theorem frL_X2_takeTurns_11 {rec2 : Int → gj_M → Option (gj_M)} (hrec2 : ∀ (l1 : Int) (M : gj_M), gj_FO (fun m => m) [40] [] M (rec2 l1 M)) : ∀ (m : Nat) (l1 l2 l3 : Int) (M : gj_M), gj_FO (fun m => m) [40] [] M (gj_it (fun _ _ _ _ => none) (B_X2_takeTurns_11 rec2) m l1 l2 l3 M)
  | 0, l1, l2, l3, M => fun r e => by cases (show (none : Option (gj_M)) = some r from e)
  | m + 1, l1, l2, l3, M => fr_B_X2_takeTurns_11 hrec2 (fun l1 l2 l3 M => frL_X2_takeTurns_11 hrec2 m l1 l2 l3 M) l1 l2 l3 M
set_option maxHeartbeats 600000 in
theorem fr_B_X2_takeTurns_2 {rec2 : Int → gj_M → Option (gj_M)} (hrec2 : ∀ (l1 : Int) (M : gj_M), gj_FO (fun m => m) [40] [] M (rec2 l1 M)) (l1 : Int) (M : gj_M) : gj_FO (fun m => m) [40] [] M (B_X2_takeTurns_2 rec2 l1 M) := by
  unfold B_X2_takeTurns_2
  have hM : gj_Fr [40] [] M M := gj_Fr.rf
  repeat' first
    | with_reducible assumption
    | with_reducible exact gj_Fr.rf
    | with_reducible exact fo_none
    | with_reducible refine fo_some ?_
    | with_reducible refine fo_ite ?_ ?_
    | with_reducible refine fo_chk ?_
    | with_reducible refine fo_let ?_ (fun _ _ => ?_)
    | with_reducible refine fo_letI (fun _ => ?_)
    | with_reducible refine fo_let2 ?_ (fun _ _ _ => ?_)
    | with_reducible refine fo_bndM (fun _ _ => ?_) (fun _ _ => ?_)
    | with_reducible refine fo_bnd (fun _ => ?_)
    | with_reducible refine fo_bnd2 (fun _ _ _ => ?_) (fun _ _ _ => ?_)
    | (with_reducible refine gj_Fr.up ?_ ?_; rotate_left; · first | decide +kernel | rfl | simp)
    | (with_reducible refine gj_Fr.put ?_ ?_; rotate_left; · first | decide +kernel | rfl | simp)
    | (with_reducible refine gj_Fr.fill ?_ ?_; rotate_left; · first | decide +kernel | rfl | simp)
    | (with_reducible refine gj_Fr.copy ?_ ?_; rotate_left; · first | decide +kernel | rfl | simp)
    | with_reducible exact fo_tr (by with_reducible assumption) (frL_X2_takeTurns_11 hrec2 _ _ _ _ _)
    | with_reducible exact fo_tr (by with_reducible assumption) (hrec2 _ _)
    | (with_reducible refine gj_Fr.trans ?_ (gj_Fr.wide (fr_X2_tie _ _) ?_); rotate_left; · first | decide +kernel | simp [gj_fsub])

theorem frL_X2_takeTurns_2 : ∀ (m : Nat) (l1 : Int) (M : gj_M), gj_FO (fun m => m) [40] [] M (gj_it (fun _ _ => none) (B_X2_takeTurns_2) m l1 M)
  | 0, l1, M => fun r e => by cases (show (none : Option (gj_M)) = some r from e)
  | m + 1, l1, M => fr_B_X2_takeTurns_2 (fun l1 M => frL_X2_takeTurns_2 m l1 M) l1 M
set_option maxHeartbeats 600000 in
theorem fr_X2_takeTurns {M : gj_M} : gj_FO (fun m => m) [40] [] M (F_X2_takeTurns M) := by
  unfold F_X2_takeTurns
  have hM : gj_Fr [40] [] M M := gj_Fr.rf
  repeat' first
    | with_reducible assumption
    | with_reducible exact gj_Fr.rf
    | with_reducible exact fo_none
    | with_reducible refine fo_some ?_
    | with_reducible refine fo_ite ?_ ?_
    | with_reducible refine fo_chk ?_
    | with_reducible refine fo_let ?_ (fun _ _ => ?_)
    | with_reducible refine fo_letI (fun _ => ?_)
    | with_reducible refine fo_let2 ?_ (fun _ _ _ => ?_)
    | with_reducible refine fo_bndM (fun _ _ => ?_) (fun _ _ => ?_)
    | with_reducible refine fo_bnd (fun _ => ?_)
    | with_reducible refine fo_bnd2 (fun _ _ _ => ?_) (fun _ _ _ => ?_)
    | (with_reducible refine gj_Fr.up ?_ ?_; rotate_left; · first | decide +kernel | rfl | simp)
    | (with_reducible refine gj_Fr.put ?_ ?_; rotate_left; · first | decide +kernel | rfl | simp)
    | (with_reducible refine gj_Fr.fill ?_ ?_; rotate_left; · first | decide +kernel | rfl | simp)
    | (with_reducible refine gj_Fr.copy ?_ ?_; rotate_left; · first | decide +kernel | rfl | simp)
    | with_reducible exact fo_tr (by with_reducible assumption) (frL_X2_takeTurns_2 _ _ _)
    | (with_reducible refine gj_Fr.trans ?_ (gj_Fr.wide (fr_X2_tie _ _) ?_); rotate_left; · first | decide +kernel | simp [gj_fsub])

set_option maxHeartbeats 600000 in
theorem fr_X3_lot (a1 : Int) {M : gj_M} : gj_FO Prod.snd [] [(21, 2)] M (F_X3_lot a1 M) := by
  unfold F_X3_lot
  have hM : gj_Fr [] [(21, 2)] M M := gj_Fr.rf
  repeat' first
    | with_reducible assumption
    | with_reducible exact gj_Fr.rf
    | with_reducible exact fo_none
    | with_reducible refine fo_some ?_
    | with_reducible refine fo_ite ?_ ?_
    | with_reducible refine fo_chk ?_
    | with_reducible refine fo_let ?_ (fun _ _ => ?_)
    | with_reducible refine fo_letI (fun _ => ?_)
    | with_reducible refine fo_let2 ?_ (fun _ _ _ => ?_)
    | with_reducible refine fo_bndM (fun _ _ => ?_) (fun _ _ => ?_)
    | with_reducible refine fo_bnd (fun _ => ?_)
    | with_reducible refine fo_bnd2 (fun _ _ _ => ?_) (fun _ _ _ => ?_)
    | (with_reducible refine gj_Fr.up ?_ ?_; rotate_left; · first | decide +kernel | rfl | simp)
    | (with_reducible refine gj_Fr.put ?_ ?_; rotate_left; · first | decide +kernel | rfl | simp)
    | (with_reducible refine gj_Fr.fill ?_ ?_; rotate_left; · first | decide +kernel | rfl | simp)
    | (with_reducible refine gj_Fr.copy ?_ ?_; rotate_left; · first | decide +kernel | rfl | simp)

set_option maxHeartbeats 600000 in
theorem fr_J_X2_drawLots_62 {rec2 : Int → gj_M → Option (gj_M)} (hrec2 : ∀ (l1 : Int) (M : gj_M), gj_FO (fun m => m) [40] [(21, 2)] M (rec2 l1 M)) (l1 : Int) (M : gj_M) : gj_FO (fun m => m) [40] [(21, 2)] M (J_X2_drawLots_62 rec2 l1 M) := by
  unfold J_X2_drawLots_62
  have hM : gj_Fr [40] [(21, 2)] M M := gj_Fr.rf
  repeat' first
    | with_reducible assumption
    | with_reducible exact gj_Fr.rf
    | with_reducible exact fo_none
    | with_reducible refine fo_some ?_
    | with_reducible refine fo_ite ?_ ?_
    | with_reducible refine fo_chk ?_
    | with_reducible refine fo_let ?_ (fun _ _ => ?_)
    | with_reducible refine fo_letI (fun _ => ?_)
    | with_reducible refine fo_let2 ?_ (fun _ _ _ => ?_)
    | with_reducible refine fo_bndM (fun _ _ => ?_) (fun _ _ => ?_)
    | with_reducible refine fo_bnd (fun _ => ?_)
    | with_reducible refine fo_bnd2 (fun _ _ _ => ?_) (fun _ _ _ => ?_)
    | (with_reducible refine gj_Fr.up ?_ ?_; rotate_left; · first | decide +kernel | rfl | simp)
    | (with_reducible refine gj_Fr.put ?_ ?_; rotate_left; · first | decide +kernel | rfl | simp)
    | (with_reducible refine gj_Fr.fill ?_ ?_; rotate_left; · first | decide +kernel | rfl | simp)
    | (with_reducible refine gj_Fr.copy ?_ ?_; rotate_left; · first | decide +kernel | rfl | simp)
    | with_reducible exact fo_tr (by with_reducible assumption) (hrec2 _ _)
    | (with_reducible refine gj_Fr.trans ?_ (gj_Fr.wide (gj_FOu (fr_X3_lot _) (by with_reducible assumption)) ?_); rotate_left; · first | decide +kernel | simp [gj_fsub])
    | (with_reducible refine gj_Fr.trans ?_ (gj_Fr.wide (fr_X2_tie _ _) ?_); rotate_left; · first | decide +kernel | simp [gj_fsub])

set_option maxHeartbeats 600000 in
theorem fr_J_X2_drawLots_40 {rec2 : Int → gj_M → Option (gj_M)} (hrec2 : ∀ (l1 : Int) (M : gj_M), gj_FO (fun m => m) [40] [(21, 2)] M (rec2 l1 M)) (l1 l2 : Int) (M : gj_M) : gj_FO (fun m => m) [40] [(21, 2)] M (J_X2_drawLots_40 rec2 l1 l2 M) := by
  unfold J_X2_drawLots_40
  have hM : gj_Fr [40] [(21, 2)] M M := gj_Fr.rf
  repeat' first
    | with_reducible assumption
    | with_reducible exact gj_Fr.rf
    | with_reducible exact fo_none
    | with_reducible refine fo_some ?_
    | with_reducible refine fo_ite ?_ ?_
    | with_reducible refine fo_chk ?_
    | with_reducible refine fo_let ?_ (fun _ _ => ?_)
    | with_reducible refine fo_letI (fun _ => ?_)
    | with_reducible refine fo_let2 ?_ (fun _ _ _ => ?_)
    | with_reducible refine fo_bndM (fun _ _ => ?_) (fun _ _ => ?_)
    | with_reducible refine fo_bnd (fun _ => ?_)
    | with_reducible refine fo_bnd2 (fun _ _ _ => ?_) (fun _ _ _ => ?_)
    | (with_reducible refine gj_Fr.up ?_ ?_; rotate_left; · first | decide +kernel | rfl | simp)
    | (with_reducible refine gj_Fr.put ?_ ?_; rotate_left; · first | decide +kernel | rfl | simp)
    | (with_reducible refine gj_Fr.fill ?_ ?_; rotate_left; · first | decide +kernel | rfl | simp)
    | (with_reducible refine gj_Fr.copy ?_ ?_; rotate_left; · first | decide +kernel | rfl | simp)
    | with_reducible exact fo_tr (by with_reducible assumption) (fr_J_X2_drawLots_62 hrec2 _ _)
    | with_reducible exact fo_tr (by with_reducible assumption) (hrec2 _ _)
    | (with_reducible refine gj_Fr.trans ?_ (gj_Fr.wide (gj_FOu (fr_X3_lot _) (by with_reducible assumption)) ?_); rotate_left; · first | decide +kernel | simp [gj_fsub])
    | (with_reducible refine gj_Fr.trans ?_ (gj_Fr.wide (fr_X2_tie _ _) ?_); rotate_left; · first | decide +kernel | simp [gj_fsub])

set_option maxHeartbeats 600000 in
theorem fr_J_X2_drawLots_32 {rec2 : Int → gj_M → Option (gj_M)} {rec11 : Int → Int → Int → gj_M → Option (gj_M)} (hrec2 : ∀ (l1 : Int) (M : gj_M), gj_FO (fun m => m) [40] [(21, 2)] M (rec2 l1 M)) (hrec11 : ∀ (l1 l2 l3 : Int) (M : gj_M), gj_FO (fun m => m) [40] [(21, 2)] M (rec11 l1 l2 l3 M)) (l1 l3 s0 s1 : Int) (M : gj_M) : gj_FO (fun m => m) [40] [(21, 2)] M (J_X2_drawLots_32 rec2 rec11 l1 l3 s0 s1 M) := by
  unfold J_X2_drawLots_32
  have hM : gj_Fr [40] [(21, 2)] M M := gj_Fr.rf
  repeat' first
    | with_reducible assumption
    | with_reducible exact gj_Fr.rf
    | with_reducible exact fo_none
    | with_reducible refine fo_some ?_
    | with_reducible refine fo_ite ?_ ?_
    | with_reducible refine fo_chk ?_
    | with_reducible refine fo_let ?_ (fun _ _ => ?_)
    | with_reducible refine fo_letI (fun _ => ?_)
    | with_reducible refine fo_let2 ?_ (fun _ _ _ => ?_)
    | with_reducible refine fo_bndM (fun _ _ => ?_) (fun _ _ => ?_)
    | with_reducible refine fo_bnd (fun _ => ?_)
    | with_reducible refine fo_bnd2 (fun _ _ _ => ?_) (fun _ _ _ => ?_)
    | (with_reducible refine gj_Fr.up ?_ ?_; rotate_left; · first | decide +kernel | rfl | simp)
    | (with_reducible refine gj_Fr.put ?_ ?_; rotate_left; · first | decide +kernel | rfl | simp)
    | (with_reducible refine gj_Fr.fill ?_ ?_; rotate_left; · first | decide +kernel | rfl | simp)
    | (with_reducible refine gj_Fr.copy ?_ ?_; rotate_left; · first | decide +kernel | rfl | simp)
    | with_reducible exact fo_tr (by with_reducible assumption) (hrec2 _ _)
    | with_reducible exact fo_tr (by with_reducible assumption) (hrec11 _ _ _ _)
    | (with_reducible refine gj_Fr.trans ?_ (gj_Fr.wide (gj_FOu (fr_X3_lot _) (by with_reducible assumption)) ?_); rotate_left; · first | decide +kernel | simp [gj_fsub])
    | (with_reducible refine gj_Fr.trans ?_ (gj_Fr.wide (fr_X2_tie _ _) ?_); rotate_left; · first | decide +kernel | simp [gj_fsub])

set_option maxHeartbeats 600000 in
theorem fr_B_X2_drawLots_11 {rec2 : Int → gj_M → Option (gj_M)} {rec11 : Int → Int → Int → gj_M → Option (gj_M)} (hrec2 : ∀ (l1 : Int) (M : gj_M), gj_FO (fun m => m) [40] [(21, 2)] M (rec2 l1 M)) (hrec11 : ∀ (l1 l2 l3 : Int) (M : gj_M), gj_FO (fun m => m) [40] [(21, 2)] M (rec11 l1 l2 l3 M)) (l1 l2 l3 : Int) (M : gj_M) : gj_FO (fun m => m) [40] [(21, 2)] M (B_X2_drawLots_11 rec2 rec11 l1 l2 l3 M) := by
  unfold B_X2_drawLots_11
  have hM : gj_Fr [40] [(21, 2)] M M := gj_Fr.rf
  repeat' first
    | with_reducible assumption
    | with_reducible exact gj_Fr.rf
    | with_reducible exact fo_none
    | with_reducible refine fo_some ?_
    | with_reducible refine fo_ite ?_ ?_
    | with_reducible refine fo_chk ?_
    | with_reducible refine fo_let ?_ (fun _ _ => ?_)
    | with_reducible refine fo_letI (fun _ => ?_)
    | with_reducible refine fo_let2 ?_ (fun _ _ _ => ?_)
    | with_reducible refine fo_bndM (fun _ _ => ?_) (fun _ _ => ?_)
    | with_reducible refine fo_bnd (fun _ => ?_)
    | with_reducible refine fo_bnd2 (fun _ _ _ => ?_) (fun _ _ _ => ?_)
    | (with_reducible refine gj_Fr.up ?_ ?_; rotate_left; · first | decide +kernel | rfl | simp)
    | (with_reducible refine gj_Fr.put ?_ ?_; rotate_left; · first | decide +kernel | rfl | simp)
    | (with_reducible refine gj_Fr.fill ?_ ?_; rotate_left; · first | decide +kernel | rfl | simp)
    | (with_reducible refine gj_Fr.copy ?_ ?_; rotate_left; · first | decide +kernel | rfl | simp)
    | with_reducible exact fo_tr (by with_reducible assumption) (fr_J_X2_drawLots_32 hrec2 hrec11 _ _ _ _ _)
    | with_reducible exact fo_tr (by with_reducible assumption) (fr_J_X2_drawLots_40 hrec2 _ _ _)
    | with_reducible exact fo_tr (by with_reducible assumption) (hrec2 _ _)
    | with_reducible exact fo_tr (by with_reducible assumption) (hrec11 _ _ _ _)
    | (with_reducible refine gj_Fr.trans ?_ (gj_Fr.wide (gj_FOu (fr_X3_lot _) (by with_reducible assumption)) ?_); rotate_left; · first | decide +kernel | simp [gj_fsub])
    | (with_reducible refine gj_Fr.trans ?_ (gj_Fr.wide (fr_X2_tie _ _) ?_); rotate_left; · first | decide +kernel | simp [gj_fsub])

theorem frL_X2_drawLots_11 {rec2 : Int → gj_M → Option (gj_M)} (hrec2 : ∀ (l1 : Int) (M : gj_M), gj_FO (fun m => m) [40] [(21, 2)] M (rec2 l1 M)) : ∀ (m : Nat) (l1 l2 l3 : Int) (M : gj_M), gj_FO (fun m => m) [40] [(21, 2)] M (gj_it (fun _ _ _ _ => none) (B_X2_drawLots_11 rec2) m l1 l2 l3 M)
  | 0, l1, l2, l3, M => fun r e => by cases (show (none : Option (gj_M)) = some r from e)
  | m + 1, l1, l2, l3, M => fr_B_X2_drawLots_11 hrec2 (fun l1 l2 l3 M => frL_X2_drawLots_11 hrec2 m l1 l2 l3 M) l1 l2 l3 M
set_option maxHeartbeats 600000 in
theorem fr_B_X2_drawLots_2 {rec2 : Int → gj_M → Option (gj_M)} (hrec2 : ∀ (l1 : Int) (M : gj_M), gj_FO (fun m => m) [40] [(21, 2)] M (rec2 l1 M)) (l1 : Int) (M : gj_M) : gj_FO (fun m => m) [40] [(21, 2)] M (B_X2_drawLots_2 rec2 l1 M) := by
  unfold B_X2_drawLots_2
  have hM : gj_Fr [40] [(21, 2)] M M := gj_Fr.rf
  repeat' first
    | with_reducible assumption
    | with_reducible exact gj_Fr.rf
    | with_reducible exact fo_none
    | with_reducible refine fo_some ?_
    | with_reducible refine fo_ite ?_ ?_
    | with_reducible refine fo_chk ?_
    | with_reducible refine fo_let ?_ (fun _ _ => ?_)
    | with_reducible refine fo_letI (fun _ => ?_)
    | with_reducible refine fo_let2 ?_ (fun _ _ _ => ?_)
    | with_reducible refine fo_bndM (fun _ _ => ?_) (fun _ _ => ?_)
    | with_reducible refine fo_bnd (fun _ => ?_)
    | with_reducible refine fo_bnd2 (fun _ _ _ => ?_) (fun _ _ _ => ?_)
    | (with_reducible refine gj_Fr.up ?_ ?_; rotate_left; · first | decide +kernel | rfl | simp)
    | (with_reducible refine gj_Fr.put ?_ ?_; rotate_left; · first | decide +kernel | rfl | simp)
    | (with_reducible refine gj_Fr.fill ?_ ?_; rotate_left; · first | decide +kernel | rfl | simp)
    | (with_reducible refine gj_Fr.copy ?_ ?_; rotate_left; · first | decide +kernel | rfl | simp)
    | with_reducible exact fo_tr (by with_reducible assumption) (frL_X2_drawLots_11 hrec2 _ _ _ _ _)
    | with_reducible exact fo_tr (by with_reducible assumption) (hrec2 _ _)
    | (with_reducible refine gj_Fr.trans ?_ (gj_Fr.wide (gj_FOu (fr_X3_lot _) (by with_reducible assumption)) ?_); rotate_left; · first | decide +kernel | simp [gj_fsub])
    | (with_reducible refine gj_Fr.trans ?_ (gj_Fr.wide (fr_X2_tie _ _) ?_); rotate_left; · first | decide +kernel | simp [gj_fsub])

theorem frL_X2_drawLots_2 : ∀ (m : Nat) (l1 : Int) (M : gj_M), gj_FO (fun m => m) [40] [(21, 2)] M (gj_it (fun _ _ => none) (B_X2_drawLots_2) m l1 M)
  | 0, l1, M => fun r e => by cases (show (none : Option (gj_M)) = some r from e)
  | m + 1, l1, M => fr_B_X2_drawLots_2 (fun l1 M => frL_X2_drawLots_2 m l1 M) l1 M
set_option maxHeartbeats 600000 in
theorem fr_X2_drawLots {M : gj_M} : gj_FO (fun m => m) [40] [(21, 2)] M (F_X2_drawLots M) := by
  unfold F_X2_drawLots
  have hM : gj_Fr [40] [(21, 2)] M M := gj_Fr.rf
  repeat' first
    | with_reducible assumption
    | with_reducible exact gj_Fr.rf
    | with_reducible exact fo_none
    | with_reducible refine fo_some ?_
    | with_reducible refine fo_ite ?_ ?_
    | with_reducible refine fo_chk ?_
    | with_reducible refine fo_let ?_ (fun _ _ => ?_)
    | with_reducible refine fo_letI (fun _ => ?_)
    | with_reducible refine fo_let2 ?_ (fun _ _ _ => ?_)
    | with_reducible refine fo_bndM (fun _ _ => ?_) (fun _ _ => ?_)
    | with_reducible refine fo_bnd (fun _ => ?_)
    | with_reducible refine fo_bnd2 (fun _ _ _ => ?_) (fun _ _ _ => ?_)
    | (with_reducible refine gj_Fr.up ?_ ?_; rotate_left; · first | decide +kernel | rfl | simp)
    | (with_reducible refine gj_Fr.put ?_ ?_; rotate_left; · first | decide +kernel | rfl | simp)
    | (with_reducible refine gj_Fr.fill ?_ ?_; rotate_left; · first | decide +kernel | rfl | simp)
    | (with_reducible refine gj_Fr.copy ?_ ?_; rotate_left; · first | decide +kernel | rfl | simp)
    | with_reducible exact fo_tr (by with_reducible assumption) (frL_X2_drawLots_2 _ _ _)
    | (with_reducible refine gj_Fr.trans ?_ (gj_Fr.wide (gj_FOu (fr_X3_lot _) (by with_reducible assumption)) ?_); rotate_left; · first | decide +kernel | simp [gj_fsub])
    | (with_reducible refine gj_Fr.trans ?_ (gj_Fr.wide (fr_X2_tie _ _) ?_); rotate_left; · first | decide +kernel | simp [gj_fsub])

set_option maxHeartbeats 600000 in
theorem fr_X2_pairUp (a1 : Int) {M : gj_M} : gj_FO (fun m => m) [39, 40] [(21, 2)] M (F_X2_pairUp a1 M) := by
  unfold F_X2_pairUp
  have hM : gj_Fr [39, 40] [(21, 2)] M M := gj_Fr.rf
  repeat' first
    | with_reducible assumption
    | with_reducible exact gj_Fr.rf
    | with_reducible exact fo_none
    | with_reducible refine fo_some ?_
    | with_reducible refine fo_ite ?_ ?_
    | with_reducible refine fo_chk ?_
    | with_reducible refine fo_let ?_ (fun _ _ => ?_)
    | with_reducible refine fo_letI (fun _ => ?_)
    | with_reducible refine fo_let2 ?_ (fun _ _ _ => ?_)
    | with_reducible refine fo_bndM (fun _ _ => ?_) (fun _ _ => ?_)
    | with_reducible refine fo_bnd (fun _ => ?_)
    | with_reducible refine fo_bnd2 (fun _ _ _ => ?_) (fun _ _ _ => ?_)
    | (with_reducible refine gj_Fr.up ?_ ?_; rotate_left; · first | decide +kernel | rfl | simp)
    | (with_reducible refine gj_Fr.put ?_ ?_; rotate_left; · first | decide +kernel | rfl | simp)
    | (with_reducible refine gj_Fr.fill ?_ ?_; rotate_left; · first | decide +kernel | rfl | simp)
    | (with_reducible refine gj_Fr.copy ?_ ?_; rotate_left; · first | decide +kernel | rfl | simp)
    | (with_reducible refine gj_Fr.trans ?_ (gj_Fr.wide (gj_FOu (fr_X2_takeTurns) (by with_reducible assumption)) ?_); rotate_left; · first | decide +kernel | simp [gj_fsub])
    | (with_reducible refine gj_Fr.trans ?_ (gj_Fr.wide (gj_FOu (fr_X2_askAll _) (by with_reducible assumption)) ?_); rotate_left; · first | decide +kernel | simp [gj_fsub])
    | (with_reducible refine gj_Fr.trans ?_ (gj_Fr.wide (gj_FOu (fr_X2_drawLots) (by with_reducible assumption)) ?_); rotate_left; · first | decide +kernel | simp [gj_fsub])

set_option maxHeartbeats 600000 in
theorem fr_X11_green (a1 : Int) (a2 : Int) {M : gj_M} : gj_FO Prod.snd [36, 37, 38, 39, 40] [(21, 2)] M (F_X11_green a1 a2 M) := by
  unfold F_X11_green
  have hM : gj_Fr [36, 37, 38, 39, 40] [(21, 2)] M M := gj_Fr.rf
  repeat' first
    | with_reducible assumption
    | with_reducible exact gj_Fr.rf
    | with_reducible exact fo_none
    | with_reducible refine fo_some ?_
    | with_reducible refine fo_ite ?_ ?_
    | with_reducible refine fo_chk ?_
    | with_reducible refine fo_let ?_ (fun _ _ => ?_)
    | with_reducible refine fo_letI (fun _ => ?_)
    | with_reducible refine fo_let2 ?_ (fun _ _ _ => ?_)
    | with_reducible refine fo_bndM (fun _ _ => ?_) (fun _ _ => ?_)
    | with_reducible refine fo_bnd (fun _ => ?_)
    | with_reducible refine fo_bnd2 (fun _ _ _ => ?_) (fun _ _ _ => ?_)
    | (with_reducible refine gj_Fr.up ?_ ?_; rotate_left; · first | decide +kernel | rfl | simp)
    | (with_reducible refine gj_Fr.put ?_ ?_; rotate_left; · first | decide +kernel | rfl | simp)
    | (with_reducible refine gj_Fr.fill ?_ ?_; rotate_left; · first | decide +kernel | rfl | simp)
    | (with_reducible refine gj_Fr.copy ?_ ?_; rotate_left; · first | decide +kernel | rfl | simp)
    | (with_reducible refine gj_Fr.trans ?_ (gj_Fr.wide (gj_FOu (fr_X2_look _) (by with_reducible assumption)) ?_); rotate_left; · first | decide +kernel | simp [gj_fsub])
    | (with_reducible refine gj_Fr.trans ?_ (gj_Fr.wide (gj_FOu (fr_X2_pairUp _) (by with_reducible assumption)) ?_); rotate_left; · first | decide +kernel | simp [gj_fsub])
    | (with_reducible refine gj_Fr.trans ?_ (gj_Fr.wide (gj_FOu (fr_X2_gather _) (by with_reducible assumption)) ?_); rotate_left; · first | decide +kernel | simp [gj_fsub])

set_option maxHeartbeats 600000 in
theorem fr_J_X8_askPaired_56 {rec2 : Int → gj_M → Option (gj_M)} (hrec2 : ∀ (l1 : Int) (M : gj_M), gj_FO (fun m => m) [32, 33, 34, 45] [(31, 5), (31, 6), (31, 7), (31, 8), (31, 9), (31, 10)] M (rec2 l1 M)) (l1 l2 : Int) (M : gj_M) : gj_FO (fun m => m) [32, 33, 34, 45] [(31, 5), (31, 6), (31, 7), (31, 8), (31, 9), (31, 10)] M (J_X8_askPaired_56 rec2 l1 l2 M) := by
  unfold J_X8_askPaired_56
  have hM : gj_Fr [32, 33, 34, 45] [(31, 5), (31, 6), (31, 7), (31, 8), (31, 9), (31, 10)] M M := gj_Fr.rf
  repeat' first
    | with_reducible assumption
    | with_reducible exact gj_Fr.rf
    | with_reducible exact fo_none
    | with_reducible refine fo_some ?_
    | with_reducible refine fo_ite ?_ ?_
    | with_reducible refine fo_chk ?_
    | with_reducible refine fo_let ?_ (fun _ _ => ?_)
    | with_reducible refine fo_letI (fun _ => ?_)
    | with_reducible refine fo_let2 ?_ (fun _ _ _ => ?_)
    | with_reducible refine fo_bndM (fun _ _ => ?_) (fun _ _ => ?_)
    | with_reducible refine fo_bnd (fun _ => ?_)
    | with_reducible refine fo_bnd2 (fun _ _ _ => ?_) (fun _ _ _ => ?_)
    | (with_reducible refine gj_Fr.up ?_ ?_; rotate_left; · first | decide +kernel | rfl | simp)
    | (with_reducible refine gj_Fr.put ?_ ?_; rotate_left; · first | decide +kernel | rfl | simp)
    | (with_reducible refine gj_Fr.fill ?_ ?_; rotate_left; · first | decide +kernel | rfl | simp)
    | (with_reducible refine gj_Fr.copy ?_ ?_; rotate_left; · first | decide +kernel | rfl | simp)
    | with_reducible exact fo_tr (by with_reducible assumption) (hrec2 _ _)
    | (with_reducible refine gj_Fr.trans ?_ (gj_Fr.wide (gj_FOu (fr_X4_stays _) (by with_reducible assumption)) ?_); rotate_left; · first | decide +kernel | simp [gj_fsub])
    | (with_reducible refine gj_Fr.trans ?_ (gj_Fr.wide (gj_FOu (fr_X4_enter _) (by with_reducible assumption)) ?_); rotate_left; · first | decide +kernel | simp [gj_fsub])

set_option maxHeartbeats 600000 in
theorem fr_J_X8_askPaired_55 {rec2 : Int → gj_M → Option (gj_M)} (hrec2 : ∀ (l1 : Int) (M : gj_M), gj_FO (fun m => m) [32, 33, 34, 45] [(31, 5), (31, 6), (31, 7), (31, 8), (31, 9), (31, 10)] M (rec2 l1 M)) (l1 s0 : Int) (M : gj_M) : gj_FO (fun m => m) [32, 33, 34, 45] [(31, 5), (31, 6), (31, 7), (31, 8), (31, 9), (31, 10)] M (J_X8_askPaired_55 rec2 l1 s0 M) := by
  unfold J_X8_askPaired_55
  have hM : gj_Fr [32, 33, 34, 45] [(31, 5), (31, 6), (31, 7), (31, 8), (31, 9), (31, 10)] M M := gj_Fr.rf
  repeat' first
    | with_reducible assumption
    | with_reducible exact gj_Fr.rf
    | with_reducible exact fo_none
    | with_reducible refine fo_some ?_
    | with_reducible refine fo_ite ?_ ?_
    | with_reducible refine fo_chk ?_
    | with_reducible refine fo_let ?_ (fun _ _ => ?_)
    | with_reducible refine fo_letI (fun _ => ?_)
    | with_reducible refine fo_let2 ?_ (fun _ _ _ => ?_)
    | with_reducible refine fo_bndM (fun _ _ => ?_) (fun _ _ => ?_)
    | with_reducible refine fo_bnd (fun _ => ?_)
    | with_reducible refine fo_bnd2 (fun _ _ _ => ?_) (fun _ _ _ => ?_)
    | (with_reducible refine gj_Fr.up ?_ ?_; rotate_left; · first | decide +kernel | rfl | simp)
    | (with_reducible refine gj_Fr.put ?_ ?_; rotate_left; · first | decide +kernel | rfl | simp)
    | (with_reducible refine gj_Fr.fill ?_ ?_; rotate_left; · first | decide +kernel | rfl | simp)
    | (with_reducible refine gj_Fr.copy ?_ ?_; rotate_left; · first | decide +kernel | rfl | simp)
    | with_reducible exact fo_tr (by with_reducible assumption) (fr_J_X8_askPaired_56 hrec2 _ _ _)
    | with_reducible exact fo_tr (by with_reducible assumption) (hrec2 _ _)
    | (with_reducible refine gj_Fr.trans ?_ (gj_Fr.wide (gj_FOu (fr_X4_stays _) (by with_reducible assumption)) ?_); rotate_left; · first | decide +kernel | simp [gj_fsub])
    | (with_reducible refine gj_Fr.trans ?_ (gj_Fr.wide (gj_FOu (fr_X4_enter _) (by with_reducible assumption)) ?_); rotate_left; · first | decide +kernel | simp [gj_fsub])

set_option maxHeartbeats 600000 in
theorem fr_B_X8_askPaired_2 {rec2 : Int → gj_M → Option (gj_M)} (hrec2 : ∀ (l1 : Int) (M : gj_M), gj_FO (fun m => m) [32, 33, 34, 45] [(31, 5), (31, 6), (31, 7), (31, 8), (31, 9), (31, 10)] M (rec2 l1 M)) (l1 : Int) (M : gj_M) : gj_FO (fun m => m) [32, 33, 34, 45] [(31, 5), (31, 6), (31, 7), (31, 8), (31, 9), (31, 10)] M (B_X8_askPaired_2 rec2 l1 M) := by
  unfold B_X8_askPaired_2
  have hM : gj_Fr [32, 33, 34, 45] [(31, 5), (31, 6), (31, 7), (31, 8), (31, 9), (31, 10)] M M := gj_Fr.rf
  repeat' first
    | with_reducible assumption
    | with_reducible exact gj_Fr.rf
    | with_reducible exact fo_none
    | with_reducible refine fo_some ?_
    | with_reducible refine fo_ite ?_ ?_
    | with_reducible refine fo_chk ?_
    | with_reducible refine fo_let ?_ (fun _ _ => ?_)
    | with_reducible refine fo_letI (fun _ => ?_)
    | with_reducible refine fo_let2 ?_ (fun _ _ _ => ?_)
    | with_reducible refine fo_bndM (fun _ _ => ?_) (fun _ _ => ?_)
    | with_reducible refine fo_bnd (fun _ => ?_)
    | with_reducible refine fo_bnd2 (fun _ _ _ => ?_) (fun _ _ _ => ?_)
    | (with_reducible refine gj_Fr.up ?_ ?_; rotate_left; · first | decide +kernel | rfl | simp)
    | (with_reducible refine gj_Fr.put ?_ ?_; rotate_left; · first | decide +kernel | rfl | simp)
    | (with_reducible refine gj_Fr.fill ?_ ?_; rotate_left; · first | decide +kernel | rfl | simp)
    | (with_reducible refine gj_Fr.copy ?_ ?_; rotate_left; · first | decide +kernel | rfl | simp)
    | with_reducible exact fo_tr (by with_reducible assumption) (fr_J_X8_askPaired_55 hrec2 _ _ _)
    | with_reducible exact fo_tr (by with_reducible assumption) (fr_J_X8_askPaired_56 hrec2 _ _ _)
    | with_reducible exact fo_tr (by with_reducible assumption) (hrec2 _ _)
    | (with_reducible refine gj_Fr.trans ?_ (gj_Fr.wide (gj_FOu (fr_X4_stays _) (by with_reducible assumption)) ?_); rotate_left; · first | decide +kernel | simp [gj_fsub])
    | (with_reducible refine gj_Fr.trans ?_ (gj_Fr.wide (gj_FOu (fr_X4_enter _) (by with_reducible assumption)) ?_); rotate_left; · first | decide +kernel | simp [gj_fsub])

theorem frL_X8_askPaired_2 : ∀ (m : Nat) (l1 : Int) (M : gj_M), gj_FO (fun m => m) [32, 33, 34, 45] [(31, 5), (31, 6), (31, 7), (31, 8), (31, 9), (31, 10)] M (gj_it (fun _ _ => none) (B_X8_askPaired_2) m l1 M)
  | 0, l1, M => fun r e => by cases (show (none : Option (gj_M)) = some r from e)
  | m + 1, l1, M => fr_B_X8_askPaired_2 (fun l1 M => frL_X8_askPaired_2 m l1 M) l1 M
set_option maxHeartbeats 600000 in
theorem fr_X8_askPaired {M : gj_M} : gj_FO (fun m => m) [32, 33, 34, 45] [(31, 5), (31, 6), (31, 7), (31, 8), (31, 9), (31, 10)] M (F_X8_askPaired M) := by
  unfold F_X8_askPaired
  have hM : gj_Fr [32, 33, 34, 45] [(31, 5), (31, 6), (31, 7), (31, 8), (31, 9), (31, 10)] M M := gj_Fr.rf
  repeat' first
    | with_reducible assumption
    | with_reducible exact gj_Fr.rf
    | with_reducible exact fo_none
    | with_reducible refine fo_some ?_
    | with_reducible refine fo_ite ?_ ?_
    | with_reducible refine fo_chk ?_
    | with_reducible refine fo_let ?_ (fun _ _ => ?_)
    | with_reducible refine fo_letI (fun _ => ?_)
    | with_reducible refine fo_let2 ?_ (fun _ _ _ => ?_)
    | with_reducible refine fo_bndM (fun _ _ => ?_) (fun _ _ => ?_)
    | with_reducible refine fo_bnd (fun _ => ?_)
    | with_reducible refine fo_bnd2 (fun _ _ _ => ?_) (fun _ _ _ => ?_)
    | (with_reducible refine gj_Fr.up ?_ ?_; rotate_left; · first | decide +kernel | rfl | simp)
    | (with_reducible refine gj_Fr.put ?_ ?_; rotate_left; · first | decide +kernel | rfl | simp)
    | (with_reducible refine gj_Fr.fill ?_ ?_; rotate_left; · first | decide +kernel | rfl | simp)
    | (with_reducible refine gj_Fr.copy ?_ ?_; rotate_left; · first | decide +kernel | rfl | simp)
    | with_reducible exact fo_tr (by with_reducible assumption) (frL_X8_askPaired_2 _ _ _)
    | (with_reducible refine gj_Fr.trans ?_ (gj_Fr.wide (gj_FOu (fr_X4_stays _) (by with_reducible assumption)) ?_); rotate_left; · first | decide +kernel | simp [gj_fsub])
    | (with_reducible refine gj_Fr.trans ?_ (gj_Fr.wide (gj_FOu (fr_X4_enter _) (by with_reducible assumption)) ?_); rotate_left; · first | decide +kernel | simp [gj_fsub])

set_option maxHeartbeats 600000 in
theorem fr_X3_earn (a1 : Int) (a2 : Int) {M : gj_M} : gj_Fr [25] [] M (f_X3_earn a1 a2 M) := by
  unfold f_X3_earn
  have hM : gj_Fr [25] [] M M := gj_Fr.rf
  repeat' first
    | with_reducible assumption
    | with_reducible exact gj_Fr.rf
    | with_reducible refine ft_ite ?_ ?_
    | with_reducible refine ft_let ?_ (fun _ _ => ?_)
    | with_reducible refine ft_letI (fun _ => ?_)
    | with_reducible refine ft_let2 ?_ (fun _ _ _ => ?_)
    | with_reducible refine fu_ite ?_ ?_
    | with_reducible refine fu_let ?_ (fun _ _ => ?_)
    | with_reducible refine fu_letI (fun _ => ?_)
    | with_reducible refine fu_let2 ?_ (fun _ _ _ => ?_)
    | (with_reducible refine gj_Fr.up ?_ ?_; rotate_left; · first | decide +kernel | rfl | simp)
    | (with_reducible refine gj_Fr.put ?_ ?_; rotate_left; · first | decide +kernel | rfl | simp)
    | (with_reducible refine gj_Fr.fill ?_ ?_; rotate_left; · first | decide +kernel | rfl | simp)
    | (with_reducible refine gj_Fr.copy ?_ ?_; rotate_left; · first | decide +kernel | rfl | simp)

set_option maxHeartbeats 600000 in
theorem fr_X1_add (a1 : Int) (a2 : Int) (a3 : Int) (a4 : Int) (a5 : Int) {M : gj_M} : gj_Fr [30] [(29, 1), (29, 2)] M (f_X1_add a1 a2 a3 a4 a5 M) := by
  unfold f_X1_add
  have hM : gj_Fr [30] [(29, 1), (29, 2)] M M := gj_Fr.rf
  repeat' first
    | with_reducible assumption
    | with_reducible exact gj_Fr.rf
    | with_reducible refine ft_ite ?_ ?_
    | with_reducible refine ft_let ?_ (fun _ _ => ?_)
    | with_reducible refine ft_letI (fun _ => ?_)
    | with_reducible refine ft_let2 ?_ (fun _ _ _ => ?_)
    | with_reducible refine fu_ite ?_ ?_
    | with_reducible refine fu_let ?_ (fun _ _ => ?_)
    | with_reducible refine fu_letI (fun _ => ?_)
    | with_reducible refine fu_let2 ?_ (fun _ _ _ => ?_)
    | (with_reducible refine gj_Fr.up ?_ ?_; rotate_left; · first | decide +kernel | rfl | simp)
    | (with_reducible refine gj_Fr.put ?_ ?_; rotate_left; · first | decide +kernel | rfl | simp)
    | (with_reducible refine gj_Fr.fill ?_ ?_; rotate_left; · first | decide +kernel | rfl | simp)
    | (with_reducible refine gj_Fr.copy ?_ ?_; rotate_left; · first | decide +kernel | rfl | simp)

set_option maxHeartbeats 600000 in
theorem fr_X3_free (a1 : Int) {M : gj_M} : gj_Fr [22, 23, 24] [] M (f_X3_free a1 M) := by
  unfold f_X3_free
  have hM : gj_Fr [22, 23, 24] [] M M := gj_Fr.rf
  repeat' first
    | with_reducible assumption
    | with_reducible exact gj_Fr.rf
    | with_reducible refine ft_ite ?_ ?_
    | with_reducible refine ft_let ?_ (fun _ _ => ?_)
    | with_reducible refine ft_letI (fun _ => ?_)
    | with_reducible refine ft_let2 ?_ (fun _ _ _ => ?_)
    | with_reducible refine fu_ite ?_ ?_
    | with_reducible refine fu_let ?_ (fun _ _ => ?_)
    | with_reducible refine fu_letI (fun _ => ?_)
    | with_reducible refine fu_let2 ?_ (fun _ _ _ => ?_)
    | (with_reducible refine gj_Fr.up ?_ ?_; rotate_left; · first | decide +kernel | rfl | simp)
    | (with_reducible refine gj_Fr.put ?_ ?_; rotate_left; · first | decide +kernel | rfl | simp)
    | (with_reducible refine gj_Fr.fill ?_ ?_; rotate_left; · first | decide +kernel | rfl | simp)
    | (with_reducible refine gj_Fr.copy ?_ ?_; rotate_left; · first | decide +kernel | rfl | simp)

set_option maxHeartbeats 600000 in
theorem fr_X3_loosen (a1 : Int) (a2 : Int) {M : gj_M} : gj_Fr [22, 23, 24] [] M (f_X3_loosen a1 a2 M) := by
  unfold f_X3_loosen
  have hM : gj_Fr [22, 23, 24] [] M M := gj_Fr.rf
  repeat' first
    | with_reducible assumption
    | with_reducible exact gj_Fr.rf
    | with_reducible refine ft_ite ?_ ?_
    | with_reducible refine ft_let ?_ (fun _ _ => ?_)
    | with_reducible refine ft_letI (fun _ => ?_)
    | with_reducible refine ft_let2 ?_ (fun _ _ _ => ?_)
    | with_reducible refine fu_ite ?_ ?_
    | with_reducible refine fu_let ?_ (fun _ _ => ?_)
    | with_reducible refine fu_letI (fun _ => ?_)
    | with_reducible refine fu_let2 ?_ (fun _ _ _ => ?_)
    | (with_reducible refine gj_Fr.up ?_ ?_; rotate_left; · first | decide +kernel | rfl | simp)
    | (with_reducible refine gj_Fr.put ?_ ?_; rotate_left; · first | decide +kernel | rfl | simp)
    | (with_reducible refine gj_Fr.fill ?_ ?_; rotate_left; · first | decide +kernel | rfl | simp)
    | (with_reducible refine gj_Fr.copy ?_ ?_; rotate_left; · first | decide +kernel | rfl | simp)
    | (with_reducible refine gj_Fr.trans ?_ (gj_Fr.wide (fr_X3_free _) ?_); rotate_left; · first | decide +kernel | simp [gj_fsub])

set_option maxHeartbeats 600000 in
theorem fr_J_X8_hear_139 (l1 l2 l3 s1 s2 : Int) (M : gj_M) : gj_Fr [22, 23, 24, 25, 30] [(29, 1), (29, 2)] M (J_X8_hear_139 l1 l2 l3 s1 s2 M) := by
  unfold J_X8_hear_139
  have hM : gj_Fr [22, 23, 24, 25, 30] [(29, 1), (29, 2)] M M := gj_Fr.rf
  repeat' first
    | with_reducible assumption
    | with_reducible exact gj_Fr.rf
    | with_reducible refine ft_ite ?_ ?_
    | with_reducible refine ft_let ?_ (fun _ _ => ?_)
    | with_reducible refine ft_letI (fun _ => ?_)
    | with_reducible refine ft_let2 ?_ (fun _ _ _ => ?_)
    | with_reducible refine fu_ite ?_ ?_
    | with_reducible refine fu_let ?_ (fun _ _ => ?_)
    | with_reducible refine fu_letI (fun _ => ?_)
    | with_reducible refine fu_let2 ?_ (fun _ _ _ => ?_)
    | (with_reducible refine gj_Fr.up ?_ ?_; rotate_left; · first | decide +kernel | rfl | simp)
    | (with_reducible refine gj_Fr.put ?_ ?_; rotate_left; · first | decide +kernel | rfl | simp)
    | (with_reducible refine gj_Fr.fill ?_ ?_; rotate_left; · first | decide +kernel | rfl | simp)
    | (with_reducible refine gj_Fr.copy ?_ ?_; rotate_left; · first | decide +kernel | rfl | simp)
    | (with_reducible refine gj_Fr.trans ?_ (gj_Fr.wide (fr_X1_add _ _ _ _ _) ?_); rotate_left; · first | decide +kernel | simp [gj_fsub])
    | (with_reducible refine gj_Fr.trans ?_ (gj_Fr.wide (fr_X3_earn _ _) ?_); rotate_left; · first | decide +kernel | simp [gj_fsub])
    | (with_reducible refine gj_Fr.trans ?_ (gj_Fr.wide (fr_X3_loosen _ _) ?_); rotate_left; · first | decide +kernel | simp [gj_fsub])

set_option maxHeartbeats 600000 in
theorem fr_J_X8_hear_108 (l1 l2 l3 s1 s2 : Int) (M : gj_M) : gj_Fr [22, 23, 24, 25, 30] [(29, 1), (29, 2)] M (J_X8_hear_108 l1 l2 l3 s1 s2 M) := by
  unfold J_X8_hear_108
  have hM : gj_Fr [22, 23, 24, 25, 30] [(29, 1), (29, 2)] M M := gj_Fr.rf
  repeat' first
    | with_reducible assumption
    | with_reducible exact gj_Fr.rf
    | with_reducible refine ft_ite ?_ ?_
    | with_reducible refine ft_let ?_ (fun _ _ => ?_)
    | with_reducible refine ft_letI (fun _ => ?_)
    | with_reducible refine ft_let2 ?_ (fun _ _ _ => ?_)
    | with_reducible refine fu_ite ?_ ?_
    | with_reducible refine fu_let ?_ (fun _ _ => ?_)
    | with_reducible refine fu_letI (fun _ => ?_)
    | with_reducible refine fu_let2 ?_ (fun _ _ _ => ?_)
    | (with_reducible refine gj_Fr.up ?_ ?_; rotate_left; · first | decide +kernel | rfl | simp)
    | (with_reducible refine gj_Fr.put ?_ ?_; rotate_left; · first | decide +kernel | rfl | simp)
    | (with_reducible refine gj_Fr.fill ?_ ?_; rotate_left; · first | decide +kernel | rfl | simp)
    | (with_reducible refine gj_Fr.copy ?_ ?_; rotate_left; · first | decide +kernel | rfl | simp)
    | with_reducible exact gj_Fr.trans (by with_reducible assumption) (fr_J_X8_hear_139 _ _ _ _ _ _)
    | with_reducible exact gj_Fr.trans (by with_reducible assumption) (fr_J_X8_hear_139 _ _ _ _ _ _)
    | (with_reducible refine gj_Fr.trans ?_ (gj_Fr.wide (fr_X1_add _ _ _ _ _) ?_); rotate_left; · first | decide +kernel | simp [gj_fsub])
    | (with_reducible refine gj_Fr.trans ?_ (gj_Fr.wide (fr_X3_earn _ _) ?_); rotate_left; · first | decide +kernel | simp [gj_fsub])
    | (with_reducible refine gj_Fr.trans ?_ (gj_Fr.wide (fr_X3_loosen _ _) ?_); rotate_left; · first | decide +kernel | simp [gj_fsub])

set_option maxHeartbeats 600000 in
theorem fr_J_X8_hear_32 (l1 l2 s0 s1 : Int) (M : gj_M) : gj_Fr [22, 23, 24, 25, 30] [(29, 1), (29, 2)] M (J_X8_hear_32 l1 l2 s0 s1 M) := by
  unfold J_X8_hear_32
  have hM : gj_Fr [22, 23, 24, 25, 30] [(29, 1), (29, 2)] M M := gj_Fr.rf
  repeat' first
    | with_reducible assumption
    | with_reducible exact gj_Fr.rf
    | with_reducible refine ft_ite ?_ ?_
    | with_reducible refine ft_let ?_ (fun _ _ => ?_)
    | with_reducible refine ft_letI (fun _ => ?_)
    | with_reducible refine ft_let2 ?_ (fun _ _ _ => ?_)
    | with_reducible refine fu_ite ?_ ?_
    | with_reducible refine fu_let ?_ (fun _ _ => ?_)
    | with_reducible refine fu_letI (fun _ => ?_)
    | with_reducible refine fu_let2 ?_ (fun _ _ _ => ?_)
    | (with_reducible refine gj_Fr.up ?_ ?_; rotate_left; · first | decide +kernel | rfl | simp)
    | (with_reducible refine gj_Fr.put ?_ ?_; rotate_left; · first | decide +kernel | rfl | simp)
    | (with_reducible refine gj_Fr.fill ?_ ?_; rotate_left; · first | decide +kernel | rfl | simp)
    | (with_reducible refine gj_Fr.copy ?_ ?_; rotate_left; · first | decide +kernel | rfl | simp)
    | with_reducible exact gj_Fr.trans (by with_reducible assumption) (fr_J_X8_hear_108 _ _ _ _ _ _)
    | with_reducible exact gj_Fr.trans (by with_reducible assumption) (fr_J_X8_hear_108 _ _ _ _ _ _)
    | (with_reducible refine gj_Fr.trans ?_ (gj_Fr.wide (fr_X1_add _ _ _ _ _) ?_); rotate_left; · first | decide +kernel | simp [gj_fsub])
    | (with_reducible refine gj_Fr.trans ?_ (gj_Fr.wide (fr_X3_earn _ _) ?_); rotate_left; · first | decide +kernel | simp [gj_fsub])
    | (with_reducible refine gj_Fr.trans ?_ (gj_Fr.wide (fr_X3_loosen _ _) ?_); rotate_left; · first | decide +kernel | simp [gj_fsub])

set_option maxHeartbeats 600000 in
theorem fr_J_X8_hear_16 (l1 l2 s0 : Int) (M : gj_M) : gj_Fr [22, 23, 24, 25, 30] [(29, 1), (29, 2)] M (J_X8_hear_16 l1 l2 s0 M) := by
  unfold J_X8_hear_16
  have hM : gj_Fr [22, 23, 24, 25, 30] [(29, 1), (29, 2)] M M := gj_Fr.rf
  repeat' first
    | with_reducible assumption
    | with_reducible exact gj_Fr.rf
    | with_reducible refine ft_ite ?_ ?_
    | with_reducible refine ft_let ?_ (fun _ _ => ?_)
    | with_reducible refine ft_letI (fun _ => ?_)
    | with_reducible refine ft_let2 ?_ (fun _ _ _ => ?_)
    | with_reducible refine fu_ite ?_ ?_
    | with_reducible refine fu_let ?_ (fun _ _ => ?_)
    | with_reducible refine fu_letI (fun _ => ?_)
    | with_reducible refine fu_let2 ?_ (fun _ _ _ => ?_)
    | (with_reducible refine gj_Fr.up ?_ ?_; rotate_left; · first | decide +kernel | rfl | simp)
    | (with_reducible refine gj_Fr.put ?_ ?_; rotate_left; · first | decide +kernel | rfl | simp)
    | (with_reducible refine gj_Fr.fill ?_ ?_; rotate_left; · first | decide +kernel | rfl | simp)
    | (with_reducible refine gj_Fr.copy ?_ ?_; rotate_left; · first | decide +kernel | rfl | simp)
    | with_reducible exact gj_Fr.trans (by with_reducible assumption) (fr_J_X8_hear_32 _ _ _ _ _)
    | with_reducible exact gj_Fr.trans (by with_reducible assumption) (fr_J_X8_hear_32 _ _ _ _ _)
    | (with_reducible refine gj_Fr.trans ?_ (gj_Fr.wide (fr_X1_add _ _ _ _ _) ?_); rotate_left; · first | decide +kernel | simp [gj_fsub])
    | (with_reducible refine gj_Fr.trans ?_ (gj_Fr.wide (fr_X3_earn _ _) ?_); rotate_left; · first | decide +kernel | simp [gj_fsub])
    | (with_reducible refine gj_Fr.trans ?_ (gj_Fr.wide (fr_X3_loosen _ _) ?_); rotate_left; · first | decide +kernel | simp [gj_fsub])

set_option maxHeartbeats 600000 in
theorem fr_X8_hear (a1 : Int) (a2 : Int) {M : gj_M} : gj_Fr [22, 23, 24, 25, 30] [(29, 1), (29, 2)] M (f_X8_hear a1 a2 M) := by
  unfold f_X8_hear
  have hM : gj_Fr [22, 23, 24, 25, 30] [(29, 1), (29, 2)] M M := gj_Fr.rf
  repeat' first
    | with_reducible assumption
    | with_reducible exact gj_Fr.rf
    | with_reducible refine ft_ite ?_ ?_
    | with_reducible refine ft_let ?_ (fun _ _ => ?_)
    | with_reducible refine ft_letI (fun _ => ?_)
    | with_reducible refine ft_let2 ?_ (fun _ _ _ => ?_)
    | with_reducible refine fu_ite ?_ ?_
    | with_reducible refine fu_let ?_ (fun _ _ => ?_)
    | with_reducible refine fu_letI (fun _ => ?_)
    | with_reducible refine fu_let2 ?_ (fun _ _ _ => ?_)
    | (with_reducible refine gj_Fr.up ?_ ?_; rotate_left; · first | decide +kernel | rfl | simp)
    | (with_reducible refine gj_Fr.put ?_ ?_; rotate_left; · first | decide +kernel | rfl | simp)
    | (with_reducible refine gj_Fr.fill ?_ ?_; rotate_left; · first | decide +kernel | rfl | simp)
    | (with_reducible refine gj_Fr.copy ?_ ?_; rotate_left; · first | decide +kernel | rfl | simp)
    | with_reducible exact gj_Fr.trans (by with_reducible assumption) (fr_J_X8_hear_16 _ _ _ _)
    | with_reducible exact gj_Fr.trans (by with_reducible assumption) (fr_J_X8_hear_16 _ _ _ _)
    | (with_reducible refine gj_Fr.trans ?_ (gj_Fr.wide (fr_X1_add _ _ _ _ _) ?_); rotate_left; · first | decide +kernel | simp [gj_fsub])
    | (with_reducible refine gj_Fr.trans ?_ (gj_Fr.wide (fr_X3_earn _ _) ?_); rotate_left; · first | decide +kernel | simp [gj_fsub])
    | (with_reducible refine gj_Fr.trans ?_ (gj_Fr.wide (fr_X3_loosen _ _) ?_); rotate_left; · first | decide +kernel | simp [gj_fsub])

set_option maxHeartbeats 600000 in
theorem fr_J_X8_endPairs_30 {rec2 : Int → gj_M → Option (gj_M)} (hrec2 : ∀ (l1 : Int) (M : gj_M), gj_FO (fun m => m) [22, 23, 24, 25, 30] [(29, 1), (29, 2)] M (rec2 l1 M)) (l1 : Int) (M : gj_M) : gj_FO (fun m => m) [22, 23, 24, 25, 30] [(29, 1), (29, 2)] M (J_X8_endPairs_30 rec2 l1 M) := by
  unfold J_X8_endPairs_30
  have hM : gj_Fr [22, 23, 24, 25, 30] [(29, 1), (29, 2)] M M := gj_Fr.rf
  repeat' first
    | with_reducible assumption
    | with_reducible exact gj_Fr.rf
    | with_reducible exact fo_none
    | with_reducible refine fo_some ?_
    | with_reducible refine fo_ite ?_ ?_
    | with_reducible refine fo_chk ?_
    | with_reducible refine fo_let ?_ (fun _ _ => ?_)
    | with_reducible refine fo_letI (fun _ => ?_)
    | with_reducible refine fo_let2 ?_ (fun _ _ _ => ?_)
    | with_reducible refine fo_bndM (fun _ _ => ?_) (fun _ _ => ?_)
    | with_reducible refine fo_bnd (fun _ => ?_)
    | with_reducible refine fo_bnd2 (fun _ _ _ => ?_) (fun _ _ _ => ?_)
    | (with_reducible refine gj_Fr.up ?_ ?_; rotate_left; · first | decide +kernel | rfl | simp)
    | (with_reducible refine gj_Fr.put ?_ ?_; rotate_left; · first | decide +kernel | rfl | simp)
    | (with_reducible refine gj_Fr.fill ?_ ?_; rotate_left; · first | decide +kernel | rfl | simp)
    | (with_reducible refine gj_Fr.copy ?_ ?_; rotate_left; · first | decide +kernel | rfl | simp)
    | with_reducible exact fo_tr (by with_reducible assumption) (hrec2 _ _)
    | (with_reducible refine gj_Fr.trans ?_ (gj_Fr.wide (fr_X8_hear _ _) ?_); rotate_left; · first | decide +kernel | simp [gj_fsub])

set_option maxHeartbeats 600000 in
theorem fr_B_X8_endPairs_2 {rec2 : Int → gj_M → Option (gj_M)} (hrec2 : ∀ (l1 : Int) (M : gj_M), gj_FO (fun m => m) [22, 23, 24, 25, 30] [(29, 1), (29, 2)] M (rec2 l1 M)) (l1 : Int) (M : gj_M) : gj_FO (fun m => m) [22, 23, 24, 25, 30] [(29, 1), (29, 2)] M (B_X8_endPairs_2 rec2 l1 M) := by
  unfold B_X8_endPairs_2
  have hM : gj_Fr [22, 23, 24, 25, 30] [(29, 1), (29, 2)] M M := gj_Fr.rf
  repeat' first
    | with_reducible assumption
    | with_reducible exact gj_Fr.rf
    | with_reducible exact fo_none
    | with_reducible refine fo_some ?_
    | with_reducible refine fo_ite ?_ ?_
    | with_reducible refine fo_chk ?_
    | with_reducible refine fo_let ?_ (fun _ _ => ?_)
    | with_reducible refine fo_letI (fun _ => ?_)
    | with_reducible refine fo_let2 ?_ (fun _ _ _ => ?_)
    | with_reducible refine fo_bndM (fun _ _ => ?_) (fun _ _ => ?_)
    | with_reducible refine fo_bnd (fun _ => ?_)
    | with_reducible refine fo_bnd2 (fun _ _ _ => ?_) (fun _ _ _ => ?_)
    | (with_reducible refine gj_Fr.up ?_ ?_; rotate_left; · first | decide +kernel | rfl | simp)
    | (with_reducible refine gj_Fr.put ?_ ?_; rotate_left; · first | decide +kernel | rfl | simp)
    | (with_reducible refine gj_Fr.fill ?_ ?_; rotate_left; · first | decide +kernel | rfl | simp)
    | (with_reducible refine gj_Fr.copy ?_ ?_; rotate_left; · first | decide +kernel | rfl | simp)
    | with_reducible exact fo_tr (by with_reducible assumption) (fr_J_X8_endPairs_30 hrec2 _ _)
    | with_reducible exact fo_tr (by with_reducible assumption) (hrec2 _ _)
    | (with_reducible refine gj_Fr.trans ?_ (gj_Fr.wide (fr_X8_hear _ _) ?_); rotate_left; · first | decide +kernel | simp [gj_fsub])

theorem frL_X8_endPairs_2 : ∀ (m : Nat) (l1 : Int) (M : gj_M), gj_FO (fun m => m) [22, 23, 24, 25, 30] [(29, 1), (29, 2)] M (gj_it (fun _ _ => none) (B_X8_endPairs_2) m l1 M)
  | 0, l1, M => fun r e => by cases (show (none : Option (gj_M)) = some r from e)
  | m + 1, l1, M => fr_B_X8_endPairs_2 (fun l1 M => frL_X8_endPairs_2 m l1 M) l1 M
set_option maxHeartbeats 600000 in
theorem fr_X8_endPairs {M : gj_M} : gj_FO (fun m => m) [22, 23, 24, 25, 30] [(29, 1), (29, 2)] M (F_X8_endPairs M) := by
  unfold F_X8_endPairs
  have hM : gj_Fr [22, 23, 24, 25, 30] [(29, 1), (29, 2)] M M := gj_Fr.rf
  repeat' first
    | with_reducible assumption
    | with_reducible exact gj_Fr.rf
    | with_reducible exact fo_none
    | with_reducible refine fo_some ?_
    | with_reducible refine fo_ite ?_ ?_
    | with_reducible refine fo_chk ?_
    | with_reducible refine fo_let ?_ (fun _ _ => ?_)
    | with_reducible refine fo_letI (fun _ => ?_)
    | with_reducible refine fo_let2 ?_ (fun _ _ _ => ?_)
    | with_reducible refine fo_bndM (fun _ _ => ?_) (fun _ _ => ?_)
    | with_reducible refine fo_bnd (fun _ => ?_)
    | with_reducible refine fo_bnd2 (fun _ _ _ => ?_) (fun _ _ _ => ?_)
    | (with_reducible refine gj_Fr.up ?_ ?_; rotate_left; · first | decide +kernel | rfl | simp)
    | (with_reducible refine gj_Fr.put ?_ ?_; rotate_left; · first | decide +kernel | rfl | simp)
    | (with_reducible refine gj_Fr.fill ?_ ?_; rotate_left; · first | decide +kernel | rfl | simp)
    | (with_reducible refine gj_Fr.copy ?_ ?_; rotate_left; · first | decide +kernel | rfl | simp)
    | with_reducible exact fo_tr (by with_reducible assumption) (frL_X8_endPairs_2 _ _ _)
    | (with_reducible refine gj_Fr.trans ?_ (gj_Fr.wide (fr_X8_hear _ _) ?_); rotate_left; · first | decide +kernel | simp [gj_fsub])

set_option maxHeartbeats 600000 in
theorem fr_X3_bind (a1 : Int) (a2 : Int) {M : gj_M} : gj_Fr [22] [] M (f_X3_bind a1 a2 M) := by
  unfold f_X3_bind
  have hM : gj_Fr [22] [] M M := gj_Fr.rf
  repeat' first
    | with_reducible assumption
    | with_reducible exact gj_Fr.rf
    | with_reducible refine ft_ite ?_ ?_
    | with_reducible refine ft_let ?_ (fun _ _ => ?_)
    | with_reducible refine ft_letI (fun _ => ?_)
    | with_reducible refine ft_let2 ?_ (fun _ _ _ => ?_)
    | with_reducible refine fu_ite ?_ ?_
    | with_reducible refine fu_let ?_ (fun _ _ => ?_)
    | with_reducible refine fu_letI (fun _ => ?_)
    | with_reducible refine fu_let2 ?_ (fun _ _ _ => ?_)
    | (with_reducible refine gj_Fr.up ?_ ?_; rotate_left; · first | decide +kernel | rfl | simp)
    | (with_reducible refine gj_Fr.put ?_ ?_; rotate_left; · first | decide +kernel | rfl | simp)
    | (with_reducible refine gj_Fr.fill ?_ ?_; rotate_left; · first | decide +kernel | rfl | simp)
    | (with_reducible refine gj_Fr.copy ?_ ?_; rotate_left; · first | decide +kernel | rfl | simp)

set_option maxHeartbeats 600000 in
theorem fr_J_X8_bindNewPairs_33 {rec2 : Int → gj_M → Option (gj_M)} (hrec2 : ∀ (l1 : Int) (M : gj_M), gj_FO (fun m => m) [22] [] M (rec2 l1 M)) (l1 : Int) (M : gj_M) : gj_FO (fun m => m) [22] [] M (J_X8_bindNewPairs_33 rec2 l1 M) := by
  unfold J_X8_bindNewPairs_33
  have hM : gj_Fr [22] [] M M := gj_Fr.rf
  repeat' first
    | with_reducible assumption
    | with_reducible exact gj_Fr.rf
    | with_reducible exact fo_none
    | with_reducible refine fo_some ?_
    | with_reducible refine fo_ite ?_ ?_
    | with_reducible refine fo_chk ?_
    | with_reducible refine fo_let ?_ (fun _ _ => ?_)
    | with_reducible refine fo_letI (fun _ => ?_)
    | with_reducible refine fo_let2 ?_ (fun _ _ _ => ?_)
    | with_reducible refine fo_bndM (fun _ _ => ?_) (fun _ _ => ?_)
    | with_reducible refine fo_bnd (fun _ => ?_)
    | with_reducible refine fo_bnd2 (fun _ _ _ => ?_) (fun _ _ _ => ?_)
    | (with_reducible refine gj_Fr.up ?_ ?_; rotate_left; · first | decide +kernel | rfl | simp)
    | (with_reducible refine gj_Fr.put ?_ ?_; rotate_left; · first | decide +kernel | rfl | simp)
    | (with_reducible refine gj_Fr.fill ?_ ?_; rotate_left; · first | decide +kernel | rfl | simp)
    | (with_reducible refine gj_Fr.copy ?_ ?_; rotate_left; · first | decide +kernel | rfl | simp)
    | with_reducible exact fo_tr (by with_reducible assumption) (hrec2 _ _)
    | (with_reducible refine gj_Fr.trans ?_ (gj_Fr.wide (fr_X3_bind _ _) ?_); rotate_left; · first | decide +kernel | simp [gj_fsub])

set_option maxHeartbeats 600000 in
theorem fr_B_X8_bindNewPairs_2 {rec2 : Int → gj_M → Option (gj_M)} (hrec2 : ∀ (l1 : Int) (M : gj_M), gj_FO (fun m => m) [22] [] M (rec2 l1 M)) (l1 : Int) (M : gj_M) : gj_FO (fun m => m) [22] [] M (B_X8_bindNewPairs_2 rec2 l1 M) := by
  unfold B_X8_bindNewPairs_2
  have hM : gj_Fr [22] [] M M := gj_Fr.rf
  repeat' first
    | with_reducible assumption
    | with_reducible exact gj_Fr.rf
    | with_reducible exact fo_none
    | with_reducible refine fo_some ?_
    | with_reducible refine fo_ite ?_ ?_
    | with_reducible refine fo_chk ?_
    | with_reducible refine fo_let ?_ (fun _ _ => ?_)
    | with_reducible refine fo_letI (fun _ => ?_)
    | with_reducible refine fo_let2 ?_ (fun _ _ _ => ?_)
    | with_reducible refine fo_bndM (fun _ _ => ?_) (fun _ _ => ?_)
    | with_reducible refine fo_bnd (fun _ => ?_)
    | with_reducible refine fo_bnd2 (fun _ _ _ => ?_) (fun _ _ _ => ?_)
    | (with_reducible refine gj_Fr.up ?_ ?_; rotate_left; · first | decide +kernel | rfl | simp)
    | (with_reducible refine gj_Fr.put ?_ ?_; rotate_left; · first | decide +kernel | rfl | simp)
    | (with_reducible refine gj_Fr.fill ?_ ?_; rotate_left; · first | decide +kernel | rfl | simp)
    | (with_reducible refine gj_Fr.copy ?_ ?_; rotate_left; · first | decide +kernel | rfl | simp)
    | with_reducible exact fo_tr (by with_reducible assumption) (fr_J_X8_bindNewPairs_33 hrec2 _ _)
    | with_reducible exact fo_tr (by with_reducible assumption) (hrec2 _ _)
    | (with_reducible refine gj_Fr.trans ?_ (gj_Fr.wide (fr_X3_bind _ _) ?_); rotate_left; · first | decide +kernel | simp [gj_fsub])

theorem frL_X8_bindNewPairs_2 : ∀ (m : Nat) (l1 : Int) (M : gj_M), gj_FO (fun m => m) [22] [] M (gj_it (fun _ _ => none) (B_X8_bindNewPairs_2) m l1 M)
  | 0, l1, M => fun r e => by cases (show (none : Option (gj_M)) = some r from e)
  | m + 1, l1, M => fr_B_X8_bindNewPairs_2 (fun l1 M => frL_X8_bindNewPairs_2 m l1 M) l1 M
set_option maxHeartbeats 600000 in
theorem fr_X8_bindNewPairs {M : gj_M} : gj_FO (fun m => m) [22] [] M (F_X8_bindNewPairs M) := by
  unfold F_X8_bindNewPairs
  have hM : gj_Fr [22] [] M M := gj_Fr.rf
  repeat' first
    | with_reducible assumption
    | with_reducible exact gj_Fr.rf
    | with_reducible exact fo_none
    | with_reducible refine fo_some ?_
    | with_reducible refine fo_ite ?_ ?_
    | with_reducible refine fo_chk ?_
    | with_reducible refine fo_let ?_ (fun _ _ => ?_)
    | with_reducible refine fo_letI (fun _ => ?_)
    | with_reducible refine fo_let2 ?_ (fun _ _ _ => ?_)
    | with_reducible refine fo_bndM (fun _ _ => ?_) (fun _ _ => ?_)
    | with_reducible refine fo_bnd (fun _ => ?_)
    | with_reducible refine fo_bnd2 (fun _ _ _ => ?_) (fun _ _ _ => ?_)
    | (with_reducible refine gj_Fr.up ?_ ?_; rotate_left; · first | decide +kernel | rfl | simp)
    | (with_reducible refine gj_Fr.put ?_ ?_; rotate_left; · first | decide +kernel | rfl | simp)
    | (with_reducible refine gj_Fr.fill ?_ ?_; rotate_left; · first | decide +kernel | rfl | simp)
    | (with_reducible refine gj_Fr.copy ?_ ?_; rotate_left; · first | decide +kernel | rfl | simp)
    | with_reducible exact fo_tr (by with_reducible assumption) (frL_X8_bindNewPairs_2 _ _ _)
    | (with_reducible refine gj_Fr.trans ?_ (gj_Fr.wide (fr_X3_bind _ _) ?_); rotate_left; · first | decide +kernel | simp [gj_fsub])

set_option maxHeartbeats 600000 in
theorem fr_J_X8_liveTogether_147 (l1 l2 l3 l4 l5 l6 l7 l8 : Int) (M : gj_M) : gj_FO (fun m => m) [23, 25, 26, 27, 28] [(21, 2)] M (J_X8_liveTogether_147 l1 l2 l3 l4 l5 l6 l7 l8 M) := by
  unfold J_X8_liveTogether_147
  have hM : gj_Fr [23, 25, 26, 27, 28] [(21, 2)] M M := gj_Fr.rf
  repeat' first
    | with_reducible assumption
    | with_reducible exact gj_Fr.rf
    | with_reducible exact fo_none
    | with_reducible refine fo_some ?_
    | with_reducible refine fo_ite ?_ ?_
    | with_reducible refine fo_chk ?_
    | with_reducible refine fo_let ?_ (fun _ _ => ?_)
    | with_reducible refine fo_letI (fun _ => ?_)
    | with_reducible refine fo_let2 ?_ (fun _ _ _ => ?_)
    | with_reducible refine fo_bndM (fun _ _ => ?_) (fun _ _ => ?_)
    | with_reducible refine fo_bnd (fun _ => ?_)
    | with_reducible refine fo_bnd2 (fun _ _ _ => ?_) (fun _ _ _ => ?_)
    | (with_reducible refine gj_Fr.up ?_ ?_; rotate_left; · first | decide +kernel | rfl | simp)
    | (with_reducible refine gj_Fr.put ?_ ?_; rotate_left; · first | decide +kernel | rfl | simp)
    | (with_reducible refine gj_Fr.fill ?_ ?_; rotate_left; · first | decide +kernel | rfl | simp)
    | (with_reducible refine gj_Fr.copy ?_ ?_; rotate_left; · first | decide +kernel | rfl | simp)
    | (with_reducible refine gj_Fr.trans ?_ (gj_Fr.wide (fr_X3_earn _ _) ?_); rotate_left; · first | decide +kernel | simp [gj_fsub])
    | (with_reducible refine gj_Fr.trans ?_ (gj_Fr.wide (gj_FOu (fr_X3_lot _) (by with_reducible assumption)) ?_); rotate_left; · first | decide +kernel | simp [gj_fsub])

set_option maxHeartbeats 600000 in
theorem fr_J_X8_liveTogether_110 (l1 l2 l3 l4 l5 l6 l7 s0 : Int) (M : gj_M) : gj_FO (fun m => m) [23, 25, 26, 27, 28] [(21, 2)] M (J_X8_liveTogether_110 l1 l2 l3 l4 l5 l6 l7 s0 M) := by
  unfold J_X8_liveTogether_110
  have hM : gj_Fr [23, 25, 26, 27, 28] [(21, 2)] M M := gj_Fr.rf
  repeat' first
    | with_reducible assumption
    | with_reducible exact gj_Fr.rf
    | with_reducible exact fo_none
    | with_reducible refine fo_some ?_
    | with_reducible refine fo_ite ?_ ?_
    | with_reducible refine fo_chk ?_
    | with_reducible refine fo_let ?_ (fun _ _ => ?_)
    | with_reducible refine fo_letI (fun _ => ?_)
    | with_reducible refine fo_let2 ?_ (fun _ _ _ => ?_)
    | with_reducible refine fo_bndM (fun _ _ => ?_) (fun _ _ => ?_)
    | with_reducible refine fo_bnd (fun _ => ?_)
    | with_reducible refine fo_bnd2 (fun _ _ _ => ?_) (fun _ _ _ => ?_)
    | (with_reducible refine gj_Fr.up ?_ ?_; rotate_left; · first | decide +kernel | rfl | simp)
    | (with_reducible refine gj_Fr.put ?_ ?_; rotate_left; · first | decide +kernel | rfl | simp)
    | (with_reducible refine gj_Fr.fill ?_ ?_; rotate_left; · first | decide +kernel | rfl | simp)
    | (with_reducible refine gj_Fr.copy ?_ ?_; rotate_left; · first | decide +kernel | rfl | simp)
    | with_reducible exact fo_tr (by with_reducible assumption) (fr_J_X8_liveTogether_147 _ _ _ _ _ _ _ _ _)
    | (with_reducible refine gj_Fr.trans ?_ (gj_Fr.wide (fr_X3_earn _ _) ?_); rotate_left; · first | decide +kernel | simp [gj_fsub])
    | (with_reducible refine gj_Fr.trans ?_ (gj_Fr.wide (gj_FOu (fr_X3_lot _) (by with_reducible assumption)) ?_); rotate_left; · first | decide +kernel | simp [gj_fsub])

set_option maxHeartbeats 600000 in
theorem fr_J_X8_liveTogether_60 (l1 l2 l3 l4 s0 : Int) (M : gj_M) : gj_FO (fun m => m) [23, 25, 26, 27, 28] [(21, 2)] M (J_X8_liveTogether_60 l1 l2 l3 l4 s0 M) := by
  unfold J_X8_liveTogether_60
  have hM : gj_Fr [23, 25, 26, 27, 28] [(21, 2)] M M := gj_Fr.rf
  repeat' first
    | with_reducible assumption
    | with_reducible exact gj_Fr.rf
    | with_reducible exact fo_none
    | with_reducible refine fo_some ?_
    | with_reducible refine fo_ite ?_ ?_
    | with_reducible refine fo_chk ?_
    | with_reducible refine fo_let ?_ (fun _ _ => ?_)
    | with_reducible refine fo_letI (fun _ => ?_)
    | with_reducible refine fo_let2 ?_ (fun _ _ _ => ?_)
    | with_reducible refine fo_bndM (fun _ _ => ?_) (fun _ _ => ?_)
    | with_reducible refine fo_bnd (fun _ => ?_)
    | with_reducible refine fo_bnd2 (fun _ _ _ => ?_) (fun _ _ _ => ?_)
    | (with_reducible refine gj_Fr.up ?_ ?_; rotate_left; · first | decide +kernel | rfl | simp)
    | (with_reducible refine gj_Fr.put ?_ ?_; rotate_left; · first | decide +kernel | rfl | simp)
    | (with_reducible refine gj_Fr.fill ?_ ?_; rotate_left; · first | decide +kernel | rfl | simp)
    | (with_reducible refine gj_Fr.copy ?_ ?_; rotate_left; · first | decide +kernel | rfl | simp)
    | with_reducible exact fo_tr (by with_reducible assumption) (fr_J_X8_liveTogether_110 _ _ _ _ _ _ _ _ _)
    | (with_reducible refine gj_Fr.trans ?_ (gj_Fr.wide (fr_X3_earn _ _) ?_); rotate_left; · first | decide +kernel | simp [gj_fsub])
    | (with_reducible refine gj_Fr.trans ?_ (gj_Fr.wide (gj_FOu (fr_X3_lot _) (by with_reducible assumption)) ?_); rotate_left; · first | decide +kernel | simp [gj_fsub])

set_option maxHeartbeats 600000 in
theorem fr_J_X8_liveTogether_34 (l1 l2 l3 s0 : Int) (M : gj_M) : gj_FO (fun m => m) [23, 25, 26, 27, 28] [(21, 2)] M (J_X8_liveTogether_34 l1 l2 l3 s0 M) := by
  unfold J_X8_liveTogether_34
  have hM : gj_Fr [23, 25, 26, 27, 28] [(21, 2)] M M := gj_Fr.rf
  repeat' first
    | with_reducible assumption
    | with_reducible exact gj_Fr.rf
    | with_reducible exact fo_none
    | with_reducible refine fo_some ?_
    | with_reducible refine fo_ite ?_ ?_
    | with_reducible refine fo_chk ?_
    | with_reducible refine fo_let ?_ (fun _ _ => ?_)
    | with_reducible refine fo_letI (fun _ => ?_)
    | with_reducible refine fo_let2 ?_ (fun _ _ _ => ?_)
    | with_reducible refine fo_bndM (fun _ _ => ?_) (fun _ _ => ?_)
    | with_reducible refine fo_bnd (fun _ => ?_)
    | with_reducible refine fo_bnd2 (fun _ _ _ => ?_) (fun _ _ _ => ?_)
    | (with_reducible refine gj_Fr.up ?_ ?_; rotate_left; · first | decide +kernel | rfl | simp)
    | (with_reducible refine gj_Fr.put ?_ ?_; rotate_left; · first | decide +kernel | rfl | simp)
    | (with_reducible refine gj_Fr.fill ?_ ?_; rotate_left; · first | decide +kernel | rfl | simp)
    | (with_reducible refine gj_Fr.copy ?_ ?_; rotate_left; · first | decide +kernel | rfl | simp)
    | with_reducible exact fo_tr (by with_reducible assumption) (fr_J_X8_liveTogether_60 _ _ _ _ _ _)
    | (with_reducible refine gj_Fr.trans ?_ (gj_Fr.wide (fr_X3_earn _ _) ?_); rotate_left; · first | decide +kernel | simp [gj_fsub])
    | (with_reducible refine gj_Fr.trans ?_ (gj_Fr.wide (gj_FOu (fr_X3_lot _) (by with_reducible assumption)) ?_); rotate_left; · first | decide +kernel | simp [gj_fsub])

set_option maxHeartbeats 600000 in
theorem fr_X8_liveTogether (a1 : Int) (a2 : Int) {M : gj_M} : gj_FO (fun m => m) [23, 25, 26, 27, 28] [(21, 2)] M (F_X8_liveTogether a1 a2 M) := by
  unfold F_X8_liveTogether
  have hM : gj_Fr [23, 25, 26, 27, 28] [(21, 2)] M M := gj_Fr.rf
  repeat' first
    | with_reducible assumption
    | with_reducible exact gj_Fr.rf
    | with_reducible exact fo_none
    | with_reducible refine fo_some ?_
    | with_reducible refine fo_ite ?_ ?_
    | with_reducible refine fo_chk ?_
    | with_reducible refine fo_let ?_ (fun _ _ => ?_)
    | with_reducible refine fo_letI (fun _ => ?_)
    | with_reducible refine fo_let2 ?_ (fun _ _ _ => ?_)
    | with_reducible refine fo_bndM (fun _ _ => ?_) (fun _ _ => ?_)
    | with_reducible refine fo_bnd (fun _ => ?_)
    | with_reducible refine fo_bnd2 (fun _ _ _ => ?_) (fun _ _ _ => ?_)
    | (with_reducible refine gj_Fr.up ?_ ?_; rotate_left; · first | decide +kernel | rfl | simp)
    | (with_reducible refine gj_Fr.put ?_ ?_; rotate_left; · first | decide +kernel | rfl | simp)
    | (with_reducible refine gj_Fr.fill ?_ ?_; rotate_left; · first | decide +kernel | rfl | simp)
    | (with_reducible refine gj_Fr.copy ?_ ?_; rotate_left; · first | decide +kernel | rfl | simp)
    | with_reducible exact fo_tr (by with_reducible assumption) (fr_J_X8_liveTogether_34 _ _ _ _ _)
    | (with_reducible refine gj_Fr.trans ?_ (gj_Fr.wide (fr_X3_earn _ _) ?_); rotate_left; · first | decide +kernel | simp [gj_fsub])
    | (with_reducible refine gj_Fr.trans ?_ (gj_Fr.wide (gj_FOu (fr_X3_lot _) (by with_reducible assumption)) ?_); rotate_left; · first | decide +kernel | simp [gj_fsub])

set_option maxHeartbeats 600000 in
theorem fr_J_X8_passYear_95 (M : gj_M) : gj_FO (fun m => m) [23, 25, 26, 27, 28] [(21, 0), (21, 2)] M (J_X8_passYear_95 M) := by
  unfold J_X8_passYear_95
  have hM : gj_Fr [23, 25, 26, 27, 28] [(21, 0), (21, 2)] M M := gj_Fr.rf
  repeat' first
    | with_reducible assumption
    | with_reducible exact gj_Fr.rf
    | with_reducible exact fo_none
    | with_reducible refine fo_some ?_
    | with_reducible refine fo_ite ?_ ?_
    | with_reducible refine fo_chk ?_
    | with_reducible refine fo_let ?_ (fun _ _ => ?_)
    | with_reducible refine fo_letI (fun _ => ?_)
    | with_reducible refine fo_let2 ?_ (fun _ _ _ => ?_)
    | with_reducible refine fo_bndM (fun _ _ => ?_) (fun _ _ => ?_)
    | with_reducible refine fo_bnd (fun _ => ?_)
    | with_reducible refine fo_bnd2 (fun _ _ _ => ?_) (fun _ _ _ => ?_)
    | (with_reducible refine gj_Fr.up ?_ ?_; rotate_left; · first | decide +kernel | rfl | simp)
    | (with_reducible refine gj_Fr.put ?_ ?_; rotate_left; · first | decide +kernel | rfl | simp)
    | (with_reducible refine gj_Fr.fill ?_ ?_; rotate_left; · first | decide +kernel | rfl | simp)
    | (with_reducible refine gj_Fr.copy ?_ ?_; rotate_left; · first | decide +kernel | rfl | simp)
    | (with_reducible refine gj_Fr.trans ?_ (gj_Fr.wide (gj_FOu (fr_X8_liveTogether _ _) (by with_reducible assumption)) ?_); rotate_left; · first | decide +kernel | simp [gj_fsub])
    | (with_reducible refine gj_Fr.trans ?_ (gj_Fr.wide (fr_X3_earn _ _) ?_); rotate_left; · first | decide +kernel | simp [gj_fsub])

set_option maxHeartbeats 600000 in
theorem fr_J_X8_passYear_89 {rec38 : Int → gj_M → Option (gj_M)} (hrec38 : ∀ (l1 : Int) (M : gj_M), gj_FO (fun m => m) [23, 25, 26, 27, 28] [(21, 0), (21, 2)] M (rec38 l1 M)) (l1 : Int) (M : gj_M) : gj_FO (fun m => m) [23, 25, 26, 27, 28] [(21, 0), (21, 2)] M (J_X8_passYear_89 rec38 l1 M) := by
  unfold J_X8_passYear_89
  have hM : gj_Fr [23, 25, 26, 27, 28] [(21, 0), (21, 2)] M M := gj_Fr.rf
  repeat' first
    | with_reducible assumption
    | with_reducible exact gj_Fr.rf
    | with_reducible exact fo_none
    | with_reducible refine fo_some ?_
    | with_reducible refine fo_ite ?_ ?_
    | with_reducible refine fo_chk ?_
    | with_reducible refine fo_let ?_ (fun _ _ => ?_)
    | with_reducible refine fo_letI (fun _ => ?_)
    | with_reducible refine fo_let2 ?_ (fun _ _ _ => ?_)
    | with_reducible refine fo_bndM (fun _ _ => ?_) (fun _ _ => ?_)
    | with_reducible refine fo_bnd (fun _ => ?_)
    | with_reducible refine fo_bnd2 (fun _ _ _ => ?_) (fun _ _ _ => ?_)
    | (with_reducible refine gj_Fr.up ?_ ?_; rotate_left; · first | decide +kernel | rfl | simp)
    | (with_reducible refine gj_Fr.put ?_ ?_; rotate_left; · first | decide +kernel | rfl | simp)
    | (with_reducible refine gj_Fr.fill ?_ ?_; rotate_left; · first | decide +kernel | rfl | simp)
    | (with_reducible refine gj_Fr.copy ?_ ?_; rotate_left; · first | decide +kernel | rfl | simp)
    | with_reducible exact fo_tr (by with_reducible assumption) (hrec38 _ _)
    | (with_reducible refine gj_Fr.trans ?_ (gj_Fr.wide (gj_FOu (fr_X8_liveTogether _ _) (by with_reducible assumption)) ?_); rotate_left; · first | decide +kernel | simp [gj_fsub])
    | (with_reducible refine gj_Fr.trans ?_ (gj_Fr.wide (fr_X3_earn _ _) ?_); rotate_left; · first | decide +kernel | simp [gj_fsub])

set_option maxHeartbeats 600000 in
theorem fr_B_X8_passYear_38 {rec38 : Int → gj_M → Option (gj_M)} (hrec38 : ∀ (l1 : Int) (M : gj_M), gj_FO (fun m => m) [23, 25, 26, 27, 28] [(21, 0), (21, 2)] M (rec38 l1 M)) (l1 : Int) (M : gj_M) : gj_FO (fun m => m) [23, 25, 26, 27, 28] [(21, 0), (21, 2)] M (B_X8_passYear_38 rec38 l1 M) := by
  unfold B_X8_passYear_38
  have hM : gj_Fr [23, 25, 26, 27, 28] [(21, 0), (21, 2)] M M := gj_Fr.rf
  repeat' first
    | with_reducible assumption
    | with_reducible exact gj_Fr.rf
    | with_reducible exact fo_none
    | with_reducible refine fo_some ?_
    | with_reducible refine fo_ite ?_ ?_
    | with_reducible refine fo_chk ?_
    | with_reducible refine fo_let ?_ (fun _ _ => ?_)
    | with_reducible refine fo_letI (fun _ => ?_)
    | with_reducible refine fo_let2 ?_ (fun _ _ _ => ?_)
    | with_reducible refine fo_bndM (fun _ _ => ?_) (fun _ _ => ?_)
    | with_reducible refine fo_bnd (fun _ => ?_)
    | with_reducible refine fo_bnd2 (fun _ _ _ => ?_) (fun _ _ _ => ?_)
    | (with_reducible refine gj_Fr.up ?_ ?_; rotate_left; · first | decide +kernel | rfl | simp)
    | (with_reducible refine gj_Fr.put ?_ ?_; rotate_left; · first | decide +kernel | rfl | simp)
    | (with_reducible refine gj_Fr.fill ?_ ?_; rotate_left; · first | decide +kernel | rfl | simp)
    | (with_reducible refine gj_Fr.copy ?_ ?_; rotate_left; · first | decide +kernel | rfl | simp)
    | with_reducible exact fo_tr (by with_reducible assumption) (fr_J_X8_passYear_89 hrec38 _ _)
    | with_reducible exact fo_tr (by with_reducible assumption) (fr_J_X8_passYear_95 _)
    | with_reducible exact fo_tr (by with_reducible assumption) (hrec38 _ _)
    | (with_reducible refine gj_Fr.trans ?_ (gj_Fr.wide (gj_FOu (fr_X8_liveTogether _ _) (by with_reducible assumption)) ?_); rotate_left; · first | decide +kernel | simp [gj_fsub])
    | (with_reducible refine gj_Fr.trans ?_ (gj_Fr.wide (fr_X3_earn _ _) ?_); rotate_left; · first | decide +kernel | simp [gj_fsub])

theorem frL_X8_passYear_38 : ∀ (m : Nat) (l1 : Int) (M : gj_M), gj_FO (fun m => m) [23, 25, 26, 27, 28] [(21, 0), (21, 2)] M (gj_it (fun _ _ => none) (B_X8_passYear_38) m l1 M)
  | 0, l1, M => fun r e => by cases (show (none : Option (gj_M)) = some r from e)
  | m + 1, l1, M => fr_B_X8_passYear_38 (fun l1 M => frL_X8_passYear_38 m l1 M) l1 M
set_option maxHeartbeats 600000 in
theorem fr_J_X8_passYear_36 (M : gj_M) : gj_FO (fun m => m) [23, 25, 26, 27, 28] [(21, 0), (21, 2)] M (J_X8_passYear_36 M) := by
  unfold J_X8_passYear_36
  have hM : gj_Fr [23, 25, 26, 27, 28] [(21, 0), (21, 2)] M M := gj_Fr.rf
  repeat' first
    | with_reducible assumption
    | with_reducible exact gj_Fr.rf
    | with_reducible exact fo_none
    | with_reducible refine fo_some ?_
    | with_reducible refine fo_ite ?_ ?_
    | with_reducible refine fo_chk ?_
    | with_reducible refine fo_let ?_ (fun _ _ => ?_)
    | with_reducible refine fo_letI (fun _ => ?_)
    | with_reducible refine fo_let2 ?_ (fun _ _ _ => ?_)
    | with_reducible refine fo_bndM (fun _ _ => ?_) (fun _ _ => ?_)
    | with_reducible refine fo_bnd (fun _ => ?_)
    | with_reducible refine fo_bnd2 (fun _ _ _ => ?_) (fun _ _ _ => ?_)
    | (with_reducible refine gj_Fr.up ?_ ?_; rotate_left; · first | decide +kernel | rfl | simp)
    | (with_reducible refine gj_Fr.put ?_ ?_; rotate_left; · first | decide +kernel | rfl | simp)
    | (with_reducible refine gj_Fr.fill ?_ ?_; rotate_left; · first | decide +kernel | rfl | simp)
    | (with_reducible refine gj_Fr.copy ?_ ?_; rotate_left; · first | decide +kernel | rfl | simp)
    | with_reducible exact fo_tr (by with_reducible assumption) (frL_X8_passYear_38 _ _ _)
    | (with_reducible refine gj_Fr.trans ?_ (gj_Fr.wide (gj_FOu (fr_X8_liveTogether _ _) (by with_reducible assumption)) ?_); rotate_left; · first | decide +kernel | simp [gj_fsub])
    | (with_reducible refine gj_Fr.trans ?_ (gj_Fr.wide (fr_X3_earn _ _) ?_); rotate_left; · first | decide +kernel | simp [gj_fsub])

set_option maxHeartbeats 600000 in
theorem fr_J_X8_passYear_30 {rec2 : Int → gj_M → Option (gj_M)} (hrec2 : ∀ (l1 : Int) (M : gj_M), gj_FO (fun m => m) [23, 25, 26, 27, 28] [(21, 0), (21, 2)] M (rec2 l1 M)) (l1 : Int) (M : gj_M) : gj_FO (fun m => m) [23, 25, 26, 27, 28] [(21, 0), (21, 2)] M (J_X8_passYear_30 rec2 l1 M) := by
  unfold J_X8_passYear_30
  have hM : gj_Fr [23, 25, 26, 27, 28] [(21, 0), (21, 2)] M M := gj_Fr.rf
  repeat' first
    | with_reducible assumption
    | with_reducible exact gj_Fr.rf
    | with_reducible exact fo_none
    | with_reducible refine fo_some ?_
    | with_reducible refine fo_ite ?_ ?_
    | with_reducible refine fo_chk ?_
    | with_reducible refine fo_let ?_ (fun _ _ => ?_)
    | with_reducible refine fo_letI (fun _ => ?_)
    | with_reducible refine fo_let2 ?_ (fun _ _ _ => ?_)
    | with_reducible refine fo_bndM (fun _ _ => ?_) (fun _ _ => ?_)
    | with_reducible refine fo_bnd (fun _ => ?_)
    | with_reducible refine fo_bnd2 (fun _ _ _ => ?_) (fun _ _ _ => ?_)
    | (with_reducible refine gj_Fr.up ?_ ?_; rotate_left; · first | decide +kernel | rfl | simp)
    | (with_reducible refine gj_Fr.put ?_ ?_; rotate_left; · first | decide +kernel | rfl | simp)
    | (with_reducible refine gj_Fr.fill ?_ ?_; rotate_left; · first | decide +kernel | rfl | simp)
    | (with_reducible refine gj_Fr.copy ?_ ?_; rotate_left; · first | decide +kernel | rfl | simp)
    | with_reducible exact fo_tr (by with_reducible assumption) (hrec2 _ _)
    | (with_reducible refine gj_Fr.trans ?_ (gj_Fr.wide (gj_FOu (fr_X8_liveTogether _ _) (by with_reducible assumption)) ?_); rotate_left; · first | decide +kernel | simp [gj_fsub])
    | (with_reducible refine gj_Fr.trans ?_ (gj_Fr.wide (fr_X3_earn _ _) ?_); rotate_left; · first | decide +kernel | simp [gj_fsub])

set_option maxHeartbeats 600000 in
theorem fr_B_X8_passYear_2 {rec2 : Int → gj_M → Option (gj_M)} (hrec2 : ∀ (l1 : Int) (M : gj_M), gj_FO (fun m => m) [23, 25, 26, 27, 28] [(21, 0), (21, 2)] M (rec2 l1 M)) (l1 : Int) (M : gj_M) : gj_FO (fun m => m) [23, 25, 26, 27, 28] [(21, 0), (21, 2)] M (B_X8_passYear_2 rec2 l1 M) := by
  unfold B_X8_passYear_2
  have hM : gj_Fr [23, 25, 26, 27, 28] [(21, 0), (21, 2)] M M := gj_Fr.rf
  repeat' first
    | with_reducible assumption
    | with_reducible exact gj_Fr.rf
    | with_reducible exact fo_none
    | with_reducible refine fo_some ?_
    | with_reducible refine fo_ite ?_ ?_
    | with_reducible refine fo_chk ?_
    | with_reducible refine fo_let ?_ (fun _ _ => ?_)
    | with_reducible refine fo_letI (fun _ => ?_)
    | with_reducible refine fo_let2 ?_ (fun _ _ _ => ?_)
    | with_reducible refine fo_bndM (fun _ _ => ?_) (fun _ _ => ?_)
    | with_reducible refine fo_bnd (fun _ => ?_)
    | with_reducible refine fo_bnd2 (fun _ _ _ => ?_) (fun _ _ _ => ?_)
    | (with_reducible refine gj_Fr.up ?_ ?_; rotate_left; · first | decide +kernel | rfl | simp)
    | (with_reducible refine gj_Fr.put ?_ ?_; rotate_left; · first | decide +kernel | rfl | simp)
    | (with_reducible refine gj_Fr.fill ?_ ?_; rotate_left; · first | decide +kernel | rfl | simp)
    | (with_reducible refine gj_Fr.copy ?_ ?_; rotate_left; · first | decide +kernel | rfl | simp)
    | with_reducible exact fo_tr (by with_reducible assumption) (fr_J_X8_passYear_30 hrec2 _ _)
    | with_reducible exact fo_tr (by with_reducible assumption) (fr_J_X8_passYear_36 _)
    | with_reducible exact fo_tr (by with_reducible assumption) (hrec2 _ _)
    | (with_reducible refine gj_Fr.trans ?_ (gj_Fr.wide (gj_FOu (fr_X8_liveTogether _ _) (by with_reducible assumption)) ?_); rotate_left; · first | decide +kernel | simp [gj_fsub])
    | (with_reducible refine gj_Fr.trans ?_ (gj_Fr.wide (fr_X3_earn _ _) ?_); rotate_left; · first | decide +kernel | simp [gj_fsub])

theorem frL_X8_passYear_2 : ∀ (m : Nat) (l1 : Int) (M : gj_M), gj_FO (fun m => m) [23, 25, 26, 27, 28] [(21, 0), (21, 2)] M (gj_it (fun _ _ => none) (B_X8_passYear_2) m l1 M)
  | 0, l1, M => fun r e => by cases (show (none : Option (gj_M)) = some r from e)
  | m + 1, l1, M => fr_B_X8_passYear_2 (fun l1 M => frL_X8_passYear_2 m l1 M) l1 M
set_option maxHeartbeats 600000 in
theorem fr_X8_passYear {M : gj_M} : gj_FO (fun m => m) [23, 25, 26, 27, 28] [(21, 0), (21, 2)] M (F_X8_passYear M) := by
  unfold F_X8_passYear
  have hM : gj_Fr [23, 25, 26, 27, 28] [(21, 0), (21, 2)] M M := gj_Fr.rf
  repeat' first
    | with_reducible assumption
    | with_reducible exact gj_Fr.rf
    | with_reducible exact fo_none
    | with_reducible refine fo_some ?_
    | with_reducible refine fo_ite ?_ ?_
    | with_reducible refine fo_chk ?_
    | with_reducible refine fo_let ?_ (fun _ _ => ?_)
    | with_reducible refine fo_letI (fun _ => ?_)
    | with_reducible refine fo_let2 ?_ (fun _ _ _ => ?_)
    | with_reducible refine fo_bndM (fun _ _ => ?_) (fun _ _ => ?_)
    | with_reducible refine fo_bnd (fun _ => ?_)
    | with_reducible refine fo_bnd2 (fun _ _ _ => ?_) (fun _ _ _ => ?_)
    | (with_reducible refine gj_Fr.up ?_ ?_; rotate_left; · first | decide +kernel | rfl | simp)
    | (with_reducible refine gj_Fr.put ?_ ?_; rotate_left; · first | decide +kernel | rfl | simp)
    | (with_reducible refine gj_Fr.fill ?_ ?_; rotate_left; · first | decide +kernel | rfl | simp)
    | (with_reducible refine gj_Fr.copy ?_ ?_; rotate_left; · first | decide +kernel | rfl | simp)
    | with_reducible exact fo_tr (by with_reducible assumption) (frL_X8_passYear_2 _ _ _)
    | (with_reducible refine gj_Fr.trans ?_ (gj_Fr.wide (gj_FOu (fr_X8_liveTogether _ _) (by with_reducible assumption)) ?_); rotate_left; · first | decide +kernel | simp [gj_fsub])
    | (with_reducible refine gj_Fr.trans ?_ (gj_Fr.wide (fr_X3_earn _ _) ?_); rotate_left; · first | decide +kernel | simp [gj_fsub])

set_option maxHeartbeats 600000 in
theorem fr_X8_hold {M : gj_M} : gj_FO (fun m => m) [22, 23, 24, 25, 26, 27, 28, 30, 32, 33, 34, 36, 37, 38, 39, 40, 45] [(21, 0), (21, 2), (29, 1), (29, 2), (31, 5), (31, 6), (31, 7), (31, 8), (31, 9), (31, 10)] M (F_X8_hold M) := by
  unfold F_X8_hold
  have hM : gj_Fr [22, 23, 24, 25, 26, 27, 28, 30, 32, 33, 34, 36, 37, 38, 39, 40, 45] [(21, 0), (21, 2), (29, 1), (29, 2), (31, 5), (31, 6), (31, 7), (31, 8), (31, 9), (31, 10)] M M := gj_Fr.rf
  repeat' first
    | with_reducible assumption
    | with_reducible exact gj_Fr.rf
    | with_reducible exact fo_none
    | with_reducible refine fo_some ?_
    | with_reducible refine fo_ite ?_ ?_
    | with_reducible refine fo_chk ?_
    | with_reducible refine fo_let ?_ (fun _ _ => ?_)
    | with_reducible refine fo_letI (fun _ => ?_)
    | with_reducible refine fo_let2 ?_ (fun _ _ _ => ?_)
    | with_reducible refine fo_bndM (fun _ _ => ?_) (fun _ _ => ?_)
    | with_reducible refine fo_bnd (fun _ => ?_)
    | with_reducible refine fo_bnd2 (fun _ _ _ => ?_) (fun _ _ _ => ?_)
    | (with_reducible refine gj_Fr.up ?_ ?_; rotate_left; · first | decide +kernel | rfl | simp)
    | (with_reducible refine gj_Fr.put ?_ ?_; rotate_left; · first | decide +kernel | rfl | simp)
    | (with_reducible refine gj_Fr.fill ?_ ?_; rotate_left; · first | decide +kernel | rfl | simp)
    | (with_reducible refine gj_Fr.copy ?_ ?_; rotate_left; · first | decide +kernel | rfl | simp)
    | (with_reducible refine gj_Fr.trans ?_ (gj_Fr.wide (gj_FOu (fr_X8_endPairs) (by with_reducible assumption)) ?_); rotate_left; · first | decide +kernel | simp [gj_fsub])
    | (with_reducible refine gj_Fr.trans ?_ (gj_Fr.wide (gj_FOu (fr_X2_pairUp _) (by with_reducible assumption)) ?_); rotate_left; · first | decide +kernel | simp [gj_fsub])
    | (with_reducible refine gj_Fr.trans ?_ (gj_Fr.wide (gj_FOu (fr_X8_passYear) (by with_reducible assumption)) ?_); rotate_left; · first | decide +kernel | simp [gj_fsub])
    | (with_reducible refine gj_Fr.trans ?_ (gj_Fr.wide (gj_FOu (fr_X8_bindNewPairs) (by with_reducible assumption)) ?_); rotate_left; · first | decide +kernel | simp [gj_fsub])
    | (with_reducible refine gj_Fr.trans ?_ (gj_Fr.wide (gj_FOu (fr_X2_look _) (by with_reducible assumption)) ?_); rotate_left; · first | decide +kernel | simp [gj_fsub])
    | (with_reducible refine gj_Fr.trans ?_ (gj_Fr.wide (gj_FOu (fr_X8_askPaired) (by with_reducible assumption)) ?_); rotate_left; · first | decide +kernel | simp [gj_fsub])
    | (with_reducible refine gj_Fr.trans ?_ (gj_Fr.wide (gj_FOu (fr_X2_gather _) (by with_reducible assumption)) ?_); rotate_left; · first | decide +kernel | simp [gj_fsub])

set_option maxHeartbeats 600000 in
theorem fr_J_X11_may_49 (M : gj_M) : gj_FO Prod.snd [22, 23, 24, 25, 26, 27, 28, 30, 32, 33, 34, 36, 37, 38, 39, 40, 45, 78] [(21, 0), (21, 2), (29, 1), (29, 2), (31, 5), (31, 6), (31, 7), (31, 8), (31, 9), (31, 10)] M (J_X11_may_49 M) := by
  unfold J_X11_may_49
  have hM : gj_Fr [22, 23, 24, 25, 26, 27, 28, 30, 32, 33, 34, 36, 37, 38, 39, 40, 45, 78] [(21, 0), (21, 2), (29, 1), (29, 2), (31, 5), (31, 6), (31, 7), (31, 8), (31, 9), (31, 10)] M M := gj_Fr.rf
  repeat' first
    | with_reducible assumption
    | with_reducible exact gj_Fr.rf
    | with_reducible exact fo_none
    | with_reducible refine fo_some ?_
    | with_reducible refine fo_ite ?_ ?_
    | with_reducible refine fo_chk ?_
    | with_reducible refine fo_let ?_ (fun _ _ => ?_)
    | with_reducible refine fo_letI (fun _ => ?_)
    | with_reducible refine fo_let2 ?_ (fun _ _ _ => ?_)
    | with_reducible refine fo_bndM (fun _ _ => ?_) (fun _ _ => ?_)
    | with_reducible refine fo_bnd (fun _ => ?_)
    | with_reducible refine fo_bnd2 (fun _ _ _ => ?_) (fun _ _ _ => ?_)
    | (with_reducible refine gj_Fr.up ?_ ?_; rotate_left; · first | decide +kernel | rfl | simp)
    | (with_reducible refine gj_Fr.put ?_ ?_; rotate_left; · first | decide +kernel | rfl | simp)
    | (with_reducible refine gj_Fr.fill ?_ ?_; rotate_left; · first | decide +kernel | rfl | simp)
    | (with_reducible refine gj_Fr.copy ?_ ?_; rotate_left; · first | decide +kernel | rfl | simp)
    | (with_reducible refine gj_Fr.trans ?_ (gj_Fr.wide (gj_FOu (fr_X8_hold) (by with_reducible assumption)) ?_); rotate_left; · first | decide +kernel | simp [gj_fsub])
    | (with_reducible refine gj_Fr.trans ?_ (gj_Fr.wide (fr_X11_refuse _) ?_); rotate_left; · first | decide +kernel | simp [gj_fsub])

set_option maxHeartbeats 600000 in
theorem fr_B_X11_may_31 {rec31 : Int → Int → gj_M → Option (Int × gj_M)} (hrec31 : ∀ (l1 l2 : Int) (M : gj_M), gj_FO Prod.snd [22, 23, 24, 25, 26, 27, 28, 30, 32, 33, 34, 36, 37, 38, 39, 40, 45, 78] [(21, 0), (21, 2), (29, 1), (29, 2), (31, 5), (31, 6), (31, 7), (31, 8), (31, 9), (31, 10)] M (rec31 l1 l2 M)) (l1 l2 : Int) (M : gj_M) : gj_FO Prod.snd [22, 23, 24, 25, 26, 27, 28, 30, 32, 33, 34, 36, 37, 38, 39, 40, 45, 78] [(21, 0), (21, 2), (29, 1), (29, 2), (31, 5), (31, 6), (31, 7), (31, 8), (31, 9), (31, 10)] M (B_X11_may_31 rec31 l1 l2 M) := by
  unfold B_X11_may_31
  have hM : gj_Fr [22, 23, 24, 25, 26, 27, 28, 30, 32, 33, 34, 36, 37, 38, 39, 40, 45, 78] [(21, 0), (21, 2), (29, 1), (29, 2), (31, 5), (31, 6), (31, 7), (31, 8), (31, 9), (31, 10)] M M := gj_Fr.rf
  repeat' first
    | with_reducible assumption
    | with_reducible exact gj_Fr.rf
    | with_reducible exact fo_none
    | with_reducible refine fo_some ?_
    | with_reducible refine fo_ite ?_ ?_
    | with_reducible refine fo_chk ?_
    | with_reducible refine fo_let ?_ (fun _ _ => ?_)
    | with_reducible refine fo_letI (fun _ => ?_)
    | with_reducible refine fo_let2 ?_ (fun _ _ _ => ?_)
    | with_reducible refine fo_bndM (fun _ _ => ?_) (fun _ _ => ?_)
    | with_reducible refine fo_bnd (fun _ => ?_)
    | with_reducible refine fo_bnd2 (fun _ _ _ => ?_) (fun _ _ _ => ?_)
    | (with_reducible refine gj_Fr.up ?_ ?_; rotate_left; · first | decide +kernel | rfl | simp)
    | (with_reducible refine gj_Fr.put ?_ ?_; rotate_left; · first | decide +kernel | rfl | simp)
    | (with_reducible refine gj_Fr.fill ?_ ?_; rotate_left; · first | decide +kernel | rfl | simp)
    | (with_reducible refine gj_Fr.copy ?_ ?_; rotate_left; · first | decide +kernel | rfl | simp)
    | with_reducible exact fo_tr (by with_reducible assumption) (fr_J_X11_may_49 _)
    | with_reducible exact fo_tr (by with_reducible assumption) (hrec31 _ _ _)
    | (with_reducible refine gj_Fr.trans ?_ (gj_Fr.wide (gj_FOu (fr_X8_hold) (by with_reducible assumption)) ?_); rotate_left; · first | decide +kernel | simp [gj_fsub])
    | (with_reducible refine gj_Fr.trans ?_ (gj_Fr.wide (fr_X11_refuse _) ?_); rotate_left; · first | decide +kernel | simp [gj_fsub])

theorem frL_X11_may_31 : ∀ (m : Nat) (l1 l2 : Int) (M : gj_M), gj_FO Prod.snd [22, 23, 24, 25, 26, 27, 28, 30, 32, 33, 34, 36, 37, 38, 39, 40, 45, 78] [(21, 0), (21, 2), (29, 1), (29, 2), (31, 5), (31, 6), (31, 7), (31, 8), (31, 9), (31, 10)] M (gj_it (fun _ _ _ => none) (B_X11_may_31) m l1 l2 M)
  | 0, l1, l2, M => fun r e => by cases (show (none : Option (Int × gj_M)) = some r from e)
  | m + 1, l1, l2, M => fr_B_X11_may_31 (fun l1 l2 M => frL_X11_may_31 m l1 l2 M) l1 l2 M
set_option maxHeartbeats 600000 in
theorem fr_X11_may (a1 : Int) {M : gj_M} : gj_FO Prod.snd [22, 23, 24, 25, 26, 27, 28, 30, 32, 33, 34, 36, 37, 38, 39, 40, 45, 78] [(21, 0), (21, 2), (29, 1), (29, 2), (31, 5), (31, 6), (31, 7), (31, 8), (31, 9), (31, 10)] M (F_X11_may a1 M) := by
  unfold F_X11_may
  have hM : gj_Fr [22, 23, 24, 25, 26, 27, 28, 30, 32, 33, 34, 36, 37, 38, 39, 40, 45, 78] [(21, 0), (21, 2), (29, 1), (29, 2), (31, 5), (31, 6), (31, 7), (31, 8), (31, 9), (31, 10)] M M := gj_Fr.rf
  repeat' first
    | with_reducible assumption
    | with_reducible exact gj_Fr.rf
    | with_reducible exact fo_none
    | with_reducible refine fo_some ?_
    | with_reducible refine fo_ite ?_ ?_
    | with_reducible refine fo_chk ?_
    | with_reducible refine fo_let ?_ (fun _ _ => ?_)
    | with_reducible refine fo_letI (fun _ => ?_)
    | with_reducible refine fo_let2 ?_ (fun _ _ _ => ?_)
    | with_reducible refine fo_bndM (fun _ _ => ?_) (fun _ _ => ?_)
    | with_reducible refine fo_bnd (fun _ => ?_)
    | with_reducible refine fo_bnd2 (fun _ _ _ => ?_) (fun _ _ _ => ?_)
    | (with_reducible refine gj_Fr.up ?_ ?_; rotate_left; · first | decide +kernel | rfl | simp)
    | (with_reducible refine gj_Fr.put ?_ ?_; rotate_left; · first | decide +kernel | rfl | simp)
    | (with_reducible refine gj_Fr.fill ?_ ?_; rotate_left; · first | decide +kernel | rfl | simp)
    | (with_reducible refine gj_Fr.copy ?_ ?_; rotate_left; · first | decide +kernel | rfl | simp)
    | with_reducible exact fo_tr (by with_reducible assumption) (frL_X11_may_31 _ _ _ _)
    | (with_reducible refine gj_Fr.trans ?_ (gj_Fr.wide (gj_FOu (fr_X8_hold) (by with_reducible assumption)) ?_); rotate_left; · first | decide +kernel | simp [gj_fsub])
    | (with_reducible refine gj_Fr.trans ?_ (gj_Fr.wide (fr_X11_refuse _) ?_); rotate_left; · first | decide +kernel | simp [gj_fsub])

set_option maxHeartbeats 600000 in
theorem fr_X11_join (a1 : Int) (a2 : Int) {M : gj_M} : gj_Fr [22, 78] [] M (f_X11_join a1 a2 M).2 := by
  unfold f_X11_join
  have hM : gj_Fr [22, 78] [] M M := gj_Fr.rf
  repeat' first
    | with_reducible assumption
    | with_reducible exact gj_Fr.rf
    | with_reducible refine ft_ite ?_ ?_
    | with_reducible refine ft_let ?_ (fun _ _ => ?_)
    | with_reducible refine ft_letI (fun _ => ?_)
    | with_reducible refine ft_let2 ?_ (fun _ _ _ => ?_)
    | with_reducible refine fu_ite ?_ ?_
    | with_reducible refine fu_let ?_ (fun _ _ => ?_)
    | with_reducible refine fu_letI (fun _ => ?_)
    | with_reducible refine fu_let2 ?_ (fun _ _ _ => ?_)
    | (with_reducible refine gj_Fr.up ?_ ?_; rotate_left; · first | decide +kernel | rfl | simp)
    | (with_reducible refine gj_Fr.put ?_ ?_; rotate_left; · first | decide +kernel | rfl | simp)
    | (with_reducible refine gj_Fr.fill ?_ ?_; rotate_left; · first | decide +kernel | rfl | simp)
    | (with_reducible refine gj_Fr.copy ?_ ?_; rotate_left; · first | decide +kernel | rfl | simp)
    | (with_reducible refine gj_Fr.trans ?_ (gj_Fr.wide (fr_X3_bind _ _) ?_); rotate_left; · first | decide +kernel | simp [gj_fsub])
    | (with_reducible refine gj_Fr.trans ?_ (gj_Fr.wide (fr_X11_refuse _) ?_); rotate_left; · first | decide +kernel | simp [gj_fsub])

set_option maxHeartbeats 600000 in
theorem fr_X11_part (a1 : Int) {M : gj_M} : gj_Fr [22, 23, 24, 78] [] M (f_X11_part a1 M).2 := by
  unfold f_X11_part
  have hM : gj_Fr [22, 23, 24, 78] [] M M := gj_Fr.rf
  repeat' first
    | with_reducible assumption
    | with_reducible exact gj_Fr.rf
    | with_reducible refine ft_ite ?_ ?_
    | with_reducible refine ft_let ?_ (fun _ _ => ?_)
    | with_reducible refine ft_letI (fun _ => ?_)
    | with_reducible refine ft_let2 ?_ (fun _ _ _ => ?_)
    | with_reducible refine fu_ite ?_ ?_
    | with_reducible refine fu_let ?_ (fun _ _ => ?_)
    | with_reducible refine fu_letI (fun _ => ?_)
    | with_reducible refine fu_let2 ?_ (fun _ _ _ => ?_)
    | (with_reducible refine gj_Fr.up ?_ ?_; rotate_left; · first | decide +kernel | rfl | simp)
    | (with_reducible refine gj_Fr.put ?_ ?_; rotate_left; · first | decide +kernel | rfl | simp)
    | (with_reducible refine gj_Fr.fill ?_ ?_; rotate_left; · first | decide +kernel | rfl | simp)
    | (with_reducible refine gj_Fr.copy ?_ ?_; rotate_left; · first | decide +kernel | rfl | simp)
    | (with_reducible refine gj_Fr.trans ?_ (gj_Fr.wide (fr_X11_refuse _) ?_); rotate_left; · first | decide +kernel | simp [gj_fsub])
    | (with_reducible refine gj_Fr.trans ?_ (gj_Fr.wide (fr_X3_loosen _ _) ?_); rotate_left; · first | decide +kernel | simp [gj_fsub])

set_option maxHeartbeats 600000 in
theorem fr_J_X11_blocks_87 (l1 l2 : Int) (M : gj_M) : gj_FO Prod.snd [36, 37] [] M (J_X11_blocks_87 l1 l2 M) := by
  unfold J_X11_blocks_87
  have hM : gj_Fr [36, 37] [] M M := gj_Fr.rf
  repeat' first
    | with_reducible assumption
    | with_reducible exact gj_Fr.rf
    | with_reducible exact fo_none
    | with_reducible refine fo_some ?_
    | with_reducible refine fo_ite ?_ ?_
    | with_reducible refine fo_chk ?_
    | with_reducible refine fo_let ?_ (fun _ _ => ?_)
    | with_reducible refine fo_letI (fun _ => ?_)
    | with_reducible refine fo_let2 ?_ (fun _ _ _ => ?_)
    | with_reducible refine fo_bndM (fun _ _ => ?_) (fun _ _ => ?_)
    | with_reducible refine fo_bnd (fun _ => ?_)
    | with_reducible refine fo_bnd2 (fun _ _ _ => ?_) (fun _ _ _ => ?_)
    | (with_reducible refine gj_Fr.up ?_ ?_; rotate_left; · first | decide +kernel | rfl | simp)
    | (with_reducible refine gj_Fr.put ?_ ?_; rotate_left; · first | decide +kernel | rfl | simp)
    | (with_reducible refine gj_Fr.fill ?_ ?_; rotate_left; · first | decide +kernel | rfl | simp)
    | (with_reducible refine gj_Fr.copy ?_ ?_; rotate_left; · first | decide +kernel | rfl | simp)
    | (with_reducible refine gj_Fr.trans ?_ (gj_Fr.wide (gj_FOu (fr_X2_look _) (by with_reducible assumption)) ?_); rotate_left; · first | decide +kernel | simp [gj_fsub])

set_option maxHeartbeats 600000 in
theorem fr_J_X11_blocks_81 {rec12 : Int → Int → Int → gj_M → Option (Int × gj_M)} (hrec12 : ∀ (l1 l2 l3 : Int) (M : gj_M), gj_FO Prod.snd [36, 37] [] M (rec12 l1 l2 l3 M)) (l1 l2 l3 : Int) (M : gj_M) : gj_FO Prod.snd [36, 37] [] M (J_X11_blocks_81 rec12 l1 l2 l3 M) := by
  unfold J_X11_blocks_81
  have hM : gj_Fr [36, 37] [] M M := gj_Fr.rf
  repeat' first
    | with_reducible assumption
    | with_reducible exact gj_Fr.rf
    | with_reducible exact fo_none
    | with_reducible refine fo_some ?_
    | with_reducible refine fo_ite ?_ ?_
    | with_reducible refine fo_chk ?_
    | with_reducible refine fo_let ?_ (fun _ _ => ?_)
    | with_reducible refine fo_letI (fun _ => ?_)
    | with_reducible refine fo_let2 ?_ (fun _ _ _ => ?_)
    | with_reducible refine fo_bndM (fun _ _ => ?_) (fun _ _ => ?_)
    | with_reducible refine fo_bnd (fun _ => ?_)
    | with_reducible refine fo_bnd2 (fun _ _ _ => ?_) (fun _ _ _ => ?_)
    | (with_reducible refine gj_Fr.up ?_ ?_; rotate_left; · first | decide +kernel | rfl | simp)
    | (with_reducible refine gj_Fr.put ?_ ?_; rotate_left; · first | decide +kernel | rfl | simp)
    | (with_reducible refine gj_Fr.fill ?_ ?_; rotate_left; · first | decide +kernel | rfl | simp)
    | (with_reducible refine gj_Fr.copy ?_ ?_; rotate_left; · first | decide +kernel | rfl | simp)
    | with_reducible exact fo_tr (by with_reducible assumption) (hrec12 _ _ _ _)
    | (with_reducible refine gj_Fr.trans ?_ (gj_Fr.wide (gj_FOu (fr_X2_look _) (by with_reducible assumption)) ?_); rotate_left; · first | decide +kernel | simp [gj_fsub])

set_option maxHeartbeats 600000 in
theorem fr_J_X11_blocks_61 (l3 l4 : Int) (M : gj_M) : gj_FO Prod.snd [36, 37] [] M (J_X11_blocks_61 l3 l4 M) := by
  unfold J_X11_blocks_61
  have hM : gj_Fr [36, 37] [] M M := gj_Fr.rf
  repeat' first
    | with_reducible assumption
    | with_reducible exact gj_Fr.rf
    | with_reducible exact fo_none
    | with_reducible refine fo_some ?_
    | with_reducible refine fo_ite ?_ ?_
    | with_reducible refine fo_chk ?_
    | with_reducible refine fo_let ?_ (fun _ _ => ?_)
    | with_reducible refine fo_letI (fun _ => ?_)
    | with_reducible refine fo_let2 ?_ (fun _ _ _ => ?_)
    | with_reducible refine fo_bndM (fun _ _ => ?_) (fun _ _ => ?_)
    | with_reducible refine fo_bnd (fun _ => ?_)
    | with_reducible refine fo_bnd2 (fun _ _ _ => ?_) (fun _ _ _ => ?_)
    | (with_reducible refine gj_Fr.up ?_ ?_; rotate_left; · first | decide +kernel | rfl | simp)
    | (with_reducible refine gj_Fr.put ?_ ?_; rotate_left; · first | decide +kernel | rfl | simp)
    | (with_reducible refine gj_Fr.fill ?_ ?_; rotate_left; · first | decide +kernel | rfl | simp)
    | (with_reducible refine gj_Fr.copy ?_ ?_; rotate_left; · first | decide +kernel | rfl | simp)
    | (with_reducible refine gj_Fr.trans ?_ (gj_Fr.wide (gj_FOu (fr_X2_look _) (by with_reducible assumption)) ?_); rotate_left; · first | decide +kernel | simp [gj_fsub])

set_option maxHeartbeats 600000 in
theorem fr_B_X11_blocks_26 {rec12 : Int → Int → Int → gj_M → Option (Int × gj_M)} {rec26 : Int → Int → Int → Int → gj_M → Option (Int × gj_M)} (hrec12 : ∀ (l1 l2 l3 : Int) (M : gj_M), gj_FO Prod.snd [36, 37] [] M (rec12 l1 l2 l3 M)) (hrec26 : ∀ (l1 l2 l3 l4 : Int) (M : gj_M), gj_FO Prod.snd [36, 37] [] M (rec26 l1 l2 l3 l4 M)) (l1 l2 l3 l4 : Int) (M : gj_M) : gj_FO Prod.snd [36, 37] [] M (B_X11_blocks_26 rec12 rec26 l1 l2 l3 l4 M) := by
  unfold B_X11_blocks_26
  have hM : gj_Fr [36, 37] [] M M := gj_Fr.rf
  repeat' first
    | with_reducible assumption
    | with_reducible exact gj_Fr.rf
    | with_reducible exact fo_none
    | with_reducible refine fo_some ?_
    | with_reducible refine fo_ite ?_ ?_
    | with_reducible refine fo_chk ?_
    | with_reducible refine fo_let ?_ (fun _ _ => ?_)
    | with_reducible refine fo_letI (fun _ => ?_)
    | with_reducible refine fo_let2 ?_ (fun _ _ _ => ?_)
    | with_reducible refine fo_bndM (fun _ _ => ?_) (fun _ _ => ?_)
    | with_reducible refine fo_bnd (fun _ => ?_)
    | with_reducible refine fo_bnd2 (fun _ _ _ => ?_) (fun _ _ _ => ?_)
    | (with_reducible refine gj_Fr.up ?_ ?_; rotate_left; · first | decide +kernel | rfl | simp)
    | (with_reducible refine gj_Fr.put ?_ ?_; rotate_left; · first | decide +kernel | rfl | simp)
    | (with_reducible refine gj_Fr.fill ?_ ?_; rotate_left; · first | decide +kernel | rfl | simp)
    | (with_reducible refine gj_Fr.copy ?_ ?_; rotate_left; · first | decide +kernel | rfl | simp)
    | with_reducible exact fo_tr (by with_reducible assumption) (fr_J_X11_blocks_61 _ _ _)
    | with_reducible exact fo_tr (by with_reducible assumption) (fr_J_X11_blocks_81 hrec12 _ _ _ _)
    | with_reducible exact fo_tr (by with_reducible assumption) (hrec12 _ _ _ _)
    | with_reducible exact fo_tr (by with_reducible assumption) (hrec26 _ _ _ _ _)
    | (with_reducible refine gj_Fr.trans ?_ (gj_Fr.wide (gj_FOu (fr_X2_look _) (by with_reducible assumption)) ?_); rotate_left; · first | decide +kernel | simp [gj_fsub])

theorem frL_X11_blocks_26 {rec12 : Int → Int → Int → gj_M → Option (Int × gj_M)} (hrec12 : ∀ (l1 l2 l3 : Int) (M : gj_M), gj_FO Prod.snd [36, 37] [] M (rec12 l1 l2 l3 M)) : ∀ (m : Nat) (l1 l2 l3 l4 : Int) (M : gj_M), gj_FO Prod.snd [36, 37] [] M (gj_it (fun _ _ _ _ _ => none) (B_X11_blocks_26 rec12) m l1 l2 l3 l4 M)
  | 0, l1, l2, l3, l4, M => fun r e => by cases (show (none : Option (Int × gj_M)) = some r from e)
  | m + 1, l1, l2, l3, l4, M => fr_B_X11_blocks_26 hrec12 (fun l1 l2 l3 l4 M => frL_X11_blocks_26 hrec12 m l1 l2 l3 l4 M) l1 l2 l3 l4 M
set_option maxHeartbeats 600000 in
theorem fr_B_X11_blocks_12 {rec12 : Int → Int → Int → gj_M → Option (Int × gj_M)} (hrec12 : ∀ (l1 l2 l3 : Int) (M : gj_M), gj_FO Prod.snd [36, 37] [] M (rec12 l1 l2 l3 M)) (l1 l2 l3 : Int) (M : gj_M) : gj_FO Prod.snd [36, 37] [] M (B_X11_blocks_12 rec12 l1 l2 l3 M) := by
  unfold B_X11_blocks_12
  have hM : gj_Fr [36, 37] [] M M := gj_Fr.rf
  repeat' first
    | with_reducible assumption
    | with_reducible exact gj_Fr.rf
    | with_reducible exact fo_none
    | with_reducible refine fo_some ?_
    | with_reducible refine fo_ite ?_ ?_
    | with_reducible refine fo_chk ?_
    | with_reducible refine fo_let ?_ (fun _ _ => ?_)
    | with_reducible refine fo_letI (fun _ => ?_)
    | with_reducible refine fo_let2 ?_ (fun _ _ _ => ?_)
    | with_reducible refine fo_bndM (fun _ _ => ?_) (fun _ _ => ?_)
    | with_reducible refine fo_bnd (fun _ => ?_)
    | with_reducible refine fo_bnd2 (fun _ _ _ => ?_) (fun _ _ _ => ?_)
    | (with_reducible refine gj_Fr.up ?_ ?_; rotate_left; · first | decide +kernel | rfl | simp)
    | (with_reducible refine gj_Fr.put ?_ ?_; rotate_left; · first | decide +kernel | rfl | simp)
    | (with_reducible refine gj_Fr.fill ?_ ?_; rotate_left; · first | decide +kernel | rfl | simp)
    | (with_reducible refine gj_Fr.copy ?_ ?_; rotate_left; · first | decide +kernel | rfl | simp)
    | with_reducible exact fo_tr (by with_reducible assumption) (frL_X11_blocks_26 hrec12 _ _ _ _ _ _)
    | with_reducible exact fo_tr (by with_reducible assumption) (fr_J_X11_blocks_87 _ _ _)
    | with_reducible exact fo_tr (by with_reducible assumption) (hrec12 _ _ _ _)
    | (with_reducible refine gj_Fr.trans ?_ (gj_Fr.wide (gj_FOu (fr_X2_look _) (by with_reducible assumption)) ?_); rotate_left; · first | decide +kernel | simp [gj_fsub])

theorem frL_X11_blocks_12 : ∀ (m : Nat) (l1 l2 l3 : Int) (M : gj_M), gj_FO Prod.snd [36, 37] [] M (gj_it (fun _ _ _ _ => none) (B_X11_blocks_12) m l1 l2 l3 M)
  | 0, l1, l2, l3, M => fun r e => by cases (show (none : Option (Int × gj_M)) = some r from e)
  | m + 1, l1, l2, l3, M => fr_B_X11_blocks_12 (fun l1 l2 l3 M => frL_X11_blocks_12 m l1 l2 l3 M) l1 l2 l3 M
set_option maxHeartbeats 600000 in
theorem fr_X11_blocks (a1 : Int) {M : gj_M} : gj_FO Prod.snd [36, 37] [] M (F_X11_blocks a1 M) := by
  unfold F_X11_blocks
  have hM : gj_Fr [36, 37] [] M M := gj_Fr.rf
  repeat' first
    | with_reducible assumption
    | with_reducible exact gj_Fr.rf
    | with_reducible exact fo_none
    | with_reducible refine fo_some ?_
    | with_reducible refine fo_ite ?_ ?_
    | with_reducible refine fo_chk ?_
    | with_reducible refine fo_let ?_ (fun _ _ => ?_)
    | with_reducible refine fo_letI (fun _ => ?_)
    | with_reducible refine fo_let2 ?_ (fun _ _ _ => ?_)
    | with_reducible refine fo_bndM (fun _ _ => ?_) (fun _ _ => ?_)
    | with_reducible refine fo_bnd (fun _ => ?_)
    | with_reducible refine fo_bnd2 (fun _ _ _ => ?_) (fun _ _ _ => ?_)
    | (with_reducible refine gj_Fr.up ?_ ?_; rotate_left; · first | decide +kernel | rfl | simp)
    | (with_reducible refine gj_Fr.put ?_ ?_; rotate_left; · first | decide +kernel | rfl | simp)
    | (with_reducible refine gj_Fr.fill ?_ ?_; rotate_left; · first | decide +kernel | rfl | simp)
    | (with_reducible refine gj_Fr.copy ?_ ?_; rotate_left; · first | decide +kernel | rfl | simp)
    | with_reducible exact fo_tr (by with_reducible assumption) (frL_X11_blocks_12 _ _ _ _ _)
    | (with_reducible refine gj_Fr.trans ?_ (gj_Fr.wide (gj_FOu (fr_X2_look _) (by with_reducible assumption)) ?_); rotate_left; · first | decide +kernel | simp [gj_fsub])

set_option maxHeartbeats 600000 in
theorem fr_X11_life (a1 : Int) (a2 : Int) {M : gj_M} : gj_FO Prod.snd [36, 37, 38, 39, 40] [(21, 2)] M (F_X11_life a1 a2 M) := by
  unfold F_X11_life
  have hM : gj_Fr [36, 37, 38, 39, 40] [(21, 2)] M M := gj_Fr.rf
  repeat' first
    | with_reducible assumption
    | with_reducible exact gj_Fr.rf
    | with_reducible exact fo_none
    | with_reducible refine fo_some ?_
    | with_reducible refine fo_ite ?_ ?_
    | with_reducible refine fo_chk ?_
    | with_reducible refine fo_let ?_ (fun _ _ => ?_)
    | with_reducible refine fo_letI (fun _ => ?_)
    | with_reducible refine fo_let2 ?_ (fun _ _ _ => ?_)
    | with_reducible refine fo_bndM (fun _ _ => ?_) (fun _ _ => ?_)
    | with_reducible refine fo_bnd (fun _ => ?_)
    | with_reducible refine fo_bnd2 (fun _ _ _ => ?_) (fun _ _ _ => ?_)
    | (with_reducible refine gj_Fr.up ?_ ?_; rotate_left; · first | decide +kernel | rfl | simp)
    | (with_reducible refine gj_Fr.put ?_ ?_; rotate_left; · first | decide +kernel | rfl | simp)
    | (with_reducible refine gj_Fr.fill ?_ ?_; rotate_left; · first | decide +kernel | rfl | simp)
    | (with_reducible refine gj_Fr.copy ?_ ?_; rotate_left; · first | decide +kernel | rfl | simp)
    | (with_reducible refine gj_Fr.trans ?_ (gj_Fr.wide (gj_FOu (fr_X2_pairUp _) (by with_reducible assumption)) ?_); rotate_left; · first | decide +kernel | simp [gj_fsub])
    | (with_reducible refine gj_Fr.trans ?_ (gj_Fr.wide (gj_FOu (fr_X2_look _) (by with_reducible assumption)) ?_); rotate_left; · first | decide +kernel | simp [gj_fsub])
    | (with_reducible refine gj_Fr.trans ?_ (gj_Fr.wide (gj_FOu (fr_X2_gather _) (by with_reducible assumption)) ?_); rotate_left; · first | decide +kernel | simp [gj_fsub])

set_option maxHeartbeats 600000 in
theorem fr_X1_copyOf_55_29 {M : gj_M} : gj_Fr [56] [(55, 1), (55, 2)] M (f_X1_copyOf_55_29 M) := by
  unfold f_X1_copyOf_55_29
  have hM : gj_Fr [56] [(55, 1), (55, 2)] M M := gj_Fr.rf
  repeat' first
    | with_reducible assumption
    | with_reducible exact gj_Fr.rf
    | with_reducible refine ft_ite ?_ ?_
    | with_reducible refine ft_let ?_ (fun _ _ => ?_)
    | with_reducible refine ft_letI (fun _ => ?_)
    | with_reducible refine ft_let2 ?_ (fun _ _ _ => ?_)
    | with_reducible refine fu_ite ?_ ?_
    | with_reducible refine fu_let ?_ (fun _ _ => ?_)
    | with_reducible refine fu_letI (fun _ => ?_)
    | with_reducible refine fu_let2 ?_ (fun _ _ _ => ?_)
    | (with_reducible refine gj_Fr.up ?_ ?_; rotate_left; · first | decide +kernel | rfl | simp)
    | (with_reducible refine gj_Fr.put ?_ ?_; rotate_left; · first | decide +kernel | rfl | simp)
    | (with_reducible refine gj_Fr.fill ?_ ?_; rotate_left; · first | decide +kernel | rfl | simp)
    | (with_reducible refine gj_Fr.copy ?_ ?_; rotate_left; · first | decide +kernel | rfl | simp)

set_option maxHeartbeats 600000 in
theorem fr_X1_copyOf_65_29 {M : gj_M} : gj_Fr [66] [(65, 1), (65, 2)] M (f_X1_copyOf_65_29 M) := by
  unfold f_X1_copyOf_65_29
  have hM : gj_Fr [66] [(65, 1), (65, 2)] M M := gj_Fr.rf
  repeat' first
    | with_reducible assumption
    | with_reducible exact gj_Fr.rf
    | with_reducible refine ft_ite ?_ ?_
    | with_reducible refine ft_let ?_ (fun _ _ => ?_)
    | with_reducible refine ft_letI (fun _ => ?_)
    | with_reducible refine ft_let2 ?_ (fun _ _ _ => ?_)
    | with_reducible refine fu_ite ?_ ?_
    | with_reducible refine fu_let ?_ (fun _ _ => ?_)
    | with_reducible refine fu_letI (fun _ => ?_)
    | with_reducible refine fu_let2 ?_ (fun _ _ _ => ?_)
    | (with_reducible refine gj_Fr.up ?_ ?_; rotate_left; · first | decide +kernel | rfl | simp)
    | (with_reducible refine gj_Fr.put ?_ ?_; rotate_left; · first | decide +kernel | rfl | simp)
    | (with_reducible refine gj_Fr.fill ?_ ?_; rotate_left; · first | decide +kernel | rfl | simp)
    | (with_reducible refine gj_Fr.copy ?_ ?_; rotate_left; · first | decide +kernel | rfl | simp)

set_option maxHeartbeats 600000 in
theorem fr_X1_copyOf_75_29 {M : gj_M} : gj_Fr [76] [(75, 1), (75, 2)] M (f_X1_copyOf_75_29 M) := by
  unfold f_X1_copyOf_75_29
  have hM : gj_Fr [76] [(75, 1), (75, 2)] M M := gj_Fr.rf
  repeat' first
    | with_reducible assumption
    | with_reducible exact gj_Fr.rf
    | with_reducible refine ft_ite ?_ ?_
    | with_reducible refine ft_let ?_ (fun _ _ => ?_)
    | with_reducible refine ft_letI (fun _ => ?_)
    | with_reducible refine ft_let2 ?_ (fun _ _ _ => ?_)
    | with_reducible refine fu_ite ?_ ?_
    | with_reducible refine fu_let ?_ (fun _ _ => ?_)
    | with_reducible refine fu_letI (fun _ => ?_)
    | with_reducible refine fu_let2 ?_ (fun _ _ _ => ?_)
    | (with_reducible refine gj_Fr.up ?_ ?_; rotate_left; · first | decide +kernel | rfl | simp)
    | (with_reducible refine gj_Fr.put ?_ ?_; rotate_left; · first | decide +kernel | rfl | simp)
    | (with_reducible refine gj_Fr.fill ?_ ?_; rotate_left; · first | decide +kernel | rfl | simp)
    | (with_reducible refine gj_Fr.copy ?_ ?_; rotate_left; · first | decide +kernel | rfl | simp)

set_option maxHeartbeats 600000 in
theorem fr_X1_copyOf_29_55 {M : gj_M} : gj_Fr [30] [(29, 1), (29, 2)] M (f_X1_copyOf_29_55 M) := by
  unfold f_X1_copyOf_29_55
  have hM : gj_Fr [30] [(29, 1), (29, 2)] M M := gj_Fr.rf
  repeat' first
    | with_reducible assumption
    | with_reducible exact gj_Fr.rf
    | with_reducible refine ft_ite ?_ ?_
    | with_reducible refine ft_let ?_ (fun _ _ => ?_)
    | with_reducible refine ft_letI (fun _ => ?_)
    | with_reducible refine ft_let2 ?_ (fun _ _ _ => ?_)
    | with_reducible refine fu_ite ?_ ?_
    | with_reducible refine fu_let ?_ (fun _ _ => ?_)
    | with_reducible refine fu_letI (fun _ => ?_)
    | with_reducible refine fu_let2 ?_ (fun _ _ _ => ?_)
    | (with_reducible refine gj_Fr.up ?_ ?_; rotate_left; · first | decide +kernel | rfl | simp)
    | (with_reducible refine gj_Fr.put ?_ ?_; rotate_left; · first | decide +kernel | rfl | simp)
    | (with_reducible refine gj_Fr.fill ?_ ?_; rotate_left; · first | decide +kernel | rfl | simp)
    | (with_reducible refine gj_Fr.copy ?_ ?_; rotate_left; · first | decide +kernel | rfl | simp)

set_option maxHeartbeats 600000 in
theorem fr_X1_copyOf_29_65 {M : gj_M} : gj_Fr [30] [(29, 1), (29, 2)] M (f_X1_copyOf_29_65 M) := by
  unfold f_X1_copyOf_29_65
  have hM : gj_Fr [30] [(29, 1), (29, 2)] M M := gj_Fr.rf
  repeat' first
    | with_reducible assumption
    | with_reducible exact gj_Fr.rf
    | with_reducible refine ft_ite ?_ ?_
    | with_reducible refine ft_let ?_ (fun _ _ => ?_)
    | with_reducible refine ft_letI (fun _ => ?_)
    | with_reducible refine ft_let2 ?_ (fun _ _ _ => ?_)
    | with_reducible refine fu_ite ?_ ?_
    | with_reducible refine fu_let ?_ (fun _ _ => ?_)
    | with_reducible refine fu_letI (fun _ => ?_)
    | with_reducible refine fu_let2 ?_ (fun _ _ _ => ?_)
    | (with_reducible refine gj_Fr.up ?_ ?_; rotate_left; · first | decide +kernel | rfl | simp)
    | (with_reducible refine gj_Fr.put ?_ ?_; rotate_left; · first | decide +kernel | rfl | simp)
    | (with_reducible refine gj_Fr.fill ?_ ?_; rotate_left; · first | decide +kernel | rfl | simp)
    | (with_reducible refine gj_Fr.copy ?_ ?_; rotate_left; · first | decide +kernel | rfl | simp)

set_option maxHeartbeats 600000 in
theorem fr_X1_copyOf_29_75 {M : gj_M} : gj_Fr [30] [(29, 1), (29, 2)] M (f_X1_copyOf_29_75 M) := by
  unfold f_X1_copyOf_29_75
  have hM : gj_Fr [30] [(29, 1), (29, 2)] M M := gj_Fr.rf
  repeat' first
    | with_reducible assumption
    | with_reducible exact gj_Fr.rf
    | with_reducible refine ft_ite ?_ ?_
    | with_reducible refine ft_let ?_ (fun _ _ => ?_)
    | with_reducible refine ft_letI (fun _ => ?_)
    | with_reducible refine ft_let2 ?_ (fun _ _ _ => ?_)
    | with_reducible refine fu_ite ?_ ?_
    | with_reducible refine fu_let ?_ (fun _ _ => ?_)
    | with_reducible refine fu_letI (fun _ => ?_)
    | with_reducible refine fu_let2 ?_ (fun _ _ _ => ?_)
    | (with_reducible refine gj_Fr.up ?_ ?_; rotate_left; · first | decide +kernel | rfl | simp)
    | (with_reducible refine gj_Fr.put ?_ ?_; rotate_left; · first | decide +kernel | rfl | simp)
    | (with_reducible refine gj_Fr.fill ?_ ?_; rotate_left; · first | decide +kernel | rfl | simp)
    | (with_reducible refine gj_Fr.copy ?_ ?_; rotate_left; · first | decide +kernel | rfl | simp)

set_option maxHeartbeats 600000 in
theorem fr_X3_copyOf_47_21 {M : gj_M} : gj_Fr [48, 49, 50, 51, 52, 53, 54, 56] [(47, 0), (47, 1), (47, 2), (55, 1), (55, 2)] M (f_X3_copyOf_47_21 M) := by
  unfold f_X3_copyOf_47_21
  have hM : gj_Fr [48, 49, 50, 51, 52, 53, 54, 56] [(47, 0), (47, 1), (47, 2), (55, 1), (55, 2)] M M := gj_Fr.rf
  repeat' first
    | with_reducible assumption
    | with_reducible exact gj_Fr.rf
    | with_reducible refine ft_ite ?_ ?_
    | with_reducible refine ft_let ?_ (fun _ _ => ?_)
    | with_reducible refine ft_letI (fun _ => ?_)
    | with_reducible refine ft_let2 ?_ (fun _ _ _ => ?_)
    | with_reducible refine fu_ite ?_ ?_
    | with_reducible refine fu_let ?_ (fun _ _ => ?_)
    | with_reducible refine fu_letI (fun _ => ?_)
    | with_reducible refine fu_let2 ?_ (fun _ _ _ => ?_)
    | (with_reducible refine gj_Fr.up ?_ ?_; rotate_left; · first | decide +kernel | rfl | simp)
    | (with_reducible refine gj_Fr.put ?_ ?_; rotate_left; · first | decide +kernel | rfl | simp)
    | (with_reducible refine gj_Fr.fill ?_ ?_; rotate_left; · first | decide +kernel | rfl | simp)
    | (with_reducible refine gj_Fr.copy ?_ ?_; rotate_left; · first | decide +kernel | rfl | simp)
    | (with_reducible refine gj_Fr.trans ?_ (gj_Fr.wide (fr_X1_copyOf_55_29) ?_); rotate_left; · first | decide +kernel | simp [gj_fsub])

set_option maxHeartbeats 600000 in
theorem fr_X3_copyOf_57_21 {M : gj_M} : gj_Fr [58, 59, 60, 61, 62, 63, 64, 66] [(57, 0), (57, 1), (57, 2), (65, 1), (65, 2)] M (f_X3_copyOf_57_21 M) := by
  unfold f_X3_copyOf_57_21
  have hM : gj_Fr [58, 59, 60, 61, 62, 63, 64, 66] [(57, 0), (57, 1), (57, 2), (65, 1), (65, 2)] M M := gj_Fr.rf
  repeat' first
    | with_reducible assumption
    | with_reducible exact gj_Fr.rf
    | with_reducible refine ft_ite ?_ ?_
    | with_reducible refine ft_let ?_ (fun _ _ => ?_)
    | with_reducible refine ft_letI (fun _ => ?_)
    | with_reducible refine ft_let2 ?_ (fun _ _ _ => ?_)
    | with_reducible refine fu_ite ?_ ?_
    | with_reducible refine fu_let ?_ (fun _ _ => ?_)
    | with_reducible refine fu_letI (fun _ => ?_)
    | with_reducible refine fu_let2 ?_ (fun _ _ _ => ?_)
    | (with_reducible refine gj_Fr.up ?_ ?_; rotate_left; · first | decide +kernel | rfl | simp)
    | (with_reducible refine gj_Fr.put ?_ ?_; rotate_left; · first | decide +kernel | rfl | simp)
    | (with_reducible refine gj_Fr.fill ?_ ?_; rotate_left; · first | decide +kernel | rfl | simp)
    | (with_reducible refine gj_Fr.copy ?_ ?_; rotate_left; · first | decide +kernel | rfl | simp)
    | (with_reducible refine gj_Fr.trans ?_ (gj_Fr.wide (fr_X1_copyOf_65_29) ?_); rotate_left; · first | decide +kernel | simp [gj_fsub])

set_option maxHeartbeats 600000 in
theorem fr_X3_copyOf_67_21 {M : gj_M} : gj_Fr [68, 69, 70, 71, 72, 73, 74, 76] [(67, 0), (67, 1), (67, 2), (75, 1), (75, 2)] M (f_X3_copyOf_67_21 M) := by
  unfold f_X3_copyOf_67_21
  have hM : gj_Fr [68, 69, 70, 71, 72, 73, 74, 76] [(67, 0), (67, 1), (67, 2), (75, 1), (75, 2)] M M := gj_Fr.rf
  repeat' first
    | with_reducible assumption
    | with_reducible exact gj_Fr.rf
    | with_reducible refine ft_ite ?_ ?_
    | with_reducible refine ft_let ?_ (fun _ _ => ?_)
    | with_reducible refine ft_letI (fun _ => ?_)
    | with_reducible refine ft_let2 ?_ (fun _ _ _ => ?_)
    | with_reducible refine fu_ite ?_ ?_
    | with_reducible refine fu_let ?_ (fun _ _ => ?_)
    | with_reducible refine fu_letI (fun _ => ?_)
    | with_reducible refine fu_let2 ?_ (fun _ _ _ => ?_)
    | (with_reducible refine gj_Fr.up ?_ ?_; rotate_left; · first | decide +kernel | rfl | simp)
    | (with_reducible refine gj_Fr.put ?_ ?_; rotate_left; · first | decide +kernel | rfl | simp)
    | (with_reducible refine gj_Fr.fill ?_ ?_; rotate_left; · first | decide +kernel | rfl | simp)
    | (with_reducible refine gj_Fr.copy ?_ ?_; rotate_left; · first | decide +kernel | rfl | simp)
    | (with_reducible refine gj_Fr.trans ?_ (gj_Fr.wide (fr_X1_copyOf_75_29) ?_); rotate_left; · first | decide +kernel | simp [gj_fsub])

set_option maxHeartbeats 600000 in
theorem fr_X3_copyOf_21_47 {M : gj_M} : gj_Fr [22, 23, 24, 25, 26, 27, 28, 30] [(21, 0), (21, 1), (21, 2), (29, 1), (29, 2)] M (f_X3_copyOf_21_47 M) := by
  unfold f_X3_copyOf_21_47
  have hM : gj_Fr [22, 23, 24, 25, 26, 27, 28, 30] [(21, 0), (21, 1), (21, 2), (29, 1), (29, 2)] M M := gj_Fr.rf
  repeat' first
    | with_reducible assumption
    | with_reducible exact gj_Fr.rf
    | with_reducible refine ft_ite ?_ ?_
    | with_reducible refine ft_let ?_ (fun _ _ => ?_)
    | with_reducible refine ft_letI (fun _ => ?_)
    | with_reducible refine ft_let2 ?_ (fun _ _ _ => ?_)
    | with_reducible refine fu_ite ?_ ?_
    | with_reducible refine fu_let ?_ (fun _ _ => ?_)
    | with_reducible refine fu_letI (fun _ => ?_)
    | with_reducible refine fu_let2 ?_ (fun _ _ _ => ?_)
    | (with_reducible refine gj_Fr.up ?_ ?_; rotate_left; · first | decide +kernel | rfl | simp)
    | (with_reducible refine gj_Fr.put ?_ ?_; rotate_left; · first | decide +kernel | rfl | simp)
    | (with_reducible refine gj_Fr.fill ?_ ?_; rotate_left; · first | decide +kernel | rfl | simp)
    | (with_reducible refine gj_Fr.copy ?_ ?_; rotate_left; · first | decide +kernel | rfl | simp)
    | (with_reducible refine gj_Fr.trans ?_ (gj_Fr.wide (fr_X1_copyOf_29_55) ?_); rotate_left; · first | decide +kernel | simp [gj_fsub])

set_option maxHeartbeats 600000 in
theorem fr_X3_copyOf_21_57 {M : gj_M} : gj_Fr [22, 23, 24, 25, 26, 27, 28, 30] [(21, 0), (21, 1), (21, 2), (29, 1), (29, 2)] M (f_X3_copyOf_21_57 M) := by
  unfold f_X3_copyOf_21_57
  have hM : gj_Fr [22, 23, 24, 25, 26, 27, 28, 30] [(21, 0), (21, 1), (21, 2), (29, 1), (29, 2)] M M := gj_Fr.rf
  repeat' first
    | with_reducible assumption
    | with_reducible exact gj_Fr.rf
    | with_reducible refine ft_ite ?_ ?_
    | with_reducible refine ft_let ?_ (fun _ _ => ?_)
    | with_reducible refine ft_letI (fun _ => ?_)
    | with_reducible refine ft_let2 ?_ (fun _ _ _ => ?_)
    | with_reducible refine fu_ite ?_ ?_
    | with_reducible refine fu_let ?_ (fun _ _ => ?_)
    | with_reducible refine fu_letI (fun _ => ?_)
    | with_reducible refine fu_let2 ?_ (fun _ _ _ => ?_)
    | (with_reducible refine gj_Fr.up ?_ ?_; rotate_left; · first | decide +kernel | rfl | simp)
    | (with_reducible refine gj_Fr.put ?_ ?_; rotate_left; · first | decide +kernel | rfl | simp)
    | (with_reducible refine gj_Fr.fill ?_ ?_; rotate_left; · first | decide +kernel | rfl | simp)
    | (with_reducible refine gj_Fr.copy ?_ ?_; rotate_left; · first | decide +kernel | rfl | simp)
    | (with_reducible refine gj_Fr.trans ?_ (gj_Fr.wide (fr_X1_copyOf_29_65) ?_); rotate_left; · first | decide +kernel | simp [gj_fsub])

set_option maxHeartbeats 600000 in
theorem fr_X3_copyOf_21_67 {M : gj_M} : gj_Fr [22, 23, 24, 25, 26, 27, 28, 30] [(21, 0), (21, 1), (21, 2), (29, 1), (29, 2)] M (f_X3_copyOf_21_67 M) := by
  unfold f_X3_copyOf_21_67
  have hM : gj_Fr [22, 23, 24, 25, 26, 27, 28, 30] [(21, 0), (21, 1), (21, 2), (29, 1), (29, 2)] M M := gj_Fr.rf
  repeat' first
    | with_reducible assumption
    | with_reducible exact gj_Fr.rf
    | with_reducible refine ft_ite ?_ ?_
    | with_reducible refine ft_let ?_ (fun _ _ => ?_)
    | with_reducible refine ft_letI (fun _ => ?_)
    | with_reducible refine ft_let2 ?_ (fun _ _ _ => ?_)
    | with_reducible refine fu_ite ?_ ?_
    | with_reducible refine fu_let ?_ (fun _ _ => ?_)
    | with_reducible refine fu_letI (fun _ => ?_)
    | with_reducible refine fu_let2 ?_ (fun _ _ _ => ?_)
    | (with_reducible refine gj_Fr.up ?_ ?_; rotate_left; · first | decide +kernel | rfl | simp)
    | (with_reducible refine gj_Fr.put ?_ ?_; rotate_left; · first | decide +kernel | rfl | simp)
    | (with_reducible refine gj_Fr.fill ?_ ?_; rotate_left; · first | decide +kernel | rfl | simp)
    | (with_reducible refine gj_Fr.copy ?_ ?_; rotate_left; · first | decide +kernel | rfl | simp)
    | (with_reducible refine gj_Fr.trans ?_ (gj_Fr.wide (fr_X1_copyOf_29_75) ?_); rotate_left; · first | decide +kernel | simp [gj_fsub])

set_option maxHeartbeats 600000 in
theorem fr_X11_image (a1 : Int) {M : gj_M} : gj_FO Prod.snd [48, 49, 50, 51, 52, 53, 54, 56, 58, 59, 60, 61, 62, 63, 64, 66, 68, 69, 70, 71, 72, 73, 74, 76, 77, 78] [(47, 0), (47, 1), (47, 2), (55, 1), (55, 2), (57, 0), (57, 1), (57, 2), (65, 1), (65, 2), (67, 0), (67, 1), (67, 2), (75, 1), (75, 2)] M (F_X11_image a1 M) := by
  unfold F_X11_image
  have hM : gj_Fr [48, 49, 50, 51, 52, 53, 54, 56, 58, 59, 60, 61, 62, 63, 64, 66, 68, 69, 70, 71, 72, 73, 74, 76, 77, 78] [(47, 0), (47, 1), (47, 2), (55, 1), (55, 2), (57, 0), (57, 1), (57, 2), (65, 1), (65, 2), (67, 0), (67, 1), (67, 2), (75, 1), (75, 2)] M M := gj_Fr.rf
  repeat' first
    | with_reducible assumption
    | with_reducible exact gj_Fr.rf
    | with_reducible exact fo_none
    | with_reducible refine fo_some ?_
    | with_reducible refine fo_ite ?_ ?_
    | with_reducible refine fo_chk ?_
    | with_reducible refine fo_let ?_ (fun _ _ => ?_)
    | with_reducible refine fo_letI (fun _ => ?_)
    | with_reducible refine fo_let2 ?_ (fun _ _ _ => ?_)
    | with_reducible refine fo_bndM (fun _ _ => ?_) (fun _ _ => ?_)
    | with_reducible refine fo_bnd (fun _ => ?_)
    | with_reducible refine fo_bnd2 (fun _ _ _ => ?_) (fun _ _ _ => ?_)
    | (with_reducible refine gj_Fr.up ?_ ?_; rotate_left; · first | decide +kernel | rfl | simp)
    | (with_reducible refine gj_Fr.put ?_ ?_; rotate_left; · first | decide +kernel | rfl | simp)
    | (with_reducible refine gj_Fr.fill ?_ ?_; rotate_left; · first | decide +kernel | rfl | simp)
    | (with_reducible refine gj_Fr.copy ?_ ?_; rotate_left; · first | decide +kernel | rfl | simp)
    | (with_reducible refine gj_Fr.trans ?_ (gj_Fr.wide (fr_X3_copyOf_67_21) ?_); rotate_left; · first | decide +kernel | simp [gj_fsub])
    | (with_reducible refine gj_Fr.trans ?_ (gj_Fr.wide (fr_X3_copyOf_47_21) ?_); rotate_left; · first | decide +kernel | simp [gj_fsub])
    | (with_reducible refine gj_Fr.trans ?_ (gj_Fr.wide (fr_X3_copyOf_57_21) ?_); rotate_left; · first | decide +kernel | simp [gj_fsub])
    | (with_reducible refine gj_Fr.trans ?_ (gj_Fr.wide (fr_X11_refuse _) ?_); rotate_left; · first | decide +kernel | simp [gj_fsub])

set_option maxHeartbeats 600000 in
theorem fr_X11_on (a1 : Int) {M : gj_M} : gj_FO Prod.snd [22, 23, 24, 25, 26, 27, 28, 30, 78] [(21, 0), (21, 1), (21, 2), (29, 1), (29, 2)] M (F_X11_on a1 M) := by
  unfold F_X11_on
  refine fo_bnd (fun x => ?_)
  exact fo_ite (fo_let2 ((fr_X11_refuse _).wide (by decide +kernel)) (fun _ _ h => fo_some h)) (fo_ite (fo_ite (fo_let2 ((fr_X11_refuse _).wide (by decide +kernel)) (fun _ _ h => fo_some h)) (fo_let ((fr_X3_copyOf_21_47).wide (by decide +kernel)) (fun _ h => fo_some h))) (fo_ite (fo_ite (fo_let2 ((fr_X11_refuse _).wide (by decide +kernel)) (fun _ _ h => fo_some h)) (fo_let ((fr_X3_copyOf_21_57).wide (by decide +kernel)) (fun _ h => fo_some h))) (fo_ite (fo_ite (fo_let2 ((fr_X11_refuse _).wide (by decide +kernel)) (fun _ _ h => fo_some h)) (fo_let ((fr_X3_copyOf_21_67).wide (by decide +kernel)) (fun _ h => fo_some h))) fo_none)))
end GJFC2
