section GJFR2
set_option maxHeartbeats 600000 in
theorem fr_X12_refuse (a1 : Int) {M : gj_M} : gj_FO Prod.snd [80] [] M (F_X12_refuse a1 M) := by
  unfold F_X12_refuse
  have hM : gj_Fr [80] [] M M := gj_Fr.rf
  repeat' first
    | with_reducible assumption
    | with_reducible exact gj_Fr.rf
    | with_reducible exact fo_none
    | with_reducible refine fo_some ?_
    | with_reducible refine fo_ite ?_ ?_
    | with_reducible refine fo_chk ?_
    | with_reducible refine fo_let ?_ (fun _ _ => ?_)
    | with_reducible refine fo_letI (fun _ => ?_)
    | with_reducible refine fo_let2 ?_ (fun _ _ _ => ?_)
    | with_reducible refine fo_bndM (fun _ _ => ?_) (fun _ _ => ?_)
    | with_reducible refine fo_bnd (fun _ => ?_)
    | with_reducible refine fo_bnd2 (fun _ _ _ => ?_) (fun _ _ _ => ?_)
    | (with_reducible refine gj_Fr.up ?_ ?_; rotate_left; · first | decide +kernel | rfl | simp)
    | (with_reducible refine gj_Fr.put ?_ ?_; rotate_left; · first | decide +kernel | rfl | simp)
    | (with_reducible refine gj_Fr.fill ?_ ?_; rotate_left; · first | decide +kernel | rfl | simp)
    | (with_reducible refine gj_Fr.copy ?_ ?_; rotate_left; · first | decide +kernel | rfl | simp)

set_option maxHeartbeats 600000 in
theorem fr_X12_deny (a1 : Int) {M : gj_M} : gj_FO Prod.snd [80] [] M (F_X12_deny a1 M) := by
  unfold F_X12_deny
  have hM : gj_Fr [80] [] M M := gj_Fr.rf
  repeat' first
    | with_reducible assumption
    | with_reducible exact gj_Fr.rf
    | with_reducible exact fo_none
    | with_reducible refine fo_some ?_
    | with_reducible refine fo_ite ?_ ?_
    | with_reducible refine fo_chk ?_
    | with_reducible refine fo_let ?_ (fun _ _ => ?_)
    | with_reducible refine fo_letI (fun _ => ?_)
    | with_reducible refine fo_let2 ?_ (fun _ _ _ => ?_)
    | with_reducible refine fo_bndM (fun _ _ => ?_) (fun _ _ => ?_)
    | with_reducible refine fo_bnd (fun _ => ?_)
    | with_reducible refine fo_bnd2 (fun _ _ _ => ?_) (fun _ _ _ => ?_)
    | (with_reducible refine gj_Fr.up ?_ ?_; rotate_left; · first | decide +kernel | rfl | simp)
    | (with_reducible refine gj_Fr.put ?_ ?_; rotate_left; · first | decide +kernel | rfl | simp)
    | (with_reducible refine gj_Fr.fill ?_ ?_; rotate_left; · first | decide +kernel | rfl | simp)
    | (with_reducible refine gj_Fr.copy ?_ ?_; rotate_left; · first | decide +kernel | rfl | simp)

set_option maxHeartbeats 600000 in
theorem fr_B_X12_feeds_2 {rec2 : Int → Int → gj_M → Option (gj_M)} (hrec2 : ∀ (l1 l2 : Int) (M : gj_M), gj_FO (fun m => m) [81] [(79, 2)] M (rec2 l1 l2 M)) (l1 l2 : Int) (M : gj_M) : gj_FO (fun m => m) [81] [(79, 2)] M (B_X12_feeds_2 rec2 l1 l2 M) := by
  unfold B_X12_feeds_2
  have hM : gj_Fr [81] [(79, 2)] M M := gj_Fr.rf
  repeat' first
    | with_reducible assumption
    | with_reducible exact gj_Fr.rf
    | with_reducible exact fo_none
    | with_reducible refine fo_some ?_
    | with_reducible refine fo_ite ?_ ?_
    | with_reducible refine fo_chk ?_
    | with_reducible refine fo_let ?_ (fun _ _ => ?_)
    | with_reducible refine fo_letI (fun _ => ?_)
    | with_reducible refine fo_let2 ?_ (fun _ _ _ => ?_)
    | with_reducible refine fo_bndM (fun _ _ => ?_) (fun _ _ => ?_)
    | with_reducible refine fo_bnd (fun _ => ?_)
    | with_reducible refine fo_bnd2 (fun _ _ _ => ?_) (fun _ _ _ => ?_)
    | (with_reducible refine gj_Fr.up ?_ ?_; rotate_left; · first | decide +kernel | rfl | simp)
    | (with_reducible refine gj_Fr.put ?_ ?_; rotate_left; · first | decide +kernel | rfl | simp)
    | (with_reducible refine gj_Fr.fill ?_ ?_; rotate_left; · first | decide +kernel | rfl | simp)
    | (with_reducible refine gj_Fr.copy ?_ ?_; rotate_left; · first | decide +kernel | rfl | simp)
    | with_reducible exact fo_tr (by with_reducible assumption) (hrec2 _ _ _)

theorem frL_X12_feeds_2 : ∀ (m : Nat) (l1 l2 : Int) (M : gj_M), gj_FO (fun m => m) [81] [(79, 2)] M (gj_it (fun _ _ _ => none) (B_X12_feeds_2) m l1 l2 M)
  | 0, l1, l2, M => fun r e => by cases (show (none : Option (gj_M)) = some r from e)
  | m + 1, l1, l2, M => fr_B_X12_feeds_2 (fun l1 l2 M => frL_X12_feeds_2 m l1 l2 M) l1 l2 M
set_option maxHeartbeats 600000 in
theorem fr_X12_feeds (a1 : Int) {M : gj_M} : gj_FO (fun m => m) [81] [(79, 2)] M (F_X12_feeds a1 M) := by
  unfold F_X12_feeds
  have hM : gj_Fr [81] [(79, 2)] M M := gj_Fr.rf
  repeat' first
    | with_reducible assumption
    | with_reducible exact gj_Fr.rf
    | with_reducible exact fo_none
    | with_reducible refine fo_some ?_
    | with_reducible refine fo_ite ?_ ?_
    | with_reducible refine fo_chk ?_
    | with_reducible refine fo_let ?_ (fun _ _ => ?_)
    | with_reducible refine fo_letI (fun _ => ?_)
    | with_reducible refine fo_let2 ?_ (fun _ _ _ => ?_)
    | with_reducible refine fo_bndM (fun _ _ => ?_) (fun _ _ => ?_)
    | with_reducible refine fo_bnd (fun _ => ?_)
    | with_reducible refine fo_bnd2 (fun _ _ _ => ?_) (fun _ _ _ => ?_)
    | (with_reducible refine gj_Fr.up ?_ ?_; rotate_left; · first | decide +kernel | rfl | simp)
    | (with_reducible refine gj_Fr.put ?_ ?_; rotate_left; · first | decide +kernel | rfl | simp)
    | (with_reducible refine gj_Fr.fill ?_ ?_; rotate_left; · first | decide +kernel | rfl | simp)
    | (with_reducible refine gj_Fr.copy ?_ ?_; rotate_left; · first | decide +kernel | rfl | simp)
    | with_reducible exact fo_tr (by with_reducible assumption) (frL_X12_feeds_2 _ _ _ _)

set_option maxHeartbeats 600000 in
theorem fr_X12_feed (a1 : Int) (a2 : Int) (a3 : Int) (a4 : Int) (a5 : Int) {M : gj_M} : gj_FO Prod.snd [80, 81] [(79, 2)] M (F_X12_feed a1 a2 a3 a4 a5 M) := by
  unfold F_X12_feed
  have hM : gj_Fr [80, 81] [(79, 2)] M M := gj_Fr.rf
  repeat' first
    | with_reducible assumption
    | with_reducible exact gj_Fr.rf
    | with_reducible exact fo_none
    | with_reducible refine fo_some ?_
    | with_reducible refine fo_ite ?_ ?_
    | with_reducible refine fo_chk ?_
    | with_reducible refine fo_let ?_ (fun _ _ => ?_)
    | with_reducible refine fo_letI (fun _ => ?_)
    | with_reducible refine fo_let2 ?_ (fun _ _ _ => ?_)
    | with_reducible refine fo_bndM (fun _ _ => ?_) (fun _ _ => ?_)
    | with_reducible refine fo_bnd (fun _ => ?_)
    | with_reducible refine fo_bnd2 (fun _ _ _ => ?_) (fun _ _ _ => ?_)
    | (with_reducible refine gj_Fr.up ?_ ?_; rotate_left; · first | decide +kernel | rfl | simp)
    | (with_reducible refine gj_Fr.put ?_ ?_; rotate_left; · first | decide +kernel | rfl | simp)
    | (with_reducible refine gj_Fr.fill ?_ ?_; rotate_left; · first | decide +kernel | rfl | simp)
    | (with_reducible refine gj_Fr.copy ?_ ?_; rotate_left; · first | decide +kernel | rfl | simp)
    | (with_reducible refine gj_Fr.trans ?_ (gj_Fr.wide (gj_FOu (fr_X12_feeds _) (by with_reducible assumption)) ?_); rotate_left; · first | decide +kernel | simp [gj_fsub])
    | (with_reducible refine gj_Fr.trans ?_ (gj_Fr.wide (gj_FOu (fr_X12_refuse _) (by with_reducible assumption)) ?_); rotate_left; · first | decide +kernel | simp [gj_fsub])

set_option maxHeartbeats 600000 in
theorem fr_X12_end (a1 : Int) {M : gj_M} : gj_FO Prod.snd [80] [(79, 2)] M (F_X12_end a1 M) := by
  unfold F_X12_end
  have hM : gj_Fr [80] [(79, 2)] M M := gj_Fr.rf
  repeat' first
    | with_reducible assumption
    | with_reducible exact gj_Fr.rf
    | with_reducible exact fo_none
    | with_reducible refine fo_some ?_
    | with_reducible refine fo_ite ?_ ?_
    | with_reducible refine fo_chk ?_
    | with_reducible refine fo_let ?_ (fun _ _ => ?_)
    | with_reducible refine fo_letI (fun _ => ?_)
    | with_reducible refine fo_let2 ?_ (fun _ _ _ => ?_)
    | with_reducible refine fo_bndM (fun _ _ => ?_) (fun _ _ => ?_)
    | with_reducible refine fo_bnd (fun _ => ?_)
    | with_reducible refine fo_bnd2 (fun _ _ _ => ?_) (fun _ _ _ => ?_)
    | (with_reducible refine gj_Fr.up ?_ ?_; rotate_left; · first | decide +kernel | rfl | simp)
    | (with_reducible refine gj_Fr.put ?_ ?_; rotate_left; · first | decide +kernel | rfl | simp)
    | (with_reducible refine gj_Fr.fill ?_ ?_; rotate_left; · first | decide +kernel | rfl | simp)
    | (with_reducible refine gj_Fr.copy ?_ ?_; rotate_left; · first | decide +kernel | rfl | simp)
    | (with_reducible refine gj_Fr.trans ?_ (gj_Fr.wide (gj_FOu (fr_X12_deny _) (by with_reducible assumption)) ?_); rotate_left; · first | decide +kernel | simp [gj_fsub])

set_option maxHeartbeats 600000 in
theorem fr_B_X12_next_126 {rec126 : gj_M → Option (gj_M)} (hrec126 : ∀ (M : gj_M), gj_FO (fun m => m) [] [(79, 3), (79, 4)] M (rec126 M)) (M : gj_M) : gj_FO (fun m => m) [] [(79, 3), (79, 4)] M (B_X12_next_126 rec126 M) := by
  unfold B_X12_next_126
  have hM : gj_Fr [] [(79, 3), (79, 4)] M M := gj_Fr.rf
  repeat' first
    | with_reducible assumption
    | with_reducible exact gj_Fr.rf
    | with_reducible exact fo_none
    | with_reducible refine fo_some ?_
    | with_reducible refine fo_ite ?_ ?_
    | with_reducible refine fo_chk ?_
    | with_reducible refine fo_let ?_ (fun _ _ => ?_)
    | with_reducible refine fo_letI (fun _ => ?_)
    | with_reducible refine fo_let2 ?_ (fun _ _ _ => ?_)
    | with_reducible refine fo_bndM (fun _ _ => ?_) (fun _ _ => ?_)
    | with_reducible refine fo_bnd (fun _ => ?_)
    | with_reducible refine fo_bnd2 (fun _ _ _ => ?_) (fun _ _ _ => ?_)
    | (with_reducible refine gj_Fr.up ?_ ?_; rotate_left; · first | decide +kernel | rfl | simp)
    | (with_reducible refine gj_Fr.put ?_ ?_; rotate_left; · first | decide +kernel | rfl | simp)
    | (with_reducible refine gj_Fr.fill ?_ ?_; rotate_left; · first | decide +kernel | rfl | simp)
    | (with_reducible refine gj_Fr.copy ?_ ?_; rotate_left; · first | decide +kernel | rfl | simp)
    | with_reducible exact fo_tr (by with_reducible assumption) (hrec126 _)

theorem frL_X12_next_126 : ∀ (m : Nat) (M : gj_M), gj_FO (fun m => m) [] [(79, 3), (79, 4)] M (gj_it (fun _ => none) (B_X12_next_126) m M)
  | 0, M => fun r e => by cases (show (none : Option (gj_M)) = some r from e)
  | m + 1, M => fr_B_X12_next_126 (fun M => frL_X12_next_126 m M) M
set_option maxHeartbeats 600000 in
theorem fr_B_X12_next_83 {rec83 : gj_M → Option (gj_M)} (hrec83 : ∀ (M : gj_M), gj_FO (fun m => m) [] [(79, 3), (79, 4)] M (rec83 M)) (M : gj_M) : gj_FO (fun m => m) [] [(79, 3), (79, 4)] M (B_X12_next_83 rec83 M) := by
  unfold B_X12_next_83
  have hM : gj_Fr [] [(79, 3), (79, 4)] M M := gj_Fr.rf
  repeat' first
    | with_reducible assumption
    | with_reducible exact gj_Fr.rf
    | with_reducible exact fo_none
    | with_reducible refine fo_some ?_
    | with_reducible refine fo_ite ?_ ?_
    | with_reducible refine fo_chk ?_
    | with_reducible refine fo_let ?_ (fun _ _ => ?_)
    | with_reducible refine fo_letI (fun _ => ?_)
    | with_reducible refine fo_let2 ?_ (fun _ _ _ => ?_)
    | with_reducible refine fo_bndM (fun _ _ => ?_) (fun _ _ => ?_)
    | with_reducible refine fo_bnd (fun _ => ?_)
    | with_reducible refine fo_bnd2 (fun _ _ _ => ?_) (fun _ _ _ => ?_)
    | (with_reducible refine gj_Fr.up ?_ ?_; rotate_left; · first | decide +kernel | rfl | simp)
    | (with_reducible refine gj_Fr.put ?_ ?_; rotate_left; · first | decide +kernel | rfl | simp)
    | (with_reducible refine gj_Fr.fill ?_ ?_; rotate_left; · first | decide +kernel | rfl | simp)
    | (with_reducible refine gj_Fr.copy ?_ ?_; rotate_left; · first | decide +kernel | rfl | simp)
    | with_reducible exact fo_tr (by with_reducible assumption) (hrec83 _)

theorem frL_X12_next_83 : ∀ (m : Nat) (M : gj_M), gj_FO (fun m => m) [] [(79, 3), (79, 4)] M (gj_it (fun _ => none) (B_X12_next_83) m M)
  | 0, M => fun r e => by cases (show (none : Option (gj_M)) = some r from e)
  | m + 1, M => fr_B_X12_next_83 (fun M => frL_X12_next_83 m M) M
set_option maxHeartbeats 600000 in
theorem fr_J_X12_next_60 (M : gj_M) : gj_FO (fun m => m) [] [(79, 3), (79, 4)] M (J_X12_next_60 M) := by
  unfold J_X12_next_60
  have hM : gj_Fr [] [(79, 3), (79, 4)] M M := gj_Fr.rf
  repeat' first
    | with_reducible assumption
    | with_reducible exact gj_Fr.rf
    | with_reducible exact fo_none
    | with_reducible refine fo_some ?_
    | with_reducible refine fo_ite ?_ ?_
    | with_reducible refine fo_chk ?_
    | with_reducible refine fo_let ?_ (fun _ _ => ?_)
    | with_reducible refine fo_letI (fun _ => ?_)
    | with_reducible refine fo_let2 ?_ (fun _ _ _ => ?_)
    | with_reducible refine fo_bndM (fun _ _ => ?_) (fun _ _ => ?_)
    | with_reducible refine fo_bnd (fun _ => ?_)
    | with_reducible refine fo_bnd2 (fun _ _ _ => ?_) (fun _ _ _ => ?_)
    | (with_reducible refine gj_Fr.up ?_ ?_; rotate_left; · first | decide +kernel | rfl | simp)
    | (with_reducible refine gj_Fr.put ?_ ?_; rotate_left; · first | decide +kernel | rfl | simp)
    | (with_reducible refine gj_Fr.fill ?_ ?_; rotate_left; · first | decide +kernel | rfl | simp)
    | (with_reducible refine gj_Fr.copy ?_ ?_; rotate_left; · first | decide +kernel | rfl | simp)
    | with_reducible exact fo_tr (by with_reducible assumption) (frL_X12_next_83 _ _)
    | with_reducible exact fo_tr (by with_reducible assumption) (frL_X12_next_126 _ _)

set_option maxHeartbeats 600000 in
theorem fr_B_X12_next_8 {rec8 : gj_M → Option (gj_M)} (hrec8 : ∀ (M : gj_M), gj_FO (fun m => m) [] [(79, 3), (79, 4)] M (rec8 M)) (M : gj_M) : gj_FO (fun m => m) [] [(79, 3), (79, 4)] M (B_X12_next_8 rec8 M) := by
  unfold B_X12_next_8
  have hM : gj_Fr [] [(79, 3), (79, 4)] M M := gj_Fr.rf
  repeat' first
    | with_reducible assumption
    | with_reducible exact gj_Fr.rf
    | with_reducible exact fo_none
    | with_reducible refine fo_some ?_
    | with_reducible refine fo_ite ?_ ?_
    | with_reducible refine fo_chk ?_
    | with_reducible refine fo_let ?_ (fun _ _ => ?_)
    | with_reducible refine fo_letI (fun _ => ?_)
    | with_reducible refine fo_let2 ?_ (fun _ _ _ => ?_)
    | with_reducible refine fo_bndM (fun _ _ => ?_) (fun _ _ => ?_)
    | with_reducible refine fo_bnd (fun _ => ?_)
    | with_reducible refine fo_bnd2 (fun _ _ _ => ?_) (fun _ _ _ => ?_)
    | (with_reducible refine gj_Fr.up ?_ ?_; rotate_left; · first | decide +kernel | rfl | simp)
    | (with_reducible refine gj_Fr.put ?_ ?_; rotate_left; · first | decide +kernel | rfl | simp)
    | (with_reducible refine gj_Fr.fill ?_ ?_; rotate_left; · first | decide +kernel | rfl | simp)
    | (with_reducible refine gj_Fr.copy ?_ ?_; rotate_left; · first | decide +kernel | rfl | simp)
    | with_reducible exact fo_tr (by with_reducible assumption) (fr_J_X12_next_60 _)
    | with_reducible exact fo_tr (by with_reducible assumption) (hrec8 _)

theorem frL_X12_next_8 : ∀ (m : Nat) (M : gj_M), gj_FO (fun m => m) [] [(79, 3), (79, 4)] M (gj_it (fun _ => none) (B_X12_next_8) m M)
  | 0, M => fun r e => by cases (show (none : Option (gj_M)) = some r from e)
  | m + 1, M => fr_B_X12_next_8 (fun M => frL_X12_next_8 m M) M
set_option maxHeartbeats 600000 in
theorem fr_X12_next {M : gj_M} : gj_FO (fun m => m) [] [(79, 3), (79, 4)] M (F_X12_next M) := by
  unfold F_X12_next
  have hM : gj_Fr [] [(79, 3), (79, 4)] M M := gj_Fr.rf
  repeat' first
    | with_reducible assumption
    | with_reducible exact gj_Fr.rf
    | with_reducible exact fo_none
    | with_reducible refine fo_some ?_
    | with_reducible refine fo_ite ?_ ?_
    | with_reducible refine fo_chk ?_
    | with_reducible refine fo_let ?_ (fun _ _ => ?_)
    | with_reducible refine fo_letI (fun _ => ?_)
    | with_reducible refine fo_let2 ?_ (fun _ _ _ => ?_)
    | with_reducible refine fo_bndM (fun _ _ => ?_) (fun _ _ => ?_)
    | with_reducible refine fo_bnd (fun _ => ?_)
    | with_reducible refine fo_bnd2 (fun _ _ _ => ?_) (fun _ _ _ => ?_)
    | (with_reducible refine gj_Fr.up ?_ ?_; rotate_left; · first | decide +kernel | rfl | simp)
    | (with_reducible refine gj_Fr.put ?_ ?_; rotate_left; · first | decide +kernel | rfl | simp)
    | (with_reducible refine gj_Fr.fill ?_ ?_; rotate_left; · first | decide +kernel | rfl | simp)
    | (with_reducible refine gj_Fr.copy ?_ ?_; rotate_left; · first | decide +kernel | rfl | simp)
    | with_reducible exact fo_tr (by with_reducible assumption) (frL_X12_next_8 _ _)

set_option maxHeartbeats 600000 in
theorem fr_X12_passes (a1 : Int) {M : gj_M} : gj_FO Prod.snd [] [(79, 3), (79, 4), (79, 5)] M (F_X12_passes a1 M) := by
  unfold F_X12_passes
  have hM : gj_Fr [] [(79, 3), (79, 4), (79, 5)] M M := gj_Fr.rf
  repeat' first
    | with_reducible assumption
    | with_reducible exact gj_Fr.rf
    | with_reducible exact fo_none
    | with_reducible refine fo_some ?_
    | with_reducible refine fo_ite ?_ ?_
    | with_reducible refine fo_chk ?_
    | with_reducible refine fo_let ?_ (fun _ _ => ?_)
    | with_reducible refine fo_letI (fun _ => ?_)
    | with_reducible refine fo_let2 ?_ (fun _ _ _ => ?_)
    | with_reducible refine fo_bndM (fun _ _ => ?_) (fun _ _ => ?_)
    | with_reducible refine fo_bnd (fun _ => ?_)
    | with_reducible refine fo_bnd2 (fun _ _ _ => ?_) (fun _ _ _ => ?_)
    | (with_reducible refine gj_Fr.up ?_ ?_; rotate_left; · first | decide +kernel | rfl | simp)
    | (with_reducible refine gj_Fr.put ?_ ?_; rotate_left; · first | decide +kernel | rfl | simp)
    | (with_reducible refine gj_Fr.fill ?_ ?_; rotate_left; · first | decide +kernel | rfl | simp)
    | (with_reducible refine gj_Fr.copy ?_ ?_; rotate_left; · first | decide +kernel | rfl | simp)
    | (with_reducible refine gj_Fr.trans ?_ (gj_Fr.wide (gj_FOu (fr_X12_next) (by with_reducible assumption)) ?_); rotate_left; · first | decide +kernel | simp [gj_fsub])

set_option maxHeartbeats 600000 in
theorem fr_X12_closes {M : gj_M} : gj_FO Prod.snd [] [(79, 3), (79, 4), (79, 5)] M (F_X12_closes M) := by
  unfold F_X12_closes
  have hM : gj_Fr [] [(79, 3), (79, 4), (79, 5)] M M := gj_Fr.rf
  repeat' first
    | with_reducible assumption
    | with_reducible exact gj_Fr.rf
    | with_reducible exact fo_none
    | with_reducible refine fo_some ?_
    | with_reducible refine fo_ite ?_ ?_
    | with_reducible refine fo_chk ?_
    | with_reducible refine fo_let ?_ (fun _ _ => ?_)
    | with_reducible refine fo_letI (fun _ => ?_)
    | with_reducible refine fo_let2 ?_ (fun _ _ _ => ?_)
    | with_reducible refine fo_bndM (fun _ _ => ?_) (fun _ _ => ?_)
    | with_reducible refine fo_bnd (fun _ => ?_)
    | with_reducible refine fo_bnd2 (fun _ _ _ => ?_) (fun _ _ _ => ?_)
    | (with_reducible refine gj_Fr.up ?_ ?_; rotate_left; · first | decide +kernel | rfl | simp)
    | (with_reducible refine gj_Fr.put ?_ ?_; rotate_left; · first | decide +kernel | rfl | simp)
    | (with_reducible refine gj_Fr.fill ?_ ?_; rotate_left; · first | decide +kernel | rfl | simp)
    | (with_reducible refine gj_Fr.copy ?_ ?_; rotate_left; · first | decide +kernel | rfl | simp)
    | (with_reducible refine gj_Fr.trans ?_ (gj_Fr.wide (gj_FOu (fr_X12_passes _) (by with_reducible assumption)) ?_); rotate_left; · first | decide +kernel | simp [gj_fsub])

set_option maxHeartbeats 600000 in
theorem fr_J_X12_into_92 {z1 n1 : Int} (l2 l3 l4 : Int) (M : gj_M) : gj_FO Prod.snd [z1] [(79, 3), (79, 4), (79, 5), (79, 6)] M (J_X12_into_92 z1 n1 l2 l3 l4 M) := by
  unfold J_X12_into_92
  have hM : gj_Fr [z1] [(79, 3), (79, 4), (79, 5), (79, 6)] M M := gj_Fr.rf
  repeat' first
    | with_reducible assumption
    | with_reducible exact gj_Fr.rf
    | with_reducible exact fo_none
    | with_reducible refine fo_some ?_
    | with_reducible refine fo_ite ?_ ?_
    | with_reducible refine fo_chk ?_
    | with_reducible refine fo_let ?_ (fun _ _ => ?_)
    | with_reducible refine fo_letI (fun _ => ?_)
    | with_reducible refine fo_let2 ?_ (fun _ _ _ => ?_)
    | with_reducible refine fo_bndM (fun _ _ => ?_) (fun _ _ => ?_)
    | with_reducible refine fo_bnd (fun _ => ?_)
    | with_reducible refine fo_bnd2 (fun _ _ _ => ?_) (fun _ _ _ => ?_)
    | (with_reducible refine gj_Fr.up ?_ ?_; rotate_left; · first | decide +kernel | rfl | simp)
    | (with_reducible refine gj_Fr.put ?_ ?_; rotate_left; · first | decide +kernel | rfl | simp)
    | (with_reducible refine gj_Fr.fill ?_ ?_; rotate_left; · first | decide +kernel | rfl | simp)
    | (with_reducible refine gj_Fr.copy ?_ ?_; rotate_left; · first | decide +kernel | rfl | simp)
    | (with_reducible refine gj_Fr.trans ?_ (gj_Fr.wide (gj_FOu (fr_X12_passes _) (by with_reducible assumption)) ?_); rotate_left; · first | decide +kernel | simp [gj_fsub])

set_option maxHeartbeats 600000 in
theorem fr_J_X12_into_83 {z1 n1 : Int} {rec30 : Int → Int → Int → Int → gj_M → Option (Int × gj_M)} (hrec30 : ∀ (l2 l3 l4 l5 : Int) (M : gj_M), gj_FO Prod.snd [z1] [(79, 3), (79, 4), (79, 5), (79, 6)] M (rec30 l2 l3 l4 l5 M)) (l2 l3 l4 l5 s1 : Int) (M : gj_M) : gj_FO Prod.snd [z1] [(79, 3), (79, 4), (79, 5), (79, 6)] M (J_X12_into_83 z1 n1 rec30 l2 l3 l4 l5 s1 M) := by
  unfold J_X12_into_83
  have hM : gj_Fr [z1] [(79, 3), (79, 4), (79, 5), (79, 6)] M M := gj_Fr.rf
  repeat' first
    | with_reducible assumption
    | with_reducible exact gj_Fr.rf
    | with_reducible exact fo_none
    | with_reducible refine fo_some ?_
    | with_reducible refine fo_ite ?_ ?_
    | with_reducible refine fo_chk ?_
    | with_reducible refine fo_let ?_ (fun _ _ => ?_)
    | with_reducible refine fo_letI (fun _ => ?_)
    | with_reducible refine fo_let2 ?_ (fun _ _ _ => ?_)
    | with_reducible refine fo_bndM (fun _ _ => ?_) (fun _ _ => ?_)
    | with_reducible refine fo_bnd (fun _ => ?_)
    | with_reducible refine fo_bnd2 (fun _ _ _ => ?_) (fun _ _ _ => ?_)
    | (with_reducible refine gj_Fr.up ?_ ?_; rotate_left; · first | decide +kernel | rfl | simp)
    | (with_reducible refine gj_Fr.put ?_ ?_; rotate_left; · first | decide +kernel | rfl | simp)
    | (with_reducible refine gj_Fr.fill ?_ ?_; rotate_left; · first | decide +kernel | rfl | simp)
    | (with_reducible refine gj_Fr.copy ?_ ?_; rotate_left; · first | decide +kernel | rfl | simp)
    | with_reducible exact fo_tr (by with_reducible assumption) (hrec30 _ _ _ _ _)
    | (with_reducible refine gj_Fr.trans ?_ (gj_Fr.wide (gj_FOu (fr_X12_passes _) (by with_reducible assumption)) ?_); rotate_left; · first | decide +kernel | simp [gj_fsub])

set_option maxHeartbeats 600000 in
theorem fr_B_X12_into_30 {z1 n1 : Int} {rec30 : Int → Int → Int → Int → gj_M → Option (Int × gj_M)} (hrec30 : ∀ (l2 l3 l4 l5 : Int) (M : gj_M), gj_FO Prod.snd [z1] [(79, 3), (79, 4), (79, 5), (79, 6)] M (rec30 l2 l3 l4 l5 M)) (l2 l3 l4 l5 : Int) (M : gj_M) : gj_FO Prod.snd [z1] [(79, 3), (79, 4), (79, 5), (79, 6)] M (B_X12_into_30 z1 n1 rec30 l2 l3 l4 l5 M) := by
  unfold B_X12_into_30
  have hM : gj_Fr [z1] [(79, 3), (79, 4), (79, 5), (79, 6)] M M := gj_Fr.rf
  repeat' first
    | with_reducible assumption
    | with_reducible exact gj_Fr.rf
    | with_reducible exact fo_none
    | with_reducible refine fo_some ?_
    | with_reducible refine fo_ite ?_ ?_
    | with_reducible refine fo_chk ?_
    | with_reducible refine fo_let ?_ (fun _ _ => ?_)
    | with_reducible refine fo_letI (fun _ => ?_)
    | with_reducible refine fo_let2 ?_ (fun _ _ _ => ?_)
    | with_reducible refine fo_bndM (fun _ _ => ?_) (fun _ _ => ?_)
    | with_reducible refine fo_bnd (fun _ => ?_)
    | with_reducible refine fo_bnd2 (fun _ _ _ => ?_) (fun _ _ _ => ?_)
    | (with_reducible refine gj_Fr.up ?_ ?_; rotate_left; · first | decide +kernel | rfl | simp)
    | (with_reducible refine gj_Fr.put ?_ ?_; rotate_left; · first | decide +kernel | rfl | simp)
    | (with_reducible refine gj_Fr.fill ?_ ?_; rotate_left; · first | decide +kernel | rfl | simp)
    | (with_reducible refine gj_Fr.copy ?_ ?_; rotate_left; · first | decide +kernel | rfl | simp)
    | with_reducible exact fo_tr (by with_reducible assumption) (fr_J_X12_into_83 hrec30 _ _ _ _ _ _)
    | with_reducible exact fo_tr (by with_reducible assumption) (fr_J_X12_into_92 _ _ _ _)
    | with_reducible exact fo_tr (by with_reducible assumption) (hrec30 _ _ _ _ _)
    | (with_reducible refine gj_Fr.trans ?_ (gj_Fr.wide (gj_FOu (fr_X12_passes _) (by with_reducible assumption)) ?_); rotate_left; · first | decide +kernel | simp [gj_fsub])

theorem frL_X12_into_30 {z1 n1 : Int} : ∀ (m : Nat) (l2 l3 l4 l5 : Int) (M : gj_M), gj_FO Prod.snd [z1] [(79, 3), (79, 4), (79, 5), (79, 6)] M (gj_it (fun _ _ _ _ _ => none) (B_X12_into_30 z1 n1) m l2 l3 l4 l5 M)
  | 0, l2, l3, l4, l5, M => fun r e => by cases (show (none : Option (Int × gj_M)) = some r from e)
  | m + 1, l2, l3, l4, l5, M => fr_B_X12_into_30 (fun l2 l3 l4 l5 M => frL_X12_into_30 m l2 l3 l4 l5 M) l2 l3 l4 l5 M
set_option maxHeartbeats 600000 in
theorem fr_J_X12_into_21 {z1 n1 : Int} (l2 l3 l4 s1 : Int) (M : gj_M) : gj_FO Prod.snd [z1] [(79, 3), (79, 4), (79, 5), (79, 6)] M (J_X12_into_21 z1 n1 l2 l3 l4 s1 M) := by
  unfold J_X12_into_21
  have hM : gj_Fr [z1] [(79, 3), (79, 4), (79, 5), (79, 6)] M M := gj_Fr.rf
  repeat' first
    | with_reducible assumption
    | with_reducible exact gj_Fr.rf
    | with_reducible exact fo_none
    | with_reducible refine fo_some ?_
    | with_reducible refine fo_ite ?_ ?_
    | with_reducible refine fo_chk ?_
    | with_reducible refine fo_let ?_ (fun _ _ => ?_)
    | with_reducible refine fo_letI (fun _ => ?_)
    | with_reducible refine fo_let2 ?_ (fun _ _ _ => ?_)
    | with_reducible refine fo_bndM (fun _ _ => ?_) (fun _ _ => ?_)
    | with_reducible refine fo_bnd (fun _ => ?_)
    | with_reducible refine fo_bnd2 (fun _ _ _ => ?_) (fun _ _ _ => ?_)
    | (with_reducible refine gj_Fr.up ?_ ?_; rotate_left; · first | decide +kernel | rfl | simp)
    | (with_reducible refine gj_Fr.put ?_ ?_; rotate_left; · first | decide +kernel | rfl | simp)
    | (with_reducible refine gj_Fr.fill ?_ ?_; rotate_left; · first | decide +kernel | rfl | simp)
    | (with_reducible refine gj_Fr.copy ?_ ?_; rotate_left; · first | decide +kernel | rfl | simp)
    | with_reducible exact fo_tr (by with_reducible assumption) (frL_X12_into_30 _ _ _ _ _ _)
    | (with_reducible refine gj_Fr.trans ?_ (gj_Fr.wide (gj_FOu (fr_X12_passes _) (by with_reducible assumption)) ?_); rotate_left; · first | decide +kernel | simp [gj_fsub])

set_option maxHeartbeats 600000 in
theorem fr_X12_into (z1 : Int) (n1 : Int) (a2 : Int) (a3 : Int) (a4 : Int) {M : gj_M} : gj_FO Prod.snd [z1] [(79, 3), (79, 4), (79, 5), (79, 6)] M (F_X12_into z1 n1 a2 a3 a4 M) := by
  unfold F_X12_into
  have hM : gj_Fr [z1] [(79, 3), (79, 4), (79, 5), (79, 6)] M M := gj_Fr.rf
  repeat' first
    | with_reducible assumption
    | with_reducible exact gj_Fr.rf
    | with_reducible exact fo_none
    | with_reducible refine fo_some ?_
    | with_reducible refine fo_ite ?_ ?_
    | with_reducible refine fo_chk ?_
    | with_reducible refine fo_let ?_ (fun _ _ => ?_)
    | with_reducible refine fo_letI (fun _ => ?_)
    | with_reducible refine fo_let2 ?_ (fun _ _ _ => ?_)
    | with_reducible refine fo_bndM (fun _ _ => ?_) (fun _ _ => ?_)
    | with_reducible refine fo_bnd (fun _ => ?_)
    | with_reducible refine fo_bnd2 (fun _ _ _ => ?_) (fun _ _ _ => ?_)
    | (with_reducible refine gj_Fr.up ?_ ?_; rotate_left; · first | decide +kernel | rfl | simp)
    | (with_reducible refine gj_Fr.put ?_ ?_; rotate_left; · first | decide +kernel | rfl | simp)
    | (with_reducible refine gj_Fr.fill ?_ ?_; rotate_left; · first | decide +kernel | rfl | simp)
    | (with_reducible refine gj_Fr.copy ?_ ?_; rotate_left; · first | decide +kernel | rfl | simp)
    | with_reducible exact fo_tr (by with_reducible assumption) (fr_J_X12_into_21 _ _ _ _ _)
    | (with_reducible refine gj_Fr.trans ?_ (gj_Fr.wide (gj_FOu (fr_X12_passes _) (by with_reducible assumption)) ?_); rotate_left; · first | decide +kernel | simp [gj_fsub])

set_option maxHeartbeats 600000 in
theorem fr_J_X12_personRead_66 (l1 l2 l3 s1 : Int) (M : gj_M) : gj_FO Prod.snd [84, 102, 103] [(79, 3), (79, 4), (79, 5), (79, 6)] M (J_X12_personRead_66 l1 l2 l3 s1 M) := by
  unfold J_X12_personRead_66
  have hM : gj_Fr [84, 102, 103] [(79, 3), (79, 4), (79, 5), (79, 6)] M M := gj_Fr.rf
  repeat' first
    | with_reducible assumption
    | with_reducible exact gj_Fr.rf
    | with_reducible exact fo_none
    | with_reducible refine fo_some ?_
    | with_reducible refine fo_ite ?_ ?_
    | with_reducible refine fo_chk ?_
    | with_reducible refine fo_let ?_ (fun _ _ => ?_)
    | with_reducible refine fo_letI (fun _ => ?_)
    | with_reducible refine fo_let2 ?_ (fun _ _ _ => ?_)
    | with_reducible refine fo_bndM (fun _ _ => ?_) (fun _ _ => ?_)
    | with_reducible refine fo_bnd (fun _ => ?_)
    | with_reducible refine fo_bnd2 (fun _ _ _ => ?_) (fun _ _ _ => ?_)
    | (with_reducible refine gj_Fr.up ?_ ?_; rotate_left; · first | decide +kernel | rfl | simp)
    | (with_reducible refine gj_Fr.put ?_ ?_; rotate_left; · first | decide +kernel | rfl | simp)
    | (with_reducible refine gj_Fr.fill ?_ ?_; rotate_left; · first | decide +kernel | rfl | simp)
    | (with_reducible refine gj_Fr.copy ?_ ?_; rotate_left; · first | decide +kernel | rfl | simp)
    | (with_reducible refine gj_Fr.trans ?_ (gj_Fr.wide (gj_FOu (fr_X12_closes) (by with_reducible assumption)) ?_); rotate_left; · first | decide +kernel | simp [gj_fsub])
    | (with_reducible refine gj_Fr.trans ?_ (gj_Fr.wide (gj_FOu (fr_X12_into _ _ _ _ _) (by with_reducible assumption)) ?_); rotate_left; · first | decide +kernel | simp [gj_fsub])
    | (with_reducible refine gj_Fr.trans ?_ (gj_Fr.wide (gj_FOu (fr_X12_passes _) (by with_reducible assumption)) ?_); rotate_left; · first | decide +kernel | simp [gj_fsub])

set_option maxHeartbeats 600000 in
theorem fr_J_X12_personRead_31 (l1 l2 s1 : Int) (M : gj_M) : gj_FO Prod.snd [84, 102, 103] [(79, 3), (79, 4), (79, 5), (79, 6)] M (J_X12_personRead_31 l1 l2 s1 M) := by
  unfold J_X12_personRead_31
  have hM : gj_Fr [84, 102, 103] [(79, 3), (79, 4), (79, 5), (79, 6)] M M := gj_Fr.rf
  repeat' first
    | with_reducible assumption
    | with_reducible exact gj_Fr.rf
    | with_reducible exact fo_none
    | with_reducible refine fo_some ?_
    | with_reducible refine fo_ite ?_ ?_
    | with_reducible refine fo_chk ?_
    | with_reducible refine fo_let ?_ (fun _ _ => ?_)
    | with_reducible refine fo_letI (fun _ => ?_)
    | with_reducible refine fo_let2 ?_ (fun _ _ _ => ?_)
    | with_reducible refine fo_bndM (fun _ _ => ?_) (fun _ _ => ?_)
    | with_reducible refine fo_bnd (fun _ => ?_)
    | with_reducible refine fo_bnd2 (fun _ _ _ => ?_) (fun _ _ _ => ?_)
    | (with_reducible refine gj_Fr.up ?_ ?_; rotate_left; · first | decide +kernel | rfl | simp)
    | (with_reducible refine gj_Fr.put ?_ ?_; rotate_left; · first | decide +kernel | rfl | simp)
    | (with_reducible refine gj_Fr.fill ?_ ?_; rotate_left; · first | decide +kernel | rfl | simp)
    | (with_reducible refine gj_Fr.copy ?_ ?_; rotate_left; · first | decide +kernel | rfl | simp)
    | with_reducible exact fo_tr (by with_reducible assumption) (fr_J_X12_personRead_66 _ _ _ _ _)
    | (with_reducible refine gj_Fr.trans ?_ (gj_Fr.wide (gj_FOu (fr_X12_closes) (by with_reducible assumption)) ?_); rotate_left; · first | decide +kernel | simp [gj_fsub])
    | (with_reducible refine gj_Fr.trans ?_ (gj_Fr.wide (gj_FOu (fr_X12_into _ _ _ _ _) (by with_reducible assumption)) ?_); rotate_left; · first | decide +kernel | simp [gj_fsub])
    | (with_reducible refine gj_Fr.trans ?_ (gj_Fr.wide (gj_FOu (fr_X12_passes _) (by with_reducible assumption)) ?_); rotate_left; · first | decide +kernel | simp [gj_fsub])

set_option maxHeartbeats 600000 in
theorem fr_X12_personRead (a1 : Int) {M : gj_M} : gj_FO Prod.snd [84, 102, 103] [(79, 3), (79, 4), (79, 5), (79, 6)] M (F_X12_personRead a1 M) := by
  unfold F_X12_personRead
  have hM : gj_Fr [84, 102, 103] [(79, 3), (79, 4), (79, 5), (79, 6)] M M := gj_Fr.rf
  repeat' first
    | with_reducible assumption
    | with_reducible exact gj_Fr.rf
    | with_reducible exact fo_none
    | with_reducible refine fo_some ?_
    | with_reducible refine fo_ite ?_ ?_
    | with_reducible refine fo_chk ?_
    | with_reducible refine fo_let ?_ (fun _ _ => ?_)
    | with_reducible refine fo_letI (fun _ => ?_)
    | with_reducible refine fo_let2 ?_ (fun _ _ _ => ?_)
    | with_reducible refine fo_bndM (fun _ _ => ?_) (fun _ _ => ?_)
    | with_reducible refine fo_bnd (fun _ => ?_)
    | with_reducible refine fo_bnd2 (fun _ _ _ => ?_) (fun _ _ _ => ?_)
    | (with_reducible refine gj_Fr.up ?_ ?_; rotate_left; · first | decide +kernel | rfl | simp)
    | (with_reducible refine gj_Fr.put ?_ ?_; rotate_left; · first | decide +kernel | rfl | simp)
    | (with_reducible refine gj_Fr.fill ?_ ?_; rotate_left; · first | decide +kernel | rfl | simp)
    | (with_reducible refine gj_Fr.copy ?_ ?_; rotate_left; · first | decide +kernel | rfl | simp)
    | with_reducible exact fo_tr (by with_reducible assumption) (fr_J_X12_personRead_31 _ _ _ _)
    | (with_reducible refine gj_Fr.trans ?_ (gj_Fr.wide (gj_FOu (fr_X12_closes) (by with_reducible assumption)) ?_); rotate_left; · first | decide +kernel | simp [gj_fsub])
    | (with_reducible refine gj_Fr.trans ?_ (gj_Fr.wide (gj_FOu (fr_X12_into _ _ _ _ _) (by with_reducible assumption)) ?_); rotate_left; · first | decide +kernel | simp [gj_fsub])
    | (with_reducible refine gj_Fr.trans ?_ (gj_Fr.wide (gj_FOu (fr_X12_passes _) (by with_reducible assumption)) ?_); rotate_left; · first | decide +kernel | simp [gj_fsub])

set_option maxHeartbeats 600000 in
theorem fr_J_X12_thinkRead_72 (l1 l2 s1 : Int) (M : gj_M) : gj_FO Prod.snd [87, 90, 93, 104] [(79, 3), (79, 4), (79, 5), (79, 6)] M (J_X12_thinkRead_72 l1 l2 s1 M) := by
  unfold J_X12_thinkRead_72
  have hM : gj_Fr [87, 90, 93, 104] [(79, 3), (79, 4), (79, 5), (79, 6)] M M := gj_Fr.rf
  repeat' first
    | with_reducible assumption
    | with_reducible exact gj_Fr.rf
    | with_reducible exact fo_none
    | with_reducible refine fo_some ?_
    | with_reducible refine fo_ite ?_ ?_
    | with_reducible refine fo_chk ?_
    | with_reducible refine fo_let ?_ (fun _ _ => ?_)
    | with_reducible refine fo_letI (fun _ => ?_)
    | with_reducible refine fo_let2 ?_ (fun _ _ _ => ?_)
    | with_reducible refine fo_bndM (fun _ _ => ?_) (fun _ _ => ?_)
    | with_reducible refine fo_bnd (fun _ => ?_)
    | with_reducible refine fo_bnd2 (fun _ _ _ => ?_) (fun _ _ _ => ?_)
    | (with_reducible refine gj_Fr.up ?_ ?_; rotate_left; · first | decide +kernel | rfl | simp)
    | (with_reducible refine gj_Fr.put ?_ ?_; rotate_left; · first | decide +kernel | rfl | simp)
    | (with_reducible refine gj_Fr.fill ?_ ?_; rotate_left; · first | decide +kernel | rfl | simp)
    | (with_reducible refine gj_Fr.copy ?_ ?_; rotate_left; · first | decide +kernel | rfl | simp)
    | (with_reducible refine gj_Fr.trans ?_ (gj_Fr.wide (gj_FOu (fr_X12_closes) (by with_reducible assumption)) ?_); rotate_left; · first | decide +kernel | simp [gj_fsub])
    | (with_reducible refine gj_Fr.trans ?_ (gj_Fr.wide (gj_FOu (fr_X12_into _ _ _ _ _) (by with_reducible assumption)) ?_); rotate_left; · first | decide +kernel | simp [gj_fsub])
    | (with_reducible refine gj_Fr.trans ?_ (gj_Fr.wide (gj_FOu (fr_X12_passes _) (by with_reducible assumption)) ?_); rotate_left; · first | decide +kernel | simp [gj_fsub])

set_option maxHeartbeats 600000 in
theorem fr_J_X12_thinkRead_26 (l1 s1 : Int) (M : gj_M) : gj_FO Prod.snd [87, 90, 93, 104] [(79, 3), (79, 4), (79, 5), (79, 6)] M (J_X12_thinkRead_26 l1 s1 M) := by
  unfold J_X12_thinkRead_26
  have hM : gj_Fr [87, 90, 93, 104] [(79, 3), (79, 4), (79, 5), (79, 6)] M M := gj_Fr.rf
  repeat' first
    | with_reducible assumption
    | with_reducible exact gj_Fr.rf
    | with_reducible exact fo_none
    | with_reducible refine fo_some ?_
    | with_reducible refine fo_ite ?_ ?_
    | with_reducible refine fo_chk ?_
    | with_reducible refine fo_let ?_ (fun _ _ => ?_)
    | with_reducible refine fo_letI (fun _ => ?_)
    | with_reducible refine fo_let2 ?_ (fun _ _ _ => ?_)
    | with_reducible refine fo_bndM (fun _ _ => ?_) (fun _ _ => ?_)
    | with_reducible refine fo_bnd (fun _ => ?_)
    | with_reducible refine fo_bnd2 (fun _ _ _ => ?_) (fun _ _ _ => ?_)
    | (with_reducible refine gj_Fr.up ?_ ?_; rotate_left; · first | decide +kernel | rfl | simp)
    | (with_reducible refine gj_Fr.put ?_ ?_; rotate_left; · first | decide +kernel | rfl | simp)
    | (with_reducible refine gj_Fr.fill ?_ ?_; rotate_left; · first | decide +kernel | rfl | simp)
    | (with_reducible refine gj_Fr.copy ?_ ?_; rotate_left; · first | decide +kernel | rfl | simp)
    | with_reducible exact fo_tr (by with_reducible assumption) (fr_J_X12_thinkRead_72 _ _ _ _)
    | (with_reducible refine gj_Fr.trans ?_ (gj_Fr.wide (gj_FOu (fr_X12_closes) (by with_reducible assumption)) ?_); rotate_left; · first | decide +kernel | simp [gj_fsub])
    | (with_reducible refine gj_Fr.trans ?_ (gj_Fr.wide (gj_FOu (fr_X12_into _ _ _ _ _) (by with_reducible assumption)) ?_); rotate_left; · first | decide +kernel | simp [gj_fsub])
    | (with_reducible refine gj_Fr.trans ?_ (gj_Fr.wide (gj_FOu (fr_X12_passes _) (by with_reducible assumption)) ?_); rotate_left; · first | decide +kernel | simp [gj_fsub])

set_option maxHeartbeats 600000 in
theorem fr_X12_thinkRead {M : gj_M} : gj_FO Prod.snd [87, 90, 93, 104] [(79, 3), (79, 4), (79, 5), (79, 6)] M (F_X12_thinkRead M) := by
  unfold F_X12_thinkRead
  have hM : gj_Fr [87, 90, 93, 104] [(79, 3), (79, 4), (79, 5), (79, 6)] M M := gj_Fr.rf
  repeat' first
    | with_reducible assumption
    | with_reducible exact gj_Fr.rf
    | with_reducible exact fo_none
    | with_reducible refine fo_some ?_
    | with_reducible refine fo_ite ?_ ?_
    | with_reducible refine fo_chk ?_
    | with_reducible refine fo_let ?_ (fun _ _ => ?_)
    | with_reducible refine fo_letI (fun _ => ?_)
    | with_reducible refine fo_let2 ?_ (fun _ _ _ => ?_)
    | with_reducible refine fo_bndM (fun _ _ => ?_) (fun _ _ => ?_)
    | with_reducible refine fo_bnd (fun _ => ?_)
    | with_reducible refine fo_bnd2 (fun _ _ _ => ?_) (fun _ _ _ => ?_)
    | (with_reducible refine gj_Fr.up ?_ ?_; rotate_left; · first | decide +kernel | rfl | simp)
    | (with_reducible refine gj_Fr.put ?_ ?_; rotate_left; · first | decide +kernel | rfl | simp)
    | (with_reducible refine gj_Fr.fill ?_ ?_; rotate_left; · first | decide +kernel | rfl | simp)
    | (with_reducible refine gj_Fr.copy ?_ ?_; rotate_left; · first | decide +kernel | rfl | simp)
    | with_reducible exact fo_tr (by with_reducible assumption) (fr_J_X12_thinkRead_26 _ _ _)
    | (with_reducible refine gj_Fr.trans ?_ (gj_Fr.wide (gj_FOu (fr_X12_closes) (by with_reducible assumption)) ?_); rotate_left; · first | decide +kernel | simp [gj_fsub])
    | (with_reducible refine gj_Fr.trans ?_ (gj_Fr.wide (gj_FOu (fr_X12_into _ _ _ _ _) (by with_reducible assumption)) ?_); rotate_left; · first | decide +kernel | simp [gj_fsub])
    | (with_reducible refine gj_Fr.trans ?_ (gj_Fr.wide (gj_FOu (fr_X12_passes _) (by with_reducible assumption)) ?_); rotate_left; · first | decide +kernel | simp [gj_fsub])

set_option maxHeartbeats 600000 in
theorem fr_J_X12_fitRead_62 (l1 l2 s1 : Int) (M : gj_M) : gj_FO Prod.snd [96, 105] [(79, 3), (79, 4), (79, 5), (79, 6)] M (J_X12_fitRead_62 l1 l2 s1 M) := by
  unfold J_X12_fitRead_62
  have hM : gj_Fr [96, 105] [(79, 3), (79, 4), (79, 5), (79, 6)] M M := gj_Fr.rf
  repeat' first
    | with_reducible assumption
    | with_reducible exact gj_Fr.rf
    | with_reducible exact fo_none
    | with_reducible refine fo_some ?_
    | with_reducible refine fo_ite ?_ ?_
    | with_reducible refine fo_chk ?_
    | with_reducible refine fo_let ?_ (fun _ _ => ?_)
    | with_reducible refine fo_letI (fun _ => ?_)
    | with_reducible refine fo_let2 ?_ (fun _ _ _ => ?_)
    | with_reducible refine fo_bndM (fun _ _ => ?_) (fun _ _ => ?_)
    | with_reducible refine fo_bnd (fun _ => ?_)
    | with_reducible refine fo_bnd2 (fun _ _ _ => ?_) (fun _ _ _ => ?_)
    | (with_reducible refine gj_Fr.up ?_ ?_; rotate_left; · first | decide +kernel | rfl | simp)
    | (with_reducible refine gj_Fr.put ?_ ?_; rotate_left; · first | decide +kernel | rfl | simp)
    | (with_reducible refine gj_Fr.fill ?_ ?_; rotate_left; · first | decide +kernel | rfl | simp)
    | (with_reducible refine gj_Fr.copy ?_ ?_; rotate_left; · first | decide +kernel | rfl | simp)
    | (with_reducible refine gj_Fr.trans ?_ (gj_Fr.wide (gj_FOu (fr_X12_closes) (by with_reducible assumption)) ?_); rotate_left; · first | decide +kernel | simp [gj_fsub])
    | (with_reducible refine gj_Fr.trans ?_ (gj_Fr.wide (gj_FOu (fr_X12_into _ _ _ _ _) (by with_reducible assumption)) ?_); rotate_left; · first | decide +kernel | simp [gj_fsub])
    | (with_reducible refine gj_Fr.trans ?_ (gj_Fr.wide (gj_FOu (fr_X12_passes _) (by with_reducible assumption)) ?_); rotate_left; · first | decide +kernel | simp [gj_fsub])

set_option maxHeartbeats 600000 in
theorem fr_X12_fitRead {M : gj_M} : gj_FO Prod.snd [96, 105] [(79, 3), (79, 4), (79, 5), (79, 6)] M (F_X12_fitRead M) := by
  unfold F_X12_fitRead
  have hM : gj_Fr [96, 105] [(79, 3), (79, 4), (79, 5), (79, 6)] M M := gj_Fr.rf
  repeat' first
    | with_reducible assumption
    | with_reducible exact gj_Fr.rf
    | with_reducible exact fo_none
    | with_reducible refine fo_some ?_
    | with_reducible refine fo_ite ?_ ?_
    | with_reducible refine fo_chk ?_
    | with_reducible refine fo_let ?_ (fun _ _ => ?_)
    | with_reducible refine fo_letI (fun _ => ?_)
    | with_reducible refine fo_let2 ?_ (fun _ _ _ => ?_)
    | with_reducible refine fo_bndM (fun _ _ => ?_) (fun _ _ => ?_)
    | with_reducible refine fo_bnd (fun _ => ?_)
    | with_reducible refine fo_bnd2 (fun _ _ _ => ?_) (fun _ _ _ => ?_)
    | (with_reducible refine gj_Fr.up ?_ ?_; rotate_left; · first | decide +kernel | rfl | simp)
    | (with_reducible refine gj_Fr.put ?_ ?_; rotate_left; · first | decide +kernel | rfl | simp)
    | (with_reducible refine gj_Fr.fill ?_ ?_; rotate_left; · first | decide +kernel | rfl | simp)
    | (with_reducible refine gj_Fr.copy ?_ ?_; rotate_left; · first | decide +kernel | rfl | simp)
    | with_reducible exact fo_tr (by with_reducible assumption) (fr_J_X12_fitRead_62 _ _ _ _)
    | (with_reducible refine gj_Fr.trans ?_ (gj_Fr.wide (gj_FOu (fr_X12_closes) (by with_reducible assumption)) ?_); rotate_left; · first | decide +kernel | simp [gj_fsub])
    | (with_reducible refine gj_Fr.trans ?_ (gj_Fr.wide (gj_FOu (fr_X12_into _ _ _ _ _) (by with_reducible assumption)) ?_); rotate_left; · first | decide +kernel | simp [gj_fsub])
    | (with_reducible refine gj_Fr.trans ?_ (gj_Fr.wide (gj_FOu (fr_X12_passes _) (by with_reducible assumption)) ?_); rotate_left; · first | decide +kernel | simp [gj_fsub])

set_option maxHeartbeats 600000 in
theorem fr_J_X12_onceRead_210 (M : gj_M) : gj_FO Prod.snd [99, 106] [(79, 3), (79, 4), (79, 5), (79, 6)] M (J_X12_onceRead_210 M) := by
  unfold J_X12_onceRead_210
  have hM : gj_Fr [99, 106] [(79, 3), (79, 4), (79, 5), (79, 6)] M M := gj_Fr.rf
  repeat' first
    | with_reducible assumption
    | with_reducible exact gj_Fr.rf
    | with_reducible exact fo_none
    | with_reducible refine fo_some ?_
    | with_reducible refine fo_ite ?_ ?_
    | with_reducible refine fo_chk ?_
    | with_reducible refine fo_let ?_ (fun _ _ => ?_)
    | with_reducible refine fo_letI (fun _ => ?_)
    | with_reducible refine fo_let2 ?_ (fun _ _ _ => ?_)
    | with_reducible refine fo_bndM (fun _ _ => ?_) (fun _ _ => ?_)
    | with_reducible refine fo_bnd (fun _ => ?_)
    | with_reducible refine fo_bnd2 (fun _ _ _ => ?_) (fun _ _ _ => ?_)
    | (with_reducible refine gj_Fr.up ?_ ?_; rotate_left; · first | decide +kernel | rfl | simp)
    | (with_reducible refine gj_Fr.put ?_ ?_; rotate_left; · first | decide +kernel | rfl | simp)
    | (with_reducible refine gj_Fr.fill ?_ ?_; rotate_left; · first | decide +kernel | rfl | simp)
    | (with_reducible refine gj_Fr.copy ?_ ?_; rotate_left; · first | decide +kernel | rfl | simp)
    | (with_reducible refine gj_Fr.trans ?_ (gj_Fr.wide (gj_FOu (fr_X12_closes) (by with_reducible assumption)) ?_); rotate_left; · first | decide +kernel | simp [gj_fsub])
    | (with_reducible refine gj_Fr.trans ?_ (gj_Fr.wide (gj_FOu (fr_X12_passes _) (by with_reducible assumption)) ?_); rotate_left; · first | decide +kernel | simp [gj_fsub])
    | (with_reducible refine gj_Fr.trans ?_ (gj_Fr.wide (gj_FOu (fr_X12_into _ _ _ _ _) (by with_reducible assumption)) ?_); rotate_left; · first | decide +kernel | simp [gj_fsub])

set_option maxHeartbeats 600000 in
theorem fr_J_X12_onceRead_20 (l1 s1 : Int) (M : gj_M) : gj_FO Prod.snd [99, 106] [(79, 3), (79, 4), (79, 5), (79, 6)] M (J_X12_onceRead_20 l1 s1 M) := by
  unfold J_X12_onceRead_20
  have hM : gj_Fr [99, 106] [(79, 3), (79, 4), (79, 5), (79, 6)] M M := gj_Fr.rf
  repeat' first
    | with_reducible assumption
    | with_reducible exact gj_Fr.rf
    | with_reducible exact fo_none
    | with_reducible refine fo_some ?_
    | with_reducible refine fo_ite ?_ ?_
    | with_reducible refine fo_chk ?_
    | with_reducible refine fo_let ?_ (fun _ _ => ?_)
    | with_reducible refine fo_letI (fun _ => ?_)
    | with_reducible refine fo_let2 ?_ (fun _ _ _ => ?_)
    | with_reducible refine fo_bndM (fun _ _ => ?_) (fun _ _ => ?_)
    | with_reducible refine fo_bnd (fun _ => ?_)
    | with_reducible refine fo_bnd2 (fun _ _ _ => ?_) (fun _ _ _ => ?_)
    | (with_reducible refine gj_Fr.up ?_ ?_; rotate_left; · first | decide +kernel | rfl | simp)
    | (with_reducible refine gj_Fr.put ?_ ?_; rotate_left; · first | decide +kernel | rfl | simp)
    | (with_reducible refine gj_Fr.fill ?_ ?_; rotate_left; · first | decide +kernel | rfl | simp)
    | (with_reducible refine gj_Fr.copy ?_ ?_; rotate_left; · first | decide +kernel | rfl | simp)
    | with_reducible exact fo_tr (by with_reducible assumption) (fr_J_X12_onceRead_210 _)
    | (with_reducible refine gj_Fr.trans ?_ (gj_Fr.wide (gj_FOu (fr_X12_closes) (by with_reducible assumption)) ?_); rotate_left; · first | decide +kernel | simp [gj_fsub])
    | (with_reducible refine gj_Fr.trans ?_ (gj_Fr.wide (gj_FOu (fr_X12_passes _) (by with_reducible assumption)) ?_); rotate_left; · first | decide +kernel | simp [gj_fsub])
    | (with_reducible refine gj_Fr.trans ?_ (gj_Fr.wide (gj_FOu (fr_X12_into _ _ _ _ _) (by with_reducible assumption)) ?_); rotate_left; · first | decide +kernel | simp [gj_fsub])

set_option maxHeartbeats 600000 in
theorem fr_X12_onceRead (a1 : Int) {M : gj_M} : gj_FO Prod.snd [99, 106] [(79, 3), (79, 4), (79, 5), (79, 6)] M (F_X12_onceRead a1 M) := by
  unfold F_X12_onceRead
  have hM : gj_Fr [99, 106] [(79, 3), (79, 4), (79, 5), (79, 6)] M M := gj_Fr.rf
  repeat' first
    | with_reducible assumption
    | with_reducible exact gj_Fr.rf
    | with_reducible exact fo_none
    | with_reducible refine fo_some ?_
    | with_reducible refine fo_ite ?_ ?_
    | with_reducible refine fo_chk ?_
    | with_reducible refine fo_let ?_ (fun _ _ => ?_)
    | with_reducible refine fo_letI (fun _ => ?_)
    | with_reducible refine fo_let2 ?_ (fun _ _ _ => ?_)
    | with_reducible refine fo_bndM (fun _ _ => ?_) (fun _ _ => ?_)
    | with_reducible refine fo_bnd (fun _ => ?_)
    | with_reducible refine fo_bnd2 (fun _ _ _ => ?_) (fun _ _ _ => ?_)
    | (with_reducible refine gj_Fr.up ?_ ?_; rotate_left; · first | decide +kernel | rfl | simp)
    | (with_reducible refine gj_Fr.put ?_ ?_; rotate_left; · first | decide +kernel | rfl | simp)
    | (with_reducible refine gj_Fr.fill ?_ ?_; rotate_left; · first | decide +kernel | rfl | simp)
    | (with_reducible refine gj_Fr.copy ?_ ?_; rotate_left; · first | decide +kernel | rfl | simp)
    | with_reducible exact fo_tr (by with_reducible assumption) (fr_J_X12_onceRead_20 _ _ _)
    | (with_reducible refine gj_Fr.trans ?_ (gj_Fr.wide (gj_FOu (fr_X12_closes) (by with_reducible assumption)) ?_); rotate_left; · first | decide +kernel | simp [gj_fsub])
    | (with_reducible refine gj_Fr.trans ?_ (gj_Fr.wide (gj_FOu (fr_X12_passes _) (by with_reducible assumption)) ?_); rotate_left; · first | decide +kernel | simp [gj_fsub])
    | (with_reducible refine gj_Fr.trans ?_ (gj_Fr.wide (gj_FOu (fr_X12_into _ _ _ _ _) (by with_reducible assumption)) ?_); rotate_left; · first | decide +kernel | simp [gj_fsub])

set_option maxHeartbeats 600000 in
theorem fr_X12_line {M : gj_M} : gj_FO Prod.snd [84, 87, 90, 93, 96, 99, 102, 103, 104, 105, 106] [(79, 3), (79, 4), (79, 5), (79, 6)] M (F_X12_line M) := by
  unfold F_X12_line
  have hM : gj_Fr [84, 87, 90, 93, 96, 99, 102, 103, 104, 105, 106] [(79, 3), (79, 4), (79, 5), (79, 6)] M M := gj_Fr.rf
  repeat' first
    | with_reducible assumption
    | with_reducible exact gj_Fr.rf
    | with_reducible exact fo_none
    | with_reducible refine fo_some ?_
    | with_reducible refine fo_ite ?_ ?_
    | with_reducible refine fo_chk ?_
    | with_reducible refine fo_let ?_ (fun _ _ => ?_)
    | with_reducible refine fo_letI (fun _ => ?_)
    | with_reducible refine fo_let2 ?_ (fun _ _ _ => ?_)
    | with_reducible refine fo_bndM (fun _ _ => ?_) (fun _ _ => ?_)
    | with_reducible refine fo_bnd (fun _ => ?_)
    | with_reducible refine fo_bnd2 (fun _ _ _ => ?_) (fun _ _ _ => ?_)
    | (with_reducible refine gj_Fr.up ?_ ?_; rotate_left; · first | decide +kernel | rfl | simp)
    | (with_reducible refine gj_Fr.put ?_ ?_; rotate_left; · first | decide +kernel | rfl | simp)
    | (with_reducible refine gj_Fr.fill ?_ ?_; rotate_left; · first | decide +kernel | rfl | simp)
    | (with_reducible refine gj_Fr.copy ?_ ?_; rotate_left; · first | decide +kernel | rfl | simp)
    | (with_reducible refine gj_Fr.trans ?_ (gj_Fr.wide (gj_FOu (fr_X12_thinkRead) (by with_reducible assumption)) ?_); rotate_left; · first | decide +kernel | simp [gj_fsub])
    | (with_reducible refine gj_Fr.trans ?_ (gj_Fr.wide (gj_FOu (fr_X12_personRead _) (by with_reducible assumption)) ?_); rotate_left; · first | decide +kernel | simp [gj_fsub])
    | (with_reducible refine gj_Fr.trans ?_ (gj_Fr.wide (gj_FOu (fr_X12_onceRead _) (by with_reducible assumption)) ?_); rotate_left; · first | decide +kernel | simp [gj_fsub])
    | (with_reducible refine gj_Fr.trans ?_ (gj_Fr.wide (gj_FOu (fr_X12_fitRead) (by with_reducible assumption)) ?_); rotate_left; · first | decide +kernel | simp [gj_fsub])

set_option maxHeartbeats 600000 in
theorem fr_B_X12_copies_82_2 {rec2 : Int → gj_M → Option (gj_M)} (hrec2 : ∀ (l1 : Int) (M : gj_M), gj_FO (fun m => m) [83] [] M (rec2 l1 M)) (l1 : Int) (M : gj_M) : gj_FO (fun m => m) [83] [] M (B_X12_copies_82_2 rec2 l1 M) := by
  unfold B_X12_copies_82_2
  have hM : gj_Fr [83] [] M M := gj_Fr.rf
  repeat' first
    | with_reducible assumption
    | with_reducible exact gj_Fr.rf
    | with_reducible exact fo_none
    | with_reducible refine fo_some ?_
    | with_reducible refine fo_ite ?_ ?_
    | with_reducible refine fo_chk ?_
    | with_reducible refine fo_let ?_ (fun _ _ => ?_)
    | with_reducible refine fo_letI (fun _ => ?_)
    | with_reducible refine fo_let2 ?_ (fun _ _ _ => ?_)
    | with_reducible refine fo_bndM (fun _ _ => ?_) (fun _ _ => ?_)
    | with_reducible refine fo_bnd (fun _ => ?_)
    | with_reducible refine fo_bnd2 (fun _ _ _ => ?_) (fun _ _ _ => ?_)
    | (with_reducible refine gj_Fr.up ?_ ?_; rotate_left; · first | decide +kernel | rfl | simp)
    | (with_reducible refine gj_Fr.put ?_ ?_; rotate_left; · first | decide +kernel | rfl | simp)
    | (with_reducible refine gj_Fr.fill ?_ ?_; rotate_left; · first | decide +kernel | rfl | simp)
    | (with_reducible refine gj_Fr.copy ?_ ?_; rotate_left; · first | decide +kernel | rfl | simp)
    | with_reducible exact fo_tr (by with_reducible assumption) (hrec2 _ _)

theorem frL_X12_copies_82_2 : ∀ (m : Nat) (l1 : Int) (M : gj_M), gj_FO (fun m => m) [83] [] M (gj_it (fun _ _ => none) (B_X12_copies_82_2) m l1 M)
  | 0, l1, M => fun r e => by cases (show (none : Option (gj_M)) = some r from e)
  | m + 1, l1, M => fr_B_X12_copies_82_2 (fun l1 M => frL_X12_copies_82_2 m l1 M) l1 M
set_option maxHeartbeats 600000 in
theorem fr_X12_copies_82 {M : gj_M} : gj_FO (fun m => m) [83] [] M (F_X12_copies_82 M) := by
  unfold F_X12_copies_82
  have hM : gj_Fr [83] [] M M := gj_Fr.rf
  repeat' first
    | with_reducible assumption
    | with_reducible exact gj_Fr.rf
    | with_reducible exact fo_none
    | with_reducible refine fo_some ?_
    | with_reducible refine fo_ite ?_ ?_
    | with_reducible refine fo_chk ?_
    | with_reducible refine fo_let ?_ (fun _ _ => ?_)
    | with_reducible refine fo_letI (fun _ => ?_)
    | with_reducible refine fo_let2 ?_ (fun _ _ _ => ?_)
    | with_reducible refine fo_bndM (fun _ _ => ?_) (fun _ _ => ?_)
    | with_reducible refine fo_bnd (fun _ => ?_)
    | with_reducible refine fo_bnd2 (fun _ _ _ => ?_) (fun _ _ _ => ?_)
    | (with_reducible refine gj_Fr.up ?_ ?_; rotate_left; · first | decide +kernel | rfl | simp)
    | (with_reducible refine gj_Fr.put ?_ ?_; rotate_left; · first | decide +kernel | rfl | simp)
    | (with_reducible refine gj_Fr.fill ?_ ?_; rotate_left; · first | decide +kernel | rfl | simp)
    | (with_reducible refine gj_Fr.copy ?_ ?_; rotate_left; · first | decide +kernel | rfl | simp)
    | with_reducible exact fo_tr (by with_reducible assumption) (frL_X12_copies_82_2 _ _ _)

set_option maxHeartbeats 600000 in
theorem fr_B_X12_copies_85_2 {rec2 : Int → gj_M → Option (gj_M)} (hrec2 : ∀ (l1 : Int) (M : gj_M), gj_FO (fun m => m) [86] [] M (rec2 l1 M)) (l1 : Int) (M : gj_M) : gj_FO (fun m => m) [86] [] M (B_X12_copies_85_2 rec2 l1 M) := by
  unfold B_X12_copies_85_2
  have hM : gj_Fr [86] [] M M := gj_Fr.rf
  repeat' first
    | with_reducible assumption
    | with_reducible exact gj_Fr.rf
    | with_reducible exact fo_none
    | with_reducible refine fo_some ?_
    | with_reducible refine fo_ite ?_ ?_
    | with_reducible refine fo_chk ?_
    | with_reducible refine fo_let ?_ (fun _ _ => ?_)
    | with_reducible refine fo_letI (fun _ => ?_)
    | with_reducible refine fo_let2 ?_ (fun _ _ _ => ?_)
    | with_reducible refine fo_bndM (fun _ _ => ?_) (fun _ _ => ?_)
    | with_reducible refine fo_bnd (fun _ => ?_)
    | with_reducible refine fo_bnd2 (fun _ _ _ => ?_) (fun _ _ _ => ?_)
    | (with_reducible refine gj_Fr.up ?_ ?_; rotate_left; · first | decide +kernel | rfl | simp)
    | (with_reducible refine gj_Fr.put ?_ ?_; rotate_left; · first | decide +kernel | rfl | simp)
    | (with_reducible refine gj_Fr.fill ?_ ?_; rotate_left; · first | decide +kernel | rfl | simp)
    | (with_reducible refine gj_Fr.copy ?_ ?_; rotate_left; · first | decide +kernel | rfl | simp)
    | with_reducible exact fo_tr (by with_reducible assumption) (hrec2 _ _)

theorem frL_X12_copies_85_2 : ∀ (m : Nat) (l1 : Int) (M : gj_M), gj_FO (fun m => m) [86] [] M (gj_it (fun _ _ => none) (B_X12_copies_85_2) m l1 M)
  | 0, l1, M => fun r e => by cases (show (none : Option (gj_M)) = some r from e)
  | m + 1, l1, M => fr_B_X12_copies_85_2 (fun l1 M => frL_X12_copies_85_2 m l1 M) l1 M
set_option maxHeartbeats 600000 in
theorem fr_X12_copies_85 {M : gj_M} : gj_FO (fun m => m) [86] [] M (F_X12_copies_85 M) := by
  unfold F_X12_copies_85
  have hM : gj_Fr [86] [] M M := gj_Fr.rf
  repeat' first
    | with_reducible assumption
    | with_reducible exact gj_Fr.rf
    | with_reducible exact fo_none
    | with_reducible refine fo_some ?_
    | with_reducible refine fo_ite ?_ ?_
    | with_reducible refine fo_chk ?_
    | with_reducible refine fo_let ?_ (fun _ _ => ?_)
    | with_reducible refine fo_letI (fun _ => ?_)
    | with_reducible refine fo_let2 ?_ (fun _ _ _ => ?_)
    | with_reducible refine fo_bndM (fun _ _ => ?_) (fun _ _ => ?_)
    | with_reducible refine fo_bnd (fun _ => ?_)
    | with_reducible refine fo_bnd2 (fun _ _ _ => ?_) (fun _ _ _ => ?_)
    | (with_reducible refine gj_Fr.up ?_ ?_; rotate_left; · first | decide +kernel | rfl | simp)
    | (with_reducible refine gj_Fr.put ?_ ?_; rotate_left; · first | decide +kernel | rfl | simp)
    | (with_reducible refine gj_Fr.fill ?_ ?_; rotate_left; · first | decide +kernel | rfl | simp)
    | (with_reducible refine gj_Fr.copy ?_ ?_; rotate_left; · first | decide +kernel | rfl | simp)
    | with_reducible exact fo_tr (by with_reducible assumption) (frL_X12_copies_85_2 _ _ _)

set_option maxHeartbeats 600000 in
theorem fr_B_X12_copies_88_2 {rec2 : Int → gj_M → Option (gj_M)} (hrec2 : ∀ (l1 : Int) (M : gj_M), gj_FO (fun m => m) [89] [] M (rec2 l1 M)) (l1 : Int) (M : gj_M) : gj_FO (fun m => m) [89] [] M (B_X12_copies_88_2 rec2 l1 M) := by
  unfold B_X12_copies_88_2
  have hM : gj_Fr [89] [] M M := gj_Fr.rf
  repeat' first
    | with_reducible assumption
    | with_reducible exact gj_Fr.rf
    | with_reducible exact fo_none
    | with_reducible refine fo_some ?_
    | with_reducible refine fo_ite ?_ ?_
    | with_reducible refine fo_chk ?_
    | with_reducible refine fo_let ?_ (fun _ _ => ?_)
    | with_reducible refine fo_letI (fun _ => ?_)
    | with_reducible refine fo_let2 ?_ (fun _ _ _ => ?_)
    | with_reducible refine fo_bndM (fun _ _ => ?_) (fun _ _ => ?_)
    | with_reducible refine fo_bnd (fun _ => ?_)
    | with_reducible refine fo_bnd2 (fun _ _ _ => ?_) (fun _ _ _ => ?_)
    | (with_reducible refine gj_Fr.up ?_ ?_; rotate_left; · first | decide +kernel | rfl | simp)
    | (with_reducible refine gj_Fr.put ?_ ?_; rotate_left; · first | decide +kernel | rfl | simp)
    | (with_reducible refine gj_Fr.fill ?_ ?_; rotate_left; · first | decide +kernel | rfl | simp)
    | (with_reducible refine gj_Fr.copy ?_ ?_; rotate_left; · first | decide +kernel | rfl | simp)
    | with_reducible exact fo_tr (by with_reducible assumption) (hrec2 _ _)

theorem frL_X12_copies_88_2 : ∀ (m : Nat) (l1 : Int) (M : gj_M), gj_FO (fun m => m) [89] [] M (gj_it (fun _ _ => none) (B_X12_copies_88_2) m l1 M)
  | 0, l1, M => fun r e => by cases (show (none : Option (gj_M)) = some r from e)
  | m + 1, l1, M => fr_B_X12_copies_88_2 (fun l1 M => frL_X12_copies_88_2 m l1 M) l1 M
set_option maxHeartbeats 600000 in
theorem fr_X12_copies_88 {M : gj_M} : gj_FO (fun m => m) [89] [] M (F_X12_copies_88 M) := by
  unfold F_X12_copies_88
  have hM : gj_Fr [89] [] M M := gj_Fr.rf
  repeat' first
    | with_reducible assumption
    | with_reducible exact gj_Fr.rf
    | with_reducible exact fo_none
    | with_reducible refine fo_some ?_
    | with_reducible refine fo_ite ?_ ?_
    | with_reducible refine fo_chk ?_
    | with_reducible refine fo_let ?_ (fun _ _ => ?_)
    | with_reducible refine fo_letI (fun _ => ?_)
    | with_reducible refine fo_let2 ?_ (fun _ _ _ => ?_)
    | with_reducible refine fo_bndM (fun _ _ => ?_) (fun _ _ => ?_)
    | with_reducible refine fo_bnd (fun _ => ?_)
    | with_reducible refine fo_bnd2 (fun _ _ _ => ?_) (fun _ _ _ => ?_)
    | (with_reducible refine gj_Fr.up ?_ ?_; rotate_left; · first | decide +kernel | rfl | simp)
    | (with_reducible refine gj_Fr.put ?_ ?_; rotate_left; · first | decide +kernel | rfl | simp)
    | (with_reducible refine gj_Fr.fill ?_ ?_; rotate_left; · first | decide +kernel | rfl | simp)
    | (with_reducible refine gj_Fr.copy ?_ ?_; rotate_left; · first | decide +kernel | rfl | simp)
    | with_reducible exact fo_tr (by with_reducible assumption) (frL_X12_copies_88_2 _ _ _)

set_option maxHeartbeats 600000 in
theorem fr_B_X12_copies_91_2 {rec2 : Int → gj_M → Option (gj_M)} (hrec2 : ∀ (l1 : Int) (M : gj_M), gj_FO (fun m => m) [92] [] M (rec2 l1 M)) (l1 : Int) (M : gj_M) : gj_FO (fun m => m) [92] [] M (B_X12_copies_91_2 rec2 l1 M) := by
  unfold B_X12_copies_91_2
  have hM : gj_Fr [92] [] M M := gj_Fr.rf
  repeat' first
    | with_reducible assumption
    | with_reducible exact gj_Fr.rf
    | with_reducible exact fo_none
    | with_reducible refine fo_some ?_
    | with_reducible refine fo_ite ?_ ?_
    | with_reducible refine fo_chk ?_
    | with_reducible refine fo_let ?_ (fun _ _ => ?_)
    | with_reducible refine fo_letI (fun _ => ?_)
    | with_reducible refine fo_let2 ?_ (fun _ _ _ => ?_)
    | with_reducible refine fo_bndM (fun _ _ => ?_) (fun _ _ => ?_)
    | with_reducible refine fo_bnd (fun _ => ?_)
    | with_reducible refine fo_bnd2 (fun _ _ _ => ?_) (fun _ _ _ => ?_)
    | (with_reducible refine gj_Fr.up ?_ ?_; rotate_left; · first | decide +kernel | rfl | simp)
    | (with_reducible refine gj_Fr.put ?_ ?_; rotate_left; · first | decide +kernel | rfl | simp)
    | (with_reducible refine gj_Fr.fill ?_ ?_; rotate_left; · first | decide +kernel | rfl | simp)
    | (with_reducible refine gj_Fr.copy ?_ ?_; rotate_left; · first | decide +kernel | rfl | simp)
    | with_reducible exact fo_tr (by with_reducible assumption) (hrec2 _ _)

theorem frL_X12_copies_91_2 : ∀ (m : Nat) (l1 : Int) (M : gj_M), gj_FO (fun m => m) [92] [] M (gj_it (fun _ _ => none) (B_X12_copies_91_2) m l1 M)
  | 0, l1, M => fun r e => by cases (show (none : Option (gj_M)) = some r from e)
  | m + 1, l1, M => fr_B_X12_copies_91_2 (fun l1 M => frL_X12_copies_91_2 m l1 M) l1 M
set_option maxHeartbeats 600000 in
theorem fr_X12_copies_91 {M : gj_M} : gj_FO (fun m => m) [92] [] M (F_X12_copies_91 M) := by
  unfold F_X12_copies_91
  have hM : gj_Fr [92] [] M M := gj_Fr.rf
  repeat' first
    | with_reducible assumption
    | with_reducible exact gj_Fr.rf
    | with_reducible exact fo_none
    | with_reducible refine fo_some ?_
    | with_reducible refine fo_ite ?_ ?_
    | with_reducible refine fo_chk ?_
    | with_reducible refine fo_let ?_ (fun _ _ => ?_)
    | with_reducible refine fo_letI (fun _ => ?_)
    | with_reducible refine fo_let2 ?_ (fun _ _ _ => ?_)
    | with_reducible refine fo_bndM (fun _ _ => ?_) (fun _ _ => ?_)
    | with_reducible refine fo_bnd (fun _ => ?_)
    | with_reducible refine fo_bnd2 (fun _ _ _ => ?_) (fun _ _ _ => ?_)
    | (with_reducible refine gj_Fr.up ?_ ?_; rotate_left; · first | decide +kernel | rfl | simp)
    | (with_reducible refine gj_Fr.put ?_ ?_; rotate_left; · first | decide +kernel | rfl | simp)
    | (with_reducible refine gj_Fr.fill ?_ ?_; rotate_left; · first | decide +kernel | rfl | simp)
    | (with_reducible refine gj_Fr.copy ?_ ?_; rotate_left; · first | decide +kernel | rfl | simp)
    | with_reducible exact fo_tr (by with_reducible assumption) (frL_X12_copies_91_2 _ _ _)

set_option maxHeartbeats 600000 in
theorem fr_B_X12_copies_94_2 {rec2 : Int → gj_M → Option (gj_M)} (hrec2 : ∀ (l1 : Int) (M : gj_M), gj_FO (fun m => m) [95] [] M (rec2 l1 M)) (l1 : Int) (M : gj_M) : gj_FO (fun m => m) [95] [] M (B_X12_copies_94_2 rec2 l1 M) := by
  unfold B_X12_copies_94_2
  have hM : gj_Fr [95] [] M M := gj_Fr.rf
  repeat' first
    | with_reducible assumption
    | with_reducible exact gj_Fr.rf
    | with_reducible exact fo_none
    | with_reducible refine fo_some ?_
    | with_reducible refine fo_ite ?_ ?_
    | with_reducible refine fo_chk ?_
    | with_reducible refine fo_let ?_ (fun _ _ => ?_)
    | with_reducible refine fo_letI (fun _ => ?_)
    | with_reducible refine fo_let2 ?_ (fun _ _ _ => ?_)
    | with_reducible refine fo_bndM (fun _ _ => ?_) (fun _ _ => ?_)
    | with_reducible refine fo_bnd (fun _ => ?_)
    | with_reducible refine fo_bnd2 (fun _ _ _ => ?_) (fun _ _ _ => ?_)
    | (with_reducible refine gj_Fr.up ?_ ?_; rotate_left; · first | decide +kernel | rfl | simp)
    | (with_reducible refine gj_Fr.put ?_ ?_; rotate_left; · first | decide +kernel | rfl | simp)
    | (with_reducible refine gj_Fr.fill ?_ ?_; rotate_left; · first | decide +kernel | rfl | simp)
    | (with_reducible refine gj_Fr.copy ?_ ?_; rotate_left; · first | decide +kernel | rfl | simp)
    | with_reducible exact fo_tr (by with_reducible assumption) (hrec2 _ _)

theorem frL_X12_copies_94_2 : ∀ (m : Nat) (l1 : Int) (M : gj_M), gj_FO (fun m => m) [95] [] M (gj_it (fun _ _ => none) (B_X12_copies_94_2) m l1 M)
  | 0, l1, M => fun r e => by cases (show (none : Option (gj_M)) = some r from e)
  | m + 1, l1, M => fr_B_X12_copies_94_2 (fun l1 M => frL_X12_copies_94_2 m l1 M) l1 M
set_option maxHeartbeats 600000 in
theorem fr_X12_copies_94 {M : gj_M} : gj_FO (fun m => m) [95] [] M (F_X12_copies_94 M) := by
  unfold F_X12_copies_94
  have hM : gj_Fr [95] [] M M := gj_Fr.rf
  repeat' first
    | with_reducible assumption
    | with_reducible exact gj_Fr.rf
    | with_reducible exact fo_none
    | with_reducible refine fo_some ?_
    | with_reducible refine fo_ite ?_ ?_
    | with_reducible refine fo_chk ?_
    | with_reducible refine fo_let ?_ (fun _ _ => ?_)
    | with_reducible refine fo_letI (fun _ => ?_)
    | with_reducible refine fo_let2 ?_ (fun _ _ _ => ?_)
    | with_reducible refine fo_bndM (fun _ _ => ?_) (fun _ _ => ?_)
    | with_reducible refine fo_bnd (fun _ => ?_)
    | with_reducible refine fo_bnd2 (fun _ _ _ => ?_) (fun _ _ _ => ?_)
    | (with_reducible refine gj_Fr.up ?_ ?_; rotate_left; · first | decide +kernel | rfl | simp)
    | (with_reducible refine gj_Fr.put ?_ ?_; rotate_left; · first | decide +kernel | rfl | simp)
    | (with_reducible refine gj_Fr.fill ?_ ?_; rotate_left; · first | decide +kernel | rfl | simp)
    | (with_reducible refine gj_Fr.copy ?_ ?_; rotate_left; · first | decide +kernel | rfl | simp)
    | with_reducible exact fo_tr (by with_reducible assumption) (frL_X12_copies_94_2 _ _ _)

set_option maxHeartbeats 600000 in
theorem fr_B_X12_copies_97_2 {rec2 : Int → gj_M → Option (gj_M)} (hrec2 : ∀ (l1 : Int) (M : gj_M), gj_FO (fun m => m) [98] [] M (rec2 l1 M)) (l1 : Int) (M : gj_M) : gj_FO (fun m => m) [98] [] M (B_X12_copies_97_2 rec2 l1 M) := by
  unfold B_X12_copies_97_2
  have hM : gj_Fr [98] [] M M := gj_Fr.rf
  repeat' first
    | with_reducible assumption
    | with_reducible exact gj_Fr.rf
    | with_reducible exact fo_none
    | with_reducible refine fo_some ?_
    | with_reducible refine fo_ite ?_ ?_
    | with_reducible refine fo_chk ?_
    | with_reducible refine fo_let ?_ (fun _ _ => ?_)
    | with_reducible refine fo_letI (fun _ => ?_)
    | with_reducible refine fo_let2 ?_ (fun _ _ _ => ?_)
    | with_reducible refine fo_bndM (fun _ _ => ?_) (fun _ _ => ?_)
    | with_reducible refine fo_bnd (fun _ => ?_)
    | with_reducible refine fo_bnd2 (fun _ _ _ => ?_) (fun _ _ _ => ?_)
    | (with_reducible refine gj_Fr.up ?_ ?_; rotate_left; · first | decide +kernel | rfl | simp)
    | (with_reducible refine gj_Fr.put ?_ ?_; rotate_left; · first | decide +kernel | rfl | simp)
    | (with_reducible refine gj_Fr.fill ?_ ?_; rotate_left; · first | decide +kernel | rfl | simp)
    | (with_reducible refine gj_Fr.copy ?_ ?_; rotate_left; · first | decide +kernel | rfl | simp)
    | with_reducible exact fo_tr (by with_reducible assumption) (hrec2 _ _)

theorem frL_X12_copies_97_2 : ∀ (m : Nat) (l1 : Int) (M : gj_M), gj_FO (fun m => m) [98] [] M (gj_it (fun _ _ => none) (B_X12_copies_97_2) m l1 M)
  | 0, l1, M => fun r e => by cases (show (none : Option (gj_M)) = some r from e)
  | m + 1, l1, M => fr_B_X12_copies_97_2 (fun l1 M => frL_X12_copies_97_2 m l1 M) l1 M
set_option maxHeartbeats 600000 in
theorem fr_X12_copies_97 {M : gj_M} : gj_FO (fun m => m) [98] [] M (F_X12_copies_97 M) := by
  unfold F_X12_copies_97
  have hM : gj_Fr [98] [] M M := gj_Fr.rf
  repeat' first
    | with_reducible assumption
    | with_reducible exact gj_Fr.rf
    | with_reducible exact fo_none
    | with_reducible refine fo_some ?_
    | with_reducible refine fo_ite ?_ ?_
    | with_reducible refine fo_chk ?_
    | with_reducible refine fo_let ?_ (fun _ _ => ?_)
    | with_reducible refine fo_letI (fun _ => ?_)
    | with_reducible refine fo_let2 ?_ (fun _ _ _ => ?_)
    | with_reducible refine fo_bndM (fun _ _ => ?_) (fun _ _ => ?_)
    | with_reducible refine fo_bnd (fun _ => ?_)
    | with_reducible refine fo_bnd2 (fun _ _ _ => ?_) (fun _ _ _ => ?_)
    | (with_reducible refine gj_Fr.up ?_ ?_; rotate_left; · first | decide +kernel | rfl | simp)
    | (with_reducible refine gj_Fr.put ?_ ?_; rotate_left; · first | decide +kernel | rfl | simp)
    | (with_reducible refine gj_Fr.fill ?_ ?_; rotate_left; · first | decide +kernel | rfl | simp)
    | (with_reducible refine gj_Fr.copy ?_ ?_; rotate_left; · first | decide +kernel | rfl | simp)
    | with_reducible exact fo_tr (by with_reducible assumption) (frL_X12_copies_97_2 _ _ _)

set_option maxHeartbeats 600000 in
theorem fr_B_X12_copies_100_2 {rec2 : Int → gj_M → Option (gj_M)} (hrec2 : ∀ (l1 : Int) (M : gj_M), gj_FO (fun m => m) [101] [] M (rec2 l1 M)) (l1 : Int) (M : gj_M) : gj_FO (fun m => m) [101] [] M (B_X12_copies_100_2 rec2 l1 M) := by
  unfold B_X12_copies_100_2
  have hM : gj_Fr [101] [] M M := gj_Fr.rf
  repeat' first
    | with_reducible assumption
    | with_reducible exact gj_Fr.rf
    | with_reducible exact fo_none
    | with_reducible refine fo_some ?_
    | with_reducible refine fo_ite ?_ ?_
    | with_reducible refine fo_chk ?_
    | with_reducible refine fo_let ?_ (fun _ _ => ?_)
    | with_reducible refine fo_letI (fun _ => ?_)
    | with_reducible refine fo_let2 ?_ (fun _ _ _ => ?_)
    | with_reducible refine fo_bndM (fun _ _ => ?_) (fun _ _ => ?_)
    | with_reducible refine fo_bnd (fun _ => ?_)
    | with_reducible refine fo_bnd2 (fun _ _ _ => ?_) (fun _ _ _ => ?_)
    | (with_reducible refine gj_Fr.up ?_ ?_; rotate_left; · first | decide +kernel | rfl | simp)
    | (with_reducible refine gj_Fr.put ?_ ?_; rotate_left; · first | decide +kernel | rfl | simp)
    | (with_reducible refine gj_Fr.fill ?_ ?_; rotate_left; · first | decide +kernel | rfl | simp)
    | (with_reducible refine gj_Fr.copy ?_ ?_; rotate_left; · first | decide +kernel | rfl | simp)
    | with_reducible exact fo_tr (by with_reducible assumption) (hrec2 _ _)

theorem frL_X12_copies_100_2 : ∀ (m : Nat) (l1 : Int) (M : gj_M), gj_FO (fun m => m) [101] [] M (gj_it (fun _ _ => none) (B_X12_copies_100_2) m l1 M)
  | 0, l1, M => fun r e => by cases (show (none : Option (gj_M)) = some r from e)
  | m + 1, l1, M => fr_B_X12_copies_100_2 (fun l1 M => frL_X12_copies_100_2 m l1 M) l1 M
set_option maxHeartbeats 600000 in
theorem fr_X12_copies_100 {M : gj_M} : gj_FO (fun m => m) [101] [] M (F_X12_copies_100 M) := by
  unfold F_X12_copies_100
  have hM : gj_Fr [101] [] M M := gj_Fr.rf
  repeat' first
    | with_reducible assumption
    | with_reducible exact gj_Fr.rf
    | with_reducible exact fo_none
    | with_reducible refine fo_some ?_
    | with_reducible refine fo_ite ?_ ?_
    | with_reducible refine fo_chk ?_
    | with_reducible refine fo_let ?_ (fun _ _ => ?_)
    | with_reducible refine fo_letI (fun _ => ?_)
    | with_reducible refine fo_let2 ?_ (fun _ _ _ => ?_)
    | with_reducible refine fo_bndM (fun _ _ => ?_) (fun _ _ => ?_)
    | with_reducible refine fo_bnd (fun _ => ?_)
    | with_reducible refine fo_bnd2 (fun _ _ _ => ?_) (fun _ _ _ => ?_)
    | (with_reducible refine gj_Fr.up ?_ ?_; rotate_left; · first | decide +kernel | rfl | simp)
    | (with_reducible refine gj_Fr.put ?_ ?_; rotate_left; · first | decide +kernel | rfl | simp)
    | (with_reducible refine gj_Fr.fill ?_ ?_; rotate_left; · first | decide +kernel | rfl | simp)
    | (with_reducible refine gj_Fr.copy ?_ ?_; rotate_left; · first | decide +kernel | rfl | simp)
    | with_reducible exact fo_tr (by with_reducible assumption) (frL_X12_copies_100_2 _ _ _)

set_option maxHeartbeats 600000 in
theorem fr_J_X12_lays_156 {rec25 : Int → Int → gj_M → Option (gj_M)} (hrec25 : ∀ (l1 l2 : Int) (M : gj_M), gj_FO (fun m => m) [115, 116, 117, 118] [(79, 35), (79, 36), (79, 37)] M (rec25 l1 l2 M)) (l1 l2 : Int) (M : gj_M) : gj_FO (fun m => m) [115, 116, 117, 118] [(79, 35), (79, 36), (79, 37)] M (J_X12_lays_156 rec25 l1 l2 M) := by
  unfold J_X12_lays_156
  have hM : gj_Fr [115, 116, 117, 118] [(79, 35), (79, 36), (79, 37)] M M := gj_Fr.rf
  repeat' first
    | with_reducible assumption
    | with_reducible exact gj_Fr.rf
    | with_reducible exact fo_none
    | with_reducible refine fo_some ?_
    | with_reducible refine fo_ite ?_ ?_
    | with_reducible refine fo_chk ?_
    | with_reducible refine fo_let ?_ (fun _ _ => ?_)
    | with_reducible refine fo_letI (fun _ => ?_)
    | with_reducible refine fo_let2 ?_ (fun _ _ _ => ?_)
    | with_reducible refine fo_bndM (fun _ _ => ?_) (fun _ _ => ?_)
    | with_reducible refine fo_bnd (fun _ => ?_)
    | with_reducible refine fo_bnd2 (fun _ _ _ => ?_) (fun _ _ _ => ?_)
    | (with_reducible refine gj_Fr.up ?_ ?_; rotate_left; · first | decide +kernel | rfl | simp)
    | (with_reducible refine gj_Fr.put ?_ ?_; rotate_left; · first | decide +kernel | rfl | simp)
    | (with_reducible refine gj_Fr.fill ?_ ?_; rotate_left; · first | decide +kernel | rfl | simp)
    | (with_reducible refine gj_Fr.copy ?_ ?_; rotate_left; · first | decide +kernel | rfl | simp)
    | with_reducible exact fo_tr (by with_reducible assumption) (hrec25 _ _ _)

set_option maxHeartbeats 600000 in
theorem fr_B_X12_lays_86 {rec25 : Int → Int → gj_M → Option (gj_M)} {rec86 : Int → Int → Int → Int → gj_M → Option (gj_M)} (hrec25 : ∀ (l1 l2 : Int) (M : gj_M), gj_FO (fun m => m) [115, 116, 117, 118] [(79, 35), (79, 36), (79, 37)] M (rec25 l1 l2 M)) (hrec86 : ∀ (l1 l2 l3 l4 : Int) (M : gj_M), gj_FO (fun m => m) [115, 116, 117, 118] [(79, 35), (79, 36), (79, 37)] M (rec86 l1 l2 l3 l4 M)) (l1 l2 l3 l4 : Int) (M : gj_M) : gj_FO (fun m => m) [115, 116, 117, 118] [(79, 35), (79, 36), (79, 37)] M (B_X12_lays_86 rec25 rec86 l1 l2 l3 l4 M) := by
  unfold B_X12_lays_86
  have hM : gj_Fr [115, 116, 117, 118] [(79, 35), (79, 36), (79, 37)] M M := gj_Fr.rf
  repeat' first
    | with_reducible assumption
    | with_reducible exact gj_Fr.rf
    | with_reducible exact fo_none
    | with_reducible refine fo_some ?_
    | with_reducible refine fo_ite ?_ ?_
    | with_reducible refine fo_chk ?_
    | with_reducible refine fo_let ?_ (fun _ _ => ?_)
    | with_reducible refine fo_letI (fun _ => ?_)
    | with_reducible refine fo_let2 ?_ (fun _ _ _ => ?_)
    | with_reducible refine fo_bndM (fun _ _ => ?_) (fun _ _ => ?_)
    | with_reducible refine fo_bnd (fun _ => ?_)
    | with_reducible refine fo_bnd2 (fun _ _ _ => ?_) (fun _ _ _ => ?_)
    | (with_reducible refine gj_Fr.up ?_ ?_; rotate_left; · first | decide +kernel | rfl | simp)
    | (with_reducible refine gj_Fr.put ?_ ?_; rotate_left; · first | decide +kernel | rfl | simp)
    | (with_reducible refine gj_Fr.fill ?_ ?_; rotate_left; · first | decide +kernel | rfl | simp)
    | (with_reducible refine gj_Fr.copy ?_ ?_; rotate_left; · first | decide +kernel | rfl | simp)
    | with_reducible exact fo_tr (by with_reducible assumption) (fr_J_X12_lays_156 hrec25 _ _ _)
    | with_reducible exact fo_tr (by with_reducible assumption) (hrec25 _ _ _)
    | with_reducible exact fo_tr (by with_reducible assumption) (hrec86 _ _ _ _ _)

theorem frL_X12_lays_86 {rec25 : Int → Int → gj_M → Option (gj_M)} (hrec25 : ∀ (l1 l2 : Int) (M : gj_M), gj_FO (fun m => m) [115, 116, 117, 118] [(79, 35), (79, 36), (79, 37)] M (rec25 l1 l2 M)) : ∀ (m : Nat) (l1 l2 l3 l4 : Int) (M : gj_M), gj_FO (fun m => m) [115, 116, 117, 118] [(79, 35), (79, 36), (79, 37)] M (gj_it (fun _ _ _ _ _ => none) (B_X12_lays_86 rec25) m l1 l2 l3 l4 M)
  | 0, l1, l2, l3, l4, M => fun r e => by cases (show (none : Option (gj_M)) = some r from e)
  | m + 1, l1, l2, l3, l4, M => fr_B_X12_lays_86 hrec25 (fun l1 l2 l3 l4 M => frL_X12_lays_86 hrec25 m l1 l2 l3 l4 M) l1 l2 l3 l4 M
set_option maxHeartbeats 600000 in
theorem fr_B_X12_lays_25 {rec25 : Int → Int → gj_M → Option (gj_M)} (hrec25 : ∀ (l1 l2 : Int) (M : gj_M), gj_FO (fun m => m) [115, 116, 117, 118] [(79, 35), (79, 36), (79, 37)] M (rec25 l1 l2 M)) (l1 l2 : Int) (M : gj_M) : gj_FO (fun m => m) [115, 116, 117, 118] [(79, 35), (79, 36), (79, 37)] M (B_X12_lays_25 rec25 l1 l2 M) := by
  unfold B_X12_lays_25
  have hM : gj_Fr [115, 116, 117, 118] [(79, 35), (79, 36), (79, 37)] M M := gj_Fr.rf
  repeat' first
    | with_reducible assumption
    | with_reducible exact gj_Fr.rf
    | with_reducible exact fo_none
    | with_reducible refine fo_some ?_
    | with_reducible refine fo_ite ?_ ?_
    | with_reducible refine fo_chk ?_
    | with_reducible refine fo_let ?_ (fun _ _ => ?_)
    | with_reducible refine fo_letI (fun _ => ?_)
    | with_reducible refine fo_let2 ?_ (fun _ _ _ => ?_)
    | with_reducible refine fo_bndM (fun _ _ => ?_) (fun _ _ => ?_)
    | with_reducible refine fo_bnd (fun _ => ?_)
    | with_reducible refine fo_bnd2 (fun _ _ _ => ?_) (fun _ _ _ => ?_)
    | (with_reducible refine gj_Fr.up ?_ ?_; rotate_left; · first | decide +kernel | rfl | simp)
    | (with_reducible refine gj_Fr.put ?_ ?_; rotate_left; · first | decide +kernel | rfl | simp)
    | (with_reducible refine gj_Fr.fill ?_ ?_; rotate_left; · first | decide +kernel | rfl | simp)
    | (with_reducible refine gj_Fr.copy ?_ ?_; rotate_left; · first | decide +kernel | rfl | simp)
    | with_reducible exact fo_tr (by with_reducible assumption) (frL_X12_lays_86 hrec25 _ _ _ _ _ _)
    | with_reducible exact fo_tr (by with_reducible assumption) (hrec25 _ _ _)

theorem frL_X12_lays_25 : ∀ (m : Nat) (l1 l2 : Int) (M : gj_M), gj_FO (fun m => m) [115, 116, 117, 118] [(79, 35), (79, 36), (79, 37)] M (gj_it (fun _ _ _ => none) (B_X12_lays_25) m l1 l2 M)
  | 0, l1, l2, M => fun r e => by cases (show (none : Option (gj_M)) = some r from e)
  | m + 1, l1, l2, M => fr_B_X12_lays_25 (fun l1 l2 M => frL_X12_lays_25 m l1 l2 M) l1 l2 M
set_option maxHeartbeats 600000 in
theorem fr_X12_lays (a1 : Int) {M : gj_M} : gj_FO (fun m => m) [115, 116, 117, 118] [(79, 35), (79, 36), (79, 37)] M (F_X12_lays a1 M) := by
  unfold F_X12_lays
  have hM : gj_Fr [115, 116, 117, 118] [(79, 35), (79, 36), (79, 37)] M M := gj_Fr.rf
  repeat' first
    | with_reducible assumption
    | with_reducible exact gj_Fr.rf
    | with_reducible exact fo_none
    | with_reducible refine fo_some ?_
    | with_reducible refine fo_ite ?_ ?_
    | with_reducible refine fo_chk ?_
    | with_reducible refine fo_let ?_ (fun _ _ => ?_)
    | with_reducible refine fo_letI (fun _ => ?_)
    | with_reducible refine fo_let2 ?_ (fun _ _ _ => ?_)
    | with_reducible refine fo_bndM (fun _ _ => ?_) (fun _ _ => ?_)
    | with_reducible refine fo_bnd (fun _ => ?_)
    | with_reducible refine fo_bnd2 (fun _ _ _ => ?_) (fun _ _ _ => ?_)
    | (with_reducible refine gj_Fr.up ?_ ?_; rotate_left; · first | decide +kernel | rfl | simp)
    | (with_reducible refine gj_Fr.put ?_ ?_; rotate_left; · first | decide +kernel | rfl | simp)
    | (with_reducible refine gj_Fr.fill ?_ ?_; rotate_left; · first | decide +kernel | rfl | simp)
    | (with_reducible refine gj_Fr.copy ?_ ?_; rotate_left; · first | decide +kernel | rfl | simp)
    | with_reducible exact fo_tr (by with_reducible assumption) (frL_X12_lays_25 _ _ _ _)

set_option maxHeartbeats 600000 in
theorem fr_J_X12_with_66 {rec : Int → Int → Int → gj_M → Option (Int × gj_M)} (hrec : ∀ (b0 : Int) (b1 : Int) (b2 : Int) (M : gj_M), gj_FO Prod.snd [115, 116] [(79, 38)] M (rec b0 b1 b2 M)) (l1 l2 l3 l5 s0 s1 : Int) (M : gj_M) : gj_FO Prod.snd [115, 116] [(79, 38)] M (J_X12_with_66 rec l1 l2 l3 l5 s0 s1 M) := by
  unfold J_X12_with_66
  have hM : gj_Fr [115, 116] [(79, 38)] M M := gj_Fr.rf
  repeat' first
    | with_reducible assumption
    | with_reducible exact gj_Fr.rf
    | with_reducible exact fo_none
    | with_reducible refine fo_some ?_
    | with_reducible refine fo_ite ?_ ?_
    | with_reducible refine fo_chk ?_
    | with_reducible refine fo_let ?_ (fun _ _ => ?_)
    | with_reducible refine fo_letI (fun _ => ?_)
    | with_reducible refine fo_let2 ?_ (fun _ _ _ => ?_)
    | with_reducible refine fo_bndM (fun _ _ => ?_) (fun _ _ => ?_)
    | with_reducible refine fo_bnd (fun _ => ?_)
    | with_reducible refine fo_bnd2 (fun _ _ _ => ?_) (fun _ _ _ => ?_)
    | (with_reducible refine gj_Fr.up ?_ ?_; rotate_left; · first | decide +kernel | rfl | simp)
    | (with_reducible refine gj_Fr.put ?_ ?_; rotate_left; · first | decide +kernel | rfl | simp)
    | (with_reducible refine gj_Fr.fill ?_ ?_; rotate_left; · first | decide +kernel | rfl | simp)
    | (with_reducible refine gj_Fr.copy ?_ ?_; rotate_left; · first | decide +kernel | rfl | simp)
    | with_reducible exact gj_Fr.trans (by with_reducible assumption) (gj_FOu (hrec _ _ _ _) (by with_reducible assumption))

set_option maxHeartbeats 600000 in
theorem fr_X12_with {rec : Int → Int → Int → gj_M → Option (Int × gj_M)} (hrec : ∀ (b0 : Int) (b1 : Int) (b2 : Int) (M : gj_M), gj_FO Prod.snd [115, 116] [(79, 38)] M (rec b0 b1 b2 M)) (a1 : Int) (a2 : Int) (a3 : Int) {M : gj_M} : gj_FO Prod.snd [115, 116] [(79, 38)] M (F_X12_with rec a1 a2 a3 M) := by
  unfold F_X12_with
  have hM : gj_Fr [115, 116] [(79, 38)] M M := gj_Fr.rf
  repeat' first
    | with_reducible assumption
    | with_reducible exact gj_Fr.rf
    | with_reducible exact fo_none
    | with_reducible refine fo_some ?_
    | with_reducible refine fo_ite ?_ ?_
    | with_reducible refine fo_chk ?_
    | with_reducible refine fo_let ?_ (fun _ _ => ?_)
    | with_reducible refine fo_letI (fun _ => ?_)
    | with_reducible refine fo_let2 ?_ (fun _ _ _ => ?_)
    | with_reducible refine fo_bndM (fun _ _ => ?_) (fun _ _ => ?_)
    | with_reducible refine fo_bnd (fun _ => ?_)
    | with_reducible refine fo_bnd2 (fun _ _ _ => ?_) (fun _ _ _ => ?_)
    | (with_reducible refine gj_Fr.up ?_ ?_; rotate_left; · first | decide +kernel | rfl | simp)
    | (with_reducible refine gj_Fr.put ?_ ?_; rotate_left; · first | decide +kernel | rfl | simp)
    | (with_reducible refine gj_Fr.fill ?_ ?_; rotate_left; · first | decide +kernel | rfl | simp)
    | (with_reducible refine gj_Fr.copy ?_ ?_; rotate_left; · first | decide +kernel | rfl | simp)
    | with_reducible exact fo_tr (by with_reducible assumption) (fr_J_X12_with_66 hrec _ _ _ _ _ _ _)
    | with_reducible exact gj_Fr.trans (by with_reducible assumption) (gj_FOu (hrec _ _ _ _) (by with_reducible assumption))

set_option maxHeartbeats 600000 in
theorem fr_J_X12_by_23 {rec : Int → Int → Int → gj_M → Option (Int × gj_M)} (hrec : ∀ (b0 : Int) (b1 : Int) (b2 : Int) (M : gj_M), gj_FO Prod.snd [115, 116] [(79, 38)] M (rec b0 b1 b2 M)) (l1 l2 l3 l4 s0 : Int) (M : gj_M) : gj_FO Prod.snd [115, 116] [(79, 38)] M (J_X12_by_23 rec l1 l2 l3 l4 s0 M) := by
  unfold J_X12_by_23
  have hM : gj_Fr [115, 116] [(79, 38)] M M := gj_Fr.rf
  repeat' first
    | with_reducible assumption
    | with_reducible exact gj_Fr.rf
    | with_reducible exact fo_none
    | with_reducible refine fo_some ?_
    | with_reducible refine fo_ite ?_ ?_
    | with_reducible refine fo_chk ?_
    | with_reducible refine fo_let ?_ (fun _ _ => ?_)
    | with_reducible refine fo_letI (fun _ => ?_)
    | with_reducible refine fo_let2 ?_ (fun _ _ _ => ?_)
    | with_reducible refine fo_bndM (fun _ _ => ?_) (fun _ _ => ?_)
    | with_reducible refine fo_bnd (fun _ => ?_)
    | with_reducible refine fo_bnd2 (fun _ _ _ => ?_) (fun _ _ _ => ?_)
    | (with_reducible refine gj_Fr.up ?_ ?_; rotate_left; · first | decide +kernel | rfl | simp)
    | (with_reducible refine gj_Fr.put ?_ ?_; rotate_left; · first | decide +kernel | rfl | simp)
    | (with_reducible refine gj_Fr.fill ?_ ?_; rotate_left; · first | decide +kernel | rfl | simp)
    | (with_reducible refine gj_Fr.copy ?_ ?_; rotate_left; · first | decide +kernel | rfl | simp)
    | (with_reducible refine gj_Fr.trans ?_ (gj_Fr.wide (gj_FOu (fr_X12_with hrec _ _ _) (by with_reducible assumption)) ?_); rotate_left; · first | decide +kernel | simp [gj_fsub])
    | with_reducible exact gj_Fr.trans (by with_reducible assumption) (gj_FOu (hrec _ _ _ _) (by with_reducible assumption))

set_option maxHeartbeats 600000 in
theorem fr_X12_by {rec : Int → Int → Int → gj_M → Option (Int × gj_M)} (hrec : ∀ (b0 : Int) (b1 : Int) (b2 : Int) (M : gj_M), gj_FO Prod.snd [115, 116] [(79, 38)] M (rec b0 b1 b2 M)) (a1 : Int) (a2 : Int) (a3 : Int) (a4 : Int) {M : gj_M} : gj_FO Prod.snd [115, 116] [(79, 38)] M (F_X12_by rec a1 a2 a3 a4 M) := by
  unfold F_X12_by
  have hM : gj_Fr [115, 116] [(79, 38)] M M := gj_Fr.rf
  repeat' first
    | with_reducible assumption
    | with_reducible exact gj_Fr.rf
    | with_reducible exact fo_none
    | with_reducible refine fo_some ?_
    | with_reducible refine fo_ite ?_ ?_
    | with_reducible refine fo_chk ?_
    | with_reducible refine fo_let ?_ (fun _ _ => ?_)
    | with_reducible refine fo_letI (fun _ => ?_)
    | with_reducible refine fo_let2 ?_ (fun _ _ _ => ?_)
    | with_reducible refine fo_bndM (fun _ _ => ?_) (fun _ _ => ?_)
    | with_reducible refine fo_bnd (fun _ => ?_)
    | with_reducible refine fo_bnd2 (fun _ _ _ => ?_) (fun _ _ _ => ?_)
    | (with_reducible refine gj_Fr.up ?_ ?_; rotate_left; · first | decide +kernel | rfl | simp)
    | (with_reducible refine gj_Fr.put ?_ ?_; rotate_left; · first | decide +kernel | rfl | simp)
    | (with_reducible refine gj_Fr.fill ?_ ?_; rotate_left; · first | decide +kernel | rfl | simp)
    | (with_reducible refine gj_Fr.copy ?_ ?_; rotate_left; · first | decide +kernel | rfl | simp)
    | with_reducible exact fo_tr (by with_reducible assumption) (fr_J_X12_by_23 hrec _ _ _ _ _ _)
    | (with_reducible refine gj_Fr.trans ?_ (gj_Fr.wide (gj_FOu (fr_X12_with hrec _ _ _) (by with_reducible assumption)) ?_); rotate_left; · first | decide +kernel | simp [gj_fsub])
    | with_reducible exact gj_Fr.trans (by with_reducible assumption) (gj_FOu (hrec _ _ _ _) (by with_reducible assumption))

set_option maxHeartbeats 600000 in
theorem fr_J_X12_worth_99 {rec : Int → Int → Int → gj_M → Option (Int × gj_M)} (hrec : ∀ (b0 : Int) (b1 : Int) (b2 : Int) (M : gj_M), gj_FO Prod.snd [115, 116] [(79, 38)] M (rec b0 b1 b2 M)) (l4 l5 : Int) (M : gj_M) : gj_FO Prod.snd [115, 116] [(79, 38)] M (J_X12_worth_99 rec l4 l5 M) := by
  unfold J_X12_worth_99
  have hM : gj_Fr [115, 116] [(79, 38)] M M := gj_Fr.rf
  repeat' first
    | with_reducible assumption
    | with_reducible exact gj_Fr.rf
    | with_reducible exact fo_none
    | with_reducible refine fo_some ?_
    | with_reducible refine fo_ite ?_ ?_
    | with_reducible refine fo_chk ?_
    | with_reducible refine fo_let ?_ (fun _ _ => ?_)
    | with_reducible refine fo_letI (fun _ => ?_)
    | with_reducible refine fo_let2 ?_ (fun _ _ _ => ?_)
    | with_reducible refine fo_bndM (fun _ _ => ?_) (fun _ _ => ?_)
    | with_reducible refine fo_bnd (fun _ => ?_)
    | with_reducible refine fo_bnd2 (fun _ _ _ => ?_) (fun _ _ _ => ?_)
    | (with_reducible refine gj_Fr.up ?_ ?_; rotate_left; · first | decide +kernel | rfl | simp)
    | (with_reducible refine gj_Fr.put ?_ ?_; rotate_left; · first | decide +kernel | rfl | simp)
    | (with_reducible refine gj_Fr.fill ?_ ?_; rotate_left; · first | decide +kernel | rfl | simp)
    | (with_reducible refine gj_Fr.copy ?_ ?_; rotate_left; · first | decide +kernel | rfl | simp)
    | (with_reducible refine gj_Fr.trans ?_ (gj_Fr.wide (gj_FOu (fr_X12_by hrec _ _ _ _) (by with_reducible assumption)) ?_); rotate_left; · first | decide +kernel | simp [gj_fsub])
    | with_reducible exact gj_Fr.trans (by with_reducible assumption) (gj_FOu (hrec _ _ _ _) (by with_reducible assumption))

set_option maxHeartbeats 600000 in
theorem fr_J_X12_worth_93 {rec : Int → Int → Int → gj_M → Option (Int × gj_M)} (hrec : ∀ (b0 : Int) (b1 : Int) (b2 : Int) (M : gj_M), gj_FO Prod.snd [115, 116] [(79, 38)] M (rec b0 b1 b2 M)) {rec31 : Int → Int → Int → Int → Int → Int → gj_M → Option (Int × gj_M)} (hrec31 : ∀ (l1 l2 l3 l4 l5 l6 : Int) (M : gj_M), gj_FO Prod.snd [115, 116] [(79, 38)] M (rec31 l1 l2 l3 l4 l5 l6 M)) (l1 l2 l3 l4 l5 l6 : Int) (M : gj_M) : gj_FO Prod.snd [115, 116] [(79, 38)] M (J_X12_worth_93 rec rec31 l1 l2 l3 l4 l5 l6 M) := by
  unfold J_X12_worth_93
  have hM : gj_Fr [115, 116] [(79, 38)] M M := gj_Fr.rf
  repeat' first
    | with_reducible assumption
    | with_reducible exact gj_Fr.rf
    | with_reducible exact fo_none
    | with_reducible refine fo_some ?_
    | with_reducible refine fo_ite ?_ ?_
    | with_reducible refine fo_chk ?_
    | with_reducible refine fo_let ?_ (fun _ _ => ?_)
    | with_reducible refine fo_letI (fun _ => ?_)
    | with_reducible refine fo_let2 ?_ (fun _ _ _ => ?_)
    | with_reducible refine fo_bndM (fun _ _ => ?_) (fun _ _ => ?_)
    | with_reducible refine fo_bnd (fun _ => ?_)
    | with_reducible refine fo_bnd2 (fun _ _ _ => ?_) (fun _ _ _ => ?_)
    | (with_reducible refine gj_Fr.up ?_ ?_; rotate_left; · first | decide +kernel | rfl | simp)
    | (with_reducible refine gj_Fr.put ?_ ?_; rotate_left; · first | decide +kernel | rfl | simp)
    | (with_reducible refine gj_Fr.fill ?_ ?_; rotate_left; · first | decide +kernel | rfl | simp)
    | (with_reducible refine gj_Fr.copy ?_ ?_; rotate_left; · first | decide +kernel | rfl | simp)
    | with_reducible exact fo_tr (by with_reducible assumption) (hrec31 _ _ _ _ _ _ _)
    | (with_reducible refine gj_Fr.trans ?_ (gj_Fr.wide (gj_FOu (fr_X12_by hrec _ _ _ _) (by with_reducible assumption)) ?_); rotate_left; · first | decide +kernel | simp [gj_fsub])
    | with_reducible exact gj_Fr.trans (by with_reducible assumption) (gj_FOu (hrec _ _ _ _) (by with_reducible assumption))

set_option maxHeartbeats 600000 in
theorem fr_B_X12_worth_31 {rec : Int → Int → Int → gj_M → Option (Int × gj_M)} (hrec : ∀ (b0 : Int) (b1 : Int) (b2 : Int) (M : gj_M), gj_FO Prod.snd [115, 116] [(79, 38)] M (rec b0 b1 b2 M)) {rec31 : Int → Int → Int → Int → Int → Int → gj_M → Option (Int × gj_M)} (hrec31 : ∀ (l1 l2 l3 l4 l5 l6 : Int) (M : gj_M), gj_FO Prod.snd [115, 116] [(79, 38)] M (rec31 l1 l2 l3 l4 l5 l6 M)) (l1 l2 l3 l4 l5 l6 : Int) (M : gj_M) : gj_FO Prod.snd [115, 116] [(79, 38)] M (B_X12_worth_31 rec rec31 l1 l2 l3 l4 l5 l6 M) := by
  unfold B_X12_worth_31
  have hM : gj_Fr [115, 116] [(79, 38)] M M := gj_Fr.rf
  repeat' first
    | with_reducible assumption
    | with_reducible exact gj_Fr.rf
    | with_reducible exact fo_none
    | with_reducible refine fo_some ?_
    | with_reducible refine fo_ite ?_ ?_
    | with_reducible refine fo_chk ?_
    | with_reducible refine fo_let ?_ (fun _ _ => ?_)
    | with_reducible refine fo_letI (fun _ => ?_)
    | with_reducible refine fo_let2 ?_ (fun _ _ _ => ?_)
    | with_reducible refine fo_bndM (fun _ _ => ?_) (fun _ _ => ?_)
    | with_reducible refine fo_bnd (fun _ => ?_)
    | with_reducible refine fo_bnd2 (fun _ _ _ => ?_) (fun _ _ _ => ?_)
    | (with_reducible refine gj_Fr.up ?_ ?_; rotate_left; · first | decide +kernel | rfl | simp)
    | (with_reducible refine gj_Fr.put ?_ ?_; rotate_left; · first | decide +kernel | rfl | simp)
    | (with_reducible refine gj_Fr.fill ?_ ?_; rotate_left; · first | decide +kernel | rfl | simp)
    | (with_reducible refine gj_Fr.copy ?_ ?_; rotate_left; · first | decide +kernel | rfl | simp)
    | with_reducible exact fo_tr (by with_reducible assumption) (fr_J_X12_worth_93 hrec hrec31 _ _ _ _ _ _ _)
    | with_reducible exact fo_tr (by with_reducible assumption) (fr_J_X12_worth_99 hrec _ _ _)
    | with_reducible exact fo_tr (by with_reducible assumption) (hrec31 _ _ _ _ _ _ _)
    | (with_reducible refine gj_Fr.trans ?_ (gj_Fr.wide (gj_FOu (fr_X12_by hrec _ _ _ _) (by with_reducible assumption)) ?_); rotate_left; · first | decide +kernel | simp [gj_fsub])
    | with_reducible exact gj_Fr.trans (by with_reducible assumption) (gj_FOu (hrec _ _ _ _) (by with_reducible assumption))

theorem frL_X12_worth_31 {rec : Int → Int → Int → gj_M → Option (Int × gj_M)} (hrec : ∀ (b0 : Int) (b1 : Int) (b2 : Int) (M : gj_M), gj_FO Prod.snd [115, 116] [(79, 38)] M (rec b0 b1 b2 M)) : ∀ (m : Nat) (l1 l2 l3 l4 l5 l6 : Int) (M : gj_M), gj_FO Prod.snd [115, 116] [(79, 38)] M (gj_it (fun _ _ _ _ _ _ _ => none) (B_X12_worth_31 rec) m l1 l2 l3 l4 l5 l6 M)
  | 0, l1, l2, l3, l4, l5, l6, M => fun r e => by cases (show (none : Option (Int × gj_M)) = some r from e)
  | m + 1, l1, l2, l3, l4, l5, l6, M => fr_B_X12_worth_31 hrec (fun l1 l2 l3 l4 l5 l6 M => frL_X12_worth_31 hrec m l1 l2 l3 l4 l5 l6 M) l1 l2 l3 l4 l5 l6 M
set_option maxHeartbeats 600000 in
theorem fr_J_X12_worth_29 {rec : Int → Int → Int → gj_M → Option (Int × gj_M)} (hrec : ∀ (b0 : Int) (b1 : Int) (b2 : Int) (M : gj_M), gj_FO Prod.snd [115, 116] [(79, 38)] M (rec b0 b1 b2 M)) (l1 l2 l3 l4 l5 s0 : Int) (M : gj_M) : gj_FO Prod.snd [115, 116] [(79, 38)] M (J_X12_worth_29 rec l1 l2 l3 l4 l5 s0 M) := by
  unfold J_X12_worth_29
  have hM : gj_Fr [115, 116] [(79, 38)] M M := gj_Fr.rf
  repeat' first
    | with_reducible assumption
    | with_reducible exact gj_Fr.rf
    | with_reducible exact fo_none
    | with_reducible refine fo_some ?_
    | with_reducible refine fo_ite ?_ ?_
    | with_reducible refine fo_chk ?_
    | with_reducible refine fo_let ?_ (fun _ _ => ?_)
    | with_reducible refine fo_letI (fun _ => ?_)
    | with_reducible refine fo_let2 ?_ (fun _ _ _ => ?_)
    | with_reducible refine fo_bndM (fun _ _ => ?_) (fun _ _ => ?_)
    | with_reducible refine fo_bnd (fun _ => ?_)
    | with_reducible refine fo_bnd2 (fun _ _ _ => ?_) (fun _ _ _ => ?_)
    | (with_reducible refine gj_Fr.up ?_ ?_; rotate_left; · first | decide +kernel | rfl | simp)
    | (with_reducible refine gj_Fr.put ?_ ?_; rotate_left; · first | decide +kernel | rfl | simp)
    | (with_reducible refine gj_Fr.fill ?_ ?_; rotate_left; · first | decide +kernel | rfl | simp)
    | (with_reducible refine gj_Fr.copy ?_ ?_; rotate_left; · first | decide +kernel | rfl | simp)
    | with_reducible exact fo_tr (by with_reducible assumption) (frL_X12_worth_31 hrec _ _ _ _ _ _ _ _)
    | (with_reducible refine gj_Fr.trans ?_ (gj_Fr.wide (gj_FOu (fr_X12_by hrec _ _ _ _) (by with_reducible assumption)) ?_); rotate_left; · first | decide +kernel | simp [gj_fsub])
    | with_reducible exact gj_Fr.trans (by with_reducible assumption) (gj_FOu (hrec _ _ _ _) (by with_reducible assumption))

set_option maxHeartbeats 600000 in
theorem fr_X12_worth {rec : Int → Int → Int → gj_M → Option (Int × gj_M)} (hrec : ∀ (b0 : Int) (b1 : Int) (b2 : Int) (M : gj_M), gj_FO Prod.snd [115, 116] [(79, 38)] M (rec b0 b1 b2 M)) (a1 : Int) (a2 : Int) (a3 : Int) {M : gj_M} : gj_FO Prod.snd [115, 116] [(79, 38)] M (F_X12_worth rec a1 a2 a3 M) := by
  unfold F_X12_worth
  have hM : gj_Fr [115, 116] [(79, 38)] M M := gj_Fr.rf
  repeat' first
    | with_reducible assumption
    | with_reducible exact gj_Fr.rf
    | with_reducible exact fo_none
    | with_reducible refine fo_some ?_
    | with_reducible refine fo_ite ?_ ?_
    | with_reducible refine fo_chk ?_
    | with_reducible refine fo_let ?_ (fun _ _ => ?_)
    | with_reducible refine fo_letI (fun _ => ?_)
    | with_reducible refine fo_let2 ?_ (fun _ _ _ => ?_)
    | with_reducible refine fo_bndM (fun _ _ => ?_) (fun _ _ => ?_)
    | with_reducible refine fo_bnd (fun _ => ?_)
    | with_reducible refine fo_bnd2 (fun _ _ _ => ?_) (fun _ _ _ => ?_)
    | (with_reducible refine gj_Fr.up ?_ ?_; rotate_left; · first | decide +kernel | rfl | simp)
    | (with_reducible refine gj_Fr.put ?_ ?_; rotate_left; · first | decide +kernel | rfl | simp)
    | (with_reducible refine gj_Fr.fill ?_ ?_; rotate_left; · first | decide +kernel | rfl | simp)
    | (with_reducible refine gj_Fr.copy ?_ ?_; rotate_left; · first | decide +kernel | rfl | simp)
    | with_reducible exact fo_tr (by with_reducible assumption) (fr_J_X12_worth_29 hrec _ _ _ _ _ _ _)
    | (with_reducible refine gj_Fr.trans ?_ (gj_Fr.wide (gj_FOu (fr_X12_by hrec _ _ _ _) (by with_reducible assumption)) ?_); rotate_left; · first | decide +kernel | simp [gj_fsub])
    | with_reducible exact gj_Fr.trans (by with_reducible assumption) (gj_FOu (hrec _ _ _ _) (by with_reducible assumption))

theorem fr_X12_worthN : ∀ (n : Nat) (a1 a2 a3 : Int) (M : gj_M), gj_FO Prod.snd [115, 116] [(79, 38)] M (F_X12_worthN n a1 a2 a3 M)
  | 0, a1, a2, a3, M => fun r e => by cases (show (none : Option (Int × gj_M)) = some r from e)
  | n + 1, a1, a2, a3, M => fr_X12_worth (fun b0 b1 b2 M => fr_X12_worthN n b0 b1 b2 M) a1 a2 a3
theorem fr_X12_worthC (a1 a2 a3 : Int) {M : gj_M} : gj_FO Prod.snd [115, 116] [(79, 38)] M (F_X12_worthN 6 a1 a2 a3 M) := fr_X12_worthN 6 a1 a2 a3 M
theorem fr_X12_byC (a1 a2 a3 a4 : Int) {M : gj_M} : gj_FO Prod.snd [115, 116] [(79, 38)] M (F_X12_by (F_X12_worthN 5) a1 a2 a3 a4 M) := fr_X12_by (fun b0 b1 b2 M => fr_X12_worthN 5 b0 b1 b2 M) a1 a2 a3 a4
set_option maxHeartbeats 600000 in
theorem fr_X12_bestOf (a1 : Int) (a2 : Int) {M : gj_M} : gj_FO Prod.snd [115, 116, 117, 118] [(79, 35), (79, 36), (79, 37), (79, 38)] M (F_X12_bestOf a1 a2 M) := by
  unfold F_X12_bestOf
  have hM : gj_Fr [115, 116, 117, 118] [(79, 35), (79, 36), (79, 37), (79, 38)] M M := gj_Fr.rf
  repeat' first
    | with_reducible assumption
    | with_reducible exact gj_Fr.rf
    | with_reducible exact fo_none
    | with_reducible refine fo_some ?_
    | with_reducible refine fo_ite ?_ ?_
    | with_reducible refine fo_chk ?_
    | with_reducible refine fo_let ?_ (fun _ _ => ?_)
    | with_reducible refine fo_letI (fun _ => ?_)
    | with_reducible refine fo_let2 ?_ (fun _ _ _ => ?_)
    | with_reducible refine fo_bndM (fun _ _ => ?_) (fun _ _ => ?_)
    | with_reducible refine fo_bnd (fun _ => ?_)
    | with_reducible refine fo_bnd2 (fun _ _ _ => ?_) (fun _ _ _ => ?_)
    | (with_reducible refine gj_Fr.up ?_ ?_; rotate_left; · first | decide +kernel | rfl | simp)
    | (with_reducible refine gj_Fr.put ?_ ?_; rotate_left; · first | decide +kernel | rfl | simp)
    | (with_reducible refine gj_Fr.fill ?_ ?_; rotate_left; · first | decide +kernel | rfl | simp)
    | (with_reducible refine gj_Fr.copy ?_ ?_; rotate_left; · first | decide +kernel | rfl | simp)
    | (with_reducible refine gj_Fr.trans ?_ (gj_Fr.wide (gj_FOu (fr_X12_worthC _ _ _) (by with_reducible assumption)) ?_); rotate_left; · first | decide +kernel | simp [gj_fsub])
    | (with_reducible refine gj_Fr.trans ?_ (gj_Fr.wide (gj_FOu (fr_X12_lays _) (by with_reducible assumption)) ?_); rotate_left; · first | decide +kernel | simp [gj_fsub])

set_option maxHeartbeats 600000 in
theorem fr_X12_best (a1 : Int) (a2 : Int) (a3 : Int) {M : gj_M} : gj_FO Prod.snd [115, 116, 117, 118] [(79, 35), (79, 36), (79, 37), (79, 38)] M (F_X12_best a1 a2 a3 M) := by
  unfold F_X12_best
  have hM : gj_Fr [115, 116, 117, 118] [(79, 35), (79, 36), (79, 37), (79, 38)] M M := gj_Fr.rf
  repeat' first
    | with_reducible assumption
    | with_reducible exact gj_Fr.rf
    | with_reducible exact fo_none
    | with_reducible refine fo_some ?_
    | with_reducible refine fo_ite ?_ ?_
    | with_reducible refine fo_chk ?_
    | with_reducible refine fo_let ?_ (fun _ _ => ?_)
    | with_reducible refine fo_letI (fun _ => ?_)
    | with_reducible refine fo_let2 ?_ (fun _ _ _ => ?_)
    | with_reducible refine fo_bndM (fun _ _ => ?_) (fun _ _ => ?_)
    | with_reducible refine fo_bnd (fun _ => ?_)
    | with_reducible refine fo_bnd2 (fun _ _ _ => ?_) (fun _ _ _ => ?_)
    | (with_reducible refine gj_Fr.up ?_ ?_; rotate_left; · first | decide +kernel | rfl | simp)
    | (with_reducible refine gj_Fr.put ?_ ?_; rotate_left; · first | decide +kernel | rfl | simp)
    | (with_reducible refine gj_Fr.fill ?_ ?_; rotate_left; · first | decide +kernel | rfl | simp)
    | (with_reducible refine gj_Fr.copy ?_ ?_; rotate_left; · first | decide +kernel | rfl | simp)
    | (with_reducible refine gj_Fr.trans ?_ (gj_Fr.wide (gj_FOu (fr_X12_bestOf _ _) (by with_reducible assumption)) ?_); rotate_left; · first | decide +kernel | simp [gj_fsub])

set_option maxHeartbeats 600000 in
theorem fr_J_X12_act_81 (l2 l3 l5 s1 s2 : Int) (M : gj_M) : gj_FO Prod.snd [115, 116, 117, 118] [(79, 35), (79, 36), (79, 37), (79, 38)] M (J_X12_act_81 l2 l3 l5 s1 s2 M) := by
  unfold J_X12_act_81
  have hM : gj_Fr [115, 116, 117, 118] [(79, 35), (79, 36), (79, 37), (79, 38)] M M := gj_Fr.rf
  repeat' first
    | with_reducible assumption
    | with_reducible exact gj_Fr.rf
    | with_reducible exact fo_none
    | with_reducible refine fo_some ?_
    | with_reducible refine fo_ite ?_ ?_
    | with_reducible refine fo_chk ?_
    | with_reducible refine fo_let ?_ (fun _ _ => ?_)
    | with_reducible refine fo_letI (fun _ => ?_)
    | with_reducible refine fo_let2 ?_ (fun _ _ _ => ?_)
    | with_reducible refine fo_bndM (fun _ _ => ?_) (fun _ _ => ?_)
    | with_reducible refine fo_bnd (fun _ => ?_)
    | with_reducible refine fo_bnd2 (fun _ _ _ => ?_) (fun _ _ _ => ?_)
    | (with_reducible refine gj_Fr.up ?_ ?_; rotate_left; · first | decide +kernel | rfl | simp)
    | (with_reducible refine gj_Fr.put ?_ ?_; rotate_left; · first | decide +kernel | rfl | simp)
    | (with_reducible refine gj_Fr.fill ?_ ?_; rotate_left; · first | decide +kernel | rfl | simp)
    | (with_reducible refine gj_Fr.copy ?_ ?_; rotate_left; · first | decide +kernel | rfl | simp)
    | (with_reducible refine gj_Fr.trans ?_ (gj_Fr.wide (gj_FOu (fr_X12_lays _) (by with_reducible assumption)) ?_); rotate_left; · first | decide +kernel | simp [gj_fsub])
    | (with_reducible refine gj_Fr.trans ?_ (gj_Fr.wide (gj_FOu (fr_X12_byC _ _ _ _) (by with_reducible assumption)) ?_); rotate_left; · first | decide +kernel | simp [gj_fsub])

set_option maxHeartbeats 600000 in
theorem fr_X12_act (a1 : Int) (a2 : Int) (a3 : Int) {M : gj_M} : gj_FO Prod.snd [115, 116, 117, 118] [(79, 35), (79, 36), (79, 37), (79, 38)] M (F_X12_act a1 a2 a3 M) := by
  unfold F_X12_act
  have hM : gj_Fr [115, 116, 117, 118] [(79, 35), (79, 36), (79, 37), (79, 38)] M M := gj_Fr.rf
  repeat' first
    | with_reducible assumption
    | with_reducible exact gj_Fr.rf
    | with_reducible exact fo_none
    | with_reducible refine fo_some ?_
    | with_reducible refine fo_ite ?_ ?_
    | with_reducible refine fo_chk ?_
    | with_reducible refine fo_let ?_ (fun _ _ => ?_)
    | with_reducible refine fo_letI (fun _ => ?_)
    | with_reducible refine fo_let2 ?_ (fun _ _ _ => ?_)
    | with_reducible refine fo_bndM (fun _ _ => ?_) (fun _ _ => ?_)
    | with_reducible refine fo_bnd (fun _ => ?_)
    | with_reducible refine fo_bnd2 (fun _ _ _ => ?_) (fun _ _ _ => ?_)
    | (with_reducible refine gj_Fr.up ?_ ?_; rotate_left; · first | decide +kernel | rfl | simp)
    | (with_reducible refine gj_Fr.put ?_ ?_; rotate_left; · first | decide +kernel | rfl | simp)
    | (with_reducible refine gj_Fr.fill ?_ ?_; rotate_left; · first | decide +kernel | rfl | simp)
    | (with_reducible refine gj_Fr.copy ?_ ?_; rotate_left; · first | decide +kernel | rfl | simp)
    | with_reducible exact fo_tr (by with_reducible assumption) (fr_J_X12_act_81 _ _ _ _ _ _)
    | (with_reducible refine gj_Fr.trans ?_ (gj_Fr.wide (gj_FOu (fr_X12_lays _) (by with_reducible assumption)) ?_); rotate_left; · first | decide +kernel | simp [gj_fsub])
    | (with_reducible refine gj_Fr.trans ?_ (gj_Fr.wide (gj_FOu (fr_X12_byC _ _ _ _) (by with_reducible assumption)) ?_); rotate_left; · first | decide +kernel | simp [gj_fsub])

set_option maxHeartbeats 600000 in
theorem fr_X12_isSilent (a1 : Int) (a2 : Int) {M : gj_M} : gj_FO Prod.snd [115, 116, 117, 118] [(79, 35), (79, 36), (79, 37), (79, 38)] M (F_X12_isSilent a1 a2 M) := by
  unfold F_X12_isSilent
  have hM : gj_Fr [115, 116, 117, 118] [(79, 35), (79, 36), (79, 37), (79, 38)] M M := gj_Fr.rf
  repeat' first
    | with_reducible assumption
    | with_reducible exact gj_Fr.rf
    | with_reducible exact fo_none
    | with_reducible refine fo_some ?_
    | with_reducible refine fo_ite ?_ ?_
    | with_reducible refine fo_chk ?_
    | with_reducible refine fo_let ?_ (fun _ _ => ?_)
    | with_reducible refine fo_letI (fun _ => ?_)
    | with_reducible refine fo_let2 ?_ (fun _ _ _ => ?_)
    | with_reducible refine fo_bndM (fun _ _ => ?_) (fun _ _ => ?_)
    | with_reducible refine fo_bnd (fun _ => ?_)
    | with_reducible refine fo_bnd2 (fun _ _ _ => ?_) (fun _ _ _ => ?_)
    | (with_reducible refine gj_Fr.up ?_ ?_; rotate_left; · first | decide +kernel | rfl | simp)
    | (with_reducible refine gj_Fr.put ?_ ?_; rotate_left; · first | decide +kernel | rfl | simp)
    | (with_reducible refine gj_Fr.fill ?_ ?_; rotate_left; · first | decide +kernel | rfl | simp)
    | (with_reducible refine gj_Fr.copy ?_ ?_; rotate_left; · first | decide +kernel | rfl | simp)
    | (with_reducible refine gj_Fr.trans ?_ (gj_Fr.wide (gj_FOu (fr_X12_bestOf _ _) (by with_reducible assumption)) ?_); rotate_left; · first | decide +kernel | simp [gj_fsub])

set_option maxHeartbeats 600000 in
theorem fr_X12_silent (a1 : Int) (a2 : Int) {M : gj_M} : gj_FO Prod.snd [115, 116, 117, 118] [(79, 35), (79, 36), (79, 37), (79, 38)] M (F_X12_silent a1 a2 M) := by
  unfold F_X12_silent
  have hM : gj_Fr [115, 116, 117, 118] [(79, 35), (79, 36), (79, 37), (79, 38)] M M := gj_Fr.rf
  repeat' first
    | with_reducible assumption
    | with_reducible exact gj_Fr.rf
    | with_reducible exact fo_none
    | with_reducible refine fo_some ?_
    | with_reducible refine fo_ite ?_ ?_
    | with_reducible refine fo_chk ?_
    | with_reducible refine fo_let ?_ (fun _ _ => ?_)
    | with_reducible refine fo_letI (fun _ => ?_)
    | with_reducible refine fo_let2 ?_ (fun _ _ _ => ?_)
    | with_reducible refine fo_bndM (fun _ _ => ?_) (fun _ _ => ?_)
    | with_reducible refine fo_bnd (fun _ => ?_)
    | with_reducible refine fo_bnd2 (fun _ _ _ => ?_) (fun _ _ _ => ?_)
    | (with_reducible refine gj_Fr.up ?_ ?_; rotate_left; · first | decide +kernel | rfl | simp)
    | (with_reducible refine gj_Fr.put ?_ ?_; rotate_left; · first | decide +kernel | rfl | simp)
    | (with_reducible refine gj_Fr.fill ?_ ?_; rotate_left; · first | decide +kernel | rfl | simp)
    | (with_reducible refine gj_Fr.copy ?_ ?_; rotate_left; · first | decide +kernel | rfl | simp)
    | (with_reducible refine gj_Fr.trans ?_ (gj_Fr.wide (gj_FOu (fr_X12_isSilent _ _) (by with_reducible assumption)) ?_); rotate_left; · first | decide +kernel | simp [gj_fsub])

set_option maxHeartbeats 600000 in
theorem fr_B_X12_bar_61 {rec61 : Int → Int → Int → Int → gj_M → Option (Int × gj_M)} (hrec61 : ∀ (l3 l4 l7 l8 : Int) (M : gj_M), gj_FO Prod.snd [115, 116, 117, 118] [(79, 35), (79, 36), (79, 37), (79, 38)] M (rec61 l3 l4 l7 l8 M)) (l3 l4 l7 l8 : Int) (M : gj_M) : gj_FO Prod.snd [115, 116, 117, 118] [(79, 35), (79, 36), (79, 37), (79, 38)] M (B_X12_bar_61 rec61 l3 l4 l7 l8 M) := by
  unfold B_X12_bar_61
  have hM : gj_Fr [115, 116, 117, 118] [(79, 35), (79, 36), (79, 37), (79, 38)] M M := gj_Fr.rf
  repeat' first
    | with_reducible assumption
    | with_reducible exact gj_Fr.rf
    | with_reducible exact fo_none
    | with_reducible refine fo_some ?_
    | with_reducible refine fo_ite ?_ ?_
    | with_reducible refine fo_chk ?_
    | with_reducible refine fo_let ?_ (fun _ _ => ?_)
    | with_reducible refine fo_letI (fun _ => ?_)
    | with_reducible refine fo_let2 ?_ (fun _ _ _ => ?_)
    | with_reducible refine fo_bndM (fun _ _ => ?_) (fun _ _ => ?_)
    | with_reducible refine fo_bnd (fun _ => ?_)
    | with_reducible refine fo_bnd2 (fun _ _ _ => ?_) (fun _ _ _ => ?_)
    | (with_reducible refine gj_Fr.up ?_ ?_; rotate_left; · first | decide +kernel | rfl | simp)
    | (with_reducible refine gj_Fr.put ?_ ?_; rotate_left; · first | decide +kernel | rfl | simp)
    | (with_reducible refine gj_Fr.fill ?_ ?_; rotate_left; · first | decide +kernel | rfl | simp)
    | (with_reducible refine gj_Fr.copy ?_ ?_; rotate_left; · first | decide +kernel | rfl | simp)
    | with_reducible exact fo_tr (by with_reducible assumption) (hrec61 _ _ _ _ _)
    | (with_reducible refine gj_Fr.trans ?_ (gj_Fr.wide (gj_FOu (fr_X12_lays _) (by with_reducible assumption)) ?_); rotate_left; · first | decide +kernel | simp [gj_fsub])
    | (with_reducible refine gj_Fr.trans ?_ (gj_Fr.wide (gj_FOu (fr_X12_worthC _ _ _) (by with_reducible assumption)) ?_); rotate_left; · first | decide +kernel | simp [gj_fsub])

theorem frL_X12_bar_61 : ∀ (m : Nat) (l3 l4 l7 l8 : Int) (M : gj_M), gj_FO Prod.snd [115, 116, 117, 118] [(79, 35), (79, 36), (79, 37), (79, 38)] M (gj_it (fun _ _ _ _ _ => none) (B_X12_bar_61) m l3 l4 l7 l8 M)
  | 0, l3, l4, l7, l8, M => fun r e => by cases (show (none : Option (Int × gj_M)) = some r from e)
  | m + 1, l3, l4, l7, l8, M => fr_B_X12_bar_61 (fun l3 l4 l7 l8 M => frL_X12_bar_61 m l3 l4 l7 l8 M) l3 l4 l7 l8 M
set_option maxHeartbeats 600000 in
theorem fr_X12_bar (a1 : Int) (a2 : Int) (a3 : Int) (a4 : Int) {M : gj_M} : gj_FO Prod.snd [115, 116, 117, 118] [(79, 35), (79, 36), (79, 37), (79, 38)] M (F_X12_bar a1 a2 a3 a4 M) := by
  unfold F_X12_bar
  have hM : gj_Fr [115, 116, 117, 118] [(79, 35), (79, 36), (79, 37), (79, 38)] M M := gj_Fr.rf
  repeat' first
    | with_reducible assumption
    | with_reducible exact gj_Fr.rf
    | with_reducible exact fo_none
    | with_reducible refine fo_some ?_
    | with_reducible refine fo_ite ?_ ?_
    | with_reducible refine fo_chk ?_
    | with_reducible refine fo_let ?_ (fun _ _ => ?_)
    | with_reducible refine fo_letI (fun _ => ?_)
    | with_reducible refine fo_let2 ?_ (fun _ _ _ => ?_)
    | with_reducible refine fo_bndM (fun _ _ => ?_) (fun _ _ => ?_)
    | with_reducible refine fo_bnd (fun _ => ?_)
    | with_reducible refine fo_bnd2 (fun _ _ _ => ?_) (fun _ _ _ => ?_)
    | (with_reducible refine gj_Fr.up ?_ ?_; rotate_left; · first | decide +kernel | rfl | simp)
    | (with_reducible refine gj_Fr.put ?_ ?_; rotate_left; · first | decide +kernel | rfl | simp)
    | (with_reducible refine gj_Fr.fill ?_ ?_; rotate_left; · first | decide +kernel | rfl | simp)
    | (with_reducible refine gj_Fr.copy ?_ ?_; rotate_left; · first | decide +kernel | rfl | simp)
    | with_reducible exact fo_tr (by with_reducible assumption) (frL_X12_bar_61 _ _ _ _ _ _)
    | (with_reducible refine gj_Fr.trans ?_ (gj_Fr.wide (gj_FOu (fr_X12_lays _) (by with_reducible assumption)) ?_); rotate_left; · first | decide +kernel | simp [gj_fsub])
    | (with_reducible refine gj_Fr.trans ?_ (gj_Fr.wide (gj_FOu (fr_X12_worthC _ _ _) (by with_reducible assumption)) ?_); rotate_left; · first | decide +kernel | simp [gj_fsub])

set_option maxHeartbeats 600000 in
theorem fr_B_X12_price_38 {rec38 : Int → Int → Int → gj_M → Option (Int × gj_M)} (hrec38 : ∀ (l2 l3 l4 : Int) (M : gj_M), gj_FO Prod.snd [115, 116, 117, 118] [(79, 35), (79, 36), (79, 37), (79, 38)] M (rec38 l2 l3 l4 M)) (l2 l3 l4 : Int) (M : gj_M) : gj_FO Prod.snd [115, 116, 117, 118] [(79, 35), (79, 36), (79, 37), (79, 38)] M (B_X12_price_38 rec38 l2 l3 l4 M) := by
  unfold B_X12_price_38
  have hM : gj_Fr [115, 116, 117, 118] [(79, 35), (79, 36), (79, 37), (79, 38)] M M := gj_Fr.rf
  repeat' first
    | with_reducible assumption
    | with_reducible exact gj_Fr.rf
    | with_reducible exact fo_none
    | with_reducible refine fo_some ?_
    | with_reducible refine fo_ite ?_ ?_
    | with_reducible refine fo_chk ?_
    | with_reducible refine fo_let ?_ (fun _ _ => ?_)
    | with_reducible refine fo_letI (fun _ => ?_)
    | with_reducible refine fo_let2 ?_ (fun _ _ _ => ?_)
    | with_reducible refine fo_bndM (fun _ _ => ?_) (fun _ _ => ?_)
    | with_reducible refine fo_bnd (fun _ => ?_)
    | with_reducible refine fo_bnd2 (fun _ _ _ => ?_) (fun _ _ _ => ?_)
    | (with_reducible refine gj_Fr.up ?_ ?_; rotate_left; · first | decide +kernel | rfl | simp)
    | (with_reducible refine gj_Fr.put ?_ ?_; rotate_left; · first | decide +kernel | rfl | simp)
    | (with_reducible refine gj_Fr.fill ?_ ?_; rotate_left; · first | decide +kernel | rfl | simp)
    | (with_reducible refine gj_Fr.copy ?_ ?_; rotate_left; · first | decide +kernel | rfl | simp)
    | with_reducible exact fo_tr (by with_reducible assumption) (hrec38 _ _ _ _)
    | (with_reducible refine gj_Fr.trans ?_ (gj_Fr.wide (gj_FOu (fr_X12_lays _) (by with_reducible assumption)) ?_); rotate_left; · first | decide +kernel | simp [gj_fsub])
    | (with_reducible refine gj_Fr.trans ?_ (gj_Fr.wide (gj_FOu (fr_X12_worthC _ _ _) (by with_reducible assumption)) ?_); rotate_left; · first | decide +kernel | simp [gj_fsub])

theorem frL_X12_price_38 : ∀ (m : Nat) (l2 l3 l4 : Int) (M : gj_M), gj_FO Prod.snd [115, 116, 117, 118] [(79, 35), (79, 36), (79, 37), (79, 38)] M (gj_it (fun _ _ _ _ => none) (B_X12_price_38) m l2 l3 l4 M)
  | 0, l2, l3, l4, M => fun r e => by cases (show (none : Option (Int × gj_M)) = some r from e)
  | m + 1, l2, l3, l4, M => fr_B_X12_price_38 (fun l2 l3 l4 M => frL_X12_price_38 m l2 l3 l4 M) l2 l3 l4 M
set_option maxHeartbeats 600000 in
theorem fr_X12_price (a1 : Int) (a2 : Int) {M : gj_M} : gj_FO Prod.snd [115, 116, 117, 118] [(79, 35), (79, 36), (79, 37), (79, 38)] M (F_X12_price a1 a2 M) := by
  unfold F_X12_price
  have hM : gj_Fr [115, 116, 117, 118] [(79, 35), (79, 36), (79, 37), (79, 38)] M M := gj_Fr.rf
  repeat' first
    | with_reducible assumption
    | with_reducible exact gj_Fr.rf
    | with_reducible exact fo_none
    | with_reducible refine fo_some ?_
    | with_reducible refine fo_ite ?_ ?_
    | with_reducible refine fo_chk ?_
    | with_reducible refine fo_let ?_ (fun _ _ => ?_)
    | with_reducible refine fo_letI (fun _ => ?_)
    | with_reducible refine fo_let2 ?_ (fun _ _ _ => ?_)
    | with_reducible refine fo_bndM (fun _ _ => ?_) (fun _ _ => ?_)
    | with_reducible refine fo_bnd (fun _ => ?_)
    | with_reducible refine fo_bnd2 (fun _ _ _ => ?_) (fun _ _ _ => ?_)
    | (with_reducible refine gj_Fr.up ?_ ?_; rotate_left; · first | decide +kernel | rfl | simp)
    | (with_reducible refine gj_Fr.put ?_ ?_; rotate_left; · first | decide +kernel | rfl | simp)
    | (with_reducible refine gj_Fr.fill ?_ ?_; rotate_left; · first | decide +kernel | rfl | simp)
    | (with_reducible refine gj_Fr.copy ?_ ?_; rotate_left; · first | decide +kernel | rfl | simp)
    | with_reducible exact fo_tr (by with_reducible assumption) (frL_X12_price_38 _ _ _ _ _)
    | (with_reducible refine gj_Fr.trans ?_ (gj_Fr.wide (gj_FOu (fr_X12_lays _) (by with_reducible assumption)) ?_); rotate_left; · first | decide +kernel | simp [gj_fsub])
    | (with_reducible refine gj_Fr.trans ?_ (gj_Fr.wide (gj_FOu (fr_X12_worthC _ _ _) (by with_reducible assumption)) ?_); rotate_left; · first | decide +kernel | simp [gj_fsub])

set_option maxHeartbeats 600000 in
theorem fr_J_X12_waits_97 (l3 l4 l5 s1 s2 : Int) (M : gj_M) : gj_FO Prod.snd [115, 116, 117, 118] [(79, 35), (79, 36), (79, 37), (79, 38)] M (J_X12_waits_97 l3 l4 l5 s1 s2 M) := by
  unfold J_X12_waits_97
  have hM : gj_Fr [115, 116, 117, 118] [(79, 35), (79, 36), (79, 37), (79, 38)] M M := gj_Fr.rf
  repeat' first
    | with_reducible assumption
    | with_reducible exact gj_Fr.rf
    | with_reducible exact fo_none
    | with_reducible refine fo_some ?_
    | with_reducible refine fo_ite ?_ ?_
    | with_reducible refine fo_chk ?_
    | with_reducible refine fo_let ?_ (fun _ _ => ?_)
    | with_reducible refine fo_letI (fun _ => ?_)
    | with_reducible refine fo_let2 ?_ (fun _ _ _ => ?_)
    | with_reducible refine fo_bndM (fun _ _ => ?_) (fun _ _ => ?_)
    | with_reducible refine fo_bnd (fun _ => ?_)
    | with_reducible refine fo_bnd2 (fun _ _ _ => ?_) (fun _ _ _ => ?_)
    | (with_reducible refine gj_Fr.up ?_ ?_; rotate_left; · first | decide +kernel | rfl | simp)
    | (with_reducible refine gj_Fr.put ?_ ?_; rotate_left; · first | decide +kernel | rfl | simp)
    | (with_reducible refine gj_Fr.fill ?_ ?_; rotate_left; · first | decide +kernel | rfl | simp)
    | (with_reducible refine gj_Fr.copy ?_ ?_; rotate_left; · first | decide +kernel | rfl | simp)
    | (with_reducible refine gj_Fr.trans ?_ (gj_Fr.wide (gj_FOu (fr_X12_lays _) (by with_reducible assumption)) ?_); rotate_left; · first | decide +kernel | simp [gj_fsub])
    | (with_reducible refine gj_Fr.trans ?_ (gj_Fr.wide (gj_FOu (fr_X12_worthC _ _ _) (by with_reducible assumption)) ?_); rotate_left; · first | decide +kernel | simp [gj_fsub])

set_option maxHeartbeats 600000 in
theorem fr_X12_waits (a1 : Int) (a2 : Int) (a3 : Int) {M : gj_M} : gj_FO Prod.snd [115, 116, 117, 118] [(79, 35), (79, 36), (79, 37), (79, 38)] M (F_X12_waits a1 a2 a3 M) := by
  unfold F_X12_waits
  have hM : gj_Fr [115, 116, 117, 118] [(79, 35), (79, 36), (79, 37), (79, 38)] M M := gj_Fr.rf
  repeat' first
    | with_reducible assumption
    | with_reducible exact gj_Fr.rf
    | with_reducible exact fo_none
    | with_reducible refine fo_some ?_
    | with_reducible refine fo_ite ?_ ?_
    | with_reducible refine fo_chk ?_
    | with_reducible refine fo_let ?_ (fun _ _ => ?_)
    | with_reducible refine fo_letI (fun _ => ?_)
    | with_reducible refine fo_let2 ?_ (fun _ _ _ => ?_)
    | with_reducible refine fo_bndM (fun _ _ => ?_) (fun _ _ => ?_)
    | with_reducible refine fo_bnd (fun _ => ?_)
    | with_reducible refine fo_bnd2 (fun _ _ _ => ?_) (fun _ _ _ => ?_)
    | (with_reducible refine gj_Fr.up ?_ ?_; rotate_left; · first | decide +kernel | rfl | simp)
    | (with_reducible refine gj_Fr.put ?_ ?_; rotate_left; · first | decide +kernel | rfl | simp)
    | (with_reducible refine gj_Fr.fill ?_ ?_; rotate_left; · first | decide +kernel | rfl | simp)
    | (with_reducible refine gj_Fr.copy ?_ ?_; rotate_left; · first | decide +kernel | rfl | simp)
    | with_reducible exact fo_tr (by with_reducible assumption) (fr_J_X12_waits_97 _ _ _ _ _ _)
    | (with_reducible refine gj_Fr.trans ?_ (gj_Fr.wide (gj_FOu (fr_X12_lays _) (by with_reducible assumption)) ?_); rotate_left; · first | decide +kernel | simp [gj_fsub])
    | (with_reducible refine gj_Fr.trans ?_ (gj_Fr.wide (gj_FOu (fr_X12_worthC _ _ _) (by with_reducible assumption)) ?_); rotate_left; · first | decide +kernel | simp [gj_fsub])

set_option maxHeartbeats 600000 in
theorem fr_X12_lot (a1 : Int) {M : gj_M} : gj_FO Prod.snd [] [(79, 30)] M (F_X12_lot a1 M) := by
  unfold F_X12_lot
  have hM : gj_Fr [] [(79, 30)] M M := gj_Fr.rf
  repeat' first
    | with_reducible assumption
    | with_reducible exact gj_Fr.rf
    | with_reducible exact fo_none
    | with_reducible refine fo_some ?_
    | with_reducible refine fo_ite ?_ ?_
    | with_reducible refine fo_chk ?_
    | with_reducible refine fo_let ?_ (fun _ _ => ?_)
    | with_reducible refine fo_letI (fun _ => ?_)
    | with_reducible refine fo_let2 ?_ (fun _ _ _ => ?_)
    | with_reducible refine fo_bndM (fun _ _ => ?_) (fun _ _ => ?_)
    | with_reducible refine fo_bnd (fun _ => ?_)
    | with_reducible refine fo_bnd2 (fun _ _ _ => ?_) (fun _ _ _ => ?_)
    | (with_reducible refine gj_Fr.up ?_ ?_; rotate_left; · first | decide +kernel | rfl | simp)
    | (with_reducible refine gj_Fr.put ?_ ?_; rotate_left; · first | decide +kernel | rfl | simp)
    | (with_reducible refine gj_Fr.fill ?_ ?_; rotate_left; · first | decide +kernel | rfl | simp)
    | (with_reducible refine gj_Fr.copy ?_ ?_; rotate_left; · first | decide +kernel | rfl | simp)

set_option maxHeartbeats 600000 in
theorem fr_X12_gives (a1 : Int) (a2 : Int) {M : gj_M} : gj_FO (fun m => m) [119] [] M (F_X12_gives a1 a2 M) := by
  unfold F_X12_gives
  have hM : gj_Fr [119] [] M M := gj_Fr.rf
  repeat' first
    | with_reducible assumption
    | with_reducible exact gj_Fr.rf
    | with_reducible exact fo_none
    | with_reducible refine fo_some ?_
    | with_reducible refine fo_ite ?_ ?_
    | with_reducible refine fo_chk ?_
    | with_reducible refine fo_let ?_ (fun _ _ => ?_)
    | with_reducible refine fo_letI (fun _ => ?_)
    | with_reducible refine fo_let2 ?_ (fun _ _ _ => ?_)
    | with_reducible refine fo_bndM (fun _ _ => ?_) (fun _ _ => ?_)
    | with_reducible refine fo_bnd (fun _ => ?_)
    | with_reducible refine fo_bnd2 (fun _ _ _ => ?_) (fun _ _ _ => ?_)
    | (with_reducible refine gj_Fr.up ?_ ?_; rotate_left; · first | decide +kernel | rfl | simp)
    | (with_reducible refine gj_Fr.put ?_ ?_; rotate_left; · first | decide +kernel | rfl | simp)
    | (with_reducible refine gj_Fr.fill ?_ ?_; rotate_left; · first | decide +kernel | rfl | simp)
    | (with_reducible refine gj_Fr.copy ?_ ?_; rotate_left; · first | decide +kernel | rfl | simp)

set_option maxHeartbeats 600000 in
theorem fr_J_X12_asks_267 {rec23 : Int → Int → gj_M → Option (gj_M)} (hrec23 : ∀ (l1 l2 : Int) (M : gj_M), gj_FO (fun m => m) [119, 121] [] M (rec23 l1 l2 M)) (l1 l2 : Int) (M : gj_M) : gj_FO (fun m => m) [119, 121] [] M (J_X12_asks_267 rec23 l1 l2 M) := by
  unfold J_X12_asks_267
  have hM : gj_Fr [119, 121] [] M M := gj_Fr.rf
  repeat' first
    | with_reducible assumption
    | with_reducible exact gj_Fr.rf
    | with_reducible exact fo_none
    | with_reducible refine fo_some ?_
    | with_reducible refine fo_ite ?_ ?_
    | with_reducible refine fo_chk ?_
    | with_reducible refine fo_let ?_ (fun _ _ => ?_)
    | with_reducible refine fo_letI (fun _ => ?_)
    | with_reducible refine fo_let2 ?_ (fun _ _ _ => ?_)
    | with_reducible refine fo_bndM (fun _ _ => ?_) (fun _ _ => ?_)
    | with_reducible refine fo_bnd (fun _ => ?_)
    | with_reducible refine fo_bnd2 (fun _ _ _ => ?_) (fun _ _ _ => ?_)
    | (with_reducible refine gj_Fr.up ?_ ?_; rotate_left; · first | decide +kernel | rfl | simp)
    | (with_reducible refine gj_Fr.put ?_ ?_; rotate_left; · first | decide +kernel | rfl | simp)
    | (with_reducible refine gj_Fr.fill ?_ ?_; rotate_left; · first | decide +kernel | rfl | simp)
    | (with_reducible refine gj_Fr.copy ?_ ?_; rotate_left; · first | decide +kernel | rfl | simp)
    | with_reducible exact fo_tr (by with_reducible assumption) (hrec23 _ _ _)
    | (with_reducible refine gj_Fr.trans ?_ (gj_Fr.wide (gj_FOu (fr_X12_gives _ _) (by with_reducible assumption)) ?_); rotate_left; · first | decide +kernel | simp [gj_fsub])

set_option maxHeartbeats 600000 in
theorem fr_J_X12_asks_261 {rec23 : Int → Int → gj_M → Option (gj_M)} {rec31 : Int → Int → Int → gj_M → Option (gj_M)} (hrec23 : ∀ (l1 l2 : Int) (M : gj_M), gj_FO (fun m => m) [119, 121] [] M (rec23 l1 l2 M)) (hrec31 : ∀ (l1 l2 l3 : Int) (M : gj_M), gj_FO (fun m => m) [119, 121] [] M (rec31 l1 l2 l3 M)) (l1 l2 l3 : Int) (M : gj_M) : gj_FO (fun m => m) [119, 121] [] M (J_X12_asks_261 rec23 rec31 l1 l2 l3 M) := by
  unfold J_X12_asks_261
  have hM : gj_Fr [119, 121] [] M M := gj_Fr.rf
  repeat' first
    | with_reducible assumption
    | with_reducible exact gj_Fr.rf
    | with_reducible exact fo_none
    | with_reducible refine fo_some ?_
    | with_reducible refine fo_ite ?_ ?_
    | with_reducible refine fo_chk ?_
    | with_reducible refine fo_let ?_ (fun _ _ => ?_)
    | with_reducible refine fo_letI (fun _ => ?_)
    | with_reducible refine fo_let2 ?_ (fun _ _ _ => ?_)
    | with_reducible refine fo_bndM (fun _ _ => ?_) (fun _ _ => ?_)
    | with_reducible refine fo_bnd (fun _ => ?_)
    | with_reducible refine fo_bnd2 (fun _ _ _ => ?_) (fun _ _ _ => ?_)
    | (with_reducible refine gj_Fr.up ?_ ?_; rotate_left; · first | decide +kernel | rfl | simp)
    | (with_reducible refine gj_Fr.put ?_ ?_; rotate_left; · first | decide +kernel | rfl | simp)
    | (with_reducible refine gj_Fr.fill ?_ ?_; rotate_left; · first | decide +kernel | rfl | simp)
    | (with_reducible refine gj_Fr.copy ?_ ?_; rotate_left; · first | decide +kernel | rfl | simp)
    | with_reducible exact fo_tr (by with_reducible assumption) (hrec23 _ _ _)
    | with_reducible exact fo_tr (by with_reducible assumption) (hrec31 _ _ _ _)
    | (with_reducible refine gj_Fr.trans ?_ (gj_Fr.wide (gj_FOu (fr_X12_gives _ _) (by with_reducible assumption)) ?_); rotate_left; · first | decide +kernel | simp [gj_fsub])

set_option maxHeartbeats 600000 in
theorem fr_J_X12_asks_237 {rec23 : Int → Int → gj_M → Option (gj_M)} {rec31 : Int → Int → Int → gj_M → Option (gj_M)} (hrec23 : ∀ (l1 l2 : Int) (M : gj_M), gj_FO (fun m => m) [119, 121] [] M (rec23 l1 l2 M)) (hrec31 : ∀ (l1 l2 l3 : Int) (M : gj_M), gj_FO (fun m => m) [119, 121] [] M (rec31 l1 l2 l3 M)) (l1 l2 l3 l4 l5 : Int) (M : gj_M) : gj_FO (fun m => m) [119, 121] [] M (J_X12_asks_237 rec23 rec31 l1 l2 l3 l4 l5 M) := by
  unfold J_X12_asks_237
  have hM : gj_Fr [119, 121] [] M M := gj_Fr.rf
  repeat' first
    | with_reducible assumption
    | with_reducible exact gj_Fr.rf
    | with_reducible exact fo_none
    | with_reducible refine fo_some ?_
    | with_reducible refine fo_ite ?_ ?_
    | with_reducible refine fo_chk ?_
    | with_reducible refine fo_let ?_ (fun _ _ => ?_)
    | with_reducible refine fo_letI (fun _ => ?_)
    | with_reducible refine fo_let2 ?_ (fun _ _ _ => ?_)
    | with_reducible refine fo_bndM (fun _ _ => ?_) (fun _ _ => ?_)
    | with_reducible refine fo_bnd (fun _ => ?_)
    | with_reducible refine fo_bnd2 (fun _ _ _ => ?_) (fun _ _ _ => ?_)
    | (with_reducible refine gj_Fr.up ?_ ?_; rotate_left; · first | decide +kernel | rfl | simp)
    | (with_reducible refine gj_Fr.put ?_ ?_; rotate_left; · first | decide +kernel | rfl | simp)
    | (with_reducible refine gj_Fr.fill ?_ ?_; rotate_left; · first | decide +kernel | rfl | simp)
    | (with_reducible refine gj_Fr.copy ?_ ?_; rotate_left; · first | decide +kernel | rfl | simp)
    | with_reducible exact fo_tr (by with_reducible assumption) (fr_J_X12_asks_261 hrec23 hrec31 _ _ _ _)
    | with_reducible exact fo_tr (by with_reducible assumption) (hrec23 _ _ _)
    | with_reducible exact fo_tr (by with_reducible assumption) (hrec31 _ _ _ _)
    | (with_reducible refine gj_Fr.trans ?_ (gj_Fr.wide (gj_FOu (fr_X12_gives _ _) (by with_reducible assumption)) ?_); rotate_left; · first | decide +kernel | simp [gj_fsub])

set_option maxHeartbeats 600000 in
theorem fr_J_X12_asks_171 {rec23 : Int → Int → gj_M → Option (gj_M)} {rec31 : Int → Int → Int → gj_M → Option (gj_M)} (hrec23 : ∀ (l1 l2 : Int) (M : gj_M), gj_FO (fun m => m) [119, 121] [] M (rec23 l1 l2 M)) (hrec31 : ∀ (l1 l2 l3 : Int) (M : gj_M), gj_FO (fun m => m) [119, 121] [] M (rec31 l1 l2 l3 M)) (l1 l2 l3 l4 l5 : Int) (M : gj_M) : gj_FO (fun m => m) [119, 121] [] M (J_X12_asks_171 rec23 rec31 l1 l2 l3 l4 l5 M) := by
  unfold J_X12_asks_171
  have hM : gj_Fr [119, 121] [] M M := gj_Fr.rf
  repeat' first
    | with_reducible assumption
    | with_reducible exact gj_Fr.rf
    | with_reducible exact fo_none
    | with_reducible refine fo_some ?_
    | with_reducible refine fo_ite ?_ ?_
    | with_reducible refine fo_chk ?_
    | with_reducible refine fo_let ?_ (fun _ _ => ?_)
    | with_reducible refine fo_letI (fun _ => ?_)
    | with_reducible refine fo_let2 ?_ (fun _ _ _ => ?_)
    | with_reducible refine fo_bndM (fun _ _ => ?_) (fun _ _ => ?_)
    | with_reducible refine fo_bnd (fun _ => ?_)
    | with_reducible refine fo_bnd2 (fun _ _ _ => ?_) (fun _ _ _ => ?_)
    | (with_reducible refine gj_Fr.up ?_ ?_; rotate_left; · first | decide +kernel | rfl | simp)
    | (with_reducible refine gj_Fr.put ?_ ?_; rotate_left; · first | decide +kernel | rfl | simp)
    | (with_reducible refine gj_Fr.fill ?_ ?_; rotate_left; · first | decide +kernel | rfl | simp)
    | (with_reducible refine gj_Fr.copy ?_ ?_; rotate_left; · first | decide +kernel | rfl | simp)
    | with_reducible exact fo_tr (by with_reducible assumption) (fr_J_X12_asks_237 hrec23 hrec31 _ _ _ _ _ _)
    | with_reducible exact fo_tr (by with_reducible assumption) (fr_J_X12_asks_261 hrec23 hrec31 _ _ _ _)
    | with_reducible exact fo_tr (by with_reducible assumption) (hrec23 _ _ _)
    | with_reducible exact fo_tr (by with_reducible assumption) (hrec31 _ _ _ _)
    | (with_reducible refine gj_Fr.trans ?_ (gj_Fr.wide (gj_FOu (fr_X12_gives _ _) (by with_reducible assumption)) ?_); rotate_left; · first | decide +kernel | simp [gj_fsub])

set_option maxHeartbeats 600000 in
theorem fr_J_X12_asks_165 {rec23 : Int → Int → gj_M → Option (gj_M)} {rec31 : Int → Int → Int → gj_M → Option (gj_M)} {rec81 : Int → Int → Int → Int → Int → Int → gj_M → Option (gj_M)} (hrec23 : ∀ (l1 l2 : Int) (M : gj_M), gj_FO (fun m => m) [119, 121] [] M (rec23 l1 l2 M)) (hrec31 : ∀ (l1 l2 l3 : Int) (M : gj_M), gj_FO (fun m => m) [119, 121] [] M (rec31 l1 l2 l3 M)) (hrec81 : ∀ (l1 l2 l3 l4 l5 l6 : Int) (M : gj_M), gj_FO (fun m => m) [119, 121] [] M (rec81 l1 l2 l3 l4 l5 l6 M)) (l1 l2 l3 l4 l5 l6 : Int) (M : gj_M) : gj_FO (fun m => m) [119, 121] [] M (J_X12_asks_165 rec23 rec31 rec81 l1 l2 l3 l4 l5 l6 M) := by
  unfold J_X12_asks_165
  have hM : gj_Fr [119, 121] [] M M := gj_Fr.rf
  repeat' first
    | with_reducible assumption
    | with_reducible exact gj_Fr.rf
    | with_reducible exact fo_none
    | with_reducible refine fo_some ?_
    | with_reducible refine fo_ite ?_ ?_
    | with_reducible refine fo_chk ?_
    | with_reducible refine fo_let ?_ (fun _ _ => ?_)
    | with_reducible refine fo_letI (fun _ => ?_)
    | with_reducible refine fo_let2 ?_ (fun _ _ _ => ?_)
    | with_reducible refine fo_bndM (fun _ _ => ?_) (fun _ _ => ?_)
    | with_reducible refine fo_bnd (fun _ => ?_)
    | with_reducible refine fo_bnd2 (fun _ _ _ => ?_) (fun _ _ _ => ?_)
    | (with_reducible refine gj_Fr.up ?_ ?_; rotate_left; · first | decide +kernel | rfl | simp)
    | (with_reducible refine gj_Fr.put ?_ ?_; rotate_left; · first | decide +kernel | rfl | simp)
    | (with_reducible refine gj_Fr.fill ?_ ?_; rotate_left; · first | decide +kernel | rfl | simp)
    | (with_reducible refine gj_Fr.copy ?_ ?_; rotate_left; · first | decide +kernel | rfl | simp)
    | with_reducible exact fo_tr (by with_reducible assumption) (hrec23 _ _ _)
    | with_reducible exact fo_tr (by with_reducible assumption) (hrec31 _ _ _ _)
    | with_reducible exact fo_tr (by with_reducible assumption) (hrec81 _ _ _ _ _ _ _)
    | (with_reducible refine gj_Fr.trans ?_ (gj_Fr.wide (gj_FOu (fr_X12_gives _ _) (by with_reducible assumption)) ?_); rotate_left; · first | decide +kernel | simp [gj_fsub])

set_option maxHeartbeats 600000 in
theorem fr_B_X12_asks_81 {rec23 : Int → Int → gj_M → Option (gj_M)} {rec31 : Int → Int → Int → gj_M → Option (gj_M)} {rec81 : Int → Int → Int → Int → Int → Int → gj_M → Option (gj_M)} (hrec23 : ∀ (l1 l2 : Int) (M : gj_M), gj_FO (fun m => m) [119, 121] [] M (rec23 l1 l2 M)) (hrec31 : ∀ (l1 l2 l3 : Int) (M : gj_M), gj_FO (fun m => m) [119, 121] [] M (rec31 l1 l2 l3 M)) (hrec81 : ∀ (l1 l2 l3 l4 l5 l6 : Int) (M : gj_M), gj_FO (fun m => m) [119, 121] [] M (rec81 l1 l2 l3 l4 l5 l6 M)) (l1 l2 l3 l4 l5 l6 : Int) (M : gj_M) : gj_FO (fun m => m) [119, 121] [] M (B_X12_asks_81 rec23 rec31 rec81 l1 l2 l3 l4 l5 l6 M) := by
  unfold B_X12_asks_81
  have hM : gj_Fr [119, 121] [] M M := gj_Fr.rf
  repeat' first
    | with_reducible assumption
    | with_reducible exact gj_Fr.rf
    | with_reducible exact fo_none
    | with_reducible refine fo_some ?_
    | with_reducible refine fo_ite ?_ ?_
    | with_reducible refine fo_chk ?_
    | with_reducible refine fo_let ?_ (fun _ _ => ?_)
    | with_reducible refine fo_letI (fun _ => ?_)
    | with_reducible refine fo_let2 ?_ (fun _ _ _ => ?_)
    | with_reducible refine fo_bndM (fun _ _ => ?_) (fun _ _ => ?_)
    | with_reducible refine fo_bnd (fun _ => ?_)
    | with_reducible refine fo_bnd2 (fun _ _ _ => ?_) (fun _ _ _ => ?_)
    | (with_reducible refine gj_Fr.up ?_ ?_; rotate_left; · first | decide +kernel | rfl | simp)
    | (with_reducible refine gj_Fr.put ?_ ?_; rotate_left; · first | decide +kernel | rfl | simp)
    | (with_reducible refine gj_Fr.fill ?_ ?_; rotate_left; · first | decide +kernel | rfl | simp)
    | (with_reducible refine gj_Fr.copy ?_ ?_; rotate_left; · first | decide +kernel | rfl | simp)
    | with_reducible exact fo_tr (by with_reducible assumption) (fr_J_X12_asks_165 hrec23 hrec31 hrec81 _ _ _ _ _ _ _)
    | with_reducible exact fo_tr (by with_reducible assumption) (fr_J_X12_asks_171 hrec23 hrec31 _ _ _ _ _ _)
    | with_reducible exact fo_tr (by with_reducible assumption) (hrec23 _ _ _)
    | with_reducible exact fo_tr (by with_reducible assumption) (hrec31 _ _ _ _)
    | with_reducible exact fo_tr (by with_reducible assumption) (hrec81 _ _ _ _ _ _ _)
    | (with_reducible refine gj_Fr.trans ?_ (gj_Fr.wide (gj_FOu (fr_X12_gives _ _) (by with_reducible assumption)) ?_); rotate_left; · first | decide +kernel | simp [gj_fsub])

theorem frL_X12_asks_81 {rec23 : Int → Int → gj_M → Option (gj_M)} {rec31 : Int → Int → Int → gj_M → Option (gj_M)} (hrec23 : ∀ (l1 l2 : Int) (M : gj_M), gj_FO (fun m => m) [119, 121] [] M (rec23 l1 l2 M)) (hrec31 : ∀ (l1 l2 l3 : Int) (M : gj_M), gj_FO (fun m => m) [119, 121] [] M (rec31 l1 l2 l3 M)) : ∀ (m : Nat) (l1 l2 l3 l4 l5 l6 : Int) (M : gj_M), gj_FO (fun m => m) [119, 121] [] M (gj_it (fun _ _ _ _ _ _ _ => none) (B_X12_asks_81 rec23 rec31) m l1 l2 l3 l4 l5 l6 M)
  | 0, l1, l2, l3, l4, l5, l6, M => fun r e => by cases (show (none : Option (gj_M)) = some r from e)
  | m + 1, l1, l2, l3, l4, l5, l6, M => fr_B_X12_asks_81 hrec23 hrec31 (fun l1 l2 l3 l4 l5 l6 M => frL_X12_asks_81 hrec23 hrec31 m l1 l2 l3 l4 l5 l6 M) l1 l2 l3 l4 l5 l6 M
set_option maxHeartbeats 600000 in
theorem fr_B_X12_asks_31 {rec23 : Int → Int → gj_M → Option (gj_M)} {rec31 : Int → Int → Int → gj_M → Option (gj_M)} (hrec23 : ∀ (l1 l2 : Int) (M : gj_M), gj_FO (fun m => m) [119, 121] [] M (rec23 l1 l2 M)) (hrec31 : ∀ (l1 l2 l3 : Int) (M : gj_M), gj_FO (fun m => m) [119, 121] [] M (rec31 l1 l2 l3 M)) (l1 l2 l3 : Int) (M : gj_M) : gj_FO (fun m => m) [119, 121] [] M (B_X12_asks_31 rec23 rec31 l1 l2 l3 M) := by
  unfold B_X12_asks_31
  have hM : gj_Fr [119, 121] [] M M := gj_Fr.rf
  repeat' first
    | with_reducible assumption
    | with_reducible exact gj_Fr.rf
    | with_reducible exact fo_none
    | with_reducible refine fo_some ?_
    | with_reducible refine fo_ite ?_ ?_
    | with_reducible refine fo_chk ?_
    | with_reducible refine fo_let ?_ (fun _ _ => ?_)
    | with_reducible refine fo_letI (fun _ => ?_)
    | with_reducible refine fo_let2 ?_ (fun _ _ _ => ?_)
    | with_reducible refine fo_bndM (fun _ _ => ?_) (fun _ _ => ?_)
    | with_reducible refine fo_bnd (fun _ => ?_)
    | with_reducible refine fo_bnd2 (fun _ _ _ => ?_) (fun _ _ _ => ?_)
    | (with_reducible refine gj_Fr.up ?_ ?_; rotate_left; · first | decide +kernel | rfl | simp)
    | (with_reducible refine gj_Fr.put ?_ ?_; rotate_left; · first | decide +kernel | rfl | simp)
    | (with_reducible refine gj_Fr.fill ?_ ?_; rotate_left; · first | decide +kernel | rfl | simp)
    | (with_reducible refine gj_Fr.copy ?_ ?_; rotate_left; · first | decide +kernel | rfl | simp)
    | with_reducible exact fo_tr (by with_reducible assumption) (frL_X12_asks_81 hrec23 hrec31 _ _ _ _ _ _ _ _)
    | with_reducible exact fo_tr (by with_reducible assumption) (fr_J_X12_asks_261 hrec23 hrec31 _ _ _ _)
    | with_reducible exact fo_tr (by with_reducible assumption) (fr_J_X12_asks_267 hrec23 _ _ _)
    | with_reducible exact fo_tr (by with_reducible assumption) (hrec23 _ _ _)
    | with_reducible exact fo_tr (by with_reducible assumption) (hrec31 _ _ _ _)
    | (with_reducible refine gj_Fr.trans ?_ (gj_Fr.wide (gj_FOu (fr_X12_gives _ _) (by with_reducible assumption)) ?_); rotate_left; · first | decide +kernel | simp [gj_fsub])

theorem frL_X12_asks_31 {rec23 : Int → Int → gj_M → Option (gj_M)} (hrec23 : ∀ (l1 l2 : Int) (M : gj_M), gj_FO (fun m => m) [119, 121] [] M (rec23 l1 l2 M)) : ∀ (m : Nat) (l1 l2 l3 : Int) (M : gj_M), gj_FO (fun m => m) [119, 121] [] M (gj_it (fun _ _ _ _ => none) (B_X12_asks_31 rec23) m l1 l2 l3 M)
  | 0, l1, l2, l3, M => fun r e => by cases (show (none : Option (gj_M)) = some r from e)
  | m + 1, l1, l2, l3, M => fr_B_X12_asks_31 hrec23 (fun l1 l2 l3 M => frL_X12_asks_31 hrec23 m l1 l2 l3 M) l1 l2 l3 M
set_option maxHeartbeats 600000 in
theorem fr_B_X12_asks_23 {rec23 : Int → Int → gj_M → Option (gj_M)} (hrec23 : ∀ (l1 l2 : Int) (M : gj_M), gj_FO (fun m => m) [119, 121] [] M (rec23 l1 l2 M)) (l1 l2 : Int) (M : gj_M) : gj_FO (fun m => m) [119, 121] [] M (B_X12_asks_23 rec23 l1 l2 M) := by
  unfold B_X12_asks_23
  have hM : gj_Fr [119, 121] [] M M := gj_Fr.rf
  repeat' first
    | with_reducible assumption
    | with_reducible exact gj_Fr.rf
    | with_reducible exact fo_none
    | with_reducible refine fo_some ?_
    | with_reducible refine fo_ite ?_ ?_
    | with_reducible refine fo_chk ?_
    | with_reducible refine fo_let ?_ (fun _ _ => ?_)
    | with_reducible refine fo_letI (fun _ => ?_)
    | with_reducible refine fo_let2 ?_ (fun _ _ _ => ?_)
    | with_reducible refine fo_bndM (fun _ _ => ?_) (fun _ _ => ?_)
    | with_reducible refine fo_bnd (fun _ => ?_)
    | with_reducible refine fo_bnd2 (fun _ _ _ => ?_) (fun _ _ _ => ?_)
    | (with_reducible refine gj_Fr.up ?_ ?_; rotate_left; · first | decide +kernel | rfl | simp)
    | (with_reducible refine gj_Fr.put ?_ ?_; rotate_left; · first | decide +kernel | rfl | simp)
    | (with_reducible refine gj_Fr.fill ?_ ?_; rotate_left; · first | decide +kernel | rfl | simp)
    | (with_reducible refine gj_Fr.copy ?_ ?_; rotate_left; · first | decide +kernel | rfl | simp)
    | with_reducible exact fo_tr (by with_reducible assumption) (frL_X12_asks_31 hrec23 _ _ _ _ _)
    | with_reducible exact fo_tr (by with_reducible assumption) (hrec23 _ _ _)
    | (with_reducible refine gj_Fr.trans ?_ (gj_Fr.wide (gj_FOu (fr_X12_gives _ _) (by with_reducible assumption)) ?_); rotate_left; · first | decide +kernel | simp [gj_fsub])

theorem frL_X12_asks_23 : ∀ (m : Nat) (l1 l2 : Int) (M : gj_M), gj_FO (fun m => m) [119, 121] [] M (gj_it (fun _ _ _ => none) (B_X12_asks_23) m l1 l2 M)
  | 0, l1, l2, M => fun r e => by cases (show (none : Option (gj_M)) = some r from e)
  | m + 1, l1, l2, M => fr_B_X12_asks_23 (fun l1 l2 M => frL_X12_asks_23 m l1 l2 M) l1 l2 M
set_option maxHeartbeats 600000 in
theorem fr_J_X12_asks_21 (l1 : Int) (M : gj_M) : gj_FO (fun m => m) [119, 121] [] M (J_X12_asks_21 l1 M) := by
  unfold J_X12_asks_21
  have hM : gj_Fr [119, 121] [] M M := gj_Fr.rf
  repeat' first
    | with_reducible assumption
    | with_reducible exact gj_Fr.rf
    | with_reducible exact fo_none
    | with_reducible refine fo_some ?_
    | with_reducible refine fo_ite ?_ ?_
    | with_reducible refine fo_chk ?_
    | with_reducible refine fo_let ?_ (fun _ _ => ?_)
    | with_reducible refine fo_letI (fun _ => ?_)
    | with_reducible refine fo_let2 ?_ (fun _ _ _ => ?_)
    | with_reducible refine fo_bndM (fun _ _ => ?_) (fun _ _ => ?_)
    | with_reducible refine fo_bnd (fun _ => ?_)
    | with_reducible refine fo_bnd2 (fun _ _ _ => ?_) (fun _ _ _ => ?_)
    | (with_reducible refine gj_Fr.up ?_ ?_; rotate_left; · first | decide +kernel | rfl | simp)
    | (with_reducible refine gj_Fr.put ?_ ?_; rotate_left; · first | decide +kernel | rfl | simp)
    | (with_reducible refine gj_Fr.fill ?_ ?_; rotate_left; · first | decide +kernel | rfl | simp)
    | (with_reducible refine gj_Fr.copy ?_ ?_; rotate_left; · first | decide +kernel | rfl | simp)
    | with_reducible exact fo_tr (by with_reducible assumption) (frL_X12_asks_23 _ _ _ _)
    | (with_reducible refine gj_Fr.trans ?_ (gj_Fr.wide (gj_FOu (fr_X12_gives _ _) (by with_reducible assumption)) ?_); rotate_left; · first | decide +kernel | simp [gj_fsub])

set_option maxHeartbeats 600000 in
theorem fr_B_X12_asks_2 {rec2 : Int → Int → gj_M → Option (gj_M)} (hrec2 : ∀ (l1 l2 : Int) (M : gj_M), gj_FO (fun m => m) [119, 121] [] M (rec2 l1 l2 M)) (l1 l2 : Int) (M : gj_M) : gj_FO (fun m => m) [119, 121] [] M (B_X12_asks_2 rec2 l1 l2 M) := by
  unfold B_X12_asks_2
  have hM : gj_Fr [119, 121] [] M M := gj_Fr.rf
  repeat' first
    | with_reducible assumption
    | with_reducible exact gj_Fr.rf
    | with_reducible exact fo_none
    | with_reducible refine fo_some ?_
    | with_reducible refine fo_ite ?_ ?_
    | with_reducible refine fo_chk ?_
    | with_reducible refine fo_let ?_ (fun _ _ => ?_)
    | with_reducible refine fo_letI (fun _ => ?_)
    | with_reducible refine fo_let2 ?_ (fun _ _ _ => ?_)
    | with_reducible refine fo_bndM (fun _ _ => ?_) (fun _ _ => ?_)
    | with_reducible refine fo_bnd (fun _ => ?_)
    | with_reducible refine fo_bnd2 (fun _ _ _ => ?_) (fun _ _ _ => ?_)
    | (with_reducible refine gj_Fr.up ?_ ?_; rotate_left; · first | decide +kernel | rfl | simp)
    | (with_reducible refine gj_Fr.put ?_ ?_; rotate_left; · first | decide +kernel | rfl | simp)
    | (with_reducible refine gj_Fr.fill ?_ ?_; rotate_left; · first | decide +kernel | rfl | simp)
    | (with_reducible refine gj_Fr.copy ?_ ?_; rotate_left; · first | decide +kernel | rfl | simp)
    | with_reducible exact fo_tr (by with_reducible assumption) (fr_J_X12_asks_21 _ _)
    | with_reducible exact fo_tr (by with_reducible assumption) (hrec2 _ _ _)
    | (with_reducible refine gj_Fr.trans ?_ (gj_Fr.wide (gj_FOu (fr_X12_gives _ _) (by with_reducible assumption)) ?_); rotate_left; · first | decide +kernel | simp [gj_fsub])

theorem frL_X12_asks_2 : ∀ (m : Nat) (l1 l2 : Int) (M : gj_M), gj_FO (fun m => m) [119, 121] [] M (gj_it (fun _ _ _ => none) (B_X12_asks_2) m l1 l2 M)
  | 0, l1, l2, M => fun r e => by cases (show (none : Option (gj_M)) = some r from e)
  | m + 1, l1, l2, M => fr_B_X12_asks_2 (fun l1 l2 M => frL_X12_asks_2 m l1 l2 M) l1 l2 M
set_option maxHeartbeats 600000 in
theorem fr_X12_asks (a1 : Int) {M : gj_M} : gj_FO (fun m => m) [119, 121] [] M (F_X12_asks a1 M) := by
  unfold F_X12_asks
  have hM : gj_Fr [119, 121] [] M M := gj_Fr.rf
  repeat' first
    | with_reducible assumption
    | with_reducible exact gj_Fr.rf
    | with_reducible exact fo_none
    | with_reducible refine fo_some ?_
    | with_reducible refine fo_ite ?_ ?_
    | with_reducible refine fo_chk ?_
    | with_reducible refine fo_let ?_ (fun _ _ => ?_)
    | with_reducible refine fo_letI (fun _ => ?_)
    | with_reducible refine fo_let2 ?_ (fun _ _ _ => ?_)
    | with_reducible refine fo_bndM (fun _ _ => ?_) (fun _ _ => ?_)
    | with_reducible refine fo_bnd (fun _ => ?_)
    | with_reducible refine fo_bnd2 (fun _ _ _ => ?_) (fun _ _ _ => ?_)
    | (with_reducible refine gj_Fr.up ?_ ?_; rotate_left; · first | decide +kernel | rfl | simp)
    | (with_reducible refine gj_Fr.put ?_ ?_; rotate_left; · first | decide +kernel | rfl | simp)
    | (with_reducible refine gj_Fr.fill ?_ ?_; rotate_left; · first | decide +kernel | rfl | simp)
    | (with_reducible refine gj_Fr.copy ?_ ?_; rotate_left; · first | decide +kernel | rfl | simp)
    | with_reducible exact fo_tr (by with_reducible assumption) (frL_X12_asks_2 _ _ _ _)
    | (with_reducible refine gj_Fr.trans ?_ (gj_Fr.wide (gj_FOu (fr_X12_gives _ _) (by with_reducible assumption)) ?_); rotate_left; · first | decide +kernel | simp [gj_fsub])

set_option maxHeartbeats 600000 in
theorem fr_J_X12_inTurn_107 {rec2 : Int → gj_M → Option (gj_M)} (hrec2 : ∀ (l1 : Int) (M : gj_M), gj_FO (fun m => m) [119] [] M (rec2 l1 M)) (l1 : Int) (M : gj_M) : gj_FO (fun m => m) [119] [] M (J_X12_inTurn_107 rec2 l1 M) := by
  unfold J_X12_inTurn_107
  have hM : gj_Fr [119] [] M M := gj_Fr.rf
  repeat' first
    | with_reducible assumption
    | with_reducible exact gj_Fr.rf
    | with_reducible exact fo_none
    | with_reducible refine fo_some ?_
    | with_reducible refine fo_ite ?_ ?_
    | with_reducible refine fo_chk ?_
    | with_reducible refine fo_let ?_ (fun _ _ => ?_)
    | with_reducible refine fo_letI (fun _ => ?_)
    | with_reducible refine fo_let2 ?_ (fun _ _ _ => ?_)
    | with_reducible refine fo_bndM (fun _ _ => ?_) (fun _ _ => ?_)
    | with_reducible refine fo_bnd (fun _ => ?_)
    | with_reducible refine fo_bnd2 (fun _ _ _ => ?_) (fun _ _ _ => ?_)
    | (with_reducible refine gj_Fr.up ?_ ?_; rotate_left; · first | decide +kernel | rfl | simp)
    | (with_reducible refine gj_Fr.put ?_ ?_; rotate_left; · first | decide +kernel | rfl | simp)
    | (with_reducible refine gj_Fr.fill ?_ ?_; rotate_left; · first | decide +kernel | rfl | simp)
    | (with_reducible refine gj_Fr.copy ?_ ?_; rotate_left; · first | decide +kernel | rfl | simp)
    | with_reducible exact fo_tr (by with_reducible assumption) (hrec2 _ _)
    | (with_reducible refine gj_Fr.trans ?_ (gj_Fr.wide (gj_FOu (fr_X12_gives _ _) (by with_reducible assumption)) ?_); rotate_left; · first | decide +kernel | simp [gj_fsub])

set_option maxHeartbeats 600000 in
theorem fr_J_X12_inTurn_96 {rec2 : Int → gj_M → Option (gj_M)} (hrec2 : ∀ (l1 : Int) (M : gj_M), gj_FO (fun m => m) [119] [] M (rec2 l1 M)) (l1 l2 : Int) (M : gj_M) : gj_FO (fun m => m) [119] [] M (J_X12_inTurn_96 rec2 l1 l2 M) := by
  unfold J_X12_inTurn_96
  have hM : gj_Fr [119] [] M M := gj_Fr.rf
  repeat' first
    | with_reducible assumption
    | with_reducible exact gj_Fr.rf
    | with_reducible exact fo_none
    | with_reducible refine fo_some ?_
    | with_reducible refine fo_ite ?_ ?_
    | with_reducible refine fo_chk ?_
    | with_reducible refine fo_let ?_ (fun _ _ => ?_)
    | with_reducible refine fo_letI (fun _ => ?_)
    | with_reducible refine fo_let2 ?_ (fun _ _ _ => ?_)
    | with_reducible refine fo_bndM (fun _ _ => ?_) (fun _ _ => ?_)
    | with_reducible refine fo_bnd (fun _ => ?_)
    | with_reducible refine fo_bnd2 (fun _ _ _ => ?_) (fun _ _ _ => ?_)
    | (with_reducible refine gj_Fr.up ?_ ?_; rotate_left; · first | decide +kernel | rfl | simp)
    | (with_reducible refine gj_Fr.put ?_ ?_; rotate_left; · first | decide +kernel | rfl | simp)
    | (with_reducible refine gj_Fr.fill ?_ ?_; rotate_left; · first | decide +kernel | rfl | simp)
    | (with_reducible refine gj_Fr.copy ?_ ?_; rotate_left; · first | decide +kernel | rfl | simp)
    | with_reducible exact fo_tr (by with_reducible assumption) (fr_J_X12_inTurn_107 hrec2 _ _)
    | with_reducible exact fo_tr (by with_reducible assumption) (hrec2 _ _)
    | (with_reducible refine gj_Fr.trans ?_ (gj_Fr.wide (gj_FOu (fr_X12_gives _ _) (by with_reducible assumption)) ?_); rotate_left; · first | decide +kernel | simp [gj_fsub])

set_option maxHeartbeats 600000 in
theorem fr_J_X12_inTurn_90 {rec2 : Int → gj_M → Option (gj_M)} {rec31 : Int → Int → Int → gj_M → Option (gj_M)} (hrec2 : ∀ (l1 : Int) (M : gj_M), gj_FO (fun m => m) [119] [] M (rec2 l1 M)) (hrec31 : ∀ (l1 l2 l3 : Int) (M : gj_M), gj_FO (fun m => m) [119] [] M (rec31 l1 l2 l3 M)) (l1 l2 l3 : Int) (M : gj_M) : gj_FO (fun m => m) [119] [] M (J_X12_inTurn_90 rec2 rec31 l1 l2 l3 M) := by
  unfold J_X12_inTurn_90
  have hM : gj_Fr [119] [] M M := gj_Fr.rf
  repeat' first
    | with_reducible assumption
    | with_reducible exact gj_Fr.rf
    | with_reducible exact fo_none
    | with_reducible refine fo_some ?_
    | with_reducible refine fo_ite ?_ ?_
    | with_reducible refine fo_chk ?_
    | with_reducible refine fo_let ?_ (fun _ _ => ?_)
    | with_reducible refine fo_letI (fun _ => ?_)
    | with_reducible refine fo_let2 ?_ (fun _ _ _ => ?_)
    | with_reducible refine fo_bndM (fun _ _ => ?_) (fun _ _ => ?_)
    | with_reducible refine fo_bnd (fun _ => ?_)
    | with_reducible refine fo_bnd2 (fun _ _ _ => ?_) (fun _ _ _ => ?_)
    | (with_reducible refine gj_Fr.up ?_ ?_; rotate_left; · first | decide +kernel | rfl | simp)
    | (with_reducible refine gj_Fr.put ?_ ?_; rotate_left; · first | decide +kernel | rfl | simp)
    | (with_reducible refine gj_Fr.fill ?_ ?_; rotate_left; · first | decide +kernel | rfl | simp)
    | (with_reducible refine gj_Fr.copy ?_ ?_; rotate_left; · first | decide +kernel | rfl | simp)
    | with_reducible exact fo_tr (by with_reducible assumption) (hrec2 _ _)
    | with_reducible exact fo_tr (by with_reducible assumption) (hrec31 _ _ _ _)
    | (with_reducible refine gj_Fr.trans ?_ (gj_Fr.wide (gj_FOu (fr_X12_gives _ _) (by with_reducible assumption)) ?_); rotate_left; · first | decide +kernel | simp [gj_fsub])

set_option maxHeartbeats 600000 in
theorem fr_B_X12_inTurn_31 {rec2 : Int → gj_M → Option (gj_M)} {rec31 : Int → Int → Int → gj_M → Option (gj_M)} (hrec2 : ∀ (l1 : Int) (M : gj_M), gj_FO (fun m => m) [119] [] M (rec2 l1 M)) (hrec31 : ∀ (l1 l2 l3 : Int) (M : gj_M), gj_FO (fun m => m) [119] [] M (rec31 l1 l2 l3 M)) (l1 l2 l3 : Int) (M : gj_M) : gj_FO (fun m => m) [119] [] M (B_X12_inTurn_31 rec2 rec31 l1 l2 l3 M) := by
  unfold B_X12_inTurn_31
  have hM : gj_Fr [119] [] M M := gj_Fr.rf
  repeat' first
    | with_reducible assumption
    | with_reducible exact gj_Fr.rf
    | with_reducible exact fo_none
    | with_reducible refine fo_some ?_
    | with_reducible refine fo_ite ?_ ?_
    | with_reducible refine fo_chk ?_
    | with_reducible refine fo_let ?_ (fun _ _ => ?_)
    | with_reducible refine fo_letI (fun _ => ?_)
    | with_reducible refine fo_let2 ?_ (fun _ _ _ => ?_)
    | with_reducible refine fo_bndM (fun _ _ => ?_) (fun _ _ => ?_)
    | with_reducible refine fo_bnd (fun _ => ?_)
    | with_reducible refine fo_bnd2 (fun _ _ _ => ?_) (fun _ _ _ => ?_)
    | (with_reducible refine gj_Fr.up ?_ ?_; rotate_left; · first | decide +kernel | rfl | simp)
    | (with_reducible refine gj_Fr.put ?_ ?_; rotate_left; · first | decide +kernel | rfl | simp)
    | (with_reducible refine gj_Fr.fill ?_ ?_; rotate_left; · first | decide +kernel | rfl | simp)
    | (with_reducible refine gj_Fr.copy ?_ ?_; rotate_left; · first | decide +kernel | rfl | simp)
    | with_reducible exact fo_tr (by with_reducible assumption) (fr_J_X12_inTurn_90 hrec2 hrec31 _ _ _ _)
    | with_reducible exact fo_tr (by with_reducible assumption) (fr_J_X12_inTurn_96 hrec2 _ _ _)
    | with_reducible exact fo_tr (by with_reducible assumption) (hrec2 _ _)
    | with_reducible exact fo_tr (by with_reducible assumption) (hrec31 _ _ _ _)
    | (with_reducible refine gj_Fr.trans ?_ (gj_Fr.wide (gj_FOu (fr_X12_gives _ _) (by with_reducible assumption)) ?_); rotate_left; · first | decide +kernel | simp [gj_fsub])

theorem frL_X12_inTurn_31 {rec2 : Int → gj_M → Option (gj_M)} (hrec2 : ∀ (l1 : Int) (M : gj_M), gj_FO (fun m => m) [119] [] M (rec2 l1 M)) : ∀ (m : Nat) (l1 l2 l3 : Int) (M : gj_M), gj_FO (fun m => m) [119] [] M (gj_it (fun _ _ _ _ => none) (B_X12_inTurn_31 rec2) m l1 l2 l3 M)
  | 0, l1, l2, l3, M => fun r e => by cases (show (none : Option (gj_M)) = some r from e)
  | m + 1, l1, l2, l3, M => fr_B_X12_inTurn_31 hrec2 (fun l1 l2 l3 M => frL_X12_inTurn_31 hrec2 m l1 l2 l3 M) l1 l2 l3 M
set_option maxHeartbeats 600000 in
theorem fr_B_X12_inTurn_2 {rec2 : Int → gj_M → Option (gj_M)} (hrec2 : ∀ (l1 : Int) (M : gj_M), gj_FO (fun m => m) [119] [] M (rec2 l1 M)) (l1 : Int) (M : gj_M) : gj_FO (fun m => m) [119] [] M (B_X12_inTurn_2 rec2 l1 M) := by
  unfold B_X12_inTurn_2
  have hM : gj_Fr [119] [] M M := gj_Fr.rf
  repeat' first
    | with_reducible assumption
    | with_reducible exact gj_Fr.rf
    | with_reducible exact fo_none
    | with_reducible refine fo_some ?_
    | with_reducible refine fo_ite ?_ ?_
    | with_reducible refine fo_chk ?_
    | with_reducible refine fo_let ?_ (fun _ _ => ?_)
    | with_reducible refine fo_letI (fun _ => ?_)
    | with_reducible refine fo_let2 ?_ (fun _ _ _ => ?_)
    | with_reducible refine fo_bndM (fun _ _ => ?_) (fun _ _ => ?_)
    | with_reducible refine fo_bnd (fun _ => ?_)
    | with_reducible refine fo_bnd2 (fun _ _ _ => ?_) (fun _ _ _ => ?_)
    | (with_reducible refine gj_Fr.up ?_ ?_; rotate_left; · first | decide +kernel | rfl | simp)
    | (with_reducible refine gj_Fr.put ?_ ?_; rotate_left; · first | decide +kernel | rfl | simp)
    | (with_reducible refine gj_Fr.fill ?_ ?_; rotate_left; · first | decide +kernel | rfl | simp)
    | (with_reducible refine gj_Fr.copy ?_ ?_; rotate_left; · first | decide +kernel | rfl | simp)
    | with_reducible exact fo_tr (by with_reducible assumption) (frL_X12_inTurn_31 hrec2 _ _ _ _ _)
    | with_reducible exact fo_tr (by with_reducible assumption) (fr_J_X12_inTurn_107 hrec2 _ _)
    | with_reducible exact fo_tr (by with_reducible assumption) (hrec2 _ _)
    | (with_reducible refine gj_Fr.trans ?_ (gj_Fr.wide (gj_FOu (fr_X12_gives _ _) (by with_reducible assumption)) ?_); rotate_left; · first | decide +kernel | simp [gj_fsub])

theorem frL_X12_inTurn_2 : ∀ (m : Nat) (l1 : Int) (M : gj_M), gj_FO (fun m => m) [119] [] M (gj_it (fun _ _ => none) (B_X12_inTurn_2) m l1 M)
  | 0, l1, M => fun r e => by cases (show (none : Option (gj_M)) = some r from e)
  | m + 1, l1, M => fr_B_X12_inTurn_2 (fun l1 M => frL_X12_inTurn_2 m l1 M) l1 M
set_option maxHeartbeats 600000 in
theorem fr_X12_inTurn {M : gj_M} : gj_FO (fun m => m) [119] [] M (F_X12_inTurn M) := by
  unfold F_X12_inTurn
  have hM : gj_Fr [119] [] M M := gj_Fr.rf
  repeat' first
    | with_reducible assumption
    | with_reducible exact gj_Fr.rf
    | with_reducible exact fo_none
    | with_reducible refine fo_some ?_
    | with_reducible refine fo_ite ?_ ?_
    | with_reducible refine fo_chk ?_
    | with_reducible refine fo_let ?_ (fun _ _ => ?_)
    | with_reducible refine fo_letI (fun _ => ?_)
    | with_reducible refine fo_let2 ?_ (fun _ _ _ => ?_)
    | with_reducible refine fo_bndM (fun _ _ => ?_) (fun _ _ => ?_)
    | with_reducible refine fo_bnd (fun _ => ?_)
    | with_reducible refine fo_bnd2 (fun _ _ _ => ?_) (fun _ _ _ => ?_)
    | (with_reducible refine gj_Fr.up ?_ ?_; rotate_left; · first | decide +kernel | rfl | simp)
    | (with_reducible refine gj_Fr.put ?_ ?_; rotate_left; · first | decide +kernel | rfl | simp)
    | (with_reducible refine gj_Fr.fill ?_ ?_; rotate_left; · first | decide +kernel | rfl | simp)
    | (with_reducible refine gj_Fr.copy ?_ ?_; rotate_left; · first | decide +kernel | rfl | simp)
    | with_reducible exact fo_tr (by with_reducible assumption) (frL_X12_inTurn_2 _ _ _)
    | (with_reducible refine gj_Fr.trans ?_ (gj_Fr.wide (gj_FOu (fr_X12_gives _ _) (by with_reducible assumption)) ?_); rotate_left; · first | decide +kernel | simp [gj_fsub])

set_option maxHeartbeats 600000 in
theorem fr_J_X12_byLot_176 {rec2 : Int → gj_M → Option (gj_M)} (hrec2 : ∀ (l1 : Int) (M : gj_M), gj_FO (fun m => m) [119] [(79, 30)] M (rec2 l1 M)) (l1 : Int) (M : gj_M) : gj_FO (fun m => m) [119] [(79, 30)] M (J_X12_byLot_176 rec2 l1 M) := by
  unfold J_X12_byLot_176
  have hM : gj_Fr [119] [(79, 30)] M M := gj_Fr.rf
  repeat' first
    | with_reducible assumption
    | with_reducible exact gj_Fr.rf
    | with_reducible exact fo_none
    | with_reducible refine fo_some ?_
    | with_reducible refine fo_ite ?_ ?_
    | with_reducible refine fo_chk ?_
    | with_reducible refine fo_let ?_ (fun _ _ => ?_)
    | with_reducible refine fo_letI (fun _ => ?_)
    | with_reducible refine fo_let2 ?_ (fun _ _ _ => ?_)
    | with_reducible refine fo_bndM (fun _ _ => ?_) (fun _ _ => ?_)
    | with_reducible refine fo_bnd (fun _ => ?_)
    | with_reducible refine fo_bnd2 (fun _ _ _ => ?_) (fun _ _ _ => ?_)
    | (with_reducible refine gj_Fr.up ?_ ?_; rotate_left; · first | decide +kernel | rfl | simp)
    | (with_reducible refine gj_Fr.put ?_ ?_; rotate_left; · first | decide +kernel | rfl | simp)
    | (with_reducible refine gj_Fr.fill ?_ ?_; rotate_left; · first | decide +kernel | rfl | simp)
    | (with_reducible refine gj_Fr.copy ?_ ?_; rotate_left; · first | decide +kernel | rfl | simp)
    | with_reducible exact fo_tr (by with_reducible assumption) (hrec2 _ _)
    | (with_reducible refine gj_Fr.trans ?_ (gj_Fr.wide (gj_FOu (fr_X12_lot _) (by with_reducible assumption)) ?_); rotate_left; · first | decide +kernel | simp [gj_fsub])
    | (with_reducible refine gj_Fr.trans ?_ (gj_Fr.wide (gj_FOu (fr_X12_gives _ _) (by with_reducible assumption)) ?_); rotate_left; · first | decide +kernel | simp [gj_fsub])

set_option maxHeartbeats 600000 in
theorem fr_J_X12_byLot_157 {rec2 : Int → gj_M → Option (gj_M)} (hrec2 : ∀ (l1 : Int) (M : gj_M), gj_FO (fun m => m) [119] [(79, 30)] M (rec2 l1 M)) (l1 l4 : Int) (M : gj_M) : gj_FO (fun m => m) [119] [(79, 30)] M (J_X12_byLot_157 rec2 l1 l4 M) := by
  unfold J_X12_byLot_157
  have hM : gj_Fr [119] [(79, 30)] M M := gj_Fr.rf
  repeat' first
    | with_reducible assumption
    | with_reducible exact gj_Fr.rf
    | with_reducible exact fo_none
    | with_reducible refine fo_some ?_
    | with_reducible refine fo_ite ?_ ?_
    | with_reducible refine fo_chk ?_
    | with_reducible refine fo_let ?_ (fun _ _ => ?_)
    | with_reducible refine fo_letI (fun _ => ?_)
    | with_reducible refine fo_let2 ?_ (fun _ _ _ => ?_)
    | with_reducible refine fo_bndM (fun _ _ => ?_) (fun _ _ => ?_)
    | with_reducible refine fo_bnd (fun _ => ?_)
    | with_reducible refine fo_bnd2 (fun _ _ _ => ?_) (fun _ _ _ => ?_)
    | (with_reducible refine gj_Fr.up ?_ ?_; rotate_left; · first | decide +kernel | rfl | simp)
    | (with_reducible refine gj_Fr.put ?_ ?_; rotate_left; · first | decide +kernel | rfl | simp)
    | (with_reducible refine gj_Fr.fill ?_ ?_; rotate_left; · first | decide +kernel | rfl | simp)
    | (with_reducible refine gj_Fr.copy ?_ ?_; rotate_left; · first | decide +kernel | rfl | simp)
    | with_reducible exact fo_tr (by with_reducible assumption) (fr_J_X12_byLot_176 hrec2 _ _)
    | with_reducible exact fo_tr (by with_reducible assumption) (hrec2 _ _)
    | (with_reducible refine gj_Fr.trans ?_ (gj_Fr.wide (gj_FOu (fr_X12_lot _) (by with_reducible assumption)) ?_); rotate_left; · first | decide +kernel | simp [gj_fsub])
    | (with_reducible refine gj_Fr.trans ?_ (gj_Fr.wide (gj_FOu (fr_X12_gives _ _) (by with_reducible assumption)) ?_); rotate_left; · first | decide +kernel | simp [gj_fsub])

set_option maxHeartbeats 600000 in
theorem fr_B_X12_byLot_103 {rec2 : Int → gj_M → Option (gj_M)} {rec103 : Int → Int → Int → gj_M → Option (gj_M)} (hrec2 : ∀ (l1 : Int) (M : gj_M), gj_FO (fun m => m) [119] [(79, 30)] M (rec2 l1 M)) (hrec103 : ∀ (l1 l3 l4 : Int) (M : gj_M), gj_FO (fun m => m) [119] [(79, 30)] M (rec103 l1 l3 l4 M)) (l1 l3 l4 : Int) (M : gj_M) : gj_FO (fun m => m) [119] [(79, 30)] M (B_X12_byLot_103 rec2 rec103 l1 l3 l4 M) := by
  unfold B_X12_byLot_103
  have hM : gj_Fr [119] [(79, 30)] M M := gj_Fr.rf
  repeat' first
    | with_reducible assumption
    | with_reducible exact gj_Fr.rf
    | with_reducible exact fo_none
    | with_reducible refine fo_some ?_
    | with_reducible refine fo_ite ?_ ?_
    | with_reducible refine fo_chk ?_
    | with_reducible refine fo_let ?_ (fun _ _ => ?_)
    | with_reducible refine fo_letI (fun _ => ?_)
    | with_reducible refine fo_let2 ?_ (fun _ _ _ => ?_)
    | with_reducible refine fo_bndM (fun _ _ => ?_) (fun _ _ => ?_)
    | with_reducible refine fo_bnd (fun _ => ?_)
    | with_reducible refine fo_bnd2 (fun _ _ _ => ?_) (fun _ _ _ => ?_)
    | (with_reducible refine gj_Fr.up ?_ ?_; rotate_left; · first | decide +kernel | rfl | simp)
    | (with_reducible refine gj_Fr.put ?_ ?_; rotate_left; · first | decide +kernel | rfl | simp)
    | (with_reducible refine gj_Fr.fill ?_ ?_; rotate_left; · first | decide +kernel | rfl | simp)
    | (with_reducible refine gj_Fr.copy ?_ ?_; rotate_left; · first | decide +kernel | rfl | simp)
    | with_reducible exact fo_tr (by with_reducible assumption) (fr_J_X12_byLot_157 hrec2 _ _ _)
    | with_reducible exact fo_tr (by with_reducible assumption) (fr_J_X12_byLot_176 hrec2 _ _)
    | with_reducible exact fo_tr (by with_reducible assumption) (hrec2 _ _)
    | with_reducible exact fo_tr (by with_reducible assumption) (hrec103 _ _ _ _)
    | (with_reducible refine gj_Fr.trans ?_ (gj_Fr.wide (gj_FOu (fr_X12_lot _) (by with_reducible assumption)) ?_); rotate_left; · first | decide +kernel | simp [gj_fsub])
    | (with_reducible refine gj_Fr.trans ?_ (gj_Fr.wide (gj_FOu (fr_X12_gives _ _) (by with_reducible assumption)) ?_); rotate_left; · first | decide +kernel | simp [gj_fsub])

theorem frL_X12_byLot_103 {rec2 : Int → gj_M → Option (gj_M)} (hrec2 : ∀ (l1 : Int) (M : gj_M), gj_FO (fun m => m) [119] [(79, 30)] M (rec2 l1 M)) : ∀ (m : Nat) (l1 l3 l4 : Int) (M : gj_M), gj_FO (fun m => m) [119] [(79, 30)] M (gj_it (fun _ _ _ _ => none) (B_X12_byLot_103 rec2) m l1 l3 l4 M)
  | 0, l1, l3, l4, M => fun r e => by cases (show (none : Option (gj_M)) = some r from e)
  | m + 1, l1, l3, l4, M => fr_B_X12_byLot_103 hrec2 (fun l1 l3 l4 M => frL_X12_byLot_103 hrec2 m l1 l3 l4 M) l1 l3 l4 M
set_option maxHeartbeats 600000 in
theorem fr_J_X12_byLot_87 {rec2 : Int → gj_M → Option (gj_M)} (hrec2 : ∀ (l1 : Int) (M : gj_M), gj_FO (fun m => m) [119] [(79, 30)] M (rec2 l1 M)) (l1 l2 : Int) (M : gj_M) : gj_FO (fun m => m) [119] [(79, 30)] M (J_X12_byLot_87 rec2 l1 l2 M) := by
  unfold J_X12_byLot_87
  have hM : gj_Fr [119] [(79, 30)] M M := gj_Fr.rf
  repeat' first
    | with_reducible assumption
    | with_reducible exact gj_Fr.rf
    | with_reducible exact fo_none
    | with_reducible refine fo_some ?_
    | with_reducible refine fo_ite ?_ ?_
    | with_reducible refine fo_chk ?_
    | with_reducible refine fo_let ?_ (fun _ _ => ?_)
    | with_reducible refine fo_letI (fun _ => ?_)
    | with_reducible refine fo_let2 ?_ (fun _ _ _ => ?_)
    | with_reducible refine fo_bndM (fun _ _ => ?_) (fun _ _ => ?_)
    | with_reducible refine fo_bnd (fun _ => ?_)
    | with_reducible refine fo_bnd2 (fun _ _ _ => ?_) (fun _ _ _ => ?_)
    | (with_reducible refine gj_Fr.up ?_ ?_; rotate_left; · first | decide +kernel | rfl | simp)
    | (with_reducible refine gj_Fr.put ?_ ?_; rotate_left; · first | decide +kernel | rfl | simp)
    | (with_reducible refine gj_Fr.fill ?_ ?_; rotate_left; · first | decide +kernel | rfl | simp)
    | (with_reducible refine gj_Fr.copy ?_ ?_; rotate_left; · first | decide +kernel | rfl | simp)
    | with_reducible exact fo_tr (by with_reducible assumption) (frL_X12_byLot_103 hrec2 _ _ _ _ _)
    | with_reducible exact fo_tr (by with_reducible assumption) (fr_J_X12_byLot_176 hrec2 _ _)
    | with_reducible exact fo_tr (by with_reducible assumption) (hrec2 _ _)
    | (with_reducible refine gj_Fr.trans ?_ (gj_Fr.wide (gj_FOu (fr_X12_lot _) (by with_reducible assumption)) ?_); rotate_left; · first | decide +kernel | simp [gj_fsub])
    | (with_reducible refine gj_Fr.trans ?_ (gj_Fr.wide (gj_FOu (fr_X12_gives _ _) (by with_reducible assumption)) ?_); rotate_left; · first | decide +kernel | simp [gj_fsub])

set_option maxHeartbeats 600000 in
theorem fr_J_X12_byLot_79 {rec2 : Int → gj_M → Option (gj_M)} {rec31 : Int → Int → Int → gj_M → Option (gj_M)} (hrec2 : ∀ (l1 : Int) (M : gj_M), gj_FO (fun m => m) [119] [(79, 30)] M (rec2 l1 M)) (hrec31 : ∀ (l1 l2 l3 : Int) (M : gj_M), gj_FO (fun m => m) [119] [(79, 30)] M (rec31 l1 l2 l3 M)) (l1 l3 s0 s1 : Int) (M : gj_M) : gj_FO (fun m => m) [119] [(79, 30)] M (J_X12_byLot_79 rec2 rec31 l1 l3 s0 s1 M) := by
  unfold J_X12_byLot_79
  have hM : gj_Fr [119] [(79, 30)] M M := gj_Fr.rf
  repeat' first
    | with_reducible assumption
    | with_reducible exact gj_Fr.rf
    | with_reducible exact fo_none
    | with_reducible refine fo_some ?_
    | with_reducible refine fo_ite ?_ ?_
    | with_reducible refine fo_chk ?_
    | with_reducible refine fo_let ?_ (fun _ _ => ?_)
    | with_reducible refine fo_letI (fun _ => ?_)
    | with_reducible refine fo_let2 ?_ (fun _ _ _ => ?_)
    | with_reducible refine fo_bndM (fun _ _ => ?_) (fun _ _ => ?_)
    | with_reducible refine fo_bnd (fun _ => ?_)
    | with_reducible refine fo_bnd2 (fun _ _ _ => ?_) (fun _ _ _ => ?_)
    | (with_reducible refine gj_Fr.up ?_ ?_; rotate_left; · first | decide +kernel | rfl | simp)
    | (with_reducible refine gj_Fr.put ?_ ?_; rotate_left; · first | decide +kernel | rfl | simp)
    | (with_reducible refine gj_Fr.fill ?_ ?_; rotate_left; · first | decide +kernel | rfl | simp)
    | (with_reducible refine gj_Fr.copy ?_ ?_; rotate_left; · first | decide +kernel | rfl | simp)
    | with_reducible exact fo_tr (by with_reducible assumption) (hrec2 _ _)
    | with_reducible exact fo_tr (by with_reducible assumption) (hrec31 _ _ _ _)
    | (with_reducible refine gj_Fr.trans ?_ (gj_Fr.wide (gj_FOu (fr_X12_lot _) (by with_reducible assumption)) ?_); rotate_left; · first | decide +kernel | simp [gj_fsub])
    | (with_reducible refine gj_Fr.trans ?_ (gj_Fr.wide (gj_FOu (fr_X12_gives _ _) (by with_reducible assumption)) ?_); rotate_left; · first | decide +kernel | simp [gj_fsub])

set_option maxHeartbeats 600000 in
theorem fr_B_X12_byLot_31 {rec2 : Int → gj_M → Option (gj_M)} {rec31 : Int → Int → Int → gj_M → Option (gj_M)} (hrec2 : ∀ (l1 : Int) (M : gj_M), gj_FO (fun m => m) [119] [(79, 30)] M (rec2 l1 M)) (hrec31 : ∀ (l1 l2 l3 : Int) (M : gj_M), gj_FO (fun m => m) [119] [(79, 30)] M (rec31 l1 l2 l3 M)) (l1 l2 l3 : Int) (M : gj_M) : gj_FO (fun m => m) [119] [(79, 30)] M (B_X12_byLot_31 rec2 rec31 l1 l2 l3 M) := by
  unfold B_X12_byLot_31
  have hM : gj_Fr [119] [(79, 30)] M M := gj_Fr.rf
  repeat' first
    | with_reducible assumption
    | with_reducible exact gj_Fr.rf
    | with_reducible exact fo_none
    | with_reducible refine fo_some ?_
    | with_reducible refine fo_ite ?_ ?_
    | with_reducible refine fo_chk ?_
    | with_reducible refine fo_let ?_ (fun _ _ => ?_)
    | with_reducible refine fo_letI (fun _ => ?_)
    | with_reducible refine fo_let2 ?_ (fun _ _ _ => ?_)
    | with_reducible refine fo_bndM (fun _ _ => ?_) (fun _ _ => ?_)
    | with_reducible refine fo_bnd (fun _ => ?_)
    | with_reducible refine fo_bnd2 (fun _ _ _ => ?_) (fun _ _ _ => ?_)
    | (with_reducible refine gj_Fr.up ?_ ?_; rotate_left; · first | decide +kernel | rfl | simp)
    | (with_reducible refine gj_Fr.put ?_ ?_; rotate_left; · first | decide +kernel | rfl | simp)
    | (with_reducible refine gj_Fr.fill ?_ ?_; rotate_left; · first | decide +kernel | rfl | simp)
    | (with_reducible refine gj_Fr.copy ?_ ?_; rotate_left; · first | decide +kernel | rfl | simp)
    | with_reducible exact fo_tr (by with_reducible assumption) (fr_J_X12_byLot_79 hrec2 hrec31 _ _ _ _ _)
    | with_reducible exact fo_tr (by with_reducible assumption) (fr_J_X12_byLot_87 hrec2 _ _ _)
    | with_reducible exact fo_tr (by with_reducible assumption) (hrec2 _ _)
    | with_reducible exact fo_tr (by with_reducible assumption) (hrec31 _ _ _ _)
    | (with_reducible refine gj_Fr.trans ?_ (gj_Fr.wide (gj_FOu (fr_X12_lot _) (by with_reducible assumption)) ?_); rotate_left; · first | decide +kernel | simp [gj_fsub])
    | (with_reducible refine gj_Fr.trans ?_ (gj_Fr.wide (gj_FOu (fr_X12_gives _ _) (by with_reducible assumption)) ?_); rotate_left; · first | decide +kernel | simp [gj_fsub])

theorem frL_X12_byLot_31 {rec2 : Int → gj_M → Option (gj_M)} (hrec2 : ∀ (l1 : Int) (M : gj_M), gj_FO (fun m => m) [119] [(79, 30)] M (rec2 l1 M)) : ∀ (m : Nat) (l1 l2 l3 : Int) (M : gj_M), gj_FO (fun m => m) [119] [(79, 30)] M (gj_it (fun _ _ _ _ => none) (B_X12_byLot_31 rec2) m l1 l2 l3 M)
  | 0, l1, l2, l3, M => fun r e => by cases (show (none : Option (gj_M)) = some r from e)
  | m + 1, l1, l2, l3, M => fr_B_X12_byLot_31 hrec2 (fun l1 l2 l3 M => frL_X12_byLot_31 hrec2 m l1 l2 l3 M) l1 l2 l3 M
set_option maxHeartbeats 600000 in
theorem fr_B_X12_byLot_2 {rec2 : Int → gj_M → Option (gj_M)} (hrec2 : ∀ (l1 : Int) (M : gj_M), gj_FO (fun m => m) [119] [(79, 30)] M (rec2 l1 M)) (l1 : Int) (M : gj_M) : gj_FO (fun m => m) [119] [(79, 30)] M (B_X12_byLot_2 rec2 l1 M) := by
  unfold B_X12_byLot_2
  have hM : gj_Fr [119] [(79, 30)] M M := gj_Fr.rf
  repeat' first
    | with_reducible assumption
    | with_reducible exact gj_Fr.rf
    | with_reducible exact fo_none
    | with_reducible refine fo_some ?_
    | with_reducible refine fo_ite ?_ ?_
    | with_reducible refine fo_chk ?_
    | with_reducible refine fo_let ?_ (fun _ _ => ?_)
    | with_reducible refine fo_letI (fun _ => ?_)
    | with_reducible refine fo_let2 ?_ (fun _ _ _ => ?_)
    | with_reducible refine fo_bndM (fun _ _ => ?_) (fun _ _ => ?_)
    | with_reducible refine fo_bnd (fun _ => ?_)
    | with_reducible refine fo_bnd2 (fun _ _ _ => ?_) (fun _ _ _ => ?_)
    | (with_reducible refine gj_Fr.up ?_ ?_; rotate_left; · first | decide +kernel | rfl | simp)
    | (with_reducible refine gj_Fr.put ?_ ?_; rotate_left; · first | decide +kernel | rfl | simp)
    | (with_reducible refine gj_Fr.fill ?_ ?_; rotate_left; · first | decide +kernel | rfl | simp)
    | (with_reducible refine gj_Fr.copy ?_ ?_; rotate_left; · first | decide +kernel | rfl | simp)
    | with_reducible exact fo_tr (by with_reducible assumption) (frL_X12_byLot_31 hrec2 _ _ _ _ _)
    | with_reducible exact fo_tr (by with_reducible assumption) (fr_J_X12_byLot_176 hrec2 _ _)
    | with_reducible exact fo_tr (by with_reducible assumption) (hrec2 _ _)
    | (with_reducible refine gj_Fr.trans ?_ (gj_Fr.wide (gj_FOu (fr_X12_lot _) (by with_reducible assumption)) ?_); rotate_left; · first | decide +kernel | simp [gj_fsub])
    | (with_reducible refine gj_Fr.trans ?_ (gj_Fr.wide (gj_FOu (fr_X12_gives _ _) (by with_reducible assumption)) ?_); rotate_left; · first | decide +kernel | simp [gj_fsub])

theorem frL_X12_byLot_2 : ∀ (m : Nat) (l1 : Int) (M : gj_M), gj_FO (fun m => m) [119] [(79, 30)] M (gj_it (fun _ _ => none) (B_X12_byLot_2) m l1 M)
  | 0, l1, M => fun r e => by cases (show (none : Option (gj_M)) = some r from e)
  | m + 1, l1, M => fr_B_X12_byLot_2 (fun l1 M => frL_X12_byLot_2 m l1 M) l1 M
set_option maxHeartbeats 600000 in
theorem fr_X12_byLot {M : gj_M} : gj_FO (fun m => m) [119] [(79, 30)] M (F_X12_byLot M) := by
  unfold F_X12_byLot
  have hM : gj_Fr [119] [(79, 30)] M M := gj_Fr.rf
  repeat' first
    | with_reducible assumption
    | with_reducible exact gj_Fr.rf
    | with_reducible exact fo_none
    | with_reducible refine fo_some ?_
    | with_reducible refine fo_ite ?_ ?_
    | with_reducible refine fo_chk ?_
    | with_reducible refine fo_let ?_ (fun _ _ => ?_)
    | with_reducible refine fo_letI (fun _ => ?_)
    | with_reducible refine fo_let2 ?_ (fun _ _ _ => ?_)
    | with_reducible refine fo_bndM (fun _ _ => ?_) (fun _ _ => ?_)
    | with_reducible refine fo_bnd (fun _ => ?_)
    | with_reducible refine fo_bnd2 (fun _ _ _ => ?_) (fun _ _ _ => ?_)
    | (with_reducible refine gj_Fr.up ?_ ?_; rotate_left; · first | decide +kernel | rfl | simp)
    | (with_reducible refine gj_Fr.put ?_ ?_; rotate_left; · first | decide +kernel | rfl | simp)
    | (with_reducible refine gj_Fr.fill ?_ ?_; rotate_left; · first | decide +kernel | rfl | simp)
    | (with_reducible refine gj_Fr.copy ?_ ?_; rotate_left; · first | decide +kernel | rfl | simp)
    | with_reducible exact fo_tr (by with_reducible assumption) (frL_X12_byLot_2 _ _ _)
    | (with_reducible refine gj_Fr.trans ?_ (gj_Fr.wide (gj_FOu (fr_X12_lot _) (by with_reducible assumption)) ?_); rotate_left; · first | decide +kernel | simp [gj_fsub])
    | (with_reducible refine gj_Fr.trans ?_ (gj_Fr.wide (gj_FOu (fr_X12_gives _ _) (by with_reducible assumption)) ?_); rotate_left; · first | decide +kernel | simp [gj_fsub])

set_option maxHeartbeats 600000 in
theorem fr_J_X12_goes_21 (l1 : Int) (M : gj_M) : gj_FO (fun m => m) [119, 121] [(79, 30)] M (J_X12_goes_21 l1 M) := by
  unfold J_X12_goes_21
  have hM : gj_Fr [119, 121] [(79, 30)] M M := gj_Fr.rf
  repeat' first
    | with_reducible assumption
    | with_reducible exact gj_Fr.rf
    | with_reducible exact fo_none
    | with_reducible refine fo_some ?_
    | with_reducible refine fo_ite ?_ ?_
    | with_reducible refine fo_chk ?_
    | with_reducible refine fo_let ?_ (fun _ _ => ?_)
    | with_reducible refine fo_letI (fun _ => ?_)
    | with_reducible refine fo_let2 ?_ (fun _ _ _ => ?_)
    | with_reducible refine fo_bndM (fun _ _ => ?_) (fun _ _ => ?_)
    | with_reducible refine fo_bnd (fun _ => ?_)
    | with_reducible refine fo_bnd2 (fun _ _ _ => ?_) (fun _ _ _ => ?_)
    | (with_reducible refine gj_Fr.up ?_ ?_; rotate_left; · first | decide +kernel | rfl | simp)
    | (with_reducible refine gj_Fr.put ?_ ?_; rotate_left; · first | decide +kernel | rfl | simp)
    | (with_reducible refine gj_Fr.fill ?_ ?_; rotate_left; · first | decide +kernel | rfl | simp)
    | (with_reducible refine gj_Fr.copy ?_ ?_; rotate_left; · first | decide +kernel | rfl | simp)
    | (with_reducible refine gj_Fr.trans ?_ (gj_Fr.wide (gj_FOu (fr_X12_byLot) (by with_reducible assumption)) ?_); rotate_left; · first | decide +kernel | simp [gj_fsub])
    | (with_reducible refine gj_Fr.trans ?_ (gj_Fr.wide (gj_FOu (fr_X12_asks _) (by with_reducible assumption)) ?_); rotate_left; · first | decide +kernel | simp [gj_fsub])
    | (with_reducible refine gj_Fr.trans ?_ (gj_Fr.wide (gj_FOu (fr_X12_inTurn) (by with_reducible assumption)) ?_); rotate_left; · first | decide +kernel | simp [gj_fsub])

set_option maxHeartbeats 600000 in
theorem fr_B_X12_goes_2 {rec2 : Int → Int → gj_M → Option (gj_M)} (hrec2 : ∀ (l1 l2 : Int) (M : gj_M), gj_FO (fun m => m) [119, 121] [(79, 30)] M (rec2 l1 l2 M)) (l1 l2 : Int) (M : gj_M) : gj_FO (fun m => m) [119, 121] [(79, 30)] M (B_X12_goes_2 rec2 l1 l2 M) := by
  unfold B_X12_goes_2
  have hM : gj_Fr [119, 121] [(79, 30)] M M := gj_Fr.rf
  repeat' first
    | with_reducible assumption
    | with_reducible exact gj_Fr.rf
    | with_reducible exact fo_none
    | with_reducible refine fo_some ?_
    | with_reducible refine fo_ite ?_ ?_
    | with_reducible refine fo_chk ?_
    | with_reducible refine fo_let ?_ (fun _ _ => ?_)
    | with_reducible refine fo_letI (fun _ => ?_)
    | with_reducible refine fo_let2 ?_ (fun _ _ _ => ?_)
    | with_reducible refine fo_bndM (fun _ _ => ?_) (fun _ _ => ?_)
    | with_reducible refine fo_bnd (fun _ => ?_)
    | with_reducible refine fo_bnd2 (fun _ _ _ => ?_) (fun _ _ _ => ?_)
    | (with_reducible refine gj_Fr.up ?_ ?_; rotate_left; · first | decide +kernel | rfl | simp)
    | (with_reducible refine gj_Fr.put ?_ ?_; rotate_left; · first | decide +kernel | rfl | simp)
    | (with_reducible refine gj_Fr.fill ?_ ?_; rotate_left; · first | decide +kernel | rfl | simp)
    | (with_reducible refine gj_Fr.copy ?_ ?_; rotate_left; · first | decide +kernel | rfl | simp)
    | with_reducible exact fo_tr (by with_reducible assumption) (fr_J_X12_goes_21 _ _)
    | with_reducible exact fo_tr (by with_reducible assumption) (hrec2 _ _ _)
    | (with_reducible refine gj_Fr.trans ?_ (gj_Fr.wide (gj_FOu (fr_X12_byLot) (by with_reducible assumption)) ?_); rotate_left; · first | decide +kernel | simp [gj_fsub])
    | (with_reducible refine gj_Fr.trans ?_ (gj_Fr.wide (gj_FOu (fr_X12_asks _) (by with_reducible assumption)) ?_); rotate_left; · first | decide +kernel | simp [gj_fsub])
    | (with_reducible refine gj_Fr.trans ?_ (gj_Fr.wide (gj_FOu (fr_X12_inTurn) (by with_reducible assumption)) ?_); rotate_left; · first | decide +kernel | simp [gj_fsub])

theorem frL_X12_goes_2 : ∀ (m : Nat) (l1 l2 : Int) (M : gj_M), gj_FO (fun m => m) [119, 121] [(79, 30)] M (gj_it (fun _ _ _ => none) (B_X12_goes_2) m l1 l2 M)
  | 0, l1, l2, M => fun r e => by cases (show (none : Option (gj_M)) = some r from e)
  | m + 1, l1, l2, M => fr_B_X12_goes_2 (fun l1 l2 M => frL_X12_goes_2 m l1 l2 M) l1 l2 M
set_option maxHeartbeats 600000 in
theorem fr_X12_goes (a1 : Int) {M : gj_M} : gj_FO (fun m => m) [119, 121] [(79, 30)] M (F_X12_goes a1 M) := by
  unfold F_X12_goes
  have hM : gj_Fr [119, 121] [(79, 30)] M M := gj_Fr.rf
  repeat' first
    | with_reducible assumption
    | with_reducible exact gj_Fr.rf
    | with_reducible exact fo_none
    | with_reducible refine fo_some ?_
    | with_reducible refine fo_ite ?_ ?_
    | with_reducible refine fo_chk ?_
    | with_reducible refine fo_let ?_ (fun _ _ => ?_)
    | with_reducible refine fo_letI (fun _ => ?_)
    | with_reducible refine fo_let2 ?_ (fun _ _ _ => ?_)
    | with_reducible refine fo_bndM (fun _ _ => ?_) (fun _ _ => ?_)
    | with_reducible refine fo_bnd (fun _ => ?_)
    | with_reducible refine fo_bnd2 (fun _ _ _ => ?_) (fun _ _ _ => ?_)
    | (with_reducible refine gj_Fr.up ?_ ?_; rotate_left; · first | decide +kernel | rfl | simp)
    | (with_reducible refine gj_Fr.put ?_ ?_; rotate_left; · first | decide +kernel | rfl | simp)
    | (with_reducible refine gj_Fr.fill ?_ ?_; rotate_left; · first | decide +kernel | rfl | simp)
    | (with_reducible refine gj_Fr.copy ?_ ?_; rotate_left; · first | decide +kernel | rfl | simp)
    | with_reducible exact fo_tr (by with_reducible assumption) (frL_X12_goes_2 _ _ _ _)
    | (with_reducible refine gj_Fr.trans ?_ (gj_Fr.wide (gj_FOu (fr_X12_byLot) (by with_reducible assumption)) ?_); rotate_left; · first | decide +kernel | simp [gj_fsub])
    | (with_reducible refine gj_Fr.trans ?_ (gj_Fr.wide (gj_FOu (fr_X12_asks _) (by with_reducible assumption)) ?_); rotate_left; · first | decide +kernel | simp [gj_fsub])
    | (with_reducible refine gj_Fr.trans ?_ (gj_Fr.wide (gj_FOu (fr_X12_inTurn) (by with_reducible assumption)) ?_); rotate_left; · first | decide +kernel | simp [gj_fsub])

set_option maxHeartbeats 600000 in
theorem fr_X12_way (a1 : Int) {M : gj_M} : gj_FO Prod.snd [80] [(79, 28)] M (F_X12_way a1 M) := by
  unfold F_X12_way
  have hM : gj_Fr [80] [(79, 28)] M M := gj_Fr.rf
  repeat' first
    | with_reducible assumption
    | with_reducible exact gj_Fr.rf
    | with_reducible exact fo_none
    | with_reducible refine fo_some ?_
    | with_reducible refine fo_ite ?_ ?_
    | with_reducible refine fo_chk ?_
    | with_reducible refine fo_let ?_ (fun _ _ => ?_)
    | with_reducible refine fo_letI (fun _ => ?_)
    | with_reducible refine fo_let2 ?_ (fun _ _ _ => ?_)
    | with_reducible refine fo_bndM (fun _ _ => ?_) (fun _ _ => ?_)
    | with_reducible refine fo_bnd (fun _ => ?_)
    | with_reducible refine fo_bnd2 (fun _ _ _ => ?_) (fun _ _ _ => ?_)
    | (with_reducible refine gj_Fr.up ?_ ?_; rotate_left; · first | decide +kernel | rfl | simp)
    | (with_reducible refine gj_Fr.put ?_ ?_; rotate_left; · first | decide +kernel | rfl | simp)
    | (with_reducible refine gj_Fr.fill ?_ ?_; rotate_left; · first | decide +kernel | rfl | simp)
    | (with_reducible refine gj_Fr.copy ?_ ?_; rotate_left; · first | decide +kernel | rfl | simp)
    | (with_reducible refine gj_Fr.trans ?_ (gj_Fr.wide (gj_FOu (fr_X12_deny _) (by with_reducible assumption)) ?_); rotate_left; · first | decide +kernel | simp [gj_fsub])

set_option maxHeartbeats 600000 in
theorem fr_X12_seed (a1 : Int) {M : gj_M} : gj_FO Prod.snd [80] [(79, 30)] M (F_X12_seed a1 M) := by
  unfold F_X12_seed
  have hM : gj_Fr [80] [(79, 30)] M M := gj_Fr.rf
  repeat' first
    | with_reducible assumption
    | with_reducible exact gj_Fr.rf
    | with_reducible exact fo_none
    | with_reducible refine fo_some ?_
    | with_reducible refine fo_ite ?_ ?_
    | with_reducible refine fo_chk ?_
    | with_reducible refine fo_let ?_ (fun _ _ => ?_)
    | with_reducible refine fo_letI (fun _ => ?_)
    | with_reducible refine fo_let2 ?_ (fun _ _ _ => ?_)
    | with_reducible refine fo_bndM (fun _ _ => ?_) (fun _ _ => ?_)
    | with_reducible refine fo_bnd (fun _ => ?_)
    | with_reducible refine fo_bnd2 (fun _ _ _ => ?_) (fun _ _ _ => ?_)
    | (with_reducible refine gj_Fr.up ?_ ?_; rotate_left; · first | decide +kernel | rfl | simp)
    | (with_reducible refine gj_Fr.put ?_ ?_; rotate_left; · first | decide +kernel | rfl | simp)
    | (with_reducible refine gj_Fr.fill ?_ ?_; rotate_left; · first | decide +kernel | rfl | simp)
    | (with_reducible refine gj_Fr.copy ?_ ?_; rotate_left; · first | decide +kernel | rfl | simp)
    | (with_reducible refine gj_Fr.trans ?_ (gj_Fr.wide (gj_FOu (fr_X12_deny _) (by with_reducible assumption)) ?_); rotate_left; · first | decide +kernel | simp [gj_fsub])

set_option maxHeartbeats 600000 in
theorem fr_J_X12_green_51 (l1 l3 : Int) (M : gj_M) : gj_FO Prod.snd [119, 120, 121] [(79, 30)] M (J_X12_green_51 l1 l3 M) := by
  unfold J_X12_green_51
  have hM : gj_Fr [119, 120, 121] [(79, 30)] M M := gj_Fr.rf
  repeat' first
    | with_reducible assumption
    | with_reducible exact gj_Fr.rf
    | with_reducible exact fo_none
    | with_reducible refine fo_some ?_
    | with_reducible refine fo_ite ?_ ?_
    | with_reducible refine fo_chk ?_
    | with_reducible refine fo_let ?_ (fun _ _ => ?_)
    | with_reducible refine fo_letI (fun _ => ?_)
    | with_reducible refine fo_let2 ?_ (fun _ _ _ => ?_)
    | with_reducible refine fo_bndM (fun _ _ => ?_) (fun _ _ => ?_)
    | with_reducible refine fo_bnd (fun _ => ?_)
    | with_reducible refine fo_bnd2 (fun _ _ _ => ?_) (fun _ _ _ => ?_)
    | (with_reducible refine gj_Fr.up ?_ ?_; rotate_left; · first | decide +kernel | rfl | simp)
    | (with_reducible refine gj_Fr.put ?_ ?_; rotate_left; · first | decide +kernel | rfl | simp)
    | (with_reducible refine gj_Fr.fill ?_ ?_; rotate_left; · first | decide +kernel | rfl | simp)
    | (with_reducible refine gj_Fr.copy ?_ ?_; rotate_left; · first | decide +kernel | rfl | simp)
    | (with_reducible refine gj_Fr.trans ?_ (gj_Fr.wide (gj_FOu (fr_X12_goes _) (by with_reducible assumption)) ?_); rotate_left; · first | decide +kernel | simp [gj_fsub])

set_option maxHeartbeats 600000 in
theorem fr_B_X12_green_30 {rec30 : Int → Int → Int → gj_M → Option (Int × gj_M)} (hrec30 : ∀ (l1 l3 l4 : Int) (M : gj_M), gj_FO Prod.snd [119, 120, 121] [(79, 30)] M (rec30 l1 l3 l4 M)) (l1 l3 l4 : Int) (M : gj_M) : gj_FO Prod.snd [119, 120, 121] [(79, 30)] M (B_X12_green_30 rec30 l1 l3 l4 M) := by
  unfold B_X12_green_30
  have hM : gj_Fr [119, 120, 121] [(79, 30)] M M := gj_Fr.rf
  repeat' first
    | with_reducible assumption
    | with_reducible exact gj_Fr.rf
    | with_reducible exact fo_none
    | with_reducible refine fo_some ?_
    | with_reducible refine fo_ite ?_ ?_
    | with_reducible refine fo_chk ?_
    | with_reducible refine fo_let ?_ (fun _ _ => ?_)
    | with_reducible refine fo_letI (fun _ => ?_)
    | with_reducible refine fo_let2 ?_ (fun _ _ _ => ?_)
    | with_reducible refine fo_bndM (fun _ _ => ?_) (fun _ _ => ?_)
    | with_reducible refine fo_bnd (fun _ => ?_)
    | with_reducible refine fo_bnd2 (fun _ _ _ => ?_) (fun _ _ _ => ?_)
    | (with_reducible refine gj_Fr.up ?_ ?_; rotate_left; · first | decide +kernel | rfl | simp)
    | (with_reducible refine gj_Fr.put ?_ ?_; rotate_left; · first | decide +kernel | rfl | simp)
    | (with_reducible refine gj_Fr.fill ?_ ?_; rotate_left; · first | decide +kernel | rfl | simp)
    | (with_reducible refine gj_Fr.copy ?_ ?_; rotate_left; · first | decide +kernel | rfl | simp)
    | with_reducible exact fo_tr (by with_reducible assumption) (fr_J_X12_green_51 _ _ _)
    | with_reducible exact fo_tr (by with_reducible assumption) (hrec30 _ _ _ _)
    | (with_reducible refine gj_Fr.trans ?_ (gj_Fr.wide (gj_FOu (fr_X12_goes _) (by with_reducible assumption)) ?_); rotate_left; · first | decide +kernel | simp [gj_fsub])

theorem frL_X12_green_30 : ∀ (m : Nat) (l1 l3 l4 : Int) (M : gj_M), gj_FO Prod.snd [119, 120, 121] [(79, 30)] M (gj_it (fun _ _ _ _ => none) (B_X12_green_30) m l1 l3 l4 M)
  | 0, l1, l3, l4, M => fun r e => by cases (show (none : Option (Int × gj_M)) = some r from e)
  | m + 1, l1, l3, l4, M => fr_B_X12_green_30 (fun l1 l3 l4 M => frL_X12_green_30 m l1 l3 l4 M) l1 l3 l4 M
set_option maxHeartbeats 600000 in
theorem fr_X12_green (a1 : Int) (a2 : Int) {M : gj_M} : gj_FO Prod.snd [119, 120, 121] [(79, 30)] M (F_X12_green a1 a2 M) := by
  unfold F_X12_green
  have hM : gj_Fr [119, 120, 121] [(79, 30)] M M := gj_Fr.rf
  repeat' first
    | with_reducible assumption
    | with_reducible exact gj_Fr.rf
    | with_reducible exact fo_none
    | with_reducible refine fo_some ?_
    | with_reducible refine fo_ite ?_ ?_
    | with_reducible refine fo_chk ?_
    | with_reducible refine fo_let ?_ (fun _ _ => ?_)
    | with_reducible refine fo_letI (fun _ => ?_)
    | with_reducible refine fo_let2 ?_ (fun _ _ _ => ?_)
    | with_reducible refine fo_bndM (fun _ _ => ?_) (fun _ _ => ?_)
    | with_reducible refine fo_bnd (fun _ => ?_)
    | with_reducible refine fo_bnd2 (fun _ _ _ => ?_) (fun _ _ _ => ?_)
    | (with_reducible refine gj_Fr.up ?_ ?_; rotate_left; · first | decide +kernel | rfl | simp)
    | (with_reducible refine gj_Fr.put ?_ ?_; rotate_left; · first | decide +kernel | rfl | simp)
    | (with_reducible refine gj_Fr.fill ?_ ?_; rotate_left; · first | decide +kernel | rfl | simp)
    | (with_reducible refine gj_Fr.copy ?_ ?_; rotate_left; · first | decide +kernel | rfl | simp)
    | with_reducible exact fo_tr (by with_reducible assumption) (frL_X12_green_30 _ _ _ _ _)
    | (with_reducible refine gj_Fr.trans ?_ (gj_Fr.wide (gj_FOu (fr_X12_goes _) (by with_reducible assumption)) ?_); rotate_left; · first | decide +kernel | simp [gj_fsub])

set_option maxHeartbeats 600000 in
theorem fr_X12_joins (a1 : Int) (a2 : Int) {M : gj_M} : gj_FO (fun m => m) [108, 109, 110] [] M (F_X12_joins a1 a2 M) := by
  unfold F_X12_joins
  have hM : gj_Fr [108, 109, 110] [] M M := gj_Fr.rf
  repeat' first
    | with_reducible assumption
    | with_reducible exact gj_Fr.rf
    | with_reducible exact fo_none
    | with_reducible refine fo_some ?_
    | with_reducible refine fo_ite ?_ ?_
    | with_reducible refine fo_chk ?_
    | with_reducible refine fo_let ?_ (fun _ _ => ?_)
    | with_reducible refine fo_letI (fun _ => ?_)
    | with_reducible refine fo_let2 ?_ (fun _ _ _ => ?_)
    | with_reducible refine fo_bndM (fun _ _ => ?_) (fun _ _ => ?_)
    | with_reducible refine fo_bnd (fun _ => ?_)
    | with_reducible refine fo_bnd2 (fun _ _ _ => ?_) (fun _ _ _ => ?_)
    | (with_reducible refine gj_Fr.up ?_ ?_; rotate_left; · first | decide +kernel | rfl | simp)
    | (with_reducible refine gj_Fr.put ?_ ?_; rotate_left; · first | decide +kernel | rfl | simp)
    | (with_reducible refine gj_Fr.fill ?_ ?_; rotate_left; · first | decide +kernel | rfl | simp)
    | (with_reducible refine gj_Fr.copy ?_ ?_; rotate_left; · first | decide +kernel | rfl | simp)

set_option maxHeartbeats 600000 in
theorem fr_X12_parts (a1 : Int) {M : gj_M} : gj_FO (fun m => m) [108] [] M (F_X12_parts a1 M) := by
  unfold F_X12_parts
  have hM : gj_Fr [108] [] M M := gj_Fr.rf
  repeat' first
    | with_reducible assumption
    | with_reducible exact gj_Fr.rf
    | with_reducible exact fo_none
    | with_reducible refine fo_some ?_
    | with_reducible refine fo_ite ?_ ?_
    | with_reducible refine fo_chk ?_
    | with_reducible refine fo_let ?_ (fun _ _ => ?_)
    | with_reducible refine fo_letI (fun _ => ?_)
    | with_reducible refine fo_let2 ?_ (fun _ _ _ => ?_)
    | with_reducible refine fo_bndM (fun _ _ => ?_) (fun _ _ => ?_)
    | with_reducible refine fo_bnd (fun _ => ?_)
    | with_reducible refine fo_bnd2 (fun _ _ _ => ?_) (fun _ _ _ => ?_)
    | (with_reducible refine gj_Fr.up ?_ ?_; rotate_left; · first | decide +kernel | rfl | simp)
    | (with_reducible refine gj_Fr.put ?_ ?_; rotate_left; · first | decide +kernel | rfl | simp)
    | (with_reducible refine gj_Fr.fill ?_ ?_; rotate_left; · first | decide +kernel | rfl | simp)
    | (with_reducible refine gj_Fr.copy ?_ ?_; rotate_left; · first | decide +kernel | rfl | simp)

set_option maxHeartbeats 600000 in
theorem fr_J_X12_lives_211 (l1 l2 : Int) (M : gj_M) : gj_FO (fun m => m) [109, 111, 112, 113, 114] [(79, 30)] M (J_X12_lives_211 l1 l2 M) := by
  unfold J_X12_lives_211
  have hM : gj_Fr [109, 111, 112, 113, 114] [(79, 30)] M M := gj_Fr.rf
  repeat' first
    | with_reducible assumption
    | with_reducible exact gj_Fr.rf
    | with_reducible exact fo_none
    | with_reducible refine fo_some ?_
    | with_reducible refine fo_ite ?_ ?_
    | with_reducible refine fo_chk ?_
    | with_reducible refine fo_let ?_ (fun _ _ => ?_)
    | with_reducible refine fo_letI (fun _ => ?_)
    | with_reducible refine fo_let2 ?_ (fun _ _ _ => ?_)
    | with_reducible refine fo_bndM (fun _ _ => ?_) (fun _ _ => ?_)
    | with_reducible refine fo_bnd (fun _ => ?_)
    | with_reducible refine fo_bnd2 (fun _ _ _ => ?_) (fun _ _ _ => ?_)
    | (with_reducible refine gj_Fr.up ?_ ?_; rotate_left; · first | decide +kernel | rfl | simp)
    | (with_reducible refine gj_Fr.put ?_ ?_; rotate_left; · first | decide +kernel | rfl | simp)
    | (with_reducible refine gj_Fr.fill ?_ ?_; rotate_left; · first | decide +kernel | rfl | simp)
    | (with_reducible refine gj_Fr.copy ?_ ?_; rotate_left; · first | decide +kernel | rfl | simp)
    | (with_reducible refine gj_Fr.trans ?_ (gj_Fr.wide (gj_FOu (fr_X12_lot _) (by with_reducible assumption)) ?_); rotate_left; · first | decide +kernel | simp [gj_fsub])

set_option maxHeartbeats 600000 in
theorem fr_J_X12_lives_175 (l1 l2 l3 : Int) (M : gj_M) : gj_FO (fun m => m) [109, 111, 112, 113, 114] [(79, 30)] M (J_X12_lives_175 l1 l2 l3 M) := by
  unfold J_X12_lives_175
  have hM : gj_Fr [109, 111, 112, 113, 114] [(79, 30)] M M := gj_Fr.rf
  repeat' first
    | with_reducible assumption
    | with_reducible exact gj_Fr.rf
    | with_reducible exact fo_none
    | with_reducible refine fo_some ?_
    | with_reducible refine fo_ite ?_ ?_
    | with_reducible refine fo_chk ?_
    | with_reducible refine fo_let ?_ (fun _ _ => ?_)
    | with_reducible refine fo_letI (fun _ => ?_)
    | with_reducible refine fo_let2 ?_ (fun _ _ _ => ?_)
    | with_reducible refine fo_bndM (fun _ _ => ?_) (fun _ _ => ?_)
    | with_reducible refine fo_bnd (fun _ => ?_)
    | with_reducible refine fo_bnd2 (fun _ _ _ => ?_) (fun _ _ _ => ?_)
    | (with_reducible refine gj_Fr.up ?_ ?_; rotate_left; · first | decide +kernel | rfl | simp)
    | (with_reducible refine gj_Fr.put ?_ ?_; rotate_left; · first | decide +kernel | rfl | simp)
    | (with_reducible refine gj_Fr.fill ?_ ?_; rotate_left; · first | decide +kernel | rfl | simp)
    | (with_reducible refine gj_Fr.copy ?_ ?_; rotate_left; · first | decide +kernel | rfl | simp)
    | with_reducible exact fo_tr (by with_reducible assumption) (fr_J_X12_lives_211 _ _ _)
    | (with_reducible refine gj_Fr.trans ?_ (gj_Fr.wide (gj_FOu (fr_X12_lot _) (by with_reducible assumption)) ?_); rotate_left; · first | decide +kernel | simp [gj_fsub])

set_option maxHeartbeats 600000 in
theorem fr_J_X12_lives_90 (l1 l2 l3 l4 s0 s1 : Int) (M : gj_M) : gj_FO (fun m => m) [109, 111, 112, 113, 114] [(79, 30)] M (J_X12_lives_90 l1 l2 l3 l4 s0 s1 M) := by
  unfold J_X12_lives_90
  have hM : gj_Fr [109, 111, 112, 113, 114] [(79, 30)] M M := gj_Fr.rf
  repeat' first
    | with_reducible assumption
    | with_reducible exact gj_Fr.rf
    | with_reducible exact fo_none
    | with_reducible refine fo_some ?_
    | with_reducible refine fo_ite ?_ ?_
    | with_reducible refine fo_chk ?_
    | with_reducible refine fo_let ?_ (fun _ _ => ?_)
    | with_reducible refine fo_letI (fun _ => ?_)
    | with_reducible refine fo_let2 ?_ (fun _ _ _ => ?_)
    | with_reducible refine fo_bndM (fun _ _ => ?_) (fun _ _ => ?_)
    | with_reducible refine fo_bnd (fun _ => ?_)
    | with_reducible refine fo_bnd2 (fun _ _ _ => ?_) (fun _ _ _ => ?_)
    | (with_reducible refine gj_Fr.up ?_ ?_; rotate_left; · first | decide +kernel | rfl | simp)
    | (with_reducible refine gj_Fr.put ?_ ?_; rotate_left; · first | decide +kernel | rfl | simp)
    | (with_reducible refine gj_Fr.fill ?_ ?_; rotate_left; · first | decide +kernel | rfl | simp)
    | (with_reducible refine gj_Fr.copy ?_ ?_; rotate_left; · first | decide +kernel | rfl | simp)
    | with_reducible exact fo_tr (by with_reducible assumption) (fr_J_X12_lives_175 _ _ _ _)
    | (with_reducible refine gj_Fr.trans ?_ (gj_Fr.wide (gj_FOu (fr_X12_lot _) (by with_reducible assumption)) ?_); rotate_left; · first | decide +kernel | simp [gj_fsub])

set_option maxHeartbeats 600000 in
theorem fr_J_X12_lives_61 (l1 l2 l3 l4 s0 : Int) (M : gj_M) : gj_FO (fun m => m) [109, 111, 112, 113, 114] [(79, 30)] M (J_X12_lives_61 l1 l2 l3 l4 s0 M) := by
  unfold J_X12_lives_61
  have hM : gj_Fr [109, 111, 112, 113, 114] [(79, 30)] M M := gj_Fr.rf
  repeat' first
    | with_reducible assumption
    | with_reducible exact gj_Fr.rf
    | with_reducible exact fo_none
    | with_reducible refine fo_some ?_
    | with_reducible refine fo_ite ?_ ?_
    | with_reducible refine fo_chk ?_
    | with_reducible refine fo_let ?_ (fun _ _ => ?_)
    | with_reducible refine fo_letI (fun _ => ?_)
    | with_reducible refine fo_let2 ?_ (fun _ _ _ => ?_)
    | with_reducible refine fo_bndM (fun _ _ => ?_) (fun _ _ => ?_)
    | with_reducible refine fo_bnd (fun _ => ?_)
    | with_reducible refine fo_bnd2 (fun _ _ _ => ?_) (fun _ _ _ => ?_)
    | (with_reducible refine gj_Fr.up ?_ ?_; rotate_left; · first | decide +kernel | rfl | simp)
    | (with_reducible refine gj_Fr.put ?_ ?_; rotate_left; · first | decide +kernel | rfl | simp)
    | (with_reducible refine gj_Fr.fill ?_ ?_; rotate_left; · first | decide +kernel | rfl | simp)
    | (with_reducible refine gj_Fr.copy ?_ ?_; rotate_left; · first | decide +kernel | rfl | simp)
    | with_reducible exact fo_tr (by with_reducible assumption) (fr_J_X12_lives_90 _ _ _ _ _ _ _)
    | (with_reducible refine gj_Fr.trans ?_ (gj_Fr.wide (gj_FOu (fr_X12_lot _) (by with_reducible assumption)) ?_); rotate_left; · first | decide +kernel | simp [gj_fsub])

set_option maxHeartbeats 600000 in
theorem fr_J_X12_lives_35 (l1 l2 l3 s0 : Int) (M : gj_M) : gj_FO (fun m => m) [109, 111, 112, 113, 114] [(79, 30)] M (J_X12_lives_35 l1 l2 l3 s0 M) := by
  unfold J_X12_lives_35
  have hM : gj_Fr [109, 111, 112, 113, 114] [(79, 30)] M M := gj_Fr.rf
  repeat' first
    | with_reducible assumption
    | with_reducible exact gj_Fr.rf
    | with_reducible exact fo_none
    | with_reducible refine fo_some ?_
    | with_reducible refine fo_ite ?_ ?_
    | with_reducible refine fo_chk ?_
    | with_reducible refine fo_let ?_ (fun _ _ => ?_)
    | with_reducible refine fo_letI (fun _ => ?_)
    | with_reducible refine fo_let2 ?_ (fun _ _ _ => ?_)
    | with_reducible refine fo_bndM (fun _ _ => ?_) (fun _ _ => ?_)
    | with_reducible refine fo_bnd (fun _ => ?_)
    | with_reducible refine fo_bnd2 (fun _ _ _ => ?_) (fun _ _ _ => ?_)
    | (with_reducible refine gj_Fr.up ?_ ?_; rotate_left; · first | decide +kernel | rfl | simp)
    | (with_reducible refine gj_Fr.put ?_ ?_; rotate_left; · first | decide +kernel | rfl | simp)
    | (with_reducible refine gj_Fr.fill ?_ ?_; rotate_left; · first | decide +kernel | rfl | simp)
    | (with_reducible refine gj_Fr.copy ?_ ?_; rotate_left; · first | decide +kernel | rfl | simp)
    | with_reducible exact fo_tr (by with_reducible assumption) (fr_J_X12_lives_61 _ _ _ _ _ _)
    | (with_reducible refine gj_Fr.trans ?_ (gj_Fr.wide (gj_FOu (fr_X12_lot _) (by with_reducible assumption)) ?_); rotate_left; · first | decide +kernel | simp [gj_fsub])

set_option maxHeartbeats 600000 in
theorem fr_X12_lives (a1 : Int) {M : gj_M} : gj_FO (fun m => m) [109, 111, 112, 113, 114] [(79, 30)] M (F_X12_lives a1 M) := by
  unfold F_X12_lives
  have hM : gj_Fr [109, 111, 112, 113, 114] [(79, 30)] M M := gj_Fr.rf
  repeat' first
    | with_reducible assumption
    | with_reducible exact gj_Fr.rf
    | with_reducible exact fo_none
    | with_reducible refine fo_some ?_
    | with_reducible refine fo_ite ?_ ?_
    | with_reducible refine fo_chk ?_
    | with_reducible refine fo_let ?_ (fun _ _ => ?_)
    | with_reducible refine fo_letI (fun _ => ?_)
    | with_reducible refine fo_let2 ?_ (fun _ _ _ => ?_)
    | with_reducible refine fo_bndM (fun _ _ => ?_) (fun _ _ => ?_)
    | with_reducible refine fo_bnd (fun _ => ?_)
    | with_reducible refine fo_bnd2 (fun _ _ _ => ?_) (fun _ _ _ => ?_)
    | (with_reducible refine gj_Fr.up ?_ ?_; rotate_left; · first | decide +kernel | rfl | simp)
    | (with_reducible refine gj_Fr.put ?_ ?_; rotate_left; · first | decide +kernel | rfl | simp)
    | (with_reducible refine gj_Fr.fill ?_ ?_; rotate_left; · first | decide +kernel | rfl | simp)
    | (with_reducible refine gj_Fr.copy ?_ ?_; rotate_left; · first | decide +kernel | rfl | simp)
    | with_reducible exact fo_tr (by with_reducible assumption) (fr_J_X12_lives_35 _ _ _ _ _)
    | (with_reducible refine gj_Fr.trans ?_ (gj_Fr.wide (gj_FOu (fr_X12_lot _) (by with_reducible assumption)) ?_); rotate_left; · first | decide +kernel | simp [gj_fsub])

set_option maxHeartbeats 600000 in
theorem fr_X12_join (a1 : Int) (a2 : Int) {M : gj_M} : gj_FO Prod.snd [80, 108, 109, 110] [] M (F_X12_join a1 a2 M) := by
  unfold F_X12_join
  have hM : gj_Fr [80, 108, 109, 110] [] M M := gj_Fr.rf
  repeat' first
    | with_reducible assumption
    | with_reducible exact gj_Fr.rf
    | with_reducible exact fo_none
    | with_reducible refine fo_some ?_
    | with_reducible refine fo_ite ?_ ?_
    | with_reducible refine fo_chk ?_
    | with_reducible refine fo_let ?_ (fun _ _ => ?_)
    | with_reducible refine fo_letI (fun _ => ?_)
    | with_reducible refine fo_let2 ?_ (fun _ _ _ => ?_)
    | with_reducible refine fo_bndM (fun _ _ => ?_) (fun _ _ => ?_)
    | with_reducible refine fo_bnd (fun _ => ?_)
    | with_reducible refine fo_bnd2 (fun _ _ _ => ?_) (fun _ _ _ => ?_)
    | (with_reducible refine gj_Fr.up ?_ ?_; rotate_left; · first | decide +kernel | rfl | simp)
    | (with_reducible refine gj_Fr.put ?_ ?_; rotate_left; · first | decide +kernel | rfl | simp)
    | (with_reducible refine gj_Fr.fill ?_ ?_; rotate_left; · first | decide +kernel | rfl | simp)
    | (with_reducible refine gj_Fr.copy ?_ ?_; rotate_left; · first | decide +kernel | rfl | simp)
    | (with_reducible refine gj_Fr.trans ?_ (gj_Fr.wide (gj_FOu (fr_X12_joins _ _) (by with_reducible assumption)) ?_); rotate_left; · first | decide +kernel | simp [gj_fsub])
    | (with_reducible refine gj_Fr.trans ?_ (gj_Fr.wide (gj_FOu (fr_X12_deny _) (by with_reducible assumption)) ?_); rotate_left; · first | decide +kernel | simp [gj_fsub])

set_option maxHeartbeats 600000 in
theorem fr_X12_part (a1 : Int) {M : gj_M} : gj_FO Prod.snd [80, 108] [] M (F_X12_part a1 M) := by
  unfold F_X12_part
  have hM : gj_Fr [80, 108] [] M M := gj_Fr.rf
  repeat' first
    | with_reducible assumption
    | with_reducible exact gj_Fr.rf
    | with_reducible exact fo_none
    | with_reducible refine fo_some ?_
    | with_reducible refine fo_ite ?_ ?_
    | with_reducible refine fo_chk ?_
    | with_reducible refine fo_let ?_ (fun _ _ => ?_)
    | with_reducible refine fo_letI (fun _ => ?_)
    | with_reducible refine fo_let2 ?_ (fun _ _ _ => ?_)
    | with_reducible refine fo_bndM (fun _ _ => ?_) (fun _ _ => ?_)
    | with_reducible refine fo_bnd (fun _ => ?_)
    | with_reducible refine fo_bnd2 (fun _ _ _ => ?_) (fun _ _ _ => ?_)
    | (with_reducible refine gj_Fr.up ?_ ?_; rotate_left; · first | decide +kernel | rfl | simp)
    | (with_reducible refine gj_Fr.put ?_ ?_; rotate_left; · first | decide +kernel | rfl | simp)
    | (with_reducible refine gj_Fr.fill ?_ ?_; rotate_left; · first | decide +kernel | rfl | simp)
    | (with_reducible refine gj_Fr.copy ?_ ?_; rotate_left; · first | decide +kernel | rfl | simp)
    | (with_reducible refine gj_Fr.trans ?_ (gj_Fr.wide (gj_FOu (fr_X12_parts _) (by with_reducible assumption)) ?_); rotate_left; · first | decide +kernel | simp [gj_fsub])
    | (with_reducible refine gj_Fr.trans ?_ (gj_Fr.wide (gj_FOu (fr_X12_deny _) (by with_reducible assumption)) ?_); rotate_left; · first | decide +kernel | simp [gj_fsub])

set_option maxHeartbeats 600000 in
theorem fr_J_X12_parentsFrom_139 {rec : Int → gj_M → Option (gj_M)} (hrec : ∀ (b0 : Int) (M : gj_M), gj_FO (fun m => m) [124, 125] [(79, 46)] M (rec b0 M)) (l1 : Int) (M : gj_M) : gj_FO (fun m => m) [124, 125] [(79, 46)] M (J_X12_parentsFrom_139 rec l1 M) := by
  unfold J_X12_parentsFrom_139
  have hM : gj_Fr [124, 125] [(79, 46)] M M := gj_Fr.rf
  repeat' first
    | with_reducible assumption
    | with_reducible exact gj_Fr.rf
    | with_reducible exact fo_none
    | with_reducible refine fo_some ?_
    | with_reducible refine fo_ite ?_ ?_
    | with_reducible refine fo_chk ?_
    | with_reducible refine fo_let ?_ (fun _ _ => ?_)
    | with_reducible refine fo_letI (fun _ => ?_)
    | with_reducible refine fo_let2 ?_ (fun _ _ _ => ?_)
    | with_reducible refine fo_bndM (fun _ _ => ?_) (fun _ _ => ?_)
    | with_reducible refine fo_bnd (fun _ => ?_)
    | with_reducible refine fo_bnd2 (fun _ _ _ => ?_) (fun _ _ _ => ?_)
    | (with_reducible refine gj_Fr.up ?_ ?_; rotate_left; · first | decide +kernel | rfl | simp)
    | (with_reducible refine gj_Fr.put ?_ ?_; rotate_left; · first | decide +kernel | rfl | simp)
    | (with_reducible refine gj_Fr.fill ?_ ?_; rotate_left; · first | decide +kernel | rfl | simp)
    | (with_reducible refine gj_Fr.copy ?_ ?_; rotate_left; · first | decide +kernel | rfl | simp)
    | with_reducible exact gj_Fr.trans (by with_reducible assumption) (gj_FOu (hrec _ _) (by with_reducible assumption))

set_option maxHeartbeats 600000 in
theorem fr_J_X12_parentsFrom_133 {rec : Int → gj_M → Option (gj_M)} (hrec : ∀ (b0 : Int) (M : gj_M), gj_FO (fun m => m) [124, 125] [(79, 46)] M (rec b0 M)) {rec78 : Int → Int → gj_M → Option (gj_M)} (hrec78 : ∀ (l1 l2 : Int) (M : gj_M), gj_FO (fun m => m) [124, 125] [(79, 46)] M (rec78 l1 l2 M)) (l1 l2 : Int) (M : gj_M) : gj_FO (fun m => m) [124, 125] [(79, 46)] M (J_X12_parentsFrom_133 rec rec78 l1 l2 M) := by
  unfold J_X12_parentsFrom_133
  have hM : gj_Fr [124, 125] [(79, 46)] M M := gj_Fr.rf
  repeat' first
    | with_reducible assumption
    | with_reducible exact gj_Fr.rf
    | with_reducible exact fo_none
    | with_reducible refine fo_some ?_
    | with_reducible refine fo_ite ?_ ?_
    | with_reducible refine fo_chk ?_
    | with_reducible refine fo_let ?_ (fun _ _ => ?_)
    | with_reducible refine fo_letI (fun _ => ?_)
    | with_reducible refine fo_let2 ?_ (fun _ _ _ => ?_)
    | with_reducible refine fo_bndM (fun _ _ => ?_) (fun _ _ => ?_)
    | with_reducible refine fo_bnd (fun _ => ?_)
    | with_reducible refine fo_bnd2 (fun _ _ _ => ?_) (fun _ _ _ => ?_)
    | (with_reducible refine gj_Fr.up ?_ ?_; rotate_left; · first | decide +kernel | rfl | simp)
    | (with_reducible refine gj_Fr.put ?_ ?_; rotate_left; · first | decide +kernel | rfl | simp)
    | (with_reducible refine gj_Fr.fill ?_ ?_; rotate_left; · first | decide +kernel | rfl | simp)
    | (with_reducible refine gj_Fr.copy ?_ ?_; rotate_left; · first | decide +kernel | rfl | simp)
    | with_reducible exact fo_tr (by with_reducible assumption) (hrec78 _ _ _)
    | with_reducible exact gj_Fr.trans (by with_reducible assumption) (gj_FOu (hrec _ _) (by with_reducible assumption))

set_option maxHeartbeats 600000 in
theorem fr_B_X12_parentsFrom_78 {rec : Int → gj_M → Option (gj_M)} (hrec : ∀ (b0 : Int) (M : gj_M), gj_FO (fun m => m) [124, 125] [(79, 46)] M (rec b0 M)) {rec78 : Int → Int → gj_M → Option (gj_M)} (hrec78 : ∀ (l1 l2 : Int) (M : gj_M), gj_FO (fun m => m) [124, 125] [(79, 46)] M (rec78 l1 l2 M)) (l1 l2 : Int) (M : gj_M) : gj_FO (fun m => m) [124, 125] [(79, 46)] M (B_X12_parentsFrom_78 rec rec78 l1 l2 M) := by
  unfold B_X12_parentsFrom_78
  have hM : gj_Fr [124, 125] [(79, 46)] M M := gj_Fr.rf
  repeat' first
    | with_reducible assumption
    | with_reducible exact gj_Fr.rf
    | with_reducible exact fo_none
    | with_reducible refine fo_some ?_
    | with_reducible refine fo_ite ?_ ?_
    | with_reducible refine fo_chk ?_
    | with_reducible refine fo_let ?_ (fun _ _ => ?_)
    | with_reducible refine fo_letI (fun _ => ?_)
    | with_reducible refine fo_let2 ?_ (fun _ _ _ => ?_)
    | with_reducible refine fo_bndM (fun _ _ => ?_) (fun _ _ => ?_)
    | with_reducible refine fo_bnd (fun _ => ?_)
    | with_reducible refine fo_bnd2 (fun _ _ _ => ?_) (fun _ _ _ => ?_)
    | (with_reducible refine gj_Fr.up ?_ ?_; rotate_left; · first | decide +kernel | rfl | simp)
    | (with_reducible refine gj_Fr.put ?_ ?_; rotate_left; · first | decide +kernel | rfl | simp)
    | (with_reducible refine gj_Fr.fill ?_ ?_; rotate_left; · first | decide +kernel | rfl | simp)
    | (with_reducible refine gj_Fr.copy ?_ ?_; rotate_left; · first | decide +kernel | rfl | simp)
    | with_reducible exact fo_tr (by with_reducible assumption) (fr_J_X12_parentsFrom_133 hrec hrec78 _ _ _)
    | with_reducible exact fo_tr (by with_reducible assumption) (fr_J_X12_parentsFrom_139 hrec _ _)
    | with_reducible exact fo_tr (by with_reducible assumption) (hrec78 _ _ _)
    | with_reducible exact gj_Fr.trans (by with_reducible assumption) (gj_FOu (hrec _ _) (by with_reducible assumption))

theorem frL_X12_parentsFrom_78 {rec : Int → gj_M → Option (gj_M)} (hrec : ∀ (b0 : Int) (M : gj_M), gj_FO (fun m => m) [124, 125] [(79, 46)] M (rec b0 M)) : ∀ (m : Nat) (l1 l2 : Int) (M : gj_M), gj_FO (fun m => m) [124, 125] [(79, 46)] M (gj_it (fun _ _ _ => none) (B_X12_parentsFrom_78 rec) m l1 l2 M)
  | 0, l1, l2, M => fun r e => by cases (show (none : Option (gj_M)) = some r from e)
  | m + 1, l1, l2, M => fr_B_X12_parentsFrom_78 hrec (fun l1 l2 M => frL_X12_parentsFrom_78 hrec m l1 l2 M) l1 l2 M
set_option maxHeartbeats 600000 in
theorem fr_B_X12_parentsFrom_37 {rec : Int → gj_M → Option (gj_M)} (hrec : ∀ (b0 : Int) (M : gj_M), gj_FO (fun m => m) [124, 125] [(79, 46)] M (rec b0 M)) {rec37 : Int → gj_M → Option (gj_M)} (hrec37 : ∀ (l3 : Int) (M : gj_M), gj_FO (fun m => m) [124, 125] [(79, 46)] M (rec37 l3 M)) (l3 : Int) (M : gj_M) : gj_FO (fun m => m) [124, 125] [(79, 46)] M (B_X12_parentsFrom_37 rec rec37 l3 M) := by
  unfold B_X12_parentsFrom_37
  have hM : gj_Fr [124, 125] [(79, 46)] M M := gj_Fr.rf
  repeat' first
    | with_reducible assumption
    | with_reducible exact gj_Fr.rf
    | with_reducible exact fo_none
    | with_reducible refine fo_some ?_
    | with_reducible refine fo_ite ?_ ?_
    | with_reducible refine fo_chk ?_
    | with_reducible refine fo_let ?_ (fun _ _ => ?_)
    | with_reducible refine fo_letI (fun _ => ?_)
    | with_reducible refine fo_let2 ?_ (fun _ _ _ => ?_)
    | with_reducible refine fo_bndM (fun _ _ => ?_) (fun _ _ => ?_)
    | with_reducible refine fo_bnd (fun _ => ?_)
    | with_reducible refine fo_bnd2 (fun _ _ _ => ?_) (fun _ _ _ => ?_)
    | (with_reducible refine gj_Fr.up ?_ ?_; rotate_left; · first | decide +kernel | rfl | simp)
    | (with_reducible refine gj_Fr.put ?_ ?_; rotate_left; · first | decide +kernel | rfl | simp)
    | (with_reducible refine gj_Fr.fill ?_ ?_; rotate_left; · first | decide +kernel | rfl | simp)
    | (with_reducible refine gj_Fr.copy ?_ ?_; rotate_left; · first | decide +kernel | rfl | simp)
    | with_reducible exact fo_tr (by with_reducible assumption) (hrec37 _ _)
    | with_reducible exact gj_Fr.trans (by with_reducible assumption) (gj_FOu (hrec _ _) (by with_reducible assumption))

theorem frL_X12_parentsFrom_37 {rec : Int → gj_M → Option (gj_M)} (hrec : ∀ (b0 : Int) (M : gj_M), gj_FO (fun m => m) [124, 125] [(79, 46)] M (rec b0 M)) : ∀ (m : Nat) (l3 : Int) (M : gj_M), gj_FO (fun m => m) [124, 125] [(79, 46)] M (gj_it (fun _ _ => none) (B_X12_parentsFrom_37 rec) m l3 M)
  | 0, l3, M => fun r e => by cases (show (none : Option (gj_M)) = some r from e)
  | m + 1, l3, M => fr_B_X12_parentsFrom_37 hrec (fun l3 M => frL_X12_parentsFrom_37 hrec m l3 M) l3 M
set_option maxHeartbeats 600000 in
theorem fr_X12_parentsFrom {rec : Int → gj_M → Option (gj_M)} (hrec : ∀ (b0 : Int) (M : gj_M), gj_FO (fun m => m) [124, 125] [(79, 46)] M (rec b0 M)) (a1 : Int) {M : gj_M} : gj_FO (fun m => m) [124, 125] [(79, 46)] M (F_X12_parentsFrom rec a1 M) := by
  unfold F_X12_parentsFrom
  have hM : gj_Fr [124, 125] [(79, 46)] M M := gj_Fr.rf
  repeat' first
    | with_reducible assumption
    | with_reducible exact gj_Fr.rf
    | with_reducible exact fo_none
    | with_reducible refine fo_some ?_
    | with_reducible refine fo_ite ?_ ?_
    | with_reducible refine fo_chk ?_
    | with_reducible refine fo_let ?_ (fun _ _ => ?_)
    | with_reducible refine fo_letI (fun _ => ?_)
    | with_reducible refine fo_let2 ?_ (fun _ _ _ => ?_)
    | with_reducible refine fo_bndM (fun _ _ => ?_) (fun _ _ => ?_)
    | with_reducible refine fo_bnd (fun _ => ?_)
    | with_reducible refine fo_bnd2 (fun _ _ _ => ?_) (fun _ _ _ => ?_)
    | (with_reducible refine gj_Fr.up ?_ ?_; rotate_left; · first | decide +kernel | rfl | simp)
    | (with_reducible refine gj_Fr.put ?_ ?_; rotate_left; · first | decide +kernel | rfl | simp)
    | (with_reducible refine gj_Fr.fill ?_ ?_; rotate_left; · first | decide +kernel | rfl | simp)
    | (with_reducible refine gj_Fr.copy ?_ ?_; rotate_left; · first | decide +kernel | rfl | simp)
    | with_reducible exact fo_tr (by with_reducible assumption) (frL_X12_parentsFrom_37 hrec _ _ _)
    | with_reducible exact fo_tr (by with_reducible assumption) (frL_X12_parentsFrom_78 hrec _ _ _ _)
    | with_reducible exact gj_Fr.trans (by with_reducible assumption) (gj_FOu (hrec _ _) (by with_reducible assumption))

theorem fr_X12_parentsN : ∀ (n : Nat) (a1 : Int) (M : gj_M), gj_FO (fun m => m) [124, 125] [(79, 46)] M (F_X12_parentsN n a1 M)
  | 0, a1, M => fun r e => by cases (show (none : Option (gj_M)) = some r from e)
  | n + 1, a1, M => fr_X12_parentsFrom (fun b0 M => fr_X12_parentsN n b0 M) a1
theorem fr_X12_parentsC (a1 : Int) {M : gj_M} : gj_FO (fun m => m) [124, 125] [(79, 46)] M (F_X12_parentsN 6 a1 M) := fr_X12_parentsN 6 a1 M
set_option maxHeartbeats 600000 in
theorem fr_J_X12_findsParents_21 (M : gj_M) : gj_FO (fun m => m) [124, 125] [(79, 46)] M (J_X12_findsParents_21 M) := by
  unfold J_X12_findsParents_21
  have hM : gj_Fr [124, 125] [(79, 46)] M M := gj_Fr.rf
  repeat' first
    | with_reducible assumption
    | with_reducible exact gj_Fr.rf
    | with_reducible exact fo_none
    | with_reducible refine fo_some ?_
    | with_reducible refine fo_ite ?_ ?_
    | with_reducible refine fo_chk ?_
    | with_reducible refine fo_let ?_ (fun _ _ => ?_)
    | with_reducible refine fo_letI (fun _ => ?_)
    | with_reducible refine fo_let2 ?_ (fun _ _ _ => ?_)
    | with_reducible refine fo_bndM (fun _ _ => ?_) (fun _ _ => ?_)
    | with_reducible refine fo_bnd (fun _ => ?_)
    | with_reducible refine fo_bnd2 (fun _ _ _ => ?_) (fun _ _ _ => ?_)
    | (with_reducible refine gj_Fr.up ?_ ?_; rotate_left; · first | decide +kernel | rfl | simp)
    | (with_reducible refine gj_Fr.put ?_ ?_; rotate_left; · first | decide +kernel | rfl | simp)
    | (with_reducible refine gj_Fr.fill ?_ ?_; rotate_left; · first | decide +kernel | rfl | simp)
    | (with_reducible refine gj_Fr.copy ?_ ?_; rotate_left; · first | decide +kernel | rfl | simp)
    | (with_reducible refine gj_Fr.trans ?_ (gj_Fr.wide (gj_FOu (fr_X12_parentsC _) (by with_reducible assumption)) ?_); rotate_left; · first | decide +kernel | simp [gj_fsub])

set_option maxHeartbeats 600000 in
theorem fr_B_X12_findsParents_2 {rec2 : Int → gj_M → Option (gj_M)} (hrec2 : ∀ (l1 : Int) (M : gj_M), gj_FO (fun m => m) [124, 125] [(79, 46)] M (rec2 l1 M)) (l1 : Int) (M : gj_M) : gj_FO (fun m => m) [124, 125] [(79, 46)] M (B_X12_findsParents_2 rec2 l1 M) := by
  unfold B_X12_findsParents_2
  have hM : gj_Fr [124, 125] [(79, 46)] M M := gj_Fr.rf
  repeat' first
    | with_reducible assumption
    | with_reducible exact gj_Fr.rf
    | with_reducible exact fo_none
    | with_reducible refine fo_some ?_
    | with_reducible refine fo_ite ?_ ?_
    | with_reducible refine fo_chk ?_
    | with_reducible refine fo_let ?_ (fun _ _ => ?_)
    | with_reducible refine fo_letI (fun _ => ?_)
    | with_reducible refine fo_let2 ?_ (fun _ _ _ => ?_)
    | with_reducible refine fo_bndM (fun _ _ => ?_) (fun _ _ => ?_)
    | with_reducible refine fo_bnd (fun _ => ?_)
    | with_reducible refine fo_bnd2 (fun _ _ _ => ?_) (fun _ _ _ => ?_)
    | (with_reducible refine gj_Fr.up ?_ ?_; rotate_left; · first | decide +kernel | rfl | simp)
    | (with_reducible refine gj_Fr.put ?_ ?_; rotate_left; · first | decide +kernel | rfl | simp)
    | (with_reducible refine gj_Fr.fill ?_ ?_; rotate_left; · first | decide +kernel | rfl | simp)
    | (with_reducible refine gj_Fr.copy ?_ ?_; rotate_left; · first | decide +kernel | rfl | simp)
    | with_reducible exact fo_tr (by with_reducible assumption) (fr_J_X12_findsParents_21 _)
    | with_reducible exact fo_tr (by with_reducible assumption) (hrec2 _ _)
    | (with_reducible refine gj_Fr.trans ?_ (gj_Fr.wide (gj_FOu (fr_X12_parentsC _) (by with_reducible assumption)) ?_); rotate_left; · first | decide +kernel | simp [gj_fsub])

theorem frL_X12_findsParents_2 : ∀ (m : Nat) (l1 : Int) (M : gj_M), gj_FO (fun m => m) [124, 125] [(79, 46)] M (gj_it (fun _ _ => none) (B_X12_findsParents_2) m l1 M)
  | 0, l1, M => fun r e => by cases (show (none : Option (gj_M)) = some r from e)
  | m + 1, l1, M => fr_B_X12_findsParents_2 (fun l1 M => frL_X12_findsParents_2 m l1 M) l1 M
set_option maxHeartbeats 600000 in
theorem fr_X12_findsParents {M : gj_M} : gj_FO (fun m => m) [124, 125] [(79, 46)] M (F_X12_findsParents M) := by
  unfold F_X12_findsParents
  have hM : gj_Fr [124, 125] [(79, 46)] M M := gj_Fr.rf
  repeat' first
    | with_reducible assumption
    | with_reducible exact gj_Fr.rf
    | with_reducible exact fo_none
    | with_reducible refine fo_some ?_
    | with_reducible refine fo_ite ?_ ?_
    | with_reducible refine fo_chk ?_
    | with_reducible refine fo_let ?_ (fun _ _ => ?_)
    | with_reducible refine fo_letI (fun _ => ?_)
    | with_reducible refine fo_let2 ?_ (fun _ _ _ => ?_)
    | with_reducible refine fo_bndM (fun _ _ => ?_) (fun _ _ => ?_)
    | with_reducible refine fo_bnd (fun _ => ?_)
    | with_reducible refine fo_bnd2 (fun _ _ _ => ?_) (fun _ _ _ => ?_)
    | (with_reducible refine gj_Fr.up ?_ ?_; rotate_left; · first | decide +kernel | rfl | simp)
    | (with_reducible refine gj_Fr.put ?_ ?_; rotate_left; · first | decide +kernel | rfl | simp)
    | (with_reducible refine gj_Fr.fill ?_ ?_; rotate_left; · first | decide +kernel | rfl | simp)
    | (with_reducible refine gj_Fr.copy ?_ ?_; rotate_left; · first | decide +kernel | rfl | simp)
    | with_reducible exact fo_tr (by with_reducible assumption) (frL_X12_findsParents_2 _ _ _)
    | (with_reducible refine gj_Fr.trans ?_ (gj_Fr.wide (gj_FOu (fr_X12_parentsC _) (by with_reducible assumption)) ?_); rotate_left; · first | decide +kernel | simp [gj_fsub])

set_option maxHeartbeats 600000 in
theorem fr_X12_parents (a1 : Int) {M : gj_M} : gj_FO Prod.snd [124, 125] [(79, 46)] M (F_X12_parents a1 M) := by
  unfold F_X12_parents
  have hM : gj_Fr [124, 125] [(79, 46)] M M := gj_Fr.rf
  repeat' first
    | with_reducible assumption
    | with_reducible exact gj_Fr.rf
    | with_reducible exact fo_none
    | with_reducible refine fo_some ?_
    | with_reducible refine fo_ite ?_ ?_
    | with_reducible refine fo_chk ?_
    | with_reducible refine fo_let ?_ (fun _ _ => ?_)
    | with_reducible refine fo_letI (fun _ => ?_)
    | with_reducible refine fo_let2 ?_ (fun _ _ _ => ?_)
    | with_reducible refine fo_bndM (fun _ _ => ?_) (fun _ _ => ?_)
    | with_reducible refine fo_bnd (fun _ => ?_)
    | with_reducible refine fo_bnd2 (fun _ _ _ => ?_) (fun _ _ _ => ?_)
    | (with_reducible refine gj_Fr.up ?_ ?_; rotate_left; · first | decide +kernel | rfl | simp)
    | (with_reducible refine gj_Fr.put ?_ ?_; rotate_left; · first | decide +kernel | rfl | simp)
    | (with_reducible refine gj_Fr.fill ?_ ?_; rotate_left; · first | decide +kernel | rfl | simp)
    | (with_reducible refine gj_Fr.copy ?_ ?_; rotate_left; · first | decide +kernel | rfl | simp)
    | (with_reducible refine gj_Fr.trans ?_ (gj_Fr.wide (gj_FOu (fr_X12_findsParents) (by with_reducible assumption)) ?_); rotate_left; · first | decide +kernel | simp [gj_fsub])

set_option maxHeartbeats 600000 in
theorem fr_J_X12_life_180 (l1 l2 : Int) (M : gj_M) : gj_FO Prod.snd [112, 113, 114, 119, 120, 121, 124, 125, 126, 127, 128] [(79, 30), (79, 46)] M (J_X12_life_180 l1 l2 M) := by
  unfold J_X12_life_180
  have hM : gj_Fr [112, 113, 114, 119, 120, 121, 124, 125, 126, 127, 128] [(79, 30), (79, 46)] M M := gj_Fr.rf
  repeat' first
    | with_reducible assumption
    | with_reducible exact gj_Fr.rf
    | with_reducible exact fo_none
    | with_reducible refine fo_some ?_
    | with_reducible refine fo_ite ?_ ?_
    | with_reducible refine fo_chk ?_
    | with_reducible refine fo_let ?_ (fun _ _ => ?_)
    | with_reducible refine fo_letI (fun _ => ?_)
    | with_reducible refine fo_let2 ?_ (fun _ _ _ => ?_)
    | with_reducible refine fo_bndM (fun _ _ => ?_) (fun _ _ => ?_)
    | with_reducible refine fo_bnd (fun _ => ?_)
    | with_reducible refine fo_bnd2 (fun _ _ _ => ?_) (fun _ _ _ => ?_)
    | (with_reducible refine gj_Fr.up ?_ ?_; rotate_left; · first | decide +kernel | rfl | simp)
    | (with_reducible refine gj_Fr.put ?_ ?_; rotate_left; · first | decide +kernel | rfl | simp)
    | (with_reducible refine gj_Fr.fill ?_ ?_; rotate_left; · first | decide +kernel | rfl | simp)
    | (with_reducible refine gj_Fr.copy ?_ ?_; rotate_left; · first | decide +kernel | rfl | simp)
    | (with_reducible refine gj_Fr.trans ?_ (gj_Fr.wide (gj_FOu (fr_X12_findsParents) (by with_reducible assumption)) ?_); rotate_left; · first | decide +kernel | simp [gj_fsub])
    | (with_reducible refine gj_Fr.trans ?_ (gj_Fr.wide (gj_FOu (fr_X12_goes _) (by with_reducible assumption)) ?_); rotate_left; · first | decide +kernel | simp [gj_fsub])

set_option maxHeartbeats 600000 in
theorem fr_B_X12_life_132 {rec132 : Int → Int → Int → gj_M → Option (Int × gj_M)} (hrec132 : ∀ (l1 l2 l3 : Int) (M : gj_M), gj_FO Prod.snd [112, 113, 114, 119, 120, 121, 124, 125, 126, 127, 128] [(79, 30), (79, 46)] M (rec132 l1 l2 l3 M)) (l1 l2 l3 : Int) (M : gj_M) : gj_FO Prod.snd [112, 113, 114, 119, 120, 121, 124, 125, 126, 127, 128] [(79, 30), (79, 46)] M (B_X12_life_132 rec132 l1 l2 l3 M) := by
  unfold B_X12_life_132
  have hM : gj_Fr [112, 113, 114, 119, 120, 121, 124, 125, 126, 127, 128] [(79, 30), (79, 46)] M M := gj_Fr.rf
  repeat' first
    | with_reducible assumption
    | with_reducible exact gj_Fr.rf
    | with_reducible exact fo_none
    | with_reducible refine fo_some ?_
    | with_reducible refine fo_ite ?_ ?_
    | with_reducible refine fo_chk ?_
    | with_reducible refine fo_let ?_ (fun _ _ => ?_)
    | with_reducible refine fo_letI (fun _ => ?_)
    | with_reducible refine fo_let2 ?_ (fun _ _ _ => ?_)
    | with_reducible refine fo_bndM (fun _ _ => ?_) (fun _ _ => ?_)
    | with_reducible refine fo_bnd (fun _ => ?_)
    | with_reducible refine fo_bnd2 (fun _ _ _ => ?_) (fun _ _ _ => ?_)
    | (with_reducible refine gj_Fr.up ?_ ?_; rotate_left; · first | decide +kernel | rfl | simp)
    | (with_reducible refine gj_Fr.put ?_ ?_; rotate_left; · first | decide +kernel | rfl | simp)
    | (with_reducible refine gj_Fr.fill ?_ ?_; rotate_left; · first | decide +kernel | rfl | simp)
    | (with_reducible refine gj_Fr.copy ?_ ?_; rotate_left; · first | decide +kernel | rfl | simp)
    | with_reducible exact fo_tr (by with_reducible assumption) (fr_J_X12_life_180 _ _ _)
    | with_reducible exact fo_tr (by with_reducible assumption) (hrec132 _ _ _ _)
    | (with_reducible refine gj_Fr.trans ?_ (gj_Fr.wide (gj_FOu (fr_X12_findsParents) (by with_reducible assumption)) ?_); rotate_left; · first | decide +kernel | simp [gj_fsub])
    | (with_reducible refine gj_Fr.trans ?_ (gj_Fr.wide (gj_FOu (fr_X12_goes _) (by with_reducible assumption)) ?_); rotate_left; · first | decide +kernel | simp [gj_fsub])

theorem frL_X12_life_132 : ∀ (m : Nat) (l1 l2 l3 : Int) (M : gj_M), gj_FO Prod.snd [112, 113, 114, 119, 120, 121, 124, 125, 126, 127, 128] [(79, 30), (79, 46)] M (gj_it (fun _ _ _ _ => none) (B_X12_life_132) m l1 l2 l3 M)
  | 0, l1, l2, l3, M => fun r e => by cases (show (none : Option (Int × gj_M)) = some r from e)
  | m + 1, l1, l2, l3, M => fr_B_X12_life_132 (fun l1 l2 l3 M => frL_X12_life_132 m l1 l2 l3 M) l1 l2 l3 M
set_option maxHeartbeats 600000 in
theorem fr_J_X12_life_125 (l1 l2 : Int) (M : gj_M) : gj_FO Prod.snd [112, 113, 114, 119, 120, 121, 124, 125, 126, 127, 128] [(79, 30), (79, 46)] M (J_X12_life_125 l1 l2 M) := by
  unfold J_X12_life_125
  have hM : gj_Fr [112, 113, 114, 119, 120, 121, 124, 125, 126, 127, 128] [(79, 30), (79, 46)] M M := gj_Fr.rf
  repeat' first
    | with_reducible assumption
    | with_reducible exact gj_Fr.rf
    | with_reducible exact fo_none
    | with_reducible refine fo_some ?_
    | with_reducible refine fo_ite ?_ ?_
    | with_reducible refine fo_chk ?_
    | with_reducible refine fo_let ?_ (fun _ _ => ?_)
    | with_reducible refine fo_letI (fun _ => ?_)
    | with_reducible refine fo_let2 ?_ (fun _ _ _ => ?_)
    | with_reducible refine fo_bndM (fun _ _ => ?_) (fun _ _ => ?_)
    | with_reducible refine fo_bnd (fun _ => ?_)
    | with_reducible refine fo_bnd2 (fun _ _ _ => ?_) (fun _ _ _ => ?_)
    | (with_reducible refine gj_Fr.up ?_ ?_; rotate_left; · first | decide +kernel | rfl | simp)
    | (with_reducible refine gj_Fr.put ?_ ?_; rotate_left; · first | decide +kernel | rfl | simp)
    | (with_reducible refine gj_Fr.fill ?_ ?_; rotate_left; · first | decide +kernel | rfl | simp)
    | (with_reducible refine gj_Fr.copy ?_ ?_; rotate_left; · first | decide +kernel | rfl | simp)
    | with_reducible exact fo_tr (by with_reducible assumption) (frL_X12_life_132 _ _ _ _ _)
    | (with_reducible refine gj_Fr.trans ?_ (gj_Fr.wide (gj_FOu (fr_X12_findsParents) (by with_reducible assumption)) ?_); rotate_left; · first | decide +kernel | simp [gj_fsub])
    | (with_reducible refine gj_Fr.trans ?_ (gj_Fr.wide (gj_FOu (fr_X12_goes _) (by with_reducible assumption)) ?_); rotate_left; · first | decide +kernel | simp [gj_fsub])

set_option maxHeartbeats 600000 in
theorem fr_B_X12_life_106 {rec106 : Int → Int → Int → gj_M → Option (Int × gj_M)} (hrec106 : ∀ (l1 l2 l3 : Int) (M : gj_M), gj_FO Prod.snd [112, 113, 114, 119, 120, 121, 124, 125, 126, 127, 128] [(79, 30), (79, 46)] M (rec106 l1 l2 l3 M)) (l1 l2 l3 : Int) (M : gj_M) : gj_FO Prod.snd [112, 113, 114, 119, 120, 121, 124, 125, 126, 127, 128] [(79, 30), (79, 46)] M (B_X12_life_106 rec106 l1 l2 l3 M) := by
  unfold B_X12_life_106
  have hM : gj_Fr [112, 113, 114, 119, 120, 121, 124, 125, 126, 127, 128] [(79, 30), (79, 46)] M M := gj_Fr.rf
  repeat' first
    | with_reducible assumption
    | with_reducible exact gj_Fr.rf
    | with_reducible exact fo_none
    | with_reducible refine fo_some ?_
    | with_reducible refine fo_ite ?_ ?_
    | with_reducible refine fo_chk ?_
    | with_reducible refine fo_let ?_ (fun _ _ => ?_)
    | with_reducible refine fo_letI (fun _ => ?_)
    | with_reducible refine fo_let2 ?_ (fun _ _ _ => ?_)
    | with_reducible refine fo_bndM (fun _ _ => ?_) (fun _ _ => ?_)
    | with_reducible refine fo_bnd (fun _ => ?_)
    | with_reducible refine fo_bnd2 (fun _ _ _ => ?_) (fun _ _ _ => ?_)
    | (with_reducible refine gj_Fr.up ?_ ?_; rotate_left; · first | decide +kernel | rfl | simp)
    | (with_reducible refine gj_Fr.put ?_ ?_; rotate_left; · first | decide +kernel | rfl | simp)
    | (with_reducible refine gj_Fr.fill ?_ ?_; rotate_left; · first | decide +kernel | rfl | simp)
    | (with_reducible refine gj_Fr.copy ?_ ?_; rotate_left; · first | decide +kernel | rfl | simp)
    | with_reducible exact fo_tr (by with_reducible assumption) (fr_J_X12_life_125 _ _ _)
    | with_reducible exact fo_tr (by with_reducible assumption) (hrec106 _ _ _ _)
    | (with_reducible refine gj_Fr.trans ?_ (gj_Fr.wide (gj_FOu (fr_X12_findsParents) (by with_reducible assumption)) ?_); rotate_left; · first | decide +kernel | simp [gj_fsub])
    | (with_reducible refine gj_Fr.trans ?_ (gj_Fr.wide (gj_FOu (fr_X12_goes _) (by with_reducible assumption)) ?_); rotate_left; · first | decide +kernel | simp [gj_fsub])

theorem frL_X12_life_106 : ∀ (m : Nat) (l1 l2 l3 : Int) (M : gj_M), gj_FO Prod.snd [112, 113, 114, 119, 120, 121, 124, 125, 126, 127, 128] [(79, 30), (79, 46)] M (gj_it (fun _ _ _ _ => none) (B_X12_life_106) m l1 l2 l3 M)
  | 0, l1, l2, l3, M => fun r e => by cases (show (none : Option (Int × gj_M)) = some r from e)
  | m + 1, l1, l2, l3, M => fr_B_X12_life_106 (fun l1 l2 l3 M => frL_X12_life_106 m l1 l2 l3 M) l1 l2 l3 M
set_option maxHeartbeats 600000 in
theorem fr_J_X12_life_104 (l1 l2 : Int) (M : gj_M) : gj_FO Prod.snd [112, 113, 114, 119, 120, 121, 124, 125, 126, 127, 128] [(79, 30), (79, 46)] M (J_X12_life_104 l1 l2 M) := by
  unfold J_X12_life_104
  have hM : gj_Fr [112, 113, 114, 119, 120, 121, 124, 125, 126, 127, 128] [(79, 30), (79, 46)] M M := gj_Fr.rf
  repeat' first
    | with_reducible assumption
    | with_reducible exact gj_Fr.rf
    | with_reducible exact fo_none
    | with_reducible refine fo_some ?_
    | with_reducible refine fo_ite ?_ ?_
    | with_reducible refine fo_chk ?_
    | with_reducible refine fo_let ?_ (fun _ _ => ?_)
    | with_reducible refine fo_letI (fun _ => ?_)
    | with_reducible refine fo_let2 ?_ (fun _ _ _ => ?_)
    | with_reducible refine fo_bndM (fun _ _ => ?_) (fun _ _ => ?_)
    | with_reducible refine fo_bnd (fun _ => ?_)
    | with_reducible refine fo_bnd2 (fun _ _ _ => ?_) (fun _ _ _ => ?_)
    | (with_reducible refine gj_Fr.up ?_ ?_; rotate_left; · first | decide +kernel | rfl | simp)
    | (with_reducible refine gj_Fr.put ?_ ?_; rotate_left; · first | decide +kernel | rfl | simp)
    | (with_reducible refine gj_Fr.fill ?_ ?_; rotate_left; · first | decide +kernel | rfl | simp)
    | (with_reducible refine gj_Fr.copy ?_ ?_; rotate_left; · first | decide +kernel | rfl | simp)
    | with_reducible exact fo_tr (by with_reducible assumption) (frL_X12_life_106 _ _ _ _ _)
    | (with_reducible refine gj_Fr.trans ?_ (gj_Fr.wide (gj_FOu (fr_X12_findsParents) (by with_reducible assumption)) ?_); rotate_left; · first | decide +kernel | simp [gj_fsub])
    | (with_reducible refine gj_Fr.trans ?_ (gj_Fr.wide (gj_FOu (fr_X12_goes _) (by with_reducible assumption)) ?_); rotate_left; · first | decide +kernel | simp [gj_fsub])

set_option maxHeartbeats 600000 in
theorem fr_B_X12_life_35 {rec35 : Int → Int → Int → gj_M → Option (Int × gj_M)} (hrec35 : ∀ (l1 l2 l3 : Int) (M : gj_M), gj_FO Prod.snd [112, 113, 114, 119, 120, 121, 124, 125, 126, 127, 128] [(79, 30), (79, 46)] M (rec35 l1 l2 l3 M)) (l1 l2 l3 : Int) (M : gj_M) : gj_FO Prod.snd [112, 113, 114, 119, 120, 121, 124, 125, 126, 127, 128] [(79, 30), (79, 46)] M (B_X12_life_35 rec35 l1 l2 l3 M) := by
  unfold B_X12_life_35
  have hM : gj_Fr [112, 113, 114, 119, 120, 121, 124, 125, 126, 127, 128] [(79, 30), (79, 46)] M M := gj_Fr.rf
  repeat' first
    | with_reducible assumption
    | with_reducible exact gj_Fr.rf
    | with_reducible exact fo_none
    | with_reducible refine fo_some ?_
    | with_reducible refine fo_ite ?_ ?_
    | with_reducible refine fo_chk ?_
    | with_reducible refine fo_let ?_ (fun _ _ => ?_)
    | with_reducible refine fo_letI (fun _ => ?_)
    | with_reducible refine fo_let2 ?_ (fun _ _ _ => ?_)
    | with_reducible refine fo_bndM (fun _ _ => ?_) (fun _ _ => ?_)
    | with_reducible refine fo_bnd (fun _ => ?_)
    | with_reducible refine fo_bnd2 (fun _ _ _ => ?_) (fun _ _ _ => ?_)
    | (with_reducible refine gj_Fr.up ?_ ?_; rotate_left; · first | decide +kernel | rfl | simp)
    | (with_reducible refine gj_Fr.put ?_ ?_; rotate_left; · first | decide +kernel | rfl | simp)
    | (with_reducible refine gj_Fr.fill ?_ ?_; rotate_left; · first | decide +kernel | rfl | simp)
    | (with_reducible refine gj_Fr.copy ?_ ?_; rotate_left; · first | decide +kernel | rfl | simp)
    | with_reducible exact fo_tr (by with_reducible assumption) (fr_J_X12_life_104 _ _ _)
    | with_reducible exact fo_tr (by with_reducible assumption) (hrec35 _ _ _ _)
    | (with_reducible refine gj_Fr.trans ?_ (gj_Fr.wide (gj_FOu (fr_X12_findsParents) (by with_reducible assumption)) ?_); rotate_left; · first | decide +kernel | simp [gj_fsub])
    | (with_reducible refine gj_Fr.trans ?_ (gj_Fr.wide (gj_FOu (fr_X12_goes _) (by with_reducible assumption)) ?_); rotate_left; · first | decide +kernel | simp [gj_fsub])

theorem frL_X12_life_35 : ∀ (m : Nat) (l1 l2 l3 : Int) (M : gj_M), gj_FO Prod.snd [112, 113, 114, 119, 120, 121, 124, 125, 126, 127, 128] [(79, 30), (79, 46)] M (gj_it (fun _ _ _ _ => none) (B_X12_life_35) m l1 l2 l3 M)
  | 0, l1, l2, l3, M => fun r e => by cases (show (none : Option (Int × gj_M)) = some r from e)
  | m + 1, l1, l2, l3, M => fr_B_X12_life_35 (fun l1 l2 l3 M => frL_X12_life_35 m l1 l2 l3 M) l1 l2 l3 M
set_option maxHeartbeats 600000 in
theorem fr_X12_life (a1 : Int) (a2 : Int) {M : gj_M} : gj_FO Prod.snd [112, 113, 114, 119, 120, 121, 124, 125, 126, 127, 128] [(79, 30), (79, 46)] M (F_X12_life a1 a2 M) := by
  unfold F_X12_life
  have hM : gj_Fr [112, 113, 114, 119, 120, 121, 124, 125, 126, 127, 128] [(79, 30), (79, 46)] M M := gj_Fr.rf
  repeat' first
    | with_reducible assumption
    | with_reducible exact gj_Fr.rf
    | with_reducible exact fo_none
    | with_reducible refine fo_some ?_
    | with_reducible refine fo_ite ?_ ?_
    | with_reducible refine fo_chk ?_
    | with_reducible refine fo_let ?_ (fun _ _ => ?_)
    | with_reducible refine fo_letI (fun _ => ?_)
    | with_reducible refine fo_let2 ?_ (fun _ _ _ => ?_)
    | with_reducible refine fo_bndM (fun _ _ => ?_) (fun _ _ => ?_)
    | with_reducible refine fo_bnd (fun _ => ?_)
    | with_reducible refine fo_bnd2 (fun _ _ _ => ?_) (fun _ _ _ => ?_)
    | (with_reducible refine gj_Fr.up ?_ ?_; rotate_left; · first | decide +kernel | rfl | simp)
    | (with_reducible refine gj_Fr.put ?_ ?_; rotate_left; · first | decide +kernel | rfl | simp)
    | (with_reducible refine gj_Fr.fill ?_ ?_; rotate_left; · first | decide +kernel | rfl | simp)
    | (with_reducible refine gj_Fr.copy ?_ ?_; rotate_left; · first | decide +kernel | rfl | simp)
    | with_reducible exact fo_tr (by with_reducible assumption) (frL_X12_life_35 _ _ _ _ _)
    | (with_reducible refine gj_Fr.trans ?_ (gj_Fr.wide (gj_FOu (fr_X12_findsParents) (by with_reducible assumption)) ?_); rotate_left; · first | decide +kernel | simp [gj_fsub])
    | (with_reducible refine gj_Fr.trans ?_ (gj_Fr.wide (gj_FOu (fr_X12_goes _) (by with_reducible assumption)) ?_); rotate_left; · first | decide +kernel | simp [gj_fsub])

set_option maxHeartbeats 600000 in
theorem fr_J_X12_never_110 {rec48 : Int → Int → gj_M → Option (Int × gj_M)} (hrec48 : ∀ (l2 l3 : Int) (M : gj_M), gj_FO Prod.snd [124, 125] [(79, 46)] M (rec48 l2 l3 M)) (l3 s0 s1 : Int) (M : gj_M) : gj_FO Prod.snd [124, 125] [(79, 46)] M (J_X12_never_110 rec48 l3 s0 s1 M) := by
  unfold J_X12_never_110
  have hM : gj_Fr [124, 125] [(79, 46)] M M := gj_Fr.rf
  repeat' first
    | with_reducible assumption
    | with_reducible exact gj_Fr.rf
    | with_reducible exact fo_none
    | with_reducible refine fo_some ?_
    | with_reducible refine fo_ite ?_ ?_
    | with_reducible refine fo_chk ?_
    | with_reducible refine fo_let ?_ (fun _ _ => ?_)
    | with_reducible refine fo_letI (fun _ => ?_)
    | with_reducible refine fo_let2 ?_ (fun _ _ _ => ?_)
    | with_reducible refine fo_bndM (fun _ _ => ?_) (fun _ _ => ?_)
    | with_reducible refine fo_bnd (fun _ => ?_)
    | with_reducible refine fo_bnd2 (fun _ _ _ => ?_) (fun _ _ _ => ?_)
    | (with_reducible refine gj_Fr.up ?_ ?_; rotate_left; · first | decide +kernel | rfl | simp)
    | (with_reducible refine gj_Fr.put ?_ ?_; rotate_left; · first | decide +kernel | rfl | simp)
    | (with_reducible refine gj_Fr.fill ?_ ?_; rotate_left; · first | decide +kernel | rfl | simp)
    | (with_reducible refine gj_Fr.copy ?_ ?_; rotate_left; · first | decide +kernel | rfl | simp)
    | with_reducible exact fo_tr (by with_reducible assumption) (hrec48 _ _ _)
    | (with_reducible refine gj_Fr.trans ?_ (gj_Fr.wide (gj_FOu (fr_X12_findsParents) (by with_reducible assumption)) ?_); rotate_left; · first | decide +kernel | simp [gj_fsub])

set_option maxHeartbeats 600000 in
theorem fr_B_X12_never_48 {rec48 : Int → Int → gj_M → Option (Int × gj_M)} (hrec48 : ∀ (l2 l3 : Int) (M : gj_M), gj_FO Prod.snd [124, 125] [(79, 46)] M (rec48 l2 l3 M)) (l2 l3 : Int) (M : gj_M) : gj_FO Prod.snd [124, 125] [(79, 46)] M (B_X12_never_48 rec48 l2 l3 M) := by
  unfold B_X12_never_48
  have hM : gj_Fr [124, 125] [(79, 46)] M M := gj_Fr.rf
  repeat' first
    | with_reducible assumption
    | with_reducible exact gj_Fr.rf
    | with_reducible exact fo_none
    | with_reducible refine fo_some ?_
    | with_reducible refine fo_ite ?_ ?_
    | with_reducible refine fo_chk ?_
    | with_reducible refine fo_let ?_ (fun _ _ => ?_)
    | with_reducible refine fo_letI (fun _ => ?_)
    | with_reducible refine fo_let2 ?_ (fun _ _ _ => ?_)
    | with_reducible refine fo_bndM (fun _ _ => ?_) (fun _ _ => ?_)
    | with_reducible refine fo_bnd (fun _ => ?_)
    | with_reducible refine fo_bnd2 (fun _ _ _ => ?_) (fun _ _ _ => ?_)
    | (with_reducible refine gj_Fr.up ?_ ?_; rotate_left; · first | decide +kernel | rfl | simp)
    | (with_reducible refine gj_Fr.put ?_ ?_; rotate_left; · first | decide +kernel | rfl | simp)
    | (with_reducible refine gj_Fr.fill ?_ ?_; rotate_left; · first | decide +kernel | rfl | simp)
    | (with_reducible refine gj_Fr.copy ?_ ?_; rotate_left; · first | decide +kernel | rfl | simp)
    | with_reducible exact fo_tr (by with_reducible assumption) (fr_J_X12_never_110 hrec48 _ _ _ _)
    | with_reducible exact fo_tr (by with_reducible assumption) (hrec48 _ _ _)
    | (with_reducible refine gj_Fr.trans ?_ (gj_Fr.wide (gj_FOu (fr_X12_findsParents) (by with_reducible assumption)) ?_); rotate_left; · first | decide +kernel | simp [gj_fsub])

theorem frL_X12_never_48 : ∀ (m : Nat) (l2 l3 : Int) (M : gj_M), gj_FO Prod.snd [124, 125] [(79, 46)] M (gj_it (fun _ _ _ => none) (B_X12_never_48) m l2 l3 M)
  | 0, l2, l3, M => fun r e => by cases (show (none : Option (Int × gj_M)) = some r from e)
  | m + 1, l2, l3, M => fr_B_X12_never_48 (fun l2 l3 M => frL_X12_never_48 m l2 l3 M) l2 l3 M
set_option maxHeartbeats 600000 in
theorem fr_X12_never (a1 : Int) {M : gj_M} : gj_FO Prod.snd [124, 125] [(79, 46)] M (F_X12_never a1 M) := by
  unfold F_X12_never
  have hM : gj_Fr [124, 125] [(79, 46)] M M := gj_Fr.rf
  repeat' first
    | with_reducible assumption
    | with_reducible exact gj_Fr.rf
    | with_reducible exact fo_none
    | with_reducible refine fo_some ?_
    | with_reducible refine fo_ite ?_ ?_
    | with_reducible refine fo_chk ?_
    | with_reducible refine fo_let ?_ (fun _ _ => ?_)
    | with_reducible refine fo_letI (fun _ => ?_)
    | with_reducible refine fo_let2 ?_ (fun _ _ _ => ?_)
    | with_reducible refine fo_bndM (fun _ _ => ?_) (fun _ _ => ?_)
    | with_reducible refine fo_bnd (fun _ => ?_)
    | with_reducible refine fo_bnd2 (fun _ _ _ => ?_) (fun _ _ _ => ?_)
    | (with_reducible refine gj_Fr.up ?_ ?_; rotate_left; · first | decide +kernel | rfl | simp)
    | (with_reducible refine gj_Fr.put ?_ ?_; rotate_left; · first | decide +kernel | rfl | simp)
    | (with_reducible refine gj_Fr.fill ?_ ?_; rotate_left; · first | decide +kernel | rfl | simp)
    | (with_reducible refine gj_Fr.copy ?_ ?_; rotate_left; · first | decide +kernel | rfl | simp)
    | with_reducible exact fo_tr (by with_reducible assumption) (frL_X12_never_48 _ _ _ _)
    | (with_reducible refine gj_Fr.trans ?_ (gj_Fr.wide (gj_FOu (fr_X12_findsParents) (by with_reducible assumption)) ?_); rotate_left; · first | decide +kernel | simp [gj_fsub])

set_option maxHeartbeats 600000 in
theorem fr_J_X12_move_37 {z1 n1 : Int} {z2 n2 : Int} {rec3 : Int → Int → gj_M → Option (gj_M)} (hrec3 : ∀ (l3 l4 : Int) (M : gj_M), gj_FO (fun m => m) [z1, z2] [(79, 54)] M (rec3 l3 l4 M)) (l3 l4 : Int) (M : gj_M) : gj_FO (fun m => m) [z1, z2] [(79, 54)] M (J_X12_move_37 z1 n1 z2 n2 rec3 l3 l4 M) := by
  unfold J_X12_move_37
  have hM : gj_Fr [z1, z2] [(79, 54)] M M := gj_Fr.rf
  repeat' first
    | with_reducible assumption
    | with_reducible exact gj_Fr.rf
    | with_reducible exact fo_none
    | with_reducible refine fo_some ?_
    | with_reducible refine fo_ite ?_ ?_
    | with_reducible refine fo_chk ?_
    | with_reducible refine fo_let ?_ (fun _ _ => ?_)
    | with_reducible refine fo_letI (fun _ => ?_)
    | with_reducible refine fo_let2 ?_ (fun _ _ _ => ?_)
    | with_reducible refine fo_bndM (fun _ _ => ?_) (fun _ _ => ?_)
    | with_reducible refine fo_bnd (fun _ => ?_)
    | with_reducible refine fo_bnd2 (fun _ _ _ => ?_) (fun _ _ _ => ?_)
    | (with_reducible refine gj_Fr.up ?_ ?_; rotate_left; · first | decide +kernel | rfl | simp)
    | (with_reducible refine gj_Fr.put ?_ ?_; rotate_left; · first | decide +kernel | rfl | simp)
    | (with_reducible refine gj_Fr.fill ?_ ?_; rotate_left; · first | decide +kernel | rfl | simp)
    | (with_reducible refine gj_Fr.copy ?_ ?_; rotate_left; · first | decide +kernel | rfl | simp)
    | with_reducible exact fo_tr (by with_reducible assumption) (hrec3 _ _ _)

set_option maxHeartbeats 600000 in
theorem fr_B_X12_move_3 {z1 n1 : Int} {z2 n2 : Int} {rec3 : Int → Int → gj_M → Option (gj_M)} (hrec3 : ∀ (l3 l4 : Int) (M : gj_M), gj_FO (fun m => m) [z1, z2] [(79, 54)] M (rec3 l3 l4 M)) (l3 l4 : Int) (M : gj_M) : gj_FO (fun m => m) [z1, z2] [(79, 54)] M (B_X12_move_3 z1 n1 z2 n2 rec3 l3 l4 M) := by
  unfold B_X12_move_3
  have hM : gj_Fr [z1, z2] [(79, 54)] M M := gj_Fr.rf
  repeat' first
    | with_reducible assumption
    | with_reducible exact gj_Fr.rf
    | with_reducible exact fo_none
    | with_reducible refine fo_some ?_
    | with_reducible refine fo_ite ?_ ?_
    | with_reducible refine fo_chk ?_
    | with_reducible refine fo_let ?_ (fun _ _ => ?_)
    | with_reducible refine fo_letI (fun _ => ?_)
    | with_reducible refine fo_let2 ?_ (fun _ _ _ => ?_)
    | with_reducible refine fo_bndM (fun _ _ => ?_) (fun _ _ => ?_)
    | with_reducible refine fo_bnd (fun _ => ?_)
    | with_reducible refine fo_bnd2 (fun _ _ _ => ?_) (fun _ _ _ => ?_)
    | (with_reducible refine gj_Fr.up ?_ ?_; rotate_left; · first | decide +kernel | rfl | simp)
    | (with_reducible refine gj_Fr.put ?_ ?_; rotate_left; · first | decide +kernel | rfl | simp)
    | (with_reducible refine gj_Fr.fill ?_ ?_; rotate_left; · first | decide +kernel | rfl | simp)
    | (with_reducible refine gj_Fr.copy ?_ ?_; rotate_left; · first | decide +kernel | rfl | simp)
    | with_reducible exact fo_tr (by with_reducible assumption) (fr_J_X12_move_37 hrec3 _ _ _)
    | with_reducible exact fo_tr (by with_reducible assumption) (hrec3 _ _ _)

theorem frL_X12_move_3 {z1 n1 : Int} {z2 n2 : Int} : ∀ (m : Nat) (l3 l4 : Int) (M : gj_M), gj_FO (fun m => m) [z1, z2] [(79, 54)] M (gj_it (fun _ _ _ => none) (B_X12_move_3 z1 n1 z2 n2) m l3 l4 M)
  | 0, l3, l4, M => fun r e => by cases (show (none : Option (gj_M)) = some r from e)
  | m + 1, l3, l4, M => fr_B_X12_move_3 (fun l3 l4 M => frL_X12_move_3 m l3 l4 M) l3 l4 M
set_option maxHeartbeats 600000 in
theorem fr_X12_move (z1 : Int) (n1 : Int) (z2 : Int) (n2 : Int) (a3 : Int) {M : gj_M} : gj_FO (fun m => m) [z1, z2] [(79, 54)] M (F_X12_move z1 n1 z2 n2 a3 M) := by
  unfold F_X12_move
  have hM : gj_Fr [z1, z2] [(79, 54)] M M := gj_Fr.rf
  repeat' first
    | with_reducible assumption
    | with_reducible exact gj_Fr.rf
    | with_reducible exact fo_none
    | with_reducible refine fo_some ?_
    | with_reducible refine fo_ite ?_ ?_
    | with_reducible refine fo_chk ?_
    | with_reducible refine fo_let ?_ (fun _ _ => ?_)
    | with_reducible refine fo_letI (fun _ => ?_)
    | with_reducible refine fo_let2 ?_ (fun _ _ _ => ?_)
    | with_reducible refine fo_bndM (fun _ _ => ?_) (fun _ _ => ?_)
    | with_reducible refine fo_bnd (fun _ => ?_)
    | with_reducible refine fo_bnd2 (fun _ _ _ => ?_) (fun _ _ _ => ?_)
    | (with_reducible refine gj_Fr.up ?_ ?_; rotate_left; · first | decide +kernel | rfl | simp)
    | (with_reducible refine gj_Fr.put ?_ ?_; rotate_left; · first | decide +kernel | rfl | simp)
    | (with_reducible refine gj_Fr.fill ?_ ?_; rotate_left; · first | decide +kernel | rfl | simp)
    | (with_reducible refine gj_Fr.copy ?_ ?_; rotate_left; · first | decide +kernel | rfl | simp)
    | with_reducible exact fo_tr (by with_reducible assumption) (frL_X12_move_3 _ _ _ _)

set_option maxHeartbeats 600000 in
theorem fr_X12_moves (z1 : Int) (n1 : Int) (a2 : Int) {M : gj_M} : gj_FO (fun m => m) [108, 109, 110, 111, 112, 113, 114, 122, z1] [(79, 54)] M (F_X12_moves z1 n1 a2 M) := by
  unfold F_X12_moves
  have hM : gj_Fr [108, 109, 110, 111, 112, 113, 114, 122, z1] [(79, 54)] M M := gj_Fr.rf
  repeat' first
    | with_reducible assumption
    | with_reducible exact gj_Fr.rf
    | with_reducible exact fo_none
    | with_reducible refine fo_some ?_
    | with_reducible refine fo_ite ?_ ?_
    | with_reducible refine fo_chk ?_
    | with_reducible refine fo_let ?_ (fun _ _ => ?_)
    | with_reducible refine fo_letI (fun _ => ?_)
    | with_reducible refine fo_let2 ?_ (fun _ _ _ => ?_)
    | with_reducible refine fo_bndM (fun _ _ => ?_) (fun _ _ => ?_)
    | with_reducible refine fo_bnd (fun _ => ?_)
    | with_reducible refine fo_bnd2 (fun _ _ _ => ?_) (fun _ _ _ => ?_)
    | (with_reducible refine gj_Fr.up ?_ ?_; rotate_left; · first | decide +kernel | rfl | simp)
    | (with_reducible refine gj_Fr.put ?_ ?_; rotate_left; · first | decide +kernel | rfl | simp)
    | (with_reducible refine gj_Fr.fill ?_ ?_; rotate_left; · first | decide +kernel | rfl | simp)
    | (with_reducible refine gj_Fr.copy ?_ ?_; rotate_left; · first | decide +kernel | rfl | simp)
    | (with_reducible refine gj_Fr.trans ?_ (gj_Fr.wide (gj_FOu (fr_X12_move _ _ _ _ _) (by with_reducible assumption)) ?_); rotate_left; · first | decide +kernel | simp [gj_fsub])

set_option maxHeartbeats 600000 in
theorem fr_X12_image (a1 : Int) {M : gj_M} : gj_FO Prod.snd [80, 108, 109, 110, 111, 112, 113, 114, 122, 131, 132, 133, 134, 135] [(79, 54)] M (F_X12_image a1 M) := by
  unfold F_X12_image
  have hM : gj_Fr [80, 108, 109, 110, 111, 112, 113, 114, 122, 131, 132, 133, 134, 135] [(79, 54)] M M := gj_Fr.rf
  repeat' first
    | with_reducible assumption
    | with_reducible exact gj_Fr.rf
    | with_reducible exact fo_none
    | with_reducible refine fo_some ?_
    | with_reducible refine fo_ite ?_ ?_
    | with_reducible refine fo_chk ?_
    | with_reducible refine fo_let ?_ (fun _ _ => ?_)
    | with_reducible refine fo_letI (fun _ => ?_)
    | with_reducible refine fo_let2 ?_ (fun _ _ _ => ?_)
    | with_reducible refine fo_bndM (fun _ _ => ?_) (fun _ _ => ?_)
    | with_reducible refine fo_bnd (fun _ => ?_)
    | with_reducible refine fo_bnd2 (fun _ _ _ => ?_) (fun _ _ _ => ?_)
    | (with_reducible refine gj_Fr.up ?_ ?_; rotate_left; · first | decide +kernel | rfl | simp)
    | (with_reducible refine gj_Fr.put ?_ ?_; rotate_left; · first | decide +kernel | rfl | simp)
    | (with_reducible refine gj_Fr.fill ?_ ?_; rotate_left; · first | decide +kernel | rfl | simp)
    | (with_reducible refine gj_Fr.copy ?_ ?_; rotate_left; · first | decide +kernel | rfl | simp)
    | (with_reducible refine gj_Fr.trans ?_ (gj_Fr.wide (gj_FOu (fr_X12_deny _) (by with_reducible assumption)) ?_); rotate_left; · first | decide +kernel | simp [gj_fsub])
    | (with_reducible refine gj_Fr.trans ?_ (gj_Fr.wide (gj_FOu (fr_X12_moves _ _ _) (by with_reducible assumption)) ?_); rotate_left; · first | decide +kernel | simp [gj_fsub])

set_option maxHeartbeats 600000 in
theorem fr_X12_on (a1 : Int) {M : gj_M} : gj_FO Prod.snd [80, 108, 109, 110, 111, 112, 113, 114, 122, 131, 132, 133] [(79, 27), (79, 28), (79, 29), (79, 30), (79, 54)] M (F_X12_on a1 M) := by
  unfold F_X12_on
  have hM : gj_Fr [80, 108, 109, 110, 111, 112, 113, 114, 122, 131, 132, 133] [(79, 27), (79, 28), (79, 29), (79, 30), (79, 54)] M M := gj_Fr.rf
  repeat' first
    | with_reducible assumption
    | with_reducible exact gj_Fr.rf
    | with_reducible exact fo_none
    | with_reducible refine fo_some ?_
    | with_reducible refine fo_ite ?_ ?_
    | with_reducible refine fo_chk ?_
    | with_reducible refine fo_let ?_ (fun _ _ => ?_)
    | with_reducible refine fo_letI (fun _ => ?_)
    | with_reducible refine fo_let2 ?_ (fun _ _ _ => ?_)
    | with_reducible refine fo_bndM (fun _ _ => ?_) (fun _ _ => ?_)
    | with_reducible refine fo_bnd (fun _ => ?_)
    | with_reducible refine fo_bnd2 (fun _ _ _ => ?_) (fun _ _ _ => ?_)
    | (with_reducible refine gj_Fr.up ?_ ?_; rotate_left; · first | decide +kernel | rfl | simp)
    | (with_reducible refine gj_Fr.put ?_ ?_; rotate_left; · first | decide +kernel | rfl | simp)
    | (with_reducible refine gj_Fr.fill ?_ ?_; rotate_left; · first | decide +kernel | rfl | simp)
    | (with_reducible refine gj_Fr.copy ?_ ?_; rotate_left; · first | decide +kernel | rfl | simp)
    | (with_reducible refine gj_Fr.trans ?_ (gj_Fr.wide (gj_FOu (fr_X12_deny _) (by with_reducible assumption)) ?_); rotate_left; · first | decide +kernel | simp [gj_fsub])
    | (with_reducible refine gj_Fr.trans ?_ (gj_Fr.wide (gj_FOu (fr_X12_moves _ _ _) (by with_reducible assumption)) ?_); rotate_left; · first | decide +kernel | simp [gj_fsub])

end GJFR2
