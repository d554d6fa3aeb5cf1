/-! likedIn ([I)I : X0_likedIn_3 -/
theorem iX0_likedIn_0 : ∀ w ∈ u_ws RX0 TX0 9, w ∈ wsX0_likedIn := fun _ h => List.mem_cons_of_mem _ (List.mem_append_right _ h)
theorem mX0_likedIn_25 : Cond.fieldLink RX0 25 (TX0 5).1 (TX0 5).2.1 (TX0 5).2.2.1 ∈ wsX0_likedIn := List.mem_of_getElem? (i := 2) rfl
theorem mX0_likedIn_40 : Cond.fieldLink RX0 40 (TX0 1).1 (TX0 1).2.1 (TX0 1).2.2.1 ∈ wsX0_likedIn := List.mem_of_getElem? (i := 1) rfl
def bX0_likedIn_3_4 (K4 : Int → Int → sq_S → Prop) (Q : Int → sq_S → Prop) (v2 v3 : Int) (st : sq_S) : Prop :=
  (sq_rg v3 ∧ sq_rg (st 2 1)) ∧ ((st 2 1) ≤ v3 → Q v2 st) ∧ (v3 < (st 2 1) → sq_ib (v3 - 1) 48 ∧ (sq_ib (st 3 ((v3 - 1)).toNat) 16 ∧ (sq_ib v3 48 ∧ (∀ y196 : Int, y196 = (v2 + (sq_and (sq_shr (st 6 ((st 3 ((v3 - 1)).toNat)).toNat) (st 3 v3.toNat)) 1)) → (K4 y196 (v3 + 1) st)))))
def bX0_likedIn_3_0 (K4 : Int → Int → sq_S → Prop) (Q : Int → sq_S → Prop) (st : sq_S) : Prop :=
  K4 0 1 st
def wX0_likedIn_3 (st : sq_S) (Q : Int → sq_S → Prop) : Prop :=
  ∀ (K4 : Int → Int → sq_S → Prop), (∀ (v2 v3 : Int) (st : sq_S), bX0_likedIn_3_4 K4 Q v2 v3 st → K4 v2 v3 st) → bX0_likedIn_3_0 K4 Q  st
def rX0_likedIn_3 : Room := { frames := 0, cells := 0, slots := 0, locals := 0 }
def qX0_likedIn_3_4 (J : sq_K) (g : sq_G) : Int → Int → sq_S → Prop := fun v2 v3 st => J 4 [(0, .ref (g.2.2 2)), (1, .ref (g.2.2 3)), (2, .int (sq_z v2)), (3, .int (sq_z v3))] [] st
set_option maxRecDepth 100000 in
set_option maxHeartbeats 4000000 in
theorem tX0_likedIn_3_4 {l : Launch} {g : sq_G} {J : sq_K} {Q : Int → sq_S → Prop} (S : sq_J l rX0_likedIn_3 cX0_likedIn 4 RX0 wsX0_likedIn g sq_X J) (hret : ∀ (pc : Nat) (lv : List (Nat × Value)) (r : Int) (st' : sq_S), decode cX0_likedIn pc = .ok (.ireturn, 1) → Q r st' → J pc lv [.int (sq_z r)] st') (v2 v3 : Int) (st : sq_S) (H : bX0_likedIn_3_4 (qX0_likedIn_3_4 J g) Q v2 v3 st) : J 4 [(0, .ref (g.2.2 2)), (1, .ref (g.2.2 3)), (2, .int (sq_z v2)), (3, .int (sq_z v3))] [] st := by
  unfold bX0_likedIn_3_4 at H
  refine sj_iload_n (pl := 3) S dX0_likedIn_4 rfl rfl ?_
  refine sj_aload_n (pl := 0) S dX0_likedIn_5 rfl rfl ?_
  refine sj_geti S fX_2_1 iX0_likedIn_0 rfl (by decide) mX0_likedIn_40 dX0_likedIn_6 ?_
  refine sj_icmp_ge (tgt := 37) S H.1 dX0_likedIn_9 (by decide) (fun c9 => ?_) (fun c9 => ?_)
  · have H := H.2.1 c9
    refine sj_iload_n (pl := 2) S dX0_likedIn_37 rfl rfl ?_
    exact hret _ _ _ _ dX0_likedIn_38 H
  · have H := H.2.2 c9
    refine sj_iload_n (pl := 2) S dX0_likedIn_12 rfl rfl ?_
    refine sj_aload_n (pl := 0) S dX0_likedIn_13 rfl rfl ?_
    refine sj_getr S fX_2_5 iX0_likedIn_0 rfl (by decide) mX0_likedIn_25 dX0_likedIn_14 ?_
    refine sj_aload_n (pl := 1) S dX0_likedIn_17 rfl rfl ?_
    refine sj_iload_n (pl := 3) S dX0_likedIn_18 rfl rfl ?_
    refine sj_iconst S dX0_likedIn_19 ?_
    refine sj_isub S dX0_likedIn_20 ?_
    refine sj_iald S aX_3 H.1 dX0_likedIn_21 ?_
    have H := H.2
    refine sj_iald S aX_6 H.1 dX0_likedIn_22 ?_
    have H := H.2
    refine sj_aload_n (pl := 1) S dX0_likedIn_23 rfl rfl ?_
    refine sj_iload_n (pl := 3) S dX0_likedIn_24 rfl rfl ?_
    refine sj_iald S aX_3 H.1 dX0_likedIn_25 ?_
    have H := H.2
    refine sj_ishr S dX0_likedIn_26 ?_
    refine sj_iconst S dX0_likedIn_27 ?_
    refine sj_iand S dX0_likedIn_28 ?_
    refine sj_iadd S dX0_likedIn_29 ?_
    refine sj_istore_n (lv' := [(0, .ref (g.2.2 2)), (1, .ref (g.2.2 3)), (3, .int (sq_z v3))]) S dX0_likedIn_30 rfl (by decide) (fun _ => rfl) (fun y196 ey196 => ?_)
    have H := H y196 ey196
    refine sj_iinc (pl := 3) (lv' := [(2, .int (sq_z y196)), (0, .ref (g.2.2 2)), (1, .ref (g.2.2 3))]) S dX0_likedIn_31 rfl (by decide) (fun _ => rfl) ?_
    refine sj_goto (tgt := 4) S dX0_likedIn_34 (by decide) ?_
    exact sj_lv S [2, 3, 1, 0] rfl H
set_option maxRecDepth 100000 in
set_option maxHeartbeats 4000000 in
theorem tX0_likedIn_3_0 {l : Launch} {g : sq_G} {J : sq_K} {Q : Int → sq_S → Prop} (S : sq_J l rX0_likedIn_3 cX0_likedIn 4 RX0 wsX0_likedIn g sq_X J) (hret : ∀ (pc : Nat) (lv : List (Nat × Value)) (r : Int) (st' : sq_S), decode cX0_likedIn pc = .ok (.ireturn, 1) → Q r st' → J pc lv [.int (sq_z r)] st') (st : sq_S) (H : bX0_likedIn_3_0 (qX0_likedIn_3_4 J g) Q st) : J 0 [(0, .ref (g.2.2 2)), (1, .ref (g.2.2 3))] [] st := by
  unfold bX0_likedIn_3_0 at H
  refine sj_iconst S dX0_likedIn_0 ?_
  refine sj_istore_na (lv' := [(0, .ref (g.2.2 2)), (1, .ref (g.2.2 3))]) S dX0_likedIn_1 rfl (by decide) (fun _ => rfl) ?_
  refine sj_iconst S dX0_likedIn_2 ?_
  refine sj_istore_na (lv' := [(2, .int (sq_z 0)), (0, .ref (g.2.2 2)), (1, .ref (g.2.2 3))]) S dX0_likedIn_3 rfl (by decide) (fun _ => rfl) ?_
  exact sj_lv S [2, 3, 1, 0] rfl H
set_option maxRecDepth 100000 in
set_option maxHeartbeats 4000000 in
theorem kX0_likedIn_3 (l : Launch) (g : sq_G) (st : sq_S) (Q : Int → sq_S → Prop) (H : wX0_likedIn_3  st Q) : sq_Ci l yX0_likedIn wsX0_likedIn rX0_likedIn_3 g sq_X [.ref (g.2.2 2), .ref (g.2.2 3)] st Q := by
  refine sq_in_i (cc := cX0_likedIn) (nL := 4) (own := RX0) (by decide) rfl rfl (Nat.le_of_ble_eq_true rfl) ?_
  intro J S hret
  exact tX0_likedIn_3_0 S hret  st (H (qX0_likedIn_3_4 J g) (tX0_likedIn_3_4 S hret))
/-! good ()I : X3_good -/
theorem iX3_good_0 : ∀ w ∈ u_ws RX0 TX0 9, w ∈ wsX3_good := fun _ h => List.mem_cons_of_mem _ (List.mem_append_right _ h)
theorem iX3_good_3 : ∀ w ∈ u_ws RX3 TX3 8, w ∈ wsX3_good := fun _ h => List.mem_cons_of_mem _ (List.mem_append_left _ (List.mem_append_right _ h))
theorem mX3_good_16 : Cond.fieldLink RX3 16 (TX3 2).1 (TX3 2).2.1 (TX3 2).2.2.1 ∈ wsX3_good := List.mem_of_getElem? (i := 1) rfl
theorem mX3_good_49 : Cond.fieldLink RX3 49 (TX0 0).1 (TX0 0).2.1 (TX0 0).2.2.1 ∈ wsX3_good := List.mem_of_getElem? (i := 2) rfl
def wX3_good (st : sq_S) (Q : Int → sq_S → Prop) : Prop :=
  wX0_likedIn_3 st (fun r197 st198 => Q r197 st198)
def rX3_good : Room := { frames := 1, cells := 0, slots := 0, locals := 23 }
set_option maxRecDepth 100000 in
set_option maxHeartbeats 4000000 in
theorem tX3_good_0 {l : Launch} {g : sq_G} {J : sq_K} {Q : Int → sq_S → Prop} (S : sq_J l rX3_good cX3_good 1 RX3 wsX3_good g sq_X J) (hret : ∀ (pc : Nat) (lv : List (Nat × Value)) (r : Int) (st' : sq_S), decode cX3_good pc = .ok (.ireturn, 1) → Q r st' → J pc lv [.int (sq_z r)] st') (st : sq_S) (H : wX3_good st Q) : J 0 [(0, .ref (g.2.2 0))] [] st := by
  unfold wX3_good at H
  refine sj_aload_n (pl := 0) S dX3_good_0 rfl rfl ?_
  refine sj_getr S fX_0_2 iX3_good_3 rfl (by decide) mX3_good_16 dX3_good_1 ?_
  refine sj_aload_n (pl := 0) S dX3_good_4 rfl rfl ?_
  refine sj_getr S fX_0_2 iX3_good_3 rfl (by decide) mX3_good_16 dX3_good_5 ?_
  refine sj_getr S fX_2_0 iX3_good_0 rfl (by decide) mX3_good_49 dX3_good_8 ?_
  refine sj_vi (rest := []) (q0 := 2) (ci := 0) S (kX0_likedIn_3 l g st _ H) (fun s args hts => cwV 1 hts gX3_good_X0_likedIn rfl rfl rfl (by decide +kernel) ⟨Nat.le_of_ble_eq_true rfl, Nat.le_of_ble_eq_true rfl⟩) rfl rfl rfl rfl (Nat.le_of_ble_eq_true rfl) dX3_good_11 (fun r197 st198 H => ?_)
  exact hret _ _ _ _ dX3_good_14 H
set_option maxRecDepth 100000 in
set_option maxHeartbeats 4000000 in
theorem kX3_good (l : Launch) (g : sq_G) (st : sq_S) (Q : Int → sq_S → Prop) (H : wX3_good  st Q) : sq_Ci l yX3_good wsX3_good rX3_good g sq_X [.ref (g.2.2 0)] st Q := by
  refine sq_in_i (cc := cX3_good) (nL := 1) (own := RX3) (by decide) rfl rfl (Nat.le_of_ble_eq_true rfl) ?_
  intro J S hret
  exact tX3_good_0 S hret  st H
/-! startOrder (I)V : X2_startOrder -/
theorem iX2_startOrder_2 : ∀ w ∈ u_ws RX2 TX2 5, w ∈ wsX2_startOrder := fun _ h => List.mem_cons_of_mem _ (List.mem_append_right _ h)
theorem mX2_startOrder_22 : Cond.fieldLink RX2 22 (TX2 2).1 (TX2 2).2.1 (TX2 2).2.2.1 ∈ wsX2_startOrder := List.mem_of_getElem? (i := 1) rfl
def bX2_startOrder_2 (K2 : Int → Int → sq_S → Prop) (Q : Int → sq_S → Prop) (v1 v2 : Int) (st : sq_S) : Prop :=
  (sq_rg v2 ∧ sq_rg v1) ∧ (v1 ≤ v2 → Q 0 st) ∧ (v2 < v1 → sq_ib v2 6 ∧ (∀ st203 : sq_S, st203 = sq_set st 29 v2.toNat v2 → (K2 v1 (v2 + 1) st203)))
def bX2_startOrder_0 (K2 : Int → Int → sq_S → Prop) (Q : Int → sq_S → Prop) (v1 : Int) (st : sq_S) : Prop :=
  K2 v1 0 st
def wX2_startOrder (v1 : Int) (st : sq_S) (Q : Int → sq_S → Prop) : Prop :=
  ∀ (K2 : Int → Int → sq_S → Prop), (∀ (v1 v2 : Int) (st : sq_S), bX2_startOrder_2 K2 Q v1 v2 st → K2 v1 v2 st) → bX2_startOrder_0 K2 Q v1 st
def rX2_startOrder : Room := { frames := 0, cells := 0, slots := 0, locals := 0 }
def qX2_startOrder_2 (J : sq_K) (g : sq_G) : Int → Int → sq_S → Prop := fun v1 v2 st => J 2 [(0, .ref (g.2.2 24)), (1, .int (sq_z v1)), (2, .int (sq_z v2))] [] st
set_option maxRecDepth 100000 in
set_option maxHeartbeats 4000000 in
theorem tX2_startOrder_2 {l : Launch} {g : sq_G} {J : sq_K} {Q : Int → sq_S → Prop} (S : sq_J l rX2_startOrder cX2_startOrder 3 RX2 wsX2_startOrder g sq_X J) (hret : ∀ (pc : Nat) (lv : List (Nat × Value)) (st' : sq_S), decode cX2_startOrder pc = .ok (.return_, 1) → Q 0 st' → J pc lv [] st') (v1 v2 : Int) (st : sq_S) (H : bX2_startOrder_2 (qX2_startOrder_2 J g) Q v1 v2 st) : J 2 [(0, .ref (g.2.2 24)), (1, .int (sq_z v1)), (2, .int (sq_z v2))] [] st := by
  unfold bX2_startOrder_2 at H
  refine sj_iload_n (pl := 2) S dX2_startOrder_2 rfl rfl ?_
  refine sj_iload_n (pl := 1) S dX2_startOrder_3 rfl rfl ?_
  refine sj_icmp_ge (tgt := 20) S H.1 dX2_startOrder_4 (by decide) (fun c9 => ?_) (fun c9 => ?_)
  · have H := H.2.1 c9
    exact hret _ _ _ dX2_startOrder_20 H
  · have H := H.2.2 c9
    refine sj_aload_n (pl := 0) S dX2_startOrder_7 rfl rfl ?_
    refine sj_getr S fX_24_2 iX2_startOrder_2 rfl (by decide) mX2_startOrder_22 dX2_startOrder_8 ?_
    refine sj_iload_n (pl := 2) S dX2_startOrder_11 rfl rfl ?_
    refine sj_iload_n (pl := 2) S dX2_startOrder_12 rfl rfl ?_
    refine sj_iast S aX_29 H.1 dX2_startOrder_13 (fun st203 est203 => ?_)
    have H := H.2 st203 est203
    refine sj_iinc (pl := 2) (lv' := [(0, .ref (g.2.2 24)), (1, .int (sq_z v1))]) S dX2_startOrder_14 rfl (by decide) (fun _ => rfl) ?_
    refine sj_goto (tgt := 2) S dX2_startOrder_17 (by decide) ?_
    exact sj_lv S [1, 2, 0] rfl H
set_option maxRecDepth 100000 in
set_option maxHeartbeats 4000000 in
theorem tX2_startOrder_0 {l : Launch} {g : sq_G} {J : sq_K} {Q : Int → sq_S → Prop} (S : sq_J l rX2_startOrder cX2_startOrder 3 RX2 wsX2_startOrder g sq_X J) (hret : ∀ (pc : Nat) (lv : List (Nat × Value)) (st' : sq_S), decode cX2_startOrder pc = .ok (.return_, 1) → Q 0 st' → J pc lv [] st') (v1 : Int) (st : sq_S) (H : bX2_startOrder_0 (qX2_startOrder_2 J g) Q v1 st) : J 0 [(0, .ref (g.2.2 24)), (1, .int (sq_z v1))] [] st := by
  unfold bX2_startOrder_0 at H
  refine sj_iconst S dX2_startOrder_0 ?_
  refine sj_istore_na (lv' := [(0, .ref (g.2.2 24)), (1, .int (sq_z v1))]) S dX2_startOrder_1 rfl (by decide) (fun _ => rfl) ?_
  exact sj_lv S [1, 2, 0] rfl H
set_option maxRecDepth 100000 in
set_option maxHeartbeats 4000000 in
theorem kX2_startOrder (l : Launch) (g : sq_G) (v1 : Int) (st : sq_S) (Q : Int → sq_S → Prop) (H : wX2_startOrder v1 st Q) : sq_Cv l yX2_startOrder wsX2_startOrder rX2_startOrder g sq_X [.ref (g.2.2 24), .int (sq_z v1)] st Q := by
  refine sq_in_v (cc := cX2_startOrder) (nL := 3) (own := RX2) (by decide) rfl rfl (Nat.le_of_ble_eq_true rfl) ?_
  intro J S hret
  exact tX2_startOrder_0 S hret v1 st (H (qX2_startOrder_2 J g) (tX2_startOrder_2 S hret))
/-! likedIn ([I)I : X0_likedIn_25 -/
def bX0_likedIn_25_4 (K4 : Int → Int → sq_S → Prop) (Q : Int → sq_S → Prop) (v2 v3 : Int) (st : sq_S) : Prop :=
  (sq_rg v3 ∧ sq_rg (st 2 1)) ∧ ((st 2 1) ≤ v3 → Q v2 st) ∧ (v3 < (st 2 1) → sq_ib (v3 - 1) 48 ∧ (sq_ib (st 25 ((v3 - 1)).toNat) 16 ∧ (sq_ib v3 48 ∧ (∀ y207 : Int, y207 = (v2 + (sq_and (sq_shr (st 6 ((st 25 ((v3 - 1)).toNat)).toNat) (st 25 v3.toNat)) 1)) → (K4 y207 (v3 + 1) st)))))
def bX0_likedIn_25_0 (K4 : Int → Int → sq_S → Prop) (Q : Int → sq_S → Prop) (st : sq_S) : Prop :=
  K4 0 1 st
def wX0_likedIn_25 (st : sq_S) (Q : Int → sq_S → Prop) : Prop :=
  ∀ (K4 : Int → Int → sq_S → Prop), (∀ (v2 v3 : Int) (st : sq_S), bX0_likedIn_25_4 K4 Q v2 v3 st → K4 v2 v3 st) → bX0_likedIn_25_0 K4 Q  st
def rX0_likedIn_25 : Room := { frames := 0, cells := 0, slots := 0, locals := 0 }
def qX0_likedIn_25_4 (J : sq_K) (g : sq_G) : Int → Int → sq_S → Prop := fun v2 v3 st => J 4 [(0, .ref (g.2.2 2)), (1, .ref (g.2.2 25)), (2, .int (sq_z v2)), (3, .int (sq_z v3))] [] st
set_option maxRecDepth 100000 in
set_option maxHeartbeats 4000000 in
theorem tX0_likedIn_25_4 {l : Launch} {g : sq_G} {J : sq_K} {Q : Int → sq_S → Prop} (S : sq_J l rX0_likedIn_25 cX0_likedIn 4 RX0 wsX0_likedIn g sq_X J) (hret : ∀ (pc : Nat) (lv : List (Nat × Value)) (r : Int) (st' : sq_S), decode cX0_likedIn pc = .ok (.ireturn, 1) → Q r st' → J pc lv [.int (sq_z r)] st') (v2 v3 : Int) (st : sq_S) (H : bX0_likedIn_25_4 (qX0_likedIn_25_4 J g) Q v2 v3 st) : J 4 [(0, .ref (g.2.2 2)), (1, .ref (g.2.2 25)), (2, .int (sq_z v2)), (3, .int (sq_z v3))] [] st := by
  unfold bX0_likedIn_25_4 at H
  refine sj_iload_n (pl := 3) S dX0_likedIn_4 rfl rfl ?_
  refine sj_aload_n (pl := 0) S dX0_likedIn_5 rfl rfl ?_
  refine sj_geti S fX_2_1 iX0_likedIn_0 rfl (by decide) mX0_likedIn_40 dX0_likedIn_6 ?_
  refine sj_icmp_ge (tgt := 37) S H.1 dX0_likedIn_9 (by decide) (fun c9 => ?_) (fun c9 => ?_)
  · have H := H.2.1 c9
    refine sj_iload_n (pl := 2) S dX0_likedIn_37 rfl rfl ?_
    exact hret _ _ _ _ dX0_likedIn_38 H
  · have H := H.2.2 c9
    refine sj_iload_n (pl := 2) S dX0_likedIn_12 rfl rfl ?_
    refine sj_aload_n (pl := 0) S dX0_likedIn_13 rfl rfl ?_
    refine sj_getr S fX_2_5 iX0_likedIn_0 rfl (by decide) mX0_likedIn_25 dX0_likedIn_14 ?_
    refine sj_aload_n (pl := 1) S dX0_likedIn_17 rfl rfl ?_
    refine sj_iload_n (pl := 3) S dX0_likedIn_18 rfl rfl ?_
    refine sj_iconst S dX0_likedIn_19 ?_
    refine sj_isub S dX0_likedIn_20 ?_
    refine sj_iald S aX_25 H.1 dX0_likedIn_21 ?_
    have H := H.2
    refine sj_iald S aX_6 H.1 dX0_likedIn_22 ?_
    have H := H.2
    refine sj_aload_n (pl := 1) S dX0_likedIn_23 rfl rfl ?_
    refine sj_iload_n (pl := 3) S dX0_likedIn_24 rfl rfl ?_
    refine sj_iald S aX_25 H.1 dX0_likedIn_25 ?_
    have H := H.2
    refine sj_ishr S dX0_likedIn_26 ?_
    refine sj_iconst S dX0_likedIn_27 ?_
    refine sj_iand S dX0_likedIn_28 ?_
    refine sj_iadd S dX0_likedIn_29 ?_
    refine sj_istore_n (lv' := [(0, .ref (g.2.2 2)), (1, .ref (g.2.2 25)), (3, .int (sq_z v3))]) S dX0_likedIn_30 rfl (by decide) (fun _ => rfl) (fun y207 ey207 => ?_)
    have H := H y207 ey207
    refine sj_iinc (pl := 3) (lv' := [(2, .int (sq_z y207)), (0, .ref (g.2.2 2)), (1, .ref (g.2.2 25))]) S dX0_likedIn_31 rfl (by decide) (fun _ => rfl) ?_
    refine sj_goto (tgt := 4) S dX0_likedIn_34 (by decide) ?_
    exact sj_lv S [2, 3, 1, 0] rfl H
set_option maxRecDepth 100000 in
set_option maxHeartbeats 4000000 in
theorem tX0_likedIn_25_0 {l : Launch} {g : sq_G} {J : sq_K} {Q : Int → sq_S → Prop} (S : sq_J l rX0_likedIn_25 cX0_likedIn 4 RX0 wsX0_likedIn g sq_X J) (hret : ∀ (pc : Nat) (lv : List (Nat × Value)) (r : Int) (st' : sq_S), decode cX0_likedIn pc = .ok (.ireturn, 1) → Q r st' → J pc lv [.int (sq_z r)] st') (st : sq_S) (H : bX0_likedIn_25_0 (qX0_likedIn_25_4 J g) Q st) : J 0 [(0, .ref (g.2.2 2)), (1, .ref (g.2.2 25))] [] st := by
  unfold bX0_likedIn_25_0 at H
  refine sj_iconst S dX0_likedIn_0 ?_
  refine sj_istore_na (lv' := [(0, .ref (g.2.2 2)), (1, .ref (g.2.2 25))]) S dX0_likedIn_1 rfl (by decide) (fun _ => rfl) ?_
  refine sj_iconst S dX0_likedIn_2 ?_
  refine sj_istore_na (lv' := [(2, .int (sq_z 0)), (0, .ref (g.2.2 2)), (1, .ref (g.2.2 25))]) S dX0_likedIn_3 rfl (by decide) (fun _ => rfl) ?_
  exact sj_lv S [2, 3, 1, 0] rfl H
set_option maxRecDepth 100000 in
set_option maxHeartbeats 4000000 in
theorem kX0_likedIn_25 (l : Launch) (g : sq_G) (st : sq_S) (Q : Int → sq_S → Prop) (H : wX0_likedIn_25  st Q) : sq_Ci l yX0_likedIn wsX0_likedIn rX0_likedIn_25 g sq_X [.ref (g.2.2 2), .ref (g.2.2 25)] st Q := by
  refine sq_in_i (cc := cX0_likedIn) (nL := 4) (own := RX0) (by decide) rfl rfl (Nat.le_of_ble_eq_true rfl) ?_
  intro J S hret
  exact tX0_likedIn_25_0 S hret  st (H (qX0_likedIn_25_4 J g) (tX0_likedIn_25_4 S hret))
/-! goodByOrder (I)I : X3_goodByOrder -/
theorem iX3_goodByOrder_0 : ∀ w ∈ u_ws RX0 TX0 9, w ∈ wsX3_goodByOrder := fun _ h => List.mem_cons_of_mem _ (List.mem_append_left _ (List.mem_append_right _ h))
theorem iX3_goodByOrder_2 : ∀ w ∈ u_ws RX2 TX2 5, w ∈ wsX3_goodByOrder := fun _ h => List.mem_cons_of_mem _ (List.mem_append_right _ h)
theorem iX3_goodByOrder_3 : ∀ w ∈ u_ws RX3 TX3 8, w ∈ wsX3_goodByOrder := fun _ h => List.mem_cons_of_mem _ (List.mem_append_left _ (List.mem_append_left _ (List.mem_append_right _ h)))
theorem mX3_goodByOrder_16 : Cond.fieldLink RX3 16 (TX3 2).1 (TX3 2).2.1 (TX3 2).2.2.1 ∈ wsX3_goodByOrder := List.mem_of_getElem? (i := 2) rfl
theorem mX3_goodByOrder_27 : Cond.fieldLink RX3 27 (TX3 5).1 (TX3 5).2.1 (TX3 5).2.2.1 ∈ wsX3_goodByOrder := List.mem_of_getElem? (i := 1) rfl
theorem mX3_goodByOrder_56 : Cond.fieldLink RX3 56 (TX0 1).1 (TX0 1).2.1 (TX0 1).2.2.1 ∈ wsX3_goodByOrder := List.mem_of_getElem? (i := 3) rfl
theorem mX3_goodByOrder_168 : Cond.fieldLink RX3 168 (TX2 0).1 (TX2 0).2.1 (TX2 0).2.2.1 ∈ wsX3_goodByOrder := List.mem_of_getElem? (i := 4) rfl
def wX3_goodByOrder (v1 : Int) (st : sq_S) (Q : Int → sq_S → Prop) : Prop :=
  wX2_readColumns (st 2 1) v1 st (fun _ st205 => wX2_putInPlace 0 st205 (fun _ st206 => wX0_likedIn_25 st206 (fun r208 st209 => Q r208 st209)))
def rX3_goodByOrder : Room := { frames := 1, cells := 0, slots := 0, locals := 25 }
set_option maxRecDepth 100000 in
set_option maxHeartbeats 4000000 in
theorem tX3_goodByOrder_0 {l : Launch} {g : sq_G} {J : sq_K} {Q : Int → sq_S → Prop} (S : sq_J l rX3_goodByOrder cX3_goodByOrder 2 RX3 wsX3_goodByOrder g sq_X J) (hret : ∀ (pc : Nat) (lv : List (Nat × Value)) (r : Int) (st' : sq_S), decode cX3_goodByOrder pc = .ok (.ireturn, 1) → Q r st' → J pc lv [.int (sq_z r)] st') (v1 : Int) (st : sq_S) (H : wX3_goodByOrder v1 st Q) : J 0 [(0, .ref (g.2.2 0)), (1, .int (sq_z v1))] [] st := by
  unfold wX3_goodByOrder at H
  refine sj_aload_n (pl := 0) S dX3_goodByOrder_0 rfl rfl ?_
  refine sj_getr S fX_0_5 iX3_goodByOrder_3 rfl (by decide) mX3_goodByOrder_27 dX3_goodByOrder_1 ?_
  refine sj_aload_n (pl := 0) S dX3_goodByOrder_4 rfl rfl ?_
  refine sj_getr S fX_0_2 iX3_goodByOrder_3 rfl (by decide) mX3_goodByOrder_16 dX3_goodByOrder_5 ?_
  refine sj_geti S fX_2_1 iX3_goodByOrder_0 rfl (by decide) mX3_goodByOrder_56 dX3_goodByOrder_8 ?_
  refine sj_iload_n (pl := 1) S dX3_goodByOrder_11 rfl rfl ?_
  refine sj_vv (rest := []) (q0 := 24) (ci := 2) S (kX2_readColumns l g (st 2 1) v1 st _ H) (fun s args hts => cwV 2 hts gX3_goodByOrder_X2_readColumns rfl rfl rfl (by decide +kernel) ⟨Nat.le_of_ble_eq_true rfl, Nat.le_of_ble_eq_true rfl⟩) rfl rfl rfl rfl (Nat.le_of_ble_eq_true rfl) dX3_goodByOrder_12 (fun st205 H => ?_)
  refine sj_aload_n (pl := 0) S dX3_goodByOrder_15 rfl rfl ?_
  refine sj_getr S fX_0_5 iX3_goodByOrder_3 rfl (by decide) mX3_goodByOrder_27 dX3_goodByOrder_16 ?_
  refine sj_aload_n (pl := 0) S dX3_goodByOrder_19 rfl rfl ?_
  refine sj_getr S fX_0_2 iX3_goodByOrder_3 rfl (by decide) mX3_goodByOrder_16 dX3_goodByOrder_20 ?_
  refine sj_iconst S dX3_goodByOrder_23 ?_
  refine sj_vv (rest := []) (q0 := 24) (ci := 2) S (kX2_putInPlace l g 0 st205 _ H) (fun s args hts => cwV 2 hts gX3_goodByOrder_X2_putInPlace rfl rfl rfl (by decide +kernel) ⟨Nat.le_of_ble_eq_true rfl, Nat.le_of_ble_eq_true rfl⟩) rfl rfl rfl rfl (Nat.le_of_ble_eq_true rfl) dX3_goodByOrder_24 (fun st206 H => ?_)
  refine sj_aload_n (pl := 0) S dX3_goodByOrder_27 rfl rfl ?_
  refine sj_getr S fX_0_2 iX3_goodByOrder_3 rfl (by decide) mX3_goodByOrder_16 dX3_goodByOrder_28 ?_
  refine sj_aload_n (pl := 0) S dX3_goodByOrder_31 rfl rfl ?_
  refine sj_getr S fX_0_5 iX3_goodByOrder_3 rfl (by decide) mX3_goodByOrder_27 dX3_goodByOrder_32 ?_
  refine sj_getr S fX_24_0 iX3_goodByOrder_2 rfl (by decide) mX3_goodByOrder_168 dX3_goodByOrder_35 ?_
  refine sj_vi (rest := []) (q0 := 2) (ci := 0) S (kX0_likedIn_25 l g st206 _ H) (fun s args hts => cwV 1 hts gX3_goodByOrder_X0_likedIn rfl rfl rfl (by decide +kernel) ⟨Nat.le_of_ble_eq_true rfl, Nat.le_of_ble_eq_true rfl⟩) rfl rfl rfl rfl (Nat.le_of_ble_eq_true rfl) dX3_goodByOrder_38 (fun r208 st209 H => ?_)
  exact hret _ _ _ _ dX3_goodByOrder_41 H
set_option maxRecDepth 100000 in
set_option maxHeartbeats 4000000 in
theorem kX3_goodByOrder (l : Launch) (g : sq_G) (v1 : Int) (st : sq_S) (Q : Int → sq_S → Prop) (H : wX3_goodByOrder v1 st Q) : sq_Ci l yX3_goodByOrder wsX3_goodByOrder rX3_goodByOrder g sq_X [.ref (g.2.2 0), .int (sq_z v1)] st Q := by
  refine sq_in_i (cc := cX3_goodByOrder) (nL := 2) (own := RX3) (by decide) rfl rfl (Nat.le_of_ble_eq_true rfl) ?_
  intro J S hret
  exact tX3_goodByOrder_0 S hret v1 st H
/-! swapInOrder (II)V : X2_swapInOrder -/
theorem iX2_swapInOrder_2 : ∀ w ∈ u_ws RX2 TX2 5, w ∈ wsX2_swapInOrder := fun _ h => List.mem_cons_of_mem _ (List.mem_append_right _ h)
theorem mX2_swapInOrder_22 : Cond.fieldLink RX2 22 (TX2 2).1 (TX2 2).2.1 (TX2 2).2.2.1 ∈ wsX2_swapInOrder := List.mem_of_getElem? (i := 1) rfl
def wX2_swapInOrder (v1 v2 : Int) (st : sq_S) (Q : Int → sq_S → Prop) : Prop :=
  sq_ib v1 6 ∧ (∀ y216 : Int, y216 = (st 29 v1.toNat) → (sq_ib v2 6 ∧ (sq_ib v1 6 ∧ (∀ st217 : sq_S, st217 = sq_set st 29 v1.toNat (st 29 v2.toNat) → (sq_ib v2 6 ∧ (∀ st218 : sq_S, st218 = sq_set st217 29 v2.toNat y216 → (Q 0 st218)))))))
def rX2_swapInOrder : Room := { frames := 0, cells := 0, slots := 0, locals := 0 }
set_option maxRecDepth 100000 in
set_option maxHeartbeats 4000000 in
theorem tX2_swapInOrder_0 {l : Launch} {g : sq_G} {J : sq_K} {Q : Int → sq_S → Prop} (S : sq_J l rX2_swapInOrder cX2_swapInOrder 4 RX2 wsX2_swapInOrder g sq_X J) (hret : ∀ (pc : Nat) (lv : List (Nat × Value)) (st' : sq_S), decode cX2_swapInOrder pc = .ok (.return_, 1) → Q 0 st' → J pc lv [] st') (v1 v2 : Int) (st : sq_S) (H : wX2_swapInOrder v1 v2 st Q) : J 0 [(0, .ref (g.2.2 24)), (1, .int (sq_z v1)), (2, .int (sq_z v2))] [] st := by
  unfold wX2_swapInOrder at H
  refine sj_aload_n (pl := 0) S dX2_swapInOrder_0 rfl rfl ?_
  refine sj_getr S fX_24_2 iX2_swapInOrder_2 rfl (by decide) mX2_swapInOrder_22 dX2_swapInOrder_1 ?_
  refine sj_iload_n (pl := 1) S dX2_swapInOrder_4 rfl rfl ?_
  refine sj_iald S aX_29 H.1 dX2_swapInOrder_5 ?_
  have H := H.2
  refine sj_istore_n (lv' := [(0, .ref (g.2.2 24)), (1, .int (sq_z v1)), (2, .int (sq_z v2))]) S dX2_swapInOrder_6 rfl (by decide) (fun _ => rfl) (fun y216 ey216 => ?_)
  have H := H y216 ey216
  refine sj_aload_n (pl := 1) S dX2_swapInOrder_7 rfl rfl ?_
  refine sj_getr S fX_24_2 iX2_swapInOrder_2 rfl (by decide) mX2_swapInOrder_22 dX2_swapInOrder_8 ?_
  refine sj_iload_n (pl := 2) S dX2_swapInOrder_11 rfl rfl ?_
  refine sj_aload_n (pl := 1) S dX2_swapInOrder_12 rfl rfl ?_
  refine sj_getr S fX_24_2 iX2_swapInOrder_2 rfl (by decide) mX2_swapInOrder_22 dX2_swapInOrder_13 ?_
  refine sj_iload_n (pl := 3) S dX2_swapInOrder_16 rfl rfl ?_
  refine sj_iald S aX_29 H.1 dX2_swapInOrder_17 ?_
  have H := H.2
  refine sj_iast S aX_29 H.1 dX2_swapInOrder_18 (fun st217 est217 => ?_)
  have H := H.2 st217 est217
  refine sj_aload_n (pl := 1) S dX2_swapInOrder_19 rfl rfl ?_
  refine sj_getr S fX_24_2 iX2_swapInOrder_2 rfl (by decide) mX2_swapInOrder_22 dX2_swapInOrder_20 ?_
  refine sj_iload_n (pl := 3) S dX2_swapInOrder_23 rfl rfl ?_
  refine sj_iload_n (pl := 0) S dX2_swapInOrder_24 rfl rfl ?_
  refine sj_iast S aX_29 H.1 dX2_swapInOrder_25 (fun st218 est218 => ?_)
  have H := H.2 st218 est218
  exact hret _ _ _ dX2_swapInOrder_26 H
set_option maxRecDepth 100000 in
set_option maxHeartbeats 4000000 in
theorem kX2_swapInOrder (l : Launch) (g : sq_G) (v1 v2 : Int) (st : sq_S) (Q : Int → sq_S → Prop) (H : wX2_swapInOrder v1 v2 st Q) : sq_Cv l yX2_swapInOrder wsX2_swapInOrder rX2_swapInOrder g sq_X [.ref (g.2.2 24), .int (sq_z v1), .int (sq_z v2)] st Q := by
  refine sq_in_v (cc := cX2_swapInOrder) (nL := 4) (own := RX2) (by decide) rfl rfl (Nat.le_of_ble_eq_true rfl) ?_
  intro J S hret
  exact tX2_swapInOrder_0 S hret v1 v2 st H
/-! nextOrder (I)Z : X2_nextOrder -/
theorem iX2_nextOrder_2 : ∀ w ∈ u_ws RX2 TX2 5, w ∈ wsX2_nextOrder := fun _ h => List.mem_cons_of_mem _ (List.mem_append_right _ h)
theorem mX2_nextOrder_22 : Cond.fieldLink RX2 22 (TX2 2).1 (TX2 2).2.1 (TX2 2).2.2.1 ∈ wsX2_nextOrder := List.mem_of_getElem? (i := 1) rfl
def bX2_nextOrder_4 (K4 : Int → Int → sq_S → Prop) (K41 : Int → Int → Int → sq_S → Prop) (K83 : Int → Int → sq_S → Prop) (Q : Int → sq_S → Prop) (v1 v2 : Int) (st : sq_S) : Prop :=
  sq_rg v2 ∧ (v2 < 0 → sq_rg v2 ∧ (0 ≤ v2 → ∀ y214 : Int, y214 = (v1 - 1) → (K41 v1 v2 y214 st)) ∧ (v2 < 0 → ((0 : Int) = 0 ∨ (0 : Int) = 1) ∧ Q 0 st)) ∧ (0 ≤ v2 → sq_ib v2 6 ∧ (sq_ib (v2 + 1) 6 ∧ ((sq_rg (st 29 v2.toNat) ∧ sq_rg (st 29 ((v2 + 1)).toNat)) ∧ ((st 29 v2.toNat) ≤ (st 29 ((v2 + 1)).toNat) → sq_rg v2 ∧ (0 ≤ v2 → ∀ y215 : Int, y215 = (v1 - 1) → (K41 v1 v2 y215 st)) ∧ (v2 < 0 → ((0 : Int) = 0 ∨ (0 : Int) = 1) ∧ Q 0 st)) ∧ ((st 29 ((v2 + 1)).toNat) < (st 29 v2.toNat) → K4 v1 (v2 + (-1)) st))))
def bX2_nextOrder_41 (K4 : Int → Int → sq_S → Prop) (K41 : Int → Int → Int → sq_S → Prop) (K83 : Int → Int → sq_S → Prop) (Q : Int → sq_S → Prop) (v1 v2 v3 : Int) (st : sq_S) : Prop :=
  (sq_rg v3 ∧ sq_rg v2) ∧ (v3 ≤ v2 → wX2_swapInOrder v2 v3 st (fun _ st219 => ∀ y220 : Int, y220 = (v1 - 1) → (∀ y221 : Int, y221 = (v2 + 1) → (K83 y220 y221 st219)))) ∧ (v2 < v3 → sq_ib v3 6 ∧ (sq_ib v2 6 ∧ ((sq_rg (st 29 v3.toNat) ∧ sq_rg (st 29 v2.toNat)) ∧ ((st 29 v2.toNat) ≤ (st 29 v3.toNat) → wX2_swapInOrder v2 v3 st (fun _ st222 => ∀ y223 : Int, y223 = (v1 - 1) → (∀ y224 : Int, y224 = (v2 + 1) → (K83 y223 y224 st222)))) ∧ ((st 29 v3.toNat) < (st 29 v2.toNat) → K41 v1 v2 (v3 + (-1)) st))))
def bX2_nextOrder_83 (K4 : Int → Int → sq_S → Prop) (K41 : Int → Int → Int → sq_S → Prop) (K83 : Int → Int → sq_S → Prop) (Q : Int → sq_S → Prop) (v4 v5 : Int) (st : sq_S) : Prop :=
  (sq_rg v5 ∧ sq_rg v4) ∧ (v4 ≤ v5 → ((1 : Int) = 0 ∨ (1 : Int) = 1) ∧ Q 1 st) ∧ (v5 < v4 → wX2_swapInOrder v5 v4 st (fun _ st225 => K83 (v4 + (-1)) (v5 + 1) st225))
def bX2_nextOrder_0 (K4 : Int → Int → sq_S → Prop) (K41 : Int → Int → Int → sq_S → Prop) (K83 : Int → Int → sq_S → Prop) (Q : Int → sq_S → Prop) (v1 : Int) (st : sq_S) : Prop :=
  ∀ y213 : Int, y213 = (v1 - 2) → (K4 v1 y213 st)
def wX2_nextOrder (v1 : Int) (st : sq_S) (Q : Int → sq_S → Prop) : Prop :=
  ∀ (K4 : Int → Int → sq_S → Prop) (K41 : Int → Int → Int → sq_S → Prop) (K83 : Int → Int → sq_S → Prop), (∀ (v1 v2 : Int) (st : sq_S), bX2_nextOrder_4 K4 K41 K83 Q v1 v2 st → K4 v1 v2 st) → (∀ (v1 v2 v3 : Int) (st : sq_S), bX2_nextOrder_41 K4 K41 K83 Q v1 v2 v3 st → K41 v1 v2 v3 st) → (∀ (v4 v5 : Int) (st : sq_S), bX2_nextOrder_83 K4 K41 K83 Q v4 v5 st → K83 v4 v5 st) → bX2_nextOrder_0 K4 K41 K83 Q v1 st
def rX2_nextOrder : Room := { frames := 1, cells := 0, slots := 0, locals := 23 }
def qX2_nextOrder_4 (J : sq_K) (g : sq_G) : Int → Int → sq_S → Prop := fun v1 v2 st => J 4 [(0, .ref (g.2.2 24)), (1, .int (sq_z v1)), (2, .int (sq_z v2))] [] st
def qX2_nextOrder_41 (J : sq_K) (g : sq_G) : Int → Int → Int → sq_S → Prop := fun v1 v2 v3 st => J 41 [(0, .ref (g.2.2 24)), (1, .int (sq_z v1)), (2, .int (sq_z v2)), (3, .int (sq_z v3))] [] st
def qX2_nextOrder_83 (J : sq_K) (g : sq_G) : Int → Int → sq_S → Prop := fun v4 v5 st => J 83 [(0, .ref (g.2.2 24)), (4, .int (sq_z v4)), (5, .int (sq_z v5))] [] st
set_option maxRecDepth 100000 in
set_option maxHeartbeats 4000000 in
theorem tX2_nextOrder_4 {l : Launch} {g : sq_G} {J : sq_K} {Q : Int → sq_S → Prop} (S : sq_J l rX2_nextOrder cX2_nextOrder 6 RX2 wsX2_nextOrder g sq_X J) (hret : ∀ (pc : Nat) (lv : List (Nat × Value)) (r : Int) (st' : sq_S), decode cX2_nextOrder pc = .ok (.ireturn, 1) → (r = 0 ∨ r = 1) ∧ Q r st' → J pc lv [.int (sq_z r)] st') (v1 v2 : Int) (st : sq_S) (H : bX2_nextOrder_4 (qX2_nextOrder_4 J g) (qX2_nextOrder_41 J g) (qX2_nextOrder_83 J g) Q v1 v2 st) : J 4 [(0, .ref (g.2.2 24)), (1, .int (sq_z v1)), (2, .int (sq_z v2))] [] st := by
  unfold bX2_nextOrder_4 at H
  refine sj_iload_n (pl := 2) S dX2_nextOrder_4 rfl rfl ?_
  refine sj_if_lt (tgt := 31) S H.1 dX2_nextOrder_5 (by decide) (fun c9 => ?_) (fun c9 => ?_)
  · have H := H.2.1 c9
    refine sj_iload_n (pl := 2) S dX2_nextOrder_31 rfl rfl ?_
    refine sj_if_ge (tgt := 37) S H.1 dX2_nextOrder_32 (by decide) (fun c9 => ?_) (fun c9 => ?_)
    · have H := H.2.1 c9
      refine sj_iload_n (pl := 1) S dX2_nextOrder_37 rfl rfl ?_
      refine sj_iconst S dX2_nextOrder_38 ?_
      refine sj_isub S dX2_nextOrder_39 ?_
      refine sj_istore_n (lv' := [(0, .ref (g.2.2 24)), (1, .int (sq_z v1)), (2, .int (sq_z v2))]) S dX2_nextOrder_40 rfl (by decide) (fun _ => rfl) (fun y214 ey214 => ?_)
      have H := H y214 ey214
      exact sj_lv S [1, 2, 3, 0] rfl H
    · have H := H.2.2 c9
      refine sj_iconst S dX2_nextOrder_35 ?_
      exact hret _ _ _ _ dX2_nextOrder_36 H
  · have H := H.2.2 c9
    refine sj_aload_n (pl := 0) S dX2_nextOrder_8 rfl rfl ?_
    refine sj_getr S fX_24_2 iX2_nextOrder_2 rfl (by decide) mX2_nextOrder_22 dX2_nextOrder_9 ?_
    refine sj_iload_n (pl := 2) S dX2_nextOrder_12 rfl rfl ?_
    refine sj_iald S aX_29 H.1 dX2_nextOrder_13 ?_
    have H := H.2
    refine sj_aload_n (pl := 0) S dX2_nextOrder_14 rfl rfl ?_
    refine sj_getr S fX_24_2 iX2_nextOrder_2 rfl (by decide) mX2_nextOrder_22 dX2_nextOrder_15 ?_
    refine sj_iload_n (pl := 2) S dX2_nextOrder_18 rfl rfl ?_
    refine sj_iconst S dX2_nextOrder_19 ?_
    refine sj_iadd S dX2_nextOrder_20 ?_
    refine sj_iald S aX_29 H.1 dX2_nextOrder_21 ?_
    have H := H.2
    refine sj_icmp_le (tgt := 31) S H.1 dX2_nextOrder_22 (by decide) (fun c9 => ?_) (fun c9 => ?_)
    · have H := H.2.1 c9
      refine sj_iload_n (pl := 2) S dX2_nextOrder_31 rfl rfl ?_
      refine sj_if_ge (tgt := 37) S H.1 dX2_nextOrder_32 (by decide) (fun c9 => ?_) (fun c9 => ?_)
      · have H := H.2.1 c9
        refine sj_iload_n (pl := 1) S dX2_nextOrder_37 rfl rfl ?_
        refine sj_iconst S dX2_nextOrder_38 ?_
        refine sj_isub S dX2_nextOrder_39 ?_
        refine sj_istore_n (lv' := [(0, .ref (g.2.2 24)), (1, .int (sq_z v1)), (2, .int (sq_z v2))]) S dX2_nextOrder_40 rfl (by decide) (fun _ => rfl) (fun y215 ey215 => ?_)
        have H := H y215 ey215
        exact sj_lv S [1, 2, 3, 0] rfl H
      · have H := H.2.2 c9
        refine sj_iconst S dX2_nextOrder_35 ?_
        exact hret _ _ _ _ dX2_nextOrder_36 H
    · have H := H.2.2 c9
      refine sj_iinc (pl := 2) (lv' := [(0, .ref (g.2.2 24)), (1, .int (sq_z v1))]) S dX2_nextOrder_25 rfl (by decide) (fun _ => rfl) ?_
      refine sj_goto (tgt := 4) S dX2_nextOrder_28 (by decide) ?_
      exact sj_lv S [1, 2, 0] rfl H
set_option maxRecDepth 100000 in
set_option maxHeartbeats 4000000 in
theorem tX2_nextOrder_41 {l : Launch} {g : sq_G} {J : sq_K} {Q : Int → sq_S → Prop} (S : sq_J l rX2_nextOrder cX2_nextOrder 6 RX2 wsX2_nextOrder g sq_X J) (hret : ∀ (pc : Nat) (lv : List (Nat × Value)) (r : Int) (st' : sq_S), decode cX2_nextOrder pc = .ok (.ireturn, 1) → (r = 0 ∨ r = 1) ∧ Q r st' → J pc lv [.int (sq_z r)] st') (v1 v2 v3 : Int) (st : sq_S) (H : bX2_nextOrder_41 (qX2_nextOrder_4 J g) (qX2_nextOrder_41 J g) (qX2_nextOrder_83 J g) Q v1 v2 v3 st) : J 41 [(0, .ref (g.2.2 24)), (1, .int (sq_z v1)), (2, .int (sq_z v2)), (3, .int (sq_z v3))] [] st := by
  unfold bX2_nextOrder_41 at H
  refine sj_iload_n (pl := 3) S dX2_nextOrder_41 rfl rfl ?_
  refine sj_iload_n (pl := 2) S dX2_nextOrder_42 rfl rfl ?_
  refine sj_icmp_le (tgt := 67) S H.1 dX2_nextOrder_43 (by decide) (fun c9 => ?_) (fun c9 => ?_)
  · have H := H.2.1 c9
    refine sj_aload_n (pl := 0) S dX2_nextOrder_67 rfl rfl ?_
    refine sj_iload_n (pl := 2) S dX2_nextOrder_68 rfl rfl ?_
    refine sj_iload_n (pl := 3) S dX2_nextOrder_69 rfl rfl ?_
    refine sj_vv (rest := []) (q0 := 24) (ci := 2) S (kX2_swapInOrder l g v2 v3 st _ H) (fun s args hts => cwV 2 hts gX2_nextOrder_X2_swapInOrder rfl rfl rfl (by decide +kernel) ⟨Nat.le_of_ble_eq_true rfl, Nat.le_of_ble_eq_true rfl⟩) rfl rfl rfl rfl (Nat.le_of_ble_eq_true rfl) dX2_nextOrder_70 (fun st219 H => ?_)
    refine sj_iload_n (pl := 1) S dX2_nextOrder_73 rfl rfl ?_
    refine sj_iconst S dX2_nextOrder_74 ?_
    refine sj_isub S dX2_nextOrder_75 ?_
    refine sj_istore (lv' := [(0, .ref (g.2.2 24)), (1, .int (sq_z v1)), (2, .int (sq_z v2)), (3, .int (sq_z v3))]) S dX2_nextOrder_76 (by decide) (fun _ => rfl) (fun y220 ey220 => ?_)
    have H := H y220 ey220
    refine sj_iload_n (pl := 3) S dX2_nextOrder_78 rfl rfl ?_
    refine sj_iconst S dX2_nextOrder_79 ?_
    refine sj_iadd S dX2_nextOrder_80 ?_
    refine sj_istore (lv' := [(4, .int (sq_z y220)), (0, .ref (g.2.2 24)), (1, .int (sq_z v1)), (2, .int (sq_z v2)), (3, .int (sq_z v3))]) S dX2_nextOrder_81 (by decide) (fun _ => rfl) (fun y221 ey221 => ?_)
    have H := H y221 ey221
    exact sj_lv S [2, 1, 0] rfl H
  · have H := H.2.2 c9
    refine sj_aload_n (pl := 0) S dX2_nextOrder_46 rfl rfl ?_
    refine sj_getr S fX_24_2 iX2_nextOrder_2 rfl (by decide) mX2_nextOrder_22 dX2_nextOrder_47 ?_
    refine sj_iload_n (pl := 3) S dX2_nextOrder_50 rfl rfl ?_
    refine sj_iald S aX_29 H.1 dX2_nextOrder_51 ?_
    have H := H.2
    refine sj_aload_n (pl := 0) S dX2_nextOrder_52 rfl rfl ?_
    refine sj_getr S fX_24_2 iX2_nextOrder_2 rfl (by decide) mX2_nextOrder_22 dX2_nextOrder_53 ?_
    refine sj_iload_n (pl := 2) S dX2_nextOrder_56 rfl rfl ?_
    refine sj_iald S aX_29 H.1 dX2_nextOrder_57 ?_
    have H := H.2
    refine sj_icmp_ge (tgt := 67) S H.1 dX2_nextOrder_58 (by decide) (fun c9 => ?_) (fun c9 => ?_)
    · have H := H.2.1 c9
      refine sj_aload_n (pl := 0) S dX2_nextOrder_67 rfl rfl ?_
      refine sj_iload_n (pl := 2) S dX2_nextOrder_68 rfl rfl ?_
      refine sj_iload_n (pl := 3) S dX2_nextOrder_69 rfl rfl ?_
      refine sj_vv (rest := []) (q0 := 24) (ci := 2) S (kX2_swapInOrder l g v2 v3 st _ H) (fun s args hts => cwV 2 hts gX2_nextOrder_X2_swapInOrder rfl rfl rfl (by decide +kernel) ⟨Nat.le_of_ble_eq_true rfl, Nat.le_of_ble_eq_true rfl⟩) rfl rfl rfl rfl (Nat.le_of_ble_eq_true rfl) dX2_nextOrder_70 (fun st222 H => ?_)
      refine sj_iload_n (pl := 1) S dX2_nextOrder_73 rfl rfl ?_
      refine sj_iconst S dX2_nextOrder_74 ?_
      refine sj_isub S dX2_nextOrder_75 ?_
      refine sj_istore (lv' := [(0, .ref (g.2.2 24)), (1, .int (sq_z v1)), (2, .int (sq_z v2)), (3, .int (sq_z v3))]) S dX2_nextOrder_76 (by decide) (fun _ => rfl) (fun y223 ey223 => ?_)
      have H := H y223 ey223
      refine sj_iload_n (pl := 3) S dX2_nextOrder_78 rfl rfl ?_
      refine sj_iconst S dX2_nextOrder_79 ?_
      refine sj_iadd S dX2_nextOrder_80 ?_
      refine sj_istore (lv' := [(4, .int (sq_z y223)), (0, .ref (g.2.2 24)), (1, .int (sq_z v1)), (2, .int (sq_z v2)), (3, .int (sq_z v3))]) S dX2_nextOrder_81 (by decide) (fun _ => rfl) (fun y224 ey224 => ?_)
      have H := H y224 ey224
      exact sj_lv S [2, 1, 0] rfl H
    · have H := H.2.2 c9
      refine sj_iinc (pl := 3) (lv' := [(0, .ref (g.2.2 24)), (1, .int (sq_z v1)), (2, .int (sq_z v2))]) S dX2_nextOrder_61 rfl (by decide) (fun _ => rfl) ?_
      refine sj_goto (tgt := 41) S dX2_nextOrder_64 (by decide) ?_
      exact sj_lv S [1, 2, 3, 0] rfl H
set_option maxRecDepth 100000 in
set_option maxHeartbeats 4000000 in
theorem tX2_nextOrder_83 {l : Launch} {g : sq_G} {J : sq_K} {Q : Int → sq_S → Prop} (S : sq_J l rX2_nextOrder cX2_nextOrder 6 RX2 wsX2_nextOrder g sq_X J) (hret : ∀ (pc : Nat) (lv : List (Nat × Value)) (r : Int) (st' : sq_S), decode cX2_nextOrder pc = .ok (.ireturn, 1) → (r = 0 ∨ r = 1) ∧ Q r st' → J pc lv [.int (sq_z r)] st') (v4 v5 : Int) (st : sq_S) (H : bX2_nextOrder_83 (qX2_nextOrder_4 J g) (qX2_nextOrder_41 J g) (qX2_nextOrder_83 J g) Q v4 v5 st) : J 83 [(0, .ref (g.2.2 24)), (4, .int (sq_z v4)), (5, .int (sq_z v5))] [] st := by
  unfold bX2_nextOrder_83 at H
  refine sj_iload (pl := 2) S dX2_nextOrder_83 rfl ?_
  refine sj_iload (pl := 1) S dX2_nextOrder_85 rfl ?_
  refine sj_icmp_ge (tgt := 107) S H.1 dX2_nextOrder_87 (by decide) (fun c9 => ?_) (fun c9 => ?_)
  · have H := H.2.1 c9
    refine sj_iconst S dX2_nextOrder_107 ?_
    exact hret _ _ _ _ dX2_nextOrder_108 H
  · have H := H.2.2 c9
    refine sj_aload_n (pl := 0) S dX2_nextOrder_90 rfl rfl ?_
    refine sj_iload (pl := 2) S dX2_nextOrder_91 rfl ?_
    refine sj_iload (pl := 1) S dX2_nextOrder_93 rfl ?_
    refine sj_vv (rest := []) (q0 := 24) (ci := 2) S (kX2_swapInOrder l g v5 v4 st _ H) (fun s args hts => cwV 2 hts gX2_nextOrder_X2_swapInOrder rfl rfl rfl (by decide +kernel) ⟨Nat.le_of_ble_eq_true rfl, Nat.le_of_ble_eq_true rfl⟩) rfl rfl rfl rfl (Nat.le_of_ble_eq_true rfl) dX2_nextOrder_95 (fun st225 H => ?_)
    refine sj_iinc (pl := 1) (lv' := [(0, .ref (g.2.2 24)), (5, .int (sq_z v5))]) S dX2_nextOrder_98 rfl (by decide) (fun _ => rfl) ?_
    refine sj_iinc (pl := 2) (lv' := [(4, .int (sq_z (v4 + (-1)))), (0, .ref (g.2.2 24))]) S dX2_nextOrder_101 rfl (by decide) (fun _ => rfl) ?_
    refine sj_goto (tgt := 83) S dX2_nextOrder_104 (by decide) ?_
    exact sj_lv S [2, 1, 0] rfl H
set_option maxRecDepth 100000 in
set_option maxHeartbeats 4000000 in
theorem tX2_nextOrder_0 {l : Launch} {g : sq_G} {J : sq_K} {Q : Int → sq_S → Prop} (S : sq_J l rX2_nextOrder cX2_nextOrder 6 RX2 wsX2_nextOrder g sq_X J) (hret : ∀ (pc : Nat) (lv : List (Nat × Value)) (r : Int) (st' : sq_S), decode cX2_nextOrder pc = .ok (.ireturn, 1) → (r = 0 ∨ r = 1) ∧ Q r st' → J pc lv [.int (sq_z r)] st') (v1 : Int) (st : sq_S) (H : bX2_nextOrder_0 (qX2_nextOrder_4 J g) (qX2_nextOrder_41 J g) (qX2_nextOrder_83 J g) Q v1 st) : J 0 [(0, .ref (g.2.2 24)), (1, .int (sq_z v1))] [] st := by
  unfold bX2_nextOrder_0 at H
  refine sj_iload_n (pl := 1) S dX2_nextOrder_0 rfl rfl ?_
  refine sj_iconst S dX2_nextOrder_1 ?_
  refine sj_isub S dX2_nextOrder_2 ?_
  refine sj_istore_n (lv' := [(0, .ref (g.2.2 24)), (1, .int (sq_z v1))]) S dX2_nextOrder_3 rfl (by decide) (fun _ => rfl) (fun y213 ey213 => ?_)
  have H := H y213 ey213
  exact sj_lv S [1, 2, 0] rfl H
set_option maxRecDepth 100000 in
set_option maxHeartbeats 4000000 in
theorem kX2_nextOrder (l : Launch) (g : sq_G) (v1 : Int) (st : sq_S) (Q : Int → sq_S → Prop) (H : wX2_nextOrder v1 st Q) : sq_Ci l yX2_nextOrder wsX2_nextOrder rX2_nextOrder g sq_X [.ref (g.2.2 24), .int (sq_z v1)] st Q := by
  refine sq_in_z (cc := cX2_nextOrder) (nL := 6) (own := RX2) (by decide) rfl rfl (Nat.le_of_ble_eq_true rfl) ?_
  intro J S hret
  exact tX2_nextOrder_0 S hret v1 st (H (qX2_nextOrder_4 J g) (qX2_nextOrder_41 J g) (qX2_nextOrder_83 J g) (tX2_nextOrder_4 S hret) (tX2_nextOrder_41 S hret) (tX2_nextOrder_83 S hret))
/-! order (II)I : X3_order -/
theorem iX3_order_2 : ∀ w ∈ u_ws RX2 TX2 5, w ∈ wsX3_order := fun _ h => List.mem_cons_of_mem _ (List.mem_append_left _ (List.mem_append_right _ h))
theorem iX3_order_3 : ∀ w ∈ u_ws RX3 TX3 8, w ∈ wsX3_order := fun _ h => List.mem_cons_of_mem _ (List.mem_append_left _ (List.mem_append_left _ (List.mem_append_right _ h)))
theorem mX3_order_27 : Cond.fieldLink RX3 27 (TX3 5).1 (TX3 5).2.1 (TX3 5).2.2.1 ∈ wsX3_order := List.mem_of_getElem? (i := 1) rfl
theorem mX3_order_34 : Cond.fieldLink RX3 34 (TX3 7).1 (TX3 7).2.1 (TX3 7).2.2.1 ∈ wsX3_order := List.mem_of_getElem? (i := 3) rfl
theorem mX3_order_131 : Cond.fieldLink RX3 131 (TX2 2).1 (TX2 2).2.1 (TX2 2).2.2.1 ∈ wsX3_order := List.mem_of_getElem? (i := 2) rfl
def bX3_order_44 (K44 : Int → Int → Int → Int → Int → Int → sq_S → Prop) (K93 : Int → Int → Int → Int → Int → Int → sq_S → Prop) (K118 : Int → Int → Int → sq_S → Prop) (Q : Int → sq_S → Prop) (v1 v2 v3 v4 v5 v6 : Int) (st : sq_S) : Prop :=
  sq_rg v5 ∧ (v5 = 0 → K118 v2 v3 v4 st) ∧ (¬ v5 = 0 → (sq_rg v6 ∧ sq_rg 720) ∧ (720 ≤ v6 → K118 v2 v3 v4 st) ∧ (v6 < 720 → wX3_goodByOrder v1 st (fun r210 st211 => (sq_rg r210 ∧ sq_rg v3) ∧ (r210 ≤ v3 → K93 v1 v2 v3 v4 v6 r210 st211) ∧ (v3 < r210 → ((0 ≤ (0 : Int) ∧ 0 ≤ (0 : Int) ∧ 0 ≤ v1) ∧ (0 : Int) + v1 ≤ 6 ∧ (0 : Int) + v1 ≤ 6) ∧ ∀ st212 : sq_S, st212 = sq_row st211 33 (sq_cp (st211 29) (st211 33) 0 0 v1.toNat) → (K93 v1 v2 r210 0 v6 r210 st212)))))
def bX3_order_93 (K44 : Int → Int → Int → Int → Int → Int → sq_S → Prop) (K93 : Int → Int → Int → Int → Int → Int → sq_S → Prop) (K118 : Int → Int → Int → sq_S → Prop) (Q : Int → sq_S → Prop) (v1 v2 v3 v4 v6 v7 : Int) (st : sq_S) : Prop :=
  (sq_rg v7 ∧ sq_rg v3) ∧ (¬ v7 = v3 → wX2_nextOrder v1 st (fun r226 st227 => K44 v1 v2 v3 v4 r226 (v6 + 1) st227)) ∧ (v7 = v3 → wX2_nextOrder v1 st (fun r228 st229 => K44 v1 v2 v3 (v4 + 1) r228 (v6 + 1) st229))
def bX3_order_118 (K44 : Int → Int → Int → Int → Int → Int → sq_S → Prop) (K93 : Int → Int → Int → Int → Int → Int → sq_S → Prop) (K118 : Int → Int → Int → sq_S → Prop) (Q : Int → sq_S → Prop) (v2 v3 v4 : Int) (st : sq_S) : Prop :=
  (sq_rg v2 ∧ sq_rg (-1)) ∧ (¬ v2 = (-1) → (sq_rg v2 ∧ sq_rg (-2)) ∧ (¬ v2 = (-2) → sq_ib v2 6 ∧ (Q (st 33 v2.toNat) st)) ∧ (v2 = (-2) → Q v4 st)) ∧ (v2 = (-1) → Q v3 st)
def bX3_order_0 (K44 : Int → Int → Int → Int → Int → Int → sq_S → Prop) (K93 : Int → Int → Int → Int → Int → Int → sq_S → Prop) (K118 : Int → Int → Int → sq_S → Prop) (Q : Int → sq_S → Prop) (v1 v2 : Int) (st : sq_S) : Prop :=
  wX3_isOutside v1 2 6 st (fun r199 st200 => sq_rg r199 ∧ (¬ r199 = 0 → Q (-2) st200) ∧ (r199 = 0 → wX3_isOutside v2 (-2) (v1 - 1) st200 (fun r201 st202 => sq_rg r201 ∧ (r201 = 0 → wX2_startOrder v1 st202 (fun _ st204 => K44 v1 v2 (-1) 0 1 0 st204)) ∧ (¬ r201 = 0 → Q (-2) st202))))
def wX3_order (v1 v2 : Int) (st : sq_S) (Q : Int → sq_S → Prop) : Prop :=
  ∀ (K44 : Int → Int → Int → Int → Int → Int → sq_S → Prop) (K93 : Int → Int → Int → Int → Int → Int → sq_S → Prop) (K118 : Int → Int → Int → sq_S → Prop), (∀ (v1 v2 v3 v4 v5 v6 : Int) (st : sq_S), bX3_order_44 K44 K93 K118 Q v1 v2 v3 v4 v5 v6 st → K44 v1 v2 v3 v4 v5 v6 st) → (∀ (v1 v2 v3 v4 v6 v7 : Int) (st : sq_S), bX3_order_93 K44 K93 K118 Q v1 v2 v3 v4 v6 v7 st → K93 v1 v2 v3 v4 v6 v7 st) → (∀ (v2 v3 v4 : Int) (st : sq_S), bX3_order_118 K44 K93 K118 Q v2 v3 v4 st → K118 v2 v3 v4 st) → bX3_order_0 K44 K93 K118 Q v1 v2 st
def rX3_order : Room := { frames := 2, cells := 0, slots := 0, locals := 48 }
def qX3_order_44 (J : sq_K) (g : sq_G) : Int → Int → Int → Int → Int → Int → sq_S → Prop := fun v1 v2 v3 v4 v5 v6 st => J 44 [(0, .ref (g.2.2 0)), (1, .int (sq_z v1)), (2, .int (sq_z v2)), (3, .int (sq_z v3)), (4, .int (sq_z v4)), (5, .int (sq_z v5)), (6, .int (sq_z v6))] [] st
def qX3_order_93 (J : sq_K) (g : sq_G) : Int → Int → Int → Int → Int → Int → sq_S → Prop := fun v1 v2 v3 v4 v6 v7 st => J 93 [(0, .ref (g.2.2 0)), (1, .int (sq_z v1)), (2, .int (sq_z v2)), (3, .int (sq_z v3)), (4, .int (sq_z v4)), (6, .int (sq_z v6)), (7, .int (sq_z v7))] [] st
def qX3_order_118 (J : sq_K) (g : sq_G) : Int → Int → Int → sq_S → Prop := fun v2 v3 v4 st => J 118 [(0, .ref (g.2.2 0)), (2, .int (sq_z v2)), (3, .int (sq_z v3)), (4, .int (sq_z v4))] [] st
set_option maxRecDepth 100000 in
set_option maxHeartbeats 4000000 in
theorem tX3_order_44 {l : Launch} {g : sq_G} {J : sq_K} {Q : Int → sq_S → Prop} (S : sq_J l rX3_order cX3_order 8 RX3 wsX3_order g sq_X J) (hret : ∀ (pc : Nat) (lv : List (Nat × Value)) (r : Int) (st' : sq_S), decode cX3_order pc = .ok (.ireturn, 1) → Q r st' → J pc lv [.int (sq_z r)] st') (v1 v2 v3 v4 v5 v6 : Int) (st : sq_S) (H : bX3_order_44 (qX3_order_44 J g) (qX3_order_93 J g) (qX3_order_118 J g) Q v1 v2 v3 v4 v5 v6 st) : J 44 [(0, .ref (g.2.2 0)), (1, .int (sq_z v1)), (2, .int (sq_z v2)), (3, .int (sq_z v3)), (4, .int (sq_z v4)), (5, .int (sq_z v5)), (6, .int (sq_z v6))] [] st := by
  unfold bX3_order_44 at H
  refine sj_iload (pl := 5) S dX3_order_44 rfl ?_
  refine sj_if_eq (tgt := 118) S H.1 dX3_order_46 (by decide) (fun c9 => ?_) (fun c9 => ?_)
  · have H := H.2.1 c9
    exact sj_lv S [0, 2, 3, 4] rfl H
  · have H := H.2.2 c9
    refine sj_iload (pl := 6) S dX3_order_49 rfl ?_
    refine sj_sipush S dX3_order_51 (by decide +kernel) ?_
    refine sj_icmp_ge (tgt := 118) S H.1 dX3_order_54 (by decide) (fun c9 => ?_) (fun c9 => ?_)
    · have H := H.2.1 c9
      exact sj_lv S [0, 2, 3, 4] rfl H
    · have H := H.2.2 c9
      refine sj_aload_n (pl := 0) S dX3_order_57 rfl rfl ?_
      refine sj_iload_n (pl := 1) S dX3_order_58 rfl rfl ?_
      refine sj_vi (rest := []) (q0 := 0) (ci := 3) S (kX3_goodByOrder l g v1 st _ H) (fun s args hts => cwV 1 hts gX3_order_X3_goodByOrder rfl rfl rfl (by decide +kernel) ⟨Nat.le_of_ble_eq_true rfl, Nat.le_of_ble_eq_true rfl⟩) rfl rfl rfl rfl (Nat.le_of_ble_eq_true rfl) dX3_order_59 (fun r210 st211 H => ?_)
      refine sj_istorea (lv' := [(0, .ref (g.2.2 0)), (1, .int (sq_z v1)), (2, .int (sq_z v2)), (3, .int (sq_z v3)), (4, .int (sq_z v4)), (5, .int (sq_z v5)), (6, .int (sq_z v6))]) S dX3_order_62 (by decide) (fun _ => rfl) ?_
      refine sj_iload (pl := 0) S dX3_order_64 rfl ?_
      refine sj_iload_n (pl := 4) S dX3_order_66 rfl rfl ?_
      refine sj_icmp_le (tgt := 93) S H.1 dX3_order_67 (by decide) (fun c9 => ?_) (fun c9 => ?_)
      · have H := H.2.1 c9
        exact sj_lv S [1, 2, 3, 4, 5, 7, 0] rfl H
      · have H := H.2.2 c9
        refine sj_iload (pl := 0) S dX3_order_70 rfl ?_
        refine sj_istore_na (lv' := [(7, .int (sq_z r210)), (0, .ref (g.2.2 0)), (1, .int (sq_z v1)), (2, .int (sq_z v2)), (4, .int (sq_z v4)), (5, .int (sq_z v5)), (6, .int (sq_z v6))]) S dX3_order_72 rfl (by decide) (fun _ => rfl) ?_
        refine sj_iconst S dX3_order_73 ?_
        refine sj_istorea (lv' := [(3, .int (sq_z r210)), (7, .int (sq_z r210)), (0, .ref (g.2.2 0)), (1, .int (sq_z v1)), (2, .int (sq_z v2)), (5, .int (sq_z v5)), (6, .int (sq_z v6))]) S dX3_order_74 (by decide) (fun _ => rfl) ?_
        refine sj_aload_n (pl := 3) S dX3_order_76 rfl rfl ?_
        refine sj_getr S fX_0_5 iX3_order_3 rfl (by decide) mX3_order_27 dX3_order_77 ?_
        refine sj_getr S fX_24_2 iX3_order_2 rfl (by decide) mX3_order_131 dX3_order_80 ?_
        refine sj_iconst S dX3_order_83 ?_
        refine sj_aload_n (pl := 3) S dX3_order_84 rfl rfl ?_
        refine sj_getr S fX_0_7 iX3_order_3 rfl (by decide) mX3_order_34 dX3_order_85 ?_
        refine sj_iconst S dX3_order_88 ?_
        refine sj_iload_n (pl := 4) S dX3_order_89 rfl rfl ?_
        refine sj_copy S aX_29 aX_33 H.1 (List.mem_of_getElem? (i := 4) rfl) (List.mem_of_getElem? (i := 5) rfl) (List.mem_of_getElem? (i := 6) rfl) (List.mem_of_getElem? (i := 7) rfl) (Nat.le_of_ble_eq_true rfl) (Nat.le_of_ble_eq_true (by decide +kernel)) dX3_order_90 (fun st212 est212 => ?_)
        have H := H.2 st212 est212
        exact sj_lv S [3, 4, 5, 1, 0, 7, 2] rfl H
set_option maxRecDepth 100000 in
set_option maxHeartbeats 4000000 in
theorem tX3_order_93 {l : Launch} {g : sq_G} {J : sq_K} {Q : Int → sq_S → Prop} (S : sq_J l rX3_order cX3_order 8 RX3 wsX3_order g sq_X J) (hret : ∀ (pc : Nat) (lv : List (Nat × Value)) (r : Int) (st' : sq_S), decode cX3_order pc = .ok (.ireturn, 1) → Q r st' → J pc lv [.int (sq_z r)] st') (v1 v2 v3 v4 v6 v7 : Int) (st : sq_S) (H : bX3_order_93 (qX3_order_44 J g) (qX3_order_93 J g) (qX3_order_118 J g) Q v1 v2 v3 v4 v6 v7 st) : J 93 [(0, .ref (g.2.2 0)), (1, .int (sq_z v1)), (2, .int (sq_z v2)), (3, .int (sq_z v3)), (4, .int (sq_z v4)), (6, .int (sq_z v6)), (7, .int (sq_z v7))] [] st := by
  unfold bX3_order_93 at H
  refine sj_iload (pl := 6) S dX3_order_93 rfl ?_
  refine sj_iload_n (pl := 3) S dX3_order_95 rfl rfl ?_
  refine sj_icmp_ne (tgt := 102) S H.1 dX3_order_96 (by decide) (fun c9 => ?_) (fun c9 => ?_)
  · have H := H.2.1 c9
    refine sj_aload_n (pl := 0) S dX3_order_102 rfl rfl ?_
    refine sj_getr S fX_0_5 iX3_order_3 rfl (by decide) mX3_order_27 dX3_order_103 ?_
    refine sj_iload_n (pl := 1) S dX3_order_106 rfl rfl ?_
    refine sj_vi (rest := []) (q0 := 24) (ci := 2) S (kX2_nextOrder l g v1 st _ H) (fun s args hts => cwV 1 hts gX3_order_X2_nextOrder rfl rfl rfl (by decide +kernel) ⟨Nat.le_of_ble_eq_true rfl, Nat.le_of_ble_eq_true rfl⟩) rfl rfl rfl rfl (Nat.le_of_ble_eq_true rfl) dX3_order_107 (fun r226 st227 H => ?_)
    refine sj_istorea (lv' := [(0, .ref (g.2.2 0)), (1, .int (sq_z v1)), (2, .int (sq_z v2)), (3, .int (sq_z v3)), (4, .int (sq_z v4)), (6, .int (sq_z v6)), (7, .int (sq_z v7))]) S dX3_order_110 (by decide) (fun _ => rfl) ?_
    refine sj_iinc (pl := 6) (lv' := [(5, .int (sq_z r226)), (0, .ref (g.2.2 0)), (1, .int (sq_z v1)), (2, .int (sq_z v2)), (3, .int (sq_z v3)), (4, .int (sq_z v4)), (7, .int (sq_z v7))]) S dX3_order_112 rfl (by decide) (fun _ => rfl) ?_
    refine sj_goto (tgt := 44) S dX3_order_115 (by decide) ?_
    exact sj_lv S [2, 3, 4, 5, 6, 1, 0] rfl H
  · have H := H.2.2 c9
    refine sj_iinc (pl := 4) (lv' := [(0, .ref (g.2.2 0)), (1, .int (sq_z v1)), (2, .int (sq_z v2)), (3, .int (sq_z v3)), (6, .int (sq_z v6)), (7, .int (sq_z v7))]) S dX3_order_99 rfl (by decide) (fun _ => rfl) ?_
    refine sj_aload_n (pl := 1) S dX3_order_102 rfl rfl ?_
    refine sj_getr S fX_0_5 iX3_order_3 rfl (by decide) mX3_order_27 dX3_order_103 ?_
    refine sj_iload_n (pl := 2) S dX3_order_106 rfl rfl ?_
    refine sj_vi (rest := []) (q0 := 24) (ci := 2) S (kX2_nextOrder l g v1 st _ H) (fun s args hts => cwV 1 hts gX3_order_X2_nextOrder rfl rfl rfl (by decide +kernel) ⟨Nat.le_of_ble_eq_true rfl, Nat.le_of_ble_eq_true rfl⟩) rfl rfl rfl rfl (Nat.le_of_ble_eq_true rfl) dX3_order_107 (fun r228 st229 H => ?_)
    refine sj_istorea (lv' := [(4, .int (sq_z (v4 + 1))), (0, .ref (g.2.2 0)), (1, .int (sq_z v1)), (2, .int (sq_z v2)), (3, .int (sq_z v3)), (6, .int (sq_z v6)), (7, .int (sq_z v7))]) S dX3_order_110 (by decide) (fun _ => rfl) ?_
    refine sj_iinc (pl := 6) (lv' := [(5, .int (sq_z r228)), (4, .int (sq_z (v4 + 1))), (0, .ref (g.2.2 0)), (1, .int (sq_z v1)), (2, .int (sq_z v2)), (3, .int (sq_z v3)), (7, .int (sq_z v7))]) S dX3_order_112 rfl (by decide) (fun _ => rfl) ?_
    refine sj_goto (tgt := 44) S dX3_order_115 (by decide) ?_
    exact sj_lv S [3, 4, 5, 6, 2, 1, 0] rfl H
set_option maxRecDepth 100000 in
set_option maxHeartbeats 4000000 in
theorem tX3_order_118 {l : Launch} {g : sq_G} {J : sq_K} {Q : Int → sq_S → Prop} (S : sq_J l rX3_order cX3_order 8 RX3 wsX3_order g sq_X J) (hret : ∀ (pc : Nat) (lv : List (Nat × Value)) (r : Int) (st' : sq_S), decode cX3_order pc = .ok (.ireturn, 1) → Q r st' → J pc lv [.int (sq_z r)] st') (v2 v3 v4 : Int) (st : sq_S) (H : bX3_order_118 (qX3_order_44 J g) (qX3_order_93 J g) (qX3_order_118 J g) Q v2 v3 v4 st) : J 118 [(0, .ref (g.2.2 0)), (2, .int (sq_z v2)), (3, .int (sq_z v3)), (4, .int (sq_z v4))] [] st := by
  unfold bX3_order_118 at H
  refine sj_iload_n (pl := 1) S dX3_order_118 rfl rfl ?_
  refine sj_iconst S dX3_order_119 ?_
  refine sj_icmp_ne (tgt := 125) S H.1 dX3_order_120 (by decide) (fun c9 => ?_) (fun c9 => ?_)
  · have H := H.2.1 c9
    refine sj_iload_n (pl := 1) S dX3_order_125 rfl rfl ?_
    refine sj_bipush S dX3_order_126 (by decide +kernel) ?_
    refine sj_icmp_ne (tgt := 136) S H.1 dX3_order_128 (by decide) (fun c9 => ?_) (fun c9 => ?_)
    · have H := H.2.1 c9
      refine sj_aload_n (pl := 0) S dX3_order_136 rfl rfl ?_
      refine sj_getr S fX_0_7 iX3_order_3 rfl (by decide) mX3_order_34 dX3_order_137 ?_
      refine sj_iload_n (pl := 1) S dX3_order_140 rfl rfl ?_
      refine sj_iald S aX_33 H.1 dX3_order_141 ?_
      have H := H.2
      exact hret _ _ _ _ dX3_order_142 H
    · have H := H.2.2 c9
      refine sj_iload (pl := 3) S dX3_order_131 rfl ?_
      refine sj_goto (tgt := 142) S dX3_order_133 (by decide) ?_
      exact hret _ _ _ _ dX3_order_142 H
  · have H := H.2.2 c9
    refine sj_iload_n (pl := 2) S dX3_order_123 rfl rfl ?_
    exact hret _ _ _ _ dX3_order_124 H
set_option maxRecDepth 100000 in
set_option maxHeartbeats 4000000 in
theorem tX3_order_0 {l : Launch} {g : sq_G} {J : sq_K} {Q : Int → sq_S → Prop} (S : sq_J l rX3_order cX3_order 8 RX3 wsX3_order g sq_X J) (hret : ∀ (pc : Nat) (lv : List (Nat × Value)) (r : Int) (st' : sq_S), decode cX3_order pc = .ok (.ireturn, 1) → Q r st' → J pc lv [.int (sq_z r)] st') (v1 v2 : Int) (st : sq_S) (H : bX3_order_0 (qX3_order_44 J g) (qX3_order_93 J g) (qX3_order_118 J g) Q v1 v2 st) : J 0 [(0, .ref (g.2.2 0)), (1, .int (sq_z v1)), (2, .int (sq_z v2))] [] st := by
  unfold bX3_order_0 at H
  refine sj_iload_n (pl := 1) S dX3_order_0 rfl rfl ?_
  refine sj_iconst S dX3_order_1 ?_
  refine sj_bipush S dX3_order_2 (by decide +kernel) ?_
  refine sj_si (rest := []) S (kX3_isOutside l g v1 2 6 st _ H) (fun s args hts => va_cwS 3 hts gX3_order_X3_isOutside rfl rfl rfl (by decide +kernel) ⟨Nat.le_of_ble_eq_true rfl, Nat.le_of_ble_eq_true rfl⟩) rfl rfl (Nat.le_of_ble_eq_true rfl) dX3_order_4 (fun r199 st200 H => ?_)
  refine sj_if_ne (tgt := 22) S H.1 dX3_order_7 (by decide) (fun c9 => ?_) (fun c9 => ?_)
  · have H := H.2.1 c9
    refine sj_bipush S dX3_order_22 (by decide +kernel) ?_
    exact hret _ _ _ _ dX3_order_24 H
  · have H := H.2.2 c9
    refine sj_iload_n (pl := 2) S dX3_order_10 rfl rfl ?_
    refine sj_bipush S dX3_order_11 (by decide +kernel) ?_
    refine sj_iload_n (pl := 1) S dX3_order_13 rfl rfl ?_
    refine sj_iconst S dX3_order_14 ?_
    refine sj_isub S dX3_order_15 ?_
    refine sj_si (rest := []) S (kX3_isOutside l g v2 (-2) (v1 - 1) st200 _ H) (fun s args hts => va_cwS 3 hts gX3_order_X3_isOutside rfl rfl rfl (by decide +kernel) ⟨Nat.le_of_ble_eq_true rfl, Nat.le_of_ble_eq_true rfl⟩) rfl rfl (Nat.le_of_ble_eq_true rfl) dX3_order_16 (fun r201 st202 H => ?_)
    refine sj_if_eq (tgt := 25) S H.1 dX3_order_19 (by decide) (fun c9 => ?_) (fun c9 => ?_)
    · have H := H.2.1 c9
      refine sj_aload_n (pl := 0) S dX3_order_25 rfl rfl ?_
      refine sj_getr S fX_0_5 iX3_order_3 rfl (by decide) mX3_order_27 dX3_order_26 ?_
      refine sj_iload_n (pl := 1) S dX3_order_29 rfl rfl ?_
      refine sj_vv (rest := []) (q0 := 24) (ci := 2) S (kX2_startOrder l g v1 st202 _ H) (fun s args hts => cwV 1 hts gX3_order_X2_startOrder rfl rfl rfl (by decide +kernel) ⟨Nat.le_of_ble_eq_true rfl, Nat.le_of_ble_eq_true rfl⟩) rfl rfl rfl rfl (Nat.le_of_ble_eq_true rfl) dX3_order_30 (fun st204 H => ?_)
      refine sj_iconst S dX3_order_33 ?_
      refine sj_istore_na (lv' := [(0, .ref (g.2.2 0)), (1, .int (sq_z v1)), (2, .int (sq_z v2))]) S dX3_order_34 rfl (by decide) (fun _ => rfl) ?_
      refine sj_iconst S dX3_order_35 ?_
      refine sj_istorea (lv' := [(3, .int (sq_z (-1))), (0, .ref (g.2.2 0)), (1, .int (sq_z v1)), (2, .int (sq_z v2))]) S dX3_order_36 (by decide) (fun _ => rfl) ?_
      refine sj_iconst S dX3_order_38 ?_
      refine sj_istorea (lv' := [(4, .int (sq_z 0)), (3, .int (sq_z (-1))), (0, .ref (g.2.2 0)), (1, .int (sq_z v1)), (2, .int (sq_z v2))]) S dX3_order_39 (by decide) (fun _ => rfl) ?_
      refine sj_iconst S dX3_order_41 ?_
      refine sj_istorea (lv' := [(5, .int (sq_z 1)), (4, .int (sq_z 0)), (3, .int (sq_z (-1))), (0, .ref (g.2.2 0)), (1, .int (sq_z v1)), (2, .int (sq_z v2))]) S dX3_order_42 (by decide) (fun _ => rfl) ?_
      exact sj_lv S [4, 5, 6, 3, 2, 1, 0] rfl H
    · have H := H.2.2 c9
      refine sj_bipush S dX3_order_22 (by decide +kernel) ?_
      exact hret _ _ _ _ dX3_order_24 H
set_option maxRecDepth 100000 in
set_option maxHeartbeats 4000000 in
theorem kX3_order (l : Launch) (g : sq_G) (v1 v2 : Int) (st : sq_S) (Q : Int → sq_S → Prop) (H : wX3_order v1 v2 st Q) : sq_Ci l yX3_order wsX3_order rX3_order g sq_X [.ref (g.2.2 0), .int (sq_z v1), .int (sq_z v2)] st Q := by
  refine sq_in_i (cc := cX3_order) (nL := 8) (own := RX3) (by decide) rfl rfl (Nat.le_of_ble_eq_true rfl) ?_
  intro J S hret
  exact tX3_order_0 S hret v1 v2 st (H (qX3_order_44 J g) (qX3_order_93 J g) (qX3_order_118 J g) (tX3_order_44 S hret) (tX3_order_93 S hret) (tX3_order_118 S hret))
/-! goodByPairs ()I : X3_goodByPairs -/
theorem iX3_goodByPairs_2 : ∀ w ∈ u_ws RX2 TX2 5, w ∈ wsX3_goodByPairs := fun _ h => List.mem_cons_of_mem _ (List.mem_append_left _ (List.mem_append_left _ (List.mem_append_right _ h)))
theorem iX3_goodByPairs_3 : ∀ w ∈ u_ws RX3 TX3 8, w ∈ wsX3_goodByPairs := fun _ h => List.mem_cons_of_mem _ (List.mem_append_left _ (List.mem_append_left _ (List.mem_append_left _ (List.mem_append_right _ h))))
theorem mX3_goodByPairs_16 : Cond.fieldLink RX3 16 (TX3 2).1 (TX3 2).2.1 (TX3 2).2.2.1 ∈ wsX3_goodByPairs := List.mem_of_getElem? (i := 2) rfl
theorem mX3_goodByPairs_27 : Cond.fieldLink RX3 27 (TX3 5).1 (TX3 5).2.1 (TX3 5).2.2.1 ∈ wsX3_goodByPairs := List.mem_of_getElem? (i := 1) rfl
theorem mX3_goodByPairs_168 : Cond.fieldLink RX3 168 (TX2 0).1 (TX2 0).2.1 (TX2 0).2.2.1 ∈ wsX3_goodByPairs := List.mem_of_getElem? (i := 3) rfl
def wX3_goodByPairs (st : sq_S) (Q : Int → sq_S → Prop) : Prop :=
  wX2_changePairs 0 st (fun _ st239 => wX0_likedIn_25 st239 (fun r240 st241 => Q r240 st241))
def rX3_goodByPairs : Room := { frames := 3, cells := 0, slots := 0, locals := 73 }
set_option maxRecDepth 100000 in
set_option maxHeartbeats 4000000 in
theorem tX3_goodByPairs_0 {l : Launch} {g : sq_G} {J : sq_K} {Q : Int → sq_S → Prop} (S : sq_J l rX3_goodByPairs cX3_goodByPairs 1 RX3 wsX3_goodByPairs g sq_X J) (hret : ∀ (pc : Nat) (lv : List (Nat × Value)) (r : Int) (st' : sq_S), decode cX3_goodByPairs pc = .ok (.ireturn, 1) → Q r st' → J pc lv [.int (sq_z r)] st') (st : sq_S) (H : wX3_goodByPairs st Q) : J 0 [(0, .ref (g.2.2 0))] [] st := by
  unfold wX3_goodByPairs at H
  refine sj_aload_n (pl := 0) S dX3_goodByPairs_0 rfl rfl ?_
  refine sj_getr S fX_0_5 iX3_goodByPairs_3 rfl (by decide) mX3_goodByPairs_27 dX3_goodByPairs_1 ?_
  refine sj_aload_n (pl := 0) S dX3_goodByPairs_4 rfl rfl ?_
  refine sj_getr S fX_0_2 iX3_goodByPairs_3 rfl (by decide) mX3_goodByPairs_16 dX3_goodByPairs_5 ?_
  refine sj_iconst S dX3_goodByPairs_8 ?_
  refine sj_vv (rest := []) (q0 := 24) (ci := 2) S (kX2_changePairs l g 0 st _ H) (fun s args hts => cwV 2 hts gX3_goodByPairs_X2_changePairs rfl rfl rfl (by decide +kernel) ⟨Nat.le_of_ble_eq_true rfl, Nat.le_of_ble_eq_true rfl⟩) rfl rfl rfl rfl (Nat.le_of_ble_eq_true rfl) dX3_goodByPairs_9 (fun st239 H => ?_)
  refine sj_aload_n (pl := 0) S dX3_goodByPairs_12 rfl rfl ?_
  refine sj_getr S fX_0_2 iX3_goodByPairs_3 rfl (by decide) mX3_goodByPairs_16 dX3_goodByPairs_13 ?_
  refine sj_aload_n (pl := 0) S dX3_goodByPairs_16 rfl rfl ?_
  refine sj_getr S fX_0_5 iX3_goodByPairs_3 rfl (by decide) mX3_goodByPairs_27 dX3_goodByPairs_17 ?_
  refine sj_getr S fX_24_0 iX3_goodByPairs_2 rfl (by decide) mX3_goodByPairs_168 dX3_goodByPairs_20 ?_
  refine sj_vi (rest := []) (q0 := 2) (ci := 0) S (kX0_likedIn_25 l g st239 _ H) (fun s args hts => cwV 1 hts gX3_goodByPairs_X0_likedIn rfl rfl rfl (by decide +kernel) ⟨Nat.le_of_ble_eq_true rfl, Nat.le_of_ble_eq_true rfl⟩) rfl rfl rfl rfl (Nat.le_of_ble_eq_true rfl) dX3_goodByPairs_23 (fun r240 st241 H => ?_)
  exact hret _ _ _ _ dX3_goodByPairs_26 H
set_option maxRecDepth 100000 in
set_option maxHeartbeats 4000000 in
theorem kX3_goodByPairs (l : Launch) (g : sq_G) (st : sq_S) (Q : Int → sq_S → Prop) (H : wX3_goodByPairs  st Q) : sq_Ci l yX3_goodByPairs wsX3_goodByPairs rX3_goodByPairs g sq_X [.ref (g.2.2 0)] st Q := by
  refine sq_in_i (cc := cX3_goodByPairs) (nL := 1) (own := RX3) (by decide) rfl rfl (Nat.le_of_ble_eq_true rfl) ?_
  intro J S hret
  exact tX3_goodByPairs_0 S hret  st H
/-! exchange (II)V : X1_exchange -/
theorem iX1_exchange_1 : ∀ w ∈ u_ws RX1 TX1 2, w ∈ wsX1_exchange := fun _ h => List.mem_cons_of_mem _ (List.mem_append_right _ h)
theorem mX1_exchange_9 : Cond.fieldLink RX1 9 (TX1 0).1 (TX1 0).2.1 (TX1 0).2.2.1 ∈ wsX1_exchange := List.mem_of_getElem? (i := 1) rfl
def wX1_exchange (v1 v2 : Int) (st : sq_S) (Q : Int → sq_S → Prop) : Prop :=
  sq_ib v1 16 ∧ (∀ y247 : Int, y247 = (st 27 v1.toNat) → (sq_ib v2 16 ∧ (wX1_put (st 27 v2.toNat) v1 st (fun _ st248 => wX1_put y247 v2 st248 (fun _ st249 => Q 0 st249)))))
def rX1_exchange : Room := { frames := 1, cells := 0, slots := 0, locals := 22 }
set_option maxRecDepth 100000 in
set_option maxHeartbeats 4000000 in
theorem tX1_exchange_0 {l : Launch} {g : sq_G} {J : sq_K} {Q : Int → sq_S → Prop} (S : sq_J l rX1_exchange cX1_exchange 4 RX1 wsX1_exchange g sq_X J) (hret : ∀ (pc : Nat) (lv : List (Nat × Value)) (st' : sq_S), decode cX1_exchange pc = .ok (.return_, 1) → Q 0 st' → J pc lv [] st') (v1 v2 : Int) (st : sq_S) (H : wX1_exchange v1 v2 st Q) : J 0 [(0, .ref (g.2.2 26)), (1, .int (sq_z v1)), (2, .int (sq_z v2))] [] st := by
  unfold wX1_exchange at H
  refine sj_aload_n (pl := 0) S dX1_exchange_0 rfl rfl ?_
  refine sj_getr S fX_26_0 iX1_exchange_1 rfl (by decide) mX1_exchange_9 dX1_exchange_1 ?_
  refine sj_iload_n (pl := 1) S dX1_exchange_4 rfl rfl ?_
  refine sj_iald S aX_27 H.1 dX1_exchange_5 ?_
  have H := H.2
  refine sj_istore_n (lv' := [(0, .ref (g.2.2 26)), (1, .int (sq_z v1)), (2, .int (sq_z v2))]) S dX1_exchange_6 rfl (by decide) (fun _ => rfl) (fun y247 ey247 => ?_)
  have H := H y247 ey247
  refine sj_aload_n (pl := 1) S dX1_exchange_7 rfl rfl ?_
  refine sj_aload_n (pl := 1) S dX1_exchange_8 rfl rfl ?_
  refine sj_getr S fX_26_0 iX1_exchange_1 rfl (by decide) mX1_exchange_9 dX1_exchange_9 ?_
  refine sj_iload_n (pl := 3) S dX1_exchange_12 rfl rfl ?_
  refine sj_iald S aX_27 H.1 dX1_exchange_13 ?_
  have H := H.2
  refine sj_iload_n (pl := 2) S dX1_exchange_14 rfl rfl ?_
  refine sj_vv (rest := []) (q0 := 26) (ci := 1) S (kX1_put l g (st 27 v2.toNat) v1 st _ H) (fun s args hts => cwV 2 hts gX1_exchange_X1_put rfl rfl rfl (by decide +kernel) ⟨Nat.le_of_ble_eq_true rfl, Nat.le_of_ble_eq_true rfl⟩) rfl rfl rfl rfl (Nat.le_of_ble_eq_true rfl) dX1_exchange_15 (fun st248 H => ?_)
  refine sj_aload_n (pl := 1) S dX1_exchange_18 rfl rfl ?_
  refine sj_iload_n (pl := 0) S dX1_exchange_19 rfl rfl ?_
  refine sj_iload_n (pl := 3) S dX1_exchange_20 rfl rfl ?_
  refine sj_vv (rest := []) (q0 := 26) (ci := 1) S (kX1_put l g y247 v2 st248 _ H) (fun s args hts => cwV 2 hts gX1_exchange_X1_put rfl rfl rfl (by decide +kernel) ⟨Nat.le_of_ble_eq_true rfl, Nat.le_of_ble_eq_true rfl⟩) rfl rfl rfl rfl (Nat.le_of_ble_eq_true rfl) dX1_exchange_21 (fun st249 H => ?_)
  exact hret _ _ _ dX1_exchange_24 H
set_option maxRecDepth 100000 in
set_option maxHeartbeats 4000000 in
theorem kX1_exchange (l : Launch) (g : sq_G) (v1 v2 : Int) (st : sq_S) (Q : Int → sq_S → Prop) (H : wX1_exchange v1 v2 st Q) : sq_Cv l yX1_exchange wsX1_exchange rX1_exchange g sq_X [.ref (g.2.2 26), .int (sq_z v1), .int (sq_z v2)] st Q := by
  refine sq_in_v (cc := cX1_exchange) (nL := 4) (own := RX1) (by decide) rfl rfl (Nat.le_of_ble_eq_true rfl) ?_
  intro J S hret
  exact tX1_exchange_0 S hret v1 v2 st H
/-! climb (III)I : X3_climb -/
theorem iX3_climb_0 : ∀ w ∈ u_ws RX0 TX0 9, w ∈ wsX3_climb := fun _ h => List.mem_cons_of_mem _ (List.mem_append_left _ (List.mem_append_right _ h))
theorem iX3_climb_1 : ∀ w ∈ u_ws RX1 TX1 2, w ∈ wsX3_climb := fun _ h => List.mem_cons_of_mem _ (List.mem_append_right _ h)
theorem iX3_climb_2 : ∀ w ∈ u_ws RX2 TX2 5, w ∈ wsX3_climb := fun _ h => List.mem_cons_of_mem _ (List.mem_append_left _ (List.mem_append_left _ (List.mem_append_right _ h)))
theorem iX3_climb_3 : ∀ w ∈ u_ws RX3 TX3 8, w ∈ wsX3_climb := fun _ h => List.mem_cons_of_mem _ (List.mem_append_left _ (List.mem_append_left _ (List.mem_append_left _ (List.mem_append_right _ h))))
theorem mX3_climb_16 : Cond.fieldLink RX3 16 (TX3 2).1 (TX3 2).2.1 (TX3 2).2.2.1 ∈ wsX3_climb := List.mem_of_getElem? (i := 3) rfl
theorem mX3_climb_27 : Cond.fieldLink RX3 27 (TX3 5).1 (TX3 5).2.1 (TX3 5).2.2.1 ∈ wsX3_climb := List.mem_of_getElem? (i := 1) rfl
theorem mX3_climb_59 : Cond.fieldLink RX3 59 (TX0 2).1 (TX0 2).2.1 (TX0 2).2.2.1 ∈ wsX3_climb := List.mem_of_getElem? (i := 4) rfl
theorem mX3_climb_62 : Cond.fieldLink RX3 62 (TX0 3).1 (TX0 3).2.1 (TX0 3).2.2.1 ∈ wsX3_climb := List.mem_of_getElem? (i := 5) rfl
theorem mX3_climb_86 : Cond.fieldLink RX3 86 (TX2 1).1 (TX2 1).2.1 (TX2 1).2.2.1 ∈ wsX3_climb := List.mem_of_getElem? (i := 2) rfl
theorem mX3_climb_96 : Cond.fieldLink RX3 96 (TX1 0).1 (TX1 0).2.1 (TX1 0).2.2.1 ∈ wsX3_climb := List.mem_of_getElem? (i := 7) rfl
def bX3_climb_88 (K88 : Int → Int → Int → Int → Int → Int → sq_S → Prop) (Q : Int → sq_S → Prop) (v2 v3 v5 v6 v7 v8 : Int) (st : sq_S) : Prop :=
  (sq_rg v8 ∧ sq_rg v2) ∧ (v2 ≤ v8 → (sq_rg v3 ∧ sq_rg (-1)) ∧ (¬ v3 = (-1) → (sq_rg v3 ∧ sq_rg (-2)) ∧ (¬ v3 = (-2) → sq_ib v3 16 ∧ (Q (st 27 v3.toNat) st)) ∧ (v3 = (-2) → Q v6 st)) ∧ (v3 = (-1) → Q v5 st)) ∧ (v8 < v2 → ((0 ≤ ((75 * v7) + 74) ∧ ((75 * v7) + 74) ≤ 2147483647) ∧ (0 < (65537 : Int) ∧ (65537 : Int) ≤ 2147483647)) ∧ (∀ y244 : Int, y244 = (((75 * v7) + 74) % 65537) → (((0 ≤ y244 ∧ y244 ≤ 2147483647) ∧ (0 < (16 : Int) ∧ (16 : Int) ≤ 2147483647)) ∧ (∀ y245 : Int, y245 = (y244 % 16) → (((0 ≤ y244 ∧ y244 ≤ 2147483647) ∧ (0 < (16 : Int) ∧ (16 : Int) ≤ 2147483647)) ∧ (((0 ≤ (y244 / 16) ∧ (y244 / 16) ≤ 2147483647) ∧ (0 < (16 : Int) ∧ (16 : Int) ≤ 2147483647)) ∧ (∀ y246 : Int, y246 = ((y244 / 16) % 16) → (wX1_exchange y245 y246 st (fun _ st250 => wX3_goodByPairs st250 (fun r251 st252 => (sq_rg r251 ∧ sq_rg v5) ∧ (v5 ≤ r251 → K88 v2 v3 r251 (v6 + 1) y244 (v8 + 1) st252) ∧ (r251 < v5 → wX1_exchange y245 y246 st252 (fun _ st253 => K88 v2 v3 v5 v6 y244 (v8 + 1) st253))))))))))))
def bX3_climb_0 (K88 : Int → Int → Int → Int → Int → Int → sq_S → Prop) (Q : Int → sq_S → Prop) (v1 v2 v3 : Int) (st : sq_S) : Prop :=
  wX3_isOutside v1 0 9999 st (fun r230 st231 => sq_rg r230 ∧ (¬ r230 = 0 → Q (-2) st231) ∧ (r230 = 0 → wX3_isOutside v2 0 60 st231 (fun r232 st233 => sq_rg r232 ∧ (¬ r232 = 0 → Q (-2) st233) ∧ (r232 = 0 → wX3_isOutside v3 (-2) 15 st233 (fun r234 st235 => sq_rg r234 ∧ (r234 = 0 → wX3_hasOddText st235 (fun r236 st237 => sq_rg r236 ∧ (r236 = 0 → wX1_layOut (st237 2 3) st237 (fun _ st238 => wX3_goodByPairs st238 (fun r242 st243 => K88 v2 v3 r242 0 v1 0 st243))) ∧ (¬ r236 = 0 → Q (-3) st237))) ∧ (¬ r234 = 0 → Q (-2) st235))))))
def wX3_climb (v1 v2 v3 : Int) (st : sq_S) (Q : Int → sq_S → Prop) : Prop :=
  ∀ (K88 : Int → Int → Int → Int → Int → Int → sq_S → Prop), (∀ (v2 v3 v5 v6 v7 v8 : Int) (st : sq_S), bX3_climb_88 K88 Q v2 v3 v5 v6 v7 v8 st → K88 v2 v3 v5 v6 v7 v8 st) → bX3_climb_0 K88 Q v1 v2 v3 st
def rX3_climb : Room := { frames := 4, cells := 0, slots := 0, locals := 93 }
def qX3_climb_88 (J : sq_K) (g : sq_G) : Int → Int → Int → Int → Int → Int → sq_S → Prop := fun v2 v3 v5 v6 v7 v8 st => J 88 [(0, .ref (g.2.2 0)), (2, .int (sq_z v2)), (3, .int (sq_z v3)), (4, .ref (g.2.2 26)), (5, .int (sq_z v5)), (6, .int (sq_z v6)), (7, .int (sq_z v7)), (8, .int (sq_z v8))] [] st
set_option maxRecDepth 100000 in
set_option maxHeartbeats 4000000 in
theorem tX3_climb_88 {l : Launch} {g : sq_G} {J : sq_K} {Q : Int → sq_S → Prop} (S : sq_J l rX3_climb cX3_climb 12 RX3 wsX3_climb g sq_X J) (hret : ∀ (pc : Nat) (lv : List (Nat × Value)) (r : Int) (st' : sq_S), decode cX3_climb pc = .ok (.ireturn, 1) → Q r st' → J pc lv [.int (sq_z r)] st') (v2 v3 v5 v6 v7 v8 : Int) (st : sq_S) (H : bX3_climb_88 (qX3_climb_88 J g) Q v2 v3 v5 v6 v7 v8 st) : J 88 [(0, .ref (g.2.2 0)), (2, .int (sq_z v2)), (3, .int (sq_z v3)), (4, .ref (g.2.2 26)), (5, .int (sq_z v5)), (6, .int (sq_z v6)), (7, .int (sq_z v7)), (8, .int (sq_z v8))] [] st := by
  unfold bX3_climb_88 at H
  refine sj_iload (pl := 7) S dX3_climb_88 rfl ?_
  refine sj_iload_n (pl := 1) S dX3_climb_90 rfl rfl ?_
  refine sj_icmp_ge (tgt := 171) S H.1 dX3_climb_91 (by decide) (fun c9 => ?_) (fun c9 => ?_)
  · have H := H.2.1 c9
    refine sj_iload_n (pl := 2) S dX3_climb_171 rfl rfl ?_
    refine sj_iconst S dX3_climb_172 ?_
    refine sj_icmp_ne (tgt := 179) S H.1 dX3_climb_173 (by decide) (fun c9 => ?_) (fun c9 => ?_)
    · have H := H.2.1 c9
      refine sj_iload_n (pl := 2) S dX3_climb_179 rfl rfl ?_
      refine sj_bipush S dX3_climb_180 (by decide +kernel) ?_
      refine sj_icmp_ne (tgt := 190) S H.1 dX3_climb_182 (by decide) (fun c9 => ?_) (fun c9 => ?_)
      · have H := H.2.1 c9
        refine sj_aload (pl := 3) S dX3_climb_190 rfl ?_
        refine sj_getr S fX_26_0 iX3_climb_1 rfl (by decide) mX3_climb_96 dX3_climb_192 ?_
        refine sj_iload_n (pl := 2) S dX3_climb_195 rfl rfl ?_
        refine sj_iald S aX_27 H.1 dX3_climb_196 ?_
        have H := H.2
        exact hret _ _ _ _ dX3_climb_197 H
      · have H := H.2.2 c9
        refine sj_iload (pl := 5) S dX3_climb_185 rfl ?_
        refine sj_goto (tgt := 197) S dX3_climb_187 (by decide) ?_
        exact hret _ _ _ _ dX3_climb_197 H
    · have H := H.2.2 c9
      refine sj_iload (pl := 4) S dX3_climb_176 rfl ?_
      exact hret _ _ _ _ dX3_climb_178 H
  · have H := H.2.2 c9
    refine sj_bipush S dX3_climb_94 (by decide +kernel) ?_
    refine sj_iload (pl := 6) S dX3_climb_96 rfl ?_
    refine sj_imul S dX3_climb_98 ?_
    refine sj_bipush S dX3_climb_99 (by decide +kernel) ?_
    refine sj_iadd S dX3_climb_101 ?_
    refine sj_ldc (n := 65537) S dX3_climb_102 (List.mem_of_getElem? (i := 6) rfl) rfl ?_
    refine sj_irem S H.1 dX3_climb_104 ?_
    have H := H.2
    refine sj_istore (lv' := [(0, .ref (g.2.2 0)), (2, .int (sq_z v2)), (3, .int (sq_z v3)), (4, .ref (g.2.2 26)), (5, .int (sq_z v5)), (6, .int (sq_z v6)), (8, .int (sq_z v8))]) S dX3_climb_105 (by decide) (fun _ => rfl) (fun y244 ey244 => ?_)
    have H := H y244 ey244
    refine sj_iload (pl := 0) S dX3_climb_107 rfl ?_
    refine sj_bipush S dX3_climb_109 (by decide +kernel) ?_
    refine sj_irem S H.1 dX3_climb_111 ?_
    have H := H.2
    refine sj_istore (lv' := [(7, .int (sq_z y244)), (0, .ref (g.2.2 0)), (2, .int (sq_z v2)), (3, .int (sq_z v3)), (4, .ref (g.2.2 26)), (5, .int (sq_z v5)), (6, .int (sq_z v6)), (8, .int (sq_z v8))]) S dX3_climb_112 (by decide) (fun _ => rfl) (fun y245 ey245 => ?_)
    have H := H y245 ey245
    refine sj_iload (pl := 1) S dX3_climb_114 rfl ?_
    refine sj_bipush S dX3_climb_116 (by decide +kernel) ?_
    refine sj_idiv S H.1 dX3_climb_118 ?_
    have H := H.2
    refine sj_bipush S dX3_climb_119 (by decide +kernel) ?_
    refine sj_irem S H.1 dX3_climb_121 ?_
    have H := H.2
    refine sj_istore (lv' := [(9, .int (sq_z y245)), (7, .int (sq_z y244)), (0, .ref (g.2.2 0)), (2, .int (sq_z v2)), (3, .int (sq_z v3)), (4, .ref (g.2.2 26)), (5, .int (sq_z v5)), (6, .int (sq_z v6)), (8, .int (sq_z v8))]) S dX3_climb_122 (by decide) (fun _ => rfl) (fun y246 ey246 => ?_)
    have H := H y246 ey246
    refine sj_aload (pl := 6) S dX3_climb_124 rfl ?_
    refine sj_iload (pl := 1) S dX3_climb_126 rfl ?_
    refine sj_iload (pl := 0) S dX3_climb_128 rfl ?_
    refine sj_vv (rest := []) (q0 := 26) (ci := 1) S (kX1_exchange l g y245 y246 st _ H) (fun s args hts => cwV 2 hts gX3_climb_X1_exchange rfl rfl rfl (by decide +kernel) ⟨Nat.le_of_ble_eq_true rfl, Nat.le_of_ble_eq_true rfl⟩) rfl rfl rfl rfl (Nat.le_of_ble_eq_true rfl) dX3_climb_130 (fun st250 H => ?_)
    refine sj_aload_n (pl := 3) S dX3_climb_133 rfl rfl ?_
    refine sj_vi (rest := []) (q0 := 0) (ci := 3) S (kX3_goodByPairs l g st250 _ H) (fun s args hts => cwV 0 hts gX3_climb_X3_goodByPairs rfl rfl rfl (by decide +kernel) ⟨Nat.le_of_ble_eq_true rfl, Nat.le_of_ble_eq_true rfl⟩) rfl rfl rfl rfl (Nat.le_of_ble_eq_true rfl) dX3_climb_134 (fun r251 st252 H => ?_)
    refine sj_istorea (lv' := [(10, .int (sq_z y246)), (9, .int (sq_z y245)), (7, .int (sq_z y244)), (0, .ref (g.2.2 0)), (2, .int (sq_z v2)), (3, .int (sq_z v3)), (4, .ref (g.2.2 26)), (5, .int (sq_z v5)), (6, .int (sq_z v6)), (8, .int (sq_z v8))]) S dX3_climb_137 (by decide) (fun _ => rfl) ?_
    refine sj_iload (pl := 0) S dX3_climb_139 rfl ?_
    refine sj_iload (pl := 8) S dX3_climb_141 rfl ?_
    refine sj_icmp_ge (tgt := 158) S H.1 dX3_climb_143 (by decide) (fun c9 => ?_) (fun c9 => ?_)
    · have H := H.2.1 c9
      refine sj_iload (pl := 0) S dX3_climb_158 rfl ?_
      refine sj_istorea (lv' := [(11, .int (sq_z r251)), (10, .int (sq_z y246)), (9, .int (sq_z y245)), (7, .int (sq_z y244)), (0, .ref (g.2.2 0)), (2, .int (sq_z v2)), (3, .int (sq_z v3)), (4, .ref (g.2.2 26)), (6, .int (sq_z v6)), (8, .int (sq_z v8))]) S dX3_climb_160 (by decide) (fun _ => rfl) ?_
      refine sj_iinc (pl := 9) (lv' := [(5, .int (sq_z r251)), (11, .int (sq_z r251)), (10, .int (sq_z y246)), (9, .int (sq_z y245)), (7, .int (sq_z y244)), (0, .ref (g.2.2 0)), (2, .int (sq_z v2)), (3, .int (sq_z v3)), (4, .ref (g.2.2 26)), (8, .int (sq_z v8))]) S dX3_climb_162 rfl (by decide) (fun _ => rfl) ?_
      refine sj_iinc (pl := 10) (lv' := [(6, .int (sq_z (v6 + 1))), (5, .int (sq_z r251)), (11, .int (sq_z r251)), (10, .int (sq_z y246)), (9, .int (sq_z y245)), (7, .int (sq_z y244)), (0, .ref (g.2.2 0)), (2, .int (sq_z v2)), (3, .int (sq_z v3)), (4, .ref (g.2.2 26))]) S dX3_climb_165 rfl (by decide) (fun _ => rfl) ?_
      refine sj_goto (tgt := 88) S dX3_climb_168 (by decide) ?_
      exact sj_lv S [7, 8, 9, 10, 2, 1, 6, 0] rfl H
    · have H := H.2.2 c9
      refine sj_aload (pl := 7) S dX3_climb_146 rfl ?_
      refine sj_iload (pl := 2) S dX3_climb_148 rfl ?_
      refine sj_iload (pl := 1) S dX3_climb_150 rfl ?_
      refine sj_vv (rest := []) (q0 := 26) (ci := 1) S (kX1_exchange l g y245 y246 st252 _ H) (fun s args hts => cwV 2 hts gX3_climb_X1_exchange rfl rfl rfl (by decide +kernel) ⟨Nat.le_of_ble_eq_true rfl, Nat.le_of_ble_eq_true rfl⟩) rfl rfl rfl rfl (Nat.le_of_ble_eq_true rfl) dX3_climb_152 (fun st253 H => ?_)
      refine sj_goto (tgt := 165) S dX3_climb_155 (by decide) ?_
      refine sj_iinc (pl := 10) (lv' := [(11, .int (sq_z r251)), (10, .int (sq_z y246)), (9, .int (sq_z y245)), (7, .int (sq_z y244)), (0, .ref (g.2.2 0)), (2, .int (sq_z v2)), (3, .int (sq_z v3)), (4, .ref (g.2.2 26)), (5, .int (sq_z v5)), (6, .int (sq_z v6))]) S dX3_climb_165 rfl (by decide) (fun _ => rfl) ?_
      refine sj_goto (tgt := 88) S dX3_climb_168 (by decide) ?_
      exact sj_lv S [5, 6, 7, 8, 9, 10, 4, 0] rfl H
set_option maxRecDepth 100000 in
set_option maxHeartbeats 4000000 in
theorem tX3_climb_0 {l : Launch} {g : sq_G} {J : sq_K} {Q : Int → sq_S → Prop} (S : sq_J l rX3_climb cX3_climb 12 RX3 wsX3_climb g sq_X J) (hret : ∀ (pc : Nat) (lv : List (Nat × Value)) (r : Int) (st' : sq_S), decode cX3_climb pc = .ok (.ireturn, 1) → Q r st' → J pc lv [.int (sq_z r)] st') (v1 v2 v3 : Int) (st : sq_S) (H : bX3_climb_0 (qX3_climb_88 J g) Q v1 v2 v3 st) : J 0 [(0, .ref (g.2.2 0)), (1, .int (sq_z v1)), (2, .int (sq_z v2)), (3, .int (sq_z v3))] [] st := by
  unfold bX3_climb_0 at H
  refine sj_iload_n (pl := 1) S dX3_climb_0 rfl rfl ?_
  refine sj_iconst S dX3_climb_1 ?_
  refine sj_sipush S dX3_climb_2 (by decide +kernel) ?_
  refine sj_si (rest := []) S (kX3_isOutside l g v1 0 9999 st _ H) (fun s args hts => va_cwS 3 hts gX3_climb_X3_isOutside rfl rfl rfl (by decide +kernel) ⟨Nat.le_of_ble_eq_true rfl, Nat.le_of_ble_eq_true rfl⟩) rfl rfl (Nat.le_of_ble_eq_true rfl) dX3_climb_5 (fun r230 st231 H => ?_)
  refine sj_if_ne (tgt := 32) S H.1 dX3_climb_8 (by decide) (fun c9 => ?_) (fun c9 => ?_)
  · have H := H.2.1 c9
    refine sj_bipush S dX3_climb_32 (by decide +kernel) ?_
    exact hret _ _ _ _ dX3_climb_34 H
  · have H := H.2.2 c9
    refine sj_iload_n (pl := 2) S dX3_climb_11 rfl rfl ?_
    refine sj_iconst S dX3_climb_12 ?_
    refine sj_bipush S dX3_climb_13 (by decide +kernel) ?_
    refine sj_si (rest := []) S (kX3_isOutside l g v2 0 60 st231 _ H) (fun s args hts => va_cwS 3 hts gX3_climb_X3_isOutside rfl rfl rfl (by decide +kernel) ⟨Nat.le_of_ble_eq_true rfl, Nat.le_of_ble_eq_true rfl⟩) rfl rfl (Nat.le_of_ble_eq_true rfl) dX3_climb_15 (fun r232 st233 H => ?_)
    refine sj_if_ne (tgt := 32) S H.1 dX3_climb_18 (by decide) (fun c9 => ?_) (fun c9 => ?_)
    · have H := H.2.1 c9
      refine sj_bipush S dX3_climb_32 (by decide +kernel) ?_
      exact hret _ _ _ _ dX3_climb_34 H
    · have H := H.2.2 c9
      refine sj_iload_n (pl := 3) S dX3_climb_21 rfl rfl ?_
      refine sj_bipush S dX3_climb_22 (by decide +kernel) ?_
      refine sj_bipush S dX3_climb_24 (by decide +kernel) ?_
      refine sj_si (rest := []) S (kX3_isOutside l g v3 (-2) 15 st233 _ H) (fun s args hts => va_cwS 3 hts gX3_climb_X3_isOutside rfl rfl rfl (by decide +kernel) ⟨Nat.le_of_ble_eq_true rfl, Nat.le_of_ble_eq_true rfl⟩) rfl rfl (Nat.le_of_ble_eq_true rfl) dX3_climb_26 (fun r234 st235 H => ?_)
      refine sj_if_eq (tgt := 35) S H.1 dX3_climb_29 (by decide) (fun c9 => ?_) (fun c9 => ?_)
      · have H := H.2.1 c9
        refine sj_aload_n (pl := 0) S dX3_climb_35 rfl rfl ?_
        refine sj_vi (rest := []) (q0 := 0) (ci := 3) S (kX3_hasOddText l g st235 _ H) (fun s args hts => cwV 0 hts gX3_climb_X3_hasOddText rfl rfl rfl (by decide +kernel) ⟨Nat.le_of_ble_eq_true rfl, Nat.le_of_ble_eq_true rfl⟩) rfl rfl rfl rfl (Nat.le_of_ble_eq_true rfl) dX3_climb_36 (fun r236 st237 H => ?_)
        refine sj_if_eq (tgt := 45) S H.1 dX3_climb_39 (by decide) (fun c9 => ?_) (fun c9 => ?_)
        · have H := H.2.1 c9
          refine sj_aload_n (pl := 0) S dX3_climb_45 rfl rfl ?_
          refine sj_getr S fX_0_5 iX3_climb_3 rfl (by decide) mX3_climb_27 dX3_climb_46 ?_
          refine sj_getr S fX_24_1 iX3_climb_2 rfl (by decide) mX3_climb_86 dX3_climb_49 ?_
          refine sj_astore (lv' := [(4, .ref (g.2.2 26)), (0, .ref (g.2.2 0)), (1, .int (sq_z v1)), (2, .int (sq_z v2)), (3, .int (sq_z v3))]) S dX3_climb_52 (by decide) rfl ?_
          refine sj_aload (pl := 0) S dX3_climb_54 rfl ?_
          refine sj_aload_n (pl := 1) S dX3_climb_56 rfl rfl ?_
          refine sj_getr S fX_0_2 iX3_climb_3 rfl (by decide) mX3_climb_16 dX3_climb_57 ?_
          refine sj_getr S fX_2_2 iX3_climb_0 rfl (by decide) mX3_climb_59 dX3_climb_60 ?_
          refine sj_aload_n (pl := 1) S dX3_climb_63 rfl rfl ?_
          refine sj_getr S fX_0_2 iX3_climb_3 rfl (by decide) mX3_climb_16 dX3_climb_64 ?_
          refine sj_geti S fX_2_3 iX3_climb_0 rfl (by decide) mX3_climb_62 dX3_climb_67 ?_
          refine sj_vv (rest := []) (q0 := 26) (ci := 1) S (kX1_layOut l g (st237 2 3) st237 _ H) (fun s args hts => cwV 2 hts gX3_climb_X1_layOut rfl rfl rfl (by decide +kernel) ⟨Nat.le_of_ble_eq_true rfl, Nat.le_of_ble_eq_true rfl⟩) rfl rfl rfl rfl (Nat.le_of_ble_eq_true rfl) dX3_climb_70 (fun st238 H => ?_)
          refine sj_aload_n (pl := 1) S dX3_climb_73 rfl rfl ?_
          refine sj_vi (rest := []) (q0 := 0) (ci := 3) S (kX3_goodByPairs l g st238 _ H) (fun s args hts => cwV 0 hts gX3_climb_X3_goodByPairs rfl rfl rfl (by decide +kernel) ⟨Nat.le_of_ble_eq_true rfl, Nat.le_of_ble_eq_true rfl⟩) rfl rfl rfl rfl (Nat.le_of_ble_eq_true rfl) dX3_climb_74 (fun r242 st243 H => ?_)
          refine sj_istorea (lv' := [(4, .ref (g.2.2 26)), (0, .ref (g.2.2 0)), (1, .int (sq_z v1)), (2, .int (sq_z v2)), (3, .int (sq_z v3))]) S dX3_climb_77 (by decide) (fun _ => rfl) ?_
          refine sj_iconst S dX3_climb_79 ?_
          refine sj_istorea (lv' := [(5, .int (sq_z r242)), (4, .ref (g.2.2 26)), (0, .ref (g.2.2 0)), (1, .int (sq_z v1)), (2, .int (sq_z v2)), (3, .int (sq_z v3))]) S dX3_climb_80 (by decide) (fun _ => rfl) ?_
          refine sj_iload_n (pl := 4) S dX3_climb_82 rfl rfl ?_
          refine sj_istorea (lv' := [(6, .int (sq_z 0)), (5, .int (sq_z r242)), (4, .ref (g.2.2 26)), (0, .ref (g.2.2 0)), (1, .int (sq_z v1)), (2, .int (sq_z v2)), (3, .int (sq_z v3))]) S dX3_climb_83 (by decide) (fun _ => rfl) ?_
          refine sj_iconst S dX3_climb_85 ?_
          refine sj_istorea (lv' := [(7, .int (sq_z v1)), (6, .int (sq_z 0)), (5, .int (sq_z r242)), (4, .ref (g.2.2 26)), (0, .ref (g.2.2 0)), (1, .int (sq_z v1)), (2, .int (sq_z v2)), (3, .int (sq_z v3))]) S dX3_climb_86 (by decide) (fun _ => rfl) ?_
          exact sj_lv S [5, 7, 8, 4, 3, 2, 1, 0] rfl H
        · have H := H.2.2 c9
          refine sj_bipush S dX3_climb_42 (by decide +kernel) ?_
          exact hret _ _ _ _ dX3_climb_44 H
      · have H := H.2.2 c9
        refine sj_bipush S dX3_climb_32 (by decide +kernel) ?_
        exact hret _ _ _ _ dX3_climb_34 H
set_option maxRecDepth 100000 in
set_option maxHeartbeats 4000000 in
theorem kX3_climb (l : Launch) (g : sq_G) (v1 v2 v3 : Int) (st : sq_S) (Q : Int → sq_S → Prop) (H : wX3_climb v1 v2 v3 st Q) : sq_Ci l yX3_climb wsX3_climb rX3_climb g sq_X [.ref (g.2.2 0), .int (sq_z v1), .int (sq_z v2), .int (sq_z v3)] st Q := by
  refine sq_in_i (cc := cX3_climb) (nL := 12) (own := RX3) (by decide) rfl rfl (Nat.le_of_ble_eq_true rfl) ?_
  intro J S hret
  exact tX3_climb_0 S hret v1 v2 v3 st (H (qX3_climb_88 J g) (tX3_climb_88 S hret))
/-! copyFrom (LSecretSquares$Desk;)V : X0_copyFrom_9_2 -/
theorem iX0_copyFrom_0 : ∀ w ∈ u_ws RX0 TX0 9, w ∈ wsX0_copyFrom := fun _ h => List.mem_cons_of_mem _ (List.mem_append_right _ h)
theorem mX0_copyFrom_9 : Cond.fieldLink RX0 9 (TX0 0).1 (TX0 0).2.1 (TX0 0).2.2.1 ∈ wsX0_copyFrom := List.mem_of_getElem? (i := 1) rfl
theorem mX0_copyFrom_15 : Cond.fieldLink RX0 15 (TX0 2).1 (TX0 2).2.1 (TX0 2).2.2.1 ∈ wsX0_copyFrom := List.mem_of_getElem? (i := 7) rfl
theorem mX0_copyFrom_18 : Cond.fieldLink RX0 18 (TX0 3).1 (TX0 3).2.1 (TX0 3).2.2.1 ∈ wsX0_copyFrom := List.mem_of_getElem? (i := 8) rfl
theorem mX0_copyFrom_22 : Cond.fieldLink RX0 22 (TX0 4).1 (TX0 4).2.1 (TX0 4).2.2.1 ∈ wsX0_copyFrom := List.mem_of_getElem? (i := 9) rfl
theorem mX0_copyFrom_25 : Cond.fieldLink RX0 25 (TX0 5).1 (TX0 5).2.1 (TX0 5).2.2.1 ∈ wsX0_copyFrom := List.mem_of_getElem? (i := 10) rfl
theorem mX0_copyFrom_28 : Cond.fieldLink RX0 28 (TX0 6).1 (TX0 6).2.1 (TX0 6).2.2.1 ∈ wsX0_copyFrom := List.mem_of_getElem? (i := 11) rfl
theorem mX0_copyFrom_31 : Cond.fieldLink RX0 31 (TX0 7).1 (TX0 7).2.1 (TX0 7).2.2.1 ∈ wsX0_copyFrom := List.mem_of_getElem? (i := 12) rfl
theorem mX0_copyFrom_40 : Cond.fieldLink RX0 40 (TX0 1).1 (TX0 1).2.1 (TX0 1).2.2.1 ∈ wsX0_copyFrom := List.mem_of_getElem? (i := 6) rfl
theorem mX0_copyFrom_43 : Cond.fieldLink RX0 43 (TX0 8).1 (TX0 8).2.1 (TX0 8).2.2.1 ∈ wsX0_copyFrom := List.mem_of_getElem? (i := 13) rfl
def wX0_copyFrom_9_2 (st : sq_S) (Q : Int → sq_S → Prop) : Prop :=
  ((0 ≤ (0 : Int) ∧ 0 ≤ (0 : Int) ∧ 0 ≤ (48 : Int)) ∧ (0 : Int) + 48 ≤ 48 ∧ (0 : Int) + 48 ≤ 48) ∧ ∀ st256 : sq_S, st256 = sq_row st 10 (sq_cp (st 3) (st 10) 0 0 48) → (∀ st257 : sq_S, st257 = sq_set st256 9 1 (st256 2 1) → (((0 ≤ (0 : Int) ∧ 0 ≤ (0 : Int) ∧ 0 ≤ (6 : Int)) ∧ (0 : Int) + 6 ≤ 6 ∧ (0 : Int) + 6 ≤ 6) ∧ ∀ st258 : sq_S, st258 = sq_row st257 11 (sq_cp (st257 4) (st257 11) 0 0 6) → (∀ st259 : sq_S, st259 = sq_set st258 9 3 (st258 2 3) → (((0 ≤ (0 : Int) ∧ 0 ≤ (0 : Int) ∧ 0 ≤ (16 : Int)) ∧ (0 : Int) + 16 ≤ 16 ∧ (0 : Int) + 16 ≤ 16) ∧ ∀ st260 : sq_S, st260 = sq_row st259 12 (sq_cp (st259 5) (st259 12) 0 0 16) → (((0 ≤ (0 : Int) ∧ 0 ≤ (0 : Int) ∧ 0 ≤ (16 : Int)) ∧ (0 : Int) + 16 ≤ 16 ∧ (0 : Int) + 16 ≤ 16) ∧ ∀ st261 : sq_S, st261 = sq_row st260 13 (sq_cp (st260 6) (st260 13) 0 0 16) → (((0 ≤ (0 : Int) ∧ 0 ≤ (0 : Int) ∧ 0 ≤ (480 : Int)) ∧ (0 : Int) + 480 ≤ 480 ∧ (0 : Int) + 480 ≤ 480) ∧ ∀ st262 : sq_S, st262 = sq_row st261 14 (sq_cp (st261 7) (st261 14) 0 0 480) → (((0 ≤ (0 : Int) ∧ 0 ≤ (0 : Int) ∧ 0 ≤ (10 : Int)) ∧ (0 : Int) + 10 ≤ 10 ∧ (0 : Int) + 10 ≤ 10) ∧ ∀ st263 : sq_S, st263 = sq_row st262 15 (sq_cp (st262 8) (st262 15) 0 0 10) → (∀ st264 : sq_S, st264 = sq_set st263 9 8 (st263 2 8) → (Q 0 st264)))))))))
def rX0_copyFrom_9_2 : Room := { frames := 1, cells := 0, slots := 0, locals := 40 }
set_option maxRecDepth 100000 in
set_option maxHeartbeats 4000000 in
theorem tX0_copyFrom_9_2_0 {l : Launch} {g : sq_G} {J : sq_K} {Q : Int → sq_S → Prop} (S : sq_J l rX0_copyFrom_9_2 cX0_copyFrom 2 RX0 wsX0_copyFrom g sq_X J) (hret : ∀ (pc : Nat) (lv : List (Nat × Value)) (st' : sq_S), decode cX0_copyFrom pc = .ok (.return_, 1) → Q 0 st' → J pc lv [] st') (st : sq_S) (H : wX0_copyFrom_9_2 st Q) : J 0 [(0, .ref (g.2.2 9)), (1, .ref (g.2.2 2))] [] st := by
  unfold wX0_copyFrom_9_2 at H
  refine sj_aload_n (pl := 1) S dX0_copyFrom_0 rfl rfl ?_
  refine sj_getr S fX_2_0 iX0_copyFrom_0 rfl (by decide) mX0_copyFrom_9 dX0_copyFrom_1 ?_
  refine sj_iconst S dX0_copyFrom_4 ?_
  refine sj_aload_n (pl := 0) S dX0_copyFrom_5 rfl rfl ?_
  refine sj_getr S fX_9_0 iX0_copyFrom_0 rfl (by decide) mX0_copyFrom_9 dX0_copyFrom_6 ?_
  refine sj_iconst S dX0_copyFrom_9 ?_
  refine sj_bipush S dX0_copyFrom_10 (by decide +kernel) ?_
  refine sj_copy S aX_3 aX_10 H.1 (List.mem_of_getElem? (i := 2) rfl) (List.mem_of_getElem? (i := 3) rfl) (List.mem_of_getElem? (i := 4) rfl) (List.mem_of_getElem? (i := 5) rfl) (Nat.le_of_ble_eq_true rfl) (Nat.le_of_ble_eq_true (by decide +kernel)) dX0_copyFrom_12 (fun st256 est256 => ?_)
  have H := H.2 st256 est256
  refine sj_aload_n (pl := 0) S dX0_copyFrom_15 rfl rfl ?_
  refine sj_aload_n (pl := 1) S dX0_copyFrom_16 rfl rfl ?_
  refine sj_geti S fX_2_1 iX0_copyFrom_0 rfl (by decide) mX0_copyFrom_40 dX0_copyFrom_17 ?_
  refine sj_puti S fX_9_1 iX0_copyFrom_0 tyX0 tyX0_ok nmX0 rfl (by decide) mX0_copyFrom_40 rfl rfl dX0_copyFrom_20 (fun st257 est257 => ?_)
  have H := H st257 est257
  refine sj_aload_n (pl := 1) S dX0_copyFrom_23 rfl rfl ?_
  refine sj_getr S fX_2_2 iX0_copyFrom_0 rfl (by decide) mX0_copyFrom_15 dX0_copyFrom_24 ?_
  refine sj_iconst S dX0_copyFrom_27 ?_
  refine sj_aload_n (pl := 0) S dX0_copyFrom_28 rfl rfl ?_
  refine sj_getr S fX_9_2 iX0_copyFrom_0 rfl (by decide) mX0_copyFrom_15 dX0_copyFrom_29 ?_
  refine sj_iconst S dX0_copyFrom_32 ?_
  refine sj_bipush S dX0_copyFrom_33 (by decide +kernel) ?_
  refine sj_copy S aX_4 aX_11 H.1 (List.mem_of_getElem? (i := 2) rfl) (List.mem_of_getElem? (i := 3) rfl) (List.mem_of_getElem? (i := 4) rfl) (List.mem_of_getElem? (i := 5) rfl) (Nat.le_of_ble_eq_true rfl) (Nat.le_of_ble_eq_true (by decide +kernel)) dX0_copyFrom_35 (fun st258 est258 => ?_)
  have H := H.2 st258 est258
  refine sj_aload_n (pl := 0) S dX0_copyFrom_38 rfl rfl ?_
  refine sj_aload_n (pl := 1) S dX0_copyFrom_39 rfl rfl ?_
  refine sj_geti S fX_2_3 iX0_copyFrom_0 rfl (by decide) mX0_copyFrom_18 dX0_copyFrom_40 ?_
  refine sj_puti S fX_9_3 iX0_copyFrom_0 tyX0 tyX0_ok nmX0 rfl (by decide) mX0_copyFrom_18 rfl rfl dX0_copyFrom_43 (fun st259 est259 => ?_)
  have H := H st259 est259
  refine sj_aload_n (pl := 1) S dX0_copyFrom_46 rfl rfl ?_
  refine sj_getr S fX_2_4 iX0_copyFrom_0 rfl (by decide) mX0_copyFrom_22 dX0_copyFrom_47 ?_
  refine sj_iconst S dX0_copyFrom_50 ?_
  refine sj_aload_n (pl := 0) S dX0_copyFrom_51 rfl rfl ?_
  refine sj_getr S fX_9_4 iX0_copyFrom_0 rfl (by decide) mX0_copyFrom_22 dX0_copyFrom_52 ?_
  refine sj_iconst S dX0_copyFrom_55 ?_
  refine sj_bipush S dX0_copyFrom_56 (by decide +kernel) ?_
  refine sj_copy S aX_5 aX_12 H.1 (List.mem_of_getElem? (i := 2) rfl) (List.mem_of_getElem? (i := 3) rfl) (List.mem_of_getElem? (i := 4) rfl) (List.mem_of_getElem? (i := 5) rfl) (Nat.le_of_ble_eq_true rfl) (Nat.le_of_ble_eq_true (by decide +kernel)) dX0_copyFrom_58 (fun st260 est260 => ?_)
  have H := H.2 st260 est260
  refine sj_aload_n (pl := 1) S dX0_copyFrom_61 rfl rfl ?_
  refine sj_getr S fX_2_5 iX0_copyFrom_0 rfl (by decide) mX0_copyFrom_25 dX0_copyFrom_62 ?_
  refine sj_iconst S dX0_copyFrom_65 ?_
  refine sj_aload_n (pl := 0) S dX0_copyFrom_66 rfl rfl ?_
  refine sj_getr S fX_9_5 iX0_copyFrom_0 rfl (by decide) mX0_copyFrom_25 dX0_copyFrom_67 ?_
  refine sj_iconst S dX0_copyFrom_70 ?_
  refine sj_bipush S dX0_copyFrom_71 (by decide +kernel) ?_
  refine sj_copy S aX_6 aX_13 H.1 (List.mem_of_getElem? (i := 2) rfl) (List.mem_of_getElem? (i := 3) rfl) (List.mem_of_getElem? (i := 4) rfl) (List.mem_of_getElem? (i := 5) rfl) (Nat.le_of_ble_eq_true rfl) (Nat.le_of_ble_eq_true (by decide +kernel)) dX0_copyFrom_73 (fun st261 est261 => ?_)
  have H := H.2 st261 est261
  refine sj_aload_n (pl := 1) S dX0_copyFrom_76 rfl rfl ?_
  refine sj_getr S fX_2_6 iX0_copyFrom_0 rfl (by decide) mX0_copyFrom_28 dX0_copyFrom_77 ?_
  refine sj_iconst S dX0_copyFrom_80 ?_
  refine sj_aload_n (pl := 0) S dX0_copyFrom_81 rfl rfl ?_
  refine sj_getr S fX_9_6 iX0_copyFrom_0 rfl (by decide) mX0_copyFrom_28 dX0_copyFrom_82 ?_
  refine sj_iconst S dX0_copyFrom_85 ?_
  refine sj_sipush S dX0_copyFrom_86 (by decide +kernel) ?_
  refine sj_copy S aX_7 aX_14 H.1 (List.mem_of_getElem? (i := 2) rfl) (List.mem_of_getElem? (i := 3) rfl) (List.mem_of_getElem? (i := 4) rfl) (List.mem_of_getElem? (i := 5) rfl) (Nat.le_of_ble_eq_true rfl) (Nat.le_of_ble_eq_true (by decide +kernel)) dX0_copyFrom_89 (fun st262 est262 => ?_)
  have H := H.2 st262 est262
  refine sj_aload_n (pl := 1) S dX0_copyFrom_92 rfl rfl ?_
  refine sj_getr S fX_2_7 iX0_copyFrom_0 rfl (by decide) mX0_copyFrom_31 dX0_copyFrom_93 ?_
  refine sj_iconst S dX0_copyFrom_96 ?_
  refine sj_aload_n (pl := 0) S dX0_copyFrom_97 rfl rfl ?_
  refine sj_getr S fX_9_7 iX0_copyFrom_0 rfl (by decide) mX0_copyFrom_31 dX0_copyFrom_98 ?_
  refine sj_iconst S dX0_copyFrom_101 ?_
  refine sj_bipush S dX0_copyFrom_102 (by decide +kernel) ?_
  refine sj_copy S aX_8 aX_15 H.1 (List.mem_of_getElem? (i := 2) rfl) (List.mem_of_getElem? (i := 3) rfl) (List.mem_of_getElem? (i := 4) rfl) (List.mem_of_getElem? (i := 5) rfl) (Nat.le_of_ble_eq_true rfl) (Nat.le_of_ble_eq_true (by decide +kernel)) dX0_copyFrom_104 (fun st263 est263 => ?_)
  have H := H.2 st263 est263
  refine sj_aload_n (pl := 0) S dX0_copyFrom_107 rfl rfl ?_
  refine sj_aload_n (pl := 1) S dX0_copyFrom_108 rfl rfl ?_
  refine sj_geti S fX_2_8 iX0_copyFrom_0 rfl (by decide) mX0_copyFrom_43 dX0_copyFrom_109 ?_
  refine sj_puti S fX_9_8 iX0_copyFrom_0 tyX0 tyX0_ok nmX0 rfl (by decide) mX0_copyFrom_43 rfl rfl dX0_copyFrom_112 (fun st264 est264 => ?_)
  have H := H st264 est264
  exact hret _ _ _ dX0_copyFrom_115 H
set_option maxRecDepth 100000 in
set_option maxHeartbeats 4000000 in
theorem kX0_copyFrom_9_2 (l : Launch) (g : sq_G) (st : sq_S) (Q : Int → sq_S → Prop) (H : wX0_copyFrom_9_2  st Q) : sq_Cv l yX0_copyFrom wsX0_copyFrom rX0_copyFrom_9_2 g sq_X [.ref (g.2.2 9), .ref (g.2.2 2)] st Q := by
  refine sq_in_v (cc := cX0_copyFrom) (nL := 2) (own := RX0) (by decide) rfl rfl (Nat.le_of_ble_eq_true rfl) ?_
  intro J S hret
  exact tX0_copyFrom_9_2_0 S hret  st H
/-! copyFrom (LSecretSquares$Desk;)V : X0_copyFrom_16_2 -/
def wX0_copyFrom_16_2 (st : sq_S) (Q : Int → sq_S → Prop) : Prop :=
  ((0 ≤ (0 : Int) ∧ 0 ≤ (0 : Int) ∧ 0 ≤ (48 : Int)) ∧ (0 : Int) + 48 ≤ 48 ∧ (0 : Int) + 48 ≤ 48) ∧ ∀ st267 : sq_S, st267 = sq_row st 17 (sq_cp (st 3) (st 17) 0 0 48) → (∀ st268 : sq_S, st268 = sq_set st267 16 1 (st267 2 1) → (((0 ≤ (0 : Int) ∧ 0 ≤ (0 : Int) ∧ 0 ≤ (6 : Int)) ∧ (0 : Int) + 6 ≤ 6 ∧ (0 : Int) + 6 ≤ 6) ∧ ∀ st269 : sq_S, st269 = sq_row st268 18 (sq_cp (st268 4) (st268 18) 0 0 6) → (∀ st270 : sq_S, st270 = sq_set st269 16 3 (st269 2 3) → (((0 ≤ (0 : Int) ∧ 0 ≤ (0 : Int) ∧ 0 ≤ (16 : Int)) ∧ (0 : Int) + 16 ≤ 16 ∧ (0 : Int) + 16 ≤ 16) ∧ ∀ st271 : sq_S, st271 = sq_row st270 19 (sq_cp (st270 5) (st270 19) 0 0 16) → (((0 ≤ (0 : Int) ∧ 0 ≤ (0 : Int) ∧ 0 ≤ (16 : Int)) ∧ (0 : Int) + 16 ≤ 16 ∧ (0 : Int) + 16 ≤ 16) ∧ ∀ st272 : sq_S, st272 = sq_row st271 20 (sq_cp (st271 6) (st271 20) 0 0 16) → (((0 ≤ (0 : Int) ∧ 0 ≤ (0 : Int) ∧ 0 ≤ (480 : Int)) ∧ (0 : Int) + 480 ≤ 480 ∧ (0 : Int) + 480 ≤ 480) ∧ ∀ st273 : sq_S, st273 = sq_row st272 21 (sq_cp (st272 7) (st272 21) 0 0 480) → (((0 ≤ (0 : Int) ∧ 0 ≤ (0 : Int) ∧ 0 ≤ (10 : Int)) ∧ (0 : Int) + 10 ≤ 10 ∧ (0 : Int) + 10 ≤ 10) ∧ ∀ st274 : sq_S, st274 = sq_row st273 22 (sq_cp (st273 8) (st273 22) 0 0 10) → (∀ st275 : sq_S, st275 = sq_set st274 16 8 (st274 2 8) → (Q 0 st275)))))))))
def rX0_copyFrom_16_2 : Room := { frames := 1, cells := 0, slots := 0, locals := 40 }
set_option maxRecDepth 100000 in
set_option maxHeartbeats 4000000 in
theorem tX0_copyFrom_16_2_0 {l : Launch} {g : sq_G} {J : sq_K} {Q : Int → sq_S → Prop} (S : sq_J l rX0_copyFrom_16_2 cX0_copyFrom 2 RX0 wsX0_copyFrom g sq_X J) (hret : ∀ (pc : Nat) (lv : List (Nat × Value)) (st' : sq_S), decode cX0_copyFrom pc = .ok (.return_, 1) → Q 0 st' → J pc lv [] st') (st : sq_S) (H : wX0_copyFrom_16_2 st Q) : J 0 [(0, .ref (g.2.2 16)), (1, .ref (g.2.2 2))] [] st := by
  unfold wX0_copyFrom_16_2 at H
  refine sj_aload_n (pl := 1) S dX0_copyFrom_0 rfl rfl ?_
  refine sj_getr S fX_2_0 iX0_copyFrom_0 rfl (by decide) mX0_copyFrom_9 dX0_copyFrom_1 ?_
  refine sj_iconst S dX0_copyFrom_4 ?_
  refine sj_aload_n (pl := 0) S dX0_copyFrom_5 rfl rfl ?_
  refine sj_getr S fX_16_0 iX0_copyFrom_0 rfl (by decide) mX0_copyFrom_9 dX0_copyFrom_6 ?_
  refine sj_iconst S dX0_copyFrom_9 ?_
  refine sj_bipush S dX0_copyFrom_10 (by decide +kernel) ?_
  refine sj_copy S aX_3 aX_17 H.1 (List.mem_of_getElem? (i := 2) rfl) (List.mem_of_getElem? (i := 3) rfl) (List.mem_of_getElem? (i := 4) rfl) (List.mem_of_getElem? (i := 5) rfl) (Nat.le_of_ble_eq_true rfl) (Nat.le_of_ble_eq_true (by decide +kernel)) dX0_copyFrom_12 (fun st267 est267 => ?_)
  have H := H.2 st267 est267
  refine sj_aload_n (pl := 0) S dX0_copyFrom_15 rfl rfl ?_
  refine sj_aload_n (pl := 1) S dX0_copyFrom_16 rfl rfl ?_
  refine sj_geti S fX_2_1 iX0_copyFrom_0 rfl (by decide) mX0_copyFrom_40 dX0_copyFrom_17 ?_
  refine sj_puti S fX_16_1 iX0_copyFrom_0 tyX0 tyX0_ok nmX0 rfl (by decide) mX0_copyFrom_40 rfl rfl dX0_copyFrom_20 (fun st268 est268 => ?_)
  have H := H st268 est268
  refine sj_aload_n (pl := 1) S dX0_copyFrom_23 rfl rfl ?_
  refine sj_getr S fX_2_2 iX0_copyFrom_0 rfl (by decide) mX0_copyFrom_15 dX0_copyFrom_24 ?_
  refine sj_iconst S dX0_copyFrom_27 ?_
  refine sj_aload_n (pl := 0) S dX0_copyFrom_28 rfl rfl ?_
  refine sj_getr S fX_16_2 iX0_copyFrom_0 rfl (by decide) mX0_copyFrom_15 dX0_copyFrom_29 ?_
  refine sj_iconst S dX0_copyFrom_32 ?_
  refine sj_bipush S dX0_copyFrom_33 (by decide +kernel) ?_
  refine sj_copy S aX_4 aX_18 H.1 (List.mem_of_getElem? (i := 2) rfl) (List.mem_of_getElem? (i := 3) rfl) (List.mem_of_getElem? (i := 4) rfl) (List.mem_of_getElem? (i := 5) rfl) (Nat.le_of_ble_eq_true rfl) (Nat.le_of_ble_eq_true (by decide +kernel)) dX0_copyFrom_35 (fun st269 est269 => ?_)
  have H := H.2 st269 est269
  refine sj_aload_n (pl := 0) S dX0_copyFrom_38 rfl rfl ?_
  refine sj_aload_n (pl := 1) S dX0_copyFrom_39 rfl rfl ?_
  refine sj_geti S fX_2_3 iX0_copyFrom_0 rfl (by decide) mX0_copyFrom_18 dX0_copyFrom_40 ?_
  refine sj_puti S fX_16_3 iX0_copyFrom_0 tyX0 tyX0_ok nmX0 rfl (by decide) mX0_copyFrom_18 rfl rfl dX0_copyFrom_43 (fun st270 est270 => ?_)
  have H := H st270 est270
  refine sj_aload_n (pl := 1) S dX0_copyFrom_46 rfl rfl ?_
  refine sj_getr S fX_2_4 iX0_copyFrom_0 rfl (by decide) mX0_copyFrom_22 dX0_copyFrom_47 ?_
  refine sj_iconst S dX0_copyFrom_50 ?_
  refine sj_aload_n (pl := 0) S dX0_copyFrom_51 rfl rfl ?_
  refine sj_getr S fX_16_4 iX0_copyFrom_0 rfl (by decide) mX0_copyFrom_22 dX0_copyFrom_52 ?_
  refine sj_iconst S dX0_copyFrom_55 ?_
  refine sj_bipush S dX0_copyFrom_56 (by decide +kernel) ?_
  refine sj_copy S aX_5 aX_19 H.1 (List.mem_of_getElem? (i := 2) rfl) (List.mem_of_getElem? (i := 3) rfl) (List.mem_of_getElem? (i := 4) rfl) (List.mem_of_getElem? (i := 5) rfl) (Nat.le_of_ble_eq_true rfl) (Nat.le_of_ble_eq_true (by decide +kernel)) dX0_copyFrom_58 (fun st271 est271 => ?_)
  have H := H.2 st271 est271
  refine sj_aload_n (pl := 1) S dX0_copyFrom_61 rfl rfl ?_
  refine sj_getr S fX_2_5 iX0_copyFrom_0 rfl (by decide) mX0_copyFrom_25 dX0_copyFrom_62 ?_
  refine sj_iconst S dX0_copyFrom_65 ?_
  refine sj_aload_n (pl := 0) S dX0_copyFrom_66 rfl rfl ?_
  refine sj_getr S fX_16_5 iX0_copyFrom_0 rfl (by decide) mX0_copyFrom_25 dX0_copyFrom_67 ?_
  refine sj_iconst S dX0_copyFrom_70 ?_
  refine sj_bipush S dX0_copyFrom_71 (by decide +kernel) ?_
  refine sj_copy S aX_6 aX_20 H.1 (List.mem_of_getElem? (i := 2) rfl) (List.mem_of_getElem? (i := 3) rfl) (List.mem_of_getElem? (i := 4) rfl) (List.mem_of_getElem? (i := 5) rfl) (Nat.le_of_ble_eq_true rfl) (Nat.le_of_ble_eq_true (by decide +kernel)) dX0_copyFrom_73 (fun st272 est272 => ?_)
  have H := H.2 st272 est272
  refine sj_aload_n (pl := 1) S dX0_copyFrom_76 rfl rfl ?_
  refine sj_getr S fX_2_6 iX0_copyFrom_0 rfl (by decide) mX0_copyFrom_28 dX0_copyFrom_77 ?_
  refine sj_iconst S dX0_copyFrom_80 ?_
  refine sj_aload_n (pl := 0) S dX0_copyFrom_81 rfl rfl ?_
  refine sj_getr S fX_16_6 iX0_copyFrom_0 rfl (by decide) mX0_copyFrom_28 dX0_copyFrom_82 ?_
  refine sj_iconst S dX0_copyFrom_85 ?_
  refine sj_sipush S dX0_copyFrom_86 (by decide +kernel) ?_
  refine sj_copy S aX_7 aX_21 H.1 (List.mem_of_getElem? (i := 2) rfl) (List.mem_of_getElem? (i := 3) rfl) (List.mem_of_getElem? (i := 4) rfl) (List.mem_of_getElem? (i := 5) rfl) (Nat.le_of_ble_eq_true rfl) (Nat.le_of_ble_eq_true (by decide +kernel)) dX0_copyFrom_89 (fun st273 est273 => ?_)
  have H := H.2 st273 est273
  refine sj_aload_n (pl := 1) S dX0_copyFrom_92 rfl rfl ?_
  refine sj_getr S fX_2_7 iX0_copyFrom_0 rfl (by decide) mX0_copyFrom_31 dX0_copyFrom_93 ?_
  refine sj_iconst S dX0_copyFrom_96 ?_
  refine sj_aload_n (pl := 0) S dX0_copyFrom_97 rfl rfl ?_
  refine sj_getr S fX_16_7 iX0_copyFrom_0 rfl (by decide) mX0_copyFrom_31 dX0_copyFrom_98 ?_
  refine sj_iconst S dX0_copyFrom_101 ?_
  refine sj_bipush S dX0_copyFrom_102 (by decide +kernel) ?_
  refine sj_copy S aX_8 aX_22 H.1 (List.mem_of_getElem? (i := 2) rfl) (List.mem_of_getElem? (i := 3) rfl) (List.mem_of_getElem? (i := 4) rfl) (List.mem_of_getElem? (i := 5) rfl) (Nat.le_of_ble_eq_true rfl) (Nat.le_of_ble_eq_true (by decide +kernel)) dX0_copyFrom_104 (fun st274 est274 => ?_)
  have H := H.2 st274 est274
  refine sj_aload_n (pl := 0) S dX0_copyFrom_107 rfl rfl ?_
  refine sj_aload_n (pl := 1) S dX0_copyFrom_108 rfl rfl ?_
  refine sj_geti S fX_2_8 iX0_copyFrom_0 rfl (by decide) mX0_copyFrom_43 dX0_copyFrom_109 ?_
  refine sj_puti S fX_16_8 iX0_copyFrom_0 tyX0 tyX0_ok nmX0 rfl (by decide) mX0_copyFrom_43 rfl rfl dX0_copyFrom_112 (fun st275 est275 => ?_)
  have H := H st275 est275
  exact hret _ _ _ dX0_copyFrom_115 H
set_option maxRecDepth 100000 in
set_option maxHeartbeats 4000000 in
theorem kX0_copyFrom_16_2 (l : Launch) (g : sq_G) (st : sq_S) (Q : Int → sq_S → Prop) (H : wX0_copyFrom_16_2  st Q) : sq_Cv l yX0_copyFrom wsX0_copyFrom rX0_copyFrom_16_2 g sq_X [.ref (g.2.2 16), .ref (g.2.2 2)] st Q := by
  refine sq_in_v (cc := cX0_copyFrom) (nL := 2) (own := RX0) (by decide) rfl rfl (Nat.le_of_ble_eq_true rfl) ?_
  intro J S hret
  exact tX0_copyFrom_16_2_0 S hret  st H
/-! image (I)I : X3_image -/
theorem iX3_image_3 : ∀ w ∈ u_ws RX3 TX3 8, w ∈ wsX3_image := fun _ h => List.mem_cons_of_mem _ (List.mem_append_left _ (List.mem_append_right _ h))
theorem mX3_image_16 : Cond.fieldLink RX3 16 (TX3 2).1 (TX3 2).2.1 (TX3 2).2.2.1 ∈ wsX3_image := List.mem_of_getElem? (i := 2) rfl
theorem mX3_image_20 : Cond.fieldLink RX3 20 (TX3 3).1 (TX3 3).2.1 (TX3 3).2.2.1 ∈ wsX3_image := List.mem_of_getElem? (i := 1) rfl
theorem mX3_image_158 : Cond.fieldLink RX3 158 (TX3 4).1 (TX3 4).2.1 (TX3 4).2.2.1 ∈ wsX3_image := List.mem_of_getElem? (i := 3) rfl
def wX3_image (v1 : Int) (st : sq_S) (Q : Int → sq_S → Prop) : Prop :=
  wX3_isOutside v1 0 1 st (fun r254 st255 => sq_rg r254 ∧ (r254 = 0 → (v1 = 0 ∨ v1 = 1) ∧ (v1 = 0 → wX0_copyFrom_9_2 st255 (fun _ st265 => ∀ st266 : sq_S, st266 = sq_set st265 0 4 (sq_or (st265 0 4) (sq_shl 1 v1)) → (Q 1 st266))) ∧ (v1 = 1 → wX0_copyFrom_16_2 st255 (fun _ st276 => ∀ st277 : sq_S, st277 = sq_set st276 0 4 (sq_or (st276 0 4) (sq_shl 1 v1)) → (Q 1 st277)))) ∧ (¬ r254 = 0 → Q (-2) st255))
def rX3_image : Room := { frames := 2, cells := 0, slots := 0, locals := 61 }
set_option maxRecDepth 100000 in
set_option maxHeartbeats 4000000 in
theorem tX3_image_0 {l : Launch} {g : sq_G} {J : sq_K} {Q : Int → sq_S → Prop} (S : sq_J l rX3_image cX3_image 2 RX3 wsX3_image g sq_X J) (hret : ∀ (pc : Nat) (lv : List (Nat × Value)) (r : Int) (st' : sq_S), decode cX3_image pc = .ok (.ireturn, 1) → Q r st' → J pc lv [.int (sq_z r)] st') (v1 : Int) (st : sq_S) (H : wX3_image v1 st Q) : J 0 [(0, .ref (g.2.2 0)), (1, .int (sq_z v1))] [] st := by
  unfold wX3_image at H
  refine sj_iload_n (pl := 1) S dX3_image_0 rfl rfl ?_
  refine sj_iconst S dX3_image_1 ?_
  refine sj_iconst S dX3_image_2 ?_
  refine sj_si (rest := []) S (kX3_isOutside l g v1 0 1 st _ H) (fun s args hts => va_cwS 3 hts gX3_image_X3_isOutside rfl rfl rfl (by decide +kernel) ⟨Nat.le_of_ble_eq_true rfl, Nat.le_of_ble_eq_true rfl⟩) rfl rfl (Nat.le_of_ble_eq_true rfl) dX3_image_3 (fun r254 st255 H => ?_)
  refine sj_if_eq (tgt := 12) S H.1 dX3_image_6 (by decide) (fun c9 => ?_) (fun c9 => ?_)
  · have H := H.2.1 c9
    refine sj_aload_n (pl := 0) S dX3_image_12 rfl rfl ?_
    refine sj_getr S fX_0_3 iX3_image_3 rfl (by decide) mX3_image_20 dX3_image_13 ?_
    refine sj_iload_n (pl := 1) S dX3_image_16 rfl rfl ?_
    rcases H.1 with c9 | c9
    · refine sj_aald S (v := 0) c9 (by decide) rfl dX3_image_17 ?_
      have H := H.2.1 c9
      refine sj_aload_n (pl := 0) S dX3_image_18 rfl rfl ?_
      refine sj_getr S fX_0_2 iX3_image_3 rfl (by decide) mX3_image_16 dX3_image_19 ?_
      refine sj_vv (rest := []) (q0 := 9) (ci := 0) S (kX0_copyFrom_9_2 l g st255 _ H) (fun s args hts => cwV 1 hts gX3_image_X0_copyFrom rfl rfl rfl (by decide +kernel) ⟨Nat.le_of_ble_eq_true rfl, Nat.le_of_ble_eq_true rfl⟩) rfl rfl rfl rfl (Nat.le_of_ble_eq_true rfl) dX3_image_22 (fun st265 H => ?_)
      refine sj_aload_n (pl := 0) S dX3_image_25 rfl rfl ?_
      refine sj_dup S dX3_image_26 rfl ?_
      refine sj_geti S fX_0_4 iX3_image_3 rfl (by decide) mX3_image_158 dX3_image_27 ?_
      refine sj_iconst S dX3_image_30 ?_
      refine sj_iload_n (pl := 1) S dX3_image_31 rfl rfl ?_
      refine sj_ishl S dX3_image_32 ?_
      refine sj_ior S dX3_image_33 ?_
      refine sj_puti S fX_0_4 iX3_image_3 tyX3 tyX3_ok nmX3 rfl (by decide) mX3_image_158 rfl rfl dX3_image_34 (fun st266 est266 => ?_)
      have H := H st266 est266
      refine sj_iconst S dX3_image_37 ?_
      exact hret _ _ _ _ dX3_image_38 H
    · refine sj_aald S (v := 1) c9 (by decide) rfl dX3_image_17 ?_
      have H := H.2.2 c9
      refine sj_aload_n (pl := 0) S dX3_image_18 rfl rfl ?_
      refine sj_getr S fX_0_2 iX3_image_3 rfl (by decide) mX3_image_16 dX3_image_19 ?_
      refine sj_vv (rest := []) (q0 := 16) (ci := 0) S (kX0_copyFrom_16_2 l g st255 _ H) (fun s args hts => cwV 1 hts gX3_image_X0_copyFrom rfl rfl rfl (by decide +kernel) ⟨Nat.le_of_ble_eq_true rfl, Nat.le_of_ble_eq_true rfl⟩) rfl rfl rfl rfl (Nat.le_of_ble_eq_true rfl) dX3_image_22 (fun st276 H => ?_)
      refine sj_aload_n (pl := 0) S dX3_image_25 rfl rfl ?_
      refine sj_dup S dX3_image_26 rfl ?_
      refine sj_geti S fX_0_4 iX3_image_3 rfl (by decide) mX3_image_158 dX3_image_27 ?_
      refine sj_iconst S dX3_image_30 ?_
      refine sj_iload_n (pl := 1) S dX3_image_31 rfl rfl ?_
      refine sj_ishl S dX3_image_32 ?_
      refine sj_ior S dX3_image_33 ?_
      refine sj_puti S fX_0_4 iX3_image_3 tyX3 tyX3_ok nmX3 rfl (by decide) mX3_image_158 rfl rfl dX3_image_34 (fun st277 est277 => ?_)
      have H := H st277 est277
      refine sj_iconst S dX3_image_37 ?_
      exact hret _ _ _ _ dX3_image_38 H
  · have H := H.2.2 c9
    refine sj_bipush S dX3_image_9 (by decide +kernel) ?_
    exact hret _ _ _ _ dX3_image_11 H
set_option maxRecDepth 100000 in
set_option maxHeartbeats 4000000 in
theorem kX3_image (l : Launch) (g : sq_G) (v1 : Int) (st : sq_S) (Q : Int → sq_S → Prop) (H : wX3_image v1 st Q) : sq_Ci l yX3_image wsX3_image rX3_image g sq_X [.ref (g.2.2 0), .int (sq_z v1)] st Q := by
  refine sq_in_i (cc := cX3_image) (nL := 2) (own := RX3) (by decide) rfl rfl (Nat.le_of_ble_eq_true rfl) ?_
  intro J S hret
  exact tX3_image_0 S hret v1 st H
/-! copyFrom (LSecretSquares$Desk;)V : X0_copyFrom_2_9 -/
def wX0_copyFrom_2_9 (st : sq_S) (Q : Int → sq_S → Prop) : Prop :=
  ((0 ≤ (0 : Int) ∧ 0 ≤ (0 : Int) ∧ 0 ≤ (48 : Int)) ∧ (0 : Int) + 48 ≤ 48 ∧ (0 : Int) + 48 ≤ 48) ∧ ∀ st280 : sq_S, st280 = sq_row st 3 (sq_cp (st 10) (st 3) 0 0 48) → (∀ st281 : sq_S, st281 = sq_set st280 2 1 (st280 9 1) → (((0 ≤ (0 : Int) ∧ 0 ≤ (0 : Int) ∧ 0 ≤ (6 : Int)) ∧ (0 : Int) + 6 ≤ 6 ∧ (0 : Int) + 6 ≤ 6) ∧ ∀ st282 : sq_S, st282 = sq_row st281 4 (sq_cp (st281 11) (st281 4) 0 0 6) → (∀ st283 : sq_S, st283 = sq_set st282 2 3 (st282 9 3) → (((0 ≤ (0 : Int) ∧ 0 ≤ (0 : Int) ∧ 0 ≤ (16 : Int)) ∧ (0 : Int) + 16 ≤ 16 ∧ (0 : Int) + 16 ≤ 16) ∧ ∀ st284 : sq_S, st284 = sq_row st283 5 (sq_cp (st283 12) (st283 5) 0 0 16) → (((0 ≤ (0 : Int) ∧ 0 ≤ (0 : Int) ∧ 0 ≤ (16 : Int)) ∧ (0 : Int) + 16 ≤ 16 ∧ (0 : Int) + 16 ≤ 16) ∧ ∀ st285 : sq_S, st285 = sq_row st284 6 (sq_cp (st284 13) (st284 6) 0 0 16) → (((0 ≤ (0 : Int) ∧ 0 ≤ (0 : Int) ∧ 0 ≤ (480 : Int)) ∧ (0 : Int) + 480 ≤ 480 ∧ (0 : Int) + 480 ≤ 480) ∧ ∀ st286 : sq_S, st286 = sq_row st285 7 (sq_cp (st285 14) (st285 7) 0 0 480) → (((0 ≤ (0 : Int) ∧ 0 ≤ (0 : Int) ∧ 0 ≤ (10 : Int)) ∧ (0 : Int) + 10 ≤ 10 ∧ (0 : Int) + 10 ≤ 10) ∧ ∀ st287 : sq_S, st287 = sq_row st286 8 (sq_cp (st286 15) (st286 8) 0 0 10) → (∀ st288 : sq_S, st288 = sq_set st287 2 8 (st287 9 8) → (Q 0 st288)))))))))
def rX0_copyFrom_2_9 : Room := { frames := 1, cells := 0, slots := 0, locals := 40 }
set_option maxRecDepth 100000 in
set_option maxHeartbeats 4000000 in
theorem tX0_copyFrom_2_9_0 {l : Launch} {g : sq_G} {J : sq_K} {Q : Int → sq_S → Prop} (S : sq_J l rX0_copyFrom_2_9 cX0_copyFrom 2 RX0 wsX0_copyFrom g sq_X J) (hret : ∀ (pc : Nat) (lv : List (Nat × Value)) (st' : sq_S), decode cX0_copyFrom pc = .ok (.return_, 1) → Q 0 st' → J pc lv [] st') (st : sq_S) (H : wX0_copyFrom_2_9 st Q) : J 0 [(0, .ref (g.2.2 2)), (1, .ref (g.2.2 9))] [] st := by
  unfold wX0_copyFrom_2_9 at H
  refine sj_aload_n (pl := 1) S dX0_copyFrom_0 rfl rfl ?_
  refine sj_getr S fX_9_0 iX0_copyFrom_0 rfl (by decide) mX0_copyFrom_9 dX0_copyFrom_1 ?_
  refine sj_iconst S dX0_copyFrom_4 ?_
  refine sj_aload_n (pl := 0) S dX0_copyFrom_5 rfl rfl ?_
  refine sj_getr S fX_2_0 iX0_copyFrom_0 rfl (by decide) mX0_copyFrom_9 dX0_copyFrom_6 ?_
  refine sj_iconst S dX0_copyFrom_9 ?_
  refine sj_bipush S dX0_copyFrom_10 (by decide +kernel) ?_
  refine sj_copy S aX_10 aX_3 H.1 (List.mem_of_getElem? (i := 2) rfl) (List.mem_of_getElem? (i := 3) rfl) (List.mem_of_getElem? (i := 4) rfl) (List.mem_of_getElem? (i := 5) rfl) (Nat.le_of_ble_eq_true rfl) (Nat.le_of_ble_eq_true (by decide +kernel)) dX0_copyFrom_12 (fun st280 est280 => ?_)
  have H := H.2 st280 est280
  refine sj_aload_n (pl := 0) S dX0_copyFrom_15 rfl rfl ?_
  refine sj_aload_n (pl := 1) S dX0_copyFrom_16 rfl rfl ?_
  refine sj_geti S fX_9_1 iX0_copyFrom_0 rfl (by decide) mX0_copyFrom_40 dX0_copyFrom_17 ?_
  refine sj_puti S fX_2_1 iX0_copyFrom_0 tyX0 tyX0_ok nmX0 rfl (by decide) mX0_copyFrom_40 rfl rfl dX0_copyFrom_20 (fun st281 est281 => ?_)
  have H := H st281 est281
  refine sj_aload_n (pl := 1) S dX0_copyFrom_23 rfl rfl ?_
  refine sj_getr S fX_9_2 iX0_copyFrom_0 rfl (by decide) mX0_copyFrom_15 dX0_copyFrom_24 ?_
  refine sj_iconst S dX0_copyFrom_27 ?_
  refine sj_aload_n (pl := 0) S dX0_copyFrom_28 rfl rfl ?_
  refine sj_getr S fX_2_2 iX0_copyFrom_0 rfl (by decide) mX0_copyFrom_15 dX0_copyFrom_29 ?_
  refine sj_iconst S dX0_copyFrom_32 ?_
  refine sj_bipush S dX0_copyFrom_33 (by decide +kernel) ?_
  refine sj_copy S aX_11 aX_4 H.1 (List.mem_of_getElem? (i := 2) rfl) (List.mem_of_getElem? (i := 3) rfl) (List.mem_of_getElem? (i := 4) rfl) (List.mem_of_getElem? (i := 5) rfl) (Nat.le_of_ble_eq_true rfl) (Nat.le_of_ble_eq_true (by decide +kernel)) dX0_copyFrom_35 (fun st282 est282 => ?_)
  have H := H.2 st282 est282
  refine sj_aload_n (pl := 0) S dX0_copyFrom_38 rfl rfl ?_
  refine sj_aload_n (pl := 1) S dX0_copyFrom_39 rfl rfl ?_
  refine sj_geti S fX_9_3 iX0_copyFrom_0 rfl (by decide) mX0_copyFrom_18 dX0_copyFrom_40 ?_
  refine sj_puti S fX_2_3 iX0_copyFrom_0 tyX0 tyX0_ok nmX0 rfl (by decide) mX0_copyFrom_18 rfl rfl dX0_copyFrom_43 (fun st283 est283 => ?_)
  have H := H st283 est283
  refine sj_aload_n (pl := 1) S dX0_copyFrom_46 rfl rfl ?_
  refine sj_getr S fX_9_4 iX0_copyFrom_0 rfl (by decide) mX0_copyFrom_22 dX0_copyFrom_47 ?_
  refine sj_iconst S dX0_copyFrom_50 ?_
  refine sj_aload_n (pl := 0) S dX0_copyFrom_51 rfl rfl ?_
  refine sj_getr S fX_2_4 iX0_copyFrom_0 rfl (by decide) mX0_copyFrom_22 dX0_copyFrom_52 ?_
  refine sj_iconst S dX0_copyFrom_55 ?_
  refine sj_bipush S dX0_copyFrom_56 (by decide +kernel) ?_
  refine sj_copy S aX_12 aX_5 H.1 (List.mem_of_getElem? (i := 2) rfl) (List.mem_of_getElem? (i := 3) rfl) (List.mem_of_getElem? (i := 4) rfl) (List.mem_of_getElem? (i := 5) rfl) (Nat.le_of_ble_eq_true rfl) (Nat.le_of_ble_eq_true (by decide +kernel)) dX0_copyFrom_58 (fun st284 est284 => ?_)
  have H := H.2 st284 est284
  refine sj_aload_n (pl := 1) S dX0_copyFrom_61 rfl rfl ?_
  refine sj_getr S fX_9_5 iX0_copyFrom_0 rfl (by decide) mX0_copyFrom_25 dX0_copyFrom_62 ?_
  refine sj_iconst S dX0_copyFrom_65 ?_
  refine sj_aload_n (pl := 0) S dX0_copyFrom_66 rfl rfl ?_
  refine sj_getr S fX_2_5 iX0_copyFrom_0 rfl (by decide) mX0_copyFrom_25 dX0_copyFrom_67 ?_
  refine sj_iconst S dX0_copyFrom_70 ?_
  refine sj_bipush S dX0_copyFrom_71 (by decide +kernel) ?_
  refine sj_copy S aX_13 aX_6 H.1 (List.mem_of_getElem? (i := 2) rfl) (List.mem_of_getElem? (i := 3) rfl) (List.mem_of_getElem? (i := 4) rfl) (List.mem_of_getElem? (i := 5) rfl) (Nat.le_of_ble_eq_true rfl) (Nat.le_of_ble_eq_true (by decide +kernel)) dX0_copyFrom_73 (fun st285 est285 => ?_)
  have H := H.2 st285 est285
  refine sj_aload_n (pl := 1) S dX0_copyFrom_76 rfl rfl ?_
  refine sj_getr S fX_9_6 iX0_copyFrom_0 rfl (by decide) mX0_copyFrom_28 dX0_copyFrom_77 ?_
  refine sj_iconst S dX0_copyFrom_80 ?_
  refine sj_aload_n (pl := 0) S dX0_copyFrom_81 rfl rfl ?_
  refine sj_getr S fX_2_6 iX0_copyFrom_0 rfl (by decide) mX0_copyFrom_28 dX0_copyFrom_82 ?_
  refine sj_iconst S dX0_copyFrom_85 ?_
  refine sj_sipush S dX0_copyFrom_86 (by decide +kernel) ?_
  refine sj_copy S aX_14 aX_7 H.1 (List.mem_of_getElem? (i := 2) rfl) (List.mem_of_getElem? (i := 3) rfl) (List.mem_of_getElem? (i := 4) rfl) (List.mem_of_getElem? (i := 5) rfl) (Nat.le_of_ble_eq_true rfl) (Nat.le_of_ble_eq_true (by decide +kernel)) dX0_copyFrom_89 (fun st286 est286 => ?_)
  have H := H.2 st286 est286
  refine sj_aload_n (pl := 1) S dX0_copyFrom_92 rfl rfl ?_
  refine sj_getr S fX_9_7 iX0_copyFrom_0 rfl (by decide) mX0_copyFrom_31 dX0_copyFrom_93 ?_
  refine sj_iconst S dX0_copyFrom_96 ?_
  refine sj_aload_n (pl := 0) S dX0_copyFrom_97 rfl rfl ?_
  refine sj_getr S fX_2_7 iX0_copyFrom_0 rfl (by decide) mX0_copyFrom_31 dX0_copyFrom_98 ?_
  refine sj_iconst S dX0_copyFrom_101 ?_
  refine sj_bipush S dX0_copyFrom_102 (by decide +kernel) ?_
  refine sj_copy S aX_15 aX_8 H.1 (List.mem_of_getElem? (i := 2) rfl) (List.mem_of_getElem? (i := 3) rfl) (List.mem_of_getElem? (i := 4) rfl) (List.mem_of_getElem? (i := 5) rfl) (Nat.le_of_ble_eq_true rfl) (Nat.le_of_ble_eq_true (by decide +kernel)) dX0_copyFrom_104 (fun st287 est287 => ?_)
  have H := H.2 st287 est287
  refine sj_aload_n (pl := 0) S dX0_copyFrom_107 rfl rfl ?_
  refine sj_aload_n (pl := 1) S dX0_copyFrom_108 rfl rfl ?_
  refine sj_geti S fX_9_8 iX0_copyFrom_0 rfl (by decide) mX0_copyFrom_43 dX0_copyFrom_109 ?_
  refine sj_puti S fX_2_8 iX0_copyFrom_0 tyX0 tyX0_ok nmX0 rfl (by decide) mX0_copyFrom_43 rfl rfl dX0_copyFrom_112 (fun st288 est288 => ?_)
  have H := H st288 est288
  exact hret _ _ _ dX0_copyFrom_115 H
set_option maxRecDepth 100000 in
set_option maxHeartbeats 4000000 in
theorem kX0_copyFrom_2_9 (l : Launch) (g : sq_G) (st : sq_S) (Q : Int → sq_S → Prop) (H : wX0_copyFrom_2_9  st Q) : sq_Cv l yX0_copyFrom wsX0_copyFrom rX0_copyFrom_2_9 g sq_X [.ref (g.2.2 2), .ref (g.2.2 9)] st Q := by
  refine sq_in_v (cc := cX0_copyFrom) (nL := 2) (own := RX0) (by decide) rfl rfl (Nat.le_of_ble_eq_true rfl) ?_
  intro J S hret
  exact tX0_copyFrom_2_9_0 S hret  st H
/-! copyFrom (LSecretSquares$Desk;)V : X0_copyFrom_2_16 -/
def wX0_copyFrom_2_16 (st : sq_S) (Q : Int → sq_S → Prop) : Prop :=
  ((0 ≤ (0 : Int) ∧ 0 ≤ (0 : Int) ∧ 0 ≤ (48 : Int)) ∧ (0 : Int) + 48 ≤ 48 ∧ (0 : Int) + 48 ≤ 48) ∧ ∀ st290 : sq_S, st290 = sq_row st 3 (sq_cp (st 17) (st 3) 0 0 48) → (∀ st291 : sq_S, st291 = sq_set st290 2 1 (st290 16 1) → (((0 ≤ (0 : Int) ∧ 0 ≤ (0 : Int) ∧ 0 ≤ (6 : Int)) ∧ (0 : Int) + 6 ≤ 6 ∧ (0 : Int) + 6 ≤ 6) ∧ ∀ st292 : sq_S, st292 = sq_row st291 4 (sq_cp (st291 18) (st291 4) 0 0 6) → (∀ st293 : sq_S, st293 = sq_set st292 2 3 (st292 16 3) → (((0 ≤ (0 : Int) ∧ 0 ≤ (0 : Int) ∧ 0 ≤ (16 : Int)) ∧ (0 : Int) + 16 ≤ 16 ∧ (0 : Int) + 16 ≤ 16) ∧ ∀ st294 : sq_S, st294 = sq_row st293 5 (sq_cp (st293 19) (st293 5) 0 0 16) → (((0 ≤ (0 : Int) ∧ 0 ≤ (0 : Int) ∧ 0 ≤ (16 : Int)) ∧ (0 : Int) + 16 ≤ 16 ∧ (0 : Int) + 16 ≤ 16) ∧ ∀ st295 : sq_S, st295 = sq_row st294 6 (sq_cp (st294 20) (st294 6) 0 0 16) → (((0 ≤ (0 : Int) ∧ 0 ≤ (0 : Int) ∧ 0 ≤ (480 : Int)) ∧ (0 : Int) + 480 ≤ 480 ∧ (0 : Int) + 480 ≤ 480) ∧ ∀ st296 : sq_S, st296 = sq_row st295 7 (sq_cp (st295 21) (st295 7) 0 0 480) → (((0 ≤ (0 : Int) ∧ 0 ≤ (0 : Int) ∧ 0 ≤ (10 : Int)) ∧ (0 : Int) + 10 ≤ 10 ∧ (0 : Int) + 10 ≤ 10) ∧ ∀ st297 : sq_S, st297 = sq_row st296 8 (sq_cp (st296 22) (st296 8) 0 0 10) → (∀ st298 : sq_S, st298 = sq_set st297 2 8 (st297 16 8) → (Q 0 st298)))))))))
def rX0_copyFrom_2_16 : Room := { frames := 1, cells := 0, slots := 0, locals := 40 }
set_option maxRecDepth 100000 in
set_option maxHeartbeats 4000000 in
theorem tX0_copyFrom_2_16_0 {l : Launch} {g : sq_G} {J : sq_K} {Q : Int → sq_S → Prop} (S : sq_J l rX0_copyFrom_2_16 cX0_copyFrom 2 RX0 wsX0_copyFrom g sq_X J) (hret : ∀ (pc : Nat) (lv : List (Nat × Value)) (st' : sq_S), decode cX0_copyFrom pc = .ok (.return_, 1) → Q 0 st' → J pc lv [] st') (st : sq_S) (H : wX0_copyFrom_2_16 st Q) : J 0 [(0, .ref (g.2.2 2)), (1, .ref (g.2.2 16))] [] st := by
  unfold wX0_copyFrom_2_16 at H
  refine sj_aload_n (pl := 1) S dX0_copyFrom_0 rfl rfl ?_
  refine sj_getr S fX_16_0 iX0_copyFrom_0 rfl (by decide) mX0_copyFrom_9 dX0_copyFrom_1 ?_
  refine sj_iconst S dX0_copyFrom_4 ?_
  refine sj_aload_n (pl := 0) S dX0_copyFrom_5 rfl rfl ?_
  refine sj_getr S fX_2_0 iX0_copyFrom_0 rfl (by decide) mX0_copyFrom_9 dX0_copyFrom_6 ?_
  refine sj_iconst S dX0_copyFrom_9 ?_
  refine sj_bipush S dX0_copyFrom_10 (by decide +kernel) ?_
  refine sj_copy S aX_17 aX_3 H.1 (List.mem_of_getElem? (i := 2) rfl) (List.mem_of_getElem? (i := 3) rfl) (List.mem_of_getElem? (i := 4) rfl) (List.mem_of_getElem? (i := 5) rfl) (Nat.le_of_ble_eq_true rfl) (Nat.le_of_ble_eq_true (by decide +kernel)) dX0_copyFrom_12 (fun st290 est290 => ?_)
  have H := H.2 st290 est290
  refine sj_aload_n (pl := 0) S dX0_copyFrom_15 rfl rfl ?_
  refine sj_aload_n (pl := 1) S dX0_copyFrom_16 rfl rfl ?_
  refine sj_geti S fX_16_1 iX0_copyFrom_0 rfl (by decide) mX0_copyFrom_40 dX0_copyFrom_17 ?_
  refine sj_puti S fX_2_1 iX0_copyFrom_0 tyX0 tyX0_ok nmX0 rfl (by decide) mX0_copyFrom_40 rfl rfl dX0_copyFrom_20 (fun st291 est291 => ?_)
  have H := H st291 est291
  refine sj_aload_n (pl := 1) S dX0_copyFrom_23 rfl rfl ?_
  refine sj_getr S fX_16_2 iX0_copyFrom_0 rfl (by decide) mX0_copyFrom_15 dX0_copyFrom_24 ?_
  refine sj_iconst S dX0_copyFrom_27 ?_
  refine sj_aload_n (pl := 0) S dX0_copyFrom_28 rfl rfl ?_
  refine sj_getr S fX_2_2 iX0_copyFrom_0 rfl (by decide) mX0_copyFrom_15 dX0_copyFrom_29 ?_
  refine sj_iconst S dX0_copyFrom_32 ?_
  refine sj_bipush S dX0_copyFrom_33 (by decide +kernel) ?_
  refine sj_copy S aX_18 aX_4 H.1 (List.mem_of_getElem? (i := 2) rfl) (List.mem_of_getElem? (i := 3) rfl) (List.mem_of_getElem? (i := 4) rfl) (List.mem_of_getElem? (i := 5) rfl) (Nat.le_of_ble_eq_true rfl) (Nat.le_of_ble_eq_true (by decide +kernel)) dX0_copyFrom_35 (fun st292 est292 => ?_)
  have H := H.2 st292 est292
  refine sj_aload_n (pl := 0) S dX0_copyFrom_38 rfl rfl ?_
  refine sj_aload_n (pl := 1) S dX0_copyFrom_39 rfl rfl ?_
  refine sj_geti S fX_16_3 iX0_copyFrom_0 rfl (by decide) mX0_copyFrom_18 dX0_copyFrom_40 ?_
  refine sj_puti S fX_2_3 iX0_copyFrom_0 tyX0 tyX0_ok nmX0 rfl (by decide) mX0_copyFrom_18 rfl rfl dX0_copyFrom_43 (fun st293 est293 => ?_)
  have H := H st293 est293
  refine sj_aload_n (pl := 1) S dX0_copyFrom_46 rfl rfl ?_
  refine sj_getr S fX_16_4 iX0_copyFrom_0 rfl (by decide) mX0_copyFrom_22 dX0_copyFrom_47 ?_
  refine sj_iconst S dX0_copyFrom_50 ?_
  refine sj_aload_n (pl := 0) S dX0_copyFrom_51 rfl rfl ?_
  refine sj_getr S fX_2_4 iX0_copyFrom_0 rfl (by decide) mX0_copyFrom_22 dX0_copyFrom_52 ?_
  refine sj_iconst S dX0_copyFrom_55 ?_
  refine sj_bipush S dX0_copyFrom_56 (by decide +kernel) ?_
  refine sj_copy S aX_19 aX_5 H.1 (List.mem_of_getElem? (i := 2) rfl) (List.mem_of_getElem? (i := 3) rfl) (List.mem_of_getElem? (i := 4) rfl) (List.mem_of_getElem? (i := 5) rfl) (Nat.le_of_ble_eq_true rfl) (Nat.le_of_ble_eq_true (by decide +kernel)) dX0_copyFrom_58 (fun st294 est294 => ?_)
  have H := H.2 st294 est294
  refine sj_aload_n (pl := 1) S dX0_copyFrom_61 rfl rfl ?_
  refine sj_getr S fX_16_5 iX0_copyFrom_0 rfl (by decide) mX0_copyFrom_25 dX0_copyFrom_62 ?_
  refine sj_iconst S dX0_copyFrom_65 ?_
  refine sj_aload_n (pl := 0) S dX0_copyFrom_66 rfl rfl ?_
  refine sj_getr S fX_2_5 iX0_copyFrom_0 rfl (by decide) mX0_copyFrom_25 dX0_copyFrom_67 ?_
  refine sj_iconst S dX0_copyFrom_70 ?_
  refine sj_bipush S dX0_copyFrom_71 (by decide +kernel) ?_
  refine sj_copy S aX_20 aX_6 H.1 (List.mem_of_getElem? (i := 2) rfl) (List.mem_of_getElem? (i := 3) rfl) (List.mem_of_getElem? (i := 4) rfl) (List.mem_of_getElem? (i := 5) rfl) (Nat.le_of_ble_eq_true rfl) (Nat.le_of_ble_eq_true (by decide +kernel)) dX0_copyFrom_73 (fun st295 est295 => ?_)
  have H := H.2 st295 est295
  refine sj_aload_n (pl := 1) S dX0_copyFrom_76 rfl rfl ?_
  refine sj_getr S fX_16_6 iX0_copyFrom_0 rfl (by decide) mX0_copyFrom_28 dX0_copyFrom_77 ?_
  refine sj_iconst S dX0_copyFrom_80 ?_
  refine sj_aload_n (pl := 0) S dX0_copyFrom_81 rfl rfl ?_
  refine sj_getr S fX_2_6 iX0_copyFrom_0 rfl (by decide) mX0_copyFrom_28 dX0_copyFrom_82 ?_
  refine sj_iconst S dX0_copyFrom_85 ?_
  refine sj_sipush S dX0_copyFrom_86 (by decide +kernel) ?_
  refine sj_copy S aX_21 aX_7 H.1 (List.mem_of_getElem? (i := 2) rfl) (List.mem_of_getElem? (i := 3) rfl) (List.mem_of_getElem? (i := 4) rfl) (List.mem_of_getElem? (i := 5) rfl) (Nat.le_of_ble_eq_true rfl) (Nat.le_of_ble_eq_true (by decide +kernel)) dX0_copyFrom_89 (fun st296 est296 => ?_)
  have H := H.2 st296 est296
  refine sj_aload_n (pl := 1) S dX0_copyFrom_92 rfl rfl ?_
  refine sj_getr S fX_16_7 iX0_copyFrom_0 rfl (by decide) mX0_copyFrom_31 dX0_copyFrom_93 ?_
  refine sj_iconst S dX0_copyFrom_96 ?_
  refine sj_aload_n (pl := 0) S dX0_copyFrom_97 rfl rfl ?_
  refine sj_getr S fX_2_7 iX0_copyFrom_0 rfl (by decide) mX0_copyFrom_31 dX0_copyFrom_98 ?_
  refine sj_iconst S dX0_copyFrom_101 ?_
  refine sj_bipush S dX0_copyFrom_102 (by decide +kernel) ?_
  refine sj_copy S aX_22 aX_8 H.1 (List.mem_of_getElem? (i := 2) rfl) (List.mem_of_getElem? (i := 3) rfl) (List.mem_of_getElem? (i := 4) rfl) (List.mem_of_getElem? (i := 5) rfl) (Nat.le_of_ble_eq_true rfl) (Nat.le_of_ble_eq_true (by decide +kernel)) dX0_copyFrom_104 (fun st297 est297 => ?_)
  have H := H.2 st297 est297
  refine sj_aload_n (pl := 0) S dX0_copyFrom_107 rfl rfl ?_
  refine sj_aload_n (pl := 1) S dX0_copyFrom_108 rfl rfl ?_
  refine sj_geti S fX_16_8 iX0_copyFrom_0 rfl (by decide) mX0_copyFrom_43 dX0_copyFrom_109 ?_
  refine sj_puti S fX_2_8 iX0_copyFrom_0 tyX0 tyX0_ok nmX0 rfl (by decide) mX0_copyFrom_43 rfl rfl dX0_copyFrom_112 (fun st298 est298 => ?_)
  have H := H st298 est298
  exact hret _ _ _ dX0_copyFrom_115 H
set_option maxRecDepth 100000 in
set_option maxHeartbeats 4000000 in
theorem kX0_copyFrom_2_16 (l : Launch) (g : sq_G) (st : sq_S) (Q : Int → sq_S → Prop) (H : wX0_copyFrom_2_16  st Q) : sq_Cv l yX0_copyFrom wsX0_copyFrom rX0_copyFrom_2_16 g sq_X [.ref (g.2.2 2), .ref (g.2.2 16)] st Q := by
  refine sq_in_v (cc := cX0_copyFrom) (nL := 2) (own := RX0) (by decide) rfl rfl (Nat.le_of_ble_eq_true rfl) ?_
  intro J S hret
  exact tX0_copyFrom_2_16_0 S hret  st H
/-! restore (I)I : X3_restore -/
theorem iX3_restore_3 : ∀ w ∈ u_ws RX3 TX3 8, w ∈ wsX3_restore := fun _ h => List.mem_cons_of_mem _ (List.mem_append_left _ (List.mem_append_right _ h))
theorem mX3_restore_16 : Cond.fieldLink RX3 16 (TX3 2).1 (TX3 2).2.1 (TX3 2).2.2.1 ∈ wsX3_restore := List.mem_of_getElem? (i := 2) rfl
theorem mX3_restore_20 : Cond.fieldLink RX3 20 (TX3 3).1 (TX3 3).2.1 (TX3 3).2.2.1 ∈ wsX3_restore := List.mem_of_getElem? (i := 3) rfl
theorem mX3_restore_158 : Cond.fieldLink RX3 158 (TX3 4).1 (TX3 4).2.1 (TX3 4).2.2.1 ∈ wsX3_restore := List.mem_of_getElem? (i := 1) rfl
def wX3_restore (v1 : Int) (st : sq_S) (Q : Int → sq_S → Prop) : Prop :=
  wX3_isOutside v1 0 1 st (fun r278 st279 => sq_rg r278 ∧ (r278 = 0 → sq_rg (sq_and (sq_shr (st279 0 4) v1) 1) ∧ (¬ (sq_and (sq_shr (st279 0 4) v1) 1) = 0 → (v1 = 0 ∨ v1 = 1) ∧ (v1 = 0 → wX0_copyFrom_2_9 st279 (fun _ st289 => Q 1 st289)) ∧ (v1 = 1 → wX0_copyFrom_2_16 st279 (fun _ st299 => Q 1 st299))) ∧ ((sq_and (sq_shr (st279 0 4) v1) 1) = 0 → Q (-3) st279)) ∧ (¬ r278 = 0 → Q (-2) st279))
def rX3_restore : Room := { frames := 2, cells := 0, slots := 0, locals := 61 }
set_option maxRecDepth 100000 in
set_option maxHeartbeats 4000000 in
theorem tX3_restore_0 {l : Launch} {g : sq_G} {J : sq_K} {Q : Int → sq_S → Prop} (S : sq_J l rX3_restore cX3_restore 2 RX3 wsX3_restore g sq_X J) (hret : ∀ (pc : Nat) (lv : List (Nat × Value)) (r : Int) (st' : sq_S), decode cX3_restore pc = .ok (.ireturn, 1) → Q r st' → J pc lv [.int (sq_z r)] st') (v1 : Int) (st : sq_S) (H : wX3_restore v1 st Q) : J 0 [(0, .ref (g.2.2 0)), (1, .int (sq_z v1))] [] st := by
  unfold wX3_restore at H
  refine sj_iload_n (pl := 1) S dX3_restore_0 rfl rfl ?_
  refine sj_iconst S dX3_restore_1 ?_
  refine sj_iconst S dX3_restore_2 ?_
  refine sj_si (rest := []) S (kX3_isOutside l g v1 0 1 st _ H) (fun s args hts => va_cwS 3 hts gX3_restore_X3_isOutside rfl rfl rfl (by decide +kernel) ⟨Nat.le_of_ble_eq_true rfl, Nat.le_of_ble_eq_true rfl⟩) rfl rfl (Nat.le_of_ble_eq_true rfl) dX3_restore_3 (fun r278 st279 H => ?_)
  refine sj_if_eq (tgt := 12) S H.1 dX3_restore_6 (by decide) (fun c9 => ?_) (fun c9 => ?_)
  · have H := H.2.1 c9
    refine sj_aload_n (pl := 0) S dX3_restore_12 rfl rfl ?_
    refine sj_geti S fX_0_4 iX3_restore_3 rfl (by decide) mX3_restore_158 dX3_restore_13 ?_
    refine sj_iload_n (pl := 1) S dX3_restore_16 rfl rfl ?_
    refine sj_ishr S dX3_restore_17 ?_
    refine sj_iconst S dX3_restore_18 ?_
    refine sj_iand S dX3_restore_19 ?_
    refine sj_if_ne (tgt := 26) S H.1 dX3_restore_20 (by decide) (fun c9 => ?_) (fun c9 => ?_)
    · have H := H.2.1 c9
      refine sj_aload_n (pl := 0) S dX3_restore_26 rfl rfl ?_
      refine sj_getr S fX_0_2 iX3_restore_3 rfl (by decide) mX3_restore_16 dX3_restore_27 ?_
      refine sj_aload_n (pl := 0) S dX3_restore_30 rfl rfl ?_
      refine sj_getr S fX_0_3 iX3_restore_3 rfl (by decide) mX3_restore_20 dX3_restore_31 ?_
      refine sj_iload_n (pl := 1) S dX3_restore_34 rfl rfl ?_
      rcases H.1 with c9 | c9
      · refine sj_aald S (v := 0) c9 (by decide) rfl dX3_restore_35 ?_
        have H := H.2.1 c9
        refine sj_vv (rest := []) (q0 := 2) (ci := 0) S (kX0_copyFrom_2_9 l g st279 _ H) (fun s args hts => cwV 1 hts gX3_restore_X0_copyFrom rfl rfl rfl (by decide +kernel) ⟨Nat.le_of_ble_eq_true rfl, Nat.le_of_ble_eq_true rfl⟩) rfl rfl rfl rfl (Nat.le_of_ble_eq_true rfl) dX3_restore_36 (fun st289 H => ?_)
        refine sj_iconst S dX3_restore_39 ?_
        exact hret _ _ _ _ dX3_restore_40 H
      · refine sj_aald S (v := 1) c9 (by decide) rfl dX3_restore_35 ?_
        have H := H.2.2 c9
        refine sj_vv (rest := []) (q0 := 2) (ci := 0) S (kX0_copyFrom_2_16 l g st279 _ H) (fun s args hts => cwV 1 hts gX3_restore_X0_copyFrom rfl rfl rfl (by decide +kernel) ⟨Nat.le_of_ble_eq_true rfl, Nat.le_of_ble_eq_true rfl⟩) rfl rfl rfl rfl (Nat.le_of_ble_eq_true rfl) dX3_restore_36 (fun st299 H => ?_)
        refine sj_iconst S dX3_restore_39 ?_
        exact hret _ _ _ _ dX3_restore_40 H
    · have H := H.2.2 c9
      refine sj_bipush S dX3_restore_23 (by decide +kernel) ?_
      exact hret _ _ _ _ dX3_restore_25 H
  · have H := H.2.2 c9
    refine sj_bipush S dX3_restore_9 (by decide +kernel) ?_
    exact hret _ _ _ _ dX3_restore_11 H
set_option maxRecDepth 100000 in
set_option maxHeartbeats 4000000 in
theorem kX3_restore (l : Launch) (g : sq_G) (v1 : Int) (st : sq_S) (Q : Int → sq_S → Prop) (H : wX3_restore v1 st Q) : sq_Ci l yX3_restore wsX3_restore rX3_restore g sq_X [.ref (g.2.2 0), .int (sq_z v1)] st Q := by
  refine sq_in_i (cc := cX3_restore) (nL := 2) (own := RX3) (by decide) rfl rfl (Nat.le_of_ble_eq_true rfl) ?_
  intro J S hret
  exact tX3_restore_0 S hret v1 st H
/-! count (I)I : X3_count -/
theorem iX3_count_0 : ∀ w ∈ u_ws RX0 TX0 9, w ∈ wsX3_count := fun _ h => List.mem_cons_of_mem _ (List.mem_append_right _ h)
theorem iX3_count_3 : ∀ w ∈ u_ws RX3 TX3 8, w ∈ wsX3_count := fun _ h => List.mem_cons_of_mem _ (List.mem_append_left _ (List.mem_append_right _ h))
theorem mX3_count_16 : Cond.fieldLink RX3 16 (TX3 2).1 (TX3 2).2.1 (TX3 2).2.2.1 ∈ wsX3_count := List.mem_of_getElem? (i := 1) rfl
theorem mX3_count_41 : Cond.fieldLink RX3 41 (TX3 1).1 (TX3 1).2.1 (TX3 1).2.2.1 ∈ wsX3_count := List.mem_of_getElem? (i := 4) rfl
theorem mX3_count_56 : Cond.fieldLink RX3 56 (TX0 1).1 (TX0 1).2.1 (TX0 1).2.2.1 ∈ wsX3_count := List.mem_of_getElem? (i := 2) rfl
theorem mX3_count_62 : Cond.fieldLink RX3 62 (TX0 3).1 (TX0 3).2.1 (TX0 3).2.2.1 ∈ wsX3_count := List.mem_of_getElem? (i := 3) rfl
theorem mX3_count_73 : Cond.fieldLink RX3 73 (TX0 4).1 (TX0 4).2.1 (TX0 4).2.2.1 ∈ wsX3_count := List.mem_of_getElem? (i := 7) rfl
theorem mX3_count_103 : Cond.fieldLink RX3 103 (TX0 8).1 (TX0 8).2.1 (TX0 8).2.2.1 ∈ wsX3_count := List.mem_of_getElem? (i := 5) rfl
theorem mX3_count_158 : Cond.fieldLink RX3 158 (TX3 4).1 (TX3 4).2.1 (TX3 4).2.2.1 ∈ wsX3_count := List.mem_of_getElem? (i := 6) rfl
def wX3_count (v1 : Int) (st : sq_S) (Q : Int → sq_S → Prop) : Prop :=
  sq_rg v1 ∧ (v1 = 0 → Q (st 2 1) st) ∧ (v1 = 1 → Q (st 2 3) st) ∧ (v1 = 2 → Q (st 0 1) st) ∧ (v1 = 3 → Q (st 2 8) st) ∧ (v1 = 4 → wX0_likedPairs st (fun r300 st301 => Q r300 st301)) ∧ (v1 = 5 → Q (st 0 4) st) ∧ ((v1 < 0 ∨ 5 < v1) → wX3_isOutside v1 10 25 st (fun r302 st303 => sq_rg r302 ∧ (r302 = 0 → sq_ib (v1 - 10) 16 ∧ (Q (st303 5 ((v1 - 10)).toNat) st303)) ∧ (¬ r302 = 0 → Q (-2) st303)))
def rX3_count : Room := { frames := 2, cells := 0, slots := 0, locals := 42 }
set_option maxRecDepth 100000 in
set_option maxHeartbeats 4000000 in
theorem tX3_count_0 {l : Launch} {g : sq_G} {J : sq_K} {Q : Int → sq_S → Prop} (S : sq_J l rX3_count cX3_count 2 RX3 wsX3_count g sq_X J) (hret : ∀ (pc : Nat) (lv : List (Nat × Value)) (r : Int) (st' : sq_S), decode cX3_count pc = .ok (.ireturn, 1) → Q r st' → J pc lv [.int (sq_z r)] st') (v1 : Int) (st : sq_S) (H : wX3_count v1 st Q) : J 0 [(0, .ref (g.2.2 0)), (1, .int (sq_z v1))] [] st := by
  unfold wX3_count at H
  refine sj_iload_n (pl := 1) S dX3_count_0 rfl rfl ?_
  by_cases c0 : v1 = 0
  · refine sj_tab (v := 0) (tgt := 40) S (by decide) c0 dX3_count_1 (by decide) (by decide) rfl (by decide) ?_
    have H := H.2.1 c0
    refine sj_aload_n (pl := 0) S dX3_count_40 rfl rfl ?_
    refine sj_getr S fX_0_2 iX3_count_3 rfl (by decide) mX3_count_16 dX3_count_41 ?_
    refine sj_geti S fX_2_1 iX3_count_0 rfl (by decide) mX3_count_56 dX3_count_44 ?_
    exact hret _ _ _ _ dX3_count_47 H
  by_cases c1 : v1 = 1
  · refine sj_tab (v := 1) (tgt := 48) S (by decide) c1 dX3_count_1 (by decide) (by decide) rfl (by decide) ?_
    have H := H.2.2.1 c1
    refine sj_aload_n (pl := 0) S dX3_count_48 rfl rfl ?_
    refine sj_getr S fX_0_2 iX3_count_3 rfl (by decide) mX3_count_16 dX3_count_49 ?_
    refine sj_geti S fX_2_3 iX3_count_0 rfl (by decide) mX3_count_62 dX3_count_52 ?_
    exact hret _ _ _ _ dX3_count_55 H
  by_cases c2 : v1 = 2
  · refine sj_tab (v := 2) (tgt := 56) S (by decide) c2 dX3_count_1 (by decide) (by decide) rfl (by decide) ?_
    have H := H.2.2.2.1 c2
    refine sj_aload_n (pl := 0) S dX3_count_56 rfl rfl ?_
    refine sj_geti S fX_0_1 iX3_count_3 rfl (by decide) mX3_count_41 dX3_count_57 ?_
    exact hret _ _ _ _ dX3_count_60 H
  by_cases c3 : v1 = 3
  · refine sj_tab (v := 3) (tgt := 61) S (by decide) c3 dX3_count_1 (by decide) (by decide) rfl (by decide) ?_
    have H := H.2.2.2.2.1 c3
    refine sj_aload_n (pl := 0) S dX3_count_61 rfl rfl ?_
    refine sj_getr S fX_0_2 iX3_count_3 rfl (by decide) mX3_count_16 dX3_count_62 ?_
    refine sj_geti S fX_2_8 iX3_count_0 rfl (by decide) mX3_count_103 dX3_count_65 ?_
    exact hret _ _ _ _ dX3_count_68 H
  by_cases c4 : v1 = 4
  · refine sj_tab (v := 4) (tgt := 69) S (by decide) c4 dX3_count_1 (by decide) (by decide) rfl (by decide) ?_
    have H := H.2.2.2.2.2.1 c4
    refine sj_aload_n (pl := 0) S dX3_count_69 rfl rfl ?_
    refine sj_getr S fX_0_2 iX3_count_3 rfl (by decide) mX3_count_16 dX3_count_70 ?_
    refine sj_vi (rest := []) (q0 := 2) (ci := 0) S (kX0_likedPairs l g st _ H) (fun s args hts => cwV 0 hts gX3_count_X0_likedPairs rfl rfl rfl (by decide +kernel) ⟨Nat.le_of_ble_eq_true rfl, Nat.le_of_ble_eq_true rfl⟩) rfl rfl rfl rfl (Nat.le_of_ble_eq_true rfl) dX3_count_73 (fun r300 st301 H => ?_)
    exact hret _ _ _ _ dX3_count_76 H
  by_cases c5 : v1 = 5
  · refine sj_tab (v := 5) (tgt := 77) S (by decide) c5 dX3_count_1 (by decide) (by decide) rfl (by decide) ?_
    have H := H.2.2.2.2.2.2.1 c5
    refine sj_aload_n (pl := 0) S dX3_count_77 rfl rfl ?_
    refine sj_geti S fX_0_4 iX3_count_3 rfl (by decide) mX3_count_158 dX3_count_78 ?_
    exact hret _ _ _ _ dX3_count_81 H
  have cd : v1 < 0 ∨ 5 < v1 := by omega
  refine sj_tabd (tgt := 82) S H.1 cd dX3_count_1 (by decide) ?_
  have H := H.2.2.2.2.2.2.2 cd
  refine sj_iload_n (pl := 1) S dX3_count_82 rfl rfl ?_
  refine sj_bipush S dX3_count_83 (by decide +kernel) ?_
  refine sj_bipush S dX3_count_85 (by decide +kernel) ?_
  refine sj_si (rest := []) S (kX3_isOutside l g v1 10 25 st _ H) (fun s args hts => va_cwS 3 hts gX3_count_X3_isOutside rfl rfl rfl (by decide +kernel) ⟨Nat.le_of_ble_eq_true rfl, Nat.le_of_ble_eq_true rfl⟩) rfl rfl (Nat.le_of_ble_eq_true rfl) dX3_count_87 (fun r302 st303 H => ?_)
  refine sj_if_eq (tgt := 98) S H.1 dX3_count_90 (by decide) (fun c9 => ?_) (fun c9 => ?_)
  · have H := H.2.1 c9
    refine sj_aload_n (pl := 0) S dX3_count_98 rfl rfl ?_
    refine sj_getr S fX_0_2 iX3_count_3 rfl (by decide) mX3_count_16 dX3_count_99 ?_
    refine sj_getr S fX_2_4 iX3_count_0 rfl (by decide) mX3_count_73 dX3_count_102 ?_
    refine sj_iload_n (pl := 1) S dX3_count_105 rfl rfl ?_
    refine sj_bipush S dX3_count_106 (by decide +kernel) ?_
    refine sj_isub S dX3_count_108 ?_
    refine sj_iald S aX_5 H.1 dX3_count_109 ?_
    have H := H.2
    exact hret _ _ _ _ dX3_count_110 H
  · have H := H.2.2 c9
    refine sj_bipush S dX3_count_93 (by decide +kernel) ?_
    refine sj_goto (tgt := 110) S dX3_count_95 (by decide) ?_
    exact hret _ _ _ _ dX3_count_110 H
set_option maxRecDepth 100000 in
set_option maxHeartbeats 4000000 in
theorem kX3_count (l : Launch) (g : sq_G) (v1 : Int) (st : sq_S) (Q : Int → sq_S → Prop) (H : wX3_count v1 st Q) : sq_Ci l yX3_count wsX3_count rX3_count g sq_X [.ref (g.2.2 0), .int (sq_z v1)] st Q := by
  refine sq_in_i (cc := cX3_count) (nL := 2) (own := RX3) (by decide) rfl rfl (Nat.le_of_ble_eq_true rfl) ?_
  intro J S hret
  exact tX3_count_0 S hret v1 st H
