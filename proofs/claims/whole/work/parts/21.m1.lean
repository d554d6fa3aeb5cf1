/-! readBy (I)V : X4_readBy -/
theorem iX4_readBy_4 : ∀ w ∈ u_ws RX4 TX4 12, w ∈ wsX4_readBy := fun _ h => List.mem_cons_of_mem _ (List.mem_append_right _ h)
theorem mX4_readBy_23 : Cond.fieldLink RX4 23 (TX4 5).1 (TX4 5).2.1 (TX4 5).2.2.1 ∈ wsX4_readBy := List.mem_of_getElem? (i := 2) rfl
theorem mX4_readBy_26 : Cond.fieldLink RX4 26 (TX4 6).1 (TX4 6).2.1 (TX4 6).2.2.1 ∈ wsX4_readBy := List.mem_of_getElem? (i := 1) rfl
theorem mX4_readBy_35 : Cond.fieldLink RX4 35 (TX4 9).1 (TX4 9).2.1 (TX4 9).2.2.1 ∈ wsX4_readBy := List.mem_of_getElem? (i := 3) rfl
def bX4_readBy_2 (K2 : Int → Int → sq_S → Prop) (Q : Int → sq_S → Prop) (v1 v2 : Int) (st : sq_S) : Prop :=
  wX4_many st (fun r400 st401 => (sq_rg v2 ∧ sq_rg r400) ∧ (r400 ≤ v2 → Q 0 st401) ∧ (v2 < r400 → sq_rg v1 ∧ (v1 ≤ 0 → sq_ib v2 48 ∧ (sq_ib v2 48 ∧ (sq_ib (st401 9 v2.toNat) 48 ∧ (∀ st402 : sq_S, st402 = sq_set st401 6 ((st401 9 v2.toNat)).toNat (st401 5 v2.toNat) → (K2 v1 (v2 + 1) st402))))) ∧ (0 < v1 → sq_ib v2 48 ∧ (sq_ib (st401 9 v2.toNat) 48 ∧ (sq_ib v2 48 ∧ (∀ st403 : sq_S, st403 = sq_set st401 6 v2.toNat (st401 5 ((st401 9 v2.toNat)).toNat) → (K2 v1 (v2 + 1) st403)))))))
def bX4_readBy_0 (K2 : Int → Int → sq_S → Prop) (Q : Int → sq_S → Prop) (v1 : Int) (st : sq_S) : Prop :=
  K2 v1 0 st
def wX4_readBy (v1 : Int) (st : sq_S) (Q : Int → sq_S → Prop) : Prop :=
  ∀ (K2 : Int → Int → sq_S → Prop), (∀ (v1 v2 : Int) (st : sq_S), bX4_readBy_2 K2 Q v1 v2 st → K2 v1 v2 st) → bX4_readBy_0 K2 Q v1 st
def rX4_readBy : Room := { frames := 1, cells := 0, slots := 0, locals := 20 }
def qX4_readBy_2 (J : sq_K) (g : sq_G) : Int → Int → sq_S → Prop := fun v1 v2 st => J 2 [(0, .ref (g.2.2 0)), (1, .int (sq_z v1)), (2, .int (sq_z v2))] [] st
set_option maxRecDepth 100000 in
set_option maxHeartbeats 4000000 in
theorem tX4_readBy_2 {l : Launch} {g : sq_G} {J : sq_K} {Q : Int → sq_S → Prop} (S : sq_J l rX4_readBy cX4_readBy 3 RX4 wsX4_readBy g sq_M J) (hret : ∀ (pc : Nat) (lv : List (Nat × Value)) (st' : sq_S), decode cX4_readBy pc = .ok (.return_, 1) → Q 0 st' → J pc lv [] st') (v1 v2 : Int) (st : sq_S) (H : bX4_readBy_2 (qX4_readBy_2 J g) Q v1 v2 st) : J 2 [(0, .ref (g.2.2 0)), (1, .int (sq_z v1)), (2, .int (sq_z v2))] [] st := by
  unfold bX4_readBy_2 at H
  refine sj_iload_n (pl := 2) S dX4_readBy_2 rfl rfl ?_
  refine sj_aload_n (pl := 0) S dX4_readBy_3 rfl rfl ?_
  refine sj_vi (rest := [.int (sq_z v2)]) (q0 := 0) (ci := 4) S (kX4_many l g st _ H) (fun s args hts => cwV 0 hts gX4_readBy_X4_many rfl rfl rfl (by decide +kernel) ⟨Nat.le_of_ble_eq_true rfl, Nat.le_of_ble_eq_true rfl⟩) rfl rfl rfl rfl (Nat.le_of_ble_eq_true rfl) dX4_readBy_4 (fun r400 st401 H => ?_)
  refine sj_icmp_ge (tgt := 57) S H.1 dX4_readBy_7 (by decide) (fun c9 => ?_) (fun c9 => ?_)
  · have H := H.2.1 c9
    exact hret _ _ _ dX4_readBy_57 H
  · have H := H.2.2 c9
    refine sj_iload_n (pl := 1) S dX4_readBy_10 rfl rfl ?_
    refine sj_if_le (tgt := 34) S H.1 dX4_readBy_11 (by decide) (fun c9 => ?_) (fun c9 => ?_)
    · have H := H.2.1 c9
      refine sj_aload_n (pl := 0) S dX4_readBy_34 rfl rfl ?_
      refine sj_getr S fM_0_6 iX4_readBy_4 rfl (by decide) mX4_readBy_26 dX4_readBy_35 ?_
      refine sj_aload_n (pl := 0) S dX4_readBy_38 rfl rfl ?_
      refine sj_getr S fM_0_9 iX4_readBy_4 rfl (by decide) mX4_readBy_35 dX4_readBy_39 ?_
      refine sj_iload_n (pl := 2) S dX4_readBy_42 rfl rfl ?_
      refine sj_iald S aM_9 H.1 dX4_readBy_43 ?_
      have H := H.2
      refine sj_aload_n (pl := 0) S dX4_readBy_44 rfl rfl ?_
      refine sj_getr S fM_0_5 iX4_readBy_4 rfl (by decide) mX4_readBy_23 dX4_readBy_45 ?_
      refine sj_iload_n (pl := 2) S dX4_readBy_48 rfl rfl ?_
      refine sj_iald S aM_5 H.1 dX4_readBy_49 ?_
      have H := H.2
      refine sj_iast S aM_6 H.1 dX4_readBy_50 (fun st402 est402 => ?_)
      have H := H.2 st402 est402
      refine sj_iinc (pl := 2) (lv' := [(0, .ref (g.2.2 0)), (1, .int (sq_z v1))]) S dX4_readBy_51 rfl (by decide) (fun _ => rfl) ?_
      refine sj_goto (tgt := 2) S dX4_readBy_54 (by decide) ?_
      exact sj_lv S [1, 2, 0] rfl H
    · have H := H.2.2 c9
      refine sj_aload_n (pl := 0) S dX4_readBy_14 rfl rfl ?_
      refine sj_getr S fM_0_6 iX4_readBy_4 rfl (by decide) mX4_readBy_26 dX4_readBy_15 ?_
      refine sj_iload_n (pl := 2) S dX4_readBy_18 rfl rfl ?_
      refine sj_aload_n (pl := 0) S dX4_readBy_19 rfl rfl ?_
      refine sj_getr S fM_0_5 iX4_readBy_4 rfl (by decide) mX4_readBy_23 dX4_readBy_20 ?_
      refine sj_aload_n (pl := 0) S dX4_readBy_23 rfl rfl ?_
      refine sj_getr S fM_0_9 iX4_readBy_4 rfl (by decide) mX4_readBy_35 dX4_readBy_24 ?_
      refine sj_iload_n (pl := 2) S dX4_readBy_27 rfl rfl ?_
      refine sj_iald S aM_9 H.1 dX4_readBy_28 ?_
      have H := H.2
      refine sj_iald S aM_5 H.1 dX4_readBy_29 ?_
      have H := H.2
      refine sj_iast S aM_6 H.1 dX4_readBy_30 (fun st403 est403 => ?_)
      have H := H.2 st403 est403
      refine sj_goto (tgt := 51) S dX4_readBy_31 (by decide) ?_
      refine sj_iinc (pl := 2) (lv' := [(0, .ref (g.2.2 0)), (1, .int (sq_z v1))]) S dX4_readBy_51 rfl (by decide) (fun _ => rfl) ?_
      refine sj_goto (tgt := 2) S dX4_readBy_54 (by decide) ?_
      exact sj_lv S [1, 2, 0] rfl H
set_option maxRecDepth 100000 in
set_option maxHeartbeats 4000000 in
theorem tX4_readBy_0 {l : Launch} {g : sq_G} {J : sq_K} {Q : Int → sq_S → Prop} (S : sq_J l rX4_readBy cX4_readBy 3 RX4 wsX4_readBy g sq_M J) (hret : ∀ (pc : Nat) (lv : List (Nat × Value)) (st' : sq_S), decode cX4_readBy pc = .ok (.return_, 1) → Q 0 st' → J pc lv [] st') (v1 : Int) (st : sq_S) (H : bX4_readBy_0 (qX4_readBy_2 J g) Q v1 st) : J 0 [(0, .ref (g.2.2 0)), (1, .int (sq_z v1))] [] st := by
  unfold bX4_readBy_0 at H
  refine sj_iconst S dX4_readBy_0 ?_
  refine sj_istore_na (lv' := [(0, .ref (g.2.2 0)), (1, .int (sq_z v1))]) S dX4_readBy_1 rfl (by decide) (fun _ => rfl) ?_
  exact sj_lv S [1, 2, 0] rfl H
set_option maxRecDepth 100000 in
set_option maxHeartbeats 4000000 in
theorem kX4_readBy (l : Launch) (g : sq_G) (v1 : Int) (st : sq_S) (Q : Int → sq_S → Prop) (H : wX4_readBy v1 st Q) : sq_Cv l yX4_readBy wsX4_readBy rX4_readBy g sq_M [.ref (g.2.2 0), .int (sq_z v1)] st Q := by
  refine sq_in_v (cc := cX4_readBy) (nL := 3) (own := RX4) (by decide) rfl rfl (Nat.le_of_ble_eq_true rfl) ?_
  intro J S hret
  exact tX4_readBy_0 S hret v1 st (H (qX4_readBy_2 J g) (tX4_readBy_2 S hret))
/-! layRails (I)V : X4_layRails -/
theorem iX4_layRails_4 : ∀ w ∈ u_ws RX4 TX4 12, w ∈ wsX4_layRails := fun _ h => List.mem_cons_of_mem _ (List.mem_append_right _ h)
theorem mX4_layRails_35 : Cond.fieldLink RX4 35 (TX4 9).1 (TX4 9).2.1 (TX4 9).2.2.1 ∈ wsX4_layRails := List.mem_of_getElem? (i := 1) rfl
def bX4_layRails_11 (K11 : Int → Int → Int → Int → sq_S → Prop) (K20 : Int → Int → Int → Int → Int → sq_S → Prop) (Q : Int → sq_S → Prop) (v1 v2 v3 v4 : Int) (st : sq_S) : Prop :=
  (sq_rg v4 ∧ sq_rg v1) ∧ (v1 ≤ v4 → Q 0 st) ∧ (v4 < v1 → K20 v1 v2 v3 v4 0 st)
def bX4_layRails_20 (K11 : Int → Int → Int → Int → sq_S → Prop) (K20 : Int → Int → Int → Int → Int → sq_S → Prop) (Q : Int → sq_S → Prop) (v1 v2 v3 v4 v5 : Int) (st : sq_S) : Prop :=
  wX4_many st (fun r406 st407 => (sq_rg v5 ∧ sq_rg r406) ∧ (r406 ≤ v5 → K11 v1 v2 v3 (v4 + 1) st407) ∧ (v5 < r406 → ((0 ≤ v5 ∧ v5 ≤ 2147483647) ∧ (0 < v3 ∧ v3 ≤ 2147483647)) ∧ (∀ y408 : Int, y408 = (v5 % v3) → ((sq_rg y408 ∧ sq_rg v1) ∧ (v1 ≤ y408 → (sq_rg (v3 - y408) ∧ sq_rg v4) ∧ (¬ (v3 - y408) = v4 → K20 v1 v2 v3 v4 (v5 + 1) st407) ∧ ((v3 - y408) = v4 → sq_ib v2 48 ∧ (∀ st409 : sq_S, st409 = sq_set st407 9 v2.toNat v5 → (K20 v1 (v2 + 1) v3 v4 (v5 + 1) st409)))) ∧ (y408 < v1 → (sq_rg y408 ∧ sq_rg v4) ∧ (¬ y408 = v4 → K20 v1 v2 v3 v4 (v5 + 1) st407) ∧ (y408 = v4 → sq_ib v2 48 ∧ (∀ st410 : sq_S, st410 = sq_set st407 9 v2.toNat v5 → (K20 v1 (v2 + 1) v3 v4 (v5 + 1) st410))))))))
def bX4_layRails_0 (K11 : Int → Int → Int → Int → sq_S → Prop) (K20 : Int → Int → Int → Int → Int → sq_S → Prop) (Q : Int → sq_S → Prop) (v1 : Int) (st : sq_S) : Prop :=
  ∀ y405 : Int, y405 = (2 * (v1 - 1)) → (K11 v1 0 y405 0 st)
def wX4_layRails (v1 : Int) (st : sq_S) (Q : Int → sq_S → Prop) : Prop :=
  ∀ (K11 : Int → Int → Int → Int → sq_S → Prop) (K20 : Int → Int → Int → Int → Int → sq_S → Prop), (∀ (v1 v2 v3 v4 : Int) (st : sq_S), bX4_layRails_11 K11 K20 Q v1 v2 v3 v4 st → K11 v1 v2 v3 v4 st) → (∀ (v1 v2 v3 v4 v5 : Int) (st : sq_S), bX4_layRails_20 K11 K20 Q v1 v2 v3 v4 v5 st → K20 v1 v2 v3 v4 v5 st) → bX4_layRails_0 K11 K20 Q v1 st
def rX4_layRails : Room := { frames := 1, cells := 0, slots := 0, locals := 20 }
def qX4_layRails_11 (J : sq_K) (g : sq_G) : Int → Int → Int → Int → sq_S → Prop := fun v1 v2 v3 v4 st => J 11 [(0, .ref (g.2.2 0)), (1, .int (sq_z v1)), (2, .int (sq_z v2)), (3, .int (sq_z v3)), (4, .int (sq_z v4))] [] st
def qX4_layRails_20 (J : sq_K) (g : sq_G) : Int → Int → Int → Int → Int → sq_S → Prop := fun v1 v2 v3 v4 v5 st => J 20 [(0, .ref (g.2.2 0)), (1, .int (sq_z v1)), (2, .int (sq_z v2)), (3, .int (sq_z v3)), (4, .int (sq_z v4)), (5, .int (sq_z v5))] [] st
set_option maxRecDepth 100000 in
set_option maxHeartbeats 4000000 in
theorem tX4_layRails_11 {l : Launch} {g : sq_G} {J : sq_K} {Q : Int → sq_S → Prop} (S : sq_J l rX4_layRails cX4_layRails 7 RX4 wsX4_layRails g sq_M J) (hret : ∀ (pc : Nat) (lv : List (Nat × Value)) (st' : sq_S), decode cX4_layRails pc = .ok (.return_, 1) → Q 0 st' → J pc lv [] st') (v1 v2 v3 v4 : Int) (st : sq_S) (H : bX4_layRails_11 (qX4_layRails_11 J g) (qX4_layRails_20 J g) Q v1 v2 v3 v4 st) : J 11 [(0, .ref (g.2.2 0)), (1, .int (sq_z v1)), (2, .int (sq_z v2)), (3, .int (sq_z v3)), (4, .int (sq_z v4))] [] st := by
  unfold bX4_layRails_11 at H
  refine sj_iload (pl := 4) S dX4_layRails_11 rfl ?_
  refine sj_iload_n (pl := 1) S dX4_layRails_13 rfl rfl ?_
  refine sj_icmp_ge (tgt := 78) S H.1 dX4_layRails_14 (by decide) (fun c9 => ?_) (fun c9 => ?_)
  · have H := H.2.1 c9
    exact hret _ _ _ dX4_layRails_78 H
  · have H := H.2.2 c9
    refine sj_iconst S dX4_layRails_17 ?_
    refine sj_istorea (lv' := [(0, .ref (g.2.2 0)), (1, .int (sq_z v1)), (2, .int (sq_z v2)), (3, .int (sq_z v3)), (4, .int (sq_z v4))]) S dX4_layRails_18 (by decide) (fun _ => rfl) ?_
    exact sj_lv S [1, 2, 3, 4, 5, 0] rfl H
set_option maxRecDepth 100000 in
set_option maxHeartbeats 4000000 in
theorem tX4_layRails_20 {l : Launch} {g : sq_G} {J : sq_K} {Q : Int → sq_S → Prop} (S : sq_J l rX4_layRails cX4_layRails 7 RX4 wsX4_layRails g sq_M J) (hret : ∀ (pc : Nat) (lv : List (Nat × Value)) (st' : sq_S), decode cX4_layRails pc = .ok (.return_, 1) → Q 0 st' → J pc lv [] st') (v1 v2 v3 v4 v5 : Int) (st : sq_S) (H : bX4_layRails_20 (qX4_layRails_11 J g) (qX4_layRails_20 J g) Q v1 v2 v3 v4 v5 st) : J 20 [(0, .ref (g.2.2 0)), (1, .int (sq_z v1)), (2, .int (sq_z v2)), (3, .int (sq_z v3)), (4, .int (sq_z v4)), (5, .int (sq_z v5))] [] st := by
  unfold bX4_layRails_20 at H
  refine sj_iload (pl := 5) S dX4_layRails_20 rfl ?_
  refine sj_aload_n (pl := 0) S dX4_layRails_22 rfl rfl ?_
  refine sj_vi (rest := [.int (sq_z v5)]) (q0 := 0) (ci := 4) S (kX4_many l g st _ H) (fun s args hts => cwV 0 hts gX4_layRails_X4_many rfl rfl rfl (by decide +kernel) ⟨Nat.le_of_ble_eq_true rfl, Nat.le_of_ble_eq_true rfl⟩) rfl rfl rfl rfl (Nat.le_of_ble_eq_true rfl) dX4_layRails_23 (fun r406 st407 H => ?_)
  refine sj_icmp_ge (tgt := 72) S H.1 dX4_layRails_26 (by decide) (fun c9 => ?_) (fun c9 => ?_)
  · have H := H.2.1 c9
    refine sj_iinc (pl := 4) (lv' := [(0, .ref (g.2.2 0)), (1, .int (sq_z v1)), (2, .int (sq_z v2)), (3, .int (sq_z v3)), (5, .int (sq_z v5))]) S dX4_layRails_72 rfl (by decide) (fun _ => rfl) ?_
    refine sj_goto (tgt := 11) S dX4_layRails_75 (by decide) ?_
    exact sj_lv S [1, 2, 3, 4, 0] rfl H
  · have H := H.2.2 c9
    refine sj_iload (pl := 5) S dX4_layRails_29 rfl ?_
    refine sj_iload_n (pl := 3) S dX4_layRails_31 rfl rfl ?_
    refine sj_irem S H.1 dX4_layRails_32 ?_
    have H := H.2
    refine sj_istore (lv' := [(0, .ref (g.2.2 0)), (1, .int (sq_z v1)), (2, .int (sq_z v2)), (3, .int (sq_z v3)), (4, .int (sq_z v4)), (5, .int (sq_z v5))]) S dX4_layRails_33 (by decide) (fun _ => rfl) (fun y408 ey408 => ?_)
    have H := H y408 ey408
    refine sj_iload (pl := 0) S dX4_layRails_35 rfl ?_
    refine sj_iload_n (pl := 2) S dX4_layRails_37 rfl rfl ?_
    refine sj_icmp_ge (tgt := 46) S H.1 dX4_layRails_38 (by decide) (fun c9 => ?_) (fun c9 => ?_)
    · have H := H.2.1 c9
      refine sj_iload_n (pl := 4) S dX4_layRails_46 rfl rfl ?_
      refine sj_iload (pl := 0) S dX4_layRails_47 rfl ?_
      refine sj_isub S dX4_layRails_49 ?_
      refine sj_iload (pl := 5) S dX4_layRails_50 rfl ?_
      refine sj_icmp_ne (tgt := 66) S H.1 dX4_layRails_52 (by decide) (fun c9 => ?_) (fun c9 => ?_)
      · have H := H.2.1 c9
        refine sj_iinc (pl := 6) (lv' := [(6, .int (sq_z y408)), (0, .ref (g.2.2 0)), (1, .int (sq_z v1)), (2, .int (sq_z v2)), (3, .int (sq_z v3)), (4, .int (sq_z v4))]) S dX4_layRails_66 rfl (by decide) (fun _ => rfl) ?_
        refine sj_goto (tgt := 20) S dX4_layRails_69 (by decide) ?_
        exact sj_lv S [2, 3, 4, 5, 6, 0] rfl H
      · have H := H.2.2 c9
        refine sj_aload_n (pl := 1) S dX4_layRails_55 rfl rfl ?_
        refine sj_getr S fM_0_9 iX4_layRails_4 rfl (by decide) mX4_layRails_35 dX4_layRails_56 ?_
        refine sj_iload_n (pl := 3) S dX4_layRails_59 rfl rfl ?_
        refine sj_iload (pl := 6) S dX4_layRails_60 rfl ?_
        refine sj_iast S aM_9 H.1 dX4_layRails_62 (fun st409 est409 => ?_)
        have H := H.2 st409 est409
        refine sj_iinc (pl := 3) (lv' := [(6, .int (sq_z y408)), (0, .ref (g.2.2 0)), (1, .int (sq_z v1)), (3, .int (sq_z v3)), (4, .int (sq_z v4)), (5, .int (sq_z v5))]) S dX4_layRails_63 rfl (by decide) (fun _ => rfl) ?_
        refine sj_iinc (pl := 6) (lv' := [(2, .int (sq_z (v2 + 1))), (6, .int (sq_z y408)), (0, .ref (g.2.2 0)), (1, .int (sq_z v1)), (3, .int (sq_z v3)), (4, .int (sq_z v4))]) S dX4_layRails_66 rfl (by decide) (fun _ => rfl) ?_
        refine sj_goto (tgt := 20) S dX4_layRails_69 (by decide) ?_
        exact sj_lv S [3, 4, 1, 5, 6, 0] rfl H
    · have H := H.2.2 c9
      refine sj_iload (pl := 0) S dX4_layRails_41 rfl ?_
      refine sj_goto (tgt := 50) S dX4_layRails_43 (by decide) ?_
      refine sj_iload (pl := 5) S dX4_layRails_50 rfl ?_
      refine sj_icmp_ne (tgt := 66) S H.1 dX4_layRails_52 (by decide) (fun c9 => ?_) (fun c9 => ?_)
      · have H := H.2.1 c9
        refine sj_iinc (pl := 6) (lv' := [(6, .int (sq_z y408)), (0, .ref (g.2.2 0)), (1, .int (sq_z v1)), (2, .int (sq_z v2)), (3, .int (sq_z v3)), (4, .int (sq_z v4))]) S dX4_layRails_66 rfl (by decide) (fun _ => rfl) ?_
        refine sj_goto (tgt := 20) S dX4_layRails_69 (by decide) ?_
        exact sj_lv S [2, 3, 4, 5, 6, 0] rfl H
      · have H := H.2.2 c9
        refine sj_aload_n (pl := 1) S dX4_layRails_55 rfl rfl ?_
        refine sj_getr S fM_0_9 iX4_layRails_4 rfl (by decide) mX4_layRails_35 dX4_layRails_56 ?_
        refine sj_iload_n (pl := 3) S dX4_layRails_59 rfl rfl ?_
        refine sj_iload (pl := 6) S dX4_layRails_60 rfl ?_
        refine sj_iast S aM_9 H.1 dX4_layRails_62 (fun st410 est410 => ?_)
        have H := H.2 st410 est410
        refine sj_iinc (pl := 3) (lv' := [(6, .int (sq_z y408)), (0, .ref (g.2.2 0)), (1, .int (sq_z v1)), (3, .int (sq_z v3)), (4, .int (sq_z v4)), (5, .int (sq_z v5))]) S dX4_layRails_63 rfl (by decide) (fun _ => rfl) ?_
        refine sj_iinc (pl := 6) (lv' := [(2, .int (sq_z (v2 + 1))), (6, .int (sq_z y408)), (0, .ref (g.2.2 0)), (1, .int (sq_z v1)), (3, .int (sq_z v3)), (4, .int (sq_z v4))]) S dX4_layRails_66 rfl (by decide) (fun _ => rfl) ?_
        refine sj_goto (tgt := 20) S dX4_layRails_69 (by decide) ?_
        exact sj_lv S [3, 4, 1, 5, 6, 0] rfl H
set_option maxRecDepth 100000 in
set_option maxHeartbeats 4000000 in
theorem tX4_layRails_0 {l : Launch} {g : sq_G} {J : sq_K} {Q : Int → sq_S → Prop} (S : sq_J l rX4_layRails cX4_layRails 7 RX4 wsX4_layRails g sq_M J) (hret : ∀ (pc : Nat) (lv : List (Nat × Value)) (st' : sq_S), decode cX4_layRails pc = .ok (.return_, 1) → Q 0 st' → J pc lv [] st') (v1 : Int) (st : sq_S) (H : bX4_layRails_0 (qX4_layRails_11 J g) (qX4_layRails_20 J g) Q v1 st) : J 0 [(0, .ref (g.2.2 0)), (1, .int (sq_z v1))] [] st := by
  unfold bX4_layRails_0 at H
  refine sj_iconst S dX4_layRails_0 ?_
  refine sj_istore_na (lv' := [(0, .ref (g.2.2 0)), (1, .int (sq_z v1))]) S dX4_layRails_1 rfl (by decide) (fun _ => rfl) ?_
  refine sj_iconst S dX4_layRails_2 ?_
  refine sj_iload_n (pl := 2) S dX4_layRails_3 rfl rfl ?_
  refine sj_iconst S dX4_layRails_4 ?_
  refine sj_isub S dX4_layRails_5 ?_
  refine sj_imul S dX4_layRails_6 ?_
  refine sj_istore_n (lv' := [(2, .int (sq_z 0)), (0, .ref (g.2.2 0)), (1, .int (sq_z v1))]) S dX4_layRails_7 rfl (by decide) (fun _ => rfl) (fun y405 ey405 => ?_)
  have H := H y405 ey405
  refine sj_iconst S dX4_layRails_8 ?_
  refine sj_istorea (lv' := [(3, .int (sq_z y405)), (2, .int (sq_z 0)), (0, .ref (g.2.2 0)), (1, .int (sq_z v1))]) S dX4_layRails_9 (by decide) (fun _ => rfl) ?_
  exact sj_lv S [3, 4, 2, 1, 0] rfl H
set_option maxRecDepth 100000 in
set_option maxHeartbeats 4000000 in
theorem kX4_layRails (l : Launch) (g : sq_G) (v1 : Int) (st : sq_S) (Q : Int → sq_S → Prop) (H : wX4_layRails v1 st Q) : sq_Cv l yX4_layRails wsX4_layRails rX4_layRails g sq_M [.ref (g.2.2 0), .int (sq_z v1)] st Q := by
  refine sq_in_v (cc := cX4_layRails) (nL := 7) (own := RX4) (by decide) rfl rfl (Nat.le_of_ble_eq_true rfl) ?_
  intro J S hret
  exact tX4_layRails_0 S hret v1 st (H (qX4_layRails_11 J g) (qX4_layRails_20 J g) (tX4_layRails_11 S hret) (tX4_layRails_20 S hret))
/-! apart (I)V : X4_apart -/
theorem iX4_apart_4 : ∀ w ∈ u_ws RX4 TX4 12, w ∈ wsX4_apart := fun _ h => List.mem_cons_of_mem _ (List.mem_append_right _ h)
theorem mX4_apart_23 : Cond.fieldLink RX4 23 (TX4 5).1 (TX4 5).2.1 (TX4 5).2.2.1 ∈ wsX4_apart := List.mem_of_getElem? (i := 1) rfl
theorem mX4_apart_26 : Cond.fieldLink RX4 26 (TX4 6).1 (TX4 6).2.1 (TX4 6).2.2.1 ∈ wsX4_apart := List.mem_of_getElem? (i := 3) rfl
theorem mX4_apart_29 : Cond.fieldLink RX4 29 (TX4 7).1 (TX4 7).2.1 (TX4 7).2.2.1 ∈ wsX4_apart := List.mem_of_getElem? (i := 4) rfl
theorem mX4_apart_38 : Cond.fieldLink RX4 38 (TX4 10).1 (TX4 10).2.1 (TX4 10).2.2.1 ∈ wsX4_apart := List.mem_of_getElem? (i := 2) rfl
def bX4_apart_7 (K7 : Int → Int → Int → sq_S → Prop) (K39 : Int → Int → Int → Int → Int → sq_S → Prop) (K76 : Int → Int → Int → sq_S → Prop) (Q : Int → sq_S → Prop) (v1 v2 v3 : Int) (st : sq_S) : Prop :=
  (sq_rg v3 ∧ sq_rg v2) ∧ (v2 ≤ v3 → K76 v1 v2 0 st) ∧ (v3 < v2 → sq_ib v3 48 ∧ (wX4_placeOf (st 5 v3.toNat) st (fun r415 st416 => sq_rg v1 ∧ (v1 ≤ 0 → K39 v1 v2 v3 r415 (2 * v3) st416) ∧ (0 < v1 → K39 v1 v2 v3 r415 v3 st416))))
def bX4_apart_39 (K7 : Int → Int → Int → sq_S → Prop) (K39 : Int → Int → Int → Int → Int → sq_S → Prop) (K76 : Int → Int → Int → sq_S → Prop) (Q : Int → sq_S → Prop) (v1 v2 v3 v4 s0 : Int) (st : sq_S) : Prop :=
  ((0 ≤ v4 ∧ v4 ≤ 2147483647) ∧ (0 < (4 : Int) ∧ (4 : Int) ≤ 2147483647)) ∧ (sq_ib s0 96 ∧ (∀ st419 : sq_S, st419 = sq_set st 10 s0.toNat (v4 / 4) → (sq_rg v1 ∧ (v1 ≤ 0 → ((0 ≤ v4 ∧ v4 ≤ 2147483647) ∧ (0 < (4 : Int) ∧ (4 : Int) ≤ 2147483647)) ∧ (sq_ib ((2 * v3) + 1) 96 ∧ (∀ st420 : sq_S, st420 = sq_set st419 10 (((2 * v3) + 1)).toNat (v4 % 4) → (K7 v1 v2 (v3 + 1) st420)))) ∧ (0 < v1 → ((0 ≤ v4 ∧ v4 ≤ 2147483647) ∧ (0 < (4 : Int) ∧ (4 : Int) ≤ 2147483647)) ∧ (sq_ib (v2 + v3) 96 ∧ (∀ st421 : sq_S, st421 = sq_set st419 10 ((v2 + v3)).toNat (v4 % 4) → (K7 v1 v2 (v3 + 1) st421)))))))
def bX4_apart_76 (K7 : Int → Int → Int → sq_S → Prop) (K39 : Int → Int → Int → Int → Int → sq_S → Prop) (K76 : Int → Int → Int → sq_S → Prop) (Q : Int → sq_S → Prop) (v1 v2 v3 : Int) (st : sq_S) : Prop :=
  (sq_rg v3 ∧ sq_rg v2) ∧ (v2 ≤ v3 → Q 0 st) ∧ (v3 < v2 → sq_rg v1 ∧ (v1 ≤ 0 → sq_ib v3 96 ∧ (sq_ib (v2 + v3) 96 ∧ (sq_ib ((4 * (st 10 v3.toNat)) + (st 10 ((v2 + v3)).toNat)) 16 ∧ (sq_ib v3 48 ∧ (∀ st417 : sq_S, st417 = sq_set st 6 v3.toNat (st 7 (((4 * (st 10 v3.toNat)) + (st 10 ((v2 + v3)).toNat))).toNat) → (K76 v1 v2 (v3 + 1) st417)))))) ∧ (0 < v1 → sq_ib (2 * v3) 96 ∧ (sq_ib ((2 * v3) + 1) 96 ∧ (sq_ib ((4 * (st 10 ((2 * v3)).toNat)) + (st 10 (((2 * v3) + 1)).toNat)) 16 ∧ (sq_ib v3 48 ∧ (∀ st418 : sq_S, st418 = sq_set st 6 v3.toNat (st 7 (((4 * (st 10 ((2 * v3)).toNat)) + (st 10 (((2 * v3) + 1)).toNat))).toNat) → (K76 v1 v2 (v3 + 1) st418)))))))
def bX4_apart_0 (K7 : Int → Int → Int → sq_S → Prop) (K39 : Int → Int → Int → Int → Int → sq_S → Prop) (K76 : Int → Int → Int → sq_S → Prop) (Q : Int → sq_S → Prop) (v1 : Int) (st : sq_S) : Prop :=
  wX4_many st (fun r413 st414 => K7 v1 r413 0 st414)
def wX4_apart (v1 : Int) (st : sq_S) (Q : Int → sq_S → Prop) : Prop :=
  ∀ (K7 : Int → Int → Int → sq_S → Prop) (K39 : Int → Int → Int → Int → Int → sq_S → Prop) (K76 : Int → Int → Int → sq_S → Prop), (∀ (v1 v2 v3 : Int) (st : sq_S), bX4_apart_7 K7 K39 K76 Q v1 v2 v3 st → K7 v1 v2 v3 st) → (∀ (v1 v2 v3 v4 s0 : Int) (st : sq_S), bX4_apart_39 K7 K39 K76 Q v1 v2 v3 v4 s0 st → K39 v1 v2 v3 v4 s0 st) → (∀ (v1 v2 v3 : Int) (st : sq_S), bX4_apart_76 K7 K39 K76 Q v1 v2 v3 st → K76 v1 v2 v3 st) → bX4_apart_0 K7 K39 K76 Q v1 st
def rX4_apart : Room := { frames := 1, cells := 0, slots := 0, locals := 22 }
def qX4_apart_7 (J : sq_K) (g : sq_G) : Int → Int → Int → sq_S → Prop := fun v1 v2 v3 st => J 7 [(0, .ref (g.2.2 0)), (1, .int (sq_z v1)), (2, .int (sq_z v2)), (3, .int (sq_z v3))] [] st
def qX4_apart_39 (J : sq_K) (g : sq_G) : Int → Int → Int → Int → Int → sq_S → Prop := fun v1 v2 v3 v4 s0 st => J 39 [(0, .ref (g.2.2 0)), (1, .int (sq_z v1)), (2, .int (sq_z v2)), (3, .int (sq_z v3)), (4, .int (sq_z v4))] [.int (sq_z s0), .ref (g.2.2 10)] st
def qX4_apart_76 (J : sq_K) (g : sq_G) : Int → Int → Int → sq_S → Prop := fun v1 v2 v3 st => J 76 [(0, .ref (g.2.2 0)), (1, .int (sq_z v1)), (2, .int (sq_z v2)), (3, .int (sq_z v3))] [] st
set_option maxRecDepth 100000 in
set_option maxHeartbeats 4000000 in
theorem tX4_apart_7 {l : Launch} {g : sq_G} {J : sq_K} {Q : Int → sq_S → Prop} (S : sq_J l rX4_apart cX4_apart 5 RX4 wsX4_apart g sq_M J) (hret : ∀ (pc : Nat) (lv : List (Nat × Value)) (st' : sq_S), decode cX4_apart pc = .ok (.return_, 1) → Q 0 st' → J pc lv [] st') (v1 v2 v3 : Int) (st : sq_S) (H : bX4_apart_7 (qX4_apart_7 J g) (qX4_apart_39 J g) (qX4_apart_76 J g) Q v1 v2 v3 st) : J 7 [(0, .ref (g.2.2 0)), (1, .int (sq_z v1)), (2, .int (sq_z v2)), (3, .int (sq_z v3))] [] st := by
  unfold bX4_apart_7 at H
  refine sj_iload_n (pl := 3) S dX4_apart_7 rfl rfl ?_
  refine sj_iload_n (pl := 2) S dX4_apart_8 rfl rfl ?_
  refine sj_icmp_ge (tgt := 74) S H.1 dX4_apart_9 (by decide) (fun c9 => ?_) (fun c9 => ?_)
  · have H := H.2.1 c9
    refine sj_iconst S dX4_apart_74 ?_
    refine sj_istore_na (lv' := [(0, .ref (g.2.2 0)), (1, .int (sq_z v1)), (2, .int (sq_z v2))]) S dX4_apart_75 rfl (by decide) (fun _ => rfl) ?_
    exact sj_lv S [1, 2, 3, 0] rfl H
  · have H := H.2.2 c9
    refine sj_aload_n (pl := 0) S dX4_apart_12 rfl rfl ?_
    refine sj_aload_n (pl := 0) S dX4_apart_13 rfl rfl ?_
    refine sj_getr S fM_0_5 iX4_apart_4 rfl (by decide) mX4_apart_23 dX4_apart_14 ?_
    refine sj_iload_n (pl := 3) S dX4_apart_17 rfl rfl ?_
    refine sj_iald S aM_5 H.1 dX4_apart_18 ?_
    have H := H.2
    refine sj_vi (rest := []) (q0 := 0) (ci := 4) S (kX4_placeOf l g (st 5 v3.toNat) st _ H) (fun s args hts => cwV 1 hts gX4_apart_X4_placeOf rfl rfl rfl (by decide +kernel) ⟨Nat.le_of_ble_eq_true rfl, Nat.le_of_ble_eq_true rfl⟩) rfl rfl rfl rfl (Nat.le_of_ble_eq_true rfl) dX4_apart_19 (fun r415 st416 H => ?_)
    refine sj_istorea (lv' := [(0, .ref (g.2.2 0)), (1, .int (sq_z v1)), (2, .int (sq_z v2)), (3, .int (sq_z v3))]) S dX4_apart_22 (by decide) (fun _ => rfl) ?_
    refine sj_aload_n (pl := 1) S dX4_apart_24 rfl rfl ?_
    refine sj_getr S fM_0_10 iX4_apart_4 rfl (by decide) mX4_apart_38 dX4_apart_25 ?_
    refine sj_iload_n (pl := 2) S dX4_apart_28 rfl rfl ?_
    refine sj_if_le (tgt := 36) S H.1 dX4_apart_29 (by decide) (fun c9 => ?_) (fun c9 => ?_)
    · have H := H.2.1 c9
      refine sj_iconst S dX4_apart_36 ?_
      refine sj_iload_n (pl := 4) S dX4_apart_37 rfl rfl ?_
      refine sj_imul S dX4_apart_38 ?_
      exact sj_lv S [1, 2, 3, 4, 0] rfl H
    · have H := H.2.2 c9
      refine sj_iload_n (pl := 4) S dX4_apart_32 rfl rfl ?_
      refine sj_goto (tgt := 39) S dX4_apart_33 (by decide) ?_
      exact sj_lv S [1, 2, 3, 4, 0] rfl H
set_option maxRecDepth 100000 in
set_option maxHeartbeats 4000000 in
theorem tX4_apart_39 {l : Launch} {g : sq_G} {J : sq_K} {Q : Int → sq_S → Prop} (S : sq_J l rX4_apart cX4_apart 5 RX4 wsX4_apart g sq_M J) (hret : ∀ (pc : Nat) (lv : List (Nat × Value)) (st' : sq_S), decode cX4_apart pc = .ok (.return_, 1) → Q 0 st' → J pc lv [] st') (v1 v2 v3 v4 s0 : Int) (st : sq_S) (H : bX4_apart_39 (qX4_apart_7 J g) (qX4_apart_39 J g) (qX4_apart_76 J g) Q v1 v2 v3 v4 s0 st) : J 39 [(0, .ref (g.2.2 0)), (1, .int (sq_z v1)), (2, .int (sq_z v2)), (3, .int (sq_z v3)), (4, .int (sq_z v4))] [.int (sq_z s0), .ref (g.2.2 10)] st := by
  unfold bX4_apart_39 at H
  refine sj_iload (pl := 4) S dX4_apart_39 rfl ?_
  refine sj_iconst S dX4_apart_41 ?_
  refine sj_idiv S H.1 dX4_apart_42 ?_
  have H := H.2
  refine sj_iast S aM_10 H.1 dX4_apart_43 (fun st419 est419 => ?_)
  have H := H.2 st419 est419
  refine sj_aload_n (pl := 0) S dX4_apart_44 rfl rfl ?_
  refine sj_getr S fM_0_10 iX4_apart_4 rfl (by decide) mX4_apart_38 dX4_apart_45 ?_
  refine sj_iload_n (pl := 1) S dX4_apart_48 rfl rfl ?_
  refine sj_if_le (tgt := 58) S H.1 dX4_apart_49 (by decide) (fun c9 => ?_) (fun c9 => ?_)
  · have H := H.2.1 c9
    refine sj_iconst S dX4_apart_58 ?_
    refine sj_iload_n (pl := 3) S dX4_apart_59 rfl rfl ?_
    refine sj_imul S dX4_apart_60 ?_
    refine sj_iconst S dX4_apart_61 ?_
    refine sj_iadd S dX4_apart_62 ?_
    refine sj_iload (pl := 4) S dX4_apart_63 rfl ?_
    refine sj_iconst S dX4_apart_65 ?_
    refine sj_irem S H.1 dX4_apart_66 ?_
    have H := H.2
    refine sj_iast S aM_10 H.1 dX4_apart_67 (fun st420 est420 => ?_)
    have H := H.2 st420 est420
    refine sj_iinc (pl := 3) (lv' := [(0, .ref (g.2.2 0)), (1, .int (sq_z v1)), (2, .int (sq_z v2)), (4, .int (sq_z v4))]) S dX4_apart_68 rfl (by decide) (fun _ => rfl) ?_
    refine sj_goto (tgt := 7) S dX4_apart_71 (by decide) ?_
    exact sj_lv S [1, 2, 3, 0] rfl H
  · have H := H.2.2 c9
    refine sj_iload_n (pl := 2) S dX4_apart_52 rfl rfl ?_
    refine sj_iload_n (pl := 3) S dX4_apart_53 rfl rfl ?_
    refine sj_iadd S dX4_apart_54 ?_
    refine sj_goto (tgt := 63) S dX4_apart_55 (by decide) ?_
    refine sj_iload (pl := 4) S dX4_apart_63 rfl ?_
    refine sj_iconst S dX4_apart_65 ?_
    refine sj_irem S H.1 dX4_apart_66 ?_
    have H := H.2
    refine sj_iast S aM_10 H.1 dX4_apart_67 (fun st421 est421 => ?_)
    have H := H.2 st421 est421
    refine sj_iinc (pl := 3) (lv' := [(0, .ref (g.2.2 0)), (1, .int (sq_z v1)), (2, .int (sq_z v2)), (4, .int (sq_z v4))]) S dX4_apart_68 rfl (by decide) (fun _ => rfl) ?_
    refine sj_goto (tgt := 7) S dX4_apart_71 (by decide) ?_
    exact sj_lv S [1, 2, 3, 0] rfl H
set_option maxRecDepth 100000 in
set_option maxHeartbeats 4000000 in
theorem tX4_apart_76 {l : Launch} {g : sq_G} {J : sq_K} {Q : Int → sq_S → Prop} (S : sq_J l rX4_apart cX4_apart 5 RX4 wsX4_apart g sq_M J) (hret : ∀ (pc : Nat) (lv : List (Nat × Value)) (st' : sq_S), decode cX4_apart pc = .ok (.return_, 1) → Q 0 st' → J pc lv [] st') (v1 v2 v3 : Int) (st : sq_S) (H : bX4_apart_76 (qX4_apart_7 J g) (qX4_apart_39 J g) (qX4_apart_76 J g) Q v1 v2 v3 st) : J 76 [(0, .ref (g.2.2 0)), (1, .int (sq_z v1)), (2, .int (sq_z v2)), (3, .int (sq_z v3))] [] st := by
  unfold bX4_apart_76 at H
  refine sj_iload_n (pl := 3) S dX4_apart_76 rfl rfl ?_
  refine sj_iload_n (pl := 2) S dX4_apart_77 rfl rfl ?_
  refine sj_icmp_ge (tgt := 148) S H.1 dX4_apart_78 (by decide) (fun c9 => ?_) (fun c9 => ?_)
  · have H := H.2.1 c9
    exact hret _ _ _ dX4_apart_148 H
  · have H := H.2.2 c9
    refine sj_aload_n (pl := 0) S dX4_apart_81 rfl rfl ?_
    refine sj_getr S fM_0_6 iX4_apart_4 rfl (by decide) mX4_apart_26 dX4_apart_82 ?_
    refine sj_iload_n (pl := 3) S dX4_apart_85 rfl rfl ?_
    refine sj_iload_n (pl := 1) S dX4_apart_86 rfl rfl ?_
    refine sj_if_le (tgt := 119) S H.1 dX4_apart_87 (by decide) (fun c9 => ?_) (fun c9 => ?_)
    · have H := H.2.1 c9
      refine sj_aload_n (pl := 0) S dX4_apart_119 rfl rfl ?_
      refine sj_getr S fM_0_7 iX4_apart_4 rfl (by decide) mX4_apart_29 dX4_apart_120 ?_
      refine sj_iconst S dX4_apart_123 ?_
      refine sj_aload_n (pl := 0) S dX4_apart_124 rfl rfl ?_
      refine sj_getr S fM_0_10 iX4_apart_4 rfl (by decide) mX4_apart_38 dX4_apart_125 ?_
      refine sj_iload_n (pl := 3) S dX4_apart_128 rfl rfl ?_
      refine sj_iald S aM_10 H.1 dX4_apart_129 ?_
      have H := H.2
      refine sj_imul S dX4_apart_130 ?_
      refine sj_aload_n (pl := 0) S dX4_apart_131 rfl rfl ?_
      refine sj_getr S fM_0_10 iX4_apart_4 rfl (by decide) mX4_apart_38 dX4_apart_132 ?_
      refine sj_iload_n (pl := 2) S dX4_apart_135 rfl rfl ?_
      refine sj_iload_n (pl := 3) S dX4_apart_136 rfl rfl ?_
      refine sj_iadd S dX4_apart_137 ?_
      refine sj_iald S aM_10 H.1 dX4_apart_138 ?_
      have H := H.2
      refine sj_iadd S dX4_apart_139 ?_
      refine sj_iald S aM_7 H.1 dX4_apart_140 ?_
      have H := H.2
      refine sj_iast S aM_6 H.1 dX4_apart_141 (fun st417 est417 => ?_)
      have H := H.2 st417 est417
      refine sj_iinc (pl := 3) (lv' := [(0, .ref (g.2.2 0)), (1, .int (sq_z v1)), (2, .int (sq_z v2))]) S dX4_apart_142 rfl (by decide) (fun _ => rfl) ?_
      refine sj_goto (tgt := 76) S dX4_apart_145 (by decide) ?_
      exact sj_lv S [1, 2, 3, 0] rfl H
    · have H := H.2.2 c9
      refine sj_aload_n (pl := 0) S dX4_apart_90 rfl rfl ?_
      refine sj_getr S fM_0_7 iX4_apart_4 rfl (by decide) mX4_apart_29 dX4_apart_91 ?_
      refine sj_iconst S dX4_apart_94 ?_
      refine sj_aload_n (pl := 0) S dX4_apart_95 rfl rfl ?_
      refine sj_getr S fM_0_10 iX4_apart_4 rfl (by decide) mX4_apart_38 dX4_apart_96 ?_
      refine sj_iconst S dX4_apart_99 ?_
      refine sj_iload_n (pl := 3) S dX4_apart_100 rfl rfl ?_
      refine sj_imul S dX4_apart_101 ?_
      refine sj_iald S aM_10 H.1 dX4_apart_102 ?_
      have H := H.2
      refine sj_imul S dX4_apart_103 ?_
      refine sj_aload_n (pl := 0) S dX4_apart_104 rfl rfl ?_
      refine sj_getr S fM_0_10 iX4_apart_4 rfl (by decide) mX4_apart_38 dX4_apart_105 ?_
      refine sj_iconst S dX4_apart_108 ?_
      refine sj_iload_n (pl := 3) S dX4_apart_109 rfl rfl ?_
      refine sj_imul S dX4_apart_110 ?_
      refine sj_iconst S dX4_apart_111 ?_
      refine sj_iadd S dX4_apart_112 ?_
      refine sj_iald S aM_10 H.1 dX4_apart_113 ?_
      have H := H.2
      refine sj_iadd S dX4_apart_114 ?_
      refine sj_iald S aM_7 H.1 dX4_apart_115 ?_
      have H := H.2
      refine sj_goto (tgt := 141) S dX4_apart_116 (by decide) ?_
      refine sj_iast S aM_6 H.1 dX4_apart_141 (fun st418 est418 => ?_)
      have H := H.2 st418 est418
      refine sj_iinc (pl := 3) (lv' := [(0, .ref (g.2.2 0)), (1, .int (sq_z v1)), (2, .int (sq_z v2))]) S dX4_apart_142 rfl (by decide) (fun _ => rfl) ?_
      refine sj_goto (tgt := 76) S dX4_apart_145 (by decide) ?_
      exact sj_lv S [1, 2, 3, 0] rfl H
set_option maxRecDepth 100000 in
set_option maxHeartbeats 4000000 in
theorem tX4_apart_0 {l : Launch} {g : sq_G} {J : sq_K} {Q : Int → sq_S → Prop} (S : sq_J l rX4_apart cX4_apart 5 RX4 wsX4_apart g sq_M J) (hret : ∀ (pc : Nat) (lv : List (Nat × Value)) (st' : sq_S), decode cX4_apart pc = .ok (.return_, 1) → Q 0 st' → J pc lv [] st') (v1 : Int) (st : sq_S) (H : bX4_apart_0 (qX4_apart_7 J g) (qX4_apart_39 J g) (qX4_apart_76 J g) Q v1 st) : J 0 [(0, .ref (g.2.2 0)), (1, .int (sq_z v1))] [] st := by
  unfold bX4_apart_0 at H
  refine sj_aload_n (pl := 0) S dX4_apart_0 rfl rfl ?_
  refine sj_vi (rest := []) (q0 := 0) (ci := 4) S (kX4_many l g st _ H) (fun s args hts => cwV 0 hts gX4_apart_X4_many rfl rfl rfl (by decide +kernel) ⟨Nat.le_of_ble_eq_true rfl, Nat.le_of_ble_eq_true rfl⟩) rfl rfl rfl rfl (Nat.le_of_ble_eq_true rfl) dX4_apart_1 (fun r413 st414 H => ?_)
  refine sj_istore_na (lv' := [(0, .ref (g.2.2 0)), (1, .int (sq_z v1))]) S dX4_apart_4 rfl (by decide) (fun _ => rfl) ?_
  refine sj_iconst S dX4_apart_5 ?_
  refine sj_istore_na (lv' := [(2, .int (sq_z r413)), (0, .ref (g.2.2 0)), (1, .int (sq_z v1))]) S dX4_apart_6 rfl (by decide) (fun _ => rfl) ?_
  exact sj_lv S [2, 3, 1, 0] rfl H
set_option maxRecDepth 100000 in
set_option maxHeartbeats 4000000 in
theorem kX4_apart (l : Launch) (g : sq_G) (v1 : Int) (st : sq_S) (Q : Int → sq_S → Prop) (H : wX4_apart v1 st Q) : sq_Cv l yX4_apart wsX4_apart rX4_apart g sq_M [.ref (g.2.2 0), .int (sq_z v1)] st Q := by
  refine sq_in_v (cc := cX4_apart) (nL := 5) (own := RX4) (by decide) rfl rfl (Nat.le_of_ble_eq_true rfl) ?_
  intro J S hret
  exact tX4_apart_0 S hret v1 st (H (qX4_apart_7 J g) (qX4_apart_39 J g) (qX4_apart_76 J g) (tX4_apart_7 S hret) (tX4_apart_39 S hret) (tX4_apart_76 S hret))
/-! goWay (II)V : X4_goWay -/
theorem iX4_goWay_4 : ∀ w ∈ u_ws RX4 TX4 12, w ∈ wsX4_goWay := fun _ h => List.mem_cons_of_mem _ (List.mem_append_right _ h)
theorem mX4_goWay_7 : Cond.fieldLink RX4 7 (TX4 0).1 (TX4 0).2.1 (TX4 0).2.2.1 ∈ wsX4_goWay := List.mem_of_getElem? (i := 2) rfl
theorem mX4_goWay_23 : Cond.fieldLink RX4 23 (TX4 5).1 (TX4 5).2.1 (TX4 5).2.2.1 ∈ wsX4_goWay := List.mem_of_getElem? (i := 1) rfl
def bX4_goWay_6 (K6 : Int → Int → Int → sq_S → Prop) (Q : Int → sq_S → Prop) (v1 v2 v3 : Int) (st : sq_S) : Prop :=
  wX4_many st (fun r354 st355 => (sq_rg v3 ∧ sq_rg r354) ∧ (r354 ≤ v3 → sq_rg v1 ∧ (v1 = 0 → (sq_rg v1 ∧ sq_rg 1) ∧ (¬ v1 = 1 → wX4_shiftAll v2 0 st355 (fun _ st360 => Q 0 st360)) ∧ (v1 = 1 → wX4_shiftAll v2 1 st355 (fun _ st361 => Q 0 st361))) ∧ (v1 = 1 → (sq_rg v1 ∧ sq_rg 1) ∧ (¬ v1 = 1 → wX4_shiftAll v2 0 st355 (fun _ st362 => Q 0 st362)) ∧ (v1 = 1 → wX4_shiftAll v2 1 st355 (fun _ st363 => Q 0 st363))) ∧ (v1 = 2 → wX4_pairs v2 st355 (fun _ st387 => Q 0 st387)) ∧ (v1 = 3 → wX4_layKeyOrder st355 (fun _ st393 => sq_ib 55 819 ∧ (wX4_layColumns (st393 1 55) st393 (fun _ st399 => wX4_readBy v2 st399 (fun _ st404 => Q 0 st404))))) ∧ (v1 = 4 → sq_ib 55 819 ∧ (wX4_layRails ((st355 1 55) + 1) st355 (fun _ st411 => wX4_readBy v2 st411 (fun _ st412 => Q 0 st412)))) ∧ ((v1 < 0 ∨ 4 < v1) → wX4_apart v2 st355 (fun _ st422 => Q 0 st422))) ∧ (v3 < r354 → sq_ib (0 + v3) 819 ∧ (sq_ib v3 48 ∧ (∀ st423 : sq_S, st423 = sq_set st355 5 v3.toNat (st355 1 ((0 + v3)).toNat) → (K6 v1 v2 (v3 + 1) st423)))))
def bX4_goWay_0 (K6 : Int → Int → Int → sq_S → Prop) (Q : Int → sq_S → Prop) (v1 v2 : Int) (st : sq_S) : Prop :=
  wX4_laySquare st (fun _ st353 => K6 v1 v2 0 st353)
def wX4_goWay (v1 v2 : Int) (st : sq_S) (Q : Int → sq_S → Prop) : Prop :=
  ∀ (K6 : Int → Int → Int → sq_S → Prop), (∀ (v1 v2 v3 : Int) (st : sq_S), bX4_goWay_6 K6 Q v1 v2 v3 st → K6 v1 v2 v3 st) → bX4_goWay_0 K6 Q v1 v2 st
def rX4_goWay : Room := { frames := 4, cells := 0, slots := 0, locals := 90 }
def qX4_goWay_6 (J : sq_K) (g : sq_G) : Int → Int → Int → sq_S → Prop := fun v1 v2 v3 st => J 6 [(0, .ref (g.2.2 0)), (1, .int (sq_z v1)), (2, .int (sq_z v2)), (3, .int (sq_z v3))] [] st
set_option maxRecDepth 100000 in
set_option maxHeartbeats 4000000 in
theorem tX4_goWay_6 {l : Launch} {g : sq_G} {J : sq_K} {Q : Int → sq_S → Prop} (S : sq_J l rX4_goWay cX4_goWay 4 RX4 wsX4_goWay g sq_M J) (hret : ∀ (pc : Nat) (lv : List (Nat × Value)) (st' : sq_S), decode cX4_goWay pc = .ok (.return_, 1) → Q 0 st' → J pc lv [] st') (v1 v2 v3 : Int) (st : sq_S) (H : bX4_goWay_6 (qX4_goWay_6 J g) Q v1 v2 v3 st) : J 6 [(0, .ref (g.2.2 0)), (1, .int (sq_z v1)), (2, .int (sq_z v2)), (3, .int (sq_z v3))] [] st := by
  unfold bX4_goWay_6 at H
  refine sj_iload_n (pl := 3) S dX4_goWay_6 rfl rfl ?_
  refine sj_aload_n (pl := 0) S dX4_goWay_7 rfl rfl ?_
  refine sj_vi (rest := [.int (sq_z v3)]) (q0 := 0) (ci := 4) S (kX4_many l g st _ H) (fun s args hts => cwV 0 hts gX4_goWay_X4_many rfl rfl rfl (by decide +kernel) ⟨Nat.le_of_ble_eq_true rfl, Nat.le_of_ble_eq_true rfl⟩) rfl rfl rfl rfl (Nat.le_of_ble_eq_true rfl) dX4_goWay_8 (fun r354 st355 H => ?_)
  refine sj_icmp_ge (tgt := 34) S H.1 dX4_goWay_11 (by decide) (fun c9 => ?_) (fun c9 => ?_)
  · have H := H.2.1 c9
    refine sj_iload_n (pl := 1) S dX4_goWay_34 rfl rfl ?_
    by_cases c0 : v1 = 0
    · refine sj_tab (v := 0) (tgt := 68) S (by decide) c0 dX4_goWay_35 (by decide) (by decide) rfl (by decide) ?_
      have H := H.2.1 c0
      refine sj_aload_n (pl := 0) S dX4_goWay_68 rfl rfl ?_
      refine sj_iload_n (pl := 2) S dX4_goWay_69 rfl rfl ?_
      refine sj_iload_n (pl := 1) S dX4_goWay_70 rfl rfl ?_
      refine sj_iconst S dX4_goWay_71 ?_
      refine sj_icmp_ne (tgt := 79) S H.1 dX4_goWay_72 (by decide) (fun c9 => ?_) (fun c9 => ?_)
      · have H := H.2.1 c9
        refine sj_iconst S dX4_goWay_79 ?_
        refine sj_vv (rest := []) (q0 := 0) (ci := 4) S (kX4_shiftAll l g v2 0 st355 _ H) (fun s args hts => cwV 2 hts gX4_goWay_X4_shiftAll rfl rfl rfl (by decide +kernel) ⟨Nat.le_of_ble_eq_true rfl, Nat.le_of_ble_eq_true rfl⟩) rfl rfl rfl rfl (Nat.le_of_ble_eq_true rfl) dX4_goWay_80 (fun st360 H => ?_)
        refine sj_goto (tgt := 143) S dX4_goWay_83 (by decide) ?_
        exact hret _ _ _ dX4_goWay_143 H
      · have H := H.2.2 c9
        refine sj_iconst S dX4_goWay_75 ?_
        refine sj_goto (tgt := 80) S dX4_goWay_76 (by decide) ?_
        refine sj_vv (rest := []) (q0 := 0) (ci := 4) S (kX4_shiftAll l g v2 1 st355 _ H) (fun s args hts => cwV 2 hts gX4_goWay_X4_shiftAll rfl rfl rfl (by decide +kernel) ⟨Nat.le_of_ble_eq_true rfl, Nat.le_of_ble_eq_true rfl⟩) rfl rfl rfl rfl (Nat.le_of_ble_eq_true rfl) dX4_goWay_80 (fun st361 H => ?_)
        refine sj_goto (tgt := 143) S dX4_goWay_83 (by decide) ?_
        exact hret _ _ _ dX4_goWay_143 H
    by_cases c1 : v1 = 1
    · refine sj_tab (v := 1) (tgt := 68) S (by decide) c1 dX4_goWay_35 (by decide) (by decide) rfl (by decide) ?_
      have H := H.2.2.1 c1
      refine sj_aload_n (pl := 0) S dX4_goWay_68 rfl rfl ?_
      refine sj_iload_n (pl := 2) S dX4_goWay_69 rfl rfl ?_
      refine sj_iload_n (pl := 1) S dX4_goWay_70 rfl rfl ?_
      refine sj_iconst S dX4_goWay_71 ?_
      refine sj_icmp_ne (tgt := 79) S H.1 dX4_goWay_72 (by decide) (fun c9 => ?_) (fun c9 => ?_)
      · have H := H.2.1 c9
        refine sj_iconst S dX4_goWay_79 ?_
        refine sj_vv (rest := []) (q0 := 0) (ci := 4) S (kX4_shiftAll l g v2 0 st355 _ H) (fun s args hts => cwV 2 hts gX4_goWay_X4_shiftAll rfl rfl rfl (by decide +kernel) ⟨Nat.le_of_ble_eq_true rfl, Nat.le_of_ble_eq_true rfl⟩) rfl rfl rfl rfl (Nat.le_of_ble_eq_true rfl) dX4_goWay_80 (fun st362 H => ?_)
        refine sj_goto (tgt := 143) S dX4_goWay_83 (by decide) ?_
        exact hret _ _ _ dX4_goWay_143 H
      · have H := H.2.2 c9
        refine sj_iconst S dX4_goWay_75 ?_
        refine sj_goto (tgt := 80) S dX4_goWay_76 (by decide) ?_
        refine sj_vv (rest := []) (q0 := 0) (ci := 4) S (kX4_shiftAll l g v2 1 st355 _ H) (fun s args hts => cwV 2 hts gX4_goWay_X4_shiftAll rfl rfl rfl (by decide +kernel) ⟨Nat.le_of_ble_eq_true rfl, Nat.le_of_ble_eq_true rfl⟩) rfl rfl rfl rfl (Nat.le_of_ble_eq_true rfl) dX4_goWay_80 (fun st363 H => ?_)
        refine sj_goto (tgt := 143) S dX4_goWay_83 (by decide) ?_
        exact hret _ _ _ dX4_goWay_143 H
    by_cases c2 : v1 = 2
    · refine sj_tab (v := 2) (tgt := 86) S (by decide) c2 dX4_goWay_35 (by decide) (by decide) rfl (by decide) ?_
      have H := H.2.2.2.1 c2
      refine sj_aload_n (pl := 0) S dX4_goWay_86 rfl rfl ?_
      refine sj_iload_n (pl := 2) S dX4_goWay_87 rfl rfl ?_
      refine sj_vv (rest := []) (q0 := 0) (ci := 4) S (kX4_pairs l g v2 st355 _ H) (fun s args hts => cwV 1 hts gX4_goWay_X4_pairs rfl rfl rfl (by decide +kernel) ⟨Nat.le_of_ble_eq_true rfl, Nat.le_of_ble_eq_true rfl⟩) rfl rfl rfl rfl (Nat.le_of_ble_eq_true rfl) dX4_goWay_88 (fun st387 H => ?_)
      refine sj_goto (tgt := 143) S dX4_goWay_91 (by decide) ?_
      exact hret _ _ _ dX4_goWay_143 H
    by_cases c3 : v1 = 3
    · refine sj_tab (v := 3) (tgt := 94) S (by decide) c3 dX4_goWay_35 (by decide) (by decide) rfl (by decide) ?_
      have H := H.2.2.2.2.1 c3
      refine sj_aload_n (pl := 0) S dX4_goWay_94 rfl rfl ?_
      refine sj_vv (rest := []) (q0 := 0) (ci := 4) S (kX4_layKeyOrder l g st355 _ H) (fun s args hts => cwV 0 hts gX4_goWay_X4_layKeyOrder rfl rfl rfl (by decide +kernel) ⟨Nat.le_of_ble_eq_true rfl, Nat.le_of_ble_eq_true rfl⟩) rfl rfl rfl rfl (Nat.le_of_ble_eq_true rfl) dX4_goWay_95 (fun st393 H => ?_)
      refine sj_aload_n (pl := 0) S dX4_goWay_98 rfl rfl ?_
      refine sj_aload_n (pl := 0) S dX4_goWay_99 rfl rfl ?_
      refine sj_getr S fM_0_0 iX4_goWay_4 rfl (by decide) mX4_goWay_7 dX4_goWay_100 ?_
      refine sj_bipush S dX4_goWay_103 (by decide +kernel) ?_
      refine sj_iald S aM_1 H.1 dX4_goWay_105 ?_
      have H := H.2
      refine sj_vv (rest := []) (q0 := 0) (ci := 4) S (kX4_layColumns l g (st393 1 55) st393 _ H) (fun s args hts => cwV 1 hts gX4_goWay_X4_layColumns rfl rfl rfl (by decide +kernel) ⟨Nat.le_of_ble_eq_true rfl, Nat.le_of_ble_eq_true rfl⟩) rfl rfl rfl rfl (Nat.le_of_ble_eq_true rfl) dX4_goWay_106 (fun st399 H => ?_)
      refine sj_aload_n (pl := 0) S dX4_goWay_109 rfl rfl ?_
      refine sj_iload_n (pl := 2) S dX4_goWay_110 rfl rfl ?_
      refine sj_vv (rest := []) (q0 := 0) (ci := 4) S (kX4_readBy l g v2 st399 _ H) (fun s args hts => cwV 1 hts gX4_goWay_X4_readBy rfl rfl rfl (by decide +kernel) ⟨Nat.le_of_ble_eq_true rfl, Nat.le_of_ble_eq_true rfl⟩) rfl rfl rfl rfl (Nat.le_of_ble_eq_true rfl) dX4_goWay_111 (fun st404 H => ?_)
      refine sj_goto (tgt := 143) S dX4_goWay_114 (by decide) ?_
      exact hret _ _ _ dX4_goWay_143 H
    by_cases c4 : v1 = 4
    · refine sj_tab (v := 4) (tgt := 117) S (by decide) c4 dX4_goWay_35 (by decide) (by decide) rfl (by decide) ?_
      have H := H.2.2.2.2.2.1 c4
      refine sj_aload_n (pl := 0) S dX4_goWay_117 rfl rfl ?_
      refine sj_aload_n (pl := 0) S dX4_goWay_118 rfl rfl ?_
      refine sj_getr S fM_0_0 iX4_goWay_4 rfl (by decide) mX4_goWay_7 dX4_goWay_119 ?_
      refine sj_bipush S dX4_goWay_122 (by decide +kernel) ?_
      refine sj_iald S aM_1 H.1 dX4_goWay_124 ?_
      have H := H.2
      refine sj_iconst S dX4_goWay_125 ?_
      refine sj_iadd S dX4_goWay_126 ?_
      refine sj_vv (rest := []) (q0 := 0) (ci := 4) S (kX4_layRails l g ((st355 1 55) + 1) st355 _ H) (fun s args hts => cwV 1 hts gX4_goWay_X4_layRails rfl rfl rfl (by decide +kernel) ⟨Nat.le_of_ble_eq_true rfl, Nat.le_of_ble_eq_true rfl⟩) rfl rfl rfl rfl (Nat.le_of_ble_eq_true rfl) dX4_goWay_127 (fun st411 H => ?_)
      refine sj_aload_n (pl := 0) S dX4_goWay_130 rfl rfl ?_
      refine sj_iload_n (pl := 2) S dX4_goWay_131 rfl rfl ?_
      refine sj_vv (rest := []) (q0 := 0) (ci := 4) S (kX4_readBy l g v2 st411 _ H) (fun s args hts => cwV 1 hts gX4_goWay_X4_readBy rfl rfl rfl (by decide +kernel) ⟨Nat.le_of_ble_eq_true rfl, Nat.le_of_ble_eq_true rfl⟩) rfl rfl rfl rfl (Nat.le_of_ble_eq_true rfl) dX4_goWay_132 (fun st412 H => ?_)
      refine sj_goto (tgt := 143) S dX4_goWay_135 (by decide) ?_
      exact hret _ _ _ dX4_goWay_143 H
    have cd : v1 < 0 ∨ 4 < v1 := by omega
    refine sj_tabd (tgt := 138) S H.1 cd dX4_goWay_35 (by decide) ?_
    have H := H.2.2.2.2.2.2 cd
    refine sj_aload_n (pl := 0) S dX4_goWay_138 rfl rfl ?_
    refine sj_iload_n (pl := 2) S dX4_goWay_139 rfl rfl ?_
    refine sj_vv (rest := []) (q0 := 0) (ci := 4) S (kX4_apart l g v2 st355 _ H) (fun s args hts => cwV 1 hts gX4_goWay_X4_apart rfl rfl rfl (by decide +kernel) ⟨Nat.le_of_ble_eq_true rfl, Nat.le_of_ble_eq_true rfl⟩) rfl rfl rfl rfl (Nat.le_of_ble_eq_true rfl) dX4_goWay_140 (fun st422 H => ?_)
    exact hret _ _ _ dX4_goWay_143 H
  · have H := H.2.2 c9
    refine sj_aload_n (pl := 0) S dX4_goWay_14 rfl rfl ?_
    refine sj_getr S fM_0_5 iX4_goWay_4 rfl (by decide) mX4_goWay_23 dX4_goWay_15 ?_
    refine sj_iload_n (pl := 3) S dX4_goWay_18 rfl rfl ?_
    refine sj_aload_n (pl := 0) S dX4_goWay_19 rfl rfl ?_
    refine sj_getr S fM_0_0 iX4_goWay_4 rfl (by decide) mX4_goWay_7 dX4_goWay_20 ?_
    refine sj_iconst S dX4_goWay_23 ?_
    refine sj_iload_n (pl := 3) S dX4_goWay_24 rfl rfl ?_
    refine sj_iadd S dX4_goWay_25 ?_
    refine sj_iald S aM_1 H.1 dX4_goWay_26 ?_
    have H := H.2
    refine sj_iast S aM_5 H.1 dX4_goWay_27 (fun st423 est423 => ?_)
    have H := H.2 st423 est423
    refine sj_iinc (pl := 3) (lv' := [(0, .ref (g.2.2 0)), (1, .int (sq_z v1)), (2, .int (sq_z v2))]) S dX4_goWay_28 rfl (by decide) (fun _ => rfl) ?_
    refine sj_goto (tgt := 6) S dX4_goWay_31 (by decide) ?_
    exact sj_lv S [1, 2, 3, 0] rfl H
set_option maxRecDepth 100000 in
set_option maxHeartbeats 4000000 in
theorem tX4_goWay_0 {l : Launch} {g : sq_G} {J : sq_K} {Q : Int → sq_S → Prop} (S : sq_J l rX4_goWay cX4_goWay 4 RX4 wsX4_goWay g sq_M J) (hret : ∀ (pc : Nat) (lv : List (Nat × Value)) (st' : sq_S), decode cX4_goWay pc = .ok (.return_, 1) → Q 0 st' → J pc lv [] st') (v1 v2 : Int) (st : sq_S) (H : bX4_goWay_0 (qX4_goWay_6 J g) Q v1 v2 st) : J 0 [(0, .ref (g.2.2 0)), (1, .int (sq_z v1)), (2, .int (sq_z v2))] [] st := by
  unfold bX4_goWay_0 at H
  refine sj_aload_n (pl := 0) S dX4_goWay_0 rfl rfl ?_
  refine sj_vv (rest := []) (q0 := 0) (ci := 4) S (kX4_laySquare l g st _ H) (fun s args hts => cwV 0 hts gX4_goWay_X4_laySquare rfl rfl rfl (by decide +kernel) ⟨Nat.le_of_ble_eq_true rfl, Nat.le_of_ble_eq_true rfl⟩) rfl rfl rfl rfl (Nat.le_of_ble_eq_true rfl) dX4_goWay_1 (fun st353 H => ?_)
  refine sj_iconst S dX4_goWay_4 ?_
  refine sj_istore_na (lv' := [(0, .ref (g.2.2 0)), (1, .int (sq_z v1)), (2, .int (sq_z v2))]) S dX4_goWay_5 rfl (by decide) (fun _ => rfl) ?_
  exact sj_lv S [1, 2, 3, 0] rfl H
set_option maxRecDepth 100000 in
set_option maxHeartbeats 4000000 in
theorem kX4_goWay (l : Launch) (g : sq_G) (v1 v2 : Int) (st : sq_S) (Q : Int → sq_S → Prop) (H : wX4_goWay v1 v2 st Q) : sq_Cv l yX4_goWay wsX4_goWay rX4_goWay g sq_M [.ref (g.2.2 0), .int (sq_z v1), .int (sq_z v2)] st Q := by
  refine sq_in_v (cc := cX4_goWay) (nL := 4) (own := RX4) (by decide) rfl rfl (Nat.le_of_ble_eq_true rfl) ?_
  intro J S hret
  exact tX4_goWay_0 S hret v1 v2 st (H (qX4_goWay_6 J g) (tX4_goWay_6 S hret))
/-! keepStep ()V : X4_keepStep -/
theorem iX4_keepStep_4 : ∀ w ∈ u_ws RX4 TX4 12, w ∈ wsX4_keepStep := fun _ h => List.mem_cons_of_mem _ (List.mem_append_right _ h)
theorem mX4_keepStep_7 : Cond.fieldLink RX4 7 (TX4 0).1 (TX4 0).2.1 (TX4 0).2.2.1 ∈ wsX4_keepStep := List.mem_of_getElem? (i := 1) rfl
def bX4_keepStep_15 (K15 : Int → sq_S → Prop) (K62 : Int → sq_S → Prop) (Q : Int → sq_S → Prop) (v1 : Int) (st : sq_S) : Prop :=
  (sq_rg v1 ∧ sq_rg 441) ∧ (441 ≤ v1 → sq_ib 328 819 ∧ (sq_ib 328 819 ∧ (∀ st427 : sq_S, st427 = sq_set st 1 328 ((st 1 328) - 1) → (K62 0 st427)))) ∧ (v1 < 441 → sq_ib (378 + v1) 819 ∧ (sq_ib (329 + v1) 819 ∧ (∀ st428 : sq_S, st428 = sq_set st 1 ((329 + v1)).toNat (st 1 ((378 + v1)).toNat) → (K15 (v1 + 1) st428))))
def bX4_keepStep_62 (K15 : Int → sq_S → Prop) (K62 : Int → sq_S → Prop) (Q : Int → sq_S → Prop) (v1 : Int) (st : sq_S) : Prop :=
  (sq_rg v1 ∧ sq_rg 49) ∧ (49 ≤ v1 → sq_ib 328 819 ∧ (sq_ib 328 819 ∧ (∀ st425 : sq_S, st425 = sq_set st 1 328 ((st 1 328) + 1) → (Q 0 st425)))) ∧ (v1 < 49 → sq_ib 328 819 ∧ (sq_ib (0 + v1) 819 ∧ (sq_ib ((329 + (49 * (st 1 328))) + v1) 819 ∧ (∀ st426 : sq_S, st426 = sq_set st 1 (((329 + (49 * (st 1 328))) + v1)).toNat (st 1 ((0 + v1)).toNat) → (K62 (v1 + 1) st426)))))
def bX4_keepStep_0 (K15 : Int → sq_S → Prop) (K62 : Int → sq_S → Prop) (Q : Int → sq_S → Prop) (st : sq_S) : Prop :=
  sq_ib 328 819 ∧ ((sq_rg (st 1 328) ∧ sq_rg 10) ∧ (¬ (st 1 328) = 10 → K62 0 st) ∧ ((st 1 328) = 10 → K15 0 st))
def wX4_keepStep (st : sq_S) (Q : Int → sq_S → Prop) : Prop :=
  ∀ (K15 : Int → sq_S → Prop) (K62 : Int → sq_S → Prop), (∀ (v1 : Int) (st : sq_S), bX4_keepStep_15 K15 K62 Q v1 st → K15 v1 st) → (∀ (v1 : Int) (st : sq_S), bX4_keepStep_62 K15 K62 Q v1 st → K62 v1 st) → bX4_keepStep_0 K15 K62 Q  st
def rX4_keepStep : Room := { frames := 0, cells := 0, slots := 0, locals := 0 }
def qX4_keepStep_15 (J : sq_K) (g : sq_G) : Int → sq_S → Prop := fun v1 st => J 15 [(0, .ref (g.2.2 0)), (1, .int (sq_z v1))] [] st
def qX4_keepStep_62 (J : sq_K) (g : sq_G) : Int → sq_S → Prop := fun v1 st => J 62 [(0, .ref (g.2.2 0)), (1, .int (sq_z v1))] [] st
set_option maxRecDepth 100000 in
set_option maxHeartbeats 4000000 in
theorem tX4_keepStep_15 {l : Launch} {g : sq_G} {J : sq_K} {Q : Int → sq_S → Prop} (S : sq_J l rX4_keepStep cX4_keepStep 2 RX4 wsX4_keepStep g sq_M J) (hret : ∀ (pc : Nat) (lv : List (Nat × Value)) (st' : sq_S), decode cX4_keepStep pc = .ok (.return_, 1) → Q 0 st' → J pc lv [] st') (v1 : Int) (st : sq_S) (H : bX4_keepStep_15 (qX4_keepStep_15 J g) (qX4_keepStep_62 J g) Q v1 st) : J 15 [(0, .ref (g.2.2 0)), (1, .int (sq_z v1))] [] st := by
  unfold bX4_keepStep_15 at H
  refine sj_iload_n (pl := 1) S dX4_keepStep_15 rfl rfl ?_
  refine sj_sipush S dX4_keepStep_16 (by decide +kernel) ?_
  refine sj_icmp_ge (tgt := 48) S H.1 dX4_keepStep_19 (by decide) (fun c9 => ?_) (fun c9 => ?_)
  · have H := H.2.1 c9
    refine sj_aload_n (pl := 0) S dX4_keepStep_48 rfl rfl ?_
    refine sj_getr S fM_0_0 iX4_keepStep_4 rfl (by decide) mX4_keepStep_7 dX4_keepStep_49 ?_
    refine sj_sipush S dX4_keepStep_52 (by decide +kernel) ?_
    refine sj_dup2 S dX4_keepStep_55 rfl rfl ?_
    refine sj_iald S aM_1 H.1 dX4_keepStep_56 ?_
    have H := H.2
    refine sj_iconst S dX4_keepStep_57 ?_
    refine sj_isub S dX4_keepStep_58 ?_
    refine sj_iast S aM_1 H.1 dX4_keepStep_59 (fun st427 est427 => ?_)
    have H := H.2 st427 est427
    refine sj_iconst S dX4_keepStep_60 ?_
    refine sj_istore_na (lv' := [(0, .ref (g.2.2 0))]) S dX4_keepStep_61 rfl (by decide) (fun _ => rfl) ?_
    exact sj_lv S [1, 0] rfl H
  · have H := H.2.2 c9
    refine sj_aload_n (pl := 0) S dX4_keepStep_22 rfl rfl ?_
    refine sj_getr S fM_0_0 iX4_keepStep_4 rfl (by decide) mX4_keepStep_7 dX4_keepStep_23 ?_
    refine sj_sipush S dX4_keepStep_26 (by decide +kernel) ?_
    refine sj_iload_n (pl := 1) S dX4_keepStep_29 rfl rfl ?_
    refine sj_iadd S dX4_keepStep_30 ?_
    refine sj_aload_n (pl := 0) S dX4_keepStep_31 rfl rfl ?_
    refine sj_getr S fM_0_0 iX4_keepStep_4 rfl (by decide) mX4_keepStep_7 dX4_keepStep_32 ?_
    refine sj_sipush S dX4_keepStep_35 (by decide +kernel) ?_
    refine sj_iload_n (pl := 1) S dX4_keepStep_38 rfl rfl ?_
    refine sj_iadd S dX4_keepStep_39 ?_
    refine sj_iald S aM_1 H.1 dX4_keepStep_40 ?_
    have H := H.2
    refine sj_iast S aM_1 H.1 dX4_keepStep_41 (fun st428 est428 => ?_)
    have H := H.2 st428 est428
    refine sj_iinc (pl := 1) (lv' := [(0, .ref (g.2.2 0))]) S dX4_keepStep_42 rfl (by decide) (fun _ => rfl) ?_
    refine sj_goto (tgt := 15) S dX4_keepStep_45 (by decide) ?_
    exact sj_lv S [1, 0] rfl H
set_option maxRecDepth 100000 in
set_option maxHeartbeats 4000000 in
theorem tX4_keepStep_62 {l : Launch} {g : sq_G} {J : sq_K} {Q : Int → sq_S → Prop} (S : sq_J l rX4_keepStep cX4_keepStep 2 RX4 wsX4_keepStep g sq_M J) (hret : ∀ (pc : Nat) (lv : List (Nat × Value)) (st' : sq_S), decode cX4_keepStep pc = .ok (.return_, 1) → Q 0 st' → J pc lv [] st') (v1 : Int) (st : sq_S) (H : bX4_keepStep_62 (qX4_keepStep_15 J g) (qX4_keepStep_62 J g) Q v1 st) : J 62 [(0, .ref (g.2.2 0)), (1, .int (sq_z v1))] [] st := by
  unfold bX4_keepStep_62 at H
  refine sj_iload_n (pl := 1) S dX4_keepStep_62 rfl rfl ?_
  refine sj_bipush S dX4_keepStep_63 (by decide +kernel) ?_
  refine sj_icmp_ge (tgt := 104) S H.1 dX4_keepStep_65 (by decide) (fun c9 => ?_) (fun c9 => ?_)
  · have H := H.2.1 c9
    refine sj_aload_n (pl := 0) S dX4_keepStep_104 rfl rfl ?_
    refine sj_getr S fM_0_0 iX4_keepStep_4 rfl (by decide) mX4_keepStep_7 dX4_keepStep_105 ?_
    refine sj_sipush S dX4_keepStep_108 (by decide +kernel) ?_
    refine sj_dup2 S dX4_keepStep_111 rfl rfl ?_
    refine sj_iald S aM_1 H.1 dX4_keepStep_112 ?_
    have H := H.2
    refine sj_iconst S dX4_keepStep_113 ?_
    refine sj_iadd S dX4_keepStep_114 ?_
    refine sj_iast S aM_1 H.1 dX4_keepStep_115 (fun st425 est425 => ?_)
    have H := H.2 st425 est425
    exact hret _ _ _ dX4_keepStep_116 H
  · have H := H.2.2 c9
    refine sj_aload_n (pl := 0) S dX4_keepStep_68 rfl rfl ?_
    refine sj_getr S fM_0_0 iX4_keepStep_4 rfl (by decide) mX4_keepStep_7 dX4_keepStep_69 ?_
    refine sj_sipush S dX4_keepStep_72 (by decide +kernel) ?_
    refine sj_bipush S dX4_keepStep_75 (by decide +kernel) ?_
    refine sj_aload_n (pl := 0) S dX4_keepStep_77 rfl rfl ?_
    refine sj_getr S fM_0_0 iX4_keepStep_4 rfl (by decide) mX4_keepStep_7 dX4_keepStep_78 ?_
    refine sj_sipush S dX4_keepStep_81 (by decide +kernel) ?_
    refine sj_iald S aM_1 H.1 dX4_keepStep_84 ?_
    have H := H.2
    refine sj_imul S dX4_keepStep_85 ?_
    refine sj_iadd S dX4_keepStep_86 ?_
    refine sj_iload_n (pl := 1) S dX4_keepStep_87 rfl rfl ?_
    refine sj_iadd S dX4_keepStep_88 ?_
    refine sj_aload_n (pl := 0) S dX4_keepStep_89 rfl rfl ?_
    refine sj_getr S fM_0_0 iX4_keepStep_4 rfl (by decide) mX4_keepStep_7 dX4_keepStep_90 ?_
    refine sj_iconst S dX4_keepStep_93 ?_
    refine sj_iload_n (pl := 1) S dX4_keepStep_94 rfl rfl ?_
    refine sj_iadd S dX4_keepStep_95 ?_
    refine sj_iald S aM_1 H.1 dX4_keepStep_96 ?_
    have H := H.2
    refine sj_iast S aM_1 H.1 dX4_keepStep_97 (fun st426 est426 => ?_)
    have H := H.2 st426 est426
    refine sj_iinc (pl := 1) (lv' := [(0, .ref (g.2.2 0))]) S dX4_keepStep_98 rfl (by decide) (fun _ => rfl) ?_
    refine sj_goto (tgt := 62) S dX4_keepStep_101 (by decide) ?_
    exact sj_lv S [1, 0] rfl H
set_option maxRecDepth 100000 in
set_option maxHeartbeats 4000000 in
theorem tX4_keepStep_0 {l : Launch} {g : sq_G} {J : sq_K} {Q : Int → sq_S → Prop} (S : sq_J l rX4_keepStep cX4_keepStep 2 RX4 wsX4_keepStep g sq_M J) (hret : ∀ (pc : Nat) (lv : List (Nat × Value)) (st' : sq_S), decode cX4_keepStep pc = .ok (.return_, 1) → Q 0 st' → J pc lv [] st') (st : sq_S) (H : bX4_keepStep_0 (qX4_keepStep_15 J g) (qX4_keepStep_62 J g) Q st) : J 0 [(0, .ref (g.2.2 0))] [] st := by
  unfold bX4_keepStep_0 at H
  refine sj_aload_n (pl := 0) S dX4_keepStep_0 rfl rfl ?_
  refine sj_getr S fM_0_0 iX4_keepStep_4 rfl (by decide) mX4_keepStep_7 dX4_keepStep_1 ?_
  refine sj_sipush S dX4_keepStep_4 (by decide +kernel) ?_
  refine sj_iald S aM_1 H.1 dX4_keepStep_7 ?_
  have H := H.2
  refine sj_bipush S dX4_keepStep_8 (by decide +kernel) ?_
  refine sj_icmp_ne (tgt := 60) S H.1 dX4_keepStep_10 (by decide) (fun c9 => ?_) (fun c9 => ?_)
  · have H := H.2.1 c9
    refine sj_iconst S dX4_keepStep_60 ?_
    refine sj_istore_na (lv' := [(0, .ref (g.2.2 0))]) S dX4_keepStep_61 rfl (by decide) (fun _ => rfl) ?_
    exact sj_lv S [1, 0] rfl H
  · have H := H.2.2 c9
    refine sj_iconst S dX4_keepStep_13 ?_
    refine sj_istore_na (lv' := [(0, .ref (g.2.2 0))]) S dX4_keepStep_14 rfl (by decide) (fun _ => rfl) ?_
    exact sj_lv S [1, 0] rfl H
set_option maxRecDepth 100000 in
set_option maxHeartbeats 4000000 in
theorem kX4_keepStep (l : Launch) (g : sq_G) (st : sq_S) (Q : Int → sq_S → Prop) (H : wX4_keepStep  st Q) : sq_Cv l yX4_keepStep wsX4_keepStep rX4_keepStep g sq_M [.ref (g.2.2 0)] st Q := by
  refine sq_in_v (cc := cX4_keepStep) (nL := 2) (own := RX4) (by decide) rfl rfl (Nat.le_of_ble_eq_true rfl) ?_
  intro J S hret
  exact tX4_keepStep_0 S hret  st (H (qX4_keepStep_15 J g) (qX4_keepStep_62 J g) (tX4_keepStep_15 S hret) (tX4_keepStep_62 S hret))
/-! step (II)I : X4_step -/
theorem iX4_step_4 : ∀ w ∈ u_ws RX4 TX4 12, w ∈ wsX4_step := fun _ h => List.mem_cons_of_mem _ (List.mem_append_right _ h)
theorem mX4_step_7 : Cond.fieldLink RX4 7 (TX4 0).1 (TX4 0).2.1 (TX4 0).2.2.1 ∈ wsX4_step := List.mem_of_getElem? (i := 1) rfl
theorem mX4_step_26 : Cond.fieldLink RX4 26 (TX4 6).1 (TX4 6).2.1 (TX4 6).2.2.1 ∈ wsX4_step := List.mem_of_getElem? (i := 2) rfl
def bX4_step_45 (K45 : Int → Int → sq_S → Prop) (K79 : Int → Int → Int → sq_S → Prop) (Q : Int → sq_S → Prop) (v3 v4 : Int) (st : sq_S) : Prop :=
  wX4_many st (fun r434 st435 => (sq_rg v4 ∧ sq_rg r434) ∧ (r434 ≤ v4 → Q v3 st435) ∧ (v4 < r434 → sq_ib (0 + v4) 819 ∧ (sq_ib v4 48 ∧ ((sq_rg (st435 1 ((0 + v4)).toNat) ∧ sq_rg (st435 6 v4.toNat)) ∧ (¬ (st435 1 ((0 + v4)).toNat) = (st435 6 v4.toNat) → K79 v4 1 v3 st435) ∧ ((st435 1 ((0 + v4)).toNat) = (st435 6 v4.toNat) → K79 v4 0 v3 st435)))))
def bX4_step_79 (K45 : Int → Int → sq_S → Prop) (K79 : Int → Int → Int → sq_S → Prop) (Q : Int → sq_S → Prop) (v4 s0 s1 : Int) (st : sq_S) : Prop :=
  ∀ y436 : Int, y436 = (s1 + s0) → (sq_ib v4 48 ∧ (sq_ib (0 + v4) 819 ∧ (∀ st437 : sq_S, st437 = sq_set st 1 ((0 + v4)).toNat (st 6 v4.toNat) → (K45 y436 (v4 + 1) st437))))
def bX4_step_0 (K45 : Int → Int → sq_S → Prop) (K79 : Int → Int → Int → sq_S → Prop) (Q : Int → sq_S → Prop) (v1 v2 : Int) (st : sq_S) : Prop :=
  wX4_in v1 0 5 st (fun r351 st352 => sq_rg r351 ∧ (¬ r351 = 0 → (sq_rg v1 ∧ sq_rg 2) ∧ (¬ v1 = 2 → wX4_goWay v1 v2 st352 (fun _ st424 => wX4_keepStep st424 (fun _ st429 => K45 0 0 st429))) ∧ (v1 = 2 → wX4_many st352 (fun r430 st431 => ((0 ≤ r430 ∧ r430 ≤ 2147483647) ∧ (0 < (2 : Int) ∧ (2 : Int) ≤ 2147483647)) ∧ ((sq_rg (r430 % 2) ∧ sq_rg 1) ∧ (¬ (r430 % 2) = 1 → wX4_goWay v1 v2 st431 (fun _ st432 => wX4_keepStep st432 (fun _ st433 => K45 0 0 st433))) ∧ ((r430 % 2) = 1 → Q (-3) st431))))) ∧ (r351 = 0 → Q (-2) st352))
def wX4_step (v1 v2 : Int) (st : sq_S) (Q : Int → sq_S → Prop) : Prop :=
  ∀ (K45 : Int → Int → sq_S → Prop) (K79 : Int → Int → Int → sq_S → Prop), (∀ (v3 v4 : Int) (st : sq_S), bX4_step_45 K45 K79 Q v3 v4 st → K45 v3 v4 st) → (∀ (v4 s0 s1 : Int) (st : sq_S), bX4_step_79 K45 K79 Q v4 s0 s1 st → K79 v4 s0 s1 st) → bX4_step_0 K45 K79 Q v1 v2 st
def rX4_step : Room := { frames := 5, cells := 0, slots := 0, locals := 113 }
def qX4_step_45 (J : sq_K) (g : sq_G) : Int → Int → sq_S → Prop := fun v3 v4 st => J 45 [(0, .ref (g.2.2 0)), (3, .int (sq_z v3)), (4, .int (sq_z v4))] [] st
def qX4_step_79 (J : sq_K) (g : sq_G) : Int → Int → Int → sq_S → Prop := fun v4 s0 s1 st => J 79 [(0, .ref (g.2.2 0)), (4, .int (sq_z v4))] [.int (sq_z s0), .int (sq_z s1)] st
set_option maxRecDepth 100000 in
set_option maxHeartbeats 4000000 in
theorem tX4_step_45 {l : Launch} {g : sq_G} {J : sq_K} {Q : Int → sq_S → Prop} (S : sq_J l rX4_step cX4_step 5 RX4 wsX4_step g sq_M J) (hret : ∀ (pc : Nat) (lv : List (Nat × Value)) (r : Int) (st' : sq_S), decode cX4_step pc = .ok (.ireturn, 1) → Q r st' → J pc lv [.int (sq_z r)] st') (v3 v4 : Int) (st : sq_S) (H : bX4_step_45 (qX4_step_45 J g) (qX4_step_79 J g) Q v3 v4 st) : J 45 [(0, .ref (g.2.2 0)), (3, .int (sq_z v3)), (4, .int (sq_z v4))] [] st := by
  unfold bX4_step_45 at H
  refine sj_iload (pl := 2) S dX4_step_45 rfl ?_
  refine sj_aload_n (pl := 0) S dX4_step_47 rfl rfl ?_
  refine sj_vi (rest := [.int (sq_z v4)]) (q0 := 0) (ci := 4) S (kX4_many l g st _ H) (fun s args hts => cwV 0 hts gX4_step_X4_many rfl rfl rfl (by decide +kernel) ⟨Nat.le_of_ble_eq_true rfl, Nat.le_of_ble_eq_true rfl⟩) rfl rfl rfl rfl (Nat.le_of_ble_eq_true rfl) dX4_step_48 (fun r434 st435 H => ?_)
  refine sj_icmp_ge (tgt := 103) S H.1 dX4_step_51 (by decide) (fun c9 => ?_) (fun c9 => ?_)
  · have H := H.2.1 c9
    refine sj_iload_n (pl := 1) S dX4_step_103 rfl rfl ?_
    exact hret _ _ _ _ dX4_step_104 H
  · have H := H.2.2 c9
    refine sj_iload_n (pl := 1) S dX4_step_54 rfl rfl ?_
    refine sj_aload_n (pl := 0) S dX4_step_55 rfl rfl ?_
    refine sj_getr S fM_0_0 iX4_step_4 rfl (by decide) mX4_step_7 dX4_step_56 ?_
    refine sj_iconst S dX4_step_59 ?_
    refine sj_iload (pl := 2) S dX4_step_60 rfl ?_
    refine sj_iadd S dX4_step_62 ?_
    refine sj_iald S aM_1 H.1 dX4_step_63 ?_
    have H := H.2
    refine sj_aload_n (pl := 0) S dX4_step_64 rfl rfl ?_
    refine sj_getr S fM_0_6 iX4_step_4 rfl (by decide) mX4_step_26 dX4_step_65 ?_
    refine sj_iload (pl := 2) S dX4_step_68 rfl ?_
    refine sj_iald S aM_6 H.1 dX4_step_70 ?_
    have H := H.2
    refine sj_icmp_ne (tgt := 78) S H.1 dX4_step_71 (by decide) (fun c9 => ?_) (fun c9 => ?_)
    · have H := H.2.1 c9
      refine sj_iconst S dX4_step_78 ?_
      exact sj_lv S [0, 2] rfl H
    · have H := H.2.2 c9
      refine sj_iconst S dX4_step_74 ?_
      refine sj_goto (tgt := 79) S dX4_step_75 (by decide) ?_
      exact sj_lv S [0, 2] rfl H
set_option maxRecDepth 100000 in
set_option maxHeartbeats 4000000 in
theorem tX4_step_79 {l : Launch} {g : sq_G} {J : sq_K} {Q : Int → sq_S → Prop} (S : sq_J l rX4_step cX4_step 5 RX4 wsX4_step g sq_M J) (hret : ∀ (pc : Nat) (lv : List (Nat × Value)) (r : Int) (st' : sq_S), decode cX4_step pc = .ok (.ireturn, 1) → Q r st' → J pc lv [.int (sq_z r)] st') (v4 s0 s1 : Int) (st : sq_S) (H : bX4_step_79 (qX4_step_45 J g) (qX4_step_79 J g) Q v4 s0 s1 st) : J 79 [(0, .ref (g.2.2 0)), (4, .int (sq_z v4))] [.int (sq_z s0), .int (sq_z s1)] st := by
  unfold bX4_step_79 at H
  refine sj_iadd S dX4_step_79 ?_
  refine sj_istore_n (lv' := [(0, .ref (g.2.2 0)), (4, .int (sq_z v4))]) S dX4_step_80 rfl (by decide) (fun _ => rfl) (fun y436 ey436 => ?_)
  have H := H y436 ey436
  refine sj_aload_n (pl := 1) S dX4_step_81 rfl rfl ?_
  refine sj_getr S fM_0_0 iX4_step_4 rfl (by decide) mX4_step_7 dX4_step_82 ?_
  refine sj_iconst S dX4_step_85 ?_
  refine sj_iload (pl := 2) S dX4_step_86 rfl ?_
  refine sj_iadd S dX4_step_88 ?_
  refine sj_aload_n (pl := 1) S dX4_step_89 rfl rfl ?_
  refine sj_getr S fM_0_6 iX4_step_4 rfl (by decide) mX4_step_26 dX4_step_90 ?_
  refine sj_iload (pl := 2) S dX4_step_93 rfl ?_
  refine sj_iald S aM_6 H.1 dX4_step_95 ?_
  have H := H.2
  refine sj_iast S aM_1 H.1 dX4_step_96 (fun st437 est437 => ?_)
  have H := H.2 st437 est437
  refine sj_iinc (pl := 2) (lv' := [(3, .int (sq_z y436)), (0, .ref (g.2.2 0))]) S dX4_step_97 rfl (by decide) (fun _ => rfl) ?_
  refine sj_goto (tgt := 45) S dX4_step_100 (by decide) ?_
  exact sj_lv S [2, 1, 0] rfl H
set_option maxRecDepth 100000 in
set_option maxHeartbeats 4000000 in
theorem tX4_step_0 {l : Launch} {g : sq_G} {J : sq_K} {Q : Int → sq_S → Prop} (S : sq_J l rX4_step cX4_step 5 RX4 wsX4_step g sq_M J) (hret : ∀ (pc : Nat) (lv : List (Nat × Value)) (r : Int) (st' : sq_S), decode cX4_step pc = .ok (.ireturn, 1) → Q r st' → J pc lv [.int (sq_z r)] st') (v1 v2 : Int) (st : sq_S) (H : bX4_step_0 (qX4_step_45 J g) (qX4_step_79 J g) Q v1 v2 st) : J 0 [(0, .ref (g.2.2 0)), (1, .int (sq_z v1)), (2, .int (sq_z v2))] [] st := by
  unfold bX4_step_0 at H
  refine sj_iload_n (pl := 1) S dX4_step_0 rfl rfl ?_
  refine sj_iconst S dX4_step_1 ?_
  refine sj_iconst S dX4_step_2 ?_
  refine sj_si (rest := []) S (kX4_in l g v1 0 5 st _ H) (fun s args hts => va_cwS 3 hts gX4_step_X4_in rfl rfl rfl (by decide +kernel) ⟨Nat.le_of_ble_eq_true rfl, Nat.le_of_ble_eq_true rfl⟩) rfl rfl (Nat.le_of_ble_eq_true rfl) dX4_step_3 (fun r351 st352 H => ?_)
  refine sj_if_ne (tgt := 12) S H.1 dX4_step_6 (by decide) (fun c9 => ?_) (fun c9 => ?_)
  · have H := H.2.1 c9
    refine sj_iload_n (pl := 1) S dX4_step_12 rfl rfl ?_
    refine sj_iconst S dX4_step_13 ?_
    refine sj_icmp_ne (tgt := 30) S H.1 dX4_step_14 (by decide) (fun c9 => ?_) (fun c9 => ?_)
    · have H := H.2.1 c9
      refine sj_aload_n (pl := 0) S dX4_step_30 rfl rfl ?_
      refine sj_iload_n (pl := 1) S dX4_step_31 rfl rfl ?_
      refine sj_iload_n (pl := 2) S dX4_step_32 rfl rfl ?_
      refine sj_vv (rest := []) (q0 := 0) (ci := 4) S (kX4_goWay l g v1 v2 st352 _ H) (fun s args hts => cwV 2 hts gX4_step_X4_goWay rfl rfl rfl (by decide +kernel) ⟨Nat.le_of_ble_eq_true rfl, Nat.le_of_ble_eq_true rfl⟩) rfl rfl rfl rfl (Nat.le_of_ble_eq_true rfl) dX4_step_33 (fun st424 H => ?_)
      refine sj_aload_n (pl := 0) S dX4_step_36 rfl rfl ?_
      refine sj_vv (rest := []) (q0 := 0) (ci := 4) S (kX4_keepStep l g st424 _ H) (fun s args hts => cwV 0 hts gX4_step_X4_keepStep rfl rfl rfl (by decide +kernel) ⟨Nat.le_of_ble_eq_true rfl, Nat.le_of_ble_eq_true rfl⟩) rfl rfl rfl rfl (Nat.le_of_ble_eq_true rfl) dX4_step_37 (fun st429 H => ?_)
      refine sj_iconst S dX4_step_40 ?_
      refine sj_istore_na (lv' := [(0, .ref (g.2.2 0)), (1, .int (sq_z v1)), (2, .int (sq_z v2))]) S dX4_step_41 rfl (by decide) (fun _ => rfl) ?_
      refine sj_iconst S dX4_step_42 ?_
      refine sj_istorea (lv' := [(3, .int (sq_z 0)), (0, .ref (g.2.2 0)), (1, .int (sq_z v1)), (2, .int (sq_z v2))]) S dX4_step_43 (by decide) (fun _ => rfl) ?_
      exact sj_lv S [2, 1, 0] rfl H
    · have H := H.2.2 c9
      refine sj_aload_n (pl := 0) S dX4_step_17 rfl rfl ?_
      refine sj_vi (rest := []) (q0 := 0) (ci := 4) S (kX4_many l g st352 _ H) (fun s args hts => cwV 0 hts gX4_step_X4_many rfl rfl rfl (by decide +kernel) ⟨Nat.le_of_ble_eq_true rfl, Nat.le_of_ble_eq_true rfl⟩) rfl rfl rfl rfl (Nat.le_of_ble_eq_true rfl) dX4_step_18 (fun r430 st431 H => ?_)
      refine sj_iconst S dX4_step_21 ?_
      refine sj_irem S H.1 dX4_step_22 ?_
      have H := H.2
      refine sj_iconst S dX4_step_23 ?_
      refine sj_icmp_ne (tgt := 30) S H.1 dX4_step_24 (by decide) (fun c9 => ?_) (fun c9 => ?_)
      · have H := H.2.1 c9
        refine sj_aload_n (pl := 0) S dX4_step_30 rfl rfl ?_
        refine sj_iload_n (pl := 1) S dX4_step_31 rfl rfl ?_
        refine sj_iload_n (pl := 2) S dX4_step_32 rfl rfl ?_
        refine sj_vv (rest := []) (q0 := 0) (ci := 4) S (kX4_goWay l g v1 v2 st431 _ H) (fun s args hts => cwV 2 hts gX4_step_X4_goWay rfl rfl rfl (by decide +kernel) ⟨Nat.le_of_ble_eq_true rfl, Nat.le_of_ble_eq_true rfl⟩) rfl rfl rfl rfl (Nat.le_of_ble_eq_true rfl) dX4_step_33 (fun st432 H => ?_)
        refine sj_aload_n (pl := 0) S dX4_step_36 rfl rfl ?_
        refine sj_vv (rest := []) (q0 := 0) (ci := 4) S (kX4_keepStep l g st432 _ H) (fun s args hts => cwV 0 hts gX4_step_X4_keepStep rfl rfl rfl (by decide +kernel) ⟨Nat.le_of_ble_eq_true rfl, Nat.le_of_ble_eq_true rfl⟩) rfl rfl rfl rfl (Nat.le_of_ble_eq_true rfl) dX4_step_37 (fun st433 H => ?_)
        refine sj_iconst S dX4_step_40 ?_
        refine sj_istore_na (lv' := [(0, .ref (g.2.2 0)), (1, .int (sq_z v1)), (2, .int (sq_z v2))]) S dX4_step_41 rfl (by decide) (fun _ => rfl) ?_
        refine sj_iconst S dX4_step_42 ?_
        refine sj_istorea (lv' := [(3, .int (sq_z 0)), (0, .ref (g.2.2 0)), (1, .int (sq_z v1)), (2, .int (sq_z v2))]) S dX4_step_43 (by decide) (fun _ => rfl) ?_
        exact sj_lv S [2, 1, 0] rfl H
      · have H := H.2.2 c9
        refine sj_bipush S dX4_step_27 (by decide +kernel) ?_
        exact hret _ _ _ _ dX4_step_29 H
  · have H := H.2.2 c9
    refine sj_bipush S dX4_step_9 (by decide +kernel) ?_
    exact hret _ _ _ _ dX4_step_11 H
set_option maxRecDepth 100000 in
set_option maxHeartbeats 4000000 in
theorem kX4_step (l : Launch) (g : sq_G) (v1 v2 : Int) (st : sq_S) (Q : Int → sq_S → Prop) (H : wX4_step v1 v2 st Q) : sq_Ci l yX4_step wsX4_step rX4_step g sq_M [.ref (g.2.2 0), .int (sq_z v1), .int (sq_z v2)] st Q := by
  refine sq_in_i (cc := cX4_step) (nL := 5) (own := RX4) (by decide) rfl rfl (Nat.le_of_ble_eq_true rfl) ?_
  intro J S hret
  exact tX4_step_0 S hret v1 v2 st (H (qX4_step_45 J g) (qX4_step_79 J g) (tX4_step_45 S hret) (tX4_step_79 S hret))
/-! hide (I)I : X4_hide -/
def wX4_hide (v1 : Int) (st : sq_S) (Q : Int → sq_S → Prop) : Prop :=
  wX4_step v1 1 st (fun r438 st439 => Q r438 st439)
def rX4_hide : Room := { frames := 6, cells := 0, slots := 0, locals := 137 }
set_option maxRecDepth 100000 in
set_option maxHeartbeats 4000000 in
theorem tX4_hide_0 {l : Launch} {g : sq_G} {J : sq_K} {Q : Int → sq_S → Prop} (S : sq_J l rX4_hide cX4_hide 2 RX4 wsX4_hide g sq_M J) (hret : ∀ (pc : Nat) (lv : List (Nat × Value)) (r : Int) (st' : sq_S), decode cX4_hide pc = .ok (.ireturn, 1) → Q r st' → J pc lv [.int (sq_z r)] st') (v1 : Int) (st : sq_S) (H : wX4_hide v1 st Q) : J 0 [(0, .ref (g.2.2 0)), (1, .int (sq_z v1))] [] st := by
  unfold wX4_hide at H
  refine sj_aload_n (pl := 0) S dX4_hide_0 rfl rfl ?_
  refine sj_iload_n (pl := 1) S dX4_hide_1 rfl rfl ?_
  refine sj_iconst S dX4_hide_2 ?_
  refine sj_vi (rest := []) (q0 := 0) (ci := 4) S (kX4_step l g v1 1 st _ H) (fun s args hts => cwV 2 hts gX4_hide_X4_step rfl rfl rfl (by decide +kernel) ⟨Nat.le_of_ble_eq_true rfl, Nat.le_of_ble_eq_true rfl⟩) rfl rfl rfl rfl (Nat.le_of_ble_eq_true rfl) dX4_hide_3 (fun r438 st439 H => ?_)
  exact hret _ _ _ _ dX4_hide_6 H
set_option maxRecDepth 100000 in
set_option maxHeartbeats 4000000 in
theorem kX4_hide (l : Launch) (g : sq_G) (v1 : Int) (st : sq_S) (Q : Int → sq_S → Prop) (H : wX4_hide v1 st Q) : sq_Ci l yX4_hide wsX4_hide rX4_hide g sq_M [.ref (g.2.2 0), .int (sq_z v1)] st Q := by
  refine sq_in_i (cc := cX4_hide) (nL := 2) (own := RX4) (by decide) rfl rfl (Nat.le_of_ble_eq_true rfl) ?_
  intro J S hret
  exact tX4_hide_0 S hret v1 st H
/-! find (I)I : X4_find -/
def wX4_find (v1 : Int) (st : sq_S) (Q : Int → sq_S → Prop) : Prop :=
  wX4_step v1 (-1) st (fun r440 st441 => Q r440 st441)
def rX4_find : Room := { frames := 6, cells := 0, slots := 0, locals := 137 }
set_option maxRecDepth 100000 in
set_option maxHeartbeats 4000000 in
theorem tX4_find_0 {l : Launch} {g : sq_G} {J : sq_K} {Q : Int → sq_S → Prop} (S : sq_J l rX4_find cX4_find 2 RX4 wsX4_find g sq_M J) (hret : ∀ (pc : Nat) (lv : List (Nat × Value)) (r : Int) (st' : sq_S), decode cX4_find pc = .ok (.ireturn, 1) → Q r st' → J pc lv [.int (sq_z r)] st') (v1 : Int) (st : sq_S) (H : wX4_find v1 st Q) : J 0 [(0, .ref (g.2.2 0)), (1, .int (sq_z v1))] [] st := by
  unfold wX4_find at H
  refine sj_aload_n (pl := 0) S dX4_find_0 rfl rfl ?_
  refine sj_iload_n (pl := 1) S dX4_find_1 rfl rfl ?_
  refine sj_iconst S dX4_find_2 ?_
  refine sj_vi (rest := []) (q0 := 0) (ci := 4) S (kX4_step l g v1 (-1) st _ H) (fun s args hts => cwV 2 hts gX4_find_X4_step rfl rfl rfl (by decide +kernel) ⟨Nat.le_of_ble_eq_true rfl, Nat.le_of_ble_eq_true rfl⟩) rfl rfl rfl rfl (Nat.le_of_ble_eq_true rfl) dX4_find_3 (fun r440 st441 H => ?_)
  exact hret _ _ _ _ dX4_find_6 H
set_option maxRecDepth 100000 in
set_option maxHeartbeats 4000000 in
theorem kX4_find (l : Launch) (g : sq_G) (v1 : Int) (st : sq_S) (Q : Int → sq_S → Prop) (H : wX4_find v1 st Q) : sq_Ci l yX4_find wsX4_find rX4_find g sq_M [.ref (g.2.2 0), .int (sq_z v1)] st Q := by
  refine sq_in_i (cc := cX4_find) (nL := 2) (own := RX4) (by decide) rfl rfl (Nat.le_of_ble_eq_true rfl) ?_
  intro J S hret
  exact tX4_find_0 S hret v1 st H
/-! undo ()I : X4_undo -/
theorem iX4_undo_4 : ∀ w ∈ u_ws RX4 TX4 12, w ∈ wsX4_undo := fun _ h => List.mem_cons_of_mem _ (List.mem_append_right _ h)
theorem mX4_undo_7 : Cond.fieldLink RX4 7 (TX4 0).1 (TX4 0).2.1 (TX4 0).2.2.1 ∈ wsX4_undo := List.mem_of_getElem? (i := 1) rfl
def bX4_undo_28 (K28 : Int → sq_S → Prop) (Q : Int → sq_S → Prop) (v1 : Int) (st : sq_S) : Prop :=
  (sq_rg v1 ∧ sq_rg 49) ∧ (49 ≤ v1 → sq_ib 328 819 ∧ (Q (st 1 328) st)) ∧ (v1 < 49 → sq_ib 328 819 ∧ (sq_ib ((329 + (49 * (st 1 328))) + v1) 819 ∧ (sq_ib (0 + v1) 819 ∧ (∀ st443 : sq_S, st443 = sq_set st 1 ((0 + v1)).toNat (st 1 (((329 + (49 * (st 1 328))) + v1)).toNat) → (K28 (v1 + 1) st443)))))
def bX4_undo_0 (K28 : Int → sq_S → Prop) (Q : Int → sq_S → Prop) (st : sq_S) : Prop :=
  sq_ib 328 819 ∧ (sq_rg (st 1 328) ∧ (¬ (st 1 328) = 0 → sq_ib 328 819 ∧ (sq_ib 328 819 ∧ (∀ st442 : sq_S, st442 = sq_set st 1 328 ((st 1 328) - 1) → (K28 0 st442)))) ∧ ((st 1 328) = 0 → Q (-3) st))
def wX4_undo (st : sq_S) (Q : Int → sq_S → Prop) : Prop :=
  ∀ (K28 : Int → sq_S → Prop), (∀ (v1 : Int) (st : sq_S), bX4_undo_28 K28 Q v1 st → K28 v1 st) → bX4_undo_0 K28 Q  st
def rX4_undo : Room := { frames := 0, cells := 0, slots := 0, locals := 0 }
def qX4_undo_28 (J : sq_K) (g : sq_G) : Int → sq_S → Prop := fun v1 st => J 28 [(0, .ref (g.2.2 0)), (1, .int (sq_z v1))] [] st
set_option maxRecDepth 100000 in
set_option maxHeartbeats 4000000 in
theorem tX4_undo_28 {l : Launch} {g : sq_G} {J : sq_K} {Q : Int → sq_S → Prop} (S : sq_J l rX4_undo cX4_undo 2 RX4 wsX4_undo g sq_M J) (hret : ∀ (pc : Nat) (lv : List (Nat × Value)) (r : Int) (st' : sq_S), decode cX4_undo pc = .ok (.ireturn, 1) → Q r st' → J pc lv [.int (sq_z r)] st') (v1 : Int) (st : sq_S) (H : bX4_undo_28 (qX4_undo_28 J g) Q v1 st) : J 28 [(0, .ref (g.2.2 0)), (1, .int (sq_z v1))] [] st := by
  unfold bX4_undo_28 at H
  refine sj_iload_n (pl := 1) S dX4_undo_28 rfl rfl ?_
  refine sj_bipush S dX4_undo_29 (by decide +kernel) ?_
  refine sj_icmp_ge (tgt := 70) S H.1 dX4_undo_31 (by decide) (fun c9 => ?_) (fun c9 => ?_)
  · have H := H.2.1 c9
    refine sj_aload_n (pl := 0) S dX4_undo_70 rfl rfl ?_
    refine sj_getr S fM_0_0 iX4_undo_4 rfl (by decide) mX4_undo_7 dX4_undo_71 ?_
    refine sj_sipush S dX4_undo_74 (by decide +kernel) ?_
    refine sj_iald S aM_1 H.1 dX4_undo_77 ?_
    have H := H.2
    exact hret _ _ _ _ dX4_undo_78 H
  · have H := H.2.2 c9
    refine sj_aload_n (pl := 0) S dX4_undo_34 rfl rfl ?_
    refine sj_getr S fM_0_0 iX4_undo_4 rfl (by decide) mX4_undo_7 dX4_undo_35 ?_
    refine sj_iconst S dX4_undo_38 ?_
    refine sj_iload_n (pl := 1) S dX4_undo_39 rfl rfl ?_
    refine sj_iadd S dX4_undo_40 ?_
    refine sj_aload_n (pl := 0) S dX4_undo_41 rfl rfl ?_
    refine sj_getr S fM_0_0 iX4_undo_4 rfl (by decide) mX4_undo_7 dX4_undo_42 ?_
    refine sj_sipush S dX4_undo_45 (by decide +kernel) ?_
    refine sj_bipush S dX4_undo_48 (by decide +kernel) ?_
    refine sj_aload_n (pl := 0) S dX4_undo_50 rfl rfl ?_
    refine sj_getr S fM_0_0 iX4_undo_4 rfl (by decide) mX4_undo_7 dX4_undo_51 ?_
    refine sj_sipush S dX4_undo_54 (by decide +kernel) ?_
    refine sj_iald S aM_1 H.1 dX4_undo_57 ?_
    have H := H.2
    refine sj_imul S dX4_undo_58 ?_
    refine sj_iadd S dX4_undo_59 ?_
    refine sj_iload_n (pl := 1) S dX4_undo_60 rfl rfl ?_
    refine sj_iadd S dX4_undo_61 ?_
    refine sj_iald S aM_1 H.1 dX4_undo_62 ?_
    have H := H.2
    refine sj_iast S aM_1 H.1 dX4_undo_63 (fun st443 est443 => ?_)
    have H := H.2 st443 est443
    refine sj_iinc (pl := 1) (lv' := [(0, .ref (g.2.2 0))]) S dX4_undo_64 rfl (by decide) (fun _ => rfl) ?_
    refine sj_goto (tgt := 28) S dX4_undo_67 (by decide) ?_
    exact sj_lv S [1, 0] rfl H
set_option maxRecDepth 100000 in
set_option maxHeartbeats 4000000 in
theorem tX4_undo_0 {l : Launch} {g : sq_G} {J : sq_K} {Q : Int → sq_S → Prop} (S : sq_J l rX4_undo cX4_undo 2 RX4 wsX4_undo g sq_M J) (hret : ∀ (pc : Nat) (lv : List (Nat × Value)) (r : Int) (st' : sq_S), decode cX4_undo pc = .ok (.ireturn, 1) → Q r st' → J pc lv [.int (sq_z r)] st') (st : sq_S) (H : bX4_undo_0 (qX4_undo_28 J g) Q st) : J 0 [(0, .ref (g.2.2 0))] [] st := by
  unfold bX4_undo_0 at H
  refine sj_aload_n (pl := 0) S dX4_undo_0 rfl rfl ?_
  refine sj_getr S fM_0_0 iX4_undo_4 rfl (by decide) mX4_undo_7 dX4_undo_1 ?_
  refine sj_sipush S dX4_undo_4 (by decide +kernel) ?_
  refine sj_iald S aM_1 H.1 dX4_undo_7 ?_
  have H := H.2
  refine sj_if_ne (tgt := 14) S H.1 dX4_undo_8 (by decide) (fun c9 => ?_) (fun c9 => ?_)
  · have H := H.2.1 c9
    refine sj_aload_n (pl := 0) S dX4_undo_14 rfl rfl ?_
    refine sj_getr S fM_0_0 iX4_undo_4 rfl (by decide) mX4_undo_7 dX4_undo_15 ?_
    refine sj_sipush S dX4_undo_18 (by decide +kernel) ?_
    refine sj_dup2 S dX4_undo_21 rfl rfl ?_
    refine sj_iald S aM_1 H.1 dX4_undo_22 ?_
    have H := H.2
    refine sj_iconst S dX4_undo_23 ?_
    refine sj_isub S dX4_undo_24 ?_
    refine sj_iast S aM_1 H.1 dX4_undo_25 (fun st442 est442 => ?_)
    have H := H.2 st442 est442
    refine sj_iconst S dX4_undo_26 ?_
    refine sj_istore_na (lv' := [(0, .ref (g.2.2 0))]) S dX4_undo_27 rfl (by decide) (fun _ => rfl) ?_
    exact sj_lv S [1, 0] rfl H
  · have H := H.2.2 c9
    refine sj_bipush S dX4_undo_11 (by decide +kernel) ?_
    exact hret _ _ _ _ dX4_undo_13 H
set_option maxRecDepth 100000 in
set_option maxHeartbeats 4000000 in
theorem kX4_undo (l : Launch) (g : sq_G) (st : sq_S) (Q : Int → sq_S → Prop) (H : wX4_undo  st Q) : sq_Ci l yX4_undo wsX4_undo rX4_undo g sq_M [.ref (g.2.2 0)] st Q := by
  refine sq_in_i (cc := cX4_undo) (nL := 2) (own := RX4) (by decide) rfl rfl (Nat.le_of_ble_eq_true rfl) ?_
  intro J S hret
  exact tX4_undo_0 S hret  st (H (qX4_undo_28 J g) (tX4_undo_28 S hret))
/-! times (I)I : X4_times -/
theorem iX4_times_4 : ∀ w ∈ u_ws RX4 TX4 12, w ∈ wsX4_times := fun _ h => List.mem_cons_of_mem _ (List.mem_append_right _ h)
theorem mX4_times_7 : Cond.fieldLink RX4 7 (TX4 0).1 (TX4 0).2.1 (TX4 0).2.2.1 ∈ wsX4_times := List.mem_of_getElem? (i := 1) rfl
def bX4_times_14 (K14 : Int → Int → Int → sq_S → Prop) (Q : Int → sq_S → Prop) (v1 v2 v3 : Int) (st : sq_S) : Prop :=
  wX4_many st (fun r446 st447 => (sq_rg v3 ∧ sq_rg r446) ∧ (r446 ≤ v3 → Q v2 st447) ∧ (v3 < r446 → sq_ib (0 + v3) 819 ∧ ((sq_rg (st447 1 ((0 + v3)).toNat) ∧ sq_rg v1) ∧ (¬ (st447 1 ((0 + v3)).toNat) = v1 → ∀ y448 : Int, y448 = (v2 + 0) → (K14 v1 y448 (v3 + 1) st447)) ∧ ((st447 1 ((0 + v3)).toNat) = v1 → ∀ y449 : Int, y449 = (v2 + 1) → (K14 v1 y449 (v3 + 1) st447)))))
def bX4_times_0 (K14 : Int → Int → Int → sq_S → Prop) (Q : Int → sq_S → Prop) (v1 : Int) (st : sq_S) : Prop :=
  wX4_isLetter v1 st (fun r444 st445 => sq_rg r444 ∧ (¬ r444 = 0 → K14 v1 0 0 st445) ∧ (r444 = 0 → Q (-2) st445))
def wX4_times (v1 : Int) (st : sq_S) (Q : Int → sq_S → Prop) : Prop :=
  ∀ (K14 : Int → Int → Int → sq_S → Prop), (∀ (v1 v2 v3 : Int) (st : sq_S), bX4_times_14 K14 Q v1 v2 v3 st → K14 v1 v2 v3 st) → bX4_times_0 K14 Q v1 st
def rX4_times : Room := { frames := 2, cells := 0, slots := 0, locals := 42 }
def qX4_times_14 (J : sq_K) (g : sq_G) : Int → Int → Int → sq_S → Prop := fun v1 v2 v3 st => J 14 [(0, .ref (g.2.2 0)), (1, .int (sq_z v1)), (2, .int (sq_z v2)), (3, .int (sq_z v3))] [] st
set_option maxRecDepth 100000 in
set_option maxHeartbeats 4000000 in
theorem tX4_times_14 {l : Launch} {g : sq_G} {J : sq_K} {Q : Int → sq_S → Prop} (S : sq_J l rX4_times cX4_times 4 RX4 wsX4_times g sq_M J) (hret : ∀ (pc : Nat) (lv : List (Nat × Value)) (r : Int) (st' : sq_S), decode cX4_times pc = .ok (.ireturn, 1) → Q r st' → J pc lv [.int (sq_z r)] st') (v1 v2 v3 : Int) (st : sq_S) (H : bX4_times_14 (qX4_times_14 J g) Q v1 v2 v3 st) : J 14 [(0, .ref (g.2.2 0)), (1, .int (sq_z v1)), (2, .int (sq_z v2)), (3, .int (sq_z v3))] [] st := by
  unfold bX4_times_14 at H
  refine sj_iload_n (pl := 3) S dX4_times_14 rfl rfl ?_
  refine sj_aload_n (pl := 0) S dX4_times_15 rfl rfl ?_
  refine sj_vi (rest := [.int (sq_z v3)]) (q0 := 0) (ci := 4) S (kX4_many l g st _ H) (fun s args hts => cwV 0 hts gX4_times_X4_many rfl rfl rfl (by decide +kernel) ⟨Nat.le_of_ble_eq_true rfl, Nat.le_of_ble_eq_true rfl⟩) rfl rfl rfl rfl (Nat.le_of_ble_eq_true rfl) dX4_times_16 (fun r446 st447 H => ?_)
  refine sj_icmp_ge (tgt := 48) S H.1 dX4_times_19 (by decide) (fun c9 => ?_) (fun c9 => ?_)
  · have H := H.2.1 c9
    refine sj_iload_n (pl := 2) S dX4_times_48 rfl rfl ?_
    exact hret _ _ _ _ dX4_times_49 H
  · have H := H.2.2 c9
    refine sj_iload_n (pl := 2) S dX4_times_22 rfl rfl ?_
    refine sj_aload_n (pl := 0) S dX4_times_23 rfl rfl ?_
    refine sj_getr S fM_0_0 iX4_times_4 rfl (by decide) mX4_times_7 dX4_times_24 ?_
    refine sj_iconst S dX4_times_27 ?_
    refine sj_iload_n (pl := 3) S dX4_times_28 rfl rfl ?_
    refine sj_iadd S dX4_times_29 ?_
    refine sj_iald S aM_1 H.1 dX4_times_30 ?_
    have H := H.2
    refine sj_iload_n (pl := 1) S dX4_times_31 rfl rfl ?_
    refine sj_icmp_ne (tgt := 39) S H.1 dX4_times_32 (by decide) (fun c9 => ?_) (fun c9 => ?_)
    · have H := H.2.1 c9
      refine sj_iconst S dX4_times_39 ?_
      refine sj_iadd S dX4_times_40 ?_
      refine sj_istore_n (lv' := [(0, .ref (g.2.2 0)), (1, .int (sq_z v1)), (3, .int (sq_z v3))]) S dX4_times_41 rfl (by decide) (fun _ => rfl) (fun y448 ey448 => ?_)
      have H := H y448 ey448
      refine sj_iinc (pl := 3) (lv' := [(2, .int (sq_z y448)), (0, .ref (g.2.2 0)), (1, .int (sq_z v1))]) S dX4_times_42 rfl (by decide) (fun _ => rfl) ?_
      refine sj_goto (tgt := 14) S dX4_times_45 (by decide) ?_
      exact sj_lv S [2, 3, 1, 0] rfl H
    · have H := H.2.2 c9
      refine sj_iconst S dX4_times_35 ?_
      refine sj_goto (tgt := 40) S dX4_times_36 (by decide) ?_
      refine sj_iadd S dX4_times_40 ?_
      refine sj_istore_n (lv' := [(0, .ref (g.2.2 0)), (1, .int (sq_z v1)), (3, .int (sq_z v3))]) S dX4_times_41 rfl (by decide) (fun _ => rfl) (fun y449 ey449 => ?_)
      have H := H y449 ey449
      refine sj_iinc (pl := 3) (lv' := [(2, .int (sq_z y449)), (0, .ref (g.2.2 0)), (1, .int (sq_z v1))]) S dX4_times_42 rfl (by decide) (fun _ => rfl) ?_
      refine sj_goto (tgt := 14) S dX4_times_45 (by decide) ?_
      exact sj_lv S [2, 3, 1, 0] rfl H
set_option maxRecDepth 100000 in
set_option maxHeartbeats 4000000 in
theorem tX4_times_0 {l : Launch} {g : sq_G} {J : sq_K} {Q : Int → sq_S → Prop} (S : sq_J l rX4_times cX4_times 4 RX4 wsX4_times g sq_M J) (hret : ∀ (pc : Nat) (lv : List (Nat × Value)) (r : Int) (st' : sq_S), decode cX4_times pc = .ok (.ireturn, 1) → Q r st' → J pc lv [.int (sq_z r)] st') (v1 : Int) (st : sq_S) (H : bX4_times_0 (qX4_times_14 J g) Q v1 st) : J 0 [(0, .ref (g.2.2 0)), (1, .int (sq_z v1))] [] st := by
  unfold bX4_times_0 at H
  refine sj_iload_n (pl := 1) S dX4_times_0 rfl rfl ?_
  refine sj_si (rest := []) S (kX4_isLetter l g v1 st _ H) (fun s args hts => va_cwS 1 hts gX4_times_X4_isLetter rfl rfl rfl (by decide +kernel) ⟨Nat.le_of_ble_eq_true rfl, Nat.le_of_ble_eq_true rfl⟩) rfl rfl (Nat.le_of_ble_eq_true rfl) dX4_times_1 (fun r444 st445 H => ?_)
  refine sj_if_ne (tgt := 10) S H.1 dX4_times_4 (by decide) (fun c9 => ?_) (fun c9 => ?_)
  · have H := H.2.1 c9
    refine sj_iconst S dX4_times_10 ?_
    refine sj_istore_na (lv' := [(0, .ref (g.2.2 0)), (1, .int (sq_z v1))]) S dX4_times_11 rfl (by decide) (fun _ => rfl) ?_
    refine sj_iconst S dX4_times_12 ?_
    refine sj_istore_na (lv' := [(2, .int (sq_z 0)), (0, .ref (g.2.2 0)), (1, .int (sq_z v1))]) S dX4_times_13 rfl (by decide) (fun _ => rfl) ?_
    exact sj_lv S [2, 3, 1, 0] rfl H
  · have H := H.2.2 c9
    refine sj_bipush S dX4_times_7 (by decide +kernel) ?_
    exact hret _ _ _ _ dX4_times_9 H
set_option maxRecDepth 100000 in
set_option maxHeartbeats 4000000 in
theorem kX4_times (l : Launch) (g : sq_G) (v1 : Int) (st : sq_S) (Q : Int → sq_S → Prop) (H : wX4_times v1 st Q) : sq_Ci l yX4_times wsX4_times rX4_times g sq_M [.ref (g.2.2 0), .int (sq_z v1)] st Q := by
  refine sq_in_i (cc := cX4_times) (nL := 4) (own := RX4) (by decide) rfl rfl (Nat.le_of_ble_eq_true rfl) ?_
  intro J S hret
  exact tX4_times_0 S hret v1 st (H (qX4_times_14 J g) (tX4_times_14 S hret))
/-! sameAt (I)I : X4_sameAt -/
theorem iX4_sameAt_4 : ∀ w ∈ u_ws RX4 TX4 12, w ∈ wsX4_sameAt := fun _ h => List.mem_cons_of_mem _ (List.mem_append_right _ h)
theorem mX4_sameAt_7 : Cond.fieldLink RX4 7 (TX4 0).1 (TX4 0).2.1 (TX4 0).2.2.1 ∈ wsX4_sameAt := List.mem_of_getElem? (i := 1) rfl
def bX4_sameAt_4 (K4 : Int → Int → Int → sq_S → Prop) (Q : Int → sq_S → Prop) (v1 v2 v3 : Int) (st : sq_S) : Prop :=
  wX4_many st (fun r452 st453 => (sq_rg (v3 + v1) ∧ sq_rg r452) ∧ (r452 ≤ (v3 + v1) → Q v2 st453) ∧ ((v3 + v1) < r452 → sq_ib (0 + v3) 819 ∧ (sq_ib ((0 + v3) + v1) 819 ∧ ((sq_rg (st453 1 ((0 + v3)).toNat) ∧ sq_rg (st453 1 (((0 + v3) + v1)).toNat)) ∧ (¬ (st453 1 ((0 + v3)).toNat) = (st453 1 (((0 + v3) + v1)).toNat) → ∀ y454 : Int, y454 = (v2 + 0) → (K4 v1 y454 (v3 + 1) st453)) ∧ ((st453 1 ((0 + v3)).toNat) = (st453 1 (((0 + v3) + v1)).toNat) → ∀ y455 : Int, y455 = (v2 + 1) → (K4 v1 y455 (v3 + 1) st453))))))
def bX4_sameAt_0 (K4 : Int → Int → Int → sq_S → Prop) (Q : Int → sq_S → Prop) (v1 : Int) (st : sq_S) : Prop :=
  K4 v1 0 0 st
def wX4_sameAt (v1 : Int) (st : sq_S) (Q : Int → sq_S → Prop) : Prop :=
  ∀ (K4 : Int → Int → Int → sq_S → Prop), (∀ (v1 v2 v3 : Int) (st : sq_S), bX4_sameAt_4 K4 Q v1 v2 v3 st → K4 v1 v2 v3 st) → bX4_sameAt_0 K4 Q v1 st
def rX4_sameAt : Room := { frames := 1, cells := 0, slots := 0, locals := 20 }
def qX4_sameAt_4 (J : sq_K) (g : sq_G) : Int → Int → Int → sq_S → Prop := fun v1 v2 v3 st => J 4 [(0, .ref (g.2.2 0)), (1, .int (sq_z v1)), (2, .int (sq_z v2)), (3, .int (sq_z v3))] [] st
set_option maxRecDepth 100000 in
set_option maxHeartbeats 4000000 in
theorem tX4_sameAt_4 {l : Launch} {g : sq_G} {J : sq_K} {Q : Int → sq_S → Prop} (S : sq_J l rX4_sameAt cX4_sameAt 4 RX4 wsX4_sameAt g sq_M J) (hret : ∀ (pc : Nat) (lv : List (Nat × Value)) (r : Int) (st' : sq_S), decode cX4_sameAt pc = .ok (.ireturn, 1) → Q r st' → J pc lv [.int (sq_z r)] st') (v1 v2 v3 : Int) (st : sq_S) (H : bX4_sameAt_4 (qX4_sameAt_4 J g) Q v1 v2 v3 st) : J 4 [(0, .ref (g.2.2 0)), (1, .int (sq_z v1)), (2, .int (sq_z v2)), (3, .int (sq_z v3))] [] st := by
  unfold bX4_sameAt_4 at H
  refine sj_iload_n (pl := 3) S dX4_sameAt_4 rfl rfl ?_
  refine sj_iload_n (pl := 1) S dX4_sameAt_5 rfl rfl ?_
  refine sj_iadd S dX4_sameAt_6 ?_
  refine sj_aload_n (pl := 0) S dX4_sameAt_7 rfl rfl ?_
  refine sj_vi (rest := [.int (sq_z (v3 + v1))]) (q0 := 0) (ci := 4) S (kX4_many l g st _ H) (fun s args hts => cwV 0 hts gX4_sameAt_X4_many rfl rfl rfl (by decide +kernel) ⟨Nat.le_of_ble_eq_true rfl, Nat.le_of_ble_eq_true rfl⟩) rfl rfl rfl rfl (Nat.le_of_ble_eq_true rfl) dX4_sameAt_8 (fun r452 st453 H => ?_)
  refine sj_icmp_ge (tgt := 49) S H.1 dX4_sameAt_11 (by decide) (fun c9 => ?_) (fun c9 => ?_)
  · have H := H.2.1 c9
    refine sj_iload_n (pl := 2) S dX4_sameAt_49 rfl rfl ?_
    exact hret _ _ _ _ dX4_sameAt_50 H
  · have H := H.2.2 c9
    refine sj_iload_n (pl := 2) S dX4_sameAt_14 rfl rfl ?_
    refine sj_aload_n (pl := 0) S dX4_sameAt_15 rfl rfl ?_
    refine sj_getr S fM_0_0 iX4_sameAt_4 rfl (by decide) mX4_sameAt_7 dX4_sameAt_16 ?_
    refine sj_iconst S dX4_sameAt_19 ?_
    refine sj_iload_n (pl := 3) S dX4_sameAt_20 rfl rfl ?_
    refine sj_iadd S dX4_sameAt_21 ?_
    refine sj_iald S aM_1 H.1 dX4_sameAt_22 ?_
    have H := H.2
    refine sj_aload_n (pl := 0) S dX4_sameAt_23 rfl rfl ?_
    refine sj_getr S fM_0_0 iX4_sameAt_4 rfl (by decide) mX4_sameAt_7 dX4_sameAt_24 ?_
    refine sj_iconst S dX4_sameAt_27 ?_
    refine sj_iload_n (pl := 3) S dX4_sameAt_28 rfl rfl ?_
    refine sj_iadd S dX4_sameAt_29 ?_
    refine sj_iload_n (pl := 1) S dX4_sameAt_30 rfl rfl ?_
    refine sj_iadd S dX4_sameAt_31 ?_
    refine sj_iald S aM_1 H.1 dX4_sameAt_32 ?_
    have H := H.2
    refine sj_icmp_ne (tgt := 40) S H.1 dX4_sameAt_33 (by decide) (fun c9 => ?_) (fun c9 => ?_)
    · have H := H.2.1 c9
      refine sj_iconst S dX4_sameAt_40 ?_
      refine sj_iadd S dX4_sameAt_41 ?_
      refine sj_istore_n (lv' := [(0, .ref (g.2.2 0)), (1, .int (sq_z v1)), (3, .int (sq_z v3))]) S dX4_sameAt_42 rfl (by decide) (fun _ => rfl) (fun y454 ey454 => ?_)
      have H := H y454 ey454
      refine sj_iinc (pl := 3) (lv' := [(2, .int (sq_z y454)), (0, .ref (g.2.2 0)), (1, .int (sq_z v1))]) S dX4_sameAt_43 rfl (by decide) (fun _ => rfl) ?_
      refine sj_goto (tgt := 4) S dX4_sameAt_46 (by decide) ?_
      exact sj_lv S [2, 3, 1, 0] rfl H
    · have H := H.2.2 c9
      refine sj_iconst S dX4_sameAt_36 ?_
      refine sj_goto (tgt := 41) S dX4_sameAt_37 (by decide) ?_
      refine sj_iadd S dX4_sameAt_41 ?_
      refine sj_istore_n (lv' := [(0, .ref (g.2.2 0)), (1, .int (sq_z v1)), (3, .int (sq_z v3))]) S dX4_sameAt_42 rfl (by decide) (fun _ => rfl) (fun y455 ey455 => ?_)
      have H := H y455 ey455
      refine sj_iinc (pl := 3) (lv' := [(2, .int (sq_z y455)), (0, .ref (g.2.2 0)), (1, .int (sq_z v1))]) S dX4_sameAt_43 rfl (by decide) (fun _ => rfl) ?_
      refine sj_goto (tgt := 4) S dX4_sameAt_46 (by decide) ?_
      exact sj_lv S [2, 3, 1, 0] rfl H
set_option maxRecDepth 100000 in
set_option maxHeartbeats 4000000 in
theorem tX4_sameAt_0 {l : Launch} {g : sq_G} {J : sq_K} {Q : Int → sq_S → Prop} (S : sq_J l rX4_sameAt cX4_sameAt 4 RX4 wsX4_sameAt g sq_M J) (hret : ∀ (pc : Nat) (lv : List (Nat × Value)) (r : Int) (st' : sq_S), decode cX4_sameAt pc = .ok (.ireturn, 1) → Q r st' → J pc lv [.int (sq_z r)] st') (v1 : Int) (st : sq_S) (H : bX4_sameAt_0 (qX4_sameAt_4 J g) Q v1 st) : J 0 [(0, .ref (g.2.2 0)), (1, .int (sq_z v1))] [] st := by
  unfold bX4_sameAt_0 at H
  refine sj_iconst S dX4_sameAt_0 ?_
  refine sj_istore_na (lv' := [(0, .ref (g.2.2 0)), (1, .int (sq_z v1))]) S dX4_sameAt_1 rfl (by decide) (fun _ => rfl) ?_
  refine sj_iconst S dX4_sameAt_2 ?_
  refine sj_istore_na (lv' := [(2, .int (sq_z 0)), (0, .ref (g.2.2 0)), (1, .int (sq_z v1))]) S dX4_sameAt_3 rfl (by decide) (fun _ => rfl) ?_
  exact sj_lv S [2, 3, 1, 0] rfl H
set_option maxRecDepth 100000 in
set_option maxHeartbeats 4000000 in
theorem kX4_sameAt (l : Launch) (g : sq_G) (v1 : Int) (st : sq_S) (Q : Int → sq_S → Prop) (H : wX4_sameAt v1 st Q) : sq_Ci l yX4_sameAt wsX4_sameAt rX4_sameAt g sq_M [.ref (g.2.2 0), .int (sq_z v1)] st Q := by
  refine sq_in_i (cc := cX4_sameAt) (nL := 4) (own := RX4) (by decide) rfl rfl (Nat.le_of_ble_eq_true rfl) ?_
  intro J S hret
  exact tX4_sameAt_0 S hret v1 st (H (qX4_sameAt_4 J g) (tX4_sameAt_4 S hret))
/-! same (I)I : X4_same -/
def wX4_same (v1 : Int) (st : sq_S) (Q : Int → sq_S → Prop) : Prop :=
  wX4_in v1 1 47 st (fun r450 st451 => sq_rg r450 ∧ (r450 = 0 → Q (-2) st451) ∧ (¬ r450 = 0 → wX4_sameAt v1 st451 (fun r456 st457 => Q r456 st457)))
def rX4_same : Room := { frames := 2, cells := 0, slots := 0, locals := 43 }
set_option maxRecDepth 100000 in
set_option maxHeartbeats 4000000 in
theorem tX4_same_0 {l : Launch} {g : sq_G} {J : sq_K} {Q : Int → sq_S → Prop} (S : sq_J l rX4_same cX4_same 2 RX4 wsX4_same g sq_M J) (hret : ∀ (pc : Nat) (lv : List (Nat × Value)) (r : Int) (st' : sq_S), decode cX4_same pc = .ok (.ireturn, 1) → Q r st' → J pc lv [.int (sq_z r)] st') (v1 : Int) (st : sq_S) (H : wX4_same v1 st Q) : J 0 [(0, .ref (g.2.2 0)), (1, .int (sq_z v1))] [] st := by
  unfold wX4_same at H
  refine sj_iload_n (pl := 1) S dX4_same_0 rfl rfl ?_
  refine sj_iconst S dX4_same_1 ?_
  refine sj_bipush S dX4_same_2 (by decide +kernel) ?_
  refine sj_si (rest := []) S (kX4_in l g v1 1 47 st _ H) (fun s args hts => va_cwS 3 hts gX4_same_X4_in rfl rfl rfl (by decide +kernel) ⟨Nat.le_of_ble_eq_true rfl, Nat.le_of_ble_eq_true rfl⟩) rfl rfl (Nat.le_of_ble_eq_true rfl) dX4_same_4 (fun r450 st451 H => ?_)
  refine sj_if_eq (tgt := 18) S H.1 dX4_same_7 (by decide) (fun c9 => ?_) (fun c9 => ?_)
  · have H := H.2.1 c9
    refine sj_bipush S dX4_same_18 (by decide +kernel) ?_
    exact hret _ _ _ _ dX4_same_20 H
  · have H := H.2.2 c9
    refine sj_aload_n (pl := 0) S dX4_same_10 rfl rfl ?_
    refine sj_iload_n (pl := 1) S dX4_same_11 rfl rfl ?_
    refine sj_vi (rest := []) (q0 := 0) (ci := 4) S (kX4_sameAt l g v1 st451 _ H) (fun s args hts => cwV 1 hts gX4_same_X4_sameAt rfl rfl rfl (by decide +kernel) ⟨Nat.le_of_ble_eq_true rfl, Nat.le_of_ble_eq_true rfl⟩) rfl rfl rfl rfl (Nat.le_of_ble_eq_true rfl) dX4_same_12 (fun r456 st457 H => ?_)
    refine sj_goto (tgt := 20) S dX4_same_15 (by decide) ?_
    exact hret _ _ _ _ dX4_same_20 H
set_option maxRecDepth 100000 in
set_option maxHeartbeats 4000000 in
theorem kX4_same (l : Launch) (g : sq_G) (v1 : Int) (st : sq_S) (Q : Int → sq_S → Prop) (H : wX4_same v1 st Q) : sq_Ci l yX4_same wsX4_same rX4_same g sq_M [.ref (g.2.2 0), .int (sq_z v1)] st Q := by
  refine sq_in_i (cc := cX4_same) (nL := 2) (own := RX4) (by decide) rfl rfl (Nat.le_of_ble_eq_true rfl) ?_
  intro J S hret
  exact tX4_same_0 S hret v1 st H
/-! length (I)I : X4_length -/
def bX4_length_18 (K18 : Int → Int → Int → sq_S → Prop) (K62 : Int → Int → Int → sq_S → Prop) (Q : Int → sq_S → Prop) (v1 v2 v3 : Int) (st : sq_S) : Prop :=
  (sq_rg v3 ∧ sq_rg v1) ∧ (v1 < v3 → Q v2 st) ∧ (v3 ≤ v1 → wX4_many st (fun r460 st461 => (sq_rg v3 ∧ sq_rg r460) ∧ (r460 ≤ v3 → Q v2 st461) ∧ (v3 < r460 → sq_rg v2 ∧ (v2 < 0 → K62 v1 v2 v3 st461) ∧ (0 ≤ v2 → wX4_sameAt v3 st461 (fun r462 st463 => wX4_many st463 (fun r464 st465 => wX4_sameAt v2 st465 (fun r466 st467 => wX4_many st467 (fun r468 st469 => (sq_rg (r462 * (r464 - v2)) ∧ sq_rg (r466 * (r468 - v3))) ∧ ((r462 * (r464 - v2)) ≤ (r466 * (r468 - v3)) → sq_rg 0 ∧ ((0 : Int) = (0 : Int) → K18 v1 v2 (v3 + 1) st469) ∧ (¬ (0 : Int) = (0 : Int) → K18 v1 v3 (v3 + 1) st469)) ∧ ((r466 * (r468 - v3)) < (r462 * (r464 - v2)) → K62 v1 v2 v3 st469)))))))))
def bX4_length_62 (K18 : Int → Int → Int → sq_S → Prop) (K62 : Int → Int → Int → sq_S → Prop) (Q : Int → sq_S → Prop) (v1 v2 v3 : Int) (st : sq_S) : Prop :=
  sq_rg 1 ∧ ((1 : Int) = (0 : Int) → K18 v1 v2 (v3 + 1) st) ∧ (¬ (1 : Int) = (0 : Int) → K18 v1 v3 (v3 + 1) st)
def bX4_length_0 (K18 : Int → Int → Int → sq_S → Prop) (K62 : Int → Int → Int → sq_S → Prop) (Q : Int → sq_S → Prop) (v1 : Int) (st : sq_S) : Prop :=
  wX4_in v1 1 20 st (fun r458 st459 => sq_rg r458 ∧ (¬ r458 = 0 → K18 v1 (-6) 1 st459) ∧ (r458 = 0 → Q (-2) st459))
def wX4_length (v1 : Int) (st : sq_S) (Q : Int → sq_S → Prop) : Prop :=
  ∀ (K18 : Int → Int → Int → sq_S → Prop) (K62 : Int → Int → Int → sq_S → Prop), (∀ (v1 v2 v3 : Int) (st : sq_S), bX4_length_18 K18 K62 Q v1 v2 v3 st → K18 v1 v2 v3 st) → (∀ (v1 v2 v3 : Int) (st : sq_S), bX4_length_62 K18 K62 Q v1 v2 v3 st → K62 v1 v2 v3 st) → bX4_length_0 K18 K62 Q v1 st
def rX4_length : Room := { frames := 2, cells := 0, slots := 0, locals := 43 }
def qX4_length_18 (J : sq_K) (g : sq_G) : Int → Int → Int → sq_S → Prop := fun v1 v2 v3 st => J 18 [(0, .ref (g.2.2 0)), (1, .int (sq_z v1)), (2, .int (sq_z v2)), (3, .int (sq_z v3))] [] st
def qX4_length_62 (J : sq_K) (g : sq_G) : Int → Int → Int → sq_S → Prop := fun v1 v2 v3 st => J 62 [(0, .ref (g.2.2 0)), (1, .int (sq_z v1)), (2, .int (sq_z v2)), (3, .int (sq_z v3))] [] st
set_option maxRecDepth 100000 in
set_option maxHeartbeats 4000000 in
theorem tX4_length_18 {l : Launch} {g : sq_G} {J : sq_K} {Q : Int → sq_S → Prop} (S : sq_J l rX4_length cX4_length 5 RX4 wsX4_length g sq_M J) (hret : ∀ (pc : Nat) (lv : List (Nat × Value)) (r : Int) (st' : sq_S), decode cX4_length pc = .ok (.ireturn, 1) → Q r st' → J pc lv [.int (sq_z r)] st') (v1 v2 v3 : Int) (st : sq_S) (H : bX4_length_18 (qX4_length_18 J g) (qX4_length_62 J g) Q v1 v2 v3 st) : J 18 [(0, .ref (g.2.2 0)), (1, .int (sq_z v1)), (2, .int (sq_z v2)), (3, .int (sq_z v3))] [] st := by
  unfold bX4_length_18 at H
  refine sj_iload_n (pl := 3) S dX4_length_18 rfl rfl ?_
  refine sj_iload_n (pl := 1) S dX4_length_19 rfl rfl ?_
  refine sj_icmp_gt (tgt := 86) S H.1 dX4_length_20 (by decide) (fun c9 => ?_) (fun c9 => ?_)
  · have H := H.2.1 c9
    refine sj_iload_n (pl := 2) S dX4_length_86 rfl rfl ?_
    exact hret _ _ _ _ dX4_length_87 H
  · have H := H.2.2 c9
    refine sj_iload_n (pl := 3) S dX4_length_23 rfl rfl ?_
    refine sj_aload_n (pl := 0) S dX4_length_24 rfl rfl ?_
    refine sj_vi (rest := [.int (sq_z v3)]) (q0 := 0) (ci := 4) S (kX4_many l g st _ H) (fun s args hts => cwV 0 hts gX4_length_X4_many rfl rfl rfl (by decide +kernel) ⟨Nat.le_of_ble_eq_true rfl, Nat.le_of_ble_eq_true rfl⟩) rfl rfl rfl rfl (Nat.le_of_ble_eq_true rfl) dX4_length_25 (fun r460 st461 H => ?_)
    refine sj_icmp_ge (tgt := 86) S H.1 dX4_length_28 (by decide) (fun c9 => ?_) (fun c9 => ?_)
    · have H := H.2.1 c9
      refine sj_iload_n (pl := 2) S dX4_length_86 rfl rfl ?_
      exact hret _ _ _ _ dX4_length_87 H
    · have H := H.2.2 c9
      refine sj_iload_n (pl := 2) S dX4_length_31 rfl rfl ?_
      refine sj_if_lt (tgt := 62) S H.1 dX4_length_32 (by decide) (fun c9 => ?_) (fun c9 => ?_)
      · have H := H.2.1 c9
        exact sj_lv S [0, 1, 2, 3] rfl H
      · have H := H.2.2 c9
        refine sj_aload_n (pl := 0) S dX4_length_35 rfl rfl ?_
        refine sj_iload_n (pl := 3) S dX4_length_36 rfl rfl ?_
        refine sj_vi (rest := []) (q0 := 0) (ci := 4) S (kX4_sameAt l g v3 st461 _ H) (fun s args hts => cwV 1 hts gX4_length_X4_sameAt rfl rfl rfl (by decide +kernel) ⟨Nat.le_of_ble_eq_true rfl, Nat.le_of_ble_eq_true rfl⟩) rfl rfl rfl rfl (Nat.le_of_ble_eq_true rfl) dX4_length_37 (fun r462 st463 H => ?_)
        refine sj_aload_n (pl := 0) S dX4_length_40 rfl rfl ?_
        refine sj_vi (rest := [.int (sq_z r462)]) (q0 := 0) (ci := 4) S (kX4_many l g st463 _ H) (fun s args hts => cwV 0 hts gX4_length_X4_many rfl rfl rfl (by decide +kernel) ⟨Nat.le_of_ble_eq_true rfl, Nat.le_of_ble_eq_true rfl⟩) rfl rfl rfl rfl (Nat.le_of_ble_eq_true rfl) dX4_length_41 (fun r464 st465 H => ?_)
        refine sj_iload_n (pl := 2) S dX4_length_44 rfl rfl ?_
        refine sj_isub S dX4_length_45 ?_
        refine sj_imul S dX4_length_46 ?_
        refine sj_aload_n (pl := 0) S dX4_length_47 rfl rfl ?_
        refine sj_iload_n (pl := 2) S dX4_length_48 rfl rfl ?_
        refine sj_vi (rest := [.int (sq_z (r462 * (r464 - v2)))]) (q0 := 0) (ci := 4) S (kX4_sameAt l g v2 st465 _ H) (fun s args hts => cwV 1 hts gX4_length_X4_sameAt rfl rfl rfl (by decide +kernel) ⟨Nat.le_of_ble_eq_true rfl, Nat.le_of_ble_eq_true rfl⟩) rfl rfl rfl rfl (Nat.le_of_ble_eq_true rfl) dX4_length_49 (fun r466 st467 H => ?_)
        refine sj_aload_n (pl := 0) S dX4_length_52 rfl rfl ?_
        refine sj_vi (rest := [.int (sq_z r466), .int (sq_z (r462 * (r464 - v2)))]) (q0 := 0) (ci := 4) S (kX4_many l g st467 _ H) (fun s args hts => cwV 0 hts gX4_length_X4_many rfl rfl rfl (by decide +kernel) ⟨Nat.le_of_ble_eq_true rfl, Nat.le_of_ble_eq_true rfl⟩) rfl rfl rfl rfl (Nat.le_of_ble_eq_true rfl) dX4_length_53 (fun r468 st469 H => ?_)
        refine sj_iload_n (pl := 3) S dX4_length_56 rfl rfl ?_
        refine sj_isub S dX4_length_57 ?_
        refine sj_imul S dX4_length_58 ?_
        refine sj_icmp_le (tgt := 66) S H.1 dX4_length_59 (by decide) (fun c9 => ?_) (fun c9 => ?_)
        · have H := H.2.1 c9
          refine sj_iconst S dX4_length_66 ?_
          refine sj_istorea (lv' := [(0, .ref (g.2.2 0)), (1, .int (sq_z v1)), (2, .int (sq_z v2)), (3, .int (sq_z v3))]) S dX4_length_67 (by decide) (fun _ => rfl) ?_
          refine sj_iload (pl := 0) S dX4_length_69 rfl ?_
          refine sj_if_eq (tgt := 78) S H.1 dX4_length_71 (by decide) (fun c9 => ?_) (fun c9 => ?_)
          · have H := H.2.1 c9
            refine sj_iload_n (pl := 3) S dX4_length_78 rfl rfl ?_
            refine sj_istore_na (lv' := [(4, .int (sq_z 0)), (0, .ref (g.2.2 0)), (1, .int (sq_z v1)), (3, .int (sq_z v3))]) S dX4_length_79 rfl (by decide) (fun _ => rfl) ?_
            refine sj_iinc (pl := 4) (lv' := [(2, .int (sq_z v2)), (4, .int (sq_z 0)), (0, .ref (g.2.2 0)), (1, .int (sq_z v1))]) S dX4_length_80 rfl (by decide) (fun _ => rfl) ?_
            refine sj_goto (tgt := 18) S dX4_length_83 (by decide) ?_
            exact sj_lv S [3, 4, 1, 0] rfl H
          · have H := H.2.2 c9
            refine sj_iload_n (pl := 4) S dX4_length_74 rfl rfl ?_
            refine sj_goto (tgt := 79) S dX4_length_75 (by decide) ?_
            refine sj_istore_na (lv' := [(4, .int (sq_z 0)), (0, .ref (g.2.2 0)), (1, .int (sq_z v1)), (3, .int (sq_z v3))]) S dX4_length_79 rfl (by decide) (fun _ => rfl) ?_
            refine sj_iinc (pl := 4) (lv' := [(2, .int (sq_z v3)), (4, .int (sq_z 0)), (0, .ref (g.2.2 0)), (1, .int (sq_z v1))]) S dX4_length_80 rfl (by decide) (fun _ => rfl) ?_
            refine sj_goto (tgt := 18) S dX4_length_83 (by decide) ?_
            exact sj_lv S [3, 4, 1, 0] rfl H
        · have H := H.2.2 c9
          exact sj_lv S [0, 1, 2, 3] rfl H
set_option maxRecDepth 100000 in
set_option maxHeartbeats 4000000 in
theorem tX4_length_62 {l : Launch} {g : sq_G} {J : sq_K} {Q : Int → sq_S → Prop} (S : sq_J l rX4_length cX4_length 5 RX4 wsX4_length g sq_M J) (hret : ∀ (pc : Nat) (lv : List (Nat × Value)) (r : Int) (st' : sq_S), decode cX4_length pc = .ok (.ireturn, 1) → Q r st' → J pc lv [.int (sq_z r)] st') (v1 v2 v3 : Int) (st : sq_S) (H : bX4_length_62 (qX4_length_18 J g) (qX4_length_62 J g) Q v1 v2 v3 st) : J 62 [(0, .ref (g.2.2 0)), (1, .int (sq_z v1)), (2, .int (sq_z v2)), (3, .int (sq_z v3))] [] st := by
  unfold bX4_length_62 at H
  refine sj_iconst S dX4_length_62 ?_
  refine sj_goto (tgt := 67) S dX4_length_63 (by decide) ?_
  refine sj_istorea (lv' := [(0, .ref (g.2.2 0)), (1, .int (sq_z v1)), (2, .int (sq_z v2)), (3, .int (sq_z v3))]) S dX4_length_67 (by decide) (fun _ => rfl) ?_
  refine sj_iload (pl := 0) S dX4_length_69 rfl ?_
  refine sj_if_eq (tgt := 78) S H.1 dX4_length_71 (by decide) (fun c9 => ?_) (fun c9 => ?_)
  · have H := H.2.1 c9
    refine sj_iload_n (pl := 3) S dX4_length_78 rfl rfl ?_
    refine sj_istore_na (lv' := [(4, .int (sq_z 1)), (0, .ref (g.2.2 0)), (1, .int (sq_z v1)), (3, .int (sq_z v3))]) S dX4_length_79 rfl (by decide) (fun _ => rfl) ?_
    refine sj_iinc (pl := 4) (lv' := [(2, .int (sq_z v2)), (4, .int (sq_z 1)), (0, .ref (g.2.2 0)), (1, .int (sq_z v1))]) S dX4_length_80 rfl (by decide) (fun _ => rfl) ?_
    refine sj_goto (tgt := 18) S dX4_length_83 (by decide) ?_
    exact sj_lv S [3, 4, 1, 0] rfl H
  · have H := H.2.2 c9
    refine sj_iload_n (pl := 4) S dX4_length_74 rfl rfl ?_
    refine sj_goto (tgt := 79) S dX4_length_75 (by decide) ?_
    refine sj_istore_na (lv' := [(4, .int (sq_z 1)), (0, .ref (g.2.2 0)), (1, .int (sq_z v1)), (3, .int (sq_z v3))]) S dX4_length_79 rfl (by decide) (fun _ => rfl) ?_
    refine sj_iinc (pl := 4) (lv' := [(2, .int (sq_z v3)), (4, .int (sq_z 1)), (0, .ref (g.2.2 0)), (1, .int (sq_z v1))]) S dX4_length_80 rfl (by decide) (fun _ => rfl) ?_
    refine sj_goto (tgt := 18) S dX4_length_83 (by decide) ?_
    exact sj_lv S [3, 4, 1, 0] rfl H
set_option maxRecDepth 100000 in
set_option maxHeartbeats 4000000 in
theorem tX4_length_0 {l : Launch} {g : sq_G} {J : sq_K} {Q : Int → sq_S → Prop} (S : sq_J l rX4_length cX4_length 5 RX4 wsX4_length g sq_M J) (hret : ∀ (pc : Nat) (lv : List (Nat × Value)) (r : Int) (st' : sq_S), decode cX4_length pc = .ok (.ireturn, 1) → Q r st' → J pc lv [.int (sq_z r)] st') (v1 : Int) (st : sq_S) (H : bX4_length_0 (qX4_length_18 J g) (qX4_length_62 J g) Q v1 st) : J 0 [(0, .ref (g.2.2 0)), (1, .int (sq_z v1))] [] st := by
  unfold bX4_length_0 at H
  refine sj_iload_n (pl := 1) S dX4_length_0 rfl rfl ?_
  refine sj_iconst S dX4_length_1 ?_
  refine sj_bipush S dX4_length_2 (by decide +kernel) ?_
  refine sj_si (rest := []) S (kX4_in l g v1 1 20 st _ H) (fun s args hts => va_cwS 3 hts gX4_length_X4_in rfl rfl rfl (by decide +kernel) ⟨Nat.le_of_ble_eq_true rfl, Nat.le_of_ble_eq_true rfl⟩) rfl rfl (Nat.le_of_ble_eq_true rfl) dX4_length_4 (fun r458 st459 H => ?_)
  refine sj_if_ne (tgt := 13) S H.1 dX4_length_7 (by decide) (fun c9 => ?_) (fun c9 => ?_)
  · have H := H.2.1 c9
    refine sj_bipush S dX4_length_13 (by decide +kernel) ?_
    refine sj_istore_na (lv' := [(0, .ref (g.2.2 0)), (1, .int (sq_z v1))]) S dX4_length_15 rfl (by decide) (fun _ => rfl) ?_
    refine sj_iconst S dX4_length_16 ?_
    refine sj_istore_na (lv' := [(2, .int (sq_z (-6))), (0, .ref (g.2.2 0)), (1, .int (sq_z v1))]) S dX4_length_17 rfl (by decide) (fun _ => rfl) ?_
    exact sj_lv S [2, 3, 1, 0] rfl H
  · have H := H.2.2 c9
    refine sj_bipush S dX4_length_10 (by decide +kernel) ?_
    exact hret _ _ _ _ dX4_length_12 H
set_option maxRecDepth 100000 in
set_option maxHeartbeats 4000000 in
theorem kX4_length (l : Launch) (g : sq_G) (v1 : Int) (st : sq_S) (Q : Int → sq_S → Prop) (H : wX4_length v1 st Q) : sq_Ci l yX4_length wsX4_length rX4_length g sq_M [.ref (g.2.2 0), .int (sq_z v1)] st Q := by
  refine sq_in_i (cc := cX4_length) (nL := 5) (own := RX4) (by decide) rfl rfl (Nat.le_of_ble_eq_true rfl) ?_
  intro J S hret
  exact tX4_length_0 S hret v1 st (H (qX4_length_18 J g) (qX4_length_62 J g) (tX4_length_18 S hret) (tX4_length_62 S hret))
/-! score (III)I : X4_score -/
theorem iX4_score_4 : ∀ w ∈ u_ws RX4 TX4 12, w ∈ wsX4_score := fun _ h => List.mem_cons_of_mem _ (List.mem_append_right _ h)
theorem mX4_score_7 : Cond.fieldLink RX4 7 (TX4 0).1 (TX4 0).2.1 (TX4 0).2.2.1 ∈ wsX4_score := List.mem_of_getElem? (i := 1) rfl
def bX4_score_6 (K6 : Int → Int → Int → Int → sq_S → Prop) (Q : Int → sq_S → Prop) (v1 v3 v4 v5 : Int) (st : sq_S) : Prop :=
  wX4_many st (fun r478 st479 => (sq_rg v5 ∧ sq_rg r478) ∧ (r478 ≤ v5 → Q v4 st479) ∧ (v5 < r478 → sq_ib (0 + v5) 819 ∧ (((0 ≤ (((st479 1 ((0 + v5)).toNat) - v3) + 16) ∧ (((st479 1 ((0 + v5)).toNat) - v3) + 16) ≤ 2147483647) ∧ (0 < (16 : Int) ∧ (16 : Int) ≤ 2147483647)) ∧ (sq_ib (56 + ((((st479 1 ((0 + v5)).toNat) - v3) + 16) % 16)) 819 ∧ (∀ y480 : Int, y480 = (v4 + (st479 1 ((56 + ((((st479 1 ((0 + v5)).toNat) - v3) + 16) % 16))).toNat)) → (∀ y481 : Int, y481 = (v5 + v1) → (K6 v1 v3 y480 y481 st479)))))))
def bX4_score_0 (K6 : Int → Int → Int → Int → sq_S → Prop) (Q : Int → sq_S → Prop) (v1 v2 v3 : Int) (st : sq_S) : Prop :=
  K6 v1 v3 0 v2 st
def wX4_score (v1 v2 v3 : Int) (st : sq_S) (Q : Int → sq_S → Prop) : Prop :=
  ∀ (K6 : Int → Int → Int → Int → sq_S → Prop), (∀ (v1 v3 v4 v5 : Int) (st : sq_S), bX4_score_6 K6 Q v1 v3 v4 v5 st → K6 v1 v3 v4 v5 st) → bX4_score_0 K6 Q v1 v2 v3 st
def rX4_score : Room := { frames := 1, cells := 0, slots := 0, locals := 20 }
def qX4_score_6 (J : sq_K) (g : sq_G) : Int → Int → Int → Int → sq_S → Prop := fun v1 v3 v4 v5 st => J 6 [(0, .ref (g.2.2 0)), (1, .int (sq_z v1)), (3, .int (sq_z v3)), (4, .int (sq_z v4)), (5, .int (sq_z v5))] [] st
set_option maxRecDepth 100000 in
set_option maxHeartbeats 4000000 in
theorem tX4_score_6 {l : Launch} {g : sq_G} {J : sq_K} {Q : Int → sq_S → Prop} (S : sq_J l rX4_score cX4_score 6 RX4 wsX4_score g sq_M J) (hret : ∀ (pc : Nat) (lv : List (Nat × Value)) (r : Int) (st' : sq_S), decode cX4_score pc = .ok (.ireturn, 1) → Q r st' → J pc lv [.int (sq_z r)] st') (v1 v3 v4 v5 : Int) (st : sq_S) (H : bX4_score_6 (qX4_score_6 J g) Q v1 v3 v4 v5 st) : J 6 [(0, .ref (g.2.2 0)), (1, .int (sq_z v1)), (3, .int (sq_z v3)), (4, .int (sq_z v4)), (5, .int (sq_z v5))] [] st := by
  unfold bX4_score_6 at H
  refine sj_iload (pl := 4) S dX4_score_6 rfl ?_
  refine sj_aload_n (pl := 0) S dX4_score_8 rfl rfl ?_
  refine sj_vi (rest := [.int (sq_z v5)]) (q0 := 0) (ci := 4) S (kX4_many l g st _ H) (fun s args hts => cwV 0 hts gX4_score_X4_many rfl rfl rfl (by decide +kernel) ⟨Nat.le_of_ble_eq_true rfl, Nat.le_of_ble_eq_true rfl⟩) rfl rfl rfl rfl (Nat.le_of_ble_eq_true rfl) dX4_score_9 (fun r478 st479 H => ?_)
  refine sj_icmp_ge (tgt := 54) S H.1 dX4_score_12 (by decide) (fun c9 => ?_) (fun c9 => ?_)
  · have H := H.2.1 c9
    refine sj_iload (pl := 3) S dX4_score_54 rfl ?_
    exact hret _ _ _ _ dX4_score_56 H
  · have H := H.2.2 c9
    refine sj_iload (pl := 3) S dX4_score_15 rfl ?_
    refine sj_aload_n (pl := 0) S dX4_score_17 rfl rfl ?_
    refine sj_getr S fM_0_0 iX4_score_4 rfl (by decide) mX4_score_7 dX4_score_18 ?_
    refine sj_bipush S dX4_score_21 (by decide +kernel) ?_
    refine sj_aload_n (pl := 0) S dX4_score_23 rfl rfl ?_
    refine sj_getr S fM_0_0 iX4_score_4 rfl (by decide) mX4_score_7 dX4_score_24 ?_
    refine sj_iconst S dX4_score_27 ?_
    refine sj_iload (pl := 4) S dX4_score_28 rfl ?_
    refine sj_iadd S dX4_score_30 ?_
    refine sj_iald S aM_1 H.1 dX4_score_31 ?_
    have H := H.2
    refine sj_iload_n (pl := 2) S dX4_score_32 rfl rfl ?_
    refine sj_isub S dX4_score_33 ?_
    refine sj_bipush S dX4_score_34 (by decide +kernel) ?_
    refine sj_iadd S dX4_score_36 ?_
    refine sj_bipush S dX4_score_37 (by decide +kernel) ?_
    refine sj_irem S H.1 dX4_score_39 ?_
    have H := H.2
    refine sj_iadd S dX4_score_40 ?_
    refine sj_iald S aM_1 H.1 dX4_score_41 ?_
    have H := H.2
    refine sj_iadd S dX4_score_42 ?_
    refine sj_istore (lv' := [(0, .ref (g.2.2 0)), (1, .int (sq_z v1)), (3, .int (sq_z v3)), (5, .int (sq_z v5))]) S dX4_score_43 (by decide) (fun _ => rfl) (fun y480 ey480 => ?_)
    have H := H y480 ey480
    refine sj_iload (pl := 4) S dX4_score_45 rfl ?_
    refine sj_iload_n (pl := 2) S dX4_score_47 rfl rfl ?_
    refine sj_iadd S dX4_score_48 ?_
    refine sj_istore (lv' := [(4, .int (sq_z y480)), (0, .ref (g.2.2 0)), (1, .int (sq_z v1)), (3, .int (sq_z v3))]) S dX4_score_49 (by decide) (fun _ => rfl) (fun y481 ey481 => ?_)
    have H := H y481 ey481
    refine sj_goto (tgt := 6) S dX4_score_51 (by decide) ?_
    exact sj_lv S [2, 3, 4, 1, 0] rfl H
set_option maxRecDepth 100000 in
set_option maxHeartbeats 4000000 in
theorem tX4_score_0 {l : Launch} {g : sq_G} {J : sq_K} {Q : Int → sq_S → Prop} (S : sq_J l rX4_score cX4_score 6 RX4 wsX4_score g sq_M J) (hret : ∀ (pc : Nat) (lv : List (Nat × Value)) (r : Int) (st' : sq_S), decode cX4_score pc = .ok (.ireturn, 1) → Q r st' → J pc lv [.int (sq_z r)] st') (v1 v2 v3 : Int) (st : sq_S) (H : bX4_score_0 (qX4_score_6 J g) Q v1 v2 v3 st) : J 0 [(0, .ref (g.2.2 0)), (1, .int (sq_z v1)), (2, .int (sq_z v2)), (3, .int (sq_z v3))] [] st := by
  unfold bX4_score_0 at H
  refine sj_iconst S dX4_score_0 ?_
  refine sj_istorea (lv' := [(0, .ref (g.2.2 0)), (1, .int (sq_z v1)), (2, .int (sq_z v2)), (3, .int (sq_z v3))]) S dX4_score_1 (by decide) (fun _ => rfl) ?_
  refine sj_iload_n (pl := 3) S dX4_score_3 rfl rfl ?_
  refine sj_istorea (lv' := [(4, .int (sq_z 0)), (0, .ref (g.2.2 0)), (1, .int (sq_z v1)), (2, .int (sq_z v2)), (3, .int (sq_z v3))]) S dX4_score_4 (by decide) (fun _ => rfl) ?_
  exact sj_lv S [2, 3, 5, 1, 0] rfl H
set_option maxRecDepth 100000 in
set_option maxHeartbeats 4000000 in
theorem kX4_score (l : Launch) (g : sq_G) (v1 v2 v3 : Int) (st : sq_S) (Q : Int → sq_S → Prop) (H : wX4_score v1 v2 v3 st Q) : sq_Ci l yX4_score wsX4_score rX4_score g sq_M [.ref (g.2.2 0), .int (sq_z v1), .int (sq_z v2), .int (sq_z v3)] st Q := by
  refine sq_in_i (cc := cX4_score) (nL := 6) (own := RX4) (by decide) rfl rfl (Nat.le_of_ble_eq_true rfl) ?_
  intro J S hret
  exact tX4_score_0 S hret v1 v2 v3 st (H (qX4_score_6 J g) (tX4_score_6 S hret))
/-! rankOf (III)I : X4_rankOf -/
def bX4_rankOf_15 (K15 : Int → Int → Int → Int → Int → Int → sq_S → Prop) (Q : Int → sq_S → Prop) (v1 v2 v3 v4 v5 v6 : Int) (st : sq_S) : Prop :=
  (sq_rg v6 ∧ sq_rg 16) ∧ (16 ≤ v6 → Q v5 st) ∧ (v6 < 16 → wX4_score v1 v2 v6 st (fun r484 st485 => (sq_rg r484 ∧ sq_rg v4) ∧ (v4 < r484 → ∀ y486 : Int, y486 = (v5 + 1) → (K15 v1 v2 v3 v4 y486 (v6 + 1) st485)) ∧ (r484 ≤ v4 → (sq_rg r484 ∧ sq_rg v4) ∧ (¬ r484 = v4 → ∀ y487 : Int, y487 = (v5 + 0) → (K15 v1 v2 v3 v4 y487 (v6 + 1) st485)) ∧ (r484 = v4 → (sq_rg v6 ∧ sq_rg v3) ∧ (v3 ≤ v6 → ∀ y488 : Int, y488 = (v5 + 0) → (K15 v1 v2 v3 v4 y488 (v6 + 1) st485)) ∧ (v6 < v3 → ∀ y489 : Int, y489 = (v5 + 1) → (K15 v1 v2 v3 v4 y489 (v6 + 1) st485))))))
def bX4_rankOf_0 (K15 : Int → Int → Int → Int → Int → Int → sq_S → Prop) (Q : Int → sq_S → Prop) (v1 v2 v3 : Int) (st : sq_S) : Prop :=
  wX4_score v1 v2 v3 st (fun r482 st483 => K15 v1 v2 v3 r482 0 0 st483)
def wX4_rankOf (v1 v2 v3 : Int) (st : sq_S) (Q : Int → sq_S → Prop) : Prop :=
  ∀ (K15 : Int → Int → Int → Int → Int → Int → sq_S → Prop), (∀ (v1 v2 v3 v4 v5 v6 : Int) (st : sq_S), bX4_rankOf_15 K15 Q v1 v2 v3 v4 v5 v6 st → K15 v1 v2 v3 v4 v5 v6 st) → bX4_rankOf_0 K15 Q v1 v2 v3 st
def rX4_rankOf : Room := { frames := 2, cells := 0, slots := 0, locals := 45 }
def qX4_rankOf_15 (J : sq_K) (g : sq_G) : Int → Int → Int → Int → Int → Int → sq_S → Prop := fun v1 v2 v3 v4 v5 v6 st => J 15 [(0, .ref (g.2.2 0)), (1, .int (sq_z v1)), (2, .int (sq_z v2)), (3, .int (sq_z v3)), (4, .int (sq_z v4)), (5, .int (sq_z v5)), (6, .int (sq_z v6))] [] st
set_option maxRecDepth 100000 in
set_option maxHeartbeats 4000000 in
theorem tX4_rankOf_15 {l : Launch} {g : sq_G} {J : sq_K} {Q : Int → sq_S → Prop} (S : sq_J l rX4_rankOf cX4_rankOf 8 RX4 wsX4_rankOf g sq_M J) (hret : ∀ (pc : Nat) (lv : List (Nat × Value)) (r : Int) (st' : sq_S), decode cX4_rankOf pc = .ok (.ireturn, 1) → Q r st' → J pc lv [.int (sq_z r)] st') (v1 v2 v3 v4 v5 v6 : Int) (st : sq_S) (H : bX4_rankOf_15 (qX4_rankOf_15 J g) Q v1 v2 v3 v4 v5 v6 st) : J 15 [(0, .ref (g.2.2 0)), (1, .int (sq_z v1)), (2, .int (sq_z v2)), (3, .int (sq_z v3)), (4, .int (sq_z v4)), (5, .int (sq_z v5)), (6, .int (sq_z v6))] [] st := by
  unfold bX4_rankOf_15 at H
  refine sj_iload (pl := 6) S dX4_rankOf_15 rfl ?_
  refine sj_bipush S dX4_rankOf_17 (by decide +kernel) ?_
  refine sj_icmp_ge (tgt := 68) S H.1 dX4_rankOf_19 (by decide) (fun c9 => ?_) (fun c9 => ?_)
  · have H := H.2.1 c9
    refine sj_iload (pl := 5) S dX4_rankOf_68 rfl ?_
    exact hret _ _ _ _ dX4_rankOf_70 H
  · have H := H.2.2 c9
    refine sj_aload_n (pl := 0) S dX4_rankOf_22 rfl rfl ?_
    refine sj_iload_n (pl := 1) S dX4_rankOf_23 rfl rfl ?_
    refine sj_iload_n (pl := 2) S dX4_rankOf_24 rfl rfl ?_
    refine sj_iload (pl := 6) S dX4_rankOf_25 rfl ?_
    refine sj_vi (rest := []) (q0 := 0) (ci := 4) S (kX4_score l g v1 v2 v6 st _ H) (fun s args hts => cwV 3 hts gX4_rankOf_X4_score rfl rfl rfl (by decide +kernel) ⟨Nat.le_of_ble_eq_true rfl, Nat.le_of_ble_eq_true rfl⟩) rfl rfl rfl rfl (Nat.le_of_ble_eq_true rfl) dX4_rankOf_27 (fun r484 st485 H => ?_)
    refine sj_istorea (lv' := [(0, .ref (g.2.2 0)), (1, .int (sq_z v1)), (2, .int (sq_z v2)), (3, .int (sq_z v3)), (4, .int (sq_z v4)), (5, .int (sq_z v5)), (6, .int (sq_z v6))]) S dX4_rankOf_30 (by decide) (fun _ => rfl) ?_
    refine sj_iload (pl := 6) S dX4_rankOf_32 rfl ?_
    refine sj_iload (pl := 0) S dX4_rankOf_34 rfl ?_
    refine sj_iload (pl := 5) S dX4_rankOf_36 rfl ?_
    refine sj_icmp_gt (tgt := 54) S H.1 dX4_rankOf_38 (by decide) (fun c9 => ?_) (fun c9 => ?_)
    · have H := H.2.1 c9
      refine sj_iconst S dX4_rankOf_54 ?_
      refine sj_goto (tgt := 59) S dX4_rankOf_55 (by decide) ?_
      refine sj_iadd S dX4_rankOf_59 ?_
      refine sj_istore (lv' := [(7, .int (sq_z r484)), (0, .ref (g.2.2 0)), (1, .int (sq_z v1)), (2, .int (sq_z v2)), (3, .int (sq_z v3)), (4, .int (sq_z v4)), (6, .int (sq_z v6))]) S dX4_rankOf_60 (by decide) (fun _ => rfl) (fun y486 ey486 => ?_)
      have H := H y486 ey486
      refine sj_iinc (pl := 7) (lv' := [(5, .int (sq_z y486)), (7, .int (sq_z r484)), (0, .ref (g.2.2 0)), (1, .int (sq_z v1)), (2, .int (sq_z v2)), (3, .int (sq_z v3)), (4, .int (sq_z v4))]) S dX4_rankOf_62 rfl (by decide) (fun _ => rfl) ?_
      refine sj_goto (tgt := 15) S dX4_rankOf_65 (by decide) ?_
      exact sj_lv S [3, 4, 5, 6, 7, 1, 0] rfl H
    · have H := H.2.2 c9
      refine sj_iload (pl := 0) S dX4_rankOf_41 rfl ?_
      refine sj_iload (pl := 5) S dX4_rankOf_43 rfl ?_
      refine sj_icmp_ne (tgt := 58) S H.1 dX4_rankOf_45 (by decide) (fun c9 => ?_) (fun c9 => ?_)
      · have H := H.2.1 c9
        refine sj_iconst S dX4_rankOf_58 ?_
        refine sj_iadd S dX4_rankOf_59 ?_
        refine sj_istore (lv' := [(7, .int (sq_z r484)), (0, .ref (g.2.2 0)), (1, .int (sq_z v1)), (2, .int (sq_z v2)), (3, .int (sq_z v3)), (4, .int (sq_z v4)), (6, .int (sq_z v6))]) S dX4_rankOf_60 (by decide) (fun _ => rfl) (fun y487 ey487 => ?_)
        have H := H y487 ey487
        refine sj_iinc (pl := 7) (lv' := [(5, .int (sq_z y487)), (7, .int (sq_z r484)), (0, .ref (g.2.2 0)), (1, .int (sq_z v1)), (2, .int (sq_z v2)), (3, .int (sq_z v3)), (4, .int (sq_z v4))]) S dX4_rankOf_62 rfl (by decide) (fun _ => rfl) ?_
        refine sj_goto (tgt := 15) S dX4_rankOf_65 (by decide) ?_
        exact sj_lv S [3, 4, 5, 6, 7, 1, 0] rfl H
      · have H := H.2.2 c9
        refine sj_iload (pl := 7) S dX4_rankOf_48 rfl ?_
        refine sj_iload_n (pl := 4) S dX4_rankOf_50 rfl rfl ?_
        refine sj_icmp_ge (tgt := 58) S H.1 dX4_rankOf_51 (by decide) (fun c9 => ?_) (fun c9 => ?_)
        · have H := H.2.1 c9
          refine sj_iconst S dX4_rankOf_58 ?_
          refine sj_iadd S dX4_rankOf_59 ?_
          refine sj_istore (lv' := [(7, .int (sq_z r484)), (0, .ref (g.2.2 0)), (1, .int (sq_z v1)), (2, .int (sq_z v2)), (3, .int (sq_z v3)), (4, .int (sq_z v4)), (6, .int (sq_z v6))]) S dX4_rankOf_60 (by decide) (fun _ => rfl) (fun y488 ey488 => ?_)
          have H := H y488 ey488
          refine sj_iinc (pl := 7) (lv' := [(5, .int (sq_z y488)), (7, .int (sq_z r484)), (0, .ref (g.2.2 0)), (1, .int (sq_z v1)), (2, .int (sq_z v2)), (3, .int (sq_z v3)), (4, .int (sq_z v4))]) S dX4_rankOf_62 rfl (by decide) (fun _ => rfl) ?_
          refine sj_goto (tgt := 15) S dX4_rankOf_65 (by decide) ?_
          exact sj_lv S [3, 4, 5, 6, 7, 1, 0] rfl H
        · have H := H.2.2 c9
          refine sj_iconst S dX4_rankOf_54 ?_
          refine sj_goto (tgt := 59) S dX4_rankOf_55 (by decide) ?_
          refine sj_iadd S dX4_rankOf_59 ?_
          refine sj_istore (lv' := [(7, .int (sq_z r484)), (0, .ref (g.2.2 0)), (1, .int (sq_z v1)), (2, .int (sq_z v2)), (3, .int (sq_z v3)), (4, .int (sq_z v4)), (6, .int (sq_z v6))]) S dX4_rankOf_60 (by decide) (fun _ => rfl) (fun y489 ey489 => ?_)
          have H := H y489 ey489
          refine sj_iinc (pl := 7) (lv' := [(5, .int (sq_z y489)), (7, .int (sq_z r484)), (0, .ref (g.2.2 0)), (1, .int (sq_z v1)), (2, .int (sq_z v2)), (3, .int (sq_z v3)), (4, .int (sq_z v4))]) S dX4_rankOf_62 rfl (by decide) (fun _ => rfl) ?_
          refine sj_goto (tgt := 15) S dX4_rankOf_65 (by decide) ?_
          exact sj_lv S [3, 4, 5, 6, 7, 1, 0] rfl H
set_option maxRecDepth 100000 in
set_option maxHeartbeats 4000000 in
theorem tX4_rankOf_0 {l : Launch} {g : sq_G} {J : sq_K} {Q : Int → sq_S → Prop} (S : sq_J l rX4_rankOf cX4_rankOf 8 RX4 wsX4_rankOf g sq_M J) (hret : ∀ (pc : Nat) (lv : List (Nat × Value)) (r : Int) (st' : sq_S), decode cX4_rankOf pc = .ok (.ireturn, 1) → Q r st' → J pc lv [.int (sq_z r)] st') (v1 v2 v3 : Int) (st : sq_S) (H : bX4_rankOf_0 (qX4_rankOf_15 J g) Q v1 v2 v3 st) : J 0 [(0, .ref (g.2.2 0)), (1, .int (sq_z v1)), (2, .int (sq_z v2)), (3, .int (sq_z v3))] [] st := by
  unfold bX4_rankOf_0 at H
  refine sj_aload_n (pl := 0) S dX4_rankOf_0 rfl rfl ?_
  refine sj_iload_n (pl := 1) S dX4_rankOf_1 rfl rfl ?_
  refine sj_iload_n (pl := 2) S dX4_rankOf_2 rfl rfl ?_
  refine sj_iload_n (pl := 3) S dX4_rankOf_3 rfl rfl ?_
  refine sj_vi (rest := []) (q0 := 0) (ci := 4) S (kX4_score l g v1 v2 v3 st _ H) (fun s args hts => cwV 3 hts gX4_rankOf_X4_score rfl rfl rfl (by decide +kernel) ⟨Nat.le_of_ble_eq_true rfl, Nat.le_of_ble_eq_true rfl⟩) rfl rfl rfl rfl (Nat.le_of_ble_eq_true rfl) dX4_rankOf_4 (fun r482 st483 H => ?_)
  refine sj_istorea (lv' := [(0, .ref (g.2.2 0)), (1, .int (sq_z v1)), (2, .int (sq_z v2)), (3, .int (sq_z v3))]) S dX4_rankOf_7 (by decide) (fun _ => rfl) ?_
  refine sj_iconst S dX4_rankOf_9 ?_
  refine sj_istorea (lv' := [(4, .int (sq_z r482)), (0, .ref (g.2.2 0)), (1, .int (sq_z v1)), (2, .int (sq_z v2)), (3, .int (sq_z v3))]) S dX4_rankOf_10 (by decide) (fun _ => rfl) ?_
  refine sj_iconst S dX4_rankOf_12 ?_
  refine sj_istorea (lv' := [(5, .int (sq_z 0)), (4, .int (sq_z r482)), (0, .ref (g.2.2 0)), (1, .int (sq_z v1)), (2, .int (sq_z v2)), (3, .int (sq_z v3))]) S dX4_rankOf_13 (by decide) (fun _ => rfl) ?_
  exact sj_lv S [3, 4, 5, 6, 2, 1, 0] rfl H
set_option maxRecDepth 100000 in
set_option maxHeartbeats 4000000 in
theorem kX4_rankOf (l : Launch) (g : sq_G) (v1 v2 v3 : Int) (st : sq_S) (Q : Int → sq_S → Prop) (H : wX4_rankOf v1 v2 v3 st Q) : sq_Ci l yX4_rankOf wsX4_rankOf rX4_rankOf g sq_M [.ref (g.2.2 0), .int (sq_z v1), .int (sq_z v2), .int (sq_z v3)] st Q := by
  refine sq_in_i (cc := cX4_rankOf) (nL := 8) (own := RX4) (by decide) rfl rfl (Nat.le_of_ble_eq_true rfl) ?_
  intro J S hret
  exact tX4_rankOf_0 S hret v1 v2 v3 st (H (qX4_rankOf_15 J g) (tX4_rankOf_15 S hret))
