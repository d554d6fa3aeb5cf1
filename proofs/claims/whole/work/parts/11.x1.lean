/-! putInPlace (LSecretSquares$Desk;Z)V : X2_putInPlace -/
theorem iX2_putInPlace_0 : ∀ w ∈ u_ws RX0 TX0 9, w ∈ wsX2_putInPlace := fun _ h => List.mem_cons_of_mem _ (List.mem_append_left _ (List.mem_append_right _ h))
theorem iX2_putInPlace_2 : ∀ w ∈ u_ws RX2 TX2 5, w ∈ wsX2_putInPlace := fun _ h => List.mem_cons_of_mem _ (List.mem_append_right _ h)
theorem mX2_putInPlace_9 : Cond.fieldLink RX2 9 (TX2 0).1 (TX2 0).2.1 (TX2 0).2.2.1 ∈ wsX2_putInPlace := List.mem_of_getElem? (i := 2) rfl
theorem mX2_putInPlace_25 : Cond.fieldLink RX2 25 (TX2 3).1 (TX2 3).2.1 (TX2 3).2.2.1 ∈ wsX2_putInPlace := List.mem_of_getElem? (i := 4) rfl
theorem mX2_putInPlace_56 : Cond.fieldLink RX2 56 (TX0 1).1 (TX0 1).2.1 (TX0 1).2.2.1 ∈ wsX2_putInPlace := List.mem_of_getElem? (i := 1) rfl
theorem mX2_putInPlace_72 : Cond.fieldLink RX2 72 (TX0 0).1 (TX0 0).2.1 (TX0 0).2.2.1 ∈ wsX2_putInPlace := List.mem_of_getElem? (i := 3) rfl
def bX2_putInPlace_2 (K2 : Int → Int → sq_S → Prop) (Q : Int → sq_S → Prop) (v2 v3 : Int) (st : sq_S) : Prop :=
  (sq_rg v3 ∧ sq_rg (st 2 1)) ∧ ((st 2 1) ≤ v3 → Q 0 st) ∧ (v3 < (st 2 1) → sq_rg v2 ∧ (v2 = 0 → sq_ib v3 48 ∧ (sq_ib v3 48 ∧ (sq_ib (st 30 v3.toNat) 48 ∧ (∀ st114 : sq_S, st114 = sq_set st 25 ((st 30 v3.toNat)).toNat (st 3 v3.toNat) → (K2 v2 (v3 + 1) st114))))) ∧ (¬ v2 = 0 → sq_ib v3 48 ∧ (sq_ib (st 30 v3.toNat) 48 ∧ (sq_ib v3 48 ∧ (∀ st115 : sq_S, st115 = sq_set st 25 v3.toNat (st 3 ((st 30 v3.toNat)).toNat) → (K2 v2 (v3 + 1) st115))))))
def bX2_putInPlace_0 (K2 : Int → Int → sq_S → Prop) (Q : Int → sq_S → Prop) (v2 : Int) (st : sq_S) : Prop :=
  K2 v2 0 st
def wX2_putInPlace (v2 : Int) (st : sq_S) (Q : Int → sq_S → Prop) : Prop :=
  ∀ (K2 : Int → Int → sq_S → Prop), (∀ (v2 v3 : Int) (st : sq_S), bX2_putInPlace_2 K2 Q v2 v3 st → K2 v2 v3 st) → bX2_putInPlace_0 K2 Q v2 st
def rX2_putInPlace : Room := { frames := 0, cells := 0, slots := 0, locals := 0 }
def qX2_putInPlace_2 (J : sq_K) (g : sq_G) : Int → Int → sq_S → Prop := fun v2 v3 st => J 2 [(0, .ref (g.2.2 24)), (1, .ref (g.2.2 2)), (2, .int (sq_z v2)), (3, .int (sq_z v3))] [] st
set_option maxRecDepth 100000 in
set_option maxHeartbeats 4000000 in
theorem tX2_putInPlace_2 {l : Launch} {g : sq_G} {J : sq_K} {Q : Int → sq_S → Prop} (S : sq_J l rX2_putInPlace cX2_putInPlace 4 RX2 wsX2_putInPlace g sq_X J) (hret : ∀ (pc : Nat) (lv : List (Nat × Value)) (st' : sq_S), decode cX2_putInPlace pc = .ok (.return_, 1) → Q 0 st' → J pc lv [] st') (v2 v3 : Int) (st : sq_S) (H : bX2_putInPlace_2 (qX2_putInPlace_2 J g) Q v2 v3 st) : J 2 [(0, .ref (g.2.2 24)), (1, .ref (g.2.2 2)), (2, .int (sq_z v2)), (3, .int (sq_z v3))] [] st := by
  unfold bX2_putInPlace_2 at H
  refine sj_iload_n (pl := 3) S dX2_putInPlace_2 rfl rfl ?_
  refine sj_aload_n (pl := 1) S dX2_putInPlace_3 rfl rfl ?_
  refine sj_geti S fX_2_1 iX2_putInPlace_0 rfl (by decide) mX2_putInPlace_56 dX2_putInPlace_4 ?_
  refine sj_icmp_ge (tgt := 57) S H.1 dX2_putInPlace_7 (by decide) (fun c9 => ?_) (fun c9 => ?_)
  · have H := H.2.1 c9
    exact hret _ _ _ dX2_putInPlace_57 H
  · have H := H.2.2 c9
    refine sj_iload_n (pl := 2) S dX2_putInPlace_10 rfl rfl ?_
    refine sj_if_eq (tgt := 34) S H.1 dX2_putInPlace_11 (by decide) (fun c9 => ?_) (fun c9 => ?_)
    · have H := H.2.1 c9
      refine sj_aload_n (pl := 0) S dX2_putInPlace_34 rfl rfl ?_
      refine sj_getr S fX_24_0 iX2_putInPlace_2 rfl (by decide) mX2_putInPlace_9 dX2_putInPlace_35 ?_
      refine sj_aload_n (pl := 0) S dX2_putInPlace_38 rfl rfl ?_
      refine sj_getr S fX_24_3 iX2_putInPlace_2 rfl (by decide) mX2_putInPlace_25 dX2_putInPlace_39 ?_
      refine sj_iload_n (pl := 3) S dX2_putInPlace_42 rfl rfl ?_
      refine sj_iald S aX_30 H.1 dX2_putInPlace_43 ?_
      have H := H.2
      refine sj_aload_n (pl := 1) S dX2_putInPlace_44 rfl rfl ?_
      refine sj_getr S fX_2_0 iX2_putInPlace_0 rfl (by decide) mX2_putInPlace_72 dX2_putInPlace_45 ?_
      refine sj_iload_n (pl := 3) S dX2_putInPlace_48 rfl rfl ?_
      refine sj_iald S aX_3 H.1 dX2_putInPlace_49 ?_
      have H := H.2
      refine sj_iast S aX_25 H.1 dX2_putInPlace_50 (fun st114 est114 => ?_)
      have H := H.2 st114 est114
      refine sj_iinc (pl := 3) (lv' := [(0, .ref (g.2.2 24)), (1, .ref (g.2.2 2)), (2, .int (sq_z v2))]) S dX2_putInPlace_51 rfl (by decide) (fun _ => rfl) ?_
      refine sj_goto (tgt := 2) S dX2_putInPlace_54 (by decide) ?_
      exact sj_lv S [1, 2, 3, 0] rfl H
    · have H := H.2.2 c9
      refine sj_aload_n (pl := 0) S dX2_putInPlace_14 rfl rfl ?_
      refine sj_getr S fX_24_0 iX2_putInPlace_2 rfl (by decide) mX2_putInPlace_9 dX2_putInPlace_15 ?_
      refine sj_iload_n (pl := 3) S dX2_putInPlace_18 rfl rfl ?_
      refine sj_aload_n (pl := 1) S dX2_putInPlace_19 rfl rfl ?_
      refine sj_getr S fX_2_0 iX2_putInPlace_0 rfl (by decide) mX2_putInPlace_72 dX2_putInPlace_20 ?_
      refine sj_aload_n (pl := 0) S dX2_putInPlace_23 rfl rfl ?_
      refine sj_getr S fX_24_3 iX2_putInPlace_2 rfl (by decide) mX2_putInPlace_25 dX2_putInPlace_24 ?_
      refine sj_iload_n (pl := 3) S dX2_putInPlace_27 rfl rfl ?_
      refine sj_iald S aX_30 H.1 dX2_putInPlace_28 ?_
      have H := H.2
      refine sj_iald S aX_3 H.1 dX2_putInPlace_29 ?_
      have H := H.2
      refine sj_iast S aX_25 H.1 dX2_putInPlace_30 (fun st115 est115 => ?_)
      have H := H.2 st115 est115
      refine sj_goto (tgt := 51) S dX2_putInPlace_31 (by decide) ?_
      refine sj_iinc (pl := 3) (lv' := [(0, .ref (g.2.2 24)), (1, .ref (g.2.2 2)), (2, .int (sq_z v2))]) S dX2_putInPlace_51 rfl (by decide) (fun _ => rfl) ?_
      refine sj_goto (tgt := 2) S dX2_putInPlace_54 (by decide) ?_
      exact sj_lv S [1, 2, 3, 0] rfl H
set_option maxRecDepth 100000 in
set_option maxHeartbeats 4000000 in
theorem tX2_putInPlace_0 {l : Launch} {g : sq_G} {J : sq_K} {Q : Int → sq_S → Prop} (S : sq_J l rX2_putInPlace cX2_putInPlace 4 RX2 wsX2_putInPlace g sq_X J) (hret : ∀ (pc : Nat) (lv : List (Nat × Value)) (st' : sq_S), decode cX2_putInPlace pc = .ok (.return_, 1) → Q 0 st' → J pc lv [] st') (v2 : Int) (st : sq_S) (H : bX2_putInPlace_0 (qX2_putInPlace_2 J g) Q v2 st) : J 0 [(0, .ref (g.2.2 24)), (1, .ref (g.2.2 2)), (2, .int (sq_z v2))] [] st := by
  unfold bX2_putInPlace_0 at H
  refine sj_iconst S dX2_putInPlace_0 ?_
  refine sj_istore_na (lv' := [(0, .ref (g.2.2 24)), (1, .ref (g.2.2 2)), (2, .int (sq_z v2))]) S dX2_putInPlace_1 rfl (by decide) (fun _ => rfl) ?_
  exact sj_lv S [1, 2, 3, 0] rfl H
set_option maxRecDepth 100000 in
set_option maxHeartbeats 4000000 in
theorem kX2_putInPlace (l : Launch) (g : sq_G) (v2 : Int) (st : sq_S) (Q : Int → sq_S → Prop) (H : wX2_putInPlace v2 st Q) : sq_Cv l yX2_putInPlace wsX2_putInPlace rX2_putInPlace g sq_X [.ref (g.2.2 24), .ref (g.2.2 2), .int (sq_z v2)] st Q := by
  refine sq_in_v (cc := cX2_putInPlace) (nL := 4) (own := RX2) (by decide) rfl rfl (Nat.le_of_ble_eq_true rfl) ?_
  intro J S hret
  exact tX2_putInPlace_0 S hret v2 st (H (qX2_putInPlace_2 J g) (tX2_putInPlace_2 S hret))
/-! readRails (II)V : X2_readRails -/
theorem iX2_readRails_2 : ∀ w ∈ u_ws RX2 TX2 5, w ∈ wsX2_readRails := fun _ h => List.mem_cons_of_mem _ (List.mem_append_right _ h)
theorem mX2_readRails_25 : Cond.fieldLink RX2 25 (TX2 3).1 (TX2 3).2.1 (TX2 3).2.2.1 ∈ wsX2_readRails := List.mem_of_getElem? (i := 1) rfl
def bX2_readRails_5 (K5 : Int → Int → Int → Int → sq_S → Prop) (K20 : Int → Int → Int → Int → Int → Int → Int → sq_S → Prop) (K44 : Int → Int → Int → Int → Int → Int → Int → sq_S → Prop) (Q : Int → sq_S → Prop) (v1 v2 v3 v4 : Int) (st : sq_S) : Prop :=
  (sq_rg v4 ∧ sq_rg v2) ∧ (v2 < v4 → Q 0 st) ∧ (v4 ≤ v2 → K20 v1 v2 v3 v4 0 1 0 st)
def bX2_readRails_20 (K5 : Int → Int → Int → Int → sq_S → Prop) (K20 : Int → Int → Int → Int → Int → Int → Int → sq_S → Prop) (K44 : Int → Int → Int → Int → Int → Int → Int → sq_S → Prop) (Q : Int → sq_S → Prop) (v1 v2 v3 v4 v5 v6 v7 : Int) (st : sq_S) : Prop :=
  (sq_rg v7 ∧ sq_rg v1) ∧ (v1 ≤ v7 → K5 v1 v2 v3 (v4 + 1) st) ∧ (v7 < v1 → (sq_rg v5 ∧ sq_rg v4) ∧ (¬ v5 = v4 → K44 v1 v2 v3 v4 v5 v6 v7 st) ∧ (v5 = v4 → sq_ib v3 48 ∧ (∀ st117 : sq_S, st117 = sq_set st 30 v3.toNat v7 → (K44 v1 v2 (v3 + 1) v4 v5 v6 v7 st117))))
def bX2_readRails_44 (K5 : Int → Int → Int → Int → sq_S → Prop) (K20 : Int → Int → Int → Int → Int → Int → Int → sq_S → Prop) (K44 : Int → Int → Int → Int → Int → Int → Int → sq_S → Prop) (Q : Int → sq_S → Prop) (v1 v2 v3 v4 v5 v6 v7 : Int) (st : sq_S) : Prop :=
  ∀ y118 : Int, y118 = (v5 + v6) → (sq_rg y118 ∧ (y118 = 0 → ∀ y119 : Int, y119 = (-v6) → (K20 v1 v2 v3 v4 y118 y119 (v7 + 1) st)) ∧ (¬ y118 = 0 → (sq_rg y118 ∧ sq_rg v2) ∧ (¬ y118 = v2 → K20 v1 v2 v3 v4 y118 v6 (v7 + 1) st) ∧ (y118 = v2 → ∀ y120 : Int, y120 = (-v6) → (K20 v1 v2 v3 v4 y118 y120 (v7 + 1) st))))
def bX2_readRails_0 (K5 : Int → Int → Int → Int → sq_S → Prop) (K20 : Int → Int → Int → Int → Int → Int → Int → sq_S → Prop) (K44 : Int → Int → Int → Int → Int → Int → Int → sq_S → Prop) (Q : Int → sq_S → Prop) (v1 v2 : Int) (st : sq_S) : Prop :=
  K5 v1 v2 0 0 st
def wX2_readRails (v1 v2 : Int) (st : sq_S) (Q : Int → sq_S → Prop) : Prop :=
  ∀ (K5 : Int → Int → Int → Int → sq_S → Prop) (K20 : Int → Int → Int → Int → Int → Int → Int → sq_S → Prop) (K44 : Int → Int → Int → Int → Int → Int → Int → sq_S → Prop), (∀ (v1 v2 v3 v4 : Int) (st : sq_S), bX2_readRails_5 K5 K20 K44 Q v1 v2 v3 v4 st → K5 v1 v2 v3 v4 st) → (∀ (v1 v2 v3 v4 v5 v6 v7 : Int) (st : sq_S), bX2_readRails_20 K5 K20 K44 Q v1 v2 v3 v4 v5 v6 v7 st → K20 v1 v2 v3 v4 v5 v6 v7 st) → (∀ (v1 v2 v3 v4 v5 v6 v7 : Int) (st : sq_S), bX2_readRails_44 K5 K20 K44 Q v1 v2 v3 v4 v5 v6 v7 st → K44 v1 v2 v3 v4 v5 v6 v7 st) → bX2_readRails_0 K5 K20 K44 Q v1 v2 st
def rX2_readRails : Room := { frames := 0, cells := 0, slots := 0, locals := 0 }
def qX2_readRails_5 (J : sq_K) (g : sq_G) : Int → Int → Int → Int → sq_S → Prop := fun v1 v2 v3 v4 st => J 5 [(0, .ref (g.2.2 24)), (1, .int (sq_z v1)), (2, .int (sq_z v2)), (3, .int (sq_z v3)), (4, .int (sq_z v4))] [] st
def qX2_readRails_20 (J : sq_K) (g : sq_G) : Int → Int → Int → Int → Int → Int → Int → sq_S → Prop := fun v1 v2 v3 v4 v5 v6 v7 st => J 20 [(0, .ref (g.2.2 24)), (1, .int (sq_z v1)), (2, .int (sq_z v2)), (3, .int (sq_z v3)), (4, .int (sq_z v4)), (5, .int (sq_z v5)), (6, .int (sq_z v6)), (7, .int (sq_z v7))] [] st
def qX2_readRails_44 (J : sq_K) (g : sq_G) : Int → Int → Int → Int → Int → Int → Int → sq_S → Prop := fun v1 v2 v3 v4 v5 v6 v7 st => J 44 [(0, .ref (g.2.2 24)), (1, .int (sq_z v1)), (2, .int (sq_z v2)), (3, .int (sq_z v3)), (4, .int (sq_z v4)), (5, .int (sq_z v5)), (6, .int (sq_z v6)), (7, .int (sq_z v7))] [] st
set_option maxRecDepth 100000 in
set_option maxHeartbeats 4000000 in
theorem tX2_readRails_5 {l : Launch} {g : sq_G} {J : sq_K} {Q : Int → sq_S → Prop} (S : sq_J l rX2_readRails cX2_readRails 8 RX2 wsX2_readRails g sq_X J) (hret : ∀ (pc : Nat) (lv : List (Nat × Value)) (st' : sq_S), decode cX2_readRails pc = .ok (.return_, 1) → Q 0 st' → J pc lv [] st') (v1 v2 v3 v4 : Int) (st : sq_S) (H : bX2_readRails_5 (qX2_readRails_5 J g) (qX2_readRails_20 J g) (qX2_readRails_44 J g) Q v1 v2 v3 v4 st) : J 5 [(0, .ref (g.2.2 24)), (1, .int (sq_z v1)), (2, .int (sq_z v2)), (3, .int (sq_z v3)), (4, .int (sq_z v4))] [] st := by
  unfold bX2_readRails_5 at H
  refine sj_iload (pl := 4) S dX2_readRails_5 rfl ?_
  refine sj_iload_n (pl := 2) S dX2_readRails_7 rfl rfl ?_
  refine sj_icmp_gt (tgt := 79) S H.1 dX2_readRails_8 (by decide) (fun c9 => ?_) (fun c9 => ?_)
  · have H := H.2.1 c9
    exact hret _ _ _ dX2_readRails_79 H
  · have H := H.2.2 c9
    refine sj_iconst S dX2_readRails_11 ?_
    refine sj_istorea (lv' := [(0, .ref (g.2.2 24)), (1, .int (sq_z v1)), (2, .int (sq_z v2)), (3, .int (sq_z v3)), (4, .int (sq_z v4))]) S dX2_readRails_12 (by decide) (fun _ => rfl) ?_
    refine sj_iconst S dX2_readRails_14 ?_
    refine sj_istorea (lv' := [(5, .int (sq_z 0)), (0, .ref (g.2.2 24)), (1, .int (sq_z v1)), (2, .int (sq_z v2)), (3, .int (sq_z v3)), (4, .int (sq_z v4))]) S dX2_readRails_15 (by decide) (fun _ => rfl) ?_
    refine sj_iconst S dX2_readRails_17 ?_
    refine sj_istorea (lv' := [(6, .int (sq_z 1)), (5, .int (sq_z 0)), (0, .ref (g.2.2 24)), (1, .int (sq_z v1)), (2, .int (sq_z v2)), (3, .int (sq_z v3)), (4, .int (sq_z v4))]) S dX2_readRails_18 (by decide) (fun _ => rfl) ?_
    exact sj_lv S [3, 4, 5, 6, 7, 2, 1, 0] rfl H
set_option maxRecDepth 100000 in
set_option maxHeartbeats 4000000 in
theorem tX2_readRails_20 {l : Launch} {g : sq_G} {J : sq_K} {Q : Int → sq_S → Prop} (S : sq_J l rX2_readRails cX2_readRails 8 RX2 wsX2_readRails g sq_X J) (hret : ∀ (pc : Nat) (lv : List (Nat × Value)) (st' : sq_S), decode cX2_readRails pc = .ok (.return_, 1) → Q 0 st' → J pc lv [] st') (v1 v2 v3 v4 v5 v6 v7 : Int) (st : sq_S) (H : bX2_readRails_20 (qX2_readRails_5 J g) (qX2_readRails_20 J g) (qX2_readRails_44 J g) Q v1 v2 v3 v4 v5 v6 v7 st) : J 20 [(0, .ref (g.2.2 24)), (1, .int (sq_z v1)), (2, .int (sq_z v2)), (3, .int (sq_z v3)), (4, .int (sq_z v4)), (5, .int (sq_z v5)), (6, .int (sq_z v6)), (7, .int (sq_z v7))] [] st := by
  unfold bX2_readRails_20 at H
  refine sj_iload (pl := 7) S dX2_readRails_20 rfl ?_
  refine sj_iload_n (pl := 1) S dX2_readRails_22 rfl rfl ?_
  refine sj_icmp_ge (tgt := 73) S H.1 dX2_readRails_23 (by decide) (fun c9 => ?_) (fun c9 => ?_)
  · have H := H.2.1 c9
    refine sj_iinc (pl := 4) (lv' := [(0, .ref (g.2.2 24)), (1, .int (sq_z v1)), (2, .int (sq_z v2)), (3, .int (sq_z v3)), (5, .int (sq_z v5)), (6, .int (sq_z v6)), (7, .int (sq_z v7))]) S dX2_readRails_73 rfl (by decide) (fun _ => rfl) ?_
    refine sj_goto (tgt := 5) S dX2_readRails_76 (by decide) ?_
    exact sj_lv S [1, 2, 3, 4, 0] rfl H
  · have H := H.2.2 c9
    refine sj_iload (pl := 5) S dX2_readRails_26 rfl ?_
    refine sj_iload (pl := 4) S dX2_readRails_28 rfl ?_
    refine sj_icmp_ne (tgt := 44) S H.1 dX2_readRails_30 (by decide) (fun c9 => ?_) (fun c9 => ?_)
    · have H := H.2.1 c9
      exact sj_lv S [0, 1, 2, 3, 4, 5, 6, 7] rfl H
    · have H := H.2.2 c9
      refine sj_aload_n (pl := 0) S dX2_readRails_33 rfl rfl ?_
      refine sj_getr S fX_24_3 iX2_readRails_2 rfl (by decide) mX2_readRails_25 dX2_readRails_34 ?_
      refine sj_iload_n (pl := 3) S dX2_readRails_37 rfl rfl ?_
      refine sj_iload (pl := 7) S dX2_readRails_38 rfl ?_
      refine sj_iast S aX_30 H.1 dX2_readRails_40 (fun st117 est117 => ?_)
      have H := H.2 st117 est117
      refine sj_iinc (pl := 3) (lv' := [(0, .ref (g.2.2 24)), (1, .int (sq_z v1)), (2, .int (sq_z v2)), (4, .int (sq_z v4)), (5, .int (sq_z v5)), (6, .int (sq_z v6)), (7, .int (sq_z v7))]) S dX2_readRails_41 rfl (by decide) (fun _ => rfl) ?_
      exact sj_lv S [1, 2, 3, 0, 4, 5, 6, 7] rfl H
set_option maxRecDepth 100000 in
set_option maxHeartbeats 4000000 in
theorem tX2_readRails_44 {l : Launch} {g : sq_G} {J : sq_K} {Q : Int → sq_S → Prop} (S : sq_J l rX2_readRails cX2_readRails 8 RX2 wsX2_readRails g sq_X J) (hret : ∀ (pc : Nat) (lv : List (Nat × Value)) (st' : sq_S), decode cX2_readRails pc = .ok (.return_, 1) → Q 0 st' → J pc lv [] st') (v1 v2 v3 v4 v5 v6 v7 : Int) (st : sq_S) (H : bX2_readRails_44 (qX2_readRails_5 J g) (qX2_readRails_20 J g) (qX2_readRails_44 J g) Q v1 v2 v3 v4 v5 v6 v7 st) : J 44 [(0, .ref (g.2.2 24)), (1, .int (sq_z v1)), (2, .int (sq_z v2)), (3, .int (sq_z v3)), (4, .int (sq_z v4)), (5, .int (sq_z v5)), (6, .int (sq_z v6)), (7, .int (sq_z v7))] [] st := by
  unfold bX2_readRails_44 at H
  refine sj_iload (pl := 5) S dX2_readRails_44 rfl ?_
  refine sj_iload (pl := 6) S dX2_readRails_46 rfl ?_
  refine sj_iadd S dX2_readRails_48 ?_
  refine sj_istore (lv' := [(0, .ref (g.2.2 24)), (1, .int (sq_z v1)), (2, .int (sq_z v2)), (3, .int (sq_z v3)), (4, .int (sq_z v4)), (6, .int (sq_z v6)), (7, .int (sq_z v7))]) S dX2_readRails_49 (by decide) (fun _ => rfl) (fun y118 ey118 => ?_)
  have H := H y118 ey118
  refine sj_iload (pl := 0) S dX2_readRails_51 rfl ?_
  refine sj_if_eq (tgt := 62) S H.1 dX2_readRails_53 (by decide) (fun c9 => ?_) (fun c9 => ?_)
  · have H := H.2.1 c9
    refine sj_iload (pl := 6) S dX2_readRails_62 rfl ?_
    refine sj_ineg S dX2_readRails_64 ?_
    refine sj_istore (lv' := [(5, .int (sq_z y118)), (0, .ref (g.2.2 24)), (1, .int (sq_z v1)), (2, .int (sq_z v2)), (3, .int (sq_z v3)), (4, .int (sq_z v4)), (7, .int (sq_z v7))]) S dX2_readRails_65 (by decide) (fun _ => rfl) (fun y119 ey119 => ?_)
    have H := H y119 ey119
    refine sj_iinc (pl := 7) (lv' := [(6, .int (sq_z y119)), (5, .int (sq_z y118)), (0, .ref (g.2.2 24)), (1, .int (sq_z v1)), (2, .int (sq_z v2)), (3, .int (sq_z v3)), (4, .int (sq_z v4))]) S dX2_readRails_67 rfl (by decide) (fun _ => rfl) ?_
    refine sj_goto (tgt := 20) S dX2_readRails_70 (by decide) ?_
    exact sj_lv S [3, 4, 5, 6, 7, 2, 1, 0] rfl H
  · have H := H.2.2 c9
    refine sj_iload (pl := 0) S dX2_readRails_56 rfl ?_
    refine sj_iload_n (pl := 3) S dX2_readRails_58 rfl rfl ?_
    refine sj_icmp_ne (tgt := 67) S H.1 dX2_readRails_59 (by decide) (fun c9 => ?_) (fun c9 => ?_)
    · have H := H.2.1 c9
      refine sj_iinc (pl := 7) (lv' := [(5, .int (sq_z y118)), (0, .ref (g.2.2 24)), (1, .int (sq_z v1)), (2, .int (sq_z v2)), (3, .int (sq_z v3)), (4, .int (sq_z v4)), (6, .int (sq_z v6))]) S dX2_readRails_67 rfl (by decide) (fun _ => rfl) ?_
      refine sj_goto (tgt := 20) S dX2_readRails_70 (by decide) ?_
      exact sj_lv S [2, 3, 4, 5, 6, 1, 7, 0] rfl H
    · have H := H.2.2 c9
      refine sj_iload (pl := 6) S dX2_readRails_62 rfl ?_
      refine sj_ineg S dX2_readRails_64 ?_
      refine sj_istore (lv' := [(5, .int (sq_z y118)), (0, .ref (g.2.2 24)), (1, .int (sq_z v1)), (2, .int (sq_z v2)), (3, .int (sq_z v3)), (4, .int (sq_z v4)), (7, .int (sq_z v7))]) S dX2_readRails_65 (by decide) (fun _ => rfl) (fun y120 ey120 => ?_)
      have H := H y120 ey120
      refine sj_iinc (pl := 7) (lv' := [(6, .int (sq_z y120)), (5, .int (sq_z y118)), (0, .ref (g.2.2 24)), (1, .int (sq_z v1)), (2, .int (sq_z v2)), (3, .int (sq_z v3)), (4, .int (sq_z v4))]) S dX2_readRails_67 rfl (by decide) (fun _ => rfl) ?_
      refine sj_goto (tgt := 20) S dX2_readRails_70 (by decide) ?_
      exact sj_lv S [3, 4, 5, 6, 7, 2, 1, 0] rfl H
set_option maxRecDepth 100000 in
set_option maxHeartbeats 4000000 in
theorem tX2_readRails_0 {l : Launch} {g : sq_G} {J : sq_K} {Q : Int → sq_S → Prop} (S : sq_J l rX2_readRails cX2_readRails 8 RX2 wsX2_readRails g sq_X J) (hret : ∀ (pc : Nat) (lv : List (Nat × Value)) (st' : sq_S), decode cX2_readRails pc = .ok (.return_, 1) → Q 0 st' → J pc lv [] st') (v1 v2 : Int) (st : sq_S) (H : bX2_readRails_0 (qX2_readRails_5 J g) (qX2_readRails_20 J g) (qX2_readRails_44 J g) Q v1 v2 st) : J 0 [(0, .ref (g.2.2 24)), (1, .int (sq_z v1)), (2, .int (sq_z v2))] [] st := by
  unfold bX2_readRails_0 at H
  refine sj_iconst S dX2_readRails_0 ?_
  refine sj_istore_na (lv' := [(0, .ref (g.2.2 24)), (1, .int (sq_z v1)), (2, .int (sq_z v2))]) S dX2_readRails_1 rfl (by decide) (fun _ => rfl) ?_
  refine sj_iconst S dX2_readRails_2 ?_
  refine sj_istorea (lv' := [(3, .int (sq_z 0)), (0, .ref (g.2.2 24)), (1, .int (sq_z v1)), (2, .int (sq_z v2))]) S dX2_readRails_3 (by decide) (fun _ => rfl) ?_
  exact sj_lv S [2, 3, 4, 1, 0] rfl H
set_option maxRecDepth 100000 in
set_option maxHeartbeats 4000000 in
theorem kX2_readRails (l : Launch) (g : sq_G) (v1 v2 : Int) (st : sq_S) (Q : Int → sq_S → Prop) (H : wX2_readRails v1 v2 st Q) : sq_Cv l yX2_readRails wsX2_readRails rX2_readRails g sq_X [.ref (g.2.2 24), .int (sq_z v1), .int (sq_z v2)] st Q := by
  refine sq_in_v (cc := cX2_readRails) (nL := 8) (own := RX2) (by decide) rfl rfl (Nat.le_of_ble_eq_true rfl) ?_
  intro J S hret
  exact tX2_readRails_0 S hret v1 v2 st (H (qX2_readRails_5 J g) (qX2_readRails_20 J g) (qX2_readRails_44 J g) (tX2_readRails_5 S hret) (tX2_readRails_20 S hret) (tX2_readRails_44 S hret))
/-! rowPlace (IZ)I : X2_rowPlace -/
def wX2_rowPlace (v0 v1 : Int) (st : sq_S) (Q : Int → sq_S → Prop) : Prop :=
  sq_rg v1 ∧ (v1 = 0 → Q (2 * v0) st) ∧ (¬ v1 = 0 → Q v0 st)
def rX2_rowPlace : Room := { frames := 0, cells := 0, slots := 0, locals := 0 }
set_option maxRecDepth 100000 in
set_option maxHeartbeats 4000000 in
theorem tX2_rowPlace_0 {l : Launch} {g : sq_G} {J : sq_K} {Q : Int → sq_S → Prop} (S : sq_J l rX2_rowPlace cX2_rowPlace 2 RX2 wsX2_rowPlace g sq_X J) (hret : ∀ (pc : Nat) (lv : List (Nat × Value)) (r : Int) (st' : sq_S), decode cX2_rowPlace pc = .ok (.ireturn, 1) → Q r st' → J pc lv [.int (sq_z r)] st') (v0 v1 : Int) (st : sq_S) (H : wX2_rowPlace v0 v1 st Q) : J 0 [(0, .int (sq_z v0)), (1, .int (sq_z v1))] [] st := by
  unfold wX2_rowPlace at H
  refine sj_iload_n (pl := 1) S dX2_rowPlace_0 rfl rfl ?_
  refine sj_if_eq (tgt := 8) S H.1 dX2_rowPlace_1 (by decide) (fun c9 => ?_) (fun c9 => ?_)
  · have H := H.2.1 c9
    refine sj_iconst S dX2_rowPlace_8 ?_
    refine sj_iload_n (pl := 0) S dX2_rowPlace_9 rfl rfl ?_
    refine sj_imul S dX2_rowPlace_10 ?_
    exact hret _ _ _ _ dX2_rowPlace_11 H
  · have H := H.2.2 c9
    refine sj_iload_n (pl := 0) S dX2_rowPlace_4 rfl rfl ?_
    refine sj_goto (tgt := 11) S dX2_rowPlace_5 (by decide) ?_
    exact hret _ _ _ _ dX2_rowPlace_11 H
set_option maxRecDepth 100000 in
set_option maxHeartbeats 4000000 in
theorem kX2_rowPlace (l : Launch) (g : sq_G) (v0 v1 : Int) (st : sq_S) (Q : Int → sq_S → Prop) (H : wX2_rowPlace v0 v1 st Q) : sq_Ci l yX2_rowPlace wsX2_rowPlace rX2_rowPlace g sq_X [.int (sq_z v0), .int (sq_z v1)] st Q := by
  refine sq_in_i (cc := cX2_rowPlace) (nL := 2) (own := RX2) (by decide) rfl rfl (Nat.le_of_ble_eq_true rfl) ?_
  intro J S hret
  exact tX2_rowPlace_0 S hret v0 v1 st H
/-! columnPlace (IIZ)I : X2_columnPlace -/
def wX2_columnPlace (v0 v1 v2 : Int) (st : sq_S) (Q : Int → sq_S → Prop) : Prop :=
  sq_rg v2 ∧ (v2 = 0 → Q ((2 * v0) + 1) st) ∧ (¬ v2 = 0 → Q (v1 + v0) st)
def rX2_columnPlace : Room := { frames := 0, cells := 0, slots := 0, locals := 0 }
set_option maxRecDepth 100000 in
set_option maxHeartbeats 4000000 in
theorem tX2_columnPlace_0 {l : Launch} {g : sq_G} {J : sq_K} {Q : Int → sq_S → Prop} (S : sq_J l rX2_columnPlace cX2_columnPlace 3 RX2 wsX2_columnPlace g sq_X J) (hret : ∀ (pc : Nat) (lv : List (Nat × Value)) (r : Int) (st' : sq_S), decode cX2_columnPlace pc = .ok (.ireturn, 1) → Q r st' → J pc lv [.int (sq_z r)] st') (v0 v1 v2 : Int) (st : sq_S) (H : wX2_columnPlace v0 v1 v2 st Q) : J 0 [(0, .int (sq_z v0)), (1, .int (sq_z v1)), (2, .int (sq_z v2))] [] st := by
  unfold wX2_columnPlace at H
  refine sj_iload_n (pl := 2) S dX2_columnPlace_0 rfl rfl ?_
  refine sj_if_eq (tgt := 10) S H.1 dX2_columnPlace_1 (by decide) (fun c9 => ?_) (fun c9 => ?_)
  · have H := H.2.1 c9
    refine sj_iconst S dX2_columnPlace_10 ?_
    refine sj_iload_n (pl := 0) S dX2_columnPlace_11 rfl rfl ?_
    refine sj_imul S dX2_columnPlace_12 ?_
    refine sj_iconst S dX2_columnPlace_13 ?_
    refine sj_iadd S dX2_columnPlace_14 ?_
    exact hret _ _ _ _ dX2_columnPlace_15 H
  · have H := H.2.2 c9
    refine sj_iload_n (pl := 1) S dX2_columnPlace_4 rfl rfl ?_
    refine sj_iload_n (pl := 0) S dX2_columnPlace_5 rfl rfl ?_
    refine sj_iadd S dX2_columnPlace_6 ?_
    refine sj_goto (tgt := 15) S dX2_columnPlace_7 (by decide) ?_
    exact hret _ _ _ _ dX2_columnPlace_15 H
set_option maxRecDepth 100000 in
set_option maxHeartbeats 4000000 in
theorem kX2_columnPlace (l : Launch) (g : sq_G) (v0 v1 v2 : Int) (st : sq_S) (Q : Int → sq_S → Prop) (H : wX2_columnPlace v0 v1 v2 st Q) : sq_Ci l yX2_columnPlace wsX2_columnPlace rX2_columnPlace g sq_X [.int (sq_z v0), .int (sq_z v1), .int (sq_z v2)] st Q := by
  refine sq_in_i (cc := cX2_columnPlace) (nL := 3) (own := RX2) (by decide) rfl rfl (Nat.le_of_ble_eq_true rfl) ?_
  intro J S hret
  exact tX2_columnPlace_0 S hret v0 v1 v2 st H
/-! takeApart (LSecretSquares$Desk;Z)V : X2_takeApart -/
theorem iX2_takeApart_0 : ∀ w ∈ u_ws RX0 TX0 9, w ∈ wsX2_takeApart := fun _ h => List.mem_cons_of_mem _ (List.mem_append_left _ (List.mem_append_left _ (List.mem_append_right _ h)))
theorem iX2_takeApart_2 : ∀ w ∈ u_ws RX2 TX2 5, w ∈ wsX2_takeApart := fun _ h => List.mem_cons_of_mem _ (List.mem_append_left _ (List.mem_append_right _ h))
theorem mX2_takeApart_9 : Cond.fieldLink RX2 9 (TX2 0).1 (TX2 0).2.1 (TX2 0).2.2.1 ∈ wsX2_takeApart := List.mem_of_getElem? (i := 5) rfl
theorem mX2_takeApart_18 : Cond.fieldLink RX2 18 (TX2 1).1 (TX2 1).2.1 (TX2 1).2.2.1 ∈ wsX2_takeApart := List.mem_of_getElem? (i := 3) rfl
theorem mX2_takeApart_28 : Cond.fieldLink RX2 28 (TX2 4).1 (TX2 4).2.1 (TX2 4).2.2.1 ∈ wsX2_takeApart := List.mem_of_getElem? (i := 2) rfl
theorem mX2_takeApart_56 : Cond.fieldLink RX2 56 (TX0 1).1 (TX0 1).2.1 (TX0 1).2.2.1 ∈ wsX2_takeApart := List.mem_of_getElem? (i := 1) rfl
theorem mX2_takeApart_72 : Cond.fieldLink RX2 72 (TX0 0).1 (TX0 0).2.1 (TX0 0).2.2.1 ∈ wsX2_takeApart := List.mem_of_getElem? (i := 4) rfl
def bX2_takeApart_8 (K8 : Int → Int → Int → sq_S → Prop) (K74 : Int → Int → Int → sq_S → Prop) (K105 : Int → Int → Int → Int → Int → Int → sq_S → Prop) (Q : Int → sq_S → Prop) (v2 v3 v4 : Int) (st : sq_S) : Prop :=
  (sq_rg v4 ∧ sq_rg v3) ∧ (v3 ≤ v4 → K74 v2 v3 0 st) ∧ (v4 < v3 → wX2_rowPlace v4 v2 st (fun r125 st126 => sq_ib v4 48 ∧ (wX1_rowOf (st126 3 v4.toNat) st126 (fun r127 st128 => sq_ib r125 96 ∧ (∀ st129 : sq_S, st129 = sq_set st128 31 r125.toNat r127 → (wX2_columnPlace v4 v3 v2 st129 (fun r130 st131 => sq_ib v4 48 ∧ (wX1_columnOf (st131 3 v4.toNat) st131 (fun r132 st133 => sq_ib r130 96 ∧ (∀ st134 : sq_S, st134 = sq_set st133 31 r130.toNat r132 → (K8 v2 v3 (v4 + 1) st134)))))))))))
def bX2_takeApart_74 (K8 : Int → Int → Int → sq_S → Prop) (K74 : Int → Int → Int → sq_S → Prop) (K105 : Int → Int → Int → Int → Int → Int → sq_S → Prop) (Q : Int → sq_S → Prop) (v2 v3 v4 : Int) (st : sq_S) : Prop :=
  (sq_rg v4 ∧ sq_rg v3) ∧ (v3 ≤ v4 → Q 0 st) ∧ (v4 < v3 → sq_rg v2 ∧ (¬ v2 = 0 → K105 v2 v3 v4 0 v4 v4 st) ∧ (v2 = 0 → K105 v2 v3 v4 1 v4 v4 st))
def bX2_takeApart_105 (K8 : Int → Int → Int → sq_S → Prop) (K74 : Int → Int → Int → sq_S → Prop) (K105 : Int → Int → Int → Int → Int → Int → sq_S → Prop) (Q : Int → sq_S → Prop) (v2 v3 v4 s0 s1 s4 : Int) (st : sq_S) : Prop :=
  wX2_rowPlace s1 s0 st (fun r135 st136 => sq_ib r135 96 ∧ (sq_rg v2 ∧ (¬ v2 = 0 → wX2_columnPlace v4 v3 0 st136 (fun r137 st138 => sq_ib r137 96 ∧ (wX1_at (st136 31 r135.toNat) (st138 31 r137.toNat) st138 (fun r139 st140 => sq_ib s4 48 ∧ (∀ st141 : sq_S, st141 = sq_set st140 25 s4.toNat r139 → (K74 v2 v3 (v4 + 1) st141)))))) ∧ (v2 = 0 → wX2_columnPlace v4 v3 1 st136 (fun r142 st143 => sq_ib r142 96 ∧ (wX1_at (st136 31 r135.toNat) (st143 31 r142.toNat) st143 (fun r144 st145 => sq_ib s4 48 ∧ (∀ st146 : sq_S, st146 = sq_set st145 25 s4.toNat r144 → (K74 v2 v3 (v4 + 1) st146))))))))
def bX2_takeApart_0 (K8 : Int → Int → Int → sq_S → Prop) (K74 : Int → Int → Int → sq_S → Prop) (K105 : Int → Int → Int → Int → Int → Int → sq_S → Prop) (Q : Int → sq_S → Prop) (v2 : Int) (st : sq_S) : Prop :=
  ∀ y124 : Int, y124 = (st 2 1) → (K8 v2 y124 0 st)
def wX2_takeApart (v2 : Int) (st : sq_S) (Q : Int → sq_S → Prop) : Prop :=
  ∀ (K8 : Int → Int → Int → sq_S → Prop) (K74 : Int → Int → Int → sq_S → Prop) (K105 : Int → Int → Int → Int → Int → Int → sq_S → Prop), (∀ (v2 v3 v4 : Int) (st : sq_S), bX2_takeApart_8 K8 K74 K105 Q v2 v3 v4 st → K8 v2 v3 v4 st) → (∀ (v2 v3 v4 : Int) (st : sq_S), bX2_takeApart_74 K8 K74 K105 Q v2 v3 v4 st → K74 v2 v3 v4 st) → (∀ (v2 v3 v4 s0 s1 s4 : Int) (st : sq_S), bX2_takeApart_105 K8 K74 K105 Q v2 v3 v4 s0 s1 s4 st → K105 v2 v3 v4 s0 s1 s4 st) → bX2_takeApart_0 K8 K74 K105 Q v2 st
def rX2_takeApart : Room := { frames := 1, cells := 0, slots := 0, locals := 22 }
def qX2_takeApart_8 (J : sq_K) (g : sq_G) : Int → Int → Int → sq_S → Prop := fun v2 v3 v4 st => J 8 [(0, .ref (g.2.2 24)), (1, .ref (g.2.2 2)), (2, .int (sq_z v2)), (3, .int (sq_z v3)), (4, .int (sq_z v4))] [] st
def qX2_takeApart_74 (J : sq_K) (g : sq_G) : Int → Int → Int → sq_S → Prop := fun v2 v3 v4 st => J 74 [(0, .ref (g.2.2 24)), (2, .int (sq_z v2)), (3, .int (sq_z v3)), (4, .int (sq_z v4))] [] st
def qX2_takeApart_105 (J : sq_K) (g : sq_G) : Int → Int → Int → Int → Int → Int → sq_S → Prop := fun v2 v3 v4 s0 s1 s4 st => J 105 [(0, .ref (g.2.2 24)), (2, .int (sq_z v2)), (3, .int (sq_z v3)), (4, .int (sq_z v4))] [.int (sq_z s0), .int (sq_z s1), .ref (g.2.2 31), .ref (g.2.2 26), .int (sq_z s4), .ref (g.2.2 25)] st
set_option maxRecDepth 100000 in
set_option maxHeartbeats 4000000 in
theorem tX2_takeApart_8 {l : Launch} {g : sq_G} {J : sq_K} {Q : Int → sq_S → Prop} (S : sq_J l rX2_takeApart cX2_takeApart 5 RX2 wsX2_takeApart g sq_X J) (hret : ∀ (pc : Nat) (lv : List (Nat × Value)) (st' : sq_S), decode cX2_takeApart pc = .ok (.return_, 1) → Q 0 st' → J pc lv [] st') (v2 v3 v4 : Int) (st : sq_S) (H : bX2_takeApart_8 (qX2_takeApart_8 J g) (qX2_takeApart_74 J g) (qX2_takeApart_105 J g) Q v2 v3 v4 st) : J 8 [(0, .ref (g.2.2 24)), (1, .ref (g.2.2 2)), (2, .int (sq_z v2)), (3, .int (sq_z v3)), (4, .int (sq_z v4))] [] st := by
  unfold bX2_takeApart_8 at H
  refine sj_iload (pl := 4) S dX2_takeApart_8 rfl ?_
  refine sj_iload_n (pl := 3) S dX2_takeApart_10 rfl rfl ?_
  refine sj_icmp_ge (tgt := 71) S H.1 dX2_takeApart_11 (by decide) (fun c9 => ?_) (fun c9 => ?_)
  · have H := H.2.1 c9
    refine sj_iconst S dX2_takeApart_71 ?_
    refine sj_istorea (lv' := [(0, .ref (g.2.2 24)), (1, .ref (g.2.2 2)), (2, .int (sq_z v2)), (3, .int (sq_z v3))]) S dX2_takeApart_72 (by decide) (fun _ => rfl) ?_
    exact sj_lv S [1, 3, 4, 0] rfl H
  · have H := H.2.2 c9
    refine sj_aload_n (pl := 0) S dX2_takeApart_14 rfl rfl ?_
    refine sj_getr S fX_24_4 iX2_takeApart_2 rfl (by decide) mX2_takeApart_28 dX2_takeApart_15 ?_
    refine sj_iload (pl := 4) S dX2_takeApart_18 rfl ?_
    refine sj_iload_n (pl := 2) S dX2_takeApart_20 rfl rfl ?_
    refine sj_si (rest := [.ref (g.2.2 31)]) S (kX2_rowPlace l g v4 v2 st _ H) (fun s args hts => va_cwS 2 hts gX2_takeApart_X2_rowPlace rfl rfl rfl (by decide +kernel) ⟨Nat.le_of_ble_eq_true rfl, Nat.le_of_ble_eq_true rfl⟩) rfl rfl (Nat.le_of_ble_eq_true rfl) dX2_takeApart_21 (fun r125 st126 H => ?_)
    refine sj_aload_n (pl := 0) S dX2_takeApart_24 rfl rfl ?_
    refine sj_getr S fX_24_1 iX2_takeApart_2 rfl (by decide) mX2_takeApart_18 dX2_takeApart_25 ?_
    refine sj_aload_n (pl := 1) S dX2_takeApart_28 rfl rfl ?_
    refine sj_getr S fX_2_0 iX2_takeApart_0 rfl (by decide) mX2_takeApart_72 dX2_takeApart_29 ?_
    refine sj_iload (pl := 4) S dX2_takeApart_32 rfl ?_
    refine sj_iald S aX_3 H.1 dX2_takeApart_34 ?_
    have H := H.2
    refine sj_vi (rest := [.int (sq_z r125), .ref (g.2.2 31)]) (q0 := 26) (ci := 1) S (kX1_rowOf l g (st126 3 v4.toNat) st126 _ H) (fun s args hts => cwV 1 hts gX2_takeApart_X1_rowOf rfl rfl rfl (by decide +kernel) ⟨Nat.le_of_ble_eq_true rfl, Nat.le_of_ble_eq_true rfl⟩) rfl rfl rfl rfl (Nat.le_of_ble_eq_true rfl) dX2_takeApart_35 (fun r127 st128 H => ?_)
    refine sj_iast S aX_31 H.1 dX2_takeApart_38 (fun st129 est129 => ?_)
    have H := H.2 st129 est129
    refine sj_aload_n (pl := 0) S dX2_takeApart_39 rfl rfl ?_
    refine sj_getr S fX_24_4 iX2_takeApart_2 rfl (by decide) mX2_takeApart_28 dX2_takeApart_40 ?_
    refine sj_iload (pl := 4) S dX2_takeApart_43 rfl ?_
    refine sj_iload_n (pl := 3) S dX2_takeApart_45 rfl rfl ?_
    refine sj_iload_n (pl := 2) S dX2_takeApart_46 rfl rfl ?_
    refine sj_si (rest := [.ref (g.2.2 31)]) S (kX2_columnPlace l g v4 v3 v2 st129 _ H) (fun s args hts => va_cwS 3 hts gX2_takeApart_X2_columnPlace rfl rfl rfl (by decide +kernel) ⟨Nat.le_of_ble_eq_true rfl, Nat.le_of_ble_eq_true rfl⟩) rfl rfl (Nat.le_of_ble_eq_true rfl) dX2_takeApart_47 (fun r130 st131 H => ?_)
    refine sj_aload_n (pl := 0) S dX2_takeApart_50 rfl rfl ?_
    refine sj_getr S fX_24_1 iX2_takeApart_2 rfl (by decide) mX2_takeApart_18 dX2_takeApart_51 ?_
    refine sj_aload_n (pl := 1) S dX2_takeApart_54 rfl rfl ?_
    refine sj_getr S fX_2_0 iX2_takeApart_0 rfl (by decide) mX2_takeApart_72 dX2_takeApart_55 ?_
    refine sj_iload (pl := 4) S dX2_takeApart_58 rfl ?_
    refine sj_iald S aX_3 H.1 dX2_takeApart_60 ?_
    have H := H.2
    refine sj_vi (rest := [.int (sq_z r130), .ref (g.2.2 31)]) (q0 := 26) (ci := 1) S (kX1_columnOf l g (st131 3 v4.toNat) st131 _ H) (fun s args hts => cwV 1 hts gX2_takeApart_X1_columnOf rfl rfl rfl (by decide +kernel) ⟨Nat.le_of_ble_eq_true rfl, Nat.le_of_ble_eq_true rfl⟩) rfl rfl rfl rfl (Nat.le_of_ble_eq_true rfl) dX2_takeApart_61 (fun r132 st133 H => ?_)
    refine sj_iast S aX_31 H.1 dX2_takeApart_64 (fun st134 est134 => ?_)
    have H := H.2 st134 est134
    refine sj_iinc (pl := 4) (lv' := [(0, .ref (g.2.2 24)), (1, .ref (g.2.2 2)), (2, .int (sq_z v2)), (3, .int (sq_z v3))]) S dX2_takeApart_65 rfl (by decide) (fun _ => rfl) ?_
    refine sj_goto (tgt := 8) S dX2_takeApart_68 (by decide) ?_
    exact sj_lv S [1, 2, 3, 4, 0] rfl H
set_option maxRecDepth 100000 in
set_option maxHeartbeats 4000000 in
theorem tX2_takeApart_74 {l : Launch} {g : sq_G} {J : sq_K} {Q : Int → sq_S → Prop} (S : sq_J l rX2_takeApart cX2_takeApart 5 RX2 wsX2_takeApart g sq_X J) (hret : ∀ (pc : Nat) (lv : List (Nat × Value)) (st' : sq_S), decode cX2_takeApart pc = .ok (.return_, 1) → Q 0 st' → J pc lv [] st') (v2 v3 v4 : Int) (st : sq_S) (H : bX2_takeApart_74 (qX2_takeApart_8 J g) (qX2_takeApart_74 J g) (qX2_takeApart_105 J g) Q v2 v3 v4 st) : J 74 [(0, .ref (g.2.2 24)), (2, .int (sq_z v2)), (3, .int (sq_z v3)), (4, .int (sq_z v4))] [] st := by
  unfold bX2_takeApart_74 at H
  refine sj_iload (pl := 3) S dX2_takeApart_74 rfl ?_
  refine sj_iload_n (pl := 2) S dX2_takeApart_76 rfl rfl ?_
  refine sj_icmp_ge (tgt := 139) S H.1 dX2_takeApart_77 (by decide) (fun c9 => ?_) (fun c9 => ?_)
  · have H := H.2.1 c9
    exact hret _ _ _ dX2_takeApart_139 H
  · have H := H.2.2 c9
    refine sj_aload_n (pl := 0) S dX2_takeApart_80 rfl rfl ?_
    refine sj_getr S fX_24_0 iX2_takeApart_2 rfl (by decide) mX2_takeApart_9 dX2_takeApart_81 ?_
    refine sj_iload (pl := 3) S dX2_takeApart_84 rfl ?_
    refine sj_aload_n (pl := 0) S dX2_takeApart_86 rfl rfl ?_
    refine sj_getr S fX_24_1 iX2_takeApart_2 rfl (by decide) mX2_takeApart_18 dX2_takeApart_87 ?_
    refine sj_aload_n (pl := 0) S dX2_takeApart_90 rfl rfl ?_
    refine sj_getr S fX_24_4 iX2_takeApart_2 rfl (by decide) mX2_takeApart_28 dX2_takeApart_91 ?_
    refine sj_iload (pl := 3) S dX2_takeApart_94 rfl ?_
    refine sj_iload_n (pl := 1) S dX2_takeApart_96 rfl rfl ?_
    refine sj_if_ne (tgt := 104) S H.1 dX2_takeApart_97 (by decide) (fun c9 => ?_) (fun c9 => ?_)
    · have H := H.2.1 c9
      refine sj_iconst S dX2_takeApart_104 ?_
      exact sj_lv S [0, 1, 2, 3] rfl H
    · have H := H.2.2 c9
      refine sj_iconst S dX2_takeApart_100 ?_
      refine sj_goto (tgt := 105) S dX2_takeApart_101 (by decide) ?_
      exact sj_lv S [0, 1, 2, 3] rfl H
set_option maxRecDepth 100000 in
set_option maxHeartbeats 4000000 in
theorem tX2_takeApart_105 {l : Launch} {g : sq_G} {J : sq_K} {Q : Int → sq_S → Prop} (S : sq_J l rX2_takeApart cX2_takeApart 5 RX2 wsX2_takeApart g sq_X J) (hret : ∀ (pc : Nat) (lv : List (Nat × Value)) (st' : sq_S), decode cX2_takeApart pc = .ok (.return_, 1) → Q 0 st' → J pc lv [] st') (v2 v3 v4 s0 s1 s4 : Int) (st : sq_S) (H : bX2_takeApart_105 (qX2_takeApart_8 J g) (qX2_takeApart_74 J g) (qX2_takeApart_105 J g) Q v2 v3 v4 s0 s1 s4 st) : J 105 [(0, .ref (g.2.2 24)), (2, .int (sq_z v2)), (3, .int (sq_z v3)), (4, .int (sq_z v4))] [.int (sq_z s0), .int (sq_z s1), .ref (g.2.2 31), .ref (g.2.2 26), .int (sq_z s4), .ref (g.2.2 25)] st := by
  unfold bX2_takeApart_105 at H
  refine sj_si (rest := [.ref (g.2.2 31), .ref (g.2.2 26), .int (sq_z s4), .ref (g.2.2 25)]) S (kX2_rowPlace l g s1 s0 st _ H) (fun s args hts => va_cwS 2 hts gX2_takeApart_X2_rowPlace rfl rfl rfl (by decide +kernel) ⟨Nat.le_of_ble_eq_true rfl, Nat.le_of_ble_eq_true rfl⟩) rfl rfl (Nat.le_of_ble_eq_true rfl) dX2_takeApart_105 (fun r135 st136 H => ?_)
  refine sj_iald S aX_31 H.1 dX2_takeApart_108 ?_
  have H := H.2
  refine sj_aload_n (pl := 0) S dX2_takeApart_109 rfl rfl ?_
  refine sj_getr S fX_24_4 iX2_takeApart_2 rfl (by decide) mX2_takeApart_28 dX2_takeApart_110 ?_
  refine sj_iload (pl := 3) S dX2_takeApart_113 rfl ?_
  refine sj_iload_n (pl := 2) S dX2_takeApart_115 rfl rfl ?_
  refine sj_iload_n (pl := 1) S dX2_takeApart_116 rfl rfl ?_
  refine sj_if_ne (tgt := 124) S H.1 dX2_takeApart_117 (by decide) (fun c9 => ?_) (fun c9 => ?_)
  · have H := H.2.1 c9
    refine sj_iconst S dX2_takeApart_124 ?_
    refine sj_si (rest := [.ref (g.2.2 31), .int (sq_z (st136 31 r135.toNat)), .ref (g.2.2 26), .int (sq_z s4), .ref (g.2.2 25)]) S (kX2_columnPlace l g v4 v3 0 st136 _ H) (fun s args hts => va_cwS 3 hts gX2_takeApart_X2_columnPlace rfl rfl rfl (by decide +kernel) ⟨Nat.le_of_ble_eq_true rfl, Nat.le_of_ble_eq_true rfl⟩) rfl rfl (Nat.le_of_ble_eq_true rfl) dX2_takeApart_125 (fun r137 st138 H => ?_)
    refine sj_iald S aX_31 H.1 dX2_takeApart_128 ?_
    have H := H.2
    refine sj_vi (rest := [.int (sq_z s4), .ref (g.2.2 25)]) (q0 := 26) (ci := 1) S (kX1_at l g (st136 31 r135.toNat) (st138 31 r137.toNat) st138 _ H) (fun s args hts => cwV 2 hts gX2_takeApart_X1_at rfl rfl rfl (by decide +kernel) ⟨Nat.le_of_ble_eq_true rfl, Nat.le_of_ble_eq_true rfl⟩) rfl rfl rfl rfl (Nat.le_of_ble_eq_true rfl) dX2_takeApart_129 (fun r139 st140 H => ?_)
    refine sj_iast S aX_25 H.1 dX2_takeApart_132 (fun st141 est141 => ?_)
    have H := H.2 st141 est141
    refine sj_iinc (pl := 3) (lv' := [(0, .ref (g.2.2 24)), (2, .int (sq_z v2)), (3, .int (sq_z v3))]) S dX2_takeApart_133 rfl (by decide) (fun _ => rfl) ?_
    refine sj_goto (tgt := 74) S dX2_takeApart_136 (by decide) ?_
    exact sj_lv S [1, 2, 3, 0] rfl H
  · have H := H.2.2 c9
    refine sj_iconst S dX2_takeApart_120 ?_
    refine sj_goto (tgt := 125) S dX2_takeApart_121 (by decide) ?_
    refine sj_si (rest := [.ref (g.2.2 31), .int (sq_z (st136 31 r135.toNat)), .ref (g.2.2 26), .int (sq_z s4), .ref (g.2.2 25)]) S (kX2_columnPlace l g v4 v3 1 st136 _ H) (fun s args hts => va_cwS 3 hts gX2_takeApart_X2_columnPlace rfl rfl rfl (by decide +kernel) ⟨Nat.le_of_ble_eq_true rfl, Nat.le_of_ble_eq_true rfl⟩) rfl rfl (Nat.le_of_ble_eq_true rfl) dX2_takeApart_125 (fun r142 st143 H => ?_)
    refine sj_iald S aX_31 H.1 dX2_takeApart_128 ?_
    have H := H.2
    refine sj_vi (rest := [.int (sq_z s4), .ref (g.2.2 25)]) (q0 := 26) (ci := 1) S (kX1_at l g (st136 31 r135.toNat) (st143 31 r142.toNat) st143 _ H) (fun s args hts => cwV 2 hts gX2_takeApart_X1_at rfl rfl rfl (by decide +kernel) ⟨Nat.le_of_ble_eq_true rfl, Nat.le_of_ble_eq_true rfl⟩) rfl rfl rfl rfl (Nat.le_of_ble_eq_true rfl) dX2_takeApart_129 (fun r144 st145 H => ?_)
    refine sj_iast S aX_25 H.1 dX2_takeApart_132 (fun st146 est146 => ?_)
    have H := H.2 st146 est146
    refine sj_iinc (pl := 3) (lv' := [(0, .ref (g.2.2 24)), (2, .int (sq_z v2)), (3, .int (sq_z v3))]) S dX2_takeApart_133 rfl (by decide) (fun _ => rfl) ?_
    refine sj_goto (tgt := 74) S dX2_takeApart_136 (by decide) ?_
    exact sj_lv S [1, 2, 3, 0] rfl H
set_option maxRecDepth 100000 in
set_option maxHeartbeats 4000000 in
theorem tX2_takeApart_0 {l : Launch} {g : sq_G} {J : sq_K} {Q : Int → sq_S → Prop} (S : sq_J l rX2_takeApart cX2_takeApart 5 RX2 wsX2_takeApart g sq_X J) (hret : ∀ (pc : Nat) (lv : List (Nat × Value)) (st' : sq_S), decode cX2_takeApart pc = .ok (.return_, 1) → Q 0 st' → J pc lv [] st') (v2 : Int) (st : sq_S) (H : bX2_takeApart_0 (qX2_takeApart_8 J g) (qX2_takeApart_74 J g) (qX2_takeApart_105 J g) Q v2 st) : J 0 [(0, .ref (g.2.2 24)), (1, .ref (g.2.2 2)), (2, .int (sq_z v2))] [] st := by
  unfold bX2_takeApart_0 at H
  refine sj_aload_n (pl := 1) S dX2_takeApart_0 rfl rfl ?_
  refine sj_geti S fX_2_1 iX2_takeApart_0 rfl (by decide) mX2_takeApart_56 dX2_takeApart_1 ?_
  refine sj_istore_n (lv' := [(0, .ref (g.2.2 24)), (1, .ref (g.2.2 2)), (2, .int (sq_z v2))]) S dX2_takeApart_4 rfl (by decide) (fun _ => rfl) (fun y124 ey124 => ?_)
  have H := H y124 ey124
  refine sj_iconst S dX2_takeApart_5 ?_
  refine sj_istorea (lv' := [(3, .int (sq_z y124)), (0, .ref (g.2.2 24)), (1, .ref (g.2.2 2)), (2, .int (sq_z v2))]) S dX2_takeApart_6 (by decide) (fun _ => rfl) ?_
  exact sj_lv S [2, 3, 4, 1, 0] rfl H
set_option maxRecDepth 100000 in
set_option maxHeartbeats 4000000 in
theorem kX2_takeApart (l : Launch) (g : sq_G) (v2 : Int) (st : sq_S) (Q : Int → sq_S → Prop) (H : wX2_takeApart v2 st Q) : sq_Cv l yX2_takeApart wsX2_takeApart rX2_takeApart g sq_X [.ref (g.2.2 24), .ref (g.2.2 2), .int (sq_z v2)] st Q := by
  refine sq_in_v (cc := cX2_takeApart) (nL := 5) (own := RX2) (by decide) rfl rfl (Nat.le_of_ble_eq_true rfl) ?_
  intro J S hret
  exact tX2_takeApart_0 S hret v2 st (H (qX2_takeApart_8 J g) (qX2_takeApart_74 J g) (qX2_takeApart_105 J g) (tX2_takeApart_8 S hret) (tX2_takeApart_74 S hret) (tX2_takeApart_105 S hret))
/-! work (LSecretSquares$Desk;IZ)V : X2_work -/
theorem iX2_work_0 : ∀ w ∈ u_ws RX0 TX0 9, w ∈ wsX2_work := fun _ h => List.mem_cons_of_mem _ (List.mem_append_left _ (List.mem_append_left _ (List.mem_append_right _ h)))
theorem iX2_work_2 : ∀ w ∈ u_ws RX2 TX2 5, w ∈ wsX2_work := fun _ h => List.mem_cons_of_mem _ (List.mem_append_left _ (List.mem_append_right _ h))
theorem mX2_work_18 : Cond.fieldLink RX2 18 (TX2 1).1 (TX2 1).2.1 (TX2 1).2.2.1 ∈ wsX2_work := List.mem_of_getElem? (i := 2) rfl
theorem mX2_work_35 : Cond.fieldLink RX2 35 (TX0 3).1 (TX0 3).2.1 (TX0 3).2.2.1 ∈ wsX2_work := List.mem_of_getElem? (i := 1) rfl
theorem mX2_work_41 : Cond.fieldLink RX2 41 (TX0 2).1 (TX0 2).2.1 (TX0 2).2.2.1 ∈ wsX2_work := List.mem_of_getElem? (i := 3) rfl
theorem mX2_work_56 : Cond.fieldLink RX2 56 (TX0 1).1 (TX0 1).2.1 (TX0 1).2.2.1 ∈ wsX2_work := List.mem_of_getElem? (i := 4) rfl
def wX2_work (v2 v3 : Int) (st : sq_S) (Q : Int → sq_S → Prop) : Prop :=
  sq_rg v2 ∧ (v2 = 0 → wX2_addKey 1 v3 st (fun _ st78 => Q 0 st78)) ∧ (v2 = 1 → wX2_addKey (st 2 3) v3 st (fun _ st79 => Q 0 st79)) ∧ (v2 = 2 → wX1_layOut (st 2 3) st (fun _ st80 => wX2_changePairs v3 st80 (fun _ st107 => Q 0 st107))) ∧ (v2 = 3 → wX2_orderByKey st (fun _ st109 => wX2_readColumns (st109 2 1) (st109 2 3) st109 (fun _ st113 => wX2_putInPlace v3 st113 (fun _ st116 => Q 0 st116)))) ∧ (v2 = 4 → wX2_readRails (st 2 1) (st 2 3) st (fun _ st121 => wX2_putInPlace v3 st121 (fun _ st122 => Q 0 st122))) ∧ ((v2 < 0 ∨ 4 < v2) → wX1_layOut (st 2 3) st (fun _ st123 => wX2_takeApart v3 st123 (fun _ st147 => Q 0 st147)))
def rX2_work : Room := { frames := 3, cells := 0, slots := 0, locals := 73 }
set_option maxRecDepth 100000 in
set_option maxHeartbeats 4000000 in
theorem tX2_work_0 {l : Launch} {g : sq_G} {J : sq_K} {Q : Int → sq_S → Prop} (S : sq_J l rX2_work cX2_work 4 RX2 wsX2_work g sq_X J) (hret : ∀ (pc : Nat) (lv : List (Nat × Value)) (st' : sq_S), decode cX2_work pc = .ok (.return_, 1) → Q 0 st' → J pc lv [] st') (v2 v3 : Int) (st : sq_S) (H : wX2_work v2 v3 st Q) : J 0 [(0, .ref (g.2.2 24)), (1, .ref (g.2.2 2)), (2, .int (sq_z v2)), (3, .int (sq_z v3))] [] st := by
  unfold wX2_work at H
  refine sj_iload_n (pl := 2) S dX2_work_0 rfl rfl ?_
  by_cases c0 : v2 = 0
  · refine sj_tab (v := 0) (tgt := 36) S (by decide) c0 dX2_work_1 (by decide) (by decide) rfl (by decide) ?_
    have H := H.2.1 c0
    refine sj_aload_n (pl := 0) S dX2_work_36 rfl rfl ?_
    refine sj_aload_n (pl := 1) S dX2_work_37 rfl rfl ?_
    refine sj_iconst S dX2_work_38 ?_
    refine sj_iload_n (pl := 3) S dX2_work_39 rfl rfl ?_
    refine sj_vv (rest := []) (q0 := 24) (ci := 2) S (kX2_addKey l g 1 v3 st _ H) (fun s args hts => cwV 3 hts gX2_work_X2_addKey rfl rfl rfl (by decide +kernel) ⟨Nat.le_of_ble_eq_true rfl, Nat.le_of_ble_eq_true rfl⟩) rfl rfl rfl rfl (Nat.le_of_ble_eq_true rfl) dX2_work_40 (fun st78 H => ?_)
    refine sj_goto (tgt := 151) S dX2_work_43 (by decide) ?_
    exact hret _ _ _ dX2_work_151 H
  by_cases c1 : v2 = 1
  · refine sj_tab (v := 1) (tgt := 46) S (by decide) c1 dX2_work_1 (by decide) (by decide) rfl (by decide) ?_
    have H := H.2.2.1 c1
    refine sj_aload_n (pl := 0) S dX2_work_46 rfl rfl ?_
    refine sj_aload_n (pl := 1) S dX2_work_47 rfl rfl ?_
    refine sj_aload_n (pl := 1) S dX2_work_48 rfl rfl ?_
    refine sj_geti S fX_2_3 iX2_work_0 rfl (by decide) mX2_work_35 dX2_work_49 ?_
    refine sj_iload_n (pl := 3) S dX2_work_52 rfl rfl ?_
    refine sj_vv (rest := []) (q0 := 24) (ci := 2) S (kX2_addKey l g (st 2 3) v3 st _ H) (fun s args hts => cwV 3 hts gX2_work_X2_addKey rfl rfl rfl (by decide +kernel) ⟨Nat.le_of_ble_eq_true rfl, Nat.le_of_ble_eq_true rfl⟩) rfl rfl rfl rfl (Nat.le_of_ble_eq_true rfl) dX2_work_53 (fun st79 H => ?_)
    refine sj_goto (tgt := 151) S dX2_work_56 (by decide) ?_
    exact hret _ _ _ dX2_work_151 H
  by_cases c2 : v2 = 2
  · refine sj_tab (v := 2) (tgt := 59) S (by decide) c2 dX2_work_1 (by decide) (by decide) rfl (by decide) ?_
    have H := H.2.2.2.1 c2
    refine sj_aload_n (pl := 0) S dX2_work_59 rfl rfl ?_
    refine sj_getr S fX_24_1 iX2_work_2 rfl (by decide) mX2_work_18 dX2_work_60 ?_
    refine sj_aload_n (pl := 1) S dX2_work_63 rfl rfl ?_
    refine sj_getr S fX_2_2 iX2_work_0 rfl (by decide) mX2_work_41 dX2_work_64 ?_
    refine sj_aload_n (pl := 1) S dX2_work_67 rfl rfl ?_
    refine sj_geti S fX_2_3 iX2_work_0 rfl (by decide) mX2_work_35 dX2_work_68 ?_
    refine sj_vv (rest := []) (q0 := 26) (ci := 1) S (kX1_layOut l g (st 2 3) st _ H) (fun s args hts => cwV 2 hts gX2_work_X1_layOut rfl rfl rfl (by decide +kernel) ⟨Nat.le_of_ble_eq_true rfl, Nat.le_of_ble_eq_true rfl⟩) rfl rfl rfl rfl (Nat.le_of_ble_eq_true rfl) dX2_work_71 (fun st80 H => ?_)
    refine sj_aload_n (pl := 0) S dX2_work_74 rfl rfl ?_
    refine sj_aload_n (pl := 1) S dX2_work_75 rfl rfl ?_
    refine sj_iload_n (pl := 3) S dX2_work_76 rfl rfl ?_
    refine sj_vv (rest := []) (q0 := 24) (ci := 2) S (kX2_changePairs l g v3 st80 _ H) (fun s args hts => cwV 2 hts gX2_work_X2_changePairs rfl rfl rfl (by decide +kernel) ⟨Nat.le_of_ble_eq_true rfl, Nat.le_of_ble_eq_true rfl⟩) rfl rfl rfl rfl (Nat.le_of_ble_eq_true rfl) dX2_work_77 (fun st107 H => ?_)
    refine sj_goto (tgt := 151) S dX2_work_80 (by decide) ?_
    exact hret _ _ _ dX2_work_151 H
  by_cases c3 : v2 = 3
  · refine sj_tab (v := 3) (tgt := 83) S (by decide) c3 dX2_work_1 (by decide) (by decide) rfl (by decide) ?_
    have H := H.2.2.2.2.1 c3
    refine sj_aload_n (pl := 0) S dX2_work_83 rfl rfl ?_
    refine sj_aload_n (pl := 1) S dX2_work_84 rfl rfl ?_
    refine sj_vv (rest := []) (q0 := 24) (ci := 2) S (kX2_orderByKey l g st _ H) (fun s args hts => cwV 1 hts gX2_work_X2_orderByKey rfl rfl rfl (by decide +kernel) ⟨Nat.le_of_ble_eq_true rfl, Nat.le_of_ble_eq_true rfl⟩) rfl rfl rfl rfl (Nat.le_of_ble_eq_true rfl) dX2_work_85 (fun st109 H => ?_)
    refine sj_aload_n (pl := 0) S dX2_work_88 rfl rfl ?_
    refine sj_aload_n (pl := 1) S dX2_work_89 rfl rfl ?_
    refine sj_geti S fX_2_1 iX2_work_0 rfl (by decide) mX2_work_56 dX2_work_90 ?_
    refine sj_aload_n (pl := 1) S dX2_work_93 rfl rfl ?_
    refine sj_geti S fX_2_3 iX2_work_0 rfl (by decide) mX2_work_35 dX2_work_94 ?_
    refine sj_vv (rest := []) (q0 := 24) (ci := 2) S (kX2_readColumns l g (st109 2 1) (st109 2 3) st109 _ H) (fun s args hts => cwV 2 hts gX2_work_X2_readColumns rfl rfl rfl (by decide +kernel) ⟨Nat.le_of_ble_eq_true rfl, Nat.le_of_ble_eq_true rfl⟩) rfl rfl rfl rfl (Nat.le_of_ble_eq_true rfl) dX2_work_97 (fun st113 H => ?_)
    refine sj_aload_n (pl := 0) S dX2_work_100 rfl rfl ?_
    refine sj_aload_n (pl := 1) S dX2_work_101 rfl rfl ?_
    refine sj_iload_n (pl := 3) S dX2_work_102 rfl rfl ?_
    refine sj_vv (rest := []) (q0 := 24) (ci := 2) S (kX2_putInPlace l g v3 st113 _ H) (fun s args hts => cwV 2 hts gX2_work_X2_putInPlace rfl rfl rfl (by decide +kernel) ⟨Nat.le_of_ble_eq_true rfl, Nat.le_of_ble_eq_true rfl⟩) rfl rfl rfl rfl (Nat.le_of_ble_eq_true rfl) dX2_work_103 (fun st116 H => ?_)
    refine sj_goto (tgt := 151) S dX2_work_106 (by decide) ?_
    exact hret _ _ _ dX2_work_151 H
  by_cases c4 : v2 = 4
  · refine sj_tab (v := 4) (tgt := 109) S (by decide) c4 dX2_work_1 (by decide) (by decide) rfl (by decide) ?_
    have H := H.2.2.2.2.2.1 c4
    refine sj_aload_n (pl := 0) S dX2_work_109 rfl rfl ?_
    refine sj_aload_n (pl := 1) S dX2_work_110 rfl rfl ?_
    refine sj_geti S fX_2_1 iX2_work_0 rfl (by decide) mX2_work_56 dX2_work_111 ?_
    refine sj_aload_n (pl := 1) S dX2_work_114 rfl rfl ?_
    refine sj_geti S fX_2_3 iX2_work_0 rfl (by decide) mX2_work_35 dX2_work_115 ?_
    refine sj_vv (rest := []) (q0 := 24) (ci := 2) S (kX2_readRails l g (st 2 1) (st 2 3) st _ H) (fun s args hts => cwV 2 hts gX2_work_X2_readRails rfl rfl rfl (by decide +kernel) ⟨Nat.le_of_ble_eq_true rfl, Nat.le_of_ble_eq_true rfl⟩) rfl rfl rfl rfl (Nat.le_of_ble_eq_true rfl) dX2_work_118 (fun st121 H => ?_)
    refine sj_aload_n (pl := 0) S dX2_work_121 rfl rfl ?_
    refine sj_aload_n (pl := 1) S dX2_work_122 rfl rfl ?_
    refine sj_iload_n (pl := 3) S dX2_work_123 rfl rfl ?_
    refine sj_vv (rest := []) (q0 := 24) (ci := 2) S (kX2_putInPlace l g v3 st121 _ H) (fun s args hts => cwV 2 hts gX2_work_X2_putInPlace rfl rfl rfl (by decide +kernel) ⟨Nat.le_of_ble_eq_true rfl, Nat.le_of_ble_eq_true rfl⟩) rfl rfl rfl rfl (Nat.le_of_ble_eq_true rfl) dX2_work_124 (fun st122 H => ?_)
    refine sj_goto (tgt := 151) S dX2_work_127 (by decide) ?_
    exact hret _ _ _ dX2_work_151 H
  have cd : v2 < 0 ∨ 4 < v2 := by omega
  refine sj_tabd (tgt := 130) S H.1 cd dX2_work_1 (by decide) ?_
  have H := H.2.2.2.2.2.2 cd
  refine sj_aload_n (pl := 0) S dX2_work_130 rfl rfl ?_
  refine sj_getr S fX_24_1 iX2_work_2 rfl (by decide) mX2_work_18 dX2_work_131 ?_
  refine sj_aload_n (pl := 1) S dX2_work_134 rfl rfl ?_
  refine sj_getr S fX_2_2 iX2_work_0 rfl (by decide) mX2_work_41 dX2_work_135 ?_
  refine sj_aload_n (pl := 1) S dX2_work_138 rfl rfl ?_
  refine sj_geti S fX_2_3 iX2_work_0 rfl (by decide) mX2_work_35 dX2_work_139 ?_
  refine sj_vv (rest := []) (q0 := 26) (ci := 1) S (kX1_layOut l g (st 2 3) st _ H) (fun s args hts => cwV 2 hts gX2_work_X1_layOut rfl rfl rfl (by decide +kernel) ⟨Nat.le_of_ble_eq_true rfl, Nat.le_of_ble_eq_true rfl⟩) rfl rfl rfl rfl (Nat.le_of_ble_eq_true rfl) dX2_work_142 (fun st123 H => ?_)
  refine sj_aload_n (pl := 0) S dX2_work_145 rfl rfl ?_
  refine sj_aload_n (pl := 1) S dX2_work_146 rfl rfl ?_
  refine sj_iload_n (pl := 3) S dX2_work_147 rfl rfl ?_
  refine sj_vv (rest := []) (q0 := 24) (ci := 2) S (kX2_takeApart l g v3 st123 _ H) (fun s args hts => cwV 2 hts gX2_work_X2_takeApart rfl rfl rfl (by decide +kernel) ⟨Nat.le_of_ble_eq_true rfl, Nat.le_of_ble_eq_true rfl⟩) rfl rfl rfl rfl (Nat.le_of_ble_eq_true rfl) dX2_work_148 (fun st147 H => ?_)
  exact hret _ _ _ dX2_work_151 H
set_option maxRecDepth 100000 in
set_option maxHeartbeats 4000000 in
theorem kX2_work (l : Launch) (g : sq_G) (v2 v3 : Int) (st : sq_S) (Q : Int → sq_S → Prop) (H : wX2_work v2 v3 st Q) : sq_Cv l yX2_work wsX2_work rX2_work g sq_X [.ref (g.2.2 24), .ref (g.2.2 2), .int (sq_z v2), .int (sq_z v3)] st Q := by
  refine sq_in_v (cc := cX2_work) (nL := 4) (own := RX2) (by decide) rfl rfl (Nat.le_of_ble_eq_true rfl) ?_
  intro J S hret
  exact tX2_work_0 S hret v2 v3 st H
/-! dropOldestStep ()V : X0_dropOldestStep -/
theorem iX0_dropOldestStep_0 : ∀ w ∈ u_ws RX0 TX0 9, w ∈ wsX0_dropOldestStep := fun _ h => List.mem_cons_of_mem _ (List.mem_append_right _ h)
theorem mX0_dropOldestStep_28 : Cond.fieldLink RX0 28 (TX0 6).1 (TX0 6).2.1 (TX0 6).2.2.1 ∈ wsX0_dropOldestStep := List.mem_of_getElem? (i := 1) rfl
theorem mX0_dropOldestStep_31 : Cond.fieldLink RX0 31 (TX0 7).1 (TX0 7).2.1 (TX0 7).2.2.1 ∈ wsX0_dropOldestStep := List.mem_of_getElem? (i := 6) rfl
theorem mX0_dropOldestStep_43 : Cond.fieldLink RX0 43 (TX0 8).1 (TX0 8).2.1 (TX0 8).2.2.1 ∈ wsX0_dropOldestStep := List.mem_of_getElem? (i := 7) rfl
def wX0_dropOldestStep (st : sq_S) (Q : Int → sq_S → Prop) : Prop :=
  ((0 ≤ (48 : Int) ∧ 0 ≤ (0 : Int) ∧ 0 ≤ (432 : Int)) ∧ (48 : Int) + 432 ≤ 480 ∧ (0 : Int) + 432 ≤ 480) ∧ ∀ st149 : sq_S, st149 = sq_row st 7 (sq_cp (st 7) (st 7) 48 0 432) → (((0 ≤ (1 : Int) ∧ 0 ≤ (0 : Int) ∧ 0 ≤ (9 : Int)) ∧ (1 : Int) + 9 ≤ 10 ∧ (0 : Int) + 9 ≤ 10) ∧ ∀ st150 : sq_S, st150 = sq_row st149 8 (sq_cp (st149 8) (st149 8) 1 0 9) → (∀ st151 : sq_S, st151 = sq_set st150 2 8 9 → (Q 0 st151)))
def rX0_dropOldestStep : Room := { frames := 1, cells := 0, slots := 0, locals := 40 }
set_option maxRecDepth 100000 in
set_option maxHeartbeats 4000000 in
theorem tX0_dropOldestStep_0 {l : Launch} {g : sq_G} {J : sq_K} {Q : Int → sq_S → Prop} (S : sq_J l rX0_dropOldestStep cX0_dropOldestStep 1 RX0 wsX0_dropOldestStep g sq_X J) (hret : ∀ (pc : Nat) (lv : List (Nat × Value)) (st' : sq_S), decode cX0_dropOldestStep pc = .ok (.return_, 1) → Q 0 st' → J pc lv [] st') (st : sq_S) (H : wX0_dropOldestStep st Q) : J 0 [(0, .ref (g.2.2 2))] [] st := by
  unfold wX0_dropOldestStep at H
  refine sj_aload_n (pl := 0) S dX0_dropOldestStep_0 rfl rfl ?_
  refine sj_getr S fX_2_6 iX0_dropOldestStep_0 rfl (by decide) mX0_dropOldestStep_28 dX0_dropOldestStep_1 ?_
  refine sj_bipush S dX0_dropOldestStep_4 (by decide +kernel) ?_
  refine sj_aload_n (pl := 0) S dX0_dropOldestStep_6 rfl rfl ?_
  refine sj_getr S fX_2_6 iX0_dropOldestStep_0 rfl (by decide) mX0_dropOldestStep_28 dX0_dropOldestStep_7 ?_
  refine sj_iconst S dX0_dropOldestStep_10 ?_
  refine sj_sipush S dX0_dropOldestStep_11 (by decide +kernel) ?_
  refine sj_copy S aX_7 aX_7 H.1 (List.mem_of_getElem? (i := 2) rfl) (List.mem_of_getElem? (i := 3) rfl) (List.mem_of_getElem? (i := 4) rfl) (List.mem_of_getElem? (i := 5) rfl) (Nat.le_of_ble_eq_true rfl) (Nat.le_of_ble_eq_true (by decide +kernel)) dX0_dropOldestStep_14 (fun st149 est149 => ?_)
  have H := H.2 st149 est149
  refine sj_aload_n (pl := 0) S dX0_dropOldestStep_17 rfl rfl ?_
  refine sj_getr S fX_2_7 iX0_dropOldestStep_0 rfl (by decide) mX0_dropOldestStep_31 dX0_dropOldestStep_18 ?_
  refine sj_iconst S dX0_dropOldestStep_21 ?_
  refine sj_aload_n (pl := 0) S dX0_dropOldestStep_22 rfl rfl ?_
  refine sj_getr S fX_2_7 iX0_dropOldestStep_0 rfl (by decide) mX0_dropOldestStep_31 dX0_dropOldestStep_23 ?_
  refine sj_iconst S dX0_dropOldestStep_26 ?_
  refine sj_bipush S dX0_dropOldestStep_27 (by decide +kernel) ?_
  refine sj_copy S aX_8 aX_8 H.1 (List.mem_of_getElem? (i := 2) rfl) (List.mem_of_getElem? (i := 3) rfl) (List.mem_of_getElem? (i := 4) rfl) (List.mem_of_getElem? (i := 5) rfl) (Nat.le_of_ble_eq_true rfl) (Nat.le_of_ble_eq_true (by decide +kernel)) dX0_dropOldestStep_29 (fun st150 est150 => ?_)
  have H := H.2 st150 est150
  refine sj_aload_n (pl := 0) S dX0_dropOldestStep_32 rfl rfl ?_
  refine sj_bipush S dX0_dropOldestStep_33 (by decide +kernel) ?_
  refine sj_puti S fX_2_8 iX0_dropOldestStep_0 tyX0 tyX0_ok nmX0 rfl (by decide) mX0_dropOldestStep_43 rfl rfl dX0_dropOldestStep_35 (fun st151 est151 => ?_)
  have H := H st151 est151
  exact hret _ _ _ dX0_dropOldestStep_38 H
set_option maxRecDepth 100000 in
set_option maxHeartbeats 4000000 in
theorem kX0_dropOldestStep (l : Launch) (g : sq_G) (st : sq_S) (Q : Int → sq_S → Prop) (H : wX0_dropOldestStep  st Q) : sq_Cv l yX0_dropOldestStep wsX0_dropOldestStep rX0_dropOldestStep g sq_X [.ref (g.2.2 2)] st Q := by
  refine sq_in_v (cc := cX0_dropOldestStep) (nL := 1) (own := RX0) (by decide) rfl rfl (Nat.le_of_ble_eq_true rfl) ?_
  intro J S hret
  exact tX0_dropOldestStep_0 S hret  st H
/-! keepStep ()V : X0_keepStep -/
theorem iX0_keepStep_0 : ∀ w ∈ u_ws RX0 TX0 9, w ∈ wsX0_keepStep := fun _ h => List.mem_cons_of_mem _ (List.mem_append_right _ h)
theorem mX0_keepStep_9 : Cond.fieldLink RX0 9 (TX0 0).1 (TX0 0).2.1 (TX0 0).2.2.1 ∈ wsX0_keepStep := List.mem_of_getElem? (i := 2) rfl
theorem mX0_keepStep_28 : Cond.fieldLink RX0 28 (TX0 6).1 (TX0 6).2.1 (TX0 6).2.2.1 ∈ wsX0_keepStep := List.mem_of_getElem? (i := 3) rfl
theorem mX0_keepStep_31 : Cond.fieldLink RX0 31 (TX0 7).1 (TX0 7).2.1 (TX0 7).2.2.1 ∈ wsX0_keepStep := List.mem_of_getElem? (i := 9) rfl
theorem mX0_keepStep_40 : Cond.fieldLink RX0 40 (TX0 1).1 (TX0 1).2.1 (TX0 1).2.2.1 ∈ wsX0_keepStep := List.mem_of_getElem? (i := 4) rfl
theorem mX0_keepStep_43 : Cond.fieldLink RX0 43 (TX0 8).1 (TX0 8).2.1 (TX0 8).2.2.1 ∈ wsX0_keepStep := List.mem_of_getElem? (i := 1) rfl
def bX0_keepStep_13 (K13 : sq_S → Prop) (Q : Int → sq_S → Prop) (st : sq_S) : Prop :=
  ((0 ≤ (0 : Int) ∧ 0 ≤ ((st 2 8) * 48) ∧ 0 ≤ (st 2 1)) ∧ (0 : Int) + (st 2 1) ≤ 48 ∧ ((st 2 8) * 48) + (st 2 1) ≤ 480) ∧ ∀ st153 : sq_S, st153 = sq_row st 7 (sq_cp (st 3) (st 7) 0 (((st 2 8) * 48)).toNat ((st 2 1)).toNat) → (sq_ib (st153 2 8) 10 ∧ (∀ st154 : sq_S, st154 = sq_set st153 8 ((st153 2 8)).toNat (st153 2 1) → (∀ st155 : sq_S, st155 = sq_set st154 2 8 ((st154 2 8) + 1) → (Q 0 st155))))
def bX0_keepStep_0 (K13 : sq_S → Prop) (Q : Int → sq_S → Prop) (st : sq_S) : Prop :=
  (sq_rg (st 2 8) ∧ sq_rg 10) ∧ ((st 2 8) < 10 → K13 st) ∧ (10 ≤ (st 2 8) → wX0_dropOldestStep st (fun _ st152 => K13 st152))
def wX0_keepStep (st : sq_S) (Q : Int → sq_S → Prop) : Prop :=
  ∀ (K13 : sq_S → Prop), (∀ (st : sq_S), bX0_keepStep_13 K13 Q st → K13 st) → bX0_keepStep_0 K13 Q  st
def rX0_keepStep : Room := { frames := 2, cells := 0, slots := 0, locals := 60 }
def qX0_keepStep_13 (J : sq_K) (g : sq_G) : sq_S → Prop := fun st => J 13 [(0, .ref (g.2.2 2))] [] st
set_option maxRecDepth 100000 in
set_option maxHeartbeats 4000000 in
theorem tX0_keepStep_13 {l : Launch} {g : sq_G} {J : sq_K} {Q : Int → sq_S → Prop} (S : sq_J l rX0_keepStep cX0_keepStep 1 RX0 wsX0_keepStep g sq_X J) (hret : ∀ (pc : Nat) (lv : List (Nat × Value)) (st' : sq_S), decode cX0_keepStep pc = .ok (.return_, 1) → Q 0 st' → J pc lv [] st') (st : sq_S) (H : bX0_keepStep_13 (qX0_keepStep_13 J g) Q st) : J 13 [(0, .ref (g.2.2 2))] [] st := by
  unfold bX0_keepStep_13 at H
  refine sj_aload_n (pl := 0) S dX0_keepStep_13 rfl rfl ?_
  refine sj_getr S fX_2_0 iX0_keepStep_0 rfl (by decide) mX0_keepStep_9 dX0_keepStep_14 ?_
  refine sj_iconst S dX0_keepStep_17 ?_
  refine sj_aload_n (pl := 0) S dX0_keepStep_18 rfl rfl ?_
  refine sj_getr S fX_2_6 iX0_keepStep_0 rfl (by decide) mX0_keepStep_28 dX0_keepStep_19 ?_
  refine sj_aload_n (pl := 0) S dX0_keepStep_22 rfl rfl ?_
  refine sj_geti S fX_2_8 iX0_keepStep_0 rfl (by decide) mX0_keepStep_43 dX0_keepStep_23 ?_
  refine sj_bipush S dX0_keepStep_26 (by decide +kernel) ?_
  refine sj_imul S dX0_keepStep_28 ?_
  refine sj_aload_n (pl := 0) S dX0_keepStep_29 rfl rfl ?_
  refine sj_geti S fX_2_1 iX0_keepStep_0 rfl (by decide) mX0_keepStep_40 dX0_keepStep_30 ?_
  refine sj_copy S aX_3 aX_7 H.1 (List.mem_of_getElem? (i := 5) rfl) (List.mem_of_getElem? (i := 6) rfl) (List.mem_of_getElem? (i := 7) rfl) (List.mem_of_getElem? (i := 8) rfl) (Nat.le_of_ble_eq_true rfl) (Nat.le_of_ble_eq_true (by decide +kernel)) dX0_keepStep_33 (fun st153 est153 => ?_)
  have H := H.2 st153 est153
  refine sj_aload_n (pl := 0) S dX0_keepStep_36 rfl rfl ?_
  refine sj_getr S fX_2_7 iX0_keepStep_0 rfl (by decide) mX0_keepStep_31 dX0_keepStep_37 ?_
  refine sj_aload_n (pl := 0) S dX0_keepStep_40 rfl rfl ?_
  refine sj_geti S fX_2_8 iX0_keepStep_0 rfl (by decide) mX0_keepStep_43 dX0_keepStep_41 ?_
  refine sj_aload_n (pl := 0) S dX0_keepStep_44 rfl rfl ?_
  refine sj_geti S fX_2_1 iX0_keepStep_0 rfl (by decide) mX0_keepStep_40 dX0_keepStep_45 ?_
  refine sj_iast S aX_8 H.1 dX0_keepStep_48 (fun st154 est154 => ?_)
  have H := H.2 st154 est154
  refine sj_aload_n (pl := 0) S dX0_keepStep_49 rfl rfl ?_
  refine sj_dup S dX0_keepStep_50 rfl ?_
  refine sj_geti S fX_2_8 iX0_keepStep_0 rfl (by decide) mX0_keepStep_43 dX0_keepStep_51 ?_
  refine sj_iconst S dX0_keepStep_54 ?_
  refine sj_iadd S dX0_keepStep_55 ?_
  refine sj_puti S fX_2_8 iX0_keepStep_0 tyX0 tyX0_ok nmX0 rfl (by decide) mX0_keepStep_43 rfl rfl dX0_keepStep_56 (fun st155 est155 => ?_)
  have H := H st155 est155
  exact hret _ _ _ dX0_keepStep_59 H
set_option maxRecDepth 100000 in
set_option maxHeartbeats 4000000 in
theorem tX0_keepStep_0 {l : Launch} {g : sq_G} {J : sq_K} {Q : Int → sq_S → Prop} (S : sq_J l rX0_keepStep cX0_keepStep 1 RX0 wsX0_keepStep g sq_X J) (hret : ∀ (pc : Nat) (lv : List (Nat × Value)) (st' : sq_S), decode cX0_keepStep pc = .ok (.return_, 1) → Q 0 st' → J pc lv [] st') (st : sq_S) (H : bX0_keepStep_0 (qX0_keepStep_13 J g) Q st) : J 0 [(0, .ref (g.2.2 2))] [] st := by
  unfold bX0_keepStep_0 at H
  refine sj_aload_n (pl := 0) S dX0_keepStep_0 rfl rfl ?_
  refine sj_geti S fX_2_8 iX0_keepStep_0 rfl (by decide) mX0_keepStep_43 dX0_keepStep_1 ?_
  refine sj_bipush S dX0_keepStep_4 (by decide +kernel) ?_
  refine sj_icmp_lt (tgt := 13) S H.1 dX0_keepStep_6 (by decide) (fun c9 => ?_) (fun c9 => ?_)
  · have H := H.2.1 c9
    exact sj_lv S [0] rfl H
  · have H := H.2.2 c9
    refine sj_aload_n (pl := 0) S dX0_keepStep_9 rfl rfl ?_
    refine sj_vv (rest := []) (q0 := 2) (ci := 0) S (kX0_dropOldestStep l g st _ H) (fun s args hts => cwV 0 hts gX0_keepStep_X0_dropOldestStep rfl rfl rfl (by decide +kernel) ⟨Nat.le_of_ble_eq_true rfl, Nat.le_of_ble_eq_true rfl⟩) rfl rfl rfl rfl (Nat.le_of_ble_eq_true rfl) dX0_keepStep_10 (fun st152 H => ?_)
    exact sj_lv S [0] rfl H
set_option maxRecDepth 100000 in
set_option maxHeartbeats 4000000 in
theorem kX0_keepStep (l : Launch) (g : sq_G) (st : sq_S) (Q : Int → sq_S → Prop) (H : wX0_keepStep  st Q) : sq_Cv l yX0_keepStep wsX0_keepStep rX0_keepStep g sq_X [.ref (g.2.2 2)] st Q := by
  refine sq_in_v (cc := cX0_keepStep) (nL := 1) (own := RX0) (by decide) rfl rfl (Nat.le_of_ble_eq_true rfl) ?_
  intro J S hret
  exact tX0_keepStep_0 S hret  st (H (qX0_keepStep_13 J g) (tX0_keepStep_13 S hret))
/-! step (IZ)I : X3_step -/
theorem iX3_step_0 : ∀ w ∈ u_ws RX0 TX0 9, w ∈ wsX3_step := fun _ h => List.mem_cons_of_mem _ (List.mem_append_left _ (List.mem_append_left _ (List.mem_append_right _ h)))
theorem iX3_step_2 : ∀ w ∈ u_ws RX2 TX2 5, w ∈ wsX3_step := fun _ h => List.mem_cons_of_mem _ (List.mem_append_left _ (List.mem_append_right _ h))
theorem iX3_step_3 : ∀ w ∈ u_ws RX3 TX3 8, w ∈ wsX3_step := fun _ h => List.mem_cons_of_mem _ (List.mem_append_left _ (List.mem_append_left _ (List.mem_append_left _ (List.mem_append_right _ h))))
theorem mX3_step_16 : Cond.fieldLink RX3 16 (TX3 2).1 (TX3 2).2.1 (TX3 2).2.2.1 ∈ wsX3_step := List.mem_of_getElem? (i := 2) rfl
theorem mX3_step_27 : Cond.fieldLink RX3 27 (TX3 5).1 (TX3 5).2.1 (TX3 5).2.2.1 ∈ wsX3_step := List.mem_of_getElem? (i := 1) rfl
theorem mX3_step_49 : Cond.fieldLink RX3 49 (TX0 0).1 (TX0 0).2.1 (TX0 0).2.2.1 ∈ wsX3_step := List.mem_of_getElem? (i := 4) rfl
theorem mX3_step_56 : Cond.fieldLink RX3 56 (TX0 1).1 (TX0 1).2.1 (TX0 1).2.2.1 ∈ wsX3_step := List.mem_of_getElem? (i := 3) rfl
theorem mX3_step_168 : Cond.fieldLink RX3 168 (TX2 0).1 (TX2 0).2.1 (TX2 0).2.2.1 ∈ wsX3_step := List.mem_of_getElem? (i := 5) rfl
def bX3_step_27 (K27 : Int → Int → sq_S → Prop) (K52 : Int → Int → sq_S → Prop) (Q : Int → sq_S → Prop) (v1 v2 : Int) (st : sq_S) : Prop :=
  wX2_work v1 v2 st (fun _ st148 => wX0_keepStep st148 (fun _ st156 => K52 0 0 st156))
def bX3_step_52 (K27 : Int → Int → sq_S → Prop) (K52 : Int → Int → sq_S → Prop) (Q : Int → sq_S → Prop) (v3 v4 : Int) (st : sq_S) : Prop :=
  (sq_rg v4 ∧ sq_rg (st 2 1)) ∧ ((st 2 1) ≤ v4 → Q v3 st) ∧ (v4 < (st 2 1) → sq_ib v4 48 ∧ (sq_ib v4 48 ∧ ((sq_rg (st 3 v4.toNat) ∧ sq_rg (st 25 v4.toNat)) ∧ ((st 3 v4.toNat) = (st 25 v4.toNat) → sq_ib v4 48 ∧ (sq_ib v4 48 ∧ (∀ st157 : sq_S, st157 = sq_set st 3 v4.toNat (st 25 v4.toNat) → (K52 v3 (v4 + 1) st157)))) ∧ (¬ (st 3 v4.toNat) = (st 25 v4.toNat) → sq_ib v4 48 ∧ (sq_ib v4 48 ∧ (∀ st158 : sq_S, st158 = sq_set st 3 v4.toNat (st 25 v4.toNat) → (K52 (v3 + 1) (v4 + 1) st158)))))))
def bX3_step_0 (K27 : Int → Int → sq_S → Prop) (K52 : Int → Int → sq_S → Prop) (Q : Int → sq_S → Prop) (v1 v2 : Int) (st : sq_S) : Prop :=
  wX3_isOutside v1 0 5 st (fun r72 st73 => sq_rg r72 ∧ (r72 = 0 → (sq_rg v1 ∧ sq_rg 2) ∧ (¬ v1 = 2 → K27 v1 v2 st73) ∧ (v1 = 2 → wX3_hasOddText st73 (fun r74 st75 => sq_rg r74 ∧ (r74 = 0 → K27 v1 v2 st75) ∧ (¬ r74 = 0 → Q (-3) st75)))) ∧ (¬ r72 = 0 → Q (-2) st73))
def wX3_step (v1 v2 : Int) (st : sq_S) (Q : Int → sq_S → Prop) : Prop :=
  ∀ (K27 : Int → Int → sq_S → Prop) (K52 : Int → Int → sq_S → Prop), (∀ (v1 v2 : Int) (st : sq_S), bX3_step_27 K27 K52 Q v1 v2 st → K27 v1 v2 st) → (∀ (v3 v4 : Int) (st : sq_S), bX3_step_52 K27 K52 Q v3 v4 st → K52 v3 v4 st) → bX3_step_0 K27 K52 Q v1 v2 st
def rX3_step : Room := { frames := 4, cells := 0, slots := 0, locals := 96 }
def qX3_step_27 (J : sq_K) (g : sq_G) : Int → Int → sq_S → Prop := fun v1 v2 st => J 27 [(0, .ref (g.2.2 0)), (1, .int (sq_z v1)), (2, .int (sq_z v2))] [] st
def qX3_step_52 (J : sq_K) (g : sq_G) : Int → Int → sq_S → Prop := fun v3 v4 st => J 52 [(0, .ref (g.2.2 0)), (3, .int (sq_z v3)), (4, .int (sq_z v4))] [] st
set_option maxRecDepth 100000 in
set_option maxHeartbeats 4000000 in
theorem tX3_step_27 {l : Launch} {g : sq_G} {J : sq_K} {Q : Int → sq_S → Prop} (S : sq_J l rX3_step cX3_step 5 RX3 wsX3_step g sq_X J) (hret : ∀ (pc : Nat) (lv : List (Nat × Value)) (r : Int) (st' : sq_S), decode cX3_step pc = .ok (.ireturn, 1) → Q r st' → J pc lv [.int (sq_z r)] st') (v1 v2 : Int) (st : sq_S) (H : bX3_step_27 (qX3_step_27 J g) (qX3_step_52 J g) Q v1 v2 st) : J 27 [(0, .ref (g.2.2 0)), (1, .int (sq_z v1)), (2, .int (sq_z v2))] [] st := by
  unfold bX3_step_27 at H
  refine sj_aload_n (pl := 0) S dX3_step_27 rfl rfl ?_
  refine sj_getr S fX_0_5 iX3_step_3 rfl (by decide) mX3_step_27 dX3_step_28 ?_
  refine sj_aload_n (pl := 0) S dX3_step_31 rfl rfl ?_
  refine sj_getr S fX_0_2 iX3_step_3 rfl (by decide) mX3_step_16 dX3_step_32 ?_
  refine sj_iload_n (pl := 1) S dX3_step_35 rfl rfl ?_
  refine sj_iload_n (pl := 2) S dX3_step_36 rfl rfl ?_
  refine sj_vv (rest := []) (q0 := 24) (ci := 2) S (kX2_work l g v1 v2 st _ H) (fun s args hts => cwV 3 hts gX3_step_X2_work rfl rfl rfl (by decide +kernel) ⟨Nat.le_of_ble_eq_true rfl, Nat.le_of_ble_eq_true rfl⟩) rfl rfl rfl rfl (Nat.le_of_ble_eq_true rfl) dX3_step_37 (fun st148 H => ?_)
  refine sj_aload_n (pl := 0) S dX3_step_40 rfl rfl ?_
  refine sj_getr S fX_0_2 iX3_step_3 rfl (by decide) mX3_step_16 dX3_step_41 ?_
  refine sj_vv (rest := []) (q0 := 2) (ci := 0) S (kX0_keepStep l g st148 _ H) (fun s args hts => cwV 0 hts gX3_step_X0_keepStep rfl rfl rfl (by decide +kernel) ⟨Nat.le_of_ble_eq_true rfl, Nat.le_of_ble_eq_true rfl⟩) rfl rfl rfl rfl (Nat.le_of_ble_eq_true rfl) dX3_step_44 (fun st156 H => ?_)
  refine sj_iconst S dX3_step_47 ?_
  refine sj_istore_na (lv' := [(0, .ref (g.2.2 0)), (1, .int (sq_z v1)), (2, .int (sq_z v2))]) S dX3_step_48 rfl (by decide) (fun _ => rfl) ?_
  refine sj_iconst S dX3_step_49 ?_
  refine sj_istorea (lv' := [(3, .int (sq_z 0)), (0, .ref (g.2.2 0)), (1, .int (sq_z v1)), (2, .int (sq_z v2))]) S dX3_step_50 (by decide) (fun _ => rfl) ?_
  exact sj_lv S [2, 1, 0] rfl H
set_option maxRecDepth 100000 in
set_option maxHeartbeats 4000000 in
theorem tX3_step_52 {l : Launch} {g : sq_G} {J : sq_K} {Q : Int → sq_S → Prop} (S : sq_J l rX3_step cX3_step 5 RX3 wsX3_step g sq_X J) (hret : ∀ (pc : Nat) (lv : List (Nat × Value)) (r : Int) (st' : sq_S), decode cX3_step pc = .ok (.ireturn, 1) → Q r st' → J pc lv [.int (sq_z r)] st') (v3 v4 : Int) (st : sq_S) (H : bX3_step_52 (qX3_step_27 J g) (qX3_step_52 J g) Q v3 v4 st) : J 52 [(0, .ref (g.2.2 0)), (3, .int (sq_z v3)), (4, .int (sq_z v4))] [] st := by
  unfold bX3_step_52 at H
  refine sj_iload (pl := 2) S dX3_step_52 rfl ?_
  refine sj_aload_n (pl := 0) S dX3_step_54 rfl rfl ?_
  refine sj_getr S fX_0_2 iX3_step_3 rfl (by decide) mX3_step_16 dX3_step_55 ?_
  refine sj_geti S fX_2_1 iX3_step_0 rfl (by decide) mX3_step_56 dX3_step_58 ?_
  refine sj_icmp_ge (tgt := 116) S H.1 dX3_step_61 (by decide) (fun c9 => ?_) (fun c9 => ?_)
  · have H := H.2.1 c9
    refine sj_iload_n (pl := 1) S dX3_step_116 rfl rfl ?_
    exact hret _ _ _ _ dX3_step_117 H
  · have H := H.2.2 c9
    refine sj_aload_n (pl := 0) S dX3_step_64 rfl rfl ?_
    refine sj_getr S fX_0_2 iX3_step_3 rfl (by decide) mX3_step_16 dX3_step_65 ?_
    refine sj_getr S fX_2_0 iX3_step_0 rfl (by decide) mX3_step_49 dX3_step_68 ?_
    refine sj_iload (pl := 2) S dX3_step_71 rfl ?_
    refine sj_iald S aX_3 H.1 dX3_step_73 ?_
    have H := H.2
    refine sj_aload_n (pl := 0) S dX3_step_74 rfl rfl ?_
    refine sj_getr S fX_0_5 iX3_step_3 rfl (by decide) mX3_step_27 dX3_step_75 ?_
    refine sj_getr S fX_24_0 iX3_step_2 rfl (by decide) mX3_step_168 dX3_step_78 ?_
    refine sj_iload (pl := 2) S dX3_step_81 rfl ?_
    refine sj_iald S aX_25 H.1 dX3_step_83 ?_
    have H := H.2
    refine sj_icmp_eq (tgt := 90) S H.1 dX3_step_84 (by decide) (fun c9 => ?_) (fun c9 => ?_)
    · have H := H.2.1 c9
      refine sj_aload_n (pl := 0) S dX3_step_90 rfl rfl ?_
      refine sj_getr S fX_0_2 iX3_step_3 rfl (by decide) mX3_step_16 dX3_step_91 ?_
      refine sj_getr S fX_2_0 iX3_step_0 rfl (by decide) mX3_step_49 dX3_step_94 ?_
      refine sj_iload (pl := 2) S dX3_step_97 rfl ?_
      refine sj_aload_n (pl := 0) S dX3_step_99 rfl rfl ?_
      refine sj_getr S fX_0_5 iX3_step_3 rfl (by decide) mX3_step_27 dX3_step_100 ?_
      refine sj_getr S fX_24_0 iX3_step_2 rfl (by decide) mX3_step_168 dX3_step_103 ?_
      refine sj_iload (pl := 2) S dX3_step_106 rfl ?_
      refine sj_iald S aX_25 H.1 dX3_step_108 ?_
      have H := H.2
      refine sj_iast S aX_3 H.1 dX3_step_109 (fun st157 est157 => ?_)
      have H := H.2 st157 est157
      refine sj_iinc (pl := 2) (lv' := [(0, .ref (g.2.2 0)), (3, .int (sq_z v3))]) S dX3_step_110 rfl (by decide) (fun _ => rfl) ?_
      refine sj_goto (tgt := 52) S dX3_step_113 (by decide) ?_
      exact sj_lv S [1, 2, 0] rfl H
    · have H := H.2.2 c9
      refine sj_iinc (pl := 1) (lv' := [(0, .ref (g.2.2 0)), (4, .int (sq_z v4))]) S dX3_step_87 rfl (by decide) (fun _ => rfl) ?_
      refine sj_aload_n (pl := 1) S dX3_step_90 rfl rfl ?_
      refine sj_getr S fX_0_2 iX3_step_3 rfl (by decide) mX3_step_16 dX3_step_91 ?_
      refine sj_getr S fX_2_0 iX3_step_0 rfl (by decide) mX3_step_49 dX3_step_94 ?_
      refine sj_iload (pl := 2) S dX3_step_97 rfl ?_
      refine sj_aload_n (pl := 1) S dX3_step_99 rfl rfl ?_
      refine sj_getr S fX_0_5 iX3_step_3 rfl (by decide) mX3_step_27 dX3_step_100 ?_
      refine sj_getr S fX_24_0 iX3_step_2 rfl (by decide) mX3_step_168 dX3_step_103 ?_
      refine sj_iload (pl := 2) S dX3_step_106 rfl ?_
      refine sj_iald S aX_25 H.1 dX3_step_108 ?_
      have H := H.2
      refine sj_iast S aX_3 H.1 dX3_step_109 (fun st158 est158 => ?_)
      have H := H.2 st158 est158
      refine sj_iinc (pl := 2) (lv' := [(3, .int (sq_z (v3 + 1))), (0, .ref (g.2.2 0))]) S dX3_step_110 rfl (by decide) (fun _ => rfl) ?_
      refine sj_goto (tgt := 52) S dX3_step_113 (by decide) ?_
      exact sj_lv S [2, 1, 0] rfl H
set_option maxRecDepth 100000 in
set_option maxHeartbeats 4000000 in
theorem tX3_step_0 {l : Launch} {g : sq_G} {J : sq_K} {Q : Int → sq_S → Prop} (S : sq_J l rX3_step cX3_step 5 RX3 wsX3_step g sq_X J) (hret : ∀ (pc : Nat) (lv : List (Nat × Value)) (r : Int) (st' : sq_S), decode cX3_step pc = .ok (.ireturn, 1) → Q r st' → J pc lv [.int (sq_z r)] st') (v1 v2 : Int) (st : sq_S) (H : bX3_step_0 (qX3_step_27 J g) (qX3_step_52 J g) Q v1 v2 st) : J 0 [(0, .ref (g.2.2 0)), (1, .int (sq_z v1)), (2, .int (sq_z v2))] [] st := by
  unfold bX3_step_0 at H
  refine sj_iload_n (pl := 1) S dX3_step_0 rfl rfl ?_
  refine sj_iconst S dX3_step_1 ?_
  refine sj_iconst S dX3_step_2 ?_
  refine sj_si (rest := []) S (kX3_isOutside l g v1 0 5 st _ H) (fun s args hts => va_cwS 3 hts gX3_step_X3_isOutside rfl rfl rfl (by decide +kernel) ⟨Nat.le_of_ble_eq_true rfl, Nat.le_of_ble_eq_true rfl⟩) rfl rfl (Nat.le_of_ble_eq_true rfl) dX3_step_3 (fun r72 st73 H => ?_)
  refine sj_if_eq (tgt := 12) S H.1 dX3_step_6 (by decide) (fun c9 => ?_) (fun c9 => ?_)
  · have H := H.2.1 c9
    refine sj_iload_n (pl := 1) S dX3_step_12 rfl rfl ?_
    refine sj_iconst S dX3_step_13 ?_
    refine sj_icmp_ne (tgt := 27) S H.1 dX3_step_14 (by decide) (fun c9 => ?_) (fun c9 => ?_)
    · have H := H.2.1 c9
      exact sj_lv S [0, 1, 2] rfl H
    · have H := H.2.2 c9
      refine sj_aload_n (pl := 0) S dX3_step_17 rfl rfl ?_
      refine sj_vi (rest := []) (q0 := 0) (ci := 3) S (kX3_hasOddText l g st73 _ H) (fun s args hts => cwV 0 hts gX3_step_X3_hasOddText rfl rfl rfl (by decide +kernel) ⟨Nat.le_of_ble_eq_true rfl, Nat.le_of_ble_eq_true rfl⟩) rfl rfl rfl rfl (Nat.le_of_ble_eq_true rfl) dX3_step_18 (fun r74 st75 H => ?_)
      refine sj_if_eq (tgt := 27) S H.1 dX3_step_21 (by decide) (fun c9 => ?_) (fun c9 => ?_)
      · have H := H.2.1 c9
        exact sj_lv S [0, 1, 2] rfl H
      · have H := H.2.2 c9
        refine sj_bipush S dX3_step_24 (by decide +kernel) ?_
        exact hret _ _ _ _ dX3_step_26 H
  · have H := H.2.2 c9
    refine sj_bipush S dX3_step_9 (by decide +kernel) ?_
    exact hret _ _ _ _ dX3_step_11 H
set_option maxRecDepth 100000 in
set_option maxHeartbeats 4000000 in
theorem kX3_step (l : Launch) (g : sq_G) (v1 v2 : Int) (st : sq_S) (Q : Int → sq_S → Prop) (H : wX3_step v1 v2 st Q) : sq_Ci l yX3_step wsX3_step rX3_step g sq_X [.ref (g.2.2 0), .int (sq_z v1), .int (sq_z v2)] st Q := by
  refine sq_in_i (cc := cX3_step) (nL := 5) (own := RX3) (by decide) rfl rfl (Nat.le_of_ble_eq_true rfl) ?_
  intro J S hret
  exact tX3_step_0 S hret v1 v2 st (H (qX3_step_27 J g) (qX3_step_52 J g) (tX3_step_27 S hret) (tX3_step_52 S hret))
/-! hide (I)I : X3_hide -/
def wX3_hide (v1 : Int) (st : sq_S) (Q : Int → sq_S → Prop) : Prop :=
  wX3_step v1 1 st (fun r159 st160 => Q r159 st160)
def rX3_hide : Room := { frames := 5, cells := 0, slots := 0, locals := 120 }
set_option maxRecDepth 100000 in
set_option maxHeartbeats 4000000 in
theorem tX3_hide_0 {l : Launch} {g : sq_G} {J : sq_K} {Q : Int → sq_S → Prop} (S : sq_J l rX3_hide cX3_hide 2 RX3 wsX3_hide g sq_X J) (hret : ∀ (pc : Nat) (lv : List (Nat × Value)) (r : Int) (st' : sq_S), decode cX3_hide pc = .ok (.ireturn, 1) → Q r st' → J pc lv [.int (sq_z r)] st') (v1 : Int) (st : sq_S) (H : wX3_hide v1 st Q) : J 0 [(0, .ref (g.2.2 0)), (1, .int (sq_z v1))] [] st := by
  unfold wX3_hide at H
  refine sj_aload_n (pl := 0) S dX3_hide_0 rfl rfl ?_
  refine sj_iload_n (pl := 1) S dX3_hide_1 rfl rfl ?_
  refine sj_iconst S dX3_hide_2 ?_
  refine sj_vi (rest := []) (q0 := 0) (ci := 3) S (kX3_step l g v1 1 st _ H) (fun s args hts => cwV 2 hts gX3_hide_X3_step rfl rfl rfl (by decide +kernel) ⟨Nat.le_of_ble_eq_true rfl, Nat.le_of_ble_eq_true rfl⟩) rfl rfl rfl rfl (Nat.le_of_ble_eq_true rfl) dX3_hide_3 (fun r159 st160 H => ?_)
  exact hret _ _ _ _ dX3_hide_6 H
set_option maxRecDepth 100000 in
set_option maxHeartbeats 4000000 in
theorem kX3_hide (l : Launch) (g : sq_G) (v1 : Int) (st : sq_S) (Q : Int → sq_S → Prop) (H : wX3_hide v1 st Q) : sq_Ci l yX3_hide wsX3_hide rX3_hide g sq_X [.ref (g.2.2 0), .int (sq_z v1)] st Q := by
  refine sq_in_i (cc := cX3_hide) (nL := 2) (own := RX3) (by decide) rfl rfl (Nat.le_of_ble_eq_true rfl) ?_
  intro J S hret
  exact tX3_hide_0 S hret v1 st H
/-! find (I)I : X3_find -/
def wX3_find (v1 : Int) (st : sq_S) (Q : Int → sq_S → Prop) : Prop :=
  wX3_step v1 0 st (fun r161 st162 => Q r161 st162)
def rX3_find : Room := { frames := 5, cells := 0, slots := 0, locals := 120 }
set_option maxRecDepth 100000 in
set_option maxHeartbeats 4000000 in
theorem tX3_find_0 {l : Launch} {g : sq_G} {J : sq_K} {Q : Int → sq_S → Prop} (S : sq_J l rX3_find cX3_find 2 RX3 wsX3_find g sq_X J) (hret : ∀ (pc : Nat) (lv : List (Nat × Value)) (r : Int) (st' : sq_S), decode cX3_find pc = .ok (.ireturn, 1) → Q r st' → J pc lv [.int (sq_z r)] st') (v1 : Int) (st : sq_S) (H : wX3_find v1 st Q) : J 0 [(0, .ref (g.2.2 0)), (1, .int (sq_z v1))] [] st := by
  unfold wX3_find at H
  refine sj_aload_n (pl := 0) S dX3_find_0 rfl rfl ?_
  refine sj_iload_n (pl := 1) S dX3_find_1 rfl rfl ?_
  refine sj_iconst S dX3_find_2 ?_
  refine sj_vi (rest := []) (q0 := 0) (ci := 3) S (kX3_step l g v1 0 st _ H) (fun s args hts => cwV 2 hts gX3_find_X3_step rfl rfl rfl (by decide +kernel) ⟨Nat.le_of_ble_eq_true rfl, Nat.le_of_ble_eq_true rfl⟩) rfl rfl rfl rfl (Nat.le_of_ble_eq_true rfl) dX3_find_3 (fun r161 st162 H => ?_)
  exact hret _ _ _ _ dX3_find_6 H
set_option maxRecDepth 100000 in
set_option maxHeartbeats 4000000 in
theorem kX3_find (l : Launch) (g : sq_G) (v1 : Int) (st : sq_S) (Q : Int → sq_S → Prop) (H : wX3_find v1 st Q) : sq_Ci l yX3_find wsX3_find rX3_find g sq_X [.ref (g.2.2 0), .int (sq_z v1)] st Q := by
  refine sq_in_i (cc := cX3_find) (nL := 2) (own := RX3) (by decide) rfl rfl (Nat.le_of_ble_eq_true rfl) ?_
  intro J S hret
  exact tX3_find_0 S hret v1 st H
/-! takeStepBack ()V : X0_takeStepBack -/
theorem iX0_takeStepBack_0 : ∀ w ∈ u_ws RX0 TX0 9, w ∈ wsX0_takeStepBack := fun _ h => List.mem_cons_of_mem _ (List.mem_append_right _ h)
theorem mX0_takeStepBack_9 : Cond.fieldLink RX0 9 (TX0 0).1 (TX0 0).2.1 (TX0 0).2.2.1 ∈ wsX0_takeStepBack := List.mem_of_getElem? (i := 5) rfl
theorem mX0_takeStepBack_28 : Cond.fieldLink RX0 28 (TX0 6).1 (TX0 6).2.1 (TX0 6).2.2.1 ∈ wsX0_takeStepBack := List.mem_of_getElem? (i := 4) rfl
theorem mX0_takeStepBack_31 : Cond.fieldLink RX0 31 (TX0 7).1 (TX0 7).2.1 (TX0 7).2.2.1 ∈ wsX0_takeStepBack := List.mem_of_getElem? (i := 2) rfl
theorem mX0_takeStepBack_40 : Cond.fieldLink RX0 40 (TX0 1).1 (TX0 1).2.1 (TX0 1).2.2.1 ∈ wsX0_takeStepBack := List.mem_of_getElem? (i := 3) rfl
theorem mX0_takeStepBack_43 : Cond.fieldLink RX0 43 (TX0 8).1 (TX0 8).2.1 (TX0 8).2.2.1 ∈ wsX0_takeStepBack := List.mem_of_getElem? (i := 1) rfl
def wX0_takeStepBack (st : sq_S) (Q : Int → sq_S → Prop) : Prop :=
  sq_rg (st 2 8) ∧ (¬ (st 2 8) = 0 → ∀ st163 : sq_S, st163 = sq_set st 2 8 ((st 2 8) - 1) → (sq_ib (st163 2 8) 10 ∧ (∀ st164 : sq_S, st164 = sq_set st163 2 1 (st163 8 ((st163 2 8)).toNat) → (((0 ≤ ((st164 2 8) * 48) ∧ 0 ≤ (0 : Int) ∧ 0 ≤ (st164 2 1)) ∧ ((st164 2 8) * 48) + (st164 2 1) ≤ 480 ∧ (0 : Int) + (st164 2 1) ≤ 48) ∧ ∀ st165 : sq_S, st165 = sq_row st164 3 (sq_cp (st164 7) (st164 3) (((st164 2 8) * 48)).toNat 0 ((st164 2 1)).toNat) → (Q 0 st165))))) ∧ ((st 2 8) = 0 → Q 0 st)
def rX0_takeStepBack : Room := { frames := 1, cells := 0, slots := 0, locals := 40 }
set_option maxRecDepth 100000 in
set_option maxHeartbeats 4000000 in
theorem tX0_takeStepBack_0 {l : Launch} {g : sq_G} {J : sq_K} {Q : Int → sq_S → Prop} (S : sq_J l rX0_takeStepBack cX0_takeStepBack 1 RX0 wsX0_takeStepBack g sq_X J) (hret : ∀ (pc : Nat) (lv : List (Nat × Value)) (st' : sq_S), decode cX0_takeStepBack pc = .ok (.return_, 1) → Q 0 st' → J pc lv [] st') (st : sq_S) (H : wX0_takeStepBack st Q) : J 0 [(0, .ref (g.2.2 2))] [] st := by
  unfold wX0_takeStepBack at H
  refine sj_aload_n (pl := 0) S dX0_takeStepBack_0 rfl rfl ?_
  refine sj_geti S fX_2_8 iX0_takeStepBack_0 rfl (by decide) mX0_takeStepBack_43 dX0_takeStepBack_1 ?_
  refine sj_if_ne (tgt := 8) S H.1 dX0_takeStepBack_4 (by decide) (fun c9 => ?_) (fun c9 => ?_)
  · have H := H.2.1 c9
    refine sj_aload_n (pl := 0) S dX0_takeStepBack_8 rfl rfl ?_
    refine sj_dup S dX0_takeStepBack_9 rfl ?_
    refine sj_geti S fX_2_8 iX0_takeStepBack_0 rfl (by decide) mX0_takeStepBack_43 dX0_takeStepBack_10 ?_
    refine sj_iconst S dX0_takeStepBack_13 ?_
    refine sj_isub S dX0_takeStepBack_14 ?_
    refine sj_puti S fX_2_8 iX0_takeStepBack_0 tyX0 tyX0_ok nmX0 rfl (by decide) mX0_takeStepBack_43 rfl rfl dX0_takeStepBack_15 (fun st163 est163 => ?_)
    have H := H st163 est163
    refine sj_aload_n (pl := 0) S dX0_takeStepBack_18 rfl rfl ?_
    refine sj_aload_n (pl := 0) S dX0_takeStepBack_19 rfl rfl ?_
    refine sj_getr S fX_2_7 iX0_takeStepBack_0 rfl (by decide) mX0_takeStepBack_31 dX0_takeStepBack_20 ?_
    refine sj_aload_n (pl := 0) S dX0_takeStepBack_23 rfl rfl ?_
    refine sj_geti S fX_2_8 iX0_takeStepBack_0 rfl (by decide) mX0_takeStepBack_43 dX0_takeStepBack_24 ?_
    refine sj_iald S aX_8 H.1 dX0_takeStepBack_27 ?_
    have H := H.2
    refine sj_puti S fX_2_1 iX0_takeStepBack_0 tyX0 tyX0_ok nmX0 rfl (by decide) mX0_takeStepBack_40 rfl rfl dX0_takeStepBack_28 (fun st164 est164 => ?_)
    have H := H st164 est164
    refine sj_aload_n (pl := 0) S dX0_takeStepBack_31 rfl rfl ?_
    refine sj_getr S fX_2_6 iX0_takeStepBack_0 rfl (by decide) mX0_takeStepBack_28 dX0_takeStepBack_32 ?_
    refine sj_aload_n (pl := 0) S dX0_takeStepBack_35 rfl rfl ?_
    refine sj_geti S fX_2_8 iX0_takeStepBack_0 rfl (by decide) mX0_takeStepBack_43 dX0_takeStepBack_36 ?_
    refine sj_bipush S dX0_takeStepBack_39 (by decide +kernel) ?_
    refine sj_imul S dX0_takeStepBack_41 ?_
    refine sj_aload_n (pl := 0) S dX0_takeStepBack_42 rfl rfl ?_
    refine sj_getr S fX_2_0 iX0_takeStepBack_0 rfl (by decide) mX0_takeStepBack_9 dX0_takeStepBack_43 ?_
    refine sj_iconst S dX0_takeStepBack_46 ?_
    refine sj_aload_n (pl := 0) S dX0_takeStepBack_47 rfl rfl ?_
    refine sj_geti S fX_2_1 iX0_takeStepBack_0 rfl (by decide) mX0_takeStepBack_40 dX0_takeStepBack_48 ?_
    refine sj_copy S aX_7 aX_3 H.1 (List.mem_of_getElem? (i := 6) rfl) (List.mem_of_getElem? (i := 7) rfl) (List.mem_of_getElem? (i := 8) rfl) (List.mem_of_getElem? (i := 9) rfl) (Nat.le_of_ble_eq_true rfl) (Nat.le_of_ble_eq_true (by decide +kernel)) dX0_takeStepBack_51 (fun st165 est165 => ?_)
    have H := H.2 st165 est165
    exact hret _ _ _ dX0_takeStepBack_54 H
  · have H := H.2.2 c9
    exact hret _ _ _ dX0_takeStepBack_7 H
set_option maxRecDepth 100000 in
set_option maxHeartbeats 4000000 in
theorem kX0_takeStepBack (l : Launch) (g : sq_G) (st : sq_S) (Q : Int → sq_S → Prop) (H : wX0_takeStepBack  st Q) : sq_Cv l yX0_takeStepBack wsX0_takeStepBack rX0_takeStepBack g sq_X [.ref (g.2.2 2)] st Q := by
  refine sq_in_v (cc := cX0_takeStepBack) (nL := 1) (own := RX0) (by decide) rfl rfl (Nat.le_of_ble_eq_true rfl) ?_
  intro J S hret
  exact tX0_takeStepBack_0 S hret  st H
/-! undo ()I : X3_undo -/
theorem iX3_undo_0 : ∀ w ∈ u_ws RX0 TX0 9, w ∈ wsX3_undo := fun _ h => List.mem_cons_of_mem _ (List.mem_append_right _ h)
theorem iX3_undo_3 : ∀ w ∈ u_ws RX3 TX3 8, w ∈ wsX3_undo := fun _ h => List.mem_cons_of_mem _ (List.mem_append_left _ (List.mem_append_right _ h))
theorem mX3_undo_16 : Cond.fieldLink RX3 16 (TX3 2).1 (TX3 2).2.1 (TX3 2).2.2.1 ∈ wsX3_undo := List.mem_of_getElem? (i := 1) rfl
theorem mX3_undo_103 : Cond.fieldLink RX3 103 (TX0 8).1 (TX0 8).2.1 (TX0 8).2.2.1 ∈ wsX3_undo := List.mem_of_getElem? (i := 2) rfl
def wX3_undo (st : sq_S) (Q : Int → sq_S → Prop) : Prop :=
  sq_rg (st 2 8) ∧ (¬ (st 2 8) = 0 → wX0_takeStepBack st (fun _ st166 => Q (st166 2 8) st166)) ∧ ((st 2 8) = 0 → Q (-3) st)
def rX3_undo : Room := { frames := 2, cells := 0, slots := 0, locals := 60 }
set_option maxRecDepth 100000 in
set_option maxHeartbeats 4000000 in
theorem tX3_undo_0 {l : Launch} {g : sq_G} {J : sq_K} {Q : Int → sq_S → Prop} (S : sq_J l rX3_undo cX3_undo 1 RX3 wsX3_undo g sq_X J) (hret : ∀ (pc : Nat) (lv : List (Nat × Value)) (r : Int) (st' : sq_S), decode cX3_undo pc = .ok (.ireturn, 1) → Q r st' → J pc lv [.int (sq_z r)] st') (st : sq_S) (H : wX3_undo st Q) : J 0 [(0, .ref (g.2.2 0))] [] st := by
  unfold wX3_undo at H
  refine sj_aload_n (pl := 0) S dX3_undo_0 rfl rfl ?_
  refine sj_getr S fX_0_2 iX3_undo_3 rfl (by decide) mX3_undo_16 dX3_undo_1 ?_
  refine sj_geti S fX_2_8 iX3_undo_0 rfl (by decide) mX3_undo_103 dX3_undo_4 ?_
  refine sj_if_ne (tgt := 13) S H.1 dX3_undo_7 (by decide) (fun c9 => ?_) (fun c9 => ?_)
  · have H := H.2.1 c9
    refine sj_aload_n (pl := 0) S dX3_undo_13 rfl rfl ?_
    refine sj_getr S fX_0_2 iX3_undo_3 rfl (by decide) mX3_undo_16 dX3_undo_14 ?_
    refine sj_vv (rest := []) (q0 := 2) (ci := 0) S (kX0_takeStepBack l g st _ H) (fun s args hts => cwV 0 hts gX3_undo_X0_takeStepBack rfl rfl rfl (by decide +kernel) ⟨Nat.le_of_ble_eq_true rfl, Nat.le_of_ble_eq_true rfl⟩) rfl rfl rfl rfl (Nat.le_of_ble_eq_true rfl) dX3_undo_17 (fun st166 H => ?_)
    refine sj_aload_n (pl := 0) S dX3_undo_20 rfl rfl ?_
    refine sj_getr S fX_0_2 iX3_undo_3 rfl (by decide) mX3_undo_16 dX3_undo_21 ?_
    refine sj_geti S fX_2_8 iX3_undo_0 rfl (by decide) mX3_undo_103 dX3_undo_24 ?_
    exact hret _ _ _ _ dX3_undo_27 H
  · have H := H.2.2 c9
    refine sj_bipush S dX3_undo_10 (by decide +kernel) ?_
    exact hret _ _ _ _ dX3_undo_12 H
set_option maxRecDepth 100000 in
set_option maxHeartbeats 4000000 in
theorem kX3_undo (l : Launch) (g : sq_G) (st : sq_S) (Q : Int → sq_S → Prop) (H : wX3_undo  st Q) : sq_Ci l yX3_undo wsX3_undo rX3_undo g sq_X [.ref (g.2.2 0)] st Q := by
  refine sq_in_i (cc := cX3_undo) (nL := 1) (own := RX3) (by decide) rfl rfl (Nat.le_of_ble_eq_true rfl) ?_
  intro J S hret
  exact tX3_undo_0 S hret  st H
/-! times (I)I : X3_times -/
theorem iX3_times_0 : ∀ w ∈ u_ws RX0 TX0 9, w ∈ wsX3_times := fun _ h => List.mem_cons_of_mem _ (List.mem_append_right _ h)
theorem iX3_times_3 : ∀ w ∈ u_ws RX3 TX3 8, w ∈ wsX3_times := fun _ h => List.mem_cons_of_mem _ (List.mem_append_left _ (List.mem_append_right _ h))
theorem mX3_times_16 : Cond.fieldLink RX3 16 (TX3 2).1 (TX3 2).2.1 (TX3 2).2.2.1 ∈ wsX3_times := List.mem_of_getElem? (i := 1) rfl
theorem mX3_times_49 : Cond.fieldLink RX3 49 (TX0 0).1 (TX0 0).2.1 (TX0 0).2.2.1 ∈ wsX3_times := List.mem_of_getElem? (i := 3) rfl
theorem mX3_times_56 : Cond.fieldLink RX3 56 (TX0 1).1 (TX0 1).2.1 (TX0 1).2.2.1 ∈ wsX3_times := List.mem_of_getElem? (i := 2) rfl
def bX3_times_14 (K14 : Int → Int → Int → sq_S → Prop) (Q : Int → sq_S → Prop) (v1 v2 v3 : Int) (st : sq_S) : Prop :=
  (sq_rg v3 ∧ sq_rg (st 2 1)) ∧ ((st 2 1) ≤ v3 → Q v2 st) ∧ (v3 < (st 2 1) → sq_ib v3 48 ∧ ((sq_rg (st 3 v3.toNat) ∧ sq_rg v1) ∧ (¬ (st 3 v3.toNat) = v1 → K14 v1 v2 (v3 + 1) st) ∧ ((st 3 v3.toNat) = v1 → K14 v1 (v2 + 1) (v3 + 1) st)))
def bX3_times_0 (K14 : Int → Int → Int → sq_S → Prop) (Q : Int → sq_S → Prop) (v1 : Int) (st : sq_S) : Prop :=
  wX3_isNoLetter v1 st (fun r167 st168 => sq_rg r167 ∧ (r167 = 0 → K14 v1 0 0 st168) ∧ (¬ r167 = 0 → Q (-2) st168))
def wX3_times (v1 : Int) (st : sq_S) (Q : Int → sq_S → Prop) : Prop :=
  ∀ (K14 : Int → Int → Int → sq_S → Prop), (∀ (v1 v2 v3 : Int) (st : sq_S), bX3_times_14 K14 Q v1 v2 v3 st → K14 v1 v2 v3 st) → bX3_times_0 K14 Q v1 st
def rX3_times : Room := { frames := 2, cells := 0, slots := 0, locals := 42 }
def qX3_times_14 (J : sq_K) (g : sq_G) : Int → Int → Int → sq_S → Prop := fun v1 v2 v3 st => J 14 [(0, .ref (g.2.2 0)), (1, .int (sq_z v1)), (2, .int (sq_z v2)), (3, .int (sq_z v3))] [] st
set_option maxRecDepth 100000 in
set_option maxHeartbeats 4000000 in
theorem tX3_times_14 {l : Launch} {g : sq_G} {J : sq_K} {Q : Int → sq_S → Prop} (S : sq_J l rX3_times cX3_times 4 RX3 wsX3_times g sq_X J) (hret : ∀ (pc : Nat) (lv : List (Nat × Value)) (r : Int) (st' : sq_S), decode cX3_times pc = .ok (.ireturn, 1) → Q r st' → J pc lv [.int (sq_z r)] st') (v1 v2 v3 : Int) (st : sq_S) (H : bX3_times_14 (qX3_times_14 J g) Q v1 v2 v3 st) : J 14 [(0, .ref (g.2.2 0)), (1, .int (sq_z v1)), (2, .int (sq_z v2)), (3, .int (sq_z v3))] [] st := by
  unfold bX3_times_14 at H
  refine sj_iload_n (pl := 3) S dX3_times_14 rfl rfl ?_
  refine sj_aload_n (pl := 0) S dX3_times_15 rfl rfl ?_
  refine sj_getr S fX_0_2 iX3_times_3 rfl (by decide) mX3_times_16 dX3_times_16 ?_
  refine sj_geti S fX_2_1 iX3_times_0 rfl (by decide) mX3_times_56 dX3_times_19 ?_
  refine sj_icmp_ge (tgt := 47) S H.1 dX3_times_22 (by decide) (fun c9 => ?_) (fun c9 => ?_)
  · have H := H.2.1 c9
    refine sj_iload_n (pl := 2) S dX3_times_47 rfl rfl ?_
    exact hret _ _ _ _ dX3_times_48 H
  · have H := H.2.2 c9
    refine sj_aload_n (pl := 0) S dX3_times_25 rfl rfl ?_
    refine sj_getr S fX_0_2 iX3_times_3 rfl (by decide) mX3_times_16 dX3_times_26 ?_
    refine sj_getr S fX_2_0 iX3_times_0 rfl (by decide) mX3_times_49 dX3_times_29 ?_
    refine sj_iload_n (pl := 3) S dX3_times_32 rfl rfl ?_
    refine sj_iald S aX_3 H.1 dX3_times_33 ?_
    have H := H.2
    refine sj_iload_n (pl := 1) S dX3_times_34 rfl rfl ?_
    refine sj_icmp_ne (tgt := 41) S H.1 dX3_times_35 (by decide) (fun c9 => ?_) (fun c9 => ?_)
    · have H := H.2.1 c9
      refine sj_iinc (pl := 3) (lv' := [(0, .ref (g.2.2 0)), (1, .int (sq_z v1)), (2, .int (sq_z v2))]) S dX3_times_41 rfl (by decide) (fun _ => rfl) ?_
      refine sj_goto (tgt := 14) S dX3_times_44 (by decide) ?_
      exact sj_lv S [1, 2, 3, 0] rfl H
    · have H := H.2.2 c9
      refine sj_iinc (pl := 2) (lv' := [(0, .ref (g.2.2 0)), (1, .int (sq_z v1)), (3, .int (sq_z v3))]) S dX3_times_38 rfl (by decide) (fun _ => rfl) ?_
      refine sj_iinc (pl := 3) (lv' := [(2, .int (sq_z (v2 + 1))), (0, .ref (g.2.2 0)), (1, .int (sq_z v1))]) S dX3_times_41 rfl (by decide) (fun _ => rfl) ?_
      refine sj_goto (tgt := 14) S dX3_times_44 (by decide) ?_
      exact sj_lv S [2, 3, 1, 0] rfl H
set_option maxRecDepth 100000 in
set_option maxHeartbeats 4000000 in
theorem tX3_times_0 {l : Launch} {g : sq_G} {J : sq_K} {Q : Int → sq_S → Prop} (S : sq_J l rX3_times cX3_times 4 RX3 wsX3_times g sq_X J) (hret : ∀ (pc : Nat) (lv : List (Nat × Value)) (r : Int) (st' : sq_S), decode cX3_times pc = .ok (.ireturn, 1) → Q r st' → J pc lv [.int (sq_z r)] st') (v1 : Int) (st : sq_S) (H : bX3_times_0 (qX3_times_14 J g) Q v1 st) : J 0 [(0, .ref (g.2.2 0)), (1, .int (sq_z v1))] [] st := by
  unfold bX3_times_0 at H
  refine sj_iload_n (pl := 1) S dX3_times_0 rfl rfl ?_
  refine sj_si (rest := []) S (kX3_isNoLetter l g v1 st _ H) (fun s args hts => va_cwS 1 hts gX3_times_X3_isNoLetter rfl rfl rfl (by decide +kernel) ⟨Nat.le_of_ble_eq_true rfl, Nat.le_of_ble_eq_true rfl⟩) rfl rfl (Nat.le_of_ble_eq_true rfl) dX3_times_1 (fun r167 st168 H => ?_)
  refine sj_if_eq (tgt := 10) S H.1 dX3_times_4 (by decide) (fun c9 => ?_) (fun c9 => ?_)
  · have H := H.2.1 c9
    refine sj_iconst S dX3_times_10 ?_
    refine sj_istore_na (lv' := [(0, .ref (g.2.2 0)), (1, .int (sq_z v1))]) S dX3_times_11 rfl (by decide) (fun _ => rfl) ?_
    refine sj_iconst S dX3_times_12 ?_
    refine sj_istore_na (lv' := [(2, .int (sq_z 0)), (0, .ref (g.2.2 0)), (1, .int (sq_z v1))]) S dX3_times_13 rfl (by decide) (fun _ => rfl) ?_
    exact sj_lv S [2, 3, 1, 0] rfl H
  · have H := H.2.2 c9
    refine sj_bipush S dX3_times_7 (by decide +kernel) ?_
    exact hret _ _ _ _ dX3_times_9 H
set_option maxRecDepth 100000 in
set_option maxHeartbeats 4000000 in
theorem kX3_times (l : Launch) (g : sq_G) (v1 : Int) (st : sq_S) (Q : Int → sq_S → Prop) (H : wX3_times v1 st Q) : sq_Ci l yX3_times wsX3_times rX3_times g sq_X [.ref (g.2.2 0), .int (sq_z v1)] st Q := by
  refine sq_in_i (cc := cX3_times) (nL := 4) (own := RX3) (by decide) rfl rfl (Nat.le_of_ble_eq_true rfl) ?_
  intro J S hret
  exact tX3_times_0 S hret v1 st (H (qX3_times_14 J g) (tX3_times_14 S hret))
/-! sameAt (I)I : X3_sameAt -/
theorem iX3_sameAt_0 : ∀ w ∈ u_ws RX0 TX0 9, w ∈ wsX3_sameAt := fun _ h => List.mem_cons_of_mem _ (List.mem_append_right _ h)
theorem iX3_sameAt_3 : ∀ w ∈ u_ws RX3 TX3 8, w ∈ wsX3_sameAt := fun _ h => List.mem_cons_of_mem _ (List.mem_append_left _ (List.mem_append_right _ h))
theorem mX3_sameAt_16 : Cond.fieldLink RX3 16 (TX3 2).1 (TX3 2).2.1 (TX3 2).2.2.1 ∈ wsX3_sameAt := List.mem_of_getElem? (i := 1) rfl
theorem mX3_sameAt_49 : Cond.fieldLink RX3 49 (TX0 0).1 (TX0 0).2.1 (TX0 0).2.2.1 ∈ wsX3_sameAt := List.mem_of_getElem? (i := 3) rfl
theorem mX3_sameAt_56 : Cond.fieldLink RX3 56 (TX0 1).1 (TX0 1).2.1 (TX0 1).2.2.1 ∈ wsX3_sameAt := List.mem_of_getElem? (i := 2) rfl
def bX3_sameAt_4 (K4 : Int → Int → Int → sq_S → Prop) (Q : Int → sq_S → Prop) (v1 v2 v3 : Int) (st : sq_S) : Prop :=
  (sq_rg v3 ∧ sq_rg (st 2 1)) ∧ ((st 2 1) ≤ v3 → Q v2 st) ∧ (v3 < (st 2 1) → sq_ib (v3 - v1) 48 ∧ (sq_ib v3 48 ∧ ((sq_rg (st 3 ((v3 - v1)).toNat) ∧ sq_rg (st 3 v3.toNat)) ∧ (¬ (st 3 ((v3 - v1)).toNat) = (st 3 v3.toNat) → K4 v1 v2 (v3 + 1) st) ∧ ((st 3 ((v3 - v1)).toNat) = (st 3 v3.toNat) → K4 v1 (v2 + 1) (v3 + 1) st))))
def bX3_sameAt_0 (K4 : Int → Int → Int → sq_S → Prop) (Q : Int → sq_S → Prop) (v1 : Int) (st : sq_S) : Prop :=
  K4 v1 0 v1 st
def wX3_sameAt (v1 : Int) (st : sq_S) (Q : Int → sq_S → Prop) : Prop :=
  ∀ (K4 : Int → Int → Int → sq_S → Prop), (∀ (v1 v2 v3 : Int) (st : sq_S), bX3_sameAt_4 K4 Q v1 v2 v3 st → K4 v1 v2 v3 st) → bX3_sameAt_0 K4 Q v1 st
def rX3_sameAt : Room := { frames := 0, cells := 0, slots := 0, locals := 0 }
def qX3_sameAt_4 (J : sq_K) (g : sq_G) : Int → Int → Int → sq_S → Prop := fun v1 v2 v3 st => J 4 [(0, .ref (g.2.2 0)), (1, .int (sq_z v1)), (2, .int (sq_z v2)), (3, .int (sq_z v3))] [] st
set_option maxRecDepth 100000 in
set_option maxHeartbeats 4000000 in
theorem tX3_sameAt_4 {l : Launch} {g : sq_G} {J : sq_K} {Q : Int → sq_S → Prop} (S : sq_J l rX3_sameAt cX3_sameAt 4 RX3 wsX3_sameAt g sq_X J) (hret : ∀ (pc : Nat) (lv : List (Nat × Value)) (r : Int) (st' : sq_S), decode cX3_sameAt pc = .ok (.ireturn, 1) → Q r st' → J pc lv [.int (sq_z r)] st') (v1 v2 v3 : Int) (st : sq_S) (H : bX3_sameAt_4 (qX3_sameAt_4 J g) Q v1 v2 v3 st) : J 4 [(0, .ref (g.2.2 0)), (1, .int (sq_z v1)), (2, .int (sq_z v2)), (3, .int (sq_z v3))] [] st := by
  unfold bX3_sameAt_4 at H
  refine sj_iload_n (pl := 3) S dX3_sameAt_4 rfl rfl ?_
  refine sj_aload_n (pl := 0) S dX3_sameAt_5 rfl rfl ?_
  refine sj_getr S fX_0_2 iX3_sameAt_3 rfl (by decide) mX3_sameAt_16 dX3_sameAt_6 ?_
  refine sj_geti S fX_2_1 iX3_sameAt_0 rfl (by decide) mX3_sameAt_56 dX3_sameAt_9 ?_
  refine sj_icmp_ge (tgt := 47) S H.1 dX3_sameAt_12 (by decide) (fun c9 => ?_) (fun c9 => ?_)
  · have H := H.2.1 c9
    refine sj_iload_n (pl := 2) S dX3_sameAt_47 rfl rfl ?_
    exact hret _ _ _ _ dX3_sameAt_48 H
  · have H := H.2.2 c9
    refine sj_aload_n (pl := 0) S dX3_sameAt_15 rfl rfl ?_
    refine sj_getr S fX_0_2 iX3_sameAt_3 rfl (by decide) mX3_sameAt_16 dX3_sameAt_16 ?_
    refine sj_getr S fX_2_0 iX3_sameAt_0 rfl (by decide) mX3_sameAt_49 dX3_sameAt_19 ?_
    refine sj_iload_n (pl := 3) S dX3_sameAt_22 rfl rfl ?_
    refine sj_iload_n (pl := 1) S dX3_sameAt_23 rfl rfl ?_
    refine sj_isub S dX3_sameAt_24 ?_
    refine sj_iald S aX_3 H.1 dX3_sameAt_25 ?_
    have H := H.2
    refine sj_aload_n (pl := 0) S dX3_sameAt_26 rfl rfl ?_
    refine sj_getr S fX_0_2 iX3_sameAt_3 rfl (by decide) mX3_sameAt_16 dX3_sameAt_27 ?_
    refine sj_getr S fX_2_0 iX3_sameAt_0 rfl (by decide) mX3_sameAt_49 dX3_sameAt_30 ?_
    refine sj_iload_n (pl := 3) S dX3_sameAt_33 rfl rfl ?_
    refine sj_iald S aX_3 H.1 dX3_sameAt_34 ?_
    have H := H.2
    refine sj_icmp_ne (tgt := 41) S H.1 dX3_sameAt_35 (by decide) (fun c9 => ?_) (fun c9 => ?_)
    · have H := H.2.1 c9
      refine sj_iinc (pl := 3) (lv' := [(0, .ref (g.2.2 0)), (1, .int (sq_z v1)), (2, .int (sq_z v2))]) S dX3_sameAt_41 rfl (by decide) (fun _ => rfl) ?_
      refine sj_goto (tgt := 4) S dX3_sameAt_44 (by decide) ?_
      exact sj_lv S [1, 2, 3, 0] rfl H
    · have H := H.2.2 c9
      refine sj_iinc (pl := 2) (lv' := [(0, .ref (g.2.2 0)), (1, .int (sq_z v1)), (3, .int (sq_z v3))]) S dX3_sameAt_38 rfl (by decide) (fun _ => rfl) ?_
      refine sj_iinc (pl := 3) (lv' := [(2, .int (sq_z (v2 + 1))), (0, .ref (g.2.2 0)), (1, .int (sq_z v1))]) S dX3_sameAt_41 rfl (by decide) (fun _ => rfl) ?_
      refine sj_goto (tgt := 4) S dX3_sameAt_44 (by decide) ?_
      exact sj_lv S [2, 3, 1, 0] rfl H
set_option maxRecDepth 100000 in
set_option maxHeartbeats 4000000 in
theorem tX3_sameAt_0 {l : Launch} {g : sq_G} {J : sq_K} {Q : Int → sq_S → Prop} (S : sq_J l rX3_sameAt cX3_sameAt 4 RX3 wsX3_sameAt g sq_X J) (hret : ∀ (pc : Nat) (lv : List (Nat × Value)) (r : Int) (st' : sq_S), decode cX3_sameAt pc = .ok (.ireturn, 1) → Q r st' → J pc lv [.int (sq_z r)] st') (v1 : Int) (st : sq_S) (H : bX3_sameAt_0 (qX3_sameAt_4 J g) Q v1 st) : J 0 [(0, .ref (g.2.2 0)), (1, .int (sq_z v1))] [] st := by
  unfold bX3_sameAt_0 at H
  refine sj_iconst S dX3_sameAt_0 ?_
  refine sj_istore_na (lv' := [(0, .ref (g.2.2 0)), (1, .int (sq_z v1))]) S dX3_sameAt_1 rfl (by decide) (fun _ => rfl) ?_
  refine sj_iload_n (pl := 2) S dX3_sameAt_2 rfl rfl ?_
  refine sj_istore_na (lv' := [(2, .int (sq_z 0)), (0, .ref (g.2.2 0)), (1, .int (sq_z v1))]) S dX3_sameAt_3 rfl (by decide) (fun _ => rfl) ?_
  exact sj_lv S [2, 3, 1, 0] rfl H
set_option maxRecDepth 100000 in
set_option maxHeartbeats 4000000 in
theorem kX3_sameAt (l : Launch) (g : sq_G) (v1 : Int) (st : sq_S) (Q : Int → sq_S → Prop) (H : wX3_sameAt v1 st Q) : sq_Ci l yX3_sameAt wsX3_sameAt rX3_sameAt g sq_X [.ref (g.2.2 0), .int (sq_z v1)] st Q := by
  refine sq_in_i (cc := cX3_sameAt) (nL := 4) (own := RX3) (by decide) rfl rfl (Nat.le_of_ble_eq_true rfl) ?_
  intro J S hret
  exact tX3_sameAt_0 S hret v1 st (H (qX3_sameAt_4 J g) (tX3_sameAt_4 S hret))
/-! same (I)I : X3_same -/
def wX3_same (v1 : Int) (st : sq_S) (Q : Int → sq_S → Prop) : Prop :=
  wX3_isOutside v1 1 47 st (fun r169 st170 => sq_rg r169 ∧ (r169 = 0 → wX3_sameAt v1 st170 (fun r171 st172 => Q r171 st172)) ∧ (¬ r169 = 0 → Q (-2) st170))
def rX3_same : Room := { frames := 1, cells := 0, slots := 0, locals := 23 }
set_option maxRecDepth 100000 in
set_option maxHeartbeats 4000000 in
theorem tX3_same_0 {l : Launch} {g : sq_G} {J : sq_K} {Q : Int → sq_S → Prop} (S : sq_J l rX3_same cX3_same 2 RX3 wsX3_same g sq_X J) (hret : ∀ (pc : Nat) (lv : List (Nat × Value)) (r : Int) (st' : sq_S), decode cX3_same pc = .ok (.ireturn, 1) → Q r st' → J pc lv [.int (sq_z r)] st') (v1 : Int) (st : sq_S) (H : wX3_same v1 st Q) : J 0 [(0, .ref (g.2.2 0)), (1, .int (sq_z v1))] [] st := by
  unfold wX3_same at H
  refine sj_iload_n (pl := 1) S dX3_same_0 rfl rfl ?_
  refine sj_iconst S dX3_same_1 ?_
  refine sj_bipush S dX3_same_2 (by decide +kernel) ?_
  refine sj_si (rest := []) S (kX3_isOutside l g v1 1 47 st _ H) (fun s args hts => va_cwS 3 hts gX3_same_X3_isOutside rfl rfl rfl (by decide +kernel) ⟨Nat.le_of_ble_eq_true rfl, Nat.le_of_ble_eq_true rfl⟩) rfl rfl (Nat.le_of_ble_eq_true rfl) dX3_same_4 (fun r169 st170 H => ?_)
  refine sj_if_eq (tgt := 13) S H.1 dX3_same_7 (by decide) (fun c9 => ?_) (fun c9 => ?_)
  · have H := H.2.1 c9
    refine sj_aload_n (pl := 0) S dX3_same_13 rfl rfl ?_
    refine sj_iload_n (pl := 1) S dX3_same_14 rfl rfl ?_
    refine sj_vi (rest := []) (q0 := 0) (ci := 3) S (kX3_sameAt l g v1 st170 _ H) (fun s args hts => cwV 1 hts gX3_same_X3_sameAt rfl rfl rfl (by decide +kernel) ⟨Nat.le_of_ble_eq_true rfl, Nat.le_of_ble_eq_true rfl⟩) rfl rfl rfl rfl (Nat.le_of_ble_eq_true rfl) dX3_same_15 (fun r171 st172 H => ?_)
    exact hret _ _ _ _ dX3_same_18 H
  · have H := H.2.2 c9
    refine sj_bipush S dX3_same_10 (by decide +kernel) ?_
    exact hret _ _ _ _ dX3_same_12 H
set_option maxRecDepth 100000 in
set_option maxHeartbeats 4000000 in
theorem kX3_same (l : Launch) (g : sq_G) (v1 : Int) (st : sq_S) (Q : Int → sq_S → Prop) (H : wX3_same v1 st Q) : sq_Ci l yX3_same wsX3_same rX3_same g sq_X [.ref (g.2.2 0), .int (sq_z v1)] st Q := by
  refine sq_in_i (cc := cX3_same) (nL := 2) (own := RX3) (by decide) rfl rfl (Nat.le_of_ble_eq_true rfl) ?_
  intro J S hret
  exact tX3_same_0 S hret v1 st H
/-! length (I)I : X3_length -/
theorem iX3_length_0 : ∀ w ∈ u_ws RX0 TX0 9, w ∈ wsX3_length := fun _ h => List.mem_cons_of_mem _ (List.mem_append_right _ h)
theorem iX3_length_3 : ∀ w ∈ u_ws RX3 TX3 8, w ∈ wsX3_length := fun _ h => List.mem_cons_of_mem _ (List.mem_append_left _ (List.mem_append_right _ h))
theorem mX3_length_16 : Cond.fieldLink RX3 16 (TX3 2).1 (TX3 2).2.1 (TX3 2).2.2.1 ∈ wsX3_length := List.mem_of_getElem? (i := 1) rfl
theorem mX3_length_56 : Cond.fieldLink RX3 56 (TX0 1).1 (TX0 1).2.1 (TX0 1).2.2.1 ∈ wsX3_length := List.mem_of_getElem? (i := 2) rfl
def bX3_length_38 (K38 : Int → Int → Int → Int → sq_S → Prop) (Q : Int → sq_S → Prop) (v1 v2 v3 v4 : Int) (st : sq_S) : Prop :=
  (sq_rg v4 ∧ sq_rg v1) ∧ (v1 < v4 → Q v2 st) ∧ (v4 ≤ v1 → (sq_rg v4 ∧ sq_rg (st 2 1)) ∧ ((st 2 1) ≤ v4 → Q v2 st) ∧ (v4 < (st 2 1) → wX3_sameAt v4 st (fun r177 st178 => (sq_rg (r177 * ((st178 2 1) - v2)) ∧ sq_rg (v3 * ((st178 2 1) - v4))) ∧ ((r177 * ((st178 2 1) - v2)) ≤ (v3 * ((st178 2 1) - v4)) → K38 v1 v2 v3 (v4 + 1) st178) ∧ ((v3 * ((st178 2 1) - v4)) < (r177 * ((st178 2 1) - v2)) → K38 v1 v4 r177 (v4 + 1) st178))))
def bX3_length_0 (K38 : Int → Int → Int → Int → sq_S → Prop) (Q : Int → sq_S → Prop) (v1 : Int) (st : sq_S) : Prop :=
  wX3_isOutside v1 1 20 st (fun r173 st174 => sq_rg r173 ∧ (r173 = 0 → (sq_rg (st174 2 1) ∧ sq_rg 2) ∧ (2 ≤ (st174 2 1) → wX3_sameAt 1 st174 (fun r175 st176 => K38 v1 1 r175 2 st176)) ∧ ((st174 2 1) < 2 → Q (-6) st174)) ∧ (¬ r173 = 0 → Q (-2) st174))
def wX3_length (v1 : Int) (st : sq_S) (Q : Int → sq_S → Prop) : Prop :=
  ∀ (K38 : Int → Int → Int → Int → sq_S → Prop), (∀ (v1 v2 v3 v4 : Int) (st : sq_S), bX3_length_38 K38 Q v1 v2 v3 v4 st → K38 v1 v2 v3 v4 st) → bX3_length_0 K38 Q v1 st
def rX3_length : Room := { frames := 1, cells := 0, slots := 0, locals := 23 }
def qX3_length_38 (J : sq_K) (g : sq_G) : Int → Int → Int → Int → sq_S → Prop := fun v1 v2 v3 v4 st => J 38 [(0, .ref (g.2.2 0)), (1, .int (sq_z v1)), (2, .int (sq_z v2)), (3, .int (sq_z v3)), (4, .int (sq_z v4))] [] st
set_option maxRecDepth 100000 in
set_option maxHeartbeats 4000000 in
theorem tX3_length_38 {l : Launch} {g : sq_G} {J : sq_K} {Q : Int → sq_S → Prop} (S : sq_J l rX3_length cX3_length 6 RX3 wsX3_length g sq_X J) (hret : ∀ (pc : Nat) (lv : List (Nat × Value)) (r : Int) (st' : sq_S), decode cX3_length pc = .ok (.ireturn, 1) → Q r st' → J pc lv [.int (sq_z r)] st') (v1 v2 v3 v4 : Int) (st : sq_S) (H : bX3_length_38 (qX3_length_38 J g) Q v1 v2 v3 v4 st) : J 38 [(0, .ref (g.2.2 0)), (1, .int (sq_z v1)), (2, .int (sq_z v2)), (3, .int (sq_z v3)), (4, .int (sq_z v4))] [] st := by
  unfold bX3_length_38 at H
  refine sj_iload (pl := 4) S dX3_length_38 rfl ?_
  refine sj_iload_n (pl := 1) S dX3_length_40 rfl rfl ?_
  refine sj_icmp_gt (tgt := 103) S H.1 dX3_length_41 (by decide) (fun c9 => ?_) (fun c9 => ?_)
  · have H := H.2.1 c9
    refine sj_iload_n (pl := 2) S dX3_length_103 rfl rfl ?_
    exact hret _ _ _ _ dX3_length_104 H
  · have H := H.2.2 c9
    refine sj_iload (pl := 4) S dX3_length_44 rfl ?_
    refine sj_aload_n (pl := 0) S dX3_length_46 rfl rfl ?_
    refine sj_getr S fX_0_2 iX3_length_3 rfl (by decide) mX3_length_16 dX3_length_47 ?_
    refine sj_geti S fX_2_1 iX3_length_0 rfl (by decide) mX3_length_56 dX3_length_50 ?_
    refine sj_icmp_ge (tgt := 103) S H.1 dX3_length_53 (by decide) (fun c9 => ?_) (fun c9 => ?_)
    · have H := H.2.1 c9
      refine sj_iload_n (pl := 2) S dX3_length_103 rfl rfl ?_
      exact hret _ _ _ _ dX3_length_104 H
    · have H := H.2.2 c9
      refine sj_aload_n (pl := 0) S dX3_length_56 rfl rfl ?_
      refine sj_iload (pl := 4) S dX3_length_57 rfl ?_
      refine sj_vi (rest := []) (q0 := 0) (ci := 3) S (kX3_sameAt l g v4 st _ H) (fun s args hts => cwV 1 hts gX3_length_X3_sameAt rfl rfl rfl (by decide +kernel) ⟨Nat.le_of_ble_eq_true rfl, Nat.le_of_ble_eq_true rfl⟩) rfl rfl rfl rfl (Nat.le_of_ble_eq_true rfl) dX3_length_59 (fun r177 st178 H => ?_)
      refine sj_istorea (lv' := [(0, .ref (g.2.2 0)), (1, .int (sq_z v1)), (2, .int (sq_z v2)), (3, .int (sq_z v3)), (4, .int (sq_z v4))]) S dX3_length_62 (by decide) (fun _ => rfl) ?_
      refine sj_iload (pl := 0) S dX3_length_64 rfl ?_
      refine sj_aload_n (pl := 1) S dX3_length_66 rfl rfl ?_
      refine sj_getr S fX_0_2 iX3_length_3 rfl (by decide) mX3_length_16 dX3_length_67 ?_
      refine sj_geti S fX_2_1 iX3_length_0 rfl (by decide) mX3_length_56 dX3_length_70 ?_
      refine sj_iload_n (pl := 3) S dX3_length_73 rfl rfl ?_
      refine sj_isub S dX3_length_74 ?_
      refine sj_imul S dX3_length_75 ?_
      refine sj_iload_n (pl := 4) S dX3_length_76 rfl rfl ?_
      refine sj_aload_n (pl := 1) S dX3_length_77 rfl rfl ?_
      refine sj_getr S fX_0_2 iX3_length_3 rfl (by decide) mX3_length_16 dX3_length_78 ?_
      refine sj_geti S fX_2_1 iX3_length_0 rfl (by decide) mX3_length_56 dX3_length_81 ?_
      refine sj_iload (pl := 5) S dX3_length_84 rfl ?_
      refine sj_isub S dX3_length_86 ?_
      refine sj_imul S dX3_length_87 ?_
      refine sj_icmp_le (tgt := 97) S H.1 dX3_length_88 (by decide) (fun c9 => ?_) (fun c9 => ?_)
      · have H := H.2.1 c9
        refine sj_iinc (pl := 5) (lv' := [(5, .int (sq_z r177)), (0, .ref (g.2.2 0)), (1, .int (sq_z v1)), (2, .int (sq_z v2)), (3, .int (sq_z v3))]) S dX3_length_97 rfl (by decide) (fun _ => rfl) ?_
        refine sj_goto (tgt := 38) S dX3_length_100 (by decide) ?_
        exact sj_lv S [2, 3, 4, 5, 0] rfl H
      · have H := H.2.2 c9
        refine sj_iload (pl := 5) S dX3_length_91 rfl ?_
        refine sj_istore_na (lv' := [(5, .int (sq_z r177)), (0, .ref (g.2.2 0)), (1, .int (sq_z v1)), (3, .int (sq_z v3)), (4, .int (sq_z v4))]) S dX3_length_93 rfl (by decide) (fun _ => rfl) ?_
        refine sj_iload (pl := 1) S dX3_length_94 rfl ?_
        refine sj_istore_na (lv' := [(2, .int (sq_z v4)), (5, .int (sq_z r177)), (0, .ref (g.2.2 0)), (1, .int (sq_z v1)), (4, .int (sq_z v4))]) S dX3_length_96 rfl (by decide) (fun _ => rfl) ?_
        refine sj_iinc (pl := 5) (lv' := [(3, .int (sq_z r177)), (2, .int (sq_z v4)), (5, .int (sq_z r177)), (0, .ref (g.2.2 0)), (1, .int (sq_z v1))]) S dX3_length_97 rfl (by decide) (fun _ => rfl) ?_
        refine sj_goto (tgt := 38) S dX3_length_100 (by decide) ?_
        exact sj_lv S [4, 5, 2, 1, 0] rfl H
set_option maxRecDepth 100000 in
set_option maxHeartbeats 4000000 in
theorem tX3_length_0 {l : Launch} {g : sq_G} {J : sq_K} {Q : Int → sq_S → Prop} (S : sq_J l rX3_length cX3_length 6 RX3 wsX3_length g sq_X J) (hret : ∀ (pc : Nat) (lv : List (Nat × Value)) (r : Int) (st' : sq_S), decode cX3_length pc = .ok (.ireturn, 1) → Q r st' → J pc lv [.int (sq_z r)] st') (v1 : Int) (st : sq_S) (H : bX3_length_0 (qX3_length_38 J g) Q v1 st) : J 0 [(0, .ref (g.2.2 0)), (1, .int (sq_z v1))] [] st := by
  unfold bX3_length_0 at H
  refine sj_iload_n (pl := 1) S dX3_length_0 rfl rfl ?_
  refine sj_iconst S dX3_length_1 ?_
  refine sj_bipush S dX3_length_2 (by decide +kernel) ?_
  refine sj_si (rest := []) S (kX3_isOutside l g v1 1 20 st _ H) (fun s args hts => va_cwS 3 hts gX3_length_X3_isOutside rfl rfl rfl (by decide +kernel) ⟨Nat.le_of_ble_eq_true rfl, Nat.le_of_ble_eq_true rfl⟩) rfl rfl (Nat.le_of_ble_eq_true rfl) dX3_length_4 (fun r173 st174 H => ?_)
  refine sj_if_eq (tgt := 13) S H.1 dX3_length_7 (by decide) (fun c9 => ?_) (fun c9 => ?_)
  · have H := H.2.1 c9
    refine sj_aload_n (pl := 0) S dX3_length_13 rfl rfl ?_
    refine sj_getr S fX_0_2 iX3_length_3 rfl (by decide) mX3_length_16 dX3_length_14 ?_
    refine sj_geti S fX_2_1 iX3_length_0 rfl (by decide) mX3_length_56 dX3_length_17 ?_
    refine sj_iconst S dX3_length_20 ?_
    refine sj_icmp_ge (tgt := 27) S H.1 dX3_length_21 (by decide) (fun c9 => ?_) (fun c9 => ?_)
    · have H := H.2.1 c9
      refine sj_iconst S dX3_length_27 ?_
      refine sj_istore_na (lv' := [(0, .ref (g.2.2 0)), (1, .int (sq_z v1))]) S dX3_length_28 rfl (by decide) (fun _ => rfl) ?_
      refine sj_aload_n (pl := 1) S dX3_length_29 rfl rfl ?_
      refine sj_iconst S dX3_length_30 ?_
      refine sj_vi (rest := []) (q0 := 0) (ci := 3) S (kX3_sameAt l g 1 st174 _ H) (fun s args hts => cwV 1 hts gX3_length_X3_sameAt rfl rfl rfl (by decide +kernel) ⟨Nat.le_of_ble_eq_true rfl, Nat.le_of_ble_eq_true rfl⟩) rfl rfl rfl rfl (Nat.le_of_ble_eq_true rfl) dX3_length_31 (fun r175 st176 H => ?_)
      refine sj_istore_na (lv' := [(2, .int (sq_z 1)), (0, .ref (g.2.2 0)), (1, .int (sq_z v1))]) S dX3_length_34 rfl (by decide) (fun _ => rfl) ?_
      refine sj_iconst S dX3_length_35 ?_
      refine sj_istorea (lv' := [(3, .int (sq_z r175)), (2, .int (sq_z 1)), (0, .ref (g.2.2 0)), (1, .int (sq_z v1))]) S dX3_length_36 (by decide) (fun _ => rfl) ?_
      exact sj_lv S [3, 4, 2, 1, 0] rfl H
    · have H := H.2.2 c9
      refine sj_bipush S dX3_length_24 (by decide +kernel) ?_
      exact hret _ _ _ _ dX3_length_26 H
  · have H := H.2.2 c9
    refine sj_bipush S dX3_length_10 (by decide +kernel) ?_
    exact hret _ _ _ _ dX3_length_12 H
set_option maxRecDepth 100000 in
set_option maxHeartbeats 4000000 in
theorem kX3_length (l : Launch) (g : sq_G) (v1 : Int) (st : sq_S) (Q : Int → sq_S → Prop) (H : wX3_length v1 st Q) : sq_Ci l yX3_length wsX3_length rX3_length g sq_X [.ref (g.2.2 0), .int (sq_z v1)] st Q := by
  refine sq_in_i (cc := cX3_length) (nL := 6) (own := RX3) (by decide) rfl rfl (Nat.le_of_ble_eq_true rfl) ?_
  intro J S hret
  exact tX3_length_0 S hret v1 st (H (qX3_length_38 J g) (tX3_length_38 S hret))
/-! shiftsAheadOf (I)I : X3_shiftsAheadOf -/
theorem iX3_shiftsAheadOf_3 : ∀ w ∈ u_ws RX3 TX3 8, w ∈ wsX3_shiftsAheadOf := fun _ h => List.mem_cons_of_mem _ (List.mem_append_right _ h)
theorem mX3_shiftsAheadOf_31 : Cond.fieldLink RX3 31 (TX3 6).1 (TX3 6).2.1 (TX3 6).2.2.1 ∈ wsX3_shiftsAheadOf := List.mem_of_getElem? (i := 1) rfl
def bX3_shiftsAheadOf_4 (K4 : Int → Int → Int → sq_S → Prop) (Q : Int → sq_S → Prop) (v1 v2 v3 : Int) (st : sq_S) : Prop :=
  (sq_rg v3 ∧ sq_rg 16) ∧ (16 ≤ v3 → Q v2 st) ∧ (v3 < 16 → sq_ib v3 16 ∧ (sq_ib v1 16 ∧ ((sq_rg (st 32 v3.toNat) ∧ sq_rg (st 32 v1.toNat)) ∧ ((st 32 v1.toNat) < (st 32 v3.toNat) → K4 v1 (v2 + 1) (v3 + 1) st) ∧ ((st 32 v3.toNat) ≤ (st 32 v1.toNat) → sq_ib v3 16 ∧ (sq_ib v1 16 ∧ ((sq_rg (st 32 v3.toNat) ∧ sq_rg (st 32 v1.toNat)) ∧ (¬ (st 32 v3.toNat) = (st 32 v1.toNat) → K4 v1 v2 (v3 + 1) st) ∧ ((st 32 v3.toNat) = (st 32 v1.toNat) → (sq_rg v3 ∧ sq_rg v1) ∧ (v1 ≤ v3 → K4 v1 v2 (v3 + 1) st) ∧ (v3 < v1 → K4 v1 (v2 + 1) (v3 + 1) st))))))))
def bX3_shiftsAheadOf_0 (K4 : Int → Int → Int → sq_S → Prop) (Q : Int → sq_S → Prop) (v1 : Int) (st : sq_S) : Prop :=
  K4 v1 0 0 st
def wX3_shiftsAheadOf (v1 : Int) (st : sq_S) (Q : Int → sq_S → Prop) : Prop :=
  ∀ (K4 : Int → Int → Int → sq_S → Prop), (∀ (v1 v2 v3 : Int) (st : sq_S), bX3_shiftsAheadOf_4 K4 Q v1 v2 v3 st → K4 v1 v2 v3 st) → bX3_shiftsAheadOf_0 K4 Q v1 st
def rX3_shiftsAheadOf : Room := { frames := 0, cells := 0, slots := 0, locals := 0 }
def qX3_shiftsAheadOf_4 (J : sq_K) (g : sq_G) : Int → Int → Int → sq_S → Prop := fun v1 v2 v3 st => J 4 [(0, .ref (g.2.2 0)), (1, .int (sq_z v1)), (2, .int (sq_z v2)), (3, .int (sq_z v3))] [] st
set_option maxRecDepth 100000 in
set_option maxHeartbeats 4000000 in
theorem tX3_shiftsAheadOf_4 {l : Launch} {g : sq_G} {J : sq_K} {Q : Int → sq_S → Prop} (S : sq_J l rX3_shiftsAheadOf cX3_shiftsAheadOf 4 RX3 wsX3_shiftsAheadOf g sq_X J) (hret : ∀ (pc : Nat) (lv : List (Nat × Value)) (r : Int) (st' : sq_S), decode cX3_shiftsAheadOf pc = .ok (.ireturn, 1) → Q r st' → J pc lv [.int (sq_z r)] st') (v1 v2 v3 : Int) (st : sq_S) (H : bX3_shiftsAheadOf_4 (qX3_shiftsAheadOf_4 J g) Q v1 v2 v3 st) : J 4 [(0, .ref (g.2.2 0)), (1, .int (sq_z v1)), (2, .int (sq_z v2)), (3, .int (sq_z v3))] [] st := by
  unfold bX3_shiftsAheadOf_4 at H
  refine sj_iload_n (pl := 3) S dX3_shiftsAheadOf_4 rfl rfl ?_
  refine sj_bipush S dX3_shiftsAheadOf_5 (by decide +kernel) ?_
  refine sj_icmp_ge (tgt := 54) S H.1 dX3_shiftsAheadOf_7 (by decide) (fun c9 => ?_) (fun c9 => ?_)
  · have H := H.2.1 c9
    refine sj_iload_n (pl := 2) S dX3_shiftsAheadOf_54 rfl rfl ?_
    exact hret _ _ _ _ dX3_shiftsAheadOf_55 H
  · have H := H.2.2 c9
    refine sj_aload_n (pl := 0) S dX3_shiftsAheadOf_10 rfl rfl ?_
    refine sj_getr S fX_0_6 iX3_shiftsAheadOf_3 rfl (by decide) mX3_shiftsAheadOf_31 dX3_shiftsAheadOf_11 ?_
    refine sj_iload_n (pl := 3) S dX3_shiftsAheadOf_14 rfl rfl ?_
    refine sj_iald S aX_32 H.1 dX3_shiftsAheadOf_15 ?_
    have H := H.2
    refine sj_aload_n (pl := 0) S dX3_shiftsAheadOf_16 rfl rfl ?_
    refine sj_getr S fX_0_6 iX3_shiftsAheadOf_3 rfl (by decide) mX3_shiftsAheadOf_31 dX3_shiftsAheadOf_17 ?_
    refine sj_iload_n (pl := 1) S dX3_shiftsAheadOf_20 rfl rfl ?_
    refine sj_iald S aX_32 H.1 dX3_shiftsAheadOf_21 ?_
    have H := H.2
    refine sj_icmp_gt (tgt := 45) S H.1 dX3_shiftsAheadOf_22 (by decide) (fun c9 => ?_) (fun c9 => ?_)
    · have H := H.2.1 c9
      refine sj_iinc (pl := 2) (lv' := [(0, .ref (g.2.2 0)), (1, .int (sq_z v1)), (3, .int (sq_z v3))]) S dX3_shiftsAheadOf_45 rfl (by decide) (fun _ => rfl) ?_
      refine sj_iinc (pl := 3) (lv' := [(2, .int (sq_z (v2 + 1))), (0, .ref (g.2.2 0)), (1, .int (sq_z v1))]) S dX3_shiftsAheadOf_48 rfl (by decide) (fun _ => rfl) ?_
      refine sj_goto (tgt := 4) S dX3_shiftsAheadOf_51 (by decide) ?_
      exact sj_lv S [2, 3, 1, 0] rfl H
    · have H := H.2.2 c9
      refine sj_aload_n (pl := 0) S dX3_shiftsAheadOf_25 rfl rfl ?_
      refine sj_getr S fX_0_6 iX3_shiftsAheadOf_3 rfl (by decide) mX3_shiftsAheadOf_31 dX3_shiftsAheadOf_26 ?_
      refine sj_iload_n (pl := 3) S dX3_shiftsAheadOf_29 rfl rfl ?_
      refine sj_iald S aX_32 H.1 dX3_shiftsAheadOf_30 ?_
      have H := H.2
      refine sj_aload_n (pl := 0) S dX3_shiftsAheadOf_31 rfl rfl ?_
      refine sj_getr S fX_0_6 iX3_shiftsAheadOf_3 rfl (by decide) mX3_shiftsAheadOf_31 dX3_shiftsAheadOf_32 ?_
      refine sj_iload_n (pl := 1) S dX3_shiftsAheadOf_35 rfl rfl ?_
      refine sj_iald S aX_32 H.1 dX3_shiftsAheadOf_36 ?_
      have H := H.2
      refine sj_icmp_ne (tgt := 48) S H.1 dX3_shiftsAheadOf_37 (by decide) (fun c9 => ?_) (fun c9 => ?_)
      · have H := H.2.1 c9
        refine sj_iinc (pl := 3) (lv' := [(0, .ref (g.2.2 0)), (1, .int (sq_z v1)), (2, .int (sq_z v2))]) S dX3_shiftsAheadOf_48 rfl (by decide) (fun _ => rfl) ?_
        refine sj_goto (tgt := 4) S dX3_shiftsAheadOf_51 (by decide) ?_
        exact sj_lv S [1, 2, 3, 0] rfl H
      · have H := H.2.2 c9
        refine sj_iload_n (pl := 3) S dX3_shiftsAheadOf_40 rfl rfl ?_
        refine sj_iload_n (pl := 1) S dX3_shiftsAheadOf_41 rfl rfl ?_
        refine sj_icmp_ge (tgt := 48) S H.1 dX3_shiftsAheadOf_42 (by decide) (fun c9 => ?_) (fun c9 => ?_)
        · have H := H.2.1 c9
          refine sj_iinc (pl := 3) (lv' := [(0, .ref (g.2.2 0)), (1, .int (sq_z v1)), (2, .int (sq_z v2))]) S dX3_shiftsAheadOf_48 rfl (by decide) (fun _ => rfl) ?_
          refine sj_goto (tgt := 4) S dX3_shiftsAheadOf_51 (by decide) ?_
          exact sj_lv S [1, 2, 3, 0] rfl H
        · have H := H.2.2 c9
          refine sj_iinc (pl := 2) (lv' := [(0, .ref (g.2.2 0)), (1, .int (sq_z v1)), (3, .int (sq_z v3))]) S dX3_shiftsAheadOf_45 rfl (by decide) (fun _ => rfl) ?_
          refine sj_iinc (pl := 3) (lv' := [(2, .int (sq_z (v2 + 1))), (0, .ref (g.2.2 0)), (1, .int (sq_z v1))]) S dX3_shiftsAheadOf_48 rfl (by decide) (fun _ => rfl) ?_
          refine sj_goto (tgt := 4) S dX3_shiftsAheadOf_51 (by decide) ?_
          exact sj_lv S [2, 3, 1, 0] rfl H
set_option maxRecDepth 100000 in
set_option maxHeartbeats 4000000 in
theorem tX3_shiftsAheadOf_0 {l : Launch} {g : sq_G} {J : sq_K} {Q : Int → sq_S → Prop} (S : sq_J l rX3_shiftsAheadOf cX3_shiftsAheadOf 4 RX3 wsX3_shiftsAheadOf g sq_X J) (hret : ∀ (pc : Nat) (lv : List (Nat × Value)) (r : Int) (st' : sq_S), decode cX3_shiftsAheadOf pc = .ok (.ireturn, 1) → Q r st' → J pc lv [.int (sq_z r)] st') (v1 : Int) (st : sq_S) (H : bX3_shiftsAheadOf_0 (qX3_shiftsAheadOf_4 J g) Q v1 st) : J 0 [(0, .ref (g.2.2 0)), (1, .int (sq_z v1))] [] st := by
  unfold bX3_shiftsAheadOf_0 at H
  refine sj_iconst S dX3_shiftsAheadOf_0 ?_
  refine sj_istore_na (lv' := [(0, .ref (g.2.2 0)), (1, .int (sq_z v1))]) S dX3_shiftsAheadOf_1 rfl (by decide) (fun _ => rfl) ?_
  refine sj_iconst S dX3_shiftsAheadOf_2 ?_
  refine sj_istore_na (lv' := [(2, .int (sq_z 0)), (0, .ref (g.2.2 0)), (1, .int (sq_z v1))]) S dX3_shiftsAheadOf_3 rfl (by decide) (fun _ => rfl) ?_
  exact sj_lv S [2, 3, 1, 0] rfl H
set_option maxRecDepth 100000 in
set_option maxHeartbeats 4000000 in
theorem kX3_shiftsAheadOf (l : Launch) (g : sq_G) (v1 : Int) (st : sq_S) (Q : Int → sq_S → Prop) (H : wX3_shiftsAheadOf v1 st Q) : sq_Ci l yX3_shiftsAheadOf wsX3_shiftsAheadOf rX3_shiftsAheadOf g sq_X [.ref (g.2.2 0), .int (sq_z v1)] st Q := by
  refine sq_in_i (cc := cX3_shiftsAheadOf) (nL := 4) (own := RX3) (by decide) rfl rfl (Nat.le_of_ble_eq_true rfl) ?_
  intro J S hret
  exact tX3_shiftsAheadOf_0 S hret v1 st (H (qX3_shiftsAheadOf_4 J g) (tX3_shiftsAheadOf_4 S hret))
/-! shiftRanked (I)I : X3_shiftRanked -/
def bX3_shiftRanked_2 (K2 : Int → Int → sq_S → Prop) (Q : Int → sq_S → Prop) (v1 v2 : Int) (st : sq_S) : Prop :=
  (sq_rg v2 ∧ sq_rg 16) ∧ (16 ≤ v2 → Q 0 st) ∧ (v2 < 16 → wX3_shiftsAheadOf v2 st (fun r187 st188 => (sq_rg r187 ∧ sq_rg v1) ∧ (¬ r187 = v1 → K2 v1 (v2 + 1) st188) ∧ (r187 = v1 → Q v2 st188)))
def bX3_shiftRanked_0 (K2 : Int → Int → sq_S → Prop) (Q : Int → sq_S → Prop) (v1 : Int) (st : sq_S) : Prop :=
  K2 v1 0 st
def wX3_shiftRanked (v1 : Int) (st : sq_S) (Q : Int → sq_S → Prop) : Prop :=
  ∀ (K2 : Int → Int → sq_S → Prop), (∀ (v1 v2 : Int) (st : sq_S), bX3_shiftRanked_2 K2 Q v1 v2 st → K2 v1 v2 st) → bX3_shiftRanked_0 K2 Q v1 st
def rX3_shiftRanked : Room := { frames := 1, cells := 0, slots := 0, locals := 23 }
def qX3_shiftRanked_2 (J : sq_K) (g : sq_G) : Int → Int → sq_S → Prop := fun v1 v2 st => J 2 [(0, .ref (g.2.2 0)), (1, .int (sq_z v1)), (2, .int (sq_z v2))] [] st
set_option maxRecDepth 100000 in
set_option maxHeartbeats 4000000 in
theorem tX3_shiftRanked_2 {l : Launch} {g : sq_G} {J : sq_K} {Q : Int → sq_S → Prop} (S : sq_J l rX3_shiftRanked cX3_shiftRanked 3 RX3 wsX3_shiftRanked g sq_X J) (hret : ∀ (pc : Nat) (lv : List (Nat × Value)) (r : Int) (st' : sq_S), decode cX3_shiftRanked pc = .ok (.ireturn, 1) → Q r st' → J pc lv [.int (sq_z r)] st') (v1 v2 : Int) (st : sq_S) (H : bX3_shiftRanked_2 (qX3_shiftRanked_2 J g) Q v1 v2 st) : J 2 [(0, .ref (g.2.2 0)), (1, .int (sq_z v1)), (2, .int (sq_z v2))] [] st := by
  unfold bX3_shiftRanked_2 at H
  refine sj_iload_n (pl := 2) S dX3_shiftRanked_2 rfl rfl ?_
  refine sj_bipush S dX3_shiftRanked_3 (by decide +kernel) ?_
  refine sj_icmp_ge (tgt := 25) S H.1 dX3_shiftRanked_5 (by decide) (fun c9 => ?_) (fun c9 => ?_)
  · have H := H.2.1 c9
    refine sj_iconst S dX3_shiftRanked_25 ?_
    exact hret _ _ _ _ dX3_shiftRanked_26 H
  · have H := H.2.2 c9
    refine sj_aload_n (pl := 0) S dX3_shiftRanked_8 rfl rfl ?_
    refine sj_iload_n (pl := 2) S dX3_shiftRanked_9 rfl rfl ?_
    refine sj_vi (rest := []) (q0 := 0) (ci := 3) S (kX3_shiftsAheadOf l g v2 st _ H) (fun s args hts => cwV 1 hts gX3_shiftRanked_X3_shiftsAheadOf rfl rfl rfl (by decide +kernel) ⟨Nat.le_of_ble_eq_true rfl, Nat.le_of_ble_eq_true rfl⟩) rfl rfl rfl rfl (Nat.le_of_ble_eq_true rfl) dX3_shiftRanked_10 (fun r187 st188 H => ?_)
    refine sj_iload_n (pl := 1) S dX3_shiftRanked_13 rfl rfl ?_
    refine sj_icmp_ne (tgt := 19) S H.1 dX3_shiftRanked_14 (by decide) (fun c9 => ?_) (fun c9 => ?_)
    · have H := H.2.1 c9
      refine sj_iinc (pl := 2) (lv' := [(0, .ref (g.2.2 0)), (1, .int (sq_z v1))]) S dX3_shiftRanked_19 rfl (by decide) (fun _ => rfl) ?_
      refine sj_goto (tgt := 2) S dX3_shiftRanked_22 (by decide) ?_
      exact sj_lv S [1, 2, 0] rfl H
    · have H := H.2.2 c9
      refine sj_iload_n (pl := 2) S dX3_shiftRanked_17 rfl rfl ?_
      exact hret _ _ _ _ dX3_shiftRanked_18 H
set_option maxRecDepth 100000 in
set_option maxHeartbeats 4000000 in
theorem tX3_shiftRanked_0 {l : Launch} {g : sq_G} {J : sq_K} {Q : Int → sq_S → Prop} (S : sq_J l rX3_shiftRanked cX3_shiftRanked 3 RX3 wsX3_shiftRanked g sq_X J) (hret : ∀ (pc : Nat) (lv : List (Nat × Value)) (r : Int) (st' : sq_S), decode cX3_shiftRanked pc = .ok (.ireturn, 1) → Q r st' → J pc lv [.int (sq_z r)] st') (v1 : Int) (st : sq_S) (H : bX3_shiftRanked_0 (qX3_shiftRanked_2 J g) Q v1 st) : J 0 [(0, .ref (g.2.2 0)), (1, .int (sq_z v1))] [] st := by
  unfold bX3_shiftRanked_0 at H
  refine sj_iconst S dX3_shiftRanked_0 ?_
  refine sj_istore_na (lv' := [(0, .ref (g.2.2 0)), (1, .int (sq_z v1))]) S dX3_shiftRanked_1 rfl (by decide) (fun _ => rfl) ?_
  exact sj_lv S [1, 2, 0] rfl H
set_option maxRecDepth 100000 in
set_option maxHeartbeats 4000000 in
theorem kX3_shiftRanked (l : Launch) (g : sq_G) (v1 : Int) (st : sq_S) (Q : Int → sq_S → Prop) (H : wX3_shiftRanked v1 st Q) : sq_Ci l yX3_shiftRanked wsX3_shiftRanked rX3_shiftRanked g sq_X [.ref (g.2.2 0), .int (sq_z v1)] st Q := by
  refine sq_in_i (cc := cX3_shiftRanked) (nL := 3) (own := RX3) (by decide) rfl rfl (Nat.le_of_ble_eq_true rfl) ?_
  intro J S hret
  exact tX3_shiftRanked_0 S hret v1 st (H (qX3_shiftRanked_2 J g) (tX3_shiftRanked_2 S hret))
/-! scoreOf (III)I : X3_scoreOf -/
theorem iX3_scoreOf_0 : ∀ w ∈ u_ws RX0 TX0 9, w ∈ wsX3_scoreOf := fun _ h => List.mem_cons_of_mem _ (List.mem_append_right _ h)
theorem iX3_scoreOf_3 : ∀ w ∈ u_ws RX3 TX3 8, w ∈ wsX3_scoreOf := fun _ h => List.mem_cons_of_mem _ (List.mem_append_left _ (List.mem_append_right _ h))
theorem mX3_scoreOf_16 : Cond.fieldLink RX3 16 (TX3 2).1 (TX3 2).2.1 (TX3 2).2.2.1 ∈ wsX3_scoreOf := List.mem_of_getElem? (i := 1) rfl
theorem mX3_scoreOf_49 : Cond.fieldLink RX3 49 (TX0 0).1 (TX0 0).2.1 (TX0 0).2.2.1 ∈ wsX3_scoreOf := List.mem_of_getElem? (i := 4) rfl
theorem mX3_scoreOf_56 : Cond.fieldLink RX3 56 (TX0 1).1 (TX0 1).2.1 (TX0 1).2.2.1 ∈ wsX3_scoreOf := List.mem_of_getElem? (i := 2) rfl
theorem mX3_scoreOf_73 : Cond.fieldLink RX3 73 (TX0 4).1 (TX0 4).2.1 (TX0 4).2.2.1 ∈ wsX3_scoreOf := List.mem_of_getElem? (i := 3) rfl
def bX3_scoreOf_6 (K6 : Int → Int → Int → Int → sq_S → Prop) (Q : Int → sq_S → Prop) (v1 v2 v4 v5 : Int) (st : sq_S) : Prop :=
  (sq_rg v5 ∧ sq_rg (st 2 1)) ∧ ((st 2 1) ≤ v5 → Q v4 st) ∧ (v5 < (st 2 1) → sq_ib v5 48 ∧ (sq_ib (sq_and ((st 3 v5.toNat) - v1) 15) 16 ∧ (∀ y191 : Int, y191 = (v4 + (st 5 ((sq_and ((st 3 v5.toNat) - v1) 15)).toNat)) → (∀ y192 : Int, y192 = (v5 + v2) → (K6 v1 v2 y191 y192 st)))))
def bX3_scoreOf_0 (K6 : Int → Int → Int → Int → sq_S → Prop) (Q : Int → sq_S → Prop) (v1 v2 v3 : Int) (st : sq_S) : Prop :=
  K6 v1 v2 0 v3 st
def wX3_scoreOf (v1 v2 v3 : Int) (st : sq_S) (Q : Int → sq_S → Prop) : Prop :=
  ∀ (K6 : Int → Int → Int → Int → sq_S → Prop), (∀ (v1 v2 v4 v5 : Int) (st : sq_S), bX3_scoreOf_6 K6 Q v1 v2 v4 v5 st → K6 v1 v2 v4 v5 st) → bX3_scoreOf_0 K6 Q v1 v2 v3 st
def rX3_scoreOf : Room := { frames := 0, cells := 0, slots := 0, locals := 0 }
def qX3_scoreOf_6 (J : sq_K) (g : sq_G) : Int → Int → Int → Int → sq_S → Prop := fun v1 v2 v4 v5 st => J 6 [(0, .ref (g.2.2 0)), (1, .int (sq_z v1)), (2, .int (sq_z v2)), (4, .int (sq_z v4)), (5, .int (sq_z v5))] [] st
set_option maxRecDepth 100000 in
set_option maxHeartbeats 4000000 in
theorem tX3_scoreOf_6 {l : Launch} {g : sq_G} {J : sq_K} {Q : Int → sq_S → Prop} (S : sq_J l rX3_scoreOf cX3_scoreOf 6 RX3 wsX3_scoreOf g sq_X J) (hret : ∀ (pc : Nat) (lv : List (Nat × Value)) (r : Int) (st' : sq_S), decode cX3_scoreOf pc = .ok (.ireturn, 1) → Q r st' → J pc lv [.int (sq_z r)] st') (v1 v2 v4 v5 : Int) (st : sq_S) (H : bX3_scoreOf_6 (qX3_scoreOf_6 J g) Q v1 v2 v4 v5 st) : J 6 [(0, .ref (g.2.2 0)), (1, .int (sq_z v1)), (2, .int (sq_z v2)), (4, .int (sq_z v4)), (5, .int (sq_z v5))] [] st := by
  unfold bX3_scoreOf_6 at H
  refine sj_iload (pl := 4) S dX3_scoreOf_6 rfl ?_
  refine sj_aload_n (pl := 0) S dX3_scoreOf_8 rfl rfl ?_
  refine sj_getr S fX_0_2 iX3_scoreOf_3 rfl (by decide) mX3_scoreOf_16 dX3_scoreOf_9 ?_
  refine sj_geti S fX_2_1 iX3_scoreOf_0 rfl (by decide) mX3_scoreOf_56 dX3_scoreOf_12 ?_
  refine sj_icmp_ge (tgt := 55) S H.1 dX3_scoreOf_15 (by decide) (fun c9 => ?_) (fun c9 => ?_)
  · have H := H.2.1 c9
    refine sj_iload (pl := 3) S dX3_scoreOf_55 rfl ?_
    exact hret _ _ _ _ dX3_scoreOf_57 H
  · have H := H.2.2 c9
    refine sj_iload (pl := 3) S dX3_scoreOf_18 rfl ?_
    refine sj_aload_n (pl := 0) S dX3_scoreOf_20 rfl rfl ?_
    refine sj_getr S fX_0_2 iX3_scoreOf_3 rfl (by decide) mX3_scoreOf_16 dX3_scoreOf_21 ?_
    refine sj_getr S fX_2_4 iX3_scoreOf_0 rfl (by decide) mX3_scoreOf_73 dX3_scoreOf_24 ?_
    refine sj_aload_n (pl := 0) S dX3_scoreOf_27 rfl rfl ?_
    refine sj_getr S fX_0_2 iX3_scoreOf_3 rfl (by decide) mX3_scoreOf_16 dX3_scoreOf_28 ?_
    refine sj_getr S fX_2_0 iX3_scoreOf_0 rfl (by decide) mX3_scoreOf_49 dX3_scoreOf_31 ?_
    refine sj_iload (pl := 4) S dX3_scoreOf_34 rfl ?_
    refine sj_iald S aX_3 H.1 dX3_scoreOf_36 ?_
    have H := H.2
    refine sj_iload_n (pl := 1) S dX3_scoreOf_37 rfl rfl ?_
    refine sj_isub S dX3_scoreOf_38 ?_
    refine sj_bipush S dX3_scoreOf_39 (by decide +kernel) ?_
    refine sj_iand S dX3_scoreOf_41 ?_
    refine sj_iald S aX_5 H.1 dX3_scoreOf_42 ?_
    have H := H.2
    refine sj_iadd S dX3_scoreOf_43 ?_
    refine sj_istore (lv' := [(0, .ref (g.2.2 0)), (1, .int (sq_z v1)), (2, .int (sq_z v2)), (5, .int (sq_z v5))]) S dX3_scoreOf_44 (by decide) (fun _ => rfl) (fun y191 ey191 => ?_)
    have H := H y191 ey191
    refine sj_iload (pl := 4) S dX3_scoreOf_46 rfl ?_
    refine sj_iload_n (pl := 3) S dX3_scoreOf_48 rfl rfl ?_
    refine sj_iadd S dX3_scoreOf_49 ?_
    refine sj_istore (lv' := [(4, .int (sq_z y191)), (0, .ref (g.2.2 0)), (1, .int (sq_z v1)), (2, .int (sq_z v2))]) S dX3_scoreOf_50 (by decide) (fun _ => rfl) (fun y192 ey192 => ?_)
    have H := H y192 ey192
    refine sj_goto (tgt := 6) S dX3_scoreOf_52 (by decide) ?_
    exact sj_lv S [2, 3, 4, 1, 0] rfl H
set_option maxRecDepth 100000 in
set_option maxHeartbeats 4000000 in
theorem tX3_scoreOf_0 {l : Launch} {g : sq_G} {J : sq_K} {Q : Int → sq_S → Prop} (S : sq_J l rX3_scoreOf cX3_scoreOf 6 RX3 wsX3_scoreOf g sq_X J) (hret : ∀ (pc : Nat) (lv : List (Nat × Value)) (r : Int) (st' : sq_S), decode cX3_scoreOf pc = .ok (.ireturn, 1) → Q r st' → J pc lv [.int (sq_z r)] st') (v1 v2 v3 : Int) (st : sq_S) (H : bX3_scoreOf_0 (qX3_scoreOf_6 J g) Q v1 v2 v3 st) : J 0 [(0, .ref (g.2.2 0)), (1, .int (sq_z v1)), (2, .int (sq_z v2)), (3, .int (sq_z v3))] [] st := by
  unfold bX3_scoreOf_0 at H
  refine sj_iconst S dX3_scoreOf_0 ?_
  refine sj_istorea (lv' := [(0, .ref (g.2.2 0)), (1, .int (sq_z v1)), (2, .int (sq_z v2)), (3, .int (sq_z v3))]) S dX3_scoreOf_1 (by decide) (fun _ => rfl) ?_
  refine sj_iload_n (pl := 4) S dX3_scoreOf_3 rfl rfl ?_
  refine sj_istorea (lv' := [(4, .int (sq_z 0)), (0, .ref (g.2.2 0)), (1, .int (sq_z v1)), (2, .int (sq_z v2)), (3, .int (sq_z v3))]) S dX3_scoreOf_4 (by decide) (fun _ => rfl) ?_
  exact sj_lv S [2, 3, 4, 1, 0] rfl H
set_option maxRecDepth 100000 in
set_option maxHeartbeats 4000000 in
theorem kX3_scoreOf (l : Launch) (g : sq_G) (v1 v2 v3 : Int) (st : sq_S) (Q : Int → sq_S → Prop) (H : wX3_scoreOf v1 v2 v3 st Q) : sq_Ci l yX3_scoreOf wsX3_scoreOf rX3_scoreOf g sq_X [.ref (g.2.2 0), .int (sq_z v1), .int (sq_z v2), .int (sq_z v3)] st Q := by
  refine sq_in_i (cc := cX3_scoreOf) (nL := 6) (own := RX3) (by decide) rfl rfl (Nat.le_of_ble_eq_true rfl) ?_
  intro J S hret
  exact tX3_scoreOf_0 S hret v1 v2 v3 st (H (qX3_scoreOf_6 J g) (tX3_scoreOf_6 S hret))
/-! shift (IIII)I : X3_shift -/
theorem iX3_shift_3 : ∀ w ∈ u_ws RX3 TX3 8, w ∈ wsX3_shift := fun _ h => List.mem_cons_of_mem _ (List.mem_append_left _ (List.mem_append_right _ h))
theorem mX3_shift_31 : Cond.fieldLink RX3 31 (TX3 6).1 (TX3 6).2.1 (TX3 6).2.2.1 ∈ wsX3_shift := List.mem_of_getElem? (i := 1) rfl
def bX3_shift_47 (K47 : Int → Int → Int → Int → Int → sq_S → Prop) (Q : Int → sq_S → Prop) (v1 v2 v3 v4 v5 : Int) (st : sq_S) : Prop :=
  (sq_rg v5 ∧ sq_rg 16) ∧ (16 ≤ v5 → wX3_shiftRanked v3 st (fun r189 st190 => sq_rg v4 ∧ (¬ v4 = 0 → sq_ib r189 16 ∧ (Q (st190 32 r189.toNat) st190)) ∧ (v4 = 0 → Q r189 st190))) ∧ (v5 < 16 → wX3_scoreOf v5 v1 v2 st (fun r193 st194 => sq_ib v5 16 ∧ (∀ st195 : sq_S, st195 = sq_set st194 32 v5.toNat r193 → (K47 v1 v2 v3 v4 (v5 + 1) st195))))
def bX3_shift_0 (K47 : Int → Int → Int → Int → Int → sq_S → Prop) (Q : Int → sq_S → Prop) (v1 v2 v3 v4 : Int) (st : sq_S) : Prop :=
  wX3_isOutside v1 1 8 st (fun r179 st180 => sq_rg r179 ∧ (¬ r179 = 0 → Q (-2) st180) ∧ (r179 = 0 → wX3_isOutside v2 0 (v1 - 1) st180 (fun r181 st182 => sq_rg r181 ∧ (¬ r181 = 0 → Q (-2) st182) ∧ (r181 = 0 → wX3_isOutside v3 0 15 st182 (fun r183 st184 => sq_rg r183 ∧ (¬ r183 = 0 → Q (-2) st184) ∧ (r183 = 0 → wX3_isOutside v4 0 1 st184 (fun r185 st186 => sq_rg r185 ∧ (r185 = 0 → K47 v1 v2 v3 v4 0 st186) ∧ (¬ r185 = 0 → Q (-2) st186))))))))
def wX3_shift (v1 v2 v3 v4 : Int) (st : sq_S) (Q : Int → sq_S → Prop) : Prop :=
  ∀ (K47 : Int → Int → Int → Int → Int → sq_S → Prop), (∀ (v1 v2 v3 v4 v5 : Int) (st : sq_S), bX3_shift_47 K47 Q v1 v2 v3 v4 v5 st → K47 v1 v2 v3 v4 v5 st) → bX3_shift_0 K47 Q v1 v2 v3 v4 st
def rX3_shift : Room := { frames := 2, cells := 0, slots := 0, locals := 45 }
def qX3_shift_47 (J : sq_K) (g : sq_G) : Int → Int → Int → Int → Int → sq_S → Prop := fun v1 v2 v3 v4 v5 st => J 47 [(0, .ref (g.2.2 0)), (1, .int (sq_z v1)), (2, .int (sq_z v2)), (3, .int (sq_z v3)), (4, .int (sq_z v4)), (5, .int (sq_z v5))] [] st
set_option maxRecDepth 100000 in
set_option maxHeartbeats 4000000 in
theorem tX3_shift_47 {l : Launch} {g : sq_G} {J : sq_K} {Q : Int → sq_S → Prop} (S : sq_J l rX3_shift cX3_shift 6 RX3 wsX3_shift g sq_X J) (hret : ∀ (pc : Nat) (lv : List (Nat × Value)) (r : Int) (st' : sq_S), decode cX3_shift pc = .ok (.ireturn, 1) → Q r st' → J pc lv [.int (sq_z r)] st') (v1 v2 v3 v4 v5 : Int) (st : sq_S) (H : bX3_shift_47 (qX3_shift_47 J g) Q v1 v2 v3 v4 v5 st) : J 47 [(0, .ref (g.2.2 0)), (1, .int (sq_z v1)), (2, .int (sq_z v2)), (3, .int (sq_z v3)), (4, .int (sq_z v4)), (5, .int (sq_z v5))] [] st := by
  unfold bX3_shift_47 at H
  refine sj_iload (pl := 5) S dX3_shift_47 rfl ?_
  refine sj_bipush S dX3_shift_49 (by decide +kernel) ?_
  refine sj_icmp_ge (tgt := 75) S H.1 dX3_shift_51 (by decide) (fun c9 => ?_) (fun c9 => ?_)
  · have H := H.2.1 c9
    refine sj_aload_n (pl := 0) S dX3_shift_75 rfl rfl ?_
    refine sj_iload_n (pl := 3) S dX3_shift_76 rfl rfl ?_
    refine sj_vi (rest := []) (q0 := 0) (ci := 3) S (kX3_shiftRanked l g v3 st _ H) (fun s args hts => cwV 1 hts gX3_shift_X3_shiftRanked rfl rfl rfl (by decide +kernel) ⟨Nat.le_of_ble_eq_true rfl, Nat.le_of_ble_eq_true rfl⟩) rfl rfl rfl rfl (Nat.le_of_ble_eq_true rfl) dX3_shift_77 (fun r189 st190 H => ?_)
    refine sj_istorea (lv' := [(0, .ref (g.2.2 0)), (1, .int (sq_z v1)), (2, .int (sq_z v2)), (3, .int (sq_z v3)), (4, .int (sq_z v4))]) S dX3_shift_80 (by decide) (fun _ => rfl) ?_
    refine sj_iload (pl := 5) S dX3_shift_82 rfl ?_
    refine sj_if_ne (tgt := 92) S H.1 dX3_shift_84 (by decide) (fun c9 => ?_) (fun c9 => ?_)
    · have H := H.2.1 c9
      refine sj_aload_n (pl := 1) S dX3_shift_92 rfl rfl ?_
      refine sj_getr S fX_0_6 iX3_shift_3 rfl (by decide) mX3_shift_31 dX3_shift_93 ?_
      refine sj_iload (pl := 0) S dX3_shift_96 rfl ?_
      refine sj_iald S aX_32 H.1 dX3_shift_98 ?_
      have H := H.2
      exact hret _ _ _ _ dX3_shift_99 H
    · have H := H.2.2 c9
      refine sj_iload (pl := 0) S dX3_shift_87 rfl ?_
      refine sj_goto (tgt := 99) S dX3_shift_89 (by decide) ?_
      exact hret _ _ _ _ dX3_shift_99 H
  · have H := H.2.2 c9
    refine sj_aload_n (pl := 0) S dX3_shift_54 rfl rfl ?_
    refine sj_getr S fX_0_6 iX3_shift_3 rfl (by decide) mX3_shift_31 dX3_shift_55 ?_
    refine sj_iload (pl := 5) S dX3_shift_58 rfl ?_
    refine sj_aload_n (pl := 0) S dX3_shift_60 rfl rfl ?_
    refine sj_iload (pl := 5) S dX3_shift_61 rfl ?_
    refine sj_iload_n (pl := 1) S dX3_shift_63 rfl rfl ?_
    refine sj_iload_n (pl := 2) S dX3_shift_64 rfl rfl ?_
    refine sj_vi (rest := [.int (sq_z v5), .ref (g.2.2 32)]) (q0 := 0) (ci := 3) S (kX3_scoreOf l g v5 v1 v2 st _ H) (fun s args hts => cwV 3 hts gX3_shift_X3_scoreOf rfl rfl rfl (by decide +kernel) ⟨Nat.le_of_ble_eq_true rfl, Nat.le_of_ble_eq_true rfl⟩) rfl rfl rfl rfl (Nat.le_of_ble_eq_true rfl) dX3_shift_65 (fun r193 st194 H => ?_)
    refine sj_iast S aX_32 H.1 dX3_shift_68 (fun st195 est195 => ?_)
    have H := H.2 st195 est195
    refine sj_iinc (pl := 5) (lv' := [(0, .ref (g.2.2 0)), (1, .int (sq_z v1)), (2, .int (sq_z v2)), (3, .int (sq_z v3)), (4, .int (sq_z v4))]) S dX3_shift_69 rfl (by decide) (fun _ => rfl) ?_
    refine sj_goto (tgt := 47) S dX3_shift_72 (by decide) ?_
    exact sj_lv S [1, 2, 3, 4, 5, 0] rfl H
set_option maxRecDepth 100000 in
set_option maxHeartbeats 4000000 in
theorem tX3_shift_0 {l : Launch} {g : sq_G} {J : sq_K} {Q : Int → sq_S → Prop} (S : sq_J l rX3_shift cX3_shift 6 RX3 wsX3_shift g sq_X J) (hret : ∀ (pc : Nat) (lv : List (Nat × Value)) (r : Int) (st' : sq_S), decode cX3_shift pc = .ok (.ireturn, 1) → Q r st' → J pc lv [.int (sq_z r)] st') (v1 v2 v3 v4 : Int) (st : sq_S) (H : bX3_shift_0 (qX3_shift_47 J g) Q v1 v2 v3 v4 st) : J 0 [(0, .ref (g.2.2 0)), (1, .int (sq_z v1)), (2, .int (sq_z v2)), (3, .int (sq_z v3)), (4, .int (sq_z v4))] [] st := by
  unfold bX3_shift_0 at H
  refine sj_iload_n (pl := 1) S dX3_shift_0 rfl rfl ?_
  refine sj_iconst S dX3_shift_1 ?_
  refine sj_bipush S dX3_shift_2 (by decide +kernel) ?_
  refine sj_si (rest := []) S (kX3_isOutside l g v1 1 8 st _ H) (fun s args hts => va_cwS 3 hts gX3_shift_X3_isOutside rfl rfl rfl (by decide +kernel) ⟨Nat.le_of_ble_eq_true rfl, Nat.le_of_ble_eq_true rfl⟩) rfl rfl (Nat.le_of_ble_eq_true rfl) dX3_shift_4 (fun r179 st180 H => ?_)
  refine sj_if_ne (tgt := 41) S H.1 dX3_shift_7 (by decide) (fun c9 => ?_) (fun c9 => ?_)
  · have H := H.2.1 c9
    refine sj_bipush S dX3_shift_41 (by decide +kernel) ?_
    exact hret _ _ _ _ dX3_shift_43 H
  · have H := H.2.2 c9
    refine sj_iload_n (pl := 2) S dX3_shift_10 rfl rfl ?_
    refine sj_iconst S dX3_shift_11 ?_
    refine sj_iload_n (pl := 1) S dX3_shift_12 rfl rfl ?_
    refine sj_iconst S dX3_shift_13 ?_
    refine sj_isub S dX3_shift_14 ?_
    refine sj_si (rest := []) S (kX3_isOutside l g v2 0 (v1 - 1) st180 _ H) (fun s args hts => va_cwS 3 hts gX3_shift_X3_isOutside rfl rfl rfl (by decide +kernel) ⟨Nat.le_of_ble_eq_true rfl, Nat.le_of_ble_eq_true rfl⟩) rfl rfl (Nat.le_of_ble_eq_true rfl) dX3_shift_15 (fun r181 st182 H => ?_)
    refine sj_if_ne (tgt := 41) S H.1 dX3_shift_18 (by decide) (fun c9 => ?_) (fun c9 => ?_)
    · have H := H.2.1 c9
      refine sj_bipush S dX3_shift_41 (by decide +kernel) ?_
      exact hret _ _ _ _ dX3_shift_43 H
    · have H := H.2.2 c9
      refine sj_iload_n (pl := 3) S dX3_shift_21 rfl rfl ?_
      refine sj_iconst S dX3_shift_22 ?_
      refine sj_bipush S dX3_shift_23 (by decide +kernel) ?_
      refine sj_si (rest := []) S (kX3_isOutside l g v3 0 15 st182 _ H) (fun s args hts => va_cwS 3 hts gX3_shift_X3_isOutside rfl rfl rfl (by decide +kernel) ⟨Nat.le_of_ble_eq_true rfl, Nat.le_of_ble_eq_true rfl⟩) rfl rfl (Nat.le_of_ble_eq_true rfl) dX3_shift_25 (fun r183 st184 H => ?_)
      refine sj_if_ne (tgt := 41) S H.1 dX3_shift_28 (by decide) (fun c9 => ?_) (fun c9 => ?_)
      · have H := H.2.1 c9
        refine sj_bipush S dX3_shift_41 (by decide +kernel) ?_
        exact hret _ _ _ _ dX3_shift_43 H
      · have H := H.2.2 c9
        refine sj_iload (pl := 4) S dX3_shift_31 rfl ?_
        refine sj_iconst S dX3_shift_33 ?_
        refine sj_iconst S dX3_shift_34 ?_
        refine sj_si (rest := []) S (kX3_isOutside l g v4 0 1 st184 _ H) (fun s args hts => va_cwS 3 hts gX3_shift_X3_isOutside rfl rfl rfl (by decide +kernel) ⟨Nat.le_of_ble_eq_true rfl, Nat.le_of_ble_eq_true rfl⟩) rfl rfl (Nat.le_of_ble_eq_true rfl) dX3_shift_35 (fun r185 st186 H => ?_)
        refine sj_if_eq (tgt := 44) S H.1 dX3_shift_38 (by decide) (fun c9 => ?_) (fun c9 => ?_)
        · have H := H.2.1 c9
          refine sj_iconst S dX3_shift_44 ?_
          refine sj_istorea (lv' := [(0, .ref (g.2.2 0)), (1, .int (sq_z v1)), (2, .int (sq_z v2)), (3, .int (sq_z v3)), (4, .int (sq_z v4))]) S dX3_shift_45 (by decide) (fun _ => rfl) ?_
          exact sj_lv S [1, 2, 3, 4, 5, 0] rfl H
        · have H := H.2.2 c9
          refine sj_bipush S dX3_shift_41 (by decide +kernel) ?_
          exact hret _ _ _ _ dX3_shift_43 H
set_option maxRecDepth 100000 in
set_option maxHeartbeats 4000000 in
theorem kX3_shift (l : Launch) (g : sq_G) (v1 v2 v3 v4 : Int) (st : sq_S) (Q : Int → sq_S → Prop) (H : wX3_shift v1 v2 v3 v4 st Q) : sq_Ci l yX3_shift wsX3_shift rX3_shift g sq_X [.ref (g.2.2 0), .int (sq_z v1), .int (sq_z v2), .int (sq_z v3), .int (sq_z v4)] st Q := by
  refine sq_in_i (cc := cX3_shift) (nL := 6) (own := RX3) (by decide) rfl rfl (Nat.le_of_ble_eq_true rfl) ?_
  intro J S hret
  exact tX3_shift_0 S hret v1 v2 v3 v4 st (H (qX3_shift_47 J g) (tX3_shift_47 S hret))
