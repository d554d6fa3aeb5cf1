/-! shift (IIII)I : X4_shift -/
def bX4_shift_47 (K47 : Int → Int → Int → Int → Int → sq_S → Prop) (Q : Int → sq_S → Prop) (v1 v2 v3 v4 v5 : Int) (st : sq_S) : Prop :=
  wX4_rankOf v1 v2 v5 st (fun r490 st491 => (sq_rg r490 ∧ sq_rg v3) ∧ (r490 = v3 → sq_rg v4 ∧ (¬ v4 = 0 → wX4_score v1 v2 v5 st491 (fun r492 st493 => Q r492 st493)) ∧ (v4 = 0 → Q v5 st491)) ∧ (¬ r490 = v3 → K47 v1 v2 v3 v4 (v5 + 1) st491))
def bX4_shift_0 (K47 : Int → Int → Int → Int → Int → sq_S → Prop) (Q : Int → sq_S → Prop) (v1 v2 v3 v4 : Int) (st : sq_S) : Prop :=
  wX4_in v1 1 8 st (fun r470 st471 => sq_rg r470 ∧ (r470 = 0 → Q (-2) st471) ∧ (¬ r470 = 0 → wX4_in v2 0 (v1 - 1) st471 (fun r472 st473 => sq_rg r472 ∧ (r472 = 0 → Q (-2) st473) ∧ (¬ r472 = 0 → wX4_in v3 0 15 st473 (fun r474 st475 => sq_rg r474 ∧ (r474 = 0 → Q (-2) st475) ∧ (¬ r474 = 0 → wX4_in v4 0 1 st475 (fun r476 st477 => sq_rg r476 ∧ (¬ r476 = 0 → K47 v1 v2 v3 v4 0 st477) ∧ (r476 = 0 → Q (-2) st477))))))))
def wX4_shift (v1 v2 v3 v4 : Int) (st : sq_S) (Q : Int → sq_S → Prop) : Prop :=
  ∀ (K47 : Int → Int → Int → Int → Int → sq_S → Prop), (∀ (v1 v2 v3 v4 v5 : Int) (st : sq_S), bX4_shift_47 K47 Q v1 v2 v3 v4 v5 st → K47 v1 v2 v3 v4 v5 st) → bX4_shift_0 K47 Q v1 v2 v3 v4 st
def rX4_shift : Room := { frames := 3, cells := 0, slots := 0, locals := 72 }
def qX4_shift_47 (J : sq_K) (g : sq_G) : Int → Int → Int → Int → Int → sq_S → Prop := fun v1 v2 v3 v4 v5 st => J 47 [(0, .ref (g.2.2 0)), (1, .int (sq_z v1)), (2, .int (sq_z v2)), (3, .int (sq_z v3)), (4, .int (sq_z v4)), (5, .int (sq_z v5))] [] st
set_option maxRecDepth 100000 in
set_option maxHeartbeats 4000000 in
theorem tX4_shift_47 {l : Launch} {g : sq_G} {J : sq_K} {Q : Int → sq_S → Prop} (S : sq_J l rX4_shift cX4_shift 6 RX4 wsX4_shift g sq_M J) (hret : ∀ (pc : Nat) (lv : List (Nat × Value)) (r : Int) (st' : sq_S), decode cX4_shift pc = .ok (.ireturn, 1) → Q r st' → J pc lv [.int (sq_z r)] st') (v1 v2 v3 v4 v5 : Int) (st : sq_S) (H : bX4_shift_47 (qX4_shift_47 J g) Q v1 v2 v3 v4 v5 st) : J 47 [(0, .ref (g.2.2 0)), (1, .int (sq_z v1)), (2, .int (sq_z v2)), (3, .int (sq_z v3)), (4, .int (sq_z v4)), (5, .int (sq_z v5))] [] st := by
  unfold bX4_shift_47 at H
  refine sj_aload_n (pl := 0) S dX4_shift_47 rfl rfl ?_
  refine sj_iload_n (pl := 1) S dX4_shift_48 rfl rfl ?_
  refine sj_iload_n (pl := 2) S dX4_shift_49 rfl rfl ?_
  refine sj_iload (pl := 5) S dX4_shift_50 rfl ?_
  refine sj_vi (rest := []) (q0 := 0) (ci := 4) S (kX4_rankOf l g v1 v2 v5 st _ H) (fun s args hts => cwV 3 hts gX4_shift_X4_rankOf rfl rfl rfl (by decide +kernel) ⟨Nat.le_of_ble_eq_true rfl, Nat.le_of_ble_eq_true rfl⟩) rfl rfl rfl rfl (Nat.le_of_ble_eq_true rfl) dX4_shift_52 (fun r490 st491 H => ?_)
  refine sj_iload_n (pl := 3) S dX4_shift_55 rfl rfl ?_
  refine sj_icmp_eq (tgt := 65) S H.1 dX4_shift_56 (by decide) (fun c9 => ?_) (fun c9 => ?_)
  · have H := H.2.1 c9
    refine sj_iload (pl := 4) S dX4_shift_65 rfl ?_
    refine sj_if_ne (tgt := 75) S H.1 dX4_shift_67 (by decide) (fun c9 => ?_) (fun c9 => ?_)
    · have H := H.2.1 c9
      refine sj_aload_n (pl := 0) S dX4_shift_75 rfl rfl ?_
      refine sj_iload_n (pl := 1) S dX4_shift_76 rfl rfl ?_
      refine sj_iload_n (pl := 2) S dX4_shift_77 rfl rfl ?_
      refine sj_iload (pl := 5) S dX4_shift_78 rfl ?_
      refine sj_vi (rest := []) (q0 := 0) (ci := 4) S (kX4_score l g v1 v2 v5 st491 _ H) (fun s args hts => cwV 3 hts gX4_shift_X4_score rfl rfl rfl (by decide +kernel) ⟨Nat.le_of_ble_eq_true rfl, Nat.le_of_ble_eq_true rfl⟩) rfl rfl rfl rfl (Nat.le_of_ble_eq_true rfl) dX4_shift_80 (fun r492 st493 H => ?_)
      exact hret _ _ _ _ dX4_shift_83 H
    · have H := H.2.2 c9
      refine sj_iload (pl := 5) S dX4_shift_70 rfl ?_
      refine sj_goto (tgt := 83) S dX4_shift_72 (by decide) ?_
      exact hret _ _ _ _ dX4_shift_83 H
  · have H := H.2.2 c9
    refine sj_iinc (pl := 5) (lv' := [(0, .ref (g.2.2 0)), (1, .int (sq_z v1)), (2, .int (sq_z v2)), (3, .int (sq_z v3)), (4, .int (sq_z v4))]) S dX4_shift_59 rfl (by decide) (fun _ => rfl) ?_
    refine sj_goto (tgt := 47) S dX4_shift_62 (by decide) ?_
    exact sj_lv S [1, 2, 3, 4, 5, 0] rfl H
set_option maxRecDepth 100000 in
set_option maxHeartbeats 4000000 in
theorem tX4_shift_0 {l : Launch} {g : sq_G} {J : sq_K} {Q : Int → sq_S → Prop} (S : sq_J l rX4_shift cX4_shift 6 RX4 wsX4_shift g sq_M J) (hret : ∀ (pc : Nat) (lv : List (Nat × Value)) (r : Int) (st' : sq_S), decode cX4_shift pc = .ok (.ireturn, 1) → Q r st' → J pc lv [.int (sq_z r)] st') (v1 v2 v3 v4 : Int) (st : sq_S) (H : bX4_shift_0 (qX4_shift_47 J g) Q v1 v2 v3 v4 st) : J 0 [(0, .ref (g.2.2 0)), (1, .int (sq_z v1)), (2, .int (sq_z v2)), (3, .int (sq_z v3)), (4, .int (sq_z v4))] [] st := by
  unfold bX4_shift_0 at H
  refine sj_iload_n (pl := 1) S dX4_shift_0 rfl rfl ?_
  refine sj_iconst S dX4_shift_1 ?_
  refine sj_bipush S dX4_shift_2 (by decide +kernel) ?_
  refine sj_si (rest := []) S (kX4_in l g v1 1 8 st _ H) (fun s args hts => va_cwS 3 hts gX4_shift_X4_in rfl rfl rfl (by decide +kernel) ⟨Nat.le_of_ble_eq_true rfl, Nat.le_of_ble_eq_true rfl⟩) rfl rfl (Nat.le_of_ble_eq_true rfl) dX4_shift_4 (fun r470 st471 H => ?_)
  refine sj_if_eq (tgt := 41) S H.1 dX4_shift_7 (by decide) (fun c9 => ?_) (fun c9 => ?_)
  · have H := H.2.1 c9
    refine sj_bipush S dX4_shift_41 (by decide +kernel) ?_
    exact hret _ _ _ _ dX4_shift_43 H
  · have H := H.2.2 c9
    refine sj_iload_n (pl := 2) S dX4_shift_10 rfl rfl ?_
    refine sj_iconst S dX4_shift_11 ?_
    refine sj_iload_n (pl := 1) S dX4_shift_12 rfl rfl ?_
    refine sj_iconst S dX4_shift_13 ?_
    refine sj_isub S dX4_shift_14 ?_
    refine sj_si (rest := []) S (kX4_in l g v2 0 (v1 - 1) st471 _ H) (fun s args hts => va_cwS 3 hts gX4_shift_X4_in rfl rfl rfl (by decide +kernel) ⟨Nat.le_of_ble_eq_true rfl, Nat.le_of_ble_eq_true rfl⟩) rfl rfl (Nat.le_of_ble_eq_true rfl) dX4_shift_15 (fun r472 st473 H => ?_)
    refine sj_if_eq (tgt := 41) S H.1 dX4_shift_18 (by decide) (fun c9 => ?_) (fun c9 => ?_)
    · have H := H.2.1 c9
      refine sj_bipush S dX4_shift_41 (by decide +kernel) ?_
      exact hret _ _ _ _ dX4_shift_43 H
    · have H := H.2.2 c9
      refine sj_iload_n (pl := 3) S dX4_shift_21 rfl rfl ?_
      refine sj_iconst S dX4_shift_22 ?_
      refine sj_bipush S dX4_shift_23 (by decide +kernel) ?_
      refine sj_si (rest := []) S (kX4_in l g v3 0 15 st473 _ H) (fun s args hts => va_cwS 3 hts gX4_shift_X4_in rfl rfl rfl (by decide +kernel) ⟨Nat.le_of_ble_eq_true rfl, Nat.le_of_ble_eq_true rfl⟩) rfl rfl (Nat.le_of_ble_eq_true rfl) dX4_shift_25 (fun r474 st475 H => ?_)
      refine sj_if_eq (tgt := 41) S H.1 dX4_shift_28 (by decide) (fun c9 => ?_) (fun c9 => ?_)
      · have H := H.2.1 c9
        refine sj_bipush S dX4_shift_41 (by decide +kernel) ?_
        exact hret _ _ _ _ dX4_shift_43 H
      · have H := H.2.2 c9
        refine sj_iload (pl := 4) S dX4_shift_31 rfl ?_
        refine sj_iconst S dX4_shift_33 ?_
        refine sj_iconst S dX4_shift_34 ?_
        refine sj_si (rest := []) S (kX4_in l g v4 0 1 st475 _ H) (fun s args hts => va_cwS 3 hts gX4_shift_X4_in rfl rfl rfl (by decide +kernel) ⟨Nat.le_of_ble_eq_true rfl, Nat.le_of_ble_eq_true rfl⟩) rfl rfl (Nat.le_of_ble_eq_true rfl) dX4_shift_35 (fun r476 st477 H => ?_)
        refine sj_if_ne (tgt := 44) S H.1 dX4_shift_38 (by decide) (fun c9 => ?_) (fun c9 => ?_)
        · have H := H.2.1 c9
          refine sj_iconst S dX4_shift_44 ?_
          refine sj_istorea (lv' := [(0, .ref (g.2.2 0)), (1, .int (sq_z v1)), (2, .int (sq_z v2)), (3, .int (sq_z v3)), (4, .int (sq_z v4))]) S dX4_shift_45 (by decide) (fun _ => rfl) ?_
          exact sj_lv S [1, 2, 3, 4, 5, 0] rfl H
        · have H := H.2.2 c9
          refine sj_bipush S dX4_shift_41 (by decide +kernel) ?_
          exact hret _ _ _ _ dX4_shift_43 H
set_option maxRecDepth 100000 in
set_option maxHeartbeats 4000000 in
theorem kX4_shift (l : Launch) (g : sq_G) (v1 v2 v3 v4 : Int) (st : sq_S) (Q : Int → sq_S → Prop) (H : wX4_shift v1 v2 v3 v4 st Q) : sq_Ci l yX4_shift wsX4_shift rX4_shift g sq_M [.ref (g.2.2 0), .int (sq_z v1), .int (sq_z v2), .int (sq_z v3), .int (sq_z v4)] st Q := by
  refine sq_in_i (cc := cX4_shift) (nL := 6) (own := RX4) (by decide) rfl rfl (Nat.le_of_ble_eq_true rfl) ?_
  intro J S hret
  exact tX4_shift_0 S hret v1 v2 v3 v4 st (H (qX4_shift_47 J g) (tX4_shift_47 S hret))
/-! layText ()V : X4_layText -/
theorem iX4_layText_4 : ∀ w ∈ u_ws RX4 TX4 12, w ∈ wsX4_layText := fun _ h => List.mem_cons_of_mem _ (List.mem_append_right _ h)
theorem mX4_layText_7 : Cond.fieldLink RX4 7 (TX4 0).1 (TX4 0).2.1 (TX4 0).2.2.1 ∈ wsX4_layText := List.mem_of_getElem? (i := 2) rfl
theorem mX4_layText_23 : Cond.fieldLink RX4 23 (TX4 5).1 (TX4 5).2.1 (TX4 5).2.2.1 ∈ wsX4_layText := List.mem_of_getElem? (i := 1) rfl
def bX4_layText_2 (K2 : Int → sq_S → Prop) (Q : Int → sq_S → Prop) (v1 : Int) (st : sq_S) : Prop :=
  wX4_many st (fun r494 st495 => (sq_rg v1 ∧ sq_rg r494) ∧ (r494 ≤ v1 → Q 0 st495) ∧ (v1 < r494 → sq_ib (0 + v1) 819 ∧ (sq_ib v1 48 ∧ (∀ st496 : sq_S, st496 = sq_set st495 5 v1.toNat (st495 1 ((0 + v1)).toNat) → (K2 (v1 + 1) st496)))))
def bX4_layText_0 (K2 : Int → sq_S → Prop) (Q : Int → sq_S → Prop) (st : sq_S) : Prop :=
  K2 0 st
def wX4_layText (st : sq_S) (Q : Int → sq_S → Prop) : Prop :=
  ∀ (K2 : Int → sq_S → Prop), (∀ (v1 : Int) (st : sq_S), bX4_layText_2 K2 Q v1 st → K2 v1 st) → bX4_layText_0 K2 Q  st
def rX4_layText : Room := { frames := 1, cells := 0, slots := 0, locals := 20 }
def qX4_layText_2 (J : sq_K) (g : sq_G) : Int → sq_S → Prop := fun v1 st => J 2 [(0, .ref (g.2.2 0)), (1, .int (sq_z v1))] [] st
set_option maxRecDepth 100000 in
set_option maxHeartbeats 4000000 in
theorem tX4_layText_2 {l : Launch} {g : sq_G} {J : sq_K} {Q : Int → sq_S → Prop} (S : sq_J l rX4_layText cX4_layText 2 RX4 wsX4_layText g sq_M J) (hret : ∀ (pc : Nat) (lv : List (Nat × Value)) (st' : sq_S), decode cX4_layText pc = .ok (.return_, 1) → Q 0 st' → J pc lv [] st') (v1 : Int) (st : sq_S) (H : bX4_layText_2 (qX4_layText_2 J g) Q v1 st) : J 2 [(0, .ref (g.2.2 0)), (1, .int (sq_z v1))] [] st := by
  unfold bX4_layText_2 at H
  refine sj_iload_n (pl := 1) S dX4_layText_2 rfl rfl ?_
  refine sj_aload_n (pl := 0) S dX4_layText_3 rfl rfl ?_
  refine sj_vi (rest := [.int (sq_z v1)]) (q0 := 0) (ci := 4) S (kX4_many l g st _ H) (fun s args hts => cwV 0 hts gX4_layText_X4_many rfl rfl rfl (by decide +kernel) ⟨Nat.le_of_ble_eq_true rfl, Nat.le_of_ble_eq_true rfl⟩) rfl rfl rfl rfl (Nat.le_of_ble_eq_true rfl) dX4_layText_4 (fun r494 st495 H => ?_)
  refine sj_icmp_ge (tgt := 30) S H.1 dX4_layText_7 (by decide) (fun c9 => ?_) (fun c9 => ?_)
  · have H := H.2.1 c9
    exact hret _ _ _ dX4_layText_30 H
  · have H := H.2.2 c9
    refine sj_aload_n (pl := 0) S dX4_layText_10 rfl rfl ?_
    refine sj_getr S fM_0_5 iX4_layText_4 rfl (by decide) mX4_layText_23 dX4_layText_11 ?_
    refine sj_iload_n (pl := 1) S dX4_layText_14 rfl rfl ?_
    refine sj_aload_n (pl := 0) S dX4_layText_15 rfl rfl ?_
    refine sj_getr S fM_0_0 iX4_layText_4 rfl (by decide) mX4_layText_7 dX4_layText_16 ?_
    refine sj_iconst S dX4_layText_19 ?_
    refine sj_iload_n (pl := 1) S dX4_layText_20 rfl rfl ?_
    refine sj_iadd S dX4_layText_21 ?_
    refine sj_iald S aM_1 H.1 dX4_layText_22 ?_
    have H := H.2
    refine sj_iast S aM_5 H.1 dX4_layText_23 (fun st496 est496 => ?_)
    have H := H.2 st496 est496
    refine sj_iinc (pl := 1) (lv' := [(0, .ref (g.2.2 0))]) S dX4_layText_24 rfl (by decide) (fun _ => rfl) ?_
    refine sj_goto (tgt := 2) S dX4_layText_27 (by decide) ?_
    exact sj_lv S [1, 0] rfl H
set_option maxRecDepth 100000 in
set_option maxHeartbeats 4000000 in
theorem tX4_layText_0 {l : Launch} {g : sq_G} {J : sq_K} {Q : Int → sq_S → Prop} (S : sq_J l rX4_layText cX4_layText 2 RX4 wsX4_layText g sq_M J) (hret : ∀ (pc : Nat) (lv : List (Nat × Value)) (st' : sq_S), decode cX4_layText pc = .ok (.return_, 1) → Q 0 st' → J pc lv [] st') (st : sq_S) (H : bX4_layText_0 (qX4_layText_2 J g) Q st) : J 0 [(0, .ref (g.2.2 0))] [] st := by
  unfold bX4_layText_0 at H
  refine sj_iconst S dX4_layText_0 ?_
  refine sj_istore_na (lv' := [(0, .ref (g.2.2 0))]) S dX4_layText_1 rfl (by decide) (fun _ => rfl) ?_
  exact sj_lv S [1, 0] rfl H
set_option maxRecDepth 100000 in
set_option maxHeartbeats 4000000 in
theorem kX4_layText (l : Launch) (g : sq_G) (st : sq_S) (Q : Int → sq_S → Prop) (H : wX4_layText  st Q) : sq_Cv l yX4_layText wsX4_layText rX4_layText g sq_M [.ref (g.2.2 0)] st Q := by
  refine sq_in_v (cc := cX4_layText) (nL := 2) (own := RX4) (by decide) rfl rfl (Nat.le_of_ble_eq_true rfl) ?_
  intro J S hret
  exact tX4_layText_0 S hret  st (H (qX4_layText_2 J g) (tX4_layText_2 S hret))
/-! goodOf ([I)I : X4_goodOf_5 -/
theorem iX4_goodOf_4 : ∀ w ∈ u_ws RX4 TX4 12, w ∈ wsX4_goodOf := fun _ h => List.mem_cons_of_mem _ (List.mem_append_right _ h)
theorem mX4_goodOf_7 : Cond.fieldLink RX4 7 (TX4 0).1 (TX4 0).2.1 (TX4 0).2.2.1 ∈ wsX4_goodOf := List.mem_of_getElem? (i := 1) rfl
def bX4_goodOf_5_4 (K4 : Int → Int → sq_S → Prop) (Q : Int → sq_S → Prop) (v2 v3 : Int) (st : sq_S) : Prop :=
  wX4_many st (fun r498 st499 => (sq_rg (v3 + 1) ∧ sq_rg r498) ∧ (r498 ≤ (v3 + 1) → Q v2 st499) ∧ ((v3 + 1) < r498 → sq_ib v3 48 ∧ (sq_ib (v3 + 1) 48 ∧ (sq_ib ((72 + (16 * (st499 5 v3.toNat))) + (st499 5 ((v3 + 1)).toNat)) 819 ∧ (∀ y500 : Int, y500 = (v2 + (st499 1 (((72 + (16 * (st499 5 v3.toNat))) + (st499 5 ((v3 + 1)).toNat))).toNat)) → (K4 y500 (v3 + 1) st499))))))
def bX4_goodOf_5_0 (K4 : Int → Int → sq_S → Prop) (Q : Int → sq_S → Prop) (st : sq_S) : Prop :=
  K4 0 0 st
def wX4_goodOf_5 (st : sq_S) (Q : Int → sq_S → Prop) : Prop :=
  ∀ (K4 : Int → Int → sq_S → Prop), (∀ (v2 v3 : Int) (st : sq_S), bX4_goodOf_5_4 K4 Q v2 v3 st → K4 v2 v3 st) → bX4_goodOf_5_0 K4 Q  st
def rX4_goodOf_5 : Room := { frames := 1, cells := 0, slots := 0, locals := 20 }
def qX4_goodOf_5_4 (J : sq_K) (g : sq_G) : Int → Int → sq_S → Prop := fun v2 v3 st => J 4 [(0, .ref (g.2.2 0)), (1, .ref (g.2.2 5)), (2, .int (sq_z v2)), (3, .int (sq_z v3))] [] st
set_option maxRecDepth 100000 in
set_option maxHeartbeats 4000000 in
theorem tX4_goodOf_5_4 {l : Launch} {g : sq_G} {J : sq_K} {Q : Int → sq_S → Prop} (S : sq_J l rX4_goodOf_5 cX4_goodOf 4 RX4 wsX4_goodOf g sq_M J) (hret : ∀ (pc : Nat) (lv : List (Nat × Value)) (r : Int) (st' : sq_S), decode cX4_goodOf pc = .ok (.ireturn, 1) → Q r st' → J pc lv [.int (sq_z r)] st') (v2 v3 : Int) (st : sq_S) (H : bX4_goodOf_5_4 (qX4_goodOf_5_4 J g) Q v2 v3 st) : J 4 [(0, .ref (g.2.2 0)), (1, .ref (g.2.2 5)), (2, .int (sq_z v2)), (3, .int (sq_z v3))] [] st := by
  unfold bX4_goodOf_5_4 at H
  refine sj_iload_n (pl := 3) S dX4_goodOf_4 rfl rfl ?_
  refine sj_iconst S dX4_goodOf_5 ?_
  refine sj_iadd S dX4_goodOf_6 ?_
  refine sj_aload_n (pl := 0) S dX4_goodOf_7 rfl rfl ?_
  refine sj_vi (rest := [.int (sq_z (v3 + 1))]) (q0 := 0) (ci := 4) S (kX4_many l g st _ H) (fun s args hts => cwV 0 hts gX4_goodOf_X4_many rfl rfl rfl (by decide +kernel) ⟨Nat.le_of_ble_eq_true rfl, Nat.le_of_ble_eq_true rfl⟩) rfl rfl rfl rfl (Nat.le_of_ble_eq_true rfl) dX4_goodOf_8 (fun r498 st499 H => ?_)
  refine sj_icmp_ge (tgt := 43) S H.1 dX4_goodOf_11 (by decide) (fun c9 => ?_) (fun c9 => ?_)
  · have H := H.2.1 c9
    refine sj_iload_n (pl := 2) S dX4_goodOf_43 rfl rfl ?_
    exact hret _ _ _ _ dX4_goodOf_44 H
  · have H := H.2.2 c9
    refine sj_iload_n (pl := 2) S dX4_goodOf_14 rfl rfl ?_
    refine sj_aload_n (pl := 0) S dX4_goodOf_15 rfl rfl ?_
    refine sj_getr S fM_0_0 iX4_goodOf_4 rfl (by decide) mX4_goodOf_7 dX4_goodOf_16 ?_
    refine sj_bipush S dX4_goodOf_19 (by decide +kernel) ?_
    refine sj_bipush S dX4_goodOf_21 (by decide +kernel) ?_
    refine sj_aload_n (pl := 1) S dX4_goodOf_23 rfl rfl ?_
    refine sj_iload_n (pl := 3) S dX4_goodOf_24 rfl rfl ?_
    refine sj_iald S aM_5 H.1 dX4_goodOf_25 ?_
    have H := H.2
    refine sj_imul S dX4_goodOf_26 ?_
    refine sj_iadd S dX4_goodOf_27 ?_
    refine sj_aload_n (pl := 1) S dX4_goodOf_28 rfl rfl ?_
    refine sj_iload_n (pl := 3) S dX4_goodOf_29 rfl rfl ?_
    refine sj_iconst S dX4_goodOf_30 ?_
    refine sj_iadd S dX4_goodOf_31 ?_
    refine sj_iald S aM_5 H.1 dX4_goodOf_32 ?_
    have H := H.2
    refine sj_iadd S dX4_goodOf_33 ?_
    refine sj_iald S aM_1 H.1 dX4_goodOf_34 ?_
    have H := H.2
    refine sj_iadd S dX4_goodOf_35 ?_
    refine sj_istore_n (lv' := [(0, .ref (g.2.2 0)), (1, .ref (g.2.2 5)), (3, .int (sq_z v3))]) S dX4_goodOf_36 rfl (by decide) (fun _ => rfl) (fun y500 ey500 => ?_)
    have H := H y500 ey500
    refine sj_iinc (pl := 3) (lv' := [(2, .int (sq_z y500)), (0, .ref (g.2.2 0)), (1, .ref (g.2.2 5))]) S dX4_goodOf_37 rfl (by decide) (fun _ => rfl) ?_
    refine sj_goto (tgt := 4) S dX4_goodOf_40 (by decide) ?_
    exact sj_lv S [2, 3, 1, 0] rfl H
set_option maxRecDepth 100000 in
set_option maxHeartbeats 4000000 in
theorem tX4_goodOf_5_0 {l : Launch} {g : sq_G} {J : sq_K} {Q : Int → sq_S → Prop} (S : sq_J l rX4_goodOf_5 cX4_goodOf 4 RX4 wsX4_goodOf g sq_M J) (hret : ∀ (pc : Nat) (lv : List (Nat × Value)) (r : Int) (st' : sq_S), decode cX4_goodOf pc = .ok (.ireturn, 1) → Q r st' → J pc lv [.int (sq_z r)] st') (st : sq_S) (H : bX4_goodOf_5_0 (qX4_goodOf_5_4 J g) Q st) : J 0 [(0, .ref (g.2.2 0)), (1, .ref (g.2.2 5))] [] st := by
  unfold bX4_goodOf_5_0 at H
  refine sj_iconst S dX4_goodOf_0 ?_
  refine sj_istore_na (lv' := [(0, .ref (g.2.2 0)), (1, .ref (g.2.2 5))]) S dX4_goodOf_1 rfl (by decide) (fun _ => rfl) ?_
  refine sj_iconst S dX4_goodOf_2 ?_
  refine sj_istore_na (lv' := [(2, .int (sq_z 0)), (0, .ref (g.2.2 0)), (1, .ref (g.2.2 5))]) S dX4_goodOf_3 rfl (by decide) (fun _ => rfl) ?_
  exact sj_lv S [2, 3, 1, 0] rfl H
set_option maxRecDepth 100000 in
set_option maxHeartbeats 4000000 in
theorem kX4_goodOf_5 (l : Launch) (g : sq_G) (st : sq_S) (Q : Int → sq_S → Prop) (H : wX4_goodOf_5  st Q) : sq_Ci l yX4_goodOf wsX4_goodOf rX4_goodOf_5 g sq_M [.ref (g.2.2 0), .ref (g.2.2 5)] st Q := by
  refine sq_in_i (cc := cX4_goodOf) (nL := 4) (own := RX4) (by decide) rfl rfl (Nat.le_of_ble_eq_true rfl) ?_
  intro J S hret
  exact tX4_goodOf_5_0 S hret  st (H (qX4_goodOf_5_4 J g) (tX4_goodOf_5_4 S hret))
/-! good ()I : X4_good -/
theorem iX4_good_4 : ∀ w ∈ u_ws RX4 TX4 12, w ∈ wsX4_good := fun _ h => List.mem_cons_of_mem _ (List.mem_append_right _ h)
theorem mX4_good_23 : Cond.fieldLink RX4 23 (TX4 5).1 (TX4 5).2.1 (TX4 5).2.2.1 ∈ wsX4_good := List.mem_of_getElem? (i := 1) rfl
def wX4_good (st : sq_S) (Q : Int → sq_S → Prop) : Prop :=
  wX4_layText st (fun _ st497 => wX4_goodOf_5 st497 (fun r501 st502 => Q r501 st502))
def rX4_good : Room := { frames := 2, cells := 0, slots := 0, locals := 43 }
set_option maxRecDepth 100000 in
set_option maxHeartbeats 4000000 in
theorem tX4_good_0 {l : Launch} {g : sq_G} {J : sq_K} {Q : Int → sq_S → Prop} (S : sq_J l rX4_good cX4_good 1 RX4 wsX4_good g sq_M J) (hret : ∀ (pc : Nat) (lv : List (Nat × Value)) (r : Int) (st' : sq_S), decode cX4_good pc = .ok (.ireturn, 1) → Q r st' → J pc lv [.int (sq_z r)] st') (st : sq_S) (H : wX4_good st Q) : J 0 [(0, .ref (g.2.2 0))] [] st := by
  unfold wX4_good at H
  refine sj_aload_n (pl := 0) S dX4_good_0 rfl rfl ?_
  refine sj_vv (rest := []) (q0 := 0) (ci := 4) S (kX4_layText l g st _ H) (fun s args hts => cwV 0 hts gX4_good_X4_layText rfl rfl rfl (by decide +kernel) ⟨Nat.le_of_ble_eq_true rfl, Nat.le_of_ble_eq_true rfl⟩) rfl rfl rfl rfl (Nat.le_of_ble_eq_true rfl) dX4_good_1 (fun st497 H => ?_)
  refine sj_aload_n (pl := 0) S dX4_good_4 rfl rfl ?_
  refine sj_aload_n (pl := 0) S dX4_good_5 rfl rfl ?_
  refine sj_getr S fM_0_5 iX4_good_4 rfl (by decide) mX4_good_23 dX4_good_6 ?_
  refine sj_vi (rest := []) (q0 := 0) (ci := 4) S (kX4_goodOf_5 l g st497 _ H) (fun s args hts => cwV 1 hts gX4_good_X4_goodOf rfl rfl rfl (by decide +kernel) ⟨Nat.le_of_ble_eq_true rfl, Nat.le_of_ble_eq_true rfl⟩) rfl rfl rfl rfl (Nat.le_of_ble_eq_true rfl) dX4_good_9 (fun r501 st502 H => ?_)
  exact hret _ _ _ _ dX4_good_12 H
set_option maxRecDepth 100000 in
set_option maxHeartbeats 4000000 in
theorem kX4_good (l : Launch) (g : sq_G) (st : sq_S) (Q : Int → sq_S → Prop) (H : wX4_good  st Q) : sq_Ci l yX4_good wsX4_good rX4_good g sq_M [.ref (g.2.2 0)] st Q := by
  refine sq_in_i (cc := cX4_good) (nL := 1) (own := RX4) (by decide) rfl rfl (Nat.le_of_ble_eq_true rfl) ?_
  intro J S hret
  exact tX4_good_0 S hret  st H
/-! orders (I)I : X4_orders -/
def bX4_orders_4 (K4 : Int → Int → Int → sq_S → Prop) (Q : Int → sq_S → Prop) (v0 v1 v2 : Int) (st : sq_S) : Prop :=
  (sq_rg v2 ∧ sq_rg v0) ∧ (v0 < v2 → Q v1 st) ∧ (v2 ≤ v0 → ∀ y507 : Int, y507 = (v1 * v2) → (K4 v0 y507 (v2 + 1) st))
def bX4_orders_0 (K4 : Int → Int → Int → sq_S → Prop) (Q : Int → sq_S → Prop) (v0 : Int) (st : sq_S) : Prop :=
  K4 v0 1 2 st
def wX4_orders (v0 : Int) (st : sq_S) (Q : Int → sq_S → Prop) : Prop :=
  ∀ (K4 : Int → Int → Int → sq_S → Prop), (∀ (v0 v1 v2 : Int) (st : sq_S), bX4_orders_4 K4 Q v0 v1 v2 st → K4 v0 v1 v2 st) → bX4_orders_0 K4 Q v0 st
def rX4_orders : Room := { frames := 0, cells := 0, slots := 0, locals := 0 }
def qX4_orders_4 (J : sq_K) (g : sq_G) : Int → Int → Int → sq_S → Prop := fun v0 v1 v2 st => J 4 [(0, .int (sq_z v0)), (1, .int (sq_z v1)), (2, .int (sq_z v2))] [] st
set_option maxRecDepth 100000 in
set_option maxHeartbeats 4000000 in
theorem tX4_orders_4 {l : Launch} {g : sq_G} {J : sq_K} {Q : Int → sq_S → Prop} (S : sq_J l rX4_orders cX4_orders 3 RX4 wsX4_orders g sq_M J) (hret : ∀ (pc : Nat) (lv : List (Nat × Value)) (r : Int) (st' : sq_S), decode cX4_orders pc = .ok (.ireturn, 1) → Q r st' → J pc lv [.int (sq_z r)] st') (v0 v1 v2 : Int) (st : sq_S) (H : bX4_orders_4 (qX4_orders_4 J g) Q v0 v1 v2 st) : J 4 [(0, .int (sq_z v0)), (1, .int (sq_z v1)), (2, .int (sq_z v2))] [] st := by
  unfold bX4_orders_4 at H
  refine sj_iload_n (pl := 2) S dX4_orders_4 rfl rfl ?_
  refine sj_iload_n (pl := 0) S dX4_orders_5 rfl rfl ?_
  refine sj_icmp_gt (tgt := 19) S H.1 dX4_orders_6 (by decide) (fun c9 => ?_) (fun c9 => ?_)
  · have H := H.2.1 c9
    refine sj_iload_n (pl := 1) S dX4_orders_19 rfl rfl ?_
    exact hret _ _ _ _ dX4_orders_20 H
  · have H := H.2.2 c9
    refine sj_iload_n (pl := 1) S dX4_orders_9 rfl rfl ?_
    refine sj_iload_n (pl := 2) S dX4_orders_10 rfl rfl ?_
    refine sj_imul S dX4_orders_11 ?_
    refine sj_istore_n (lv' := [(0, .int (sq_z v0)), (2, .int (sq_z v2))]) S dX4_orders_12 rfl (by decide) (fun _ => rfl) (fun y507 ey507 => ?_)
    have H := H y507 ey507
    refine sj_iinc (pl := 2) (lv' := [(1, .int (sq_z y507)), (0, .int (sq_z v0))]) S dX4_orders_13 rfl (by decide) (fun _ => rfl) ?_
    refine sj_goto (tgt := 4) S dX4_orders_16 (by decide) ?_
    exact sj_lv S [2, 1, 0] rfl H
set_option maxRecDepth 100000 in
set_option maxHeartbeats 4000000 in
theorem tX4_orders_0 {l : Launch} {g : sq_G} {J : sq_K} {Q : Int → sq_S → Prop} (S : sq_J l rX4_orders cX4_orders 3 RX4 wsX4_orders g sq_M J) (hret : ∀ (pc : Nat) (lv : List (Nat × Value)) (r : Int) (st' : sq_S), decode cX4_orders pc = .ok (.ireturn, 1) → Q r st' → J pc lv [.int (sq_z r)] st') (v0 : Int) (st : sq_S) (H : bX4_orders_0 (qX4_orders_4 J g) Q v0 st) : J 0 [(0, .int (sq_z v0))] [] st := by
  unfold bX4_orders_0 at H
  refine sj_iconst S dX4_orders_0 ?_
  refine sj_istore_na (lv' := [(0, .int (sq_z v0))]) S dX4_orders_1 rfl (by decide) (fun _ => rfl) ?_
  refine sj_iconst S dX4_orders_2 ?_
  refine sj_istore_na (lv' := [(1, .int (sq_z 1)), (0, .int (sq_z v0))]) S dX4_orders_3 rfl (by decide) (fun _ => rfl) ?_
  exact sj_lv S [2, 1, 0] rfl H
set_option maxRecDepth 100000 in
set_option maxHeartbeats 4000000 in
theorem kX4_orders (l : Launch) (g : sq_G) (v0 : Int) (st : sq_S) (Q : Int → sq_S → Prop) (H : wX4_orders v0 st Q) : sq_Ci l yX4_orders wsX4_orders rX4_orders g sq_M [.int (sq_z v0)] st Q := by
  refine sq_in_i (cc := cX4_orders) (nL := 3) (own := RX4) (by decide) rfl rfl (Nat.le_of_ble_eq_true rfl) ?_
  intro J S hret
  exact tX4_orders_0 S hret v0 st (H (qX4_orders_4 J g) (tX4_orders_4 S hret))
/-! layOrder (II)V : X4_layOrder -/
theorem iX4_layOrder_4 : ∀ w ∈ u_ws RX4 TX4 12, w ∈ wsX4_layOrder := fun _ h => List.mem_cons_of_mem _ (List.mem_append_right _ h)
theorem mX4_layOrder_32 : Cond.fieldLink RX4 32 (TX4 8).1 (TX4 8).2.1 (TX4 8).2.2.1 ∈ wsX4_layOrder := List.mem_of_getElem? (i := 1) rfl
def bX4_layOrder_7 (K7 : Int → Int → Int → sq_S → Prop) (K48 : Int → Int → Int → sq_S → Prop) (K66 : Int → Int → Int → Int → Int → sq_S → Prop) (Q : Int → sq_S → Prop) (v2 v3 v4 : Int) (st : sq_S) : Prop :=
  sq_rg v4 ∧ (v4 < 0 → ∀ y511 : Int, y511 = ((sq_shl 1 v2) - 1) → (K48 v2 y511 0 st)) ∧ (0 ≤ v4 → ((0 ≤ v3 ∧ v3 ≤ 2147483647) ∧ (0 < (v2 - v4) ∧ (v2 - v4) ≤ 2147483647)) ∧ (sq_ib v4 6 ∧ (∀ st512 : sq_S, st512 = sq_set st 8 v4.toNat (v3 % (v2 - v4)) → (((0 ≤ v3 ∧ v3 ≤ 2147483647) ∧ (0 < (v2 - v4) ∧ (v2 - v4) ≤ 2147483647)) ∧ (∀ y513 : Int, y513 = (v3 / (v2 - v4)) → (K7 v2 y513 (v4 + (-1)) st512))))))
def bX4_layOrder_48 (K7 : Int → Int → Int → sq_S → Prop) (K48 : Int → Int → Int → sq_S → Prop) (K66 : Int → Int → Int → Int → Int → sq_S → Prop) (Q : Int → sq_S → Prop) (v2 v4 v5 : Int) (st : sq_S) : Prop :=
  (sq_rg v5 ∧ sq_rg v2) ∧ (v2 ≤ v5 → Q 0 st) ∧ (v5 < v2 → sq_ib v5 6 ∧ (∀ y514 : Int, y514 = (st 8 v5.toNat) → (K66 v2 v4 v5 y514 0 st)))
def bX4_layOrder_66 (K7 : Int → Int → Int → sq_S → Prop) (K48 : Int → Int → Int → sq_S → Prop) (K66 : Int → Int → Int → Int → Int → sq_S → Prop) (Q : Int → sq_S → Prop) (v2 v4 v5 v6 v7 : Int) (st : sq_S) : Prop :=
  sq_rg (sq_and (sq_shr v4 v7) 1) ∧ ((sq_and (sq_shr v4 v7) 1) = 0 → ∀ y515 : Int, y515 = (v6 - (sq_and (sq_shr v4 v7) 1)) → (K66 v2 v4 v5 y515 (v7 + 1) st)) ∧ (¬ (sq_and (sq_shr v4 v7) 1) = 0 → sq_rg v6 ∧ (v6 ≤ 0 → ∀ y516 : Int, y516 = (sq_and v4 (sq_xor (sq_shl 1 v7) (-1))) → (sq_ib v5 6 ∧ (∀ st517 : sq_S, st517 = sq_set st 8 v5.toNat v7 → (K48 v2 y516 (v5 + 1) st517)))) ∧ (0 < v6 → ∀ y518 : Int, y518 = (v6 - (sq_and (sq_shr v4 v7) 1)) → (K66 v2 v4 v5 y518 (v7 + 1) st)))
def bX4_layOrder_0 (K7 : Int → Int → Int → sq_S → Prop) (K48 : Int → Int → Int → sq_S → Prop) (K66 : Int → Int → Int → Int → Int → sq_S → Prop) (Q : Int → sq_S → Prop) (v1 v2 : Int) (st : sq_S) : Prop :=
  ∀ y510 : Int, y510 = (v2 - 1) → (K7 v2 v1 y510 st)
def wX4_layOrder (v1 v2 : Int) (st : sq_S) (Q : Int → sq_S → Prop) : Prop :=
  ∀ (K7 : Int → Int → Int → sq_S → Prop) (K48 : Int → Int → Int → sq_S → Prop) (K66 : Int → Int → Int → Int → Int → sq_S → Prop), (∀ (v2 v3 v4 : Int) (st : sq_S), bX4_layOrder_7 K7 K48 K66 Q v2 v3 v4 st → K7 v2 v3 v4 st) → (∀ (v2 v4 v5 : Int) (st : sq_S), bX4_layOrder_48 K7 K48 K66 Q v2 v4 v5 st → K48 v2 v4 v5 st) → (∀ (v2 v4 v5 v6 v7 : Int) (st : sq_S), bX4_layOrder_66 K7 K48 K66 Q v2 v4 v5 v6 v7 st → K66 v2 v4 v5 v6 v7 st) → bX4_layOrder_0 K7 K48 K66 Q v1 v2 st
def rX4_layOrder : Room := { frames := 0, cells := 0, slots := 0, locals := 0 }
def qX4_layOrder_7 (J : sq_K) (g : sq_G) : Int → Int → Int → sq_S → Prop := fun v2 v3 v4 st => J 7 [(0, .ref (g.2.2 0)), (2, .int (sq_z v2)), (3, .int (sq_z v3)), (4, .int (sq_z v4))] [] st
def qX4_layOrder_48 (J : sq_K) (g : sq_G) : Int → Int → Int → sq_S → Prop := fun v2 v4 v5 st => J 48 [(0, .ref (g.2.2 0)), (2, .int (sq_z v2)), (4, .int (sq_z v4)), (5, .int (sq_z v5))] [] st
def qX4_layOrder_66 (J : sq_K) (g : sq_G) : Int → Int → Int → Int → Int → sq_S → Prop := fun v2 v4 v5 v6 v7 st => J 66 [(0, .ref (g.2.2 0)), (2, .int (sq_z v2)), (4, .int (sq_z v4)), (5, .int (sq_z v5)), (6, .int (sq_z v6)), (7, .int (sq_z v7))] [] st
set_option maxRecDepth 100000 in
set_option maxHeartbeats 4000000 in
theorem tX4_layOrder_7 {l : Launch} {g : sq_G} {J : sq_K} {Q : Int → sq_S → Prop} (S : sq_J l rX4_layOrder cX4_layOrder 8 RX4 wsX4_layOrder g sq_M J) (hret : ∀ (pc : Nat) (lv : List (Nat × Value)) (st' : sq_S), decode cX4_layOrder pc = .ok (.return_, 1) → Q 0 st' → J pc lv [] st') (v2 v3 v4 : Int) (st : sq_S) (H : bX4_layOrder_7 (qX4_layOrder_7 J g) (qX4_layOrder_48 J g) (qX4_layOrder_66 J g) Q v2 v3 v4 st) : J 7 [(0, .ref (g.2.2 0)), (2, .int (sq_z v2)), (3, .int (sq_z v3)), (4, .int (sq_z v4))] [] st := by
  unfold bX4_layOrder_7 at H
  refine sj_iload (pl := 3) S dX4_layOrder_7 rfl ?_
  refine sj_if_lt (tgt := 38) S H.1 dX4_layOrder_9 (by decide) (fun c9 => ?_) (fun c9 => ?_)
  · have H := H.2.1 c9
    refine sj_iconst S dX4_layOrder_38 ?_
    refine sj_iload_n (pl := 1) S dX4_layOrder_39 rfl rfl ?_
    refine sj_ishl S dX4_layOrder_40 ?_
    refine sj_iconst S dX4_layOrder_41 ?_
    refine sj_isub S dX4_layOrder_42 ?_
    refine sj_istore (lv' := [(0, .ref (g.2.2 0)), (2, .int (sq_z v2)), (3, .int (sq_z v3))]) S dX4_layOrder_43 (by decide) (fun _ => rfl) (fun y511 ey511 => ?_)
    have H := H y511 ey511
    refine sj_iconst S dX4_layOrder_45 ?_
    refine sj_istorea (lv' := [(4, .int (sq_z y511)), (0, .ref (g.2.2 0)), (2, .int (sq_z v2)), (3, .int (sq_z v3))]) S dX4_layOrder_46 (by decide) (fun _ => rfl) ?_
    exact sj_lv S [2, 3, 1, 0] rfl H
  · have H := H.2.2 c9
    refine sj_aload_n (pl := 0) S dX4_layOrder_12 rfl rfl ?_
    refine sj_getr S fM_0_8 iX4_layOrder_4 rfl (by decide) mX4_layOrder_32 dX4_layOrder_13 ?_
    refine sj_iload (pl := 3) S dX4_layOrder_16 rfl ?_
    refine sj_iload_n (pl := 2) S dX4_layOrder_18 rfl rfl ?_
    refine sj_iload_n (pl := 1) S dX4_layOrder_19 rfl rfl ?_
    refine sj_iload (pl := 3) S dX4_layOrder_20 rfl ?_
    refine sj_isub S dX4_layOrder_22 ?_
    refine sj_irem S H.1 dX4_layOrder_23 ?_
    have H := H.2
    refine sj_iast S aM_8 H.1 dX4_layOrder_24 (fun st512 est512 => ?_)
    have H := H.2 st512 est512
    refine sj_iload_n (pl := 2) S dX4_layOrder_25 rfl rfl ?_
    refine sj_iload_n (pl := 1) S dX4_layOrder_26 rfl rfl ?_
    refine sj_iload (pl := 3) S dX4_layOrder_27 rfl ?_
    refine sj_isub S dX4_layOrder_29 ?_
    refine sj_idiv S H.1 dX4_layOrder_30 ?_
    have H := H.2
    refine sj_istore_n (lv' := [(0, .ref (g.2.2 0)), (2, .int (sq_z v2)), (4, .int (sq_z v4))]) S dX4_layOrder_31 rfl (by decide) (fun _ => rfl) (fun y513 ey513 => ?_)
    have H := H y513 ey513
    refine sj_iinc (pl := 3) (lv' := [(3, .int (sq_z y513)), (0, .ref (g.2.2 0)), (2, .int (sq_z v2))]) S dX4_layOrder_32 rfl (by decide) (fun _ => rfl) ?_
    refine sj_goto (tgt := 7) S dX4_layOrder_35 (by decide) ?_
    exact sj_lv S [2, 3, 1, 0] rfl H
set_option maxRecDepth 100000 in
set_option maxHeartbeats 4000000 in
theorem tX4_layOrder_48 {l : Launch} {g : sq_G} {J : sq_K} {Q : Int → sq_S → Prop} (S : sq_J l rX4_layOrder cX4_layOrder 8 RX4 wsX4_layOrder g sq_M J) (hret : ∀ (pc : Nat) (lv : List (Nat × Value)) (st' : sq_S), decode cX4_layOrder pc = .ok (.return_, 1) → Q 0 st' → J pc lv [] st') (v2 v4 v5 : Int) (st : sq_S) (H : bX4_layOrder_48 (qX4_layOrder_7 J g) (qX4_layOrder_48 J g) (qX4_layOrder_66 J g) Q v2 v4 v5 st) : J 48 [(0, .ref (g.2.2 0)), (2, .int (sq_z v2)), (4, .int (sq_z v4)), (5, .int (sq_z v5))] [] st := by
  unfold bX4_layOrder_48 at H
  refine sj_iload (pl := 3) S dX4_layOrder_48 rfl ?_
  refine sj_iload_n (pl := 1) S dX4_layOrder_50 rfl rfl ?_
  refine sj_icmp_ge (tgt := 125) S H.1 dX4_layOrder_51 (by decide) (fun c9 => ?_) (fun c9 => ?_)
  · have H := H.2.1 c9
    exact hret _ _ _ dX4_layOrder_125 H
  · have H := H.2.2 c9
    refine sj_aload_n (pl := 0) S dX4_layOrder_54 rfl rfl ?_
    refine sj_getr S fM_0_8 iX4_layOrder_4 rfl (by decide) mX4_layOrder_32 dX4_layOrder_55 ?_
    refine sj_iload (pl := 3) S dX4_layOrder_58 rfl ?_
    refine sj_iald S aM_8 H.1 dX4_layOrder_60 ?_
    have H := H.2
    refine sj_istore (lv' := [(0, .ref (g.2.2 0)), (2, .int (sq_z v2)), (4, .int (sq_z v4)), (5, .int (sq_z v5))]) S dX4_layOrder_61 (by decide) (fun _ => rfl) (fun y514 ey514 => ?_)
    have H := H y514 ey514
    refine sj_iconst S dX4_layOrder_63 ?_
    refine sj_istorea (lv' := [(6, .int (sq_z y514)), (0, .ref (g.2.2 0)), (2, .int (sq_z v2)), (4, .int (sq_z v4)), (5, .int (sq_z v5))]) S dX4_layOrder_64 (by decide) (fun _ => rfl) ?_
    exact sj_lv S [2, 3, 4, 5, 1, 0] rfl H
set_option maxRecDepth 100000 in
set_option maxHeartbeats 4000000 in
theorem tX4_layOrder_66 {l : Launch} {g : sq_G} {J : sq_K} {Q : Int → sq_S → Prop} (S : sq_J l rX4_layOrder cX4_layOrder 8 RX4 wsX4_layOrder g sq_M J) (hret : ∀ (pc : Nat) (lv : List (Nat × Value)) (st' : sq_S), decode cX4_layOrder pc = .ok (.return_, 1) → Q 0 st' → J pc lv [] st') (v2 v4 v5 v6 v7 : Int) (st : sq_S) (H : bX4_layOrder_66 (qX4_layOrder_7 J g) (qX4_layOrder_48 J g) (qX4_layOrder_66 J g) Q v2 v4 v5 v6 v7 st) : J 66 [(0, .ref (g.2.2 0)), (2, .int (sq_z v2)), (4, .int (sq_z v4)), (5, .int (sq_z v5)), (6, .int (sq_z v6)), (7, .int (sq_z v7))] [] st := by
  unfold bX4_layOrder_66 at H
  refine sj_iload (pl := 2) S dX4_layOrder_66 rfl ?_
  refine sj_iload (pl := 5) S dX4_layOrder_68 rfl ?_
  refine sj_ishr S dX4_layOrder_70 ?_
  refine sj_iconst S dX4_layOrder_71 ?_
  refine sj_iand S dX4_layOrder_72 ?_
  refine sj_if_eq (tgt := 81) S H.1 dX4_layOrder_73 (by decide) (fun c9 => ?_) (fun c9 => ?_)
  · have H := H.2.1 c9
    refine sj_iload (pl := 4) S dX4_layOrder_81 rfl ?_
    refine sj_iload (pl := 2) S dX4_layOrder_83 rfl ?_
    refine sj_iload (pl := 5) S dX4_layOrder_85 rfl ?_
    refine sj_ishr S dX4_layOrder_87 ?_
    refine sj_iconst S dX4_layOrder_88 ?_
    refine sj_iand S dX4_layOrder_89 ?_
    refine sj_isub S dX4_layOrder_90 ?_
    refine sj_istore (lv' := [(0, .ref (g.2.2 0)), (2, .int (sq_z v2)), (4, .int (sq_z v4)), (5, .int (sq_z v5)), (7, .int (sq_z v7))]) S dX4_layOrder_91 (by decide) (fun _ => rfl) (fun y515 ey515 => ?_)
    have H := H y515 ey515
    refine sj_iinc (pl := 5) (lv' := [(6, .int (sq_z y515)), (0, .ref (g.2.2 0)), (2, .int (sq_z v2)), (4, .int (sq_z v4)), (5, .int (sq_z v5))]) S dX4_layOrder_93 rfl (by decide) (fun _ => rfl) ?_
    refine sj_goto (tgt := 66) S dX4_layOrder_96 (by decide) ?_
    exact sj_lv S [2, 3, 4, 5, 1, 0] rfl H
  · have H := H.2.2 c9
    refine sj_iload (pl := 4) S dX4_layOrder_76 rfl ?_
    refine sj_if_le (tgt := 99) S H.1 dX4_layOrder_78 (by decide) (fun c9 => ?_) (fun c9 => ?_)
    · have H := H.2.1 c9
      refine sj_iload (pl := 2) S dX4_layOrder_99 rfl ?_
      refine sj_iconst S dX4_layOrder_101 ?_
      refine sj_iload (pl := 5) S dX4_layOrder_102 rfl ?_
      refine sj_ishl S dX4_layOrder_104 ?_
      refine sj_iconst S dX4_layOrder_105 ?_
      refine sj_ixor S dX4_layOrder_106 ?_
      refine sj_iand S dX4_layOrder_107 ?_
      refine sj_istore (lv' := [(0, .ref (g.2.2 0)), (2, .int (sq_z v2)), (5, .int (sq_z v5)), (6, .int (sq_z v6)), (7, .int (sq_z v7))]) S dX4_layOrder_108 (by decide) (fun _ => rfl) (fun y516 ey516 => ?_)
      have H := H y516 ey516
      refine sj_aload_n (pl := 1) S dX4_layOrder_110 rfl rfl ?_
      refine sj_getr S fM_0_8 iX4_layOrder_4 rfl (by decide) mX4_layOrder_32 dX4_layOrder_111 ?_
      refine sj_iload (pl := 3) S dX4_layOrder_114 rfl ?_
      refine sj_iload (pl := 5) S dX4_layOrder_116 rfl ?_
      refine sj_iast S aM_8 H.1 dX4_layOrder_118 (fun st517 est517 => ?_)
      have H := H.2 st517 est517
      refine sj_iinc (pl := 3) (lv' := [(4, .int (sq_z y516)), (0, .ref (g.2.2 0)), (2, .int (sq_z v2)), (6, .int (sq_z v6)), (7, .int (sq_z v7))]) S dX4_layOrder_119 rfl (by decide) (fun _ => rfl) ?_
      refine sj_goto (tgt := 48) S dX4_layOrder_122 (by decide) ?_
      exact sj_lv S [2, 3, 1, 0] rfl H
    · have H := H.2.2 c9
      refine sj_iload (pl := 4) S dX4_layOrder_81 rfl ?_
      refine sj_iload (pl := 2) S dX4_layOrder_83 rfl ?_
      refine sj_iload (pl := 5) S dX4_layOrder_85 rfl ?_
      refine sj_ishr S dX4_layOrder_87 ?_
      refine sj_iconst S dX4_layOrder_88 ?_
      refine sj_iand S dX4_layOrder_89 ?_
      refine sj_isub S dX4_layOrder_90 ?_
      refine sj_istore (lv' := [(0, .ref (g.2.2 0)), (2, .int (sq_z v2)), (4, .int (sq_z v4)), (5, .int (sq_z v5)), (7, .int (sq_z v7))]) S dX4_layOrder_91 (by decide) (fun _ => rfl) (fun y518 ey518 => ?_)
      have H := H y518 ey518
      refine sj_iinc (pl := 5) (lv' := [(6, .int (sq_z y518)), (0, .ref (g.2.2 0)), (2, .int (sq_z v2)), (4, .int (sq_z v4)), (5, .int (sq_z v5))]) S dX4_layOrder_93 rfl (by decide) (fun _ => rfl) ?_
      refine sj_goto (tgt := 66) S dX4_layOrder_96 (by decide) ?_
      exact sj_lv S [2, 3, 4, 5, 1, 0] rfl H
set_option maxRecDepth 100000 in
set_option maxHeartbeats 4000000 in
theorem tX4_layOrder_0 {l : Launch} {g : sq_G} {J : sq_K} {Q : Int → sq_S → Prop} (S : sq_J l rX4_layOrder cX4_layOrder 8 RX4 wsX4_layOrder g sq_M J) (hret : ∀ (pc : Nat) (lv : List (Nat × Value)) (st' : sq_S), decode cX4_layOrder pc = .ok (.return_, 1) → Q 0 st' → J pc lv [] st') (v1 v2 : Int) (st : sq_S) (H : bX4_layOrder_0 (qX4_layOrder_7 J g) (qX4_layOrder_48 J g) (qX4_layOrder_66 J g) Q v1 v2 st) : J 0 [(0, .ref (g.2.2 0)), (1, .int (sq_z v1)), (2, .int (sq_z v2))] [] st := by
  unfold bX4_layOrder_0 at H
  refine sj_iload_n (pl := 1) S dX4_layOrder_0 rfl rfl ?_
  refine sj_istore_na (lv' := [(0, .ref (g.2.2 0)), (1, .int (sq_z v1)), (2, .int (sq_z v2))]) S dX4_layOrder_1 rfl (by decide) (fun _ => rfl) ?_
  refine sj_iload_n (pl := 3) S dX4_layOrder_2 rfl rfl ?_
  refine sj_iconst S dX4_layOrder_3 ?_
  refine sj_isub S dX4_layOrder_4 ?_
  refine sj_istore (lv' := [(3, .int (sq_z v1)), (0, .ref (g.2.2 0)), (1, .int (sq_z v1)), (2, .int (sq_z v2))]) S dX4_layOrder_5 (by decide) (fun _ => rfl) (fun y510 ey510 => ?_)
  have H := H y510 ey510
  exact sj_lv S [2, 4, 1, 0] rfl H
set_option maxRecDepth 100000 in
set_option maxHeartbeats 4000000 in
theorem kX4_layOrder (l : Launch) (g : sq_G) (v1 v2 : Int) (st : sq_S) (Q : Int → sq_S → Prop) (H : wX4_layOrder v1 v2 st Q) : sq_Cv l yX4_layOrder wsX4_layOrder rX4_layOrder g sq_M [.ref (g.2.2 0), .int (sq_z v1), .int (sq_z v2)] st Q := by
  refine sq_in_v (cc := cX4_layOrder) (nL := 8) (own := RX4) (by decide) rfl rfl (Nat.le_of_ble_eq_true rfl) ?_
  intro J S hret
  exact tX4_layOrder_0 S hret v1 v2 st (H (qX4_layOrder_7 J g) (qX4_layOrder_48 J g) (qX4_layOrder_66 J g) (tX4_layOrder_7 S hret) (tX4_layOrder_48 S hret) (tX4_layOrder_66 S hret))
/-! goodOf ([I)I : X4_goodOf_6 -/
def bX4_goodOf_6_4 (K4 : Int → Int → sq_S → Prop) (Q : Int → sq_S → Prop) (v2 v3 : Int) (st : sq_S) : Prop :=
  wX4_many st (fun r524 st525 => (sq_rg (v3 + 1) ∧ sq_rg r524) ∧ (r524 ≤ (v3 + 1) → Q v2 st525) ∧ ((v3 + 1) < r524 → sq_ib v3 48 ∧ (sq_ib (v3 + 1) 48 ∧ (sq_ib ((72 + (16 * (st525 6 v3.toNat))) + (st525 6 ((v3 + 1)).toNat)) 819 ∧ (∀ y526 : Int, y526 = (v2 + (st525 1 (((72 + (16 * (st525 6 v3.toNat))) + (st525 6 ((v3 + 1)).toNat))).toNat)) → (K4 y526 (v3 + 1) st525))))))
def bX4_goodOf_6_0 (K4 : Int → Int → sq_S → Prop) (Q : Int → sq_S → Prop) (st : sq_S) : Prop :=
  K4 0 0 st
def wX4_goodOf_6 (st : sq_S) (Q : Int → sq_S → Prop) : Prop :=
  ∀ (K4 : Int → Int → sq_S → Prop), (∀ (v2 v3 : Int) (st : sq_S), bX4_goodOf_6_4 K4 Q v2 v3 st → K4 v2 v3 st) → bX4_goodOf_6_0 K4 Q  st
def rX4_goodOf_6 : Room := { frames := 1, cells := 0, slots := 0, locals := 20 }
def qX4_goodOf_6_4 (J : sq_K) (g : sq_G) : Int → Int → sq_S → Prop := fun v2 v3 st => J 4 [(0, .ref (g.2.2 0)), (1, .ref (g.2.2 6)), (2, .int (sq_z v2)), (3, .int (sq_z v3))] [] st
set_option maxRecDepth 100000 in
set_option maxHeartbeats 4000000 in
theorem tX4_goodOf_6_4 {l : Launch} {g : sq_G} {J : sq_K} {Q : Int → sq_S → Prop} (S : sq_J l rX4_goodOf_6 cX4_goodOf 4 RX4 wsX4_goodOf g sq_M J) (hret : ∀ (pc : Nat) (lv : List (Nat × Value)) (r : Int) (st' : sq_S), decode cX4_goodOf pc = .ok (.ireturn, 1) → Q r st' → J pc lv [.int (sq_z r)] st') (v2 v3 : Int) (st : sq_S) (H : bX4_goodOf_6_4 (qX4_goodOf_6_4 J g) Q v2 v3 st) : J 4 [(0, .ref (g.2.2 0)), (1, .ref (g.2.2 6)), (2, .int (sq_z v2)), (3, .int (sq_z v3))] [] st := by
  unfold bX4_goodOf_6_4 at H
  refine sj_iload_n (pl := 3) S dX4_goodOf_4 rfl rfl ?_
  refine sj_iconst S dX4_goodOf_5 ?_
  refine sj_iadd S dX4_goodOf_6 ?_
  refine sj_aload_n (pl := 0) S dX4_goodOf_7 rfl rfl ?_
  refine sj_vi (rest := [.int (sq_z (v3 + 1))]) (q0 := 0) (ci := 4) S (kX4_many l g st _ H) (fun s args hts => cwV 0 hts gX4_goodOf_X4_many rfl rfl rfl (by decide +kernel) ⟨Nat.le_of_ble_eq_true rfl, Nat.le_of_ble_eq_true rfl⟩) rfl rfl rfl rfl (Nat.le_of_ble_eq_true rfl) dX4_goodOf_8 (fun r524 st525 H => ?_)
  refine sj_icmp_ge (tgt := 43) S H.1 dX4_goodOf_11 (by decide) (fun c9 => ?_) (fun c9 => ?_)
  · have H := H.2.1 c9
    refine sj_iload_n (pl := 2) S dX4_goodOf_43 rfl rfl ?_
    exact hret _ _ _ _ dX4_goodOf_44 H
  · have H := H.2.2 c9
    refine sj_iload_n (pl := 2) S dX4_goodOf_14 rfl rfl ?_
    refine sj_aload_n (pl := 0) S dX4_goodOf_15 rfl rfl ?_
    refine sj_getr S fM_0_0 iX4_goodOf_4 rfl (by decide) mX4_goodOf_7 dX4_goodOf_16 ?_
    refine sj_bipush S dX4_goodOf_19 (by decide +kernel) ?_
    refine sj_bipush S dX4_goodOf_21 (by decide +kernel) ?_
    refine sj_aload_n (pl := 1) S dX4_goodOf_23 rfl rfl ?_
    refine sj_iload_n (pl := 3) S dX4_goodOf_24 rfl rfl ?_
    refine sj_iald S aM_6 H.1 dX4_goodOf_25 ?_
    have H := H.2
    refine sj_imul S dX4_goodOf_26 ?_
    refine sj_iadd S dX4_goodOf_27 ?_
    refine sj_aload_n (pl := 1) S dX4_goodOf_28 rfl rfl ?_
    refine sj_iload_n (pl := 3) S dX4_goodOf_29 rfl rfl ?_
    refine sj_iconst S dX4_goodOf_30 ?_
    refine sj_iadd S dX4_goodOf_31 ?_
    refine sj_iald S aM_6 H.1 dX4_goodOf_32 ?_
    have H := H.2
    refine sj_iadd S dX4_goodOf_33 ?_
    refine sj_iald S aM_1 H.1 dX4_goodOf_34 ?_
    have H := H.2
    refine sj_iadd S dX4_goodOf_35 ?_
    refine sj_istore_n (lv' := [(0, .ref (g.2.2 0)), (1, .ref (g.2.2 6)), (3, .int (sq_z v3))]) S dX4_goodOf_36 rfl (by decide) (fun _ => rfl) (fun y526 ey526 => ?_)
    have H := H y526 ey526
    refine sj_iinc (pl := 3) (lv' := [(2, .int (sq_z y526)), (0, .ref (g.2.2 0)), (1, .ref (g.2.2 6))]) S dX4_goodOf_37 rfl (by decide) (fun _ => rfl) ?_
    refine sj_goto (tgt := 4) S dX4_goodOf_40 (by decide) ?_
    exact sj_lv S [2, 3, 1, 0] rfl H
set_option maxRecDepth 100000 in
set_option maxHeartbeats 4000000 in
theorem tX4_goodOf_6_0 {l : Launch} {g : sq_G} {J : sq_K} {Q : Int → sq_S → Prop} (S : sq_J l rX4_goodOf_6 cX4_goodOf 4 RX4 wsX4_goodOf g sq_M J) (hret : ∀ (pc : Nat) (lv : List (Nat × Value)) (r : Int) (st' : sq_S), decode cX4_goodOf pc = .ok (.ireturn, 1) → Q r st' → J pc lv [.int (sq_z r)] st') (st : sq_S) (H : bX4_goodOf_6_0 (qX4_goodOf_6_4 J g) Q st) : J 0 [(0, .ref (g.2.2 0)), (1, .ref (g.2.2 6))] [] st := by
  unfold bX4_goodOf_6_0 at H
  refine sj_iconst S dX4_goodOf_0 ?_
  refine sj_istore_na (lv' := [(0, .ref (g.2.2 0)), (1, .ref (g.2.2 6))]) S dX4_goodOf_1 rfl (by decide) (fun _ => rfl) ?_
  refine sj_iconst S dX4_goodOf_2 ?_
  refine sj_istore_na (lv' := [(2, .int (sq_z 0)), (0, .ref (g.2.2 0)), (1, .ref (g.2.2 6))]) S dX4_goodOf_3 rfl (by decide) (fun _ => rfl) ?_
  exact sj_lv S [2, 3, 1, 0] rfl H
set_option maxRecDepth 100000 in
set_option maxHeartbeats 4000000 in
theorem kX4_goodOf_6 (l : Launch) (g : sq_G) (st : sq_S) (Q : Int → sq_S → Prop) (H : wX4_goodOf_6  st Q) : sq_Ci l yX4_goodOf wsX4_goodOf rX4_goodOf_6 g sq_M [.ref (g.2.2 0), .ref (g.2.2 6)] st Q := by
  refine sq_in_i (cc := cX4_goodOf) (nL := 4) (own := RX4) (by decide) rfl rfl (Nat.le_of_ble_eq_true rfl) ?_
  intro J S hret
  exact tX4_goodOf_6_0 S hret  st (H (qX4_goodOf_6_4 J g) (tX4_goodOf_6_4 S hret))
/-! goodBy (II)I : X4_goodBy -/
theorem iX4_goodBy_4 : ∀ w ∈ u_ws RX4 TX4 12, w ∈ wsX4_goodBy := fun _ h => List.mem_cons_of_mem _ (List.mem_append_right _ h)
theorem mX4_goodBy_26 : Cond.fieldLink RX4 26 (TX4 6).1 (TX4 6).2.1 (TX4 6).2.2.1 ∈ wsX4_goodBy := List.mem_of_getElem? (i := 1) rfl
def wX4_goodBy (v1 v2 : Int) (st : sq_S) (Q : Int → sq_S → Prop) : Prop :=
  wX4_layOrder v1 v2 st (fun _ st520 => wX4_layText st520 (fun _ st521 => wX4_layColumns v2 st521 (fun _ st522 => wX4_readBy (-1) st522 (fun _ st523 => wX4_goodOf_6 st523 (fun r527 st528 => Q r527 st528)))))
def rX4_goodBy : Room := { frames := 2, cells := 0, slots := 0, locals := 44 }
set_option maxRecDepth 100000 in
set_option maxHeartbeats 4000000 in
theorem tX4_goodBy_0 {l : Launch} {g : sq_G} {J : sq_K} {Q : Int → sq_S → Prop} (S : sq_J l rX4_goodBy cX4_goodBy 3 RX4 wsX4_goodBy g sq_M J) (hret : ∀ (pc : Nat) (lv : List (Nat × Value)) (r : Int) (st' : sq_S), decode cX4_goodBy pc = .ok (.ireturn, 1) → Q r st' → J pc lv [.int (sq_z r)] st') (v1 v2 : Int) (st : sq_S) (H : wX4_goodBy v1 v2 st Q) : J 0 [(0, .ref (g.2.2 0)), (1, .int (sq_z v1)), (2, .int (sq_z v2))] [] st := by
  unfold wX4_goodBy at H
  refine sj_aload_n (pl := 0) S dX4_goodBy_0 rfl rfl ?_
  refine sj_iload_n (pl := 1) S dX4_goodBy_1 rfl rfl ?_
  refine sj_iload_n (pl := 2) S dX4_goodBy_2 rfl rfl ?_
  refine sj_vv (rest := []) (q0 := 0) (ci := 4) S (kX4_layOrder l g v1 v2 st _ H) (fun s args hts => cwV 2 hts gX4_goodBy_X4_layOrder rfl rfl rfl (by decide +kernel) ⟨Nat.le_of_ble_eq_true rfl, Nat.le_of_ble_eq_true rfl⟩) rfl rfl rfl rfl (Nat.le_of_ble_eq_true rfl) dX4_goodBy_3 (fun st520 H => ?_)
  refine sj_aload_n (pl := 0) S dX4_goodBy_6 rfl rfl ?_
  refine sj_vv (rest := []) (q0 := 0) (ci := 4) S (kX4_layText l g st520 _ H) (fun s args hts => cwV 0 hts gX4_goodBy_X4_layText rfl rfl rfl (by decide +kernel) ⟨Nat.le_of_ble_eq_true rfl, Nat.le_of_ble_eq_true rfl⟩) rfl rfl rfl rfl (Nat.le_of_ble_eq_true rfl) dX4_goodBy_7 (fun st521 H => ?_)
  refine sj_aload_n (pl := 0) S dX4_goodBy_10 rfl rfl ?_
  refine sj_iload_n (pl := 2) S dX4_goodBy_11 rfl rfl ?_
  refine sj_vv (rest := []) (q0 := 0) (ci := 4) S (kX4_layColumns l g v2 st521 _ H) (fun s args hts => cwV 1 hts gX4_goodBy_X4_layColumns rfl rfl rfl (by decide +kernel) ⟨Nat.le_of_ble_eq_true rfl, Nat.le_of_ble_eq_true rfl⟩) rfl rfl rfl rfl (Nat.le_of_ble_eq_true rfl) dX4_goodBy_12 (fun st522 H => ?_)
  refine sj_aload_n (pl := 0) S dX4_goodBy_15 rfl rfl ?_
  refine sj_iconst S dX4_goodBy_16 ?_
  refine sj_vv (rest := []) (q0 := 0) (ci := 4) S (kX4_readBy l g (-1) st522 _ H) (fun s args hts => cwV 1 hts gX4_goodBy_X4_readBy rfl rfl rfl (by decide +kernel) ⟨Nat.le_of_ble_eq_true rfl, Nat.le_of_ble_eq_true rfl⟩) rfl rfl rfl rfl (Nat.le_of_ble_eq_true rfl) dX4_goodBy_17 (fun st523 H => ?_)
  refine sj_aload_n (pl := 0) S dX4_goodBy_20 rfl rfl ?_
  refine sj_aload_n (pl := 0) S dX4_goodBy_21 rfl rfl ?_
  refine sj_getr S fM_0_6 iX4_goodBy_4 rfl (by decide) mX4_goodBy_26 dX4_goodBy_22 ?_
  refine sj_vi (rest := []) (q0 := 0) (ci := 4) S (kX4_goodOf_6 l g st523 _ H) (fun s args hts => cwV 1 hts gX4_goodBy_X4_goodOf rfl rfl rfl (by decide +kernel) ⟨Nat.le_of_ble_eq_true rfl, Nat.le_of_ble_eq_true rfl⟩) rfl rfl rfl rfl (Nat.le_of_ble_eq_true rfl) dX4_goodBy_25 (fun r527 st528 H => ?_)
  exact hret _ _ _ _ dX4_goodBy_28 H
set_option maxRecDepth 100000 in
set_option maxHeartbeats 4000000 in
theorem kX4_goodBy (l : Launch) (g : sq_G) (v1 v2 : Int) (st : sq_S) (Q : Int → sq_S → Prop) (H : wX4_goodBy v1 v2 st Q) : sq_Ci l yX4_goodBy wsX4_goodBy rX4_goodBy g sq_M [.ref (g.2.2 0), .int (sq_z v1), .int (sq_z v2)] st Q := by
  refine sq_in_i (cc := cX4_goodBy) (nL := 3) (own := RX4) (by decide) rfl rfl (Nat.le_of_ble_eq_true rfl) ?_
  intro J S hret
  exact tX4_goodBy_0 S hret v1 v2 st H
/-! order (II)I : X4_order -/
theorem iX4_order_4 : ∀ w ∈ u_ws RX4 TX4 12, w ∈ wsX4_order := fun _ h => List.mem_cons_of_mem _ (List.mem_append_right _ h)
theorem mX4_order_32 : Cond.fieldLink RX4 32 (TX4 8).1 (TX4 8).2.1 (TX4 8).2.2.1 ∈ wsX4_order := List.mem_of_getElem? (i := 1) rfl
def bX4_order_37 (K37 : Int → Int → Int → Int → Int → Int → sq_S → Prop) (K68 : Int → Int → Int → Int → Int → Int → Int → sq_S → Prop) (K96 : Int → Int → Int → Int → Int → Int → Int → sq_S → Prop) (Q : Int → sq_S → Prop) (v1 v2 v3 v4 v5 v6 : Int) (st : sq_S) : Prop :=
  wX4_orders v1 st (fun r508 st509 => (sq_rg v6 ∧ sq_rg r508) ∧ (r508 ≤ v6 → wX4_layOrder v3 v1 st509 (fun _ st519 => (sq_rg v2 ∧ sq_rg (-1)) ∧ (¬ v2 = (-1) → (sq_rg v2 ∧ sq_rg (-2)) ∧ (¬ v2 = (-2) → sq_ib v2 6 ∧ (Q (st519 8 v2.toNat) st519)) ∧ (v2 = (-2) → Q v5 st519)) ∧ (v2 = (-1) → Q v4 st519))) ∧ (v6 < r508 → wX4_goodBy v6 v1 st509 (fun r529 st530 => (sq_rg r529 ∧ sq_rg v4) ∧ (r529 ≤ v4 → K68 v1 v2 v4 v5 v6 r529 v3 st530) ∧ (v4 < r529 → K68 v1 v2 v4 v5 v6 r529 v6 st530))))
def bX4_order_68 (K37 : Int → Int → Int → Int → Int → Int → sq_S → Prop) (K68 : Int → Int → Int → Int → Int → Int → Int → sq_S → Prop) (K96 : Int → Int → Int → Int → Int → Int → Int → sq_S → Prop) (Q : Int → sq_S → Prop) (v1 v2 v4 v5 v6 v7 s0 : Int) (st : sq_S) : Prop :=
  (sq_rg v7 ∧ sq_rg v4) ∧ (v7 ≤ v4 → (sq_rg v7 ∧ sq_rg v4) ∧ (¬ v7 = v4 → K96 v1 v2 s0 v4 v6 v7 v5 st) ∧ (v7 = v4 → K96 v1 v2 s0 v4 v6 v7 (v5 + 1) st)) ∧ (v4 < v7 → K96 v1 v2 s0 v4 v6 v7 1 st)
def bX4_order_96 (K37 : Int → Int → Int → Int → Int → Int → sq_S → Prop) (K68 : Int → Int → Int → Int → Int → Int → Int → sq_S → Prop) (K96 : Int → Int → Int → Int → Int → Int → Int → sq_S → Prop) (Q : Int → sq_S → Prop) (v1 v2 v3 v4 v6 v7 s0 : Int) (st : sq_S) : Prop :=
  (sq_rg v7 ∧ sq_rg v4) ∧ (v7 ≤ v4 → K37 v1 v2 v3 v4 s0 (v6 + 1) st) ∧ (v4 < v7 → K37 v1 v2 v3 v7 s0 (v6 + 1) st)
def bX4_order_0 (K37 : Int → Int → Int → Int → Int → Int → sq_S → Prop) (K68 : Int → Int → Int → Int → Int → Int → Int → sq_S → Prop) (K96 : Int → Int → Int → Int → Int → Int → Int → sq_S → Prop) (Q : Int → sq_S → Prop) (v1 v2 : Int) (st : sq_S) : Prop :=
  wX4_in v1 2 6 st (fun r503 st504 => sq_rg r503 ∧ (r503 = 0 → Q (-2) st504) ∧ (¬ r503 = 0 → wX4_in v2 (-2) (v1 - 1) st504 (fun r505 st506 => sq_rg r505 ∧ (¬ r505 = 0 → K37 v1 v2 (-6) (-1) 0 0 st506) ∧ (r505 = 0 → Q (-2) st506))))
def wX4_order (v1 v2 : Int) (st : sq_S) (Q : Int → sq_S → Prop) : Prop :=
  ∀ (K37 : Int → Int → Int → Int → Int → Int → sq_S → Prop) (K68 : Int → Int → Int → Int → Int → Int → Int → sq_S → Prop) (K96 : Int → Int → Int → Int → Int → Int → Int → sq_S → Prop), (∀ (v1 v2 v3 v4 v5 v6 : Int) (st : sq_S), bX4_order_37 K37 K68 K96 Q v1 v2 v3 v4 v5 v6 st → K37 v1 v2 v3 v4 v5 v6 st) → (∀ (v1 v2 v4 v5 v6 v7 s0 : Int) (st : sq_S), bX4_order_68 K37 K68 K96 Q v1 v2 v4 v5 v6 v7 s0 st → K68 v1 v2 v4 v5 v6 v7 s0 st) → (∀ (v1 v2 v3 v4 v6 v7 s0 : Int) (st : sq_S), bX4_order_96 K37 K68 K96 Q v1 v2 v3 v4 v6 v7 s0 st → K96 v1 v2 v3 v4 v6 v7 s0 st) → bX4_order_0 K37 K68 K96 Q v1 v2 st
def rX4_order : Room := { frames := 3, cells := 0, slots := 0, locals := 66 }
def qX4_order_37 (J : sq_K) (g : sq_G) : Int → Int → Int → Int → Int → Int → sq_S → Prop := fun v1 v2 v3 v4 v5 v6 st => J 37 [(0, .ref (g.2.2 0)), (1, .int (sq_z v1)), (2, .int (sq_z v2)), (3, .int (sq_z v3)), (4, .int (sq_z v4)), (5, .int (sq_z v5)), (6, .int (sq_z v6))] [] st
def qX4_order_68 (J : sq_K) (g : sq_G) : Int → Int → Int → Int → Int → Int → Int → sq_S → Prop := fun v1 v2 v4 v5 v6 v7 s0 st => J 68 [(0, .ref (g.2.2 0)), (1, .int (sq_z v1)), (2, .int (sq_z v2)), (4, .int (sq_z v4)), (5, .int (sq_z v5)), (6, .int (sq_z v6)), (7, .int (sq_z v7))] [.int (sq_z s0)] st
def qX4_order_96 (J : sq_K) (g : sq_G) : Int → Int → Int → Int → Int → Int → Int → sq_S → Prop := fun v1 v2 v3 v4 v6 v7 s0 st => J 96 [(0, .ref (g.2.2 0)), (1, .int (sq_z v1)), (2, .int (sq_z v2)), (3, .int (sq_z v3)), (4, .int (sq_z v4)), (6, .int (sq_z v6)), (7, .int (sq_z v7))] [.int (sq_z s0)] st
set_option maxRecDepth 100000 in
set_option maxHeartbeats 4000000 in
theorem tX4_order_37 {l : Launch} {g : sq_G} {J : sq_K} {Q : Int → sq_S → Prop} (S : sq_J l rX4_order cX4_order 8 RX4 wsX4_order g sq_M J) (hret : ∀ (pc : Nat) (lv : List (Nat × Value)) (r : Int) (st' : sq_S), decode cX4_order pc = .ok (.ireturn, 1) → Q r st' → J pc lv [.int (sq_z r)] st') (v1 v2 v3 v4 v5 v6 : Int) (st : sq_S) (H : bX4_order_37 (qX4_order_37 J g) (qX4_order_68 J g) (qX4_order_96 J g) Q v1 v2 v3 v4 v5 v6 st) : J 37 [(0, .ref (g.2.2 0)), (1, .int (sq_z v1)), (2, .int (sq_z v2)), (3, .int (sq_z v3)), (4, .int (sq_z v4)), (5, .int (sq_z v5)), (6, .int (sq_z v6))] [] st := by
  unfold bX4_order_37 at H
  refine sj_iload (pl := 6) S dX4_order_37 rfl ?_
  refine sj_iload_n (pl := 1) S dX4_order_39 rfl rfl ?_
  refine sj_si (rest := [.int (sq_z v6)]) S (kX4_orders l g v1 st _ H) (fun s args hts => va_cwS 1 hts gX4_order_X4_orders rfl rfl rfl (by decide +kernel) ⟨Nat.le_of_ble_eq_true rfl, Nat.le_of_ble_eq_true rfl⟩) rfl rfl (Nat.le_of_ble_eq_true rfl) dX4_order_40 (fun r508 st509 H => ?_)
  refine sj_icmp_ge (tgt := 120) S H.1 dX4_order_43 (by decide) (fun c9 => ?_) (fun c9 => ?_)
  · have H := H.2.1 c9
    refine sj_aload_n (pl := 0) S dX4_order_120 rfl rfl ?_
    refine sj_iload_n (pl := 3) S dX4_order_121 rfl rfl ?_
    refine sj_iload_n (pl := 1) S dX4_order_122 rfl rfl ?_
    refine sj_vv (rest := []) (q0 := 0) (ci := 4) S (kX4_layOrder l g v3 v1 st509 _ H) (fun s args hts => cwV 2 hts gX4_order_X4_layOrder rfl rfl rfl (by decide +kernel) ⟨Nat.le_of_ble_eq_true rfl, Nat.le_of_ble_eq_true rfl⟩) rfl rfl rfl rfl (Nat.le_of_ble_eq_true rfl) dX4_order_123 (fun st519 H => ?_)
    refine sj_iload_n (pl := 2) S dX4_order_126 rfl rfl ?_
    refine sj_iconst S dX4_order_127 ?_
    refine sj_icmp_ne (tgt := 136) S H.1 dX4_order_128 (by decide) (fun c9 => ?_) (fun c9 => ?_)
    · have H := H.2.1 c9
      refine sj_iload_n (pl := 2) S dX4_order_136 rfl rfl ?_
      refine sj_bipush S dX4_order_137 (by decide +kernel) ?_
      refine sj_icmp_ne (tgt := 147) S H.1 dX4_order_139 (by decide) (fun c9 => ?_) (fun c9 => ?_)
      · have H := H.2.1 c9
        refine sj_aload_n (pl := 0) S dX4_order_147 rfl rfl ?_
        refine sj_getr S fM_0_8 iX4_order_4 rfl (by decide) mX4_order_32 dX4_order_148 ?_
        refine sj_iload_n (pl := 2) S dX4_order_151 rfl rfl ?_
        refine sj_iald S aM_8 H.1 dX4_order_152 ?_
        have H := H.2
        exact hret _ _ _ _ dX4_order_153 H
      · have H := H.2.2 c9
        refine sj_iload (pl := 5) S dX4_order_142 rfl ?_
        refine sj_goto (tgt := 153) S dX4_order_144 (by decide) ?_
        exact hret _ _ _ _ dX4_order_153 H
    · have H := H.2.2 c9
      refine sj_iload (pl := 4) S dX4_order_131 rfl ?_
      refine sj_goto (tgt := 153) S dX4_order_133 (by decide) ?_
      exact hret _ _ _ _ dX4_order_153 H
  · have H := H.2.2 c9
    refine sj_aload_n (pl := 0) S dX4_order_46 rfl rfl ?_
    refine sj_iload (pl := 6) S dX4_order_47 rfl ?_
    refine sj_iload_n (pl := 1) S dX4_order_49 rfl rfl ?_
    refine sj_vi (rest := []) (q0 := 0) (ci := 4) S (kX4_goodBy l g v6 v1 st509 _ H) (fun s args hts => cwV 2 hts gX4_order_X4_goodBy rfl rfl rfl (by decide +kernel) ⟨Nat.le_of_ble_eq_true rfl, Nat.le_of_ble_eq_true rfl⟩) rfl rfl rfl rfl (Nat.le_of_ble_eq_true rfl) dX4_order_50 (fun r529 st530 H => ?_)
    refine sj_istorea (lv' := [(0, .ref (g.2.2 0)), (1, .int (sq_z v1)), (2, .int (sq_z v2)), (3, .int (sq_z v3)), (4, .int (sq_z v4)), (5, .int (sq_z v5)), (6, .int (sq_z v6))]) S dX4_order_53 (by decide) (fun _ => rfl) ?_
    refine sj_iload (pl := 0) S dX4_order_55 rfl ?_
    refine sj_iload (pl := 5) S dX4_order_57 rfl ?_
    refine sj_icmp_le (tgt := 67) S H.1 dX4_order_59 (by decide) (fun c9 => ?_) (fun c9 => ?_)
    · have H := H.2.1 c9
      refine sj_iload_n (pl := 4) S dX4_order_67 rfl rfl ?_
      exact sj_lv S [1, 2, 3, 5, 6, 7, 0] rfl H
    · have H := H.2.2 c9
      refine sj_iload (pl := 7) S dX4_order_62 rfl ?_
      refine sj_goto (tgt := 68) S dX4_order_64 (by decide) ?_
      exact sj_lv S [1, 2, 3, 5, 6, 7, 0] rfl H
set_option maxRecDepth 100000 in
set_option maxHeartbeats 4000000 in
theorem tX4_order_68 {l : Launch} {g : sq_G} {J : sq_K} {Q : Int → sq_S → Prop} (S : sq_J l rX4_order cX4_order 8 RX4 wsX4_order g sq_M J) (hret : ∀ (pc : Nat) (lv : List (Nat × Value)) (r : Int) (st' : sq_S), decode cX4_order pc = .ok (.ireturn, 1) → Q r st' → J pc lv [.int (sq_z r)] st') (v1 v2 v4 v5 v6 v7 s0 : Int) (st : sq_S) (H : bX4_order_68 (qX4_order_37 J g) (qX4_order_68 J g) (qX4_order_96 J g) Q v1 v2 v4 v5 v6 v7 s0 st) : J 68 [(0, .ref (g.2.2 0)), (1, .int (sq_z v1)), (2, .int (sq_z v2)), (4, .int (sq_z v4)), (5, .int (sq_z v5)), (6, .int (sq_z v6)), (7, .int (sq_z v7))] [.int (sq_z s0)] st := by
  unfold bX4_order_68 at H
  refine sj_istore_na (lv' := [(0, .ref (g.2.2 0)), (1, .int (sq_z v1)), (2, .int (sq_z v2)), (4, .int (sq_z v4)), (5, .int (sq_z v5)), (6, .int (sq_z v6)), (7, .int (sq_z v7))]) S dX4_order_68 rfl (by decide) (fun _ => rfl) ?_
  refine sj_iload (pl := 7) S dX4_order_69 rfl ?_
  refine sj_iload (pl := 4) S dX4_order_71 rfl ?_
  refine sj_icmp_le (tgt := 80) S H.1 dX4_order_73 (by decide) (fun c9 => ?_) (fun c9 => ?_)
  · have H := H.2.1 c9
    refine sj_iload (pl := 7) S dX4_order_80 rfl ?_
    refine sj_iload (pl := 4) S dX4_order_82 rfl ?_
    refine sj_icmp_ne (tgt := 94) S H.1 dX4_order_84 (by decide) (fun c9 => ?_) (fun c9 => ?_)
    · have H := H.2.1 c9
      refine sj_iload (pl := 5) S dX4_order_94 rfl ?_
      exact sj_lv S [1, 2, 3, 0, 4, 6, 7] rfl H
    · have H := H.2.2 c9
      refine sj_iload (pl := 5) S dX4_order_87 rfl ?_
      refine sj_iconst S dX4_order_89 ?_
      refine sj_iadd S dX4_order_90 ?_
      refine sj_goto (tgt := 96) S dX4_order_91 (by decide) ?_
      exact sj_lv S [1, 2, 3, 0, 4, 6, 7] rfl H
  · have H := H.2.2 c9
    refine sj_iconst S dX4_order_76 ?_
    refine sj_goto (tgt := 96) S dX4_order_77 (by decide) ?_
    exact sj_lv S [1, 2, 3, 0, 4, 6, 7] rfl H
set_option maxRecDepth 100000 in
set_option maxHeartbeats 4000000 in
theorem tX4_order_96 {l : Launch} {g : sq_G} {J : sq_K} {Q : Int → sq_S → Prop} (S : sq_J l rX4_order cX4_order 8 RX4 wsX4_order g sq_M J) (hret : ∀ (pc : Nat) (lv : List (Nat × Value)) (r : Int) (st' : sq_S), decode cX4_order pc = .ok (.ireturn, 1) → Q r st' → J pc lv [.int (sq_z r)] st') (v1 v2 v3 v4 v6 v7 s0 : Int) (st : sq_S) (H : bX4_order_96 (qX4_order_37 J g) (qX4_order_68 J g) (qX4_order_96 J g) Q v1 v2 v3 v4 v6 v7 s0 st) : J 96 [(0, .ref (g.2.2 0)), (1, .int (sq_z v1)), (2, .int (sq_z v2)), (3, .int (sq_z v3)), (4, .int (sq_z v4)), (6, .int (sq_z v6)), (7, .int (sq_z v7))] [.int (sq_z s0)] st := by
  unfold bX4_order_96 at H
  refine sj_istorea (lv' := [(0, .ref (g.2.2 0)), (1, .int (sq_z v1)), (2, .int (sq_z v2)), (3, .int (sq_z v3)), (4, .int (sq_z v4)), (6, .int (sq_z v6)), (7, .int (sq_z v7))]) S dX4_order_96 (by decide) (fun _ => rfl) ?_
  refine sj_iload (pl := 7) S dX4_order_98 rfl ?_
  refine sj_iload (pl := 5) S dX4_order_100 rfl ?_
  refine sj_icmp_le (tgt := 110) S H.1 dX4_order_102 (by decide) (fun c9 => ?_) (fun c9 => ?_)
  · have H := H.2.1 c9
    refine sj_iload (pl := 5) S dX4_order_110 rfl ?_
    refine sj_istorea (lv' := [(5, .int (sq_z s0)), (0, .ref (g.2.2 0)), (1, .int (sq_z v1)), (2, .int (sq_z v2)), (3, .int (sq_z v3)), (6, .int (sq_z v6)), (7, .int (sq_z v7))]) S dX4_order_112 (by decide) (fun _ => rfl) ?_
    refine sj_iinc (pl := 6) (lv' := [(4, .int (sq_z v4)), (5, .int (sq_z s0)), (0, .ref (g.2.2 0)), (1, .int (sq_z v1)), (2, .int (sq_z v2)), (3, .int (sq_z v3)), (7, .int (sq_z v7))]) S dX4_order_114 rfl (by decide) (fun _ => rfl) ?_
    refine sj_goto (tgt := 37) S dX4_order_117 (by decide) ?_
    exact sj_lv S [3, 4, 5, 6, 1, 2, 0] rfl H
  · have H := H.2.2 c9
    refine sj_iload (pl := 7) S dX4_order_105 rfl ?_
    refine sj_goto (tgt := 112) S dX4_order_107 (by decide) ?_
    refine sj_istorea (lv' := [(5, .int (sq_z s0)), (0, .ref (g.2.2 0)), (1, .int (sq_z v1)), (2, .int (sq_z v2)), (3, .int (sq_z v3)), (6, .int (sq_z v6)), (7, .int (sq_z v7))]) S dX4_order_112 (by decide) (fun _ => rfl) ?_
    refine sj_iinc (pl := 6) (lv' := [(4, .int (sq_z v7)), (5, .int (sq_z s0)), (0, .ref (g.2.2 0)), (1, .int (sq_z v1)), (2, .int (sq_z v2)), (3, .int (sq_z v3)), (7, .int (sq_z v7))]) S dX4_order_114 rfl (by decide) (fun _ => rfl) ?_
    refine sj_goto (tgt := 37) S dX4_order_117 (by decide) ?_
    exact sj_lv S [3, 4, 5, 6, 1, 2, 0] rfl H
set_option maxRecDepth 100000 in
set_option maxHeartbeats 4000000 in
theorem tX4_order_0 {l : Launch} {g : sq_G} {J : sq_K} {Q : Int → sq_S → Prop} (S : sq_J l rX4_order cX4_order 8 RX4 wsX4_order g sq_M J) (hret : ∀ (pc : Nat) (lv : List (Nat × Value)) (r : Int) (st' : sq_S), decode cX4_order pc = .ok (.ireturn, 1) → Q r st' → J pc lv [.int (sq_z r)] st') (v1 v2 : Int) (st : sq_S) (H : bX4_order_0 (qX4_order_37 J g) (qX4_order_68 J g) (qX4_order_96 J g) Q v1 v2 st) : J 0 [(0, .ref (g.2.2 0)), (1, .int (sq_z v1)), (2, .int (sq_z v2))] [] st := by
  unfold bX4_order_0 at H
  refine sj_iload_n (pl := 1) S dX4_order_0 rfl rfl ?_
  refine sj_iconst S dX4_order_1 ?_
  refine sj_bipush S dX4_order_2 (by decide +kernel) ?_
  refine sj_si (rest := []) S (kX4_in l g v1 2 6 st _ H) (fun s args hts => va_cwS 3 hts gX4_order_X4_in rfl rfl rfl (by decide +kernel) ⟨Nat.le_of_ble_eq_true rfl, Nat.le_of_ble_eq_true rfl⟩) rfl rfl (Nat.le_of_ble_eq_true rfl) dX4_order_4 (fun r503 st504 H => ?_)
  refine sj_if_eq (tgt := 22) S H.1 dX4_order_7 (by decide) (fun c9 => ?_) (fun c9 => ?_)
  · have H := H.2.1 c9
    refine sj_bipush S dX4_order_22 (by decide +kernel) ?_
    exact hret _ _ _ _ dX4_order_24 H
  · have H := H.2.2 c9
    refine sj_iload_n (pl := 2) S dX4_order_10 rfl rfl ?_
    refine sj_bipush S dX4_order_11 (by decide +kernel) ?_
    refine sj_iload_n (pl := 1) S dX4_order_13 rfl rfl ?_
    refine sj_iconst S dX4_order_14 ?_
    refine sj_isub S dX4_order_15 ?_
    refine sj_si (rest := []) S (kX4_in l g v2 (-2) (v1 - 1) st504 _ H) (fun s args hts => va_cwS 3 hts gX4_order_X4_in rfl rfl rfl (by decide +kernel) ⟨Nat.le_of_ble_eq_true rfl, Nat.le_of_ble_eq_true rfl⟩) rfl rfl (Nat.le_of_ble_eq_true rfl) dX4_order_16 (fun r505 st506 H => ?_)
    refine sj_if_ne (tgt := 25) S H.1 dX4_order_19 (by decide) (fun c9 => ?_) (fun c9 => ?_)
    · have H := H.2.1 c9
      refine sj_bipush S dX4_order_25 (by decide +kernel) ?_
      refine sj_istore_na (lv' := [(0, .ref (g.2.2 0)), (1, .int (sq_z v1)), (2, .int (sq_z v2))]) S dX4_order_27 rfl (by decide) (fun _ => rfl) ?_
      refine sj_iconst S dX4_order_28 ?_
      refine sj_istorea (lv' := [(3, .int (sq_z (-6))), (0, .ref (g.2.2 0)), (1, .int (sq_z v1)), (2, .int (sq_z v2))]) S dX4_order_29 (by decide) (fun _ => rfl) ?_
      refine sj_iconst S dX4_order_31 ?_
      refine sj_istorea (lv' := [(4, .int (sq_z (-1))), (3, .int (sq_z (-6))), (0, .ref (g.2.2 0)), (1, .int (sq_z v1)), (2, .int (sq_z v2))]) S dX4_order_32 (by decide) (fun _ => rfl) ?_
      refine sj_iconst S dX4_order_34 ?_
      refine sj_istorea (lv' := [(5, .int (sq_z 0)), (4, .int (sq_z (-1))), (3, .int (sq_z (-6))), (0, .ref (g.2.2 0)), (1, .int (sq_z v1)), (2, .int (sq_z v2))]) S dX4_order_35 (by decide) (fun _ => rfl) ?_
      exact sj_lv S [4, 5, 6, 3, 2, 1, 0] rfl H
    · have H := H.2.2 c9
      refine sj_bipush S dX4_order_22 (by decide +kernel) ?_
      exact hret _ _ _ _ dX4_order_24 H
set_option maxRecDepth 100000 in
set_option maxHeartbeats 4000000 in
theorem kX4_order (l : Launch) (g : sq_G) (v1 v2 : Int) (st : sq_S) (Q : Int → sq_S → Prop) (H : wX4_order v1 v2 st Q) : sq_Ci l yX4_order wsX4_order rX4_order g sq_M [.ref (g.2.2 0), .int (sq_z v1), .int (sq_z v2)] st Q := by
  refine sq_in_i (cc := cX4_order) (nL := 8) (own := RX4) (by decide) rfl rfl (Nat.le_of_ble_eq_true rfl) ?_
  intro J S hret
  exact tX4_order_0 S hret v1 v2 st (H (qX4_order_37 J g) (qX4_order_68 J g) (qX4_order_96 J g) (tX4_order_37 S hret) (tX4_order_68 S hret) (tX4_order_96 S hret))
/-! goodByPairs ()I : X4_goodByPairs -/
theorem iX4_goodByPairs_4 : ∀ w ∈ u_ws RX4 TX4 12, w ∈ wsX4_goodByPairs := fun _ h => List.mem_cons_of_mem _ (List.mem_append_right _ h)
theorem mX4_goodByPairs_26 : Cond.fieldLink RX4 26 (TX4 6).1 (TX4 6).2.1 (TX4 6).2.2.1 ∈ wsX4_goodByPairs := List.mem_of_getElem? (i := 1) rfl
def wX4_goodByPairs (st : sq_S) (Q : Int → sq_S → Prop) : Prop :=
  wX4_pairs (-1) st (fun _ st541 => wX4_goodOf_6 st541 (fun r542 st543 => Q r542 st543))
def rX4_goodByPairs : Room := { frames := 4, cells := 0, slots := 0, locals := 90 }
set_option maxRecDepth 100000 in
set_option maxHeartbeats 4000000 in
theorem tX4_goodByPairs_0 {l : Launch} {g : sq_G} {J : sq_K} {Q : Int → sq_S → Prop} (S : sq_J l rX4_goodByPairs cX4_goodByPairs 1 RX4 wsX4_goodByPairs g sq_M J) (hret : ∀ (pc : Nat) (lv : List (Nat × Value)) (r : Int) (st' : sq_S), decode cX4_goodByPairs pc = .ok (.ireturn, 1) → Q r st' → J pc lv [.int (sq_z r)] st') (st : sq_S) (H : wX4_goodByPairs st Q) : J 0 [(0, .ref (g.2.2 0))] [] st := by
  unfold wX4_goodByPairs at H
  refine sj_aload_n (pl := 0) S dX4_goodByPairs_0 rfl rfl ?_
  refine sj_iconst S dX4_goodByPairs_1 ?_
  refine sj_vv (rest := []) (q0 := 0) (ci := 4) S (kX4_pairs l g (-1) st _ H) (fun s args hts => cwV 1 hts gX4_goodByPairs_X4_pairs rfl rfl rfl (by decide +kernel) ⟨Nat.le_of_ble_eq_true rfl, Nat.le_of_ble_eq_true rfl⟩) rfl rfl rfl rfl (Nat.le_of_ble_eq_true rfl) dX4_goodByPairs_2 (fun st541 H => ?_)
  refine sj_aload_n (pl := 0) S dX4_goodByPairs_5 rfl rfl ?_
  refine sj_aload_n (pl := 0) S dX4_goodByPairs_6 rfl rfl ?_
  refine sj_getr S fM_0_6 iX4_goodByPairs_4 rfl (by decide) mX4_goodByPairs_26 dX4_goodByPairs_7 ?_
  refine sj_vi (rest := []) (q0 := 0) (ci := 4) S (kX4_goodOf_6 l g st541 _ H) (fun s args hts => cwV 1 hts gX4_goodByPairs_X4_goodOf rfl rfl rfl (by decide +kernel) ⟨Nat.le_of_ble_eq_true rfl, Nat.le_of_ble_eq_true rfl⟩) rfl rfl rfl rfl (Nat.le_of_ble_eq_true rfl) dX4_goodByPairs_10 (fun r542 st543 H => ?_)
  exact hret _ _ _ _ dX4_goodByPairs_13 H
set_option maxRecDepth 100000 in
set_option maxHeartbeats 4000000 in
theorem kX4_goodByPairs (l : Launch) (g : sq_G) (st : sq_S) (Q : Int → sq_S → Prop) (H : wX4_goodByPairs  st Q) : sq_Ci l yX4_goodByPairs wsX4_goodByPairs rX4_goodByPairs g sq_M [.ref (g.2.2 0)] st Q := by
  refine sq_in_i (cc := cX4_goodByPairs) (nL := 1) (own := RX4) (by decide) rfl rfl (Nat.le_of_ble_eq_true rfl) ?_
  intro J S hret
  exact tX4_goodByPairs_0 S hret  st H
/-! swap (II)V : X4_swap -/
theorem iX4_swap_4 : ∀ w ∈ u_ws RX4 TX4 12, w ∈ wsX4_swap := fun _ h => List.mem_cons_of_mem _ (List.mem_append_right _ h)
theorem mX4_swap_29 : Cond.fieldLink RX4 29 (TX4 7).1 (TX4 7).2.1 (TX4 7).2.2.1 ∈ wsX4_swap := List.mem_of_getElem? (i := 1) rfl
def wX4_swap (v1 v2 : Int) (st : sq_S) (Q : Int → sq_S → Prop) : Prop :=
  sq_ib v1 16 ∧ (∀ y548 : Int, y548 = (st 7 v1.toNat) → (sq_ib v2 16 ∧ (sq_ib v1 16 ∧ (∀ st549 : sq_S, st549 = sq_set st 7 v1.toNat (st 7 v2.toNat) → (sq_ib v2 16 ∧ (∀ st550 : sq_S, st550 = sq_set st549 7 v2.toNat y548 → (Q 0 st550)))))))
def rX4_swap : Room := { frames := 0, cells := 0, slots := 0, locals := 0 }
set_option maxRecDepth 100000 in
set_option maxHeartbeats 4000000 in
theorem tX4_swap_0 {l : Launch} {g : sq_G} {J : sq_K} {Q : Int → sq_S → Prop} (S : sq_J l rX4_swap cX4_swap 4 RX4 wsX4_swap g sq_M J) (hret : ∀ (pc : Nat) (lv : List (Nat × Value)) (st' : sq_S), decode cX4_swap pc = .ok (.return_, 1) → Q 0 st' → J pc lv [] st') (v1 v2 : Int) (st : sq_S) (H : wX4_swap v1 v2 st Q) : J 0 [(0, .ref (g.2.2 0)), (1, .int (sq_z v1)), (2, .int (sq_z v2))] [] st := by
  unfold wX4_swap at H
  refine sj_aload_n (pl := 0) S dX4_swap_0 rfl rfl ?_
  refine sj_getr S fM_0_7 iX4_swap_4 rfl (by decide) mX4_swap_29 dX4_swap_1 ?_
  refine sj_iload_n (pl := 1) S dX4_swap_4 rfl rfl ?_
  refine sj_iald S aM_7 H.1 dX4_swap_5 ?_
  have H := H.2
  refine sj_istore_n (lv' := [(0, .ref (g.2.2 0)), (1, .int (sq_z v1)), (2, .int (sq_z v2))]) S dX4_swap_6 rfl (by decide) (fun _ => rfl) (fun y548 ey548 => ?_)
  have H := H y548 ey548
  refine sj_aload_n (pl := 1) S dX4_swap_7 rfl rfl ?_
  refine sj_getr S fM_0_7 iX4_swap_4 rfl (by decide) mX4_swap_29 dX4_swap_8 ?_
  refine sj_iload_n (pl := 2) S dX4_swap_11 rfl rfl ?_
  refine sj_aload_n (pl := 1) S dX4_swap_12 rfl rfl ?_
  refine sj_getr S fM_0_7 iX4_swap_4 rfl (by decide) mX4_swap_29 dX4_swap_13 ?_
  refine sj_iload_n (pl := 3) S dX4_swap_16 rfl rfl ?_
  refine sj_iald S aM_7 H.1 dX4_swap_17 ?_
  have H := H.2
  refine sj_iast S aM_7 H.1 dX4_swap_18 (fun st549 est549 => ?_)
  have H := H.2 st549 est549
  refine sj_aload_n (pl := 1) S dX4_swap_19 rfl rfl ?_
  refine sj_getr S fM_0_7 iX4_swap_4 rfl (by decide) mX4_swap_29 dX4_swap_20 ?_
  refine sj_iload_n (pl := 3) S dX4_swap_23 rfl rfl ?_
  refine sj_iload_n (pl := 0) S dX4_swap_24 rfl rfl ?_
  refine sj_iast S aM_7 H.1 dX4_swap_25 (fun st550 est550 => ?_)
  have H := H.2 st550 est550
  exact hret _ _ _ dX4_swap_26 H
set_option maxRecDepth 100000 in
set_option maxHeartbeats 4000000 in
theorem kX4_swap (l : Launch) (g : sq_G) (v1 v2 : Int) (st : sq_S) (Q : Int → sq_S → Prop) (H : wX4_swap v1 v2 st Q) : sq_Cv l yX4_swap wsX4_swap rX4_swap g sq_M [.ref (g.2.2 0), .int (sq_z v1), .int (sq_z v2)] st Q := by
  refine sq_in_v (cc := cX4_swap) (nL := 4) (own := RX4) (by decide) rfl rfl (Nat.le_of_ble_eq_true rfl) ?_
  intro J S hret
  exact tX4_swap_0 S hret v1 v2 st H
/-! goUp (II)I : X4_goUp -/
theorem iX4_goUp_4 : ∀ w ∈ u_ws RX4 TX4 12, w ∈ wsX4_goUp := fun _ h => List.mem_cons_of_mem _ (List.mem_append_right _ h)
theorem mX4_goUp_139 : Cond.fieldLink RX4 139 (TX4 11).1 (TX4 11).2.1 (TX4 11).2.2.1 ∈ wsX4_goUp := List.mem_of_getElem? (i := 1) rfl
def bX4_goUp_24 (K24 : Int → Int → Int → Int → sq_S → Prop) (Q : Int → sq_S → Prop) (v2 v3 v4 v5 : Int) (st : sq_S) : Prop :=
  (sq_rg v5 ∧ sq_rg v2) ∧ (v2 ≤ v5 → Q v3 st) ∧ (v5 < v2 → ((0 ≤ ((75 * v4) + 74) ∧ ((75 * v4) + 74) ≤ 2147483647) ∧ (0 < (65537 : Int) ∧ (65537 : Int) ≤ 2147483647)) ∧ (∀ y547 : Int, y547 = (((75 * v4) + 74) % 65537) → (((0 ≤ y547 ∧ y547 ≤ 2147483647) ∧ (0 < (16 : Int) ∧ (16 : Int) ≤ 2147483647)) ∧ (((0 ≤ y547 ∧ y547 ≤ 2147483647) ∧ (0 < (16 : Int) ∧ (16 : Int) ≤ 2147483647)) ∧ (((0 ≤ (y547 / 16) ∧ (y547 / 16) ≤ 2147483647) ∧ (0 < (16 : Int) ∧ (16 : Int) ≤ 2147483647)) ∧ (wX4_swap (y547 % 16) ((y547 / 16) % 16) st (fun _ st551 => wX4_goodByPairs st551 (fun r552 st553 => (sq_rg r552 ∧ sq_rg v3) ∧ (v3 ≤ r552 → ∀ st554 : sq_S, st554 = sq_set st553 0 11 ((st553 0 11) + 1) → (K24 v2 r552 y547 (v5 + 1) st554)) ∧ (r552 < v3 → ((0 ≤ y547 ∧ y547 ≤ 2147483647) ∧ (0 < (16 : Int) ∧ (16 : Int) ≤ 2147483647)) ∧ (((0 ≤ y547 ∧ y547 ≤ 2147483647) ∧ (0 < (16 : Int) ∧ (16 : Int) ≤ 2147483647)) ∧ (((0 ≤ (y547 / 16) ∧ (y547 / 16) ≤ 2147483647) ∧ (0 < (16 : Int) ∧ (16 : Int) ≤ 2147483647)) ∧ (wX4_swap (y547 % 16) ((y547 / 16) % 16) st553 (fun _ st555 => K24 v2 v3 y547 (v5 + 1) st555)))))))))))))
def bX4_goUp_0 (K24 : Int → Int → Int → Int → sq_S → Prop) (Q : Int → sq_S → Prop) (v1 v2 : Int) (st : sq_S) : Prop :=
  wX4_laySquare st (fun _ st539 => wX4_layText st539 (fun _ st540 => wX4_goodByPairs st540 (fun r544 st545 => ∀ st546 : sq_S, st546 = sq_set st545 0 11 0 → (K24 v2 r544 v1 0 st546))))
def wX4_goUp (v1 v2 : Int) (st : sq_S) (Q : Int → sq_S → Prop) : Prop :=
  ∀ (K24 : Int → Int → Int → Int → sq_S → Prop), (∀ (v2 v3 v4 v5 : Int) (st : sq_S), bX4_goUp_24 K24 Q v2 v3 v4 v5 st → K24 v2 v3 v4 v5 st) → bX4_goUp_0 K24 Q v1 v2 st
def rX4_goUp : Room := { frames := 5, cells := 0, slots := 0, locals := 110 }
def qX4_goUp_24 (J : sq_K) (g : sq_G) : Int → Int → Int → Int → sq_S → Prop := fun v2 v3 v4 v5 st => J 24 [(0, .ref (g.2.2 0)), (2, .int (sq_z v2)), (3, .int (sq_z v3)), (4, .int (sq_z v4)), (5, .int (sq_z v5))] [] st
set_option maxRecDepth 100000 in
set_option maxHeartbeats 4000000 in
theorem tX4_goUp_24 {l : Launch} {g : sq_G} {J : sq_K} {Q : Int → sq_S → Prop} (S : sq_J l rX4_goUp cX4_goUp 7 RX4 wsX4_goUp g sq_M J) (hret : ∀ (pc : Nat) (lv : List (Nat × Value)) (r : Int) (st' : sq_S), decode cX4_goUp pc = .ok (.ireturn, 1) → Q r st' → J pc lv [.int (sq_z r)] st') (v2 v3 v4 v5 : Int) (st : sq_S) (H : bX4_goUp_24 (qX4_goUp_24 J g) Q v2 v3 v4 v5 st) : J 24 [(0, .ref (g.2.2 0)), (2, .int (sq_z v2)), (3, .int (sq_z v3)), (4, .int (sq_z v4)), (5, .int (sq_z v5))] [] st := by
  unfold bX4_goUp_24 at H
  refine sj_iload (pl := 4) S dX4_goUp_24 rfl ?_
  refine sj_iload_n (pl := 1) S dX4_goUp_26 rfl rfl ?_
  refine sj_icmp_ge (tgt := 111) S H.1 dX4_goUp_27 (by decide) (fun c9 => ?_) (fun c9 => ?_)
  · have H := H.2.1 c9
    refine sj_iload_n (pl := 2) S dX4_goUp_111 rfl rfl ?_
    exact hret _ _ _ _ dX4_goUp_112 H
  · have H := H.2.2 c9
    refine sj_bipush S dX4_goUp_30 (by decide +kernel) ?_
    refine sj_iload (pl := 3) S dX4_goUp_32 rfl ?_
    refine sj_imul S dX4_goUp_34 ?_
    refine sj_bipush S dX4_goUp_35 (by decide +kernel) ?_
    refine sj_iadd S dX4_goUp_37 ?_
    refine sj_ldc (n := 65537) S dX4_goUp_38 (List.mem_of_getElem? (i := 2) rfl) rfl ?_
    refine sj_irem S H.1 dX4_goUp_40 ?_
    have H := H.2
    refine sj_istore (lv' := [(0, .ref (g.2.2 0)), (2, .int (sq_z v2)), (3, .int (sq_z v3)), (5, .int (sq_z v5))]) S dX4_goUp_41 (by decide) (fun _ => rfl) (fun y547 ey547 => ?_)
    have H := H y547 ey547
    refine sj_aload_n (pl := 1) S dX4_goUp_43 rfl rfl ?_
    refine sj_iload (pl := 0) S dX4_goUp_44 rfl ?_
    refine sj_bipush S dX4_goUp_46 (by decide +kernel) ?_
    refine sj_irem S H.1 dX4_goUp_48 ?_
    have H := H.2
    refine sj_iload (pl := 0) S dX4_goUp_49 rfl ?_
    refine sj_bipush S dX4_goUp_51 (by decide +kernel) ?_
    refine sj_idiv S H.1 dX4_goUp_53 ?_
    have H := H.2
    refine sj_bipush S dX4_goUp_54 (by decide +kernel) ?_
    refine sj_irem S H.1 dX4_goUp_56 ?_
    have H := H.2
    refine sj_vv (rest := []) (q0 := 0) (ci := 4) S (kX4_swap l g (y547 % 16) ((y547 / 16) % 16) st _ H) (fun s args hts => cwV 2 hts gX4_goUp_X4_swap rfl rfl rfl (by decide +kernel) ⟨Nat.le_of_ble_eq_true rfl, Nat.le_of_ble_eq_true rfl⟩) rfl rfl rfl rfl (Nat.le_of_ble_eq_true rfl) dX4_goUp_57 (fun st551 H => ?_)
    refine sj_aload_n (pl := 1) S dX4_goUp_60 rfl rfl ?_
    refine sj_vi (rest := []) (q0 := 0) (ci := 4) S (kX4_goodByPairs l g st551 _ H) (fun s args hts => cwV 0 hts gX4_goUp_X4_goodByPairs rfl rfl rfl (by decide +kernel) ⟨Nat.le_of_ble_eq_true rfl, Nat.le_of_ble_eq_true rfl⟩) rfl rfl rfl rfl (Nat.le_of_ble_eq_true rfl) dX4_goUp_61 (fun r552 st553 H => ?_)
    refine sj_istorea (lv' := [(4, .int (sq_z y547)), (0, .ref (g.2.2 0)), (2, .int (sq_z v2)), (3, .int (sq_z v3)), (5, .int (sq_z v5))]) S dX4_goUp_64 (by decide) (fun _ => rfl) ?_
    refine sj_iload (pl := 0) S dX4_goUp_66 rfl ?_
    refine sj_iload_n (pl := 4) S dX4_goUp_68 rfl rfl ?_
    refine sj_icmp_ge (tgt := 92) S H.1 dX4_goUp_69 (by decide) (fun c9 => ?_) (fun c9 => ?_)
    · have H := H.2.1 c9
      refine sj_iload (pl := 0) S dX4_goUp_92 rfl ?_
      refine sj_istore_na (lv' := [(6, .int (sq_z r552)), (4, .int (sq_z y547)), (0, .ref (g.2.2 0)), (2, .int (sq_z v2)), (5, .int (sq_z v5))]) S dX4_goUp_94 rfl (by decide) (fun _ => rfl) ?_
      refine sj_aload_n (pl := 3) S dX4_goUp_95 rfl rfl ?_
      refine sj_dup S dX4_goUp_96 rfl ?_
      refine sj_geti S fM_0_11 iX4_goUp_4 rfl (by decide) mX4_goUp_139 dX4_goUp_97 ?_
      refine sj_iconst S dX4_goUp_100 ?_
      refine sj_iadd S dX4_goUp_101 ?_
      refine sj_puti S fM_0_11 iX4_goUp_4 tyX4 tyX4_ok nmX4 rfl (by decide) mX4_goUp_139 rfl rfl dX4_goUp_102 (fun st554 est554 => ?_)
      have H := H st554 est554
      refine sj_iinc (pl := 5) (lv' := [(3, .int (sq_z r552)), (6, .int (sq_z r552)), (4, .int (sq_z y547)), (0, .ref (g.2.2 0)), (2, .int (sq_z v2))]) S dX4_goUp_105 rfl (by decide) (fun _ => rfl) ?_
      refine sj_goto (tgt := 24) S dX4_goUp_108 (by decide) ?_
      exact sj_lv S [4, 5, 1, 3, 0] rfl H
    · have H := H.2.2 c9
      refine sj_aload_n (pl := 2) S dX4_goUp_72 rfl rfl ?_
      refine sj_iload (pl := 1) S dX4_goUp_73 rfl ?_
      refine sj_bipush S dX4_goUp_75 (by decide +kernel) ?_
      refine sj_irem S H.1 dX4_goUp_77 ?_
      have H := H.2
      refine sj_iload (pl := 1) S dX4_goUp_78 rfl ?_
      refine sj_bipush S dX4_goUp_80 (by decide +kernel) ?_
      refine sj_idiv S H.1 dX4_goUp_82 ?_
      have H := H.2
      refine sj_bipush S dX4_goUp_83 (by decide +kernel) ?_
      refine sj_irem S H.1 dX4_goUp_85 ?_
      have H := H.2
      refine sj_vv (rest := []) (q0 := 0) (ci := 4) S (kX4_swap l g (y547 % 16) ((y547 / 16) % 16) st553 _ H) (fun s args hts => cwV 2 hts gX4_goUp_X4_swap rfl rfl rfl (by decide +kernel) ⟨Nat.le_of_ble_eq_true rfl, Nat.le_of_ble_eq_true rfl⟩) rfl rfl rfl rfl (Nat.le_of_ble_eq_true rfl) dX4_goUp_86 (fun st555 H => ?_)
      refine sj_goto (tgt := 105) S dX4_goUp_89 (by decide) ?_
      refine sj_iinc (pl := 5) (lv' := [(6, .int (sq_z r552)), (4, .int (sq_z y547)), (0, .ref (g.2.2 0)), (2, .int (sq_z v2)), (3, .int (sq_z v3))]) S dX4_goUp_105 rfl (by decide) (fun _ => rfl) ?_
      refine sj_goto (tgt := 24) S dX4_goUp_108 (by decide) ?_
      exact sj_lv S [3, 4, 5, 2, 0] rfl H
set_option maxRecDepth 100000 in
set_option maxHeartbeats 4000000 in
theorem tX4_goUp_0 {l : Launch} {g : sq_G} {J : sq_K} {Q : Int → sq_S → Prop} (S : sq_J l rX4_goUp cX4_goUp 7 RX4 wsX4_goUp g sq_M J) (hret : ∀ (pc : Nat) (lv : List (Nat × Value)) (r : Int) (st' : sq_S), decode cX4_goUp pc = .ok (.ireturn, 1) → Q r st' → J pc lv [.int (sq_z r)] st') (v1 v2 : Int) (st : sq_S) (H : bX4_goUp_0 (qX4_goUp_24 J g) Q v1 v2 st) : J 0 [(0, .ref (g.2.2 0)), (1, .int (sq_z v1)), (2, .int (sq_z v2))] [] st := by
  unfold bX4_goUp_0 at H
  refine sj_aload_n (pl := 0) S dX4_goUp_0 rfl rfl ?_
  refine sj_vv (rest := []) (q0 := 0) (ci := 4) S (kX4_laySquare l g st _ H) (fun s args hts => cwV 0 hts gX4_goUp_X4_laySquare rfl rfl rfl (by decide +kernel) ⟨Nat.le_of_ble_eq_true rfl, Nat.le_of_ble_eq_true rfl⟩) rfl rfl rfl rfl (Nat.le_of_ble_eq_true rfl) dX4_goUp_1 (fun st539 H => ?_)
  refine sj_aload_n (pl := 0) S dX4_goUp_4 rfl rfl ?_
  refine sj_vv (rest := []) (q0 := 0) (ci := 4) S (kX4_layText l g st539 _ H) (fun s args hts => cwV 0 hts gX4_goUp_X4_layText rfl rfl rfl (by decide +kernel) ⟨Nat.le_of_ble_eq_true rfl, Nat.le_of_ble_eq_true rfl⟩) rfl rfl rfl rfl (Nat.le_of_ble_eq_true rfl) dX4_goUp_5 (fun st540 H => ?_)
  refine sj_aload_n (pl := 0) S dX4_goUp_8 rfl rfl ?_
  refine sj_vi (rest := []) (q0 := 0) (ci := 4) S (kX4_goodByPairs l g st540 _ H) (fun s args hts => cwV 0 hts gX4_goUp_X4_goodByPairs rfl rfl rfl (by decide +kernel) ⟨Nat.le_of_ble_eq_true rfl, Nat.le_of_ble_eq_true rfl⟩) rfl rfl rfl rfl (Nat.le_of_ble_eq_true rfl) dX4_goUp_9 (fun r544 st545 H => ?_)
  refine sj_istore_na (lv' := [(0, .ref (g.2.2 0)), (1, .int (sq_z v1)), (2, .int (sq_z v2))]) S dX4_goUp_12 rfl (by decide) (fun _ => rfl) ?_
  refine sj_iload_n (pl := 2) S dX4_goUp_13 rfl rfl ?_
  refine sj_istorea (lv' := [(3, .int (sq_z r544)), (0, .ref (g.2.2 0)), (1, .int (sq_z v1)), (2, .int (sq_z v2))]) S dX4_goUp_14 (by decide) (fun _ => rfl) ?_
  refine sj_aload_n (pl := 2) S dX4_goUp_16 rfl rfl ?_
  refine sj_iconst S dX4_goUp_17 ?_
  refine sj_puti S fM_0_11 iX4_goUp_4 tyX4 tyX4_ok nmX4 rfl (by decide) mX4_goUp_139 rfl rfl dX4_goUp_18 (fun st546 est546 => ?_)
  have H := H st546 est546
  refine sj_iconst S dX4_goUp_21 ?_
  refine sj_istorea (lv' := [(4, .int (sq_z v1)), (3, .int (sq_z r544)), (0, .ref (g.2.2 0)), (1, .int (sq_z v1)), (2, .int (sq_z v2))]) S dX4_goUp_22 (by decide) (fun _ => rfl) ?_
  exact sj_lv S [3, 5, 2, 1, 0] rfl H
set_option maxRecDepth 100000 in
set_option maxHeartbeats 4000000 in
theorem kX4_goUp (l : Launch) (g : sq_G) (v1 v2 : Int) (st : sq_S) (Q : Int → sq_S → Prop) (H : wX4_goUp v1 v2 st Q) : sq_Ci l yX4_goUp wsX4_goUp rX4_goUp g sq_M [.ref (g.2.2 0), .int (sq_z v1), .int (sq_z v2)] st Q := by
  refine sq_in_i (cc := cX4_goUp) (nL := 7) (own := RX4) (by decide) rfl rfl (Nat.le_of_ble_eq_true rfl) ?_
  intro J S hret
  exact tX4_goUp_0 S hret v1 v2 st (H (qX4_goUp_24 J g) (tX4_goUp_24 S hret))
/-! climb (III)I : X4_climb -/
theorem iX4_climb_4 : ∀ w ∈ u_ws RX4 TX4 12, w ∈ wsX4_climb := fun _ h => List.mem_cons_of_mem _ (List.mem_append_right _ h)
theorem mX4_climb_29 : Cond.fieldLink RX4 29 (TX4 7).1 (TX4 7).2.1 (TX4 7).2.2.1 ∈ wsX4_climb := List.mem_of_getElem? (i := 2) rfl
theorem mX4_climb_139 : Cond.fieldLink RX4 139 (TX4 11).1 (TX4 11).2.1 (TX4 11).2.2.1 ∈ wsX4_climb := List.mem_of_getElem? (i := 1) rfl
def wX4_climb (v1 v2 v3 : Int) (st : sq_S) (Q : Int → sq_S → Prop) : Prop :=
  wX4_in v1 0 9999 st (fun r531 st532 => sq_rg r531 ∧ (r531 = 0 → Q (-2) st532) ∧ (¬ r531 = 0 → wX4_in v2 0 60 st532 (fun r533 st534 => sq_rg r533 ∧ (r533 = 0 → Q (-2) st534) ∧ (¬ r533 = 0 → wX4_in v3 (-2) 15 st534 (fun r535 st536 => sq_rg r535 ∧ (¬ r535 = 0 → wX4_many st536 (fun r537 st538 => ((0 ≤ r537 ∧ r537 ≤ 2147483647) ∧ (0 < (2 : Int) ∧ (2 : Int) ≤ 2147483647)) ∧ ((sq_rg (r537 % 2) ∧ sq_rg 1) ∧ (¬ (r537 % 2) = 1 → wX4_goUp v1 v2 st538 (fun r556 st557 => (sq_rg v3 ∧ sq_rg (-1)) ∧ (¬ v3 = (-1) → (sq_rg v3 ∧ sq_rg (-2)) ∧ (¬ v3 = (-2) → sq_ib v3 16 ∧ (Q (st557 7 v3.toNat) st557)) ∧ (v3 = (-2) → Q (st557 0 11) st557)) ∧ (v3 = (-1) → Q r556 st557))) ∧ ((r537 % 2) = 1 → Q (-3) st538)))) ∧ (r535 = 0 → Q (-2) st536))))))
def rX4_climb : Room := { frames := 6, cells := 0, slots := 0, locals := 136 }
set_option maxRecDepth 100000 in
set_option maxHeartbeats 4000000 in
theorem tX4_climb_0 {l : Launch} {g : sq_G} {J : sq_K} {Q : Int → sq_S → Prop} (S : sq_J l rX4_climb cX4_climb 5 RX4 wsX4_climb g sq_M J) (hret : ∀ (pc : Nat) (lv : List (Nat × Value)) (r : Int) (st' : sq_S), decode cX4_climb pc = .ok (.ireturn, 1) → Q r st' → J pc lv [.int (sq_z r)] st') (v1 v2 v3 : Int) (st : sq_S) (H : wX4_climb v1 v2 v3 st Q) : J 0 [(0, .ref (g.2.2 0)), (1, .int (sq_z v1)), (2, .int (sq_z v2)), (3, .int (sq_z v3))] [] st := by
  unfold wX4_climb at H
  refine sj_iload_n (pl := 1) S dX4_climb_0 rfl rfl ?_
  refine sj_iconst S dX4_climb_1 ?_
  refine sj_sipush S dX4_climb_2 (by decide +kernel) ?_
  refine sj_si (rest := []) S (kX4_in l g v1 0 9999 st _ H) (fun s args hts => va_cwS 3 hts gX4_climb_X4_in rfl rfl rfl (by decide +kernel) ⟨Nat.le_of_ble_eq_true rfl, Nat.le_of_ble_eq_true rfl⟩) rfl rfl (Nat.le_of_ble_eq_true rfl) dX4_climb_5 (fun r531 st532 H => ?_)
  refine sj_if_eq (tgt := 32) S H.1 dX4_climb_8 (by decide) (fun c9 => ?_) (fun c9 => ?_)
  · have H := H.2.1 c9
    refine sj_bipush S dX4_climb_32 (by decide +kernel) ?_
    exact hret _ _ _ _ dX4_climb_34 H
  · have H := H.2.2 c9
    refine sj_iload_n (pl := 2) S dX4_climb_11 rfl rfl ?_
    refine sj_iconst S dX4_climb_12 ?_
    refine sj_bipush S dX4_climb_13 (by decide +kernel) ?_
    refine sj_si (rest := []) S (kX4_in l g v2 0 60 st532 _ H) (fun s args hts => va_cwS 3 hts gX4_climb_X4_in rfl rfl rfl (by decide +kernel) ⟨Nat.le_of_ble_eq_true rfl, Nat.le_of_ble_eq_true rfl⟩) rfl rfl (Nat.le_of_ble_eq_true rfl) dX4_climb_15 (fun r533 st534 H => ?_)
    refine sj_if_eq (tgt := 32) S H.1 dX4_climb_18 (by decide) (fun c9 => ?_) (fun c9 => ?_)
    · have H := H.2.1 c9
      refine sj_bipush S dX4_climb_32 (by decide +kernel) ?_
      exact hret _ _ _ _ dX4_climb_34 H
    · have H := H.2.2 c9
      refine sj_iload_n (pl := 3) S dX4_climb_21 rfl rfl ?_
      refine sj_bipush S dX4_climb_22 (by decide +kernel) ?_
      refine sj_bipush S dX4_climb_24 (by decide +kernel) ?_
      refine sj_si (rest := []) S (kX4_in l g v3 (-2) 15 st534 _ H) (fun s args hts => va_cwS 3 hts gX4_climb_X4_in rfl rfl rfl (by decide +kernel) ⟨Nat.le_of_ble_eq_true rfl, Nat.le_of_ble_eq_true rfl⟩) rfl rfl (Nat.le_of_ble_eq_true rfl) dX4_climb_26 (fun r535 st536 H => ?_)
      refine sj_if_ne (tgt := 35) S H.1 dX4_climb_29 (by decide) (fun c9 => ?_) (fun c9 => ?_)
      · have H := H.2.1 c9
        refine sj_aload_n (pl := 0) S dX4_climb_35 rfl rfl ?_
        refine sj_vi (rest := []) (q0 := 0) (ci := 4) S (kX4_many l g st536 _ H) (fun s args hts => cwV 0 hts gX4_climb_X4_many rfl rfl rfl (by decide +kernel) ⟨Nat.le_of_ble_eq_true rfl, Nat.le_of_ble_eq_true rfl⟩) rfl rfl rfl rfl (Nat.le_of_ble_eq_true rfl) dX4_climb_36 (fun r537 st538 H => ?_)
        refine sj_iconst S dX4_climb_39 ?_
        refine sj_irem S H.1 dX4_climb_40 ?_
        have H := H.2
        refine sj_iconst S dX4_climb_41 ?_
        refine sj_icmp_ne (tgt := 48) S H.1 dX4_climb_42 (by decide) (fun c9 => ?_) (fun c9 => ?_)
        · have H := H.2.1 c9
          refine sj_aload_n (pl := 0) S dX4_climb_48 rfl rfl ?_
          refine sj_iload_n (pl := 1) S dX4_climb_49 rfl rfl ?_
          refine sj_iload_n (pl := 2) S dX4_climb_50 rfl rfl ?_
          refine sj_vi (rest := []) (q0 := 0) (ci := 4) S (kX4_goUp l g v1 v2 st538 _ H) (fun s args hts => cwV 2 hts gX4_climb_X4_goUp rfl rfl rfl (by decide +kernel) ⟨Nat.le_of_ble_eq_true rfl, Nat.le_of_ble_eq_true rfl⟩) rfl rfl rfl rfl (Nat.le_of_ble_eq_true rfl) dX4_climb_51 (fun r556 st557 H => ?_)
          refine sj_istorea (lv' := [(0, .ref (g.2.2 0)), (1, .int (sq_z v1)), (2, .int (sq_z v2)), (3, .int (sq_z v3))]) S dX4_climb_54 (by decide) (fun _ => rfl) ?_
          refine sj_iload_n (pl := 4) S dX4_climb_56 rfl rfl ?_
          refine sj_iconst S dX4_climb_57 ?_
          refine sj_icmp_ne (tgt := 66) S H.1 dX4_climb_58 (by decide) (fun c9 => ?_) (fun c9 => ?_)
          · have H := H.2.1 c9
            refine sj_iload_n (pl := 4) S dX4_climb_66 rfl rfl ?_
            refine sj_bipush S dX4_climb_67 (by decide +kernel) ?_
            refine sj_icmp_ne (tgt := 79) S H.1 dX4_climb_69 (by decide) (fun c9 => ?_) (fun c9 => ?_)
            · have H := H.2.1 c9
              refine sj_aload_n (pl := 1) S dX4_climb_79 rfl rfl ?_
              refine sj_getr S fM_0_7 iX4_climb_4 rfl (by decide) mX4_climb_29 dX4_climb_80 ?_
              refine sj_iload_n (pl := 4) S dX4_climb_83 rfl rfl ?_
              refine sj_iald S aM_7 H.1 dX4_climb_84 ?_
              have H := H.2
              exact hret _ _ _ _ dX4_climb_85 H
            · have H := H.2.2 c9
              refine sj_aload_n (pl := 1) S dX4_climb_72 rfl rfl ?_
              refine sj_geti S fM_0_11 iX4_climb_4 rfl (by decide) mX4_climb_139 dX4_climb_73 ?_
              refine sj_goto (tgt := 85) S dX4_climb_76 (by decide) ?_
              exact hret _ _ _ _ dX4_climb_85 H
          · have H := H.2.2 c9
            refine sj_iload (pl := 0) S dX4_climb_61 rfl ?_
            refine sj_goto (tgt := 85) S dX4_climb_63 (by decide) ?_
            exact hret _ _ _ _ dX4_climb_85 H
        · have H := H.2.2 c9
          refine sj_bipush S dX4_climb_45 (by decide +kernel) ?_
          exact hret _ _ _ _ dX4_climb_47 H
      · have H := H.2.2 c9
        refine sj_bipush S dX4_climb_32 (by decide +kernel) ?_
        exact hret _ _ _ _ dX4_climb_34 H
set_option maxRecDepth 100000 in
set_option maxHeartbeats 4000000 in
theorem kX4_climb (l : Launch) (g : sq_G) (v1 v2 v3 : Int) (st : sq_S) (Q : Int → sq_S → Prop) (H : wX4_climb v1 v2 v3 st Q) : sq_Ci l yX4_climb wsX4_climb rX4_climb g sq_M [.ref (g.2.2 0), .int (sq_z v1), .int (sq_z v2), .int (sq_z v3)] st Q := by
  refine sq_in_i (cc := cX4_climb) (nL := 5) (own := RX4) (by decide) rfl rfl (Nat.le_of_ble_eq_true rfl) ?_
  intro J S hret
  exact tX4_climb_0 S hret v1 v2 v3 st H
/-! image (I)I : X4_image -/
theorem iX4_image_4 : ∀ w ∈ u_ws RX4 TX4 12, w ∈ wsX4_image := fun _ h => List.mem_cons_of_mem _ (List.mem_append_right _ h)
theorem mX4_image_7 : Cond.fieldLink RX4 7 (TX4 0).1 (TX4 0).2.1 (TX4 0).2.2.1 ∈ wsX4_image := List.mem_of_getElem? (i := 2) rfl
theorem mX4_image_13 : Cond.fieldLink RX4 13 (TX4 1).1 (TX4 1).2.1 (TX4 1).2.2.1 ∈ wsX4_image := List.mem_of_getElem? (i := 1) rfl
theorem mX4_image_16 : Cond.fieldLink RX4 16 (TX4 2).1 (TX4 2).2.1 (TX4 2).2.2.1 ∈ wsX4_image := List.mem_of_getElem? (i := 3) rfl
def bX4_image_14 (K14 : Int → Int → sq_S → Prop) (Q : Int → sq_S → Prop) (v1 v2 : Int) (st : sq_S) : Prop :=
  (sq_rg v2 ∧ sq_rg 819) ∧ (819 ≤ v2 → sq_ib v1 2 ∧ (((1 : Int) = 0 ∨ (1 : Int) = 1) ∧ (∀ st560 : sq_S, st560 = sq_set st 3 v1.toNat 1 → (Q 1 st560)))) ∧ (v2 < 819 → sq_ib v2 819 ∧ (sq_ib ((819 * v1) + v2) 1638 ∧ (∀ st561 : sq_S, st561 = sq_set st 2 (((819 * v1) + v2)).toNat (st 1 v2.toNat) → (K14 v1 (v2 + 1) st561))))
def bX4_image_0 (K14 : Int → Int → sq_S → Prop) (Q : Int → sq_S → Prop) (v1 : Int) (st : sq_S) : Prop :=
  wX4_in v1 0 1 st (fun r558 st559 => sq_rg r558 ∧ (¬ r558 = 0 → K14 v1 0 st559) ∧ (r558 = 0 → Q (-2) st559))
def wX4_image (v1 : Int) (st : sq_S) (Q : Int → sq_S → Prop) : Prop :=
  ∀ (K14 : Int → Int → sq_S → Prop), (∀ (v1 v2 : Int) (st : sq_S), bX4_image_14 K14 Q v1 v2 st → K14 v1 v2 st) → bX4_image_0 K14 Q v1 st
def rX4_image : Room := { frames := 1, cells := 0, slots := 0, locals := 22 }
def qX4_image_14 (J : sq_K) (g : sq_G) : Int → Int → sq_S → Prop := fun v1 v2 st => J 14 [(0, .ref (g.2.2 0)), (1, .int (sq_z v1)), (2, .int (sq_z v2))] [] st
set_option maxRecDepth 100000 in
set_option maxHeartbeats 4000000 in
theorem tX4_image_14 {l : Launch} {g : sq_G} {J : sq_K} {Q : Int → sq_S → Prop} (S : sq_J l rX4_image cX4_image 3 RX4 wsX4_image g sq_M J) (hret : ∀ (pc : Nat) (lv : List (Nat × Value)) (r : Int) (st' : sq_S), decode cX4_image pc = .ok (.ireturn, 1) → Q r st' → J pc lv [.int (sq_z r)] st') (v1 v2 : Int) (st : sq_S) (H : bX4_image_14 (qX4_image_14 J g) Q v1 v2 st) : J 14 [(0, .ref (g.2.2 0)), (1, .int (sq_z v1)), (2, .int (sq_z v2))] [] st := by
  unfold bX4_image_14 at H
  refine sj_iload_n (pl := 2) S dX4_image_14 rfl rfl ?_
  refine sj_sipush S dX4_image_15 (by decide +kernel) ?_
  refine sj_icmp_ge (tgt := 45) S H.1 dX4_image_18 (by decide) (fun c9 => ?_) (fun c9 => ?_)
  · have H := H.2.1 c9
    refine sj_aload_n (pl := 0) S dX4_image_45 rfl rfl ?_
    refine sj_getr S fM_0_2 iX4_image_4 rfl (by decide) mX4_image_16 dX4_image_46 ?_
    refine sj_iload_n (pl := 1) S dX4_image_49 rfl rfl ?_
    refine sj_iconst S dX4_image_50 ?_
    refine sj_zast S aM_3 H.1 H.2.1 dX4_image_51 (fun st560 est560 => ?_)
    have H := H.2.2 st560 est560
    refine sj_iconst S dX4_image_52 ?_
    exact hret _ _ _ _ dX4_image_53 H
  · have H := H.2.2 c9
    refine sj_aload_n (pl := 0) S dX4_image_21 rfl rfl ?_
    refine sj_getr S fM_0_1 iX4_image_4 rfl (by decide) mX4_image_13 dX4_image_22 ?_
    refine sj_sipush S dX4_image_25 (by decide +kernel) ?_
    refine sj_iload_n (pl := 1) S dX4_image_28 rfl rfl ?_
    refine sj_imul S dX4_image_29 ?_
    refine sj_iload_n (pl := 2) S dX4_image_30 rfl rfl ?_
    refine sj_iadd S dX4_image_31 ?_
    refine sj_aload_n (pl := 0) S dX4_image_32 rfl rfl ?_
    refine sj_getr S fM_0_0 iX4_image_4 rfl (by decide) mX4_image_7 dX4_image_33 ?_
    refine sj_iload_n (pl := 2) S dX4_image_36 rfl rfl ?_
    refine sj_iald S aM_1 H.1 dX4_image_37 ?_
    have H := H.2
    refine sj_iast S aM_2 H.1 dX4_image_38 (fun st561 est561 => ?_)
    have H := H.2 st561 est561
    refine sj_iinc (pl := 2) (lv' := [(0, .ref (g.2.2 0)), (1, .int (sq_z v1))]) S dX4_image_39 rfl (by decide) (fun _ => rfl) ?_
    refine sj_goto (tgt := 14) S dX4_image_42 (by decide) ?_
    exact sj_lv S [1, 2, 0] rfl H
set_option maxRecDepth 100000 in
set_option maxHeartbeats 4000000 in
theorem tX4_image_0 {l : Launch} {g : sq_G} {J : sq_K} {Q : Int → sq_S → Prop} (S : sq_J l rX4_image cX4_image 3 RX4 wsX4_image g sq_M J) (hret : ∀ (pc : Nat) (lv : List (Nat × Value)) (r : Int) (st' : sq_S), decode cX4_image pc = .ok (.ireturn, 1) → Q r st' → J pc lv [.int (sq_z r)] st') (v1 : Int) (st : sq_S) (H : bX4_image_0 (qX4_image_14 J g) Q v1 st) : J 0 [(0, .ref (g.2.2 0)), (1, .int (sq_z v1))] [] st := by
  unfold bX4_image_0 at H
  refine sj_iload_n (pl := 1) S dX4_image_0 rfl rfl ?_
  refine sj_iconst S dX4_image_1 ?_
  refine sj_iconst S dX4_image_2 ?_
  refine sj_si (rest := []) S (kX4_in l g v1 0 1 st _ H) (fun s args hts => va_cwS 3 hts gX4_image_X4_in rfl rfl rfl (by decide +kernel) ⟨Nat.le_of_ble_eq_true rfl, Nat.le_of_ble_eq_true rfl⟩) rfl rfl (Nat.le_of_ble_eq_true rfl) dX4_image_3 (fun r558 st559 H => ?_)
  refine sj_if_ne (tgt := 12) S H.1 dX4_image_6 (by decide) (fun c9 => ?_) (fun c9 => ?_)
  · have H := H.2.1 c9
    refine sj_iconst S dX4_image_12 ?_
    refine sj_istore_na (lv' := [(0, .ref (g.2.2 0)), (1, .int (sq_z v1))]) S dX4_image_13 rfl (by decide) (fun _ => rfl) ?_
    exact sj_lv S [1, 2, 0] rfl H
  · have H := H.2.2 c9
    refine sj_bipush S dX4_image_9 (by decide +kernel) ?_
    exact hret _ _ _ _ dX4_image_11 H
set_option maxRecDepth 100000 in
set_option maxHeartbeats 4000000 in
theorem kX4_image (l : Launch) (g : sq_G) (v1 : Int) (st : sq_S) (Q : Int → sq_S → Prop) (H : wX4_image v1 st Q) : sq_Ci l yX4_image wsX4_image rX4_image g sq_M [.ref (g.2.2 0), .int (sq_z v1)] st Q := by
  refine sq_in_i (cc := cX4_image) (nL := 3) (own := RX4) (by decide) rfl rfl (Nat.le_of_ble_eq_true rfl) ?_
  intro J S hret
  exact tX4_image_0 S hret v1 st (H (qX4_image_14 J g) (tX4_image_14 S hret))
/-! restore (I)I : X4_restore -/
theorem iX4_restore_4 : ∀ w ∈ u_ws RX4 TX4 12, w ∈ wsX4_restore := fun _ h => List.mem_cons_of_mem _ (List.mem_append_right _ h)
theorem mX4_restore_7 : Cond.fieldLink RX4 7 (TX4 0).1 (TX4 0).2.1 (TX4 0).2.2.1 ∈ wsX4_restore := List.mem_of_getElem? (i := 2) rfl
theorem mX4_restore_13 : Cond.fieldLink RX4 13 (TX4 1).1 (TX4 1).2.1 (TX4 1).2.2.1 ∈ wsX4_restore := List.mem_of_getElem? (i := 3) rfl
theorem mX4_restore_16 : Cond.fieldLink RX4 16 (TX4 2).1 (TX4 2).2.1 (TX4 2).2.2.1 ∈ wsX4_restore := List.mem_of_getElem? (i := 1) rfl
def bX4_restore_26 (K26 : Int → Int → sq_S → Prop) (Q : Int → sq_S → Prop) (v1 v2 : Int) (st : sq_S) : Prop :=
  (sq_rg v2 ∧ sq_rg 819) ∧ (819 ≤ v2 → Q 1 st) ∧ (v2 < 819 → sq_ib ((819 * v1) + v2) 1638 ∧ (sq_ib v2 819 ∧ (∀ st564 : sq_S, st564 = sq_set st 1 v2.toNat (st 2 (((819 * v1) + v2)).toNat) → (K26 v1 (v2 + 1) st564))))
def bX4_restore_0 (K26 : Int → Int → sq_S → Prop) (Q : Int → sq_S → Prop) (v1 : Int) (st : sq_S) : Prop :=
  wX4_in v1 0 1 st (fun r562 st563 => sq_rg r562 ∧ (¬ r562 = 0 → sq_ib v1 2 ∧ (sq_rg (st563 3 v1.toNat) ∧ (¬ (st563 3 v1.toNat) = 0 → K26 v1 0 st563) ∧ ((st563 3 v1.toNat) = 0 → Q (-3) st563))) ∧ (r562 = 0 → Q (-2) st563))
def wX4_restore (v1 : Int) (st : sq_S) (Q : Int → sq_S → Prop) : Prop :=
  ∀ (K26 : Int → Int → sq_S → Prop), (∀ (v1 v2 : Int) (st : sq_S), bX4_restore_26 K26 Q v1 v2 st → K26 v1 v2 st) → bX4_restore_0 K26 Q v1 st
def rX4_restore : Room := { frames := 1, cells := 0, slots := 0, locals := 22 }
def qX4_restore_26 (J : sq_K) (g : sq_G) : Int → Int → sq_S → Prop := fun v1 v2 st => J 26 [(0, .ref (g.2.2 0)), (1, .int (sq_z v1)), (2, .int (sq_z v2))] [] st
set_option maxRecDepth 100000 in
set_option maxHeartbeats 4000000 in
theorem tX4_restore_26 {l : Launch} {g : sq_G} {J : sq_K} {Q : Int → sq_S → Prop} (S : sq_J l rX4_restore cX4_restore 3 RX4 wsX4_restore g sq_M J) (hret : ∀ (pc : Nat) (lv : List (Nat × Value)) (r : Int) (st' : sq_S), decode cX4_restore pc = .ok (.ireturn, 1) → Q r st' → J pc lv [.int (sq_z r)] st') (v1 v2 : Int) (st : sq_S) (H : bX4_restore_26 (qX4_restore_26 J g) Q v1 v2 st) : J 26 [(0, .ref (g.2.2 0)), (1, .int (sq_z v1)), (2, .int (sq_z v2))] [] st := by
  unfold bX4_restore_26 at H
  refine sj_iload_n (pl := 2) S dX4_restore_26 rfl rfl ?_
  refine sj_sipush S dX4_restore_27 (by decide +kernel) ?_
  refine sj_icmp_ge (tgt := 57) S H.1 dX4_restore_30 (by decide) (fun c9 => ?_) (fun c9 => ?_)
  · have H := H.2.1 c9
    refine sj_iconst S dX4_restore_57 ?_
    exact hret _ _ _ _ dX4_restore_58 H
  · have H := H.2.2 c9
    refine sj_aload_n (pl := 0) S dX4_restore_33 rfl rfl ?_
    refine sj_getr S fM_0_0 iX4_restore_4 rfl (by decide) mX4_restore_7 dX4_restore_34 ?_
    refine sj_iload_n (pl := 2) S dX4_restore_37 rfl rfl ?_
    refine sj_aload_n (pl := 0) S dX4_restore_38 rfl rfl ?_
    refine sj_getr S fM_0_1 iX4_restore_4 rfl (by decide) mX4_restore_13 dX4_restore_39 ?_
    refine sj_sipush S dX4_restore_42 (by decide +kernel) ?_
    refine sj_iload_n (pl := 1) S dX4_restore_45 rfl rfl ?_
    refine sj_imul S dX4_restore_46 ?_
    refine sj_iload_n (pl := 2) S dX4_restore_47 rfl rfl ?_
    refine sj_iadd S dX4_restore_48 ?_
    refine sj_iald S aM_2 H.1 dX4_restore_49 ?_
    have H := H.2
    refine sj_iast S aM_1 H.1 dX4_restore_50 (fun st564 est564 => ?_)
    have H := H.2 st564 est564
    refine sj_iinc (pl := 2) (lv' := [(0, .ref (g.2.2 0)), (1, .int (sq_z v1))]) S dX4_restore_51 rfl (by decide) (fun _ => rfl) ?_
    refine sj_goto (tgt := 26) S dX4_restore_54 (by decide) ?_
    exact sj_lv S [1, 2, 0] rfl H
set_option maxRecDepth 100000 in
set_option maxHeartbeats 4000000 in
theorem tX4_restore_0 {l : Launch} {g : sq_G} {J : sq_K} {Q : Int → sq_S → Prop} (S : sq_J l rX4_restore cX4_restore 3 RX4 wsX4_restore g sq_M J) (hret : ∀ (pc : Nat) (lv : List (Nat × Value)) (r : Int) (st' : sq_S), decode cX4_restore pc = .ok (.ireturn, 1) → Q r st' → J pc lv [.int (sq_z r)] st') (v1 : Int) (st : sq_S) (H : bX4_restore_0 (qX4_restore_26 J g) Q v1 st) : J 0 [(0, .ref (g.2.2 0)), (1, .int (sq_z v1))] [] st := by
  unfold bX4_restore_0 at H
  refine sj_iload_n (pl := 1) S dX4_restore_0 rfl rfl ?_
  refine sj_iconst S dX4_restore_1 ?_
  refine sj_iconst S dX4_restore_2 ?_
  refine sj_si (rest := []) S (kX4_in l g v1 0 1 st _ H) (fun s args hts => va_cwS 3 hts gX4_restore_X4_in rfl rfl rfl (by decide +kernel) ⟨Nat.le_of_ble_eq_true rfl, Nat.le_of_ble_eq_true rfl⟩) rfl rfl (Nat.le_of_ble_eq_true rfl) dX4_restore_3 (fun r562 st563 H => ?_)
  refine sj_if_ne (tgt := 12) S H.1 dX4_restore_6 (by decide) (fun c9 => ?_) (fun c9 => ?_)
  · have H := H.2.1 c9
    refine sj_aload_n (pl := 0) S dX4_restore_12 rfl rfl ?_
    refine sj_getr S fM_0_2 iX4_restore_4 rfl (by decide) mX4_restore_16 dX4_restore_13 ?_
    refine sj_iload_n (pl := 1) S dX4_restore_16 rfl rfl ?_
    refine sj_zald S aM_3 H.1 dX4_restore_17 ?_
    have H := H.2
    refine sj_if_ne (tgt := 24) S H.1 dX4_restore_18 (by decide) (fun c9 => ?_) (fun c9 => ?_)
    · have H := H.2.1 c9
      refine sj_iconst S dX4_restore_24 ?_
      refine sj_istore_na (lv' := [(0, .ref (g.2.2 0)), (1, .int (sq_z v1))]) S dX4_restore_25 rfl (by decide) (fun _ => rfl) ?_
      exact sj_lv S [1, 2, 0] rfl H
    · have H := H.2.2 c9
      refine sj_bipush S dX4_restore_21 (by decide +kernel) ?_
      exact hret _ _ _ _ dX4_restore_23 H
  · have H := H.2.2 c9
    refine sj_bipush S dX4_restore_9 (by decide +kernel) ?_
    exact hret _ _ _ _ dX4_restore_11 H
set_option maxRecDepth 100000 in
set_option maxHeartbeats 4000000 in
theorem kX4_restore (l : Launch) (g : sq_G) (v1 : Int) (st : sq_S) (Q : Int → sq_S → Prop) (H : wX4_restore v1 st Q) : sq_Ci l yX4_restore wsX4_restore rX4_restore g sq_M [.ref (g.2.2 0), .int (sq_z v1)] st Q := by
  refine sq_in_i (cc := cX4_restore) (nL := 3) (own := RX4) (by decide) rfl rfl (Nat.le_of_ble_eq_true rfl) ?_
  intro J S hret
  exact tX4_restore_0 S hret v1 st (H (qX4_restore_26 J g) (tX4_restore_26 S hret))
/-! count (I)I : X4_count -/
theorem iX4_count_4 : ∀ w ∈ u_ws RX4 TX4 12, w ∈ wsX4_count := fun _ h => List.mem_cons_of_mem _ (List.mem_append_right _ h)
theorem mX4_count_7 : Cond.fieldLink RX4 7 (TX4 0).1 (TX4 0).2.1 (TX4 0).2.2.1 ∈ wsX4_count := List.mem_of_getElem? (i := 1) rfl
theorem mX4_count_16 : Cond.fieldLink RX4 16 (TX4 2).1 (TX4 2).2.1 (TX4 2).2.2.1 ∈ wsX4_count := List.mem_of_getElem? (i := 3) rfl
theorem mX4_count_45 : Cond.fieldLink RX4 45 (TX4 4).1 (TX4 4).2.1 (TX4 4).2.2.1 ∈ wsX4_count := List.mem_of_getElem? (i := 2) rfl
def wX4_count (v1 : Int) (st : sq_S) (Q : Int → sq_S → Prop) : Prop :=
  wX4_in v1 10 25 st (fun r565 st566 => sq_rg r565 ∧ (r565 = 0 → sq_rg v1 ∧ (v1 = 0 → wX4_many st566 (fun r567 st568 => Q r567 st568)) ∧ (v1 = 1 → sq_ib 55 819 ∧ (Q (st566 1 55) st566)) ∧ (v1 = 2 → Q (st566 0 4) st566) ∧ (v1 = 3 → sq_ib 328 819 ∧ (Q (st566 1 328) st566)) ∧ (v1 = 4 → wX4_liked st566 (fun r569 st570 => Q r569 st570)) ∧ (v1 = 5 → sq_ib 0 2 ∧ (sq_rg (st566 3 0) ∧ ((st566 3 0) = 0 → sq_ib 1 2 ∧ (sq_rg (st566 3 1) ∧ ((st566 3 1) = 0 → Q (0 + 0) st566) ∧ (¬ (st566 3 1) = 0 → Q (0 + 2) st566))) ∧ (¬ (st566 3 0) = 0 → sq_ib 1 2 ∧ (sq_rg (st566 3 1) ∧ ((st566 3 1) = 0 → Q (1 + 0) st566) ∧ (¬ (st566 3 1) = 0 → Q (1 + 2) st566))))) ∧ ((v1 < 0 ∨ 5 < v1) → Q (-2) st566)) ∧ (¬ r565 = 0 → sq_ib ((56 + v1) - 10) 819 ∧ (Q (st566 1 (((56 + v1) - 10)).toNat) st566)))
def rX4_count : Room := { frames := 1, cells := 0, slots := 0, locals := 22 }
set_option maxRecDepth 100000 in
set_option maxHeartbeats 4000000 in
theorem tX4_count_0 {l : Launch} {g : sq_G} {J : sq_K} {Q : Int → sq_S → Prop} (S : sq_J l rX4_count cX4_count 2 RX4 wsX4_count g sq_M J) (hret : ∀ (pc : Nat) (lv : List (Nat × Value)) (r : Int) (st' : sq_S), decode cX4_count pc = .ok (.ireturn, 1) → Q r st' → J pc lv [.int (sq_z r)] st') (v1 : Int) (st : sq_S) (H : wX4_count v1 st Q) : J 0 [(0, .ref (g.2.2 0)), (1, .int (sq_z v1))] [] st := by
  unfold wX4_count at H
  refine sj_iload_n (pl := 1) S dX4_count_0 rfl rfl ?_
  refine sj_bipush S dX4_count_1 (by decide +kernel) ?_
  refine sj_bipush S dX4_count_3 (by decide +kernel) ?_
  refine sj_si (rest := []) S (kX4_in l g v1 10 25 st _ H) (fun s args hts => va_cwS 3 hts gX4_count_X4_in rfl rfl rfl (by decide +kernel) ⟨Nat.le_of_ble_eq_true rfl, Nat.le_of_ble_eq_true rfl⟩) rfl rfl (Nat.le_of_ble_eq_true rfl) dX4_count_5 (fun r565 st566 H => ?_)
  refine sj_if_eq (tgt := 24) S H.1 dX4_count_8 (by decide) (fun c9 => ?_) (fun c9 => ?_)
  · have H := H.2.1 c9
    refine sj_iload_n (pl := 1) S dX4_count_24 rfl rfl ?_
    by_cases c0 : v1 = 0
    · refine sj_tab (v := 0) (tgt := 64) S (by decide) c0 dX4_count_25 (by decide) (by decide) rfl (by decide) ?_
      have H := H.2.1 c0
      refine sj_aload_n (pl := 0) S dX4_count_64 rfl rfl ?_
      refine sj_vi (rest := []) (q0 := 0) (ci := 4) S (kX4_many l g st566 _ H) (fun s args hts => cwV 0 hts gX4_count_X4_many rfl rfl rfl (by decide +kernel) ⟨Nat.le_of_ble_eq_true rfl, Nat.le_of_ble_eq_true rfl⟩) rfl rfl rfl rfl (Nat.le_of_ble_eq_true rfl) dX4_count_65 (fun r567 st568 H => ?_)
      exact hret _ _ _ _ dX4_count_68 H
    by_cases c1 : v1 = 1
    · refine sj_tab (v := 1) (tgt := 69) S (by decide) c1 dX4_count_25 (by decide) (by decide) rfl (by decide) ?_
      have H := H.2.2.1 c1
      refine sj_aload_n (pl := 0) S dX4_count_69 rfl rfl ?_
      refine sj_getr S fM_0_0 iX4_count_4 rfl (by decide) mX4_count_7 dX4_count_70 ?_
      refine sj_bipush S dX4_count_73 (by decide +kernel) ?_
      refine sj_iald S aM_1 H.1 dX4_count_75 ?_
      have H := H.2
      exact hret _ _ _ _ dX4_count_76 H
    by_cases c2 : v1 = 2
    · refine sj_tab (v := 2) (tgt := 77) S (by decide) c2 dX4_count_25 (by decide) (by decide) rfl (by decide) ?_
      have H := H.2.2.2.1 c2
      refine sj_aload_n (pl := 0) S dX4_count_77 rfl rfl ?_
      refine sj_geti S fM_0_4 iX4_count_4 rfl (by decide) mX4_count_45 dX4_count_78 ?_
      exact hret _ _ _ _ dX4_count_81 H
    by_cases c3 : v1 = 3
    · refine sj_tab (v := 3) (tgt := 82) S (by decide) c3 dX4_count_25 (by decide) (by decide) rfl (by decide) ?_
      have H := H.2.2.2.2.1 c3
      refine sj_aload_n (pl := 0) S dX4_count_82 rfl rfl ?_
      refine sj_getr S fM_0_0 iX4_count_4 rfl (by decide) mX4_count_7 dX4_count_83 ?_
      refine sj_sipush S dX4_count_86 (by decide +kernel) ?_
      refine sj_iald S aM_1 H.1 dX4_count_89 ?_
      have H := H.2
      exact hret _ _ _ _ dX4_count_90 H
    by_cases c4 : v1 = 4
    · refine sj_tab (v := 4) (tgt := 91) S (by decide) c4 dX4_count_25 (by decide) (by decide) rfl (by decide) ?_
      have H := H.2.2.2.2.2.1 c4
      refine sj_aload_n (pl := 0) S dX4_count_91 rfl rfl ?_
      refine sj_vi (rest := []) (q0 := 0) (ci := 4) S (kX4_liked l g st566 _ H) (fun s args hts => cwV 0 hts gX4_count_X4_liked rfl rfl rfl (by decide +kernel) ⟨Nat.le_of_ble_eq_true rfl, Nat.le_of_ble_eq_true rfl⟩) rfl rfl rfl rfl (Nat.le_of_ble_eq_true rfl) dX4_count_92 (fun r569 st570 H => ?_)
      exact hret _ _ _ _ dX4_count_95 H
    by_cases c5 : v1 = 5
    · refine sj_tab (v := 5) (tgt := 96) S (by decide) c5 dX4_count_25 (by decide) (by decide) rfl (by decide) ?_
      have H := H.2.2.2.2.2.2.1 c5
      refine sj_aload_n (pl := 0) S dX4_count_96 rfl rfl ?_
      refine sj_getr S fM_0_2 iX4_count_4 rfl (by decide) mX4_count_16 dX4_count_97 ?_
      refine sj_iconst S dX4_count_100 ?_
      refine sj_zald S aM_3 H.1 dX4_count_101 ?_
      have H := H.2
      refine sj_if_eq (tgt := 109) S H.1 dX4_count_102 (by decide) (fun c9 => ?_) (fun c9 => ?_)
      · have H := H.2.1 c9
        refine sj_iconst S dX4_count_109 ?_
        refine sj_aload_n (pl := 0) S dX4_count_110 rfl rfl ?_
        refine sj_getr S fM_0_2 iX4_count_4 rfl (by decide) mX4_count_16 dX4_count_111 ?_
        refine sj_iconst S dX4_count_114 ?_
        refine sj_zald S aM_3 H.1 dX4_count_115 ?_
        have H := H.2
        refine sj_if_eq (tgt := 123) S H.1 dX4_count_116 (by decide) (fun c9 => ?_) (fun c9 => ?_)
        · have H := H.2.1 c9
          refine sj_iconst S dX4_count_123 ?_
          refine sj_iadd S dX4_count_124 ?_
          exact hret _ _ _ _ dX4_count_125 H
        · have H := H.2.2 c9
          refine sj_iconst S dX4_count_119 ?_
          refine sj_goto (tgt := 124) S dX4_count_120 (by decide) ?_
          refine sj_iadd S dX4_count_124 ?_
          exact hret _ _ _ _ dX4_count_125 H
      · have H := H.2.2 c9
        refine sj_iconst S dX4_count_105 ?_
        refine sj_goto (tgt := 110) S dX4_count_106 (by decide) ?_
        refine sj_aload_n (pl := 0) S dX4_count_110 rfl rfl ?_
        refine sj_getr S fM_0_2 iX4_count_4 rfl (by decide) mX4_count_16 dX4_count_111 ?_
        refine sj_iconst S dX4_count_114 ?_
        refine sj_zald S aM_3 H.1 dX4_count_115 ?_
        have H := H.2
        refine sj_if_eq (tgt := 123) S H.1 dX4_count_116 (by decide) (fun c9 => ?_) (fun c9 => ?_)
        · have H := H.2.1 c9
          refine sj_iconst S dX4_count_123 ?_
          refine sj_iadd S dX4_count_124 ?_
          exact hret _ _ _ _ dX4_count_125 H
        · have H := H.2.2 c9
          refine sj_iconst S dX4_count_119 ?_
          refine sj_goto (tgt := 124) S dX4_count_120 (by decide) ?_
          refine sj_iadd S dX4_count_124 ?_
          exact hret _ _ _ _ dX4_count_125 H
    have cd : v1 < 0 ∨ 5 < v1 := by omega
    refine sj_tabd (tgt := 126) S H.1 cd dX4_count_25 (by decide) ?_
    have H := H.2.2.2.2.2.2.2 cd
    refine sj_bipush S dX4_count_126 (by decide +kernel) ?_
    exact hret _ _ _ _ dX4_count_128 H
  · have H := H.2.2 c9
    refine sj_aload_n (pl := 0) S dX4_count_11 rfl rfl ?_
    refine sj_getr S fM_0_0 iX4_count_4 rfl (by decide) mX4_count_7 dX4_count_12 ?_
    refine sj_bipush S dX4_count_15 (by decide +kernel) ?_
    refine sj_iload_n (pl := 1) S dX4_count_17 rfl rfl ?_
    refine sj_iadd S dX4_count_18 ?_
    refine sj_bipush S dX4_count_19 (by decide +kernel) ?_
    refine sj_isub S dX4_count_21 ?_
    refine sj_iald S aM_1 H.1 dX4_count_22 ?_
    have H := H.2
    exact hret _ _ _ _ dX4_count_23 H
set_option maxRecDepth 100000 in
set_option maxHeartbeats 4000000 in
theorem kX4_count (l : Launch) (g : sq_G) (v1 : Int) (st : sq_S) (Q : Int → sq_S → Prop) (H : wX4_count v1 st Q) : sq_Ci l yX4_count wsX4_count rX4_count g sq_M [.ref (g.2.2 0), .int (sq_z v1)] st Q := by
  refine sq_in_i (cc := cX4_count) (nL := 2) (own := RX4) (by decide) rfl rfl (Nat.le_of_ble_eq_true rfl) ?_
  intro J S hret
  exact tX4_count_0 S hret v1 st H
