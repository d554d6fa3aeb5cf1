/-! restore (I)I : X3_restore -/
theorem iX3_restore_3 : ∀ w ∈ u_ws RX3 TX3 8, w ∈ wsX3_restore := fun _ h => List.mem_cons_of_mem _ (List.mem_append_left _ (List.mem_append_right _ h))
theorem mX3_restore_16 : Cond.fieldLink RX3 16 (TX3 2).1 (TX3 2).2.1 (TX3 2).2.2.1 ∈ wsX3_restore := List.mem_of_getElem? (i := 2) rfl
theorem mX3_restore_20 : Cond.fieldLink RX3 20 (TX3 3).1 (TX3 3).2.1 (TX3 3).2.2.1 ∈ wsX3_restore := List.mem_of_getElem? (i := 3) rfl
theorem mX3_restore_158 : Cond.fieldLink RX3 158 (TX3 4).1 (TX3 4).2.1 (TX3 4).2.2.1 ∈ wsX3_restore := List.mem_of_getElem? (i := 1) rfl
def wX3_restore (v1 : Int) (st : sq_S) (Q : Int → sq_S → Prop) : Prop :=
  wX3_isOutside v1 0 1 st (fun r278 st279 => sq_rg r278 ∧ (r278 = 0 → sq_rg (sq_and (sq_shr (st279 0 4) v1) 1) ∧ (¬ (sq_and (sq_shr (st279 0 4) v1) 1) = 0 → (v1 = 0 ∨ v1 = 1) ∧ (v1 = 0 → wX0_copyFrom_2_9 st279 (fun _ st289 => Q 1 st289)) ∧ (v1 = 1 → wX0_copyFrom_2_16 st279 (fun _ st299 => Q 1 st299))) ∧ ((sq_and (sq_shr (st279 0 4) v1) 1) = 0 → Q (-3) st279)) ∧ (¬ r278 = 0 → Q (-2) st279))
def rX3_restore : Room := { frames := 2, cells := 0, slots := 0, locals := 61 }
set_option maxRecDepth 100000 in
set_option maxHeartbeats 4000000 in
theorem tX3_restore_0 {l : Launch} {g : sq_G} {J : sq_K} {Q : Int → sq_S → Prop} (S : sq_J l rX3_restore cX3_restore 2 RX3 wsX3_restore g sq_X J) (hret : ∀ (pc : Nat) (lv : List (Nat × Value)) (r : Int) (st' : sq_S), decode cX3_restore pc = .ok (.ireturn, 1) → Q r st' → J pc lv [.int (sq_z r)] st') (v1 : Int) (st : sq_S) (H : wX3_restore v1 st Q) : J 0 [(0, .ref (g.2.2 0)), (1, .int (sq_z v1))] [] st := by
  unfold wX3_restore at H
  refine sj_iload_n (pl := 1) S dX3_restore_0 rfl rfl ?_
  refine sj_iconst S dX3_restore_1 ?_
  refine sj_iconst S dX3_restore_2 ?_
  refine sj_si (rest := []) S (kX3_isOutside l g v1 0 1 st _ H) (fun s args hts => va_cwS 3 hts gX3_restore_X3_isOutside rfl rfl rfl (by decide +kernel) ⟨Nat.le_of_ble_eq_true rfl, Nat.le_of_ble_eq_true rfl⟩) rfl rfl (Nat.le_of_ble_eq_true rfl) dX3_restore_3 (fun r278 st279 H => ?_)
  refine sj_if_eq (tgt := 12) S H.1 dX3_restore_6 (by decide) (fun c9 => ?_) (fun c9 => ?_)
  · have H := H.2.1 c9
    refine sj_aload_n (pl := 0) S dX3_restore_12 rfl rfl ?_
    refine sj_geti S fX_0_4 iX3_restore_3 rfl (by decide) mX3_restore_158 dX3_restore_13 ?_
    refine sj_iload_n (pl := 1) S dX3_restore_16 rfl rfl ?_
    refine sj_ishr S dX3_restore_17 ?_
    refine sj_iconst S dX3_restore_18 ?_
    refine sj_iand S dX3_restore_19 ?_
    refine sj_if_ne (tgt := 26) S H.1 dX3_restore_20 (by decide) (fun c9 => ?_) (fun c9 => ?_)
    · have H := H.2.1 c9
      refine sj_aload_n (pl := 0) S dX3_restore_26 rfl rfl ?_
      refine sj_getr S fX_0_2 iX3_restore_3 rfl (by decide) mX3_restore_16 dX3_restore_27 ?_
      refine sj_aload_n (pl := 0) S dX3_restore_30 rfl rfl ?_
      refine sj_getr S fX_0_3 iX3_restore_3 rfl (by decide) mX3_restore_20 dX3_restore_31 ?_
      refine sj_iload_n (pl := 1) S dX3_restore_34 rfl rfl ?_
      rcases H.1 with c9 | c9
      · refine sj_aald S (v := 0) c9 (by decide) rfl dX3_restore_35 ?_
        have H := H.2.1 c9
        refine sj_vv (rest := []) (q0 := 2) (ci := 0) S (kX0_copyFrom_2_9 l g st279 _ H) (fun s args hts => cwV 1 hts gX3_restore_X0_copyFrom rfl rfl rfl (by decide +kernel) ⟨Nat.le_of_ble_eq_true rfl, Nat.le_of_ble_eq_true rfl⟩) rfl rfl rfl rfl (Nat.le_of_ble_eq_true rfl) dX3_restore_36 (fun st289 H => ?_)
        refine sj_iconst S dX3_restore_39 ?_
        exact hret _ _ _ _ dX3_restore_40 H
      · refine sj_aald S (v := 1) c9 (by decide) rfl dX3_restore_35 ?_
        have H := H.2.2 c9
        refine sj_vv (rest := []) (q0 := 2) (ci := 0) S (kX0_copyFrom_2_16 l g st279 _ H) (fun s args hts => cwV 1 hts gX3_restore_X0_copyFrom rfl rfl rfl (by decide +kernel) ⟨Nat.le_of_ble_eq_true rfl, Nat.le_of_ble_eq_true rfl⟩) rfl rfl rfl rfl (Nat.le_of_ble_eq_true rfl) dX3_restore_36 (fun st299 H => ?_)
        refine sj_iconst S dX3_restore_39 ?_
        exact hret _ _ _ _ dX3_restore_40 H
    · have H := H.2.2 c9
      refine sj_bipush S dX3_restore_23 (by decide +kernel) ?_
      exact hret _ _ _ _ dX3_restore_25 H
  · have H := H.2.2 c9
    refine sj_bipush S dX3_restore_9 (by decide +kernel) ?_
    exact hret _ _ _ _ dX3_restore_11 H
set_option maxRecDepth 100000 in
set_option maxHeartbeats 4000000 in
theorem kX3_restore (l : Launch) (g : sq_G) (v1 : Int) (st : sq_S) (Q : Int → sq_S → Prop) (H : wX3_restore v1 st Q) : sq_Ci l yX3_restore wsX3_restore rX3_restore g sq_X [.ref (g.2.2 0), .int (sq_z v1)] st Q := by
  refine sq_in_i (cc := cX3_restore) (nL := 2) (own := RX3) (by decide) rfl rfl (Nat.le_of_ble_eq_true rfl) ?_
  intro J S hret
  exact tX3_restore_0 S hret v1 st H
/-! count (I)I : X3_count -/
theorem iX3_count_0 : ∀ w ∈ u_ws RX0 TX0 9, w ∈ wsX3_count := fun _ h => List.mem_cons_of_mem _ (List.mem_append_right _ h)
theorem iX3_count_3 : ∀ w ∈ u_ws RX3 TX3 8, w ∈ wsX3_count := fun _ h => List.mem_cons_of_mem _ (List.mem_append_left _ (List.mem_append_right _ h))
theorem mX3_count_16 : Cond.fieldLink RX3 16 (TX3 2).1 (TX3 2).2.1 (TX3 2).2.2.1 ∈ wsX3_count := List.mem_of_getElem? (i := 1) rfl
theorem mX3_count_41 : Cond.fieldLink RX3 41 (TX3 1).1 (TX3 1).2.1 (TX3 1).2.2.1 ∈ wsX3_count := List.mem_of_getElem? (i := 4) rfl
theorem mX3_count_56 : Cond.fieldLink RX3 56 (TX0 1).1 (TX0 1).2.1 (TX0 1).2.2.1 ∈ wsX3_count := List.mem_of_getElem? (i := 2) rfl
theorem mX3_count_62 : Cond.fieldLink RX3 62 (TX0 3).1 (TX0 3).2.1 (TX0 3).2.2.1 ∈ wsX3_count := List.mem_of_getElem? (i := 3) rfl
theorem mX3_count_73 : Cond.fieldLink RX3 73 (TX0 4).1 (TX0 4).2.1 (TX0 4).2.2.1 ∈ wsX3_count := List.mem_of_getElem? (i := 7) rfl
theorem mX3_count_103 : Cond.fieldLink RX3 103 (TX0 8).1 (TX0 8).2.1 (TX0 8).2.2.1 ∈ wsX3_count := List.mem_of_getElem? (i := 5) rfl
theorem mX3_count_158 : Cond.fieldLink RX3 158 (TX3 4).1 (TX3 4).2.1 (TX3 4).2.2.1 ∈ wsX3_count := List.mem_of_getElem? (i := 6) rfl
def wX3_count (v1 : Int) (st : sq_S) (Q : Int → sq_S → Prop) : Prop :=
  sq_rg v1 ∧ (v1 = 0 → Q (st 2 1) st) ∧ (v1 = 1 → Q (st 2 3) st) ∧ (v1 = 2 → Q (st 0 1) st) ∧ (v1 = 3 → Q (st 2 8) st) ∧ (v1 = 4 → wX0_likedPairs st (fun r300 st301 => Q r300 st301)) ∧ (v1 = 5 → Q (st 0 4) st) ∧ ((v1 < 0 ∨ 5 < v1) → wX3_isOutside v1 10 25 st (fun r302 st303 => sq_rg r302 ∧ (r302 = 0 → sq_ib (v1 - 10) 16 ∧ (Q (st303 5 ((v1 - 10)).toNat) st303)) ∧ (¬ r302 = 0 → Q (-2) st303)))
def rX3_count : Room := { frames := 2, cells := 0, slots := 0, locals := 42 }
set_option maxRecDepth 100000 in
set_option maxHeartbeats 4000000 in
theorem tX3_count_0 {l : Launch} {g : sq_G} {J : sq_K} {Q : Int → sq_S → Prop} (S : sq_J l rX3_count cX3_count 2 RX3 wsX3_count g sq_X J) (hret : ∀ (pc : Nat) (lv : List (Nat × Value)) (r : Int) (st' : sq_S), decode cX3_count pc = .ok (.ireturn, 1) → Q r st' → J pc lv [.int (sq_z r)] st') (v1 : Int) (st : sq_S) (H : wX3_count v1 st Q) : J 0 [(0, .ref (g.2.2 0)), (1, .int (sq_z v1))] [] st := by
  unfold wX3_count at H
  refine sj_iload_n (pl := 1) S dX3_count_0 rfl rfl ?_
  by_cases c0 : v1 = 0
  · refine sj_tab (v := 0) (tgt := 40) S (by decide) c0 dX3_count_1 (by decide) (by decide) rfl (by decide) ?_
    have H := H.2.1 c0
    refine sj_aload_n (pl := 0) S dX3_count_40 rfl rfl ?_
    refine sj_getr S fX_0_2 iX3_count_3 rfl (by decide) mX3_count_16 dX3_count_41 ?_
    refine sj_geti S fX_2_1 iX3_count_0 rfl (by decide) mX3_count_56 dX3_count_44 ?_
    exact hret _ _ _ _ dX3_count_47 H
  by_cases c1 : v1 = 1
  · refine sj_tab (v := 1) (tgt := 48) S (by decide) c1 dX3_count_1 (by decide) (by decide) rfl (by decide) ?_
    have H := H.2.2.1 c1
    refine sj_aload_n (pl := 0) S dX3_count_48 rfl rfl ?_
    refine sj_getr S fX_0_2 iX3_count_3 rfl (by decide) mX3_count_16 dX3_count_49 ?_
    refine sj_geti S fX_2_3 iX3_count_0 rfl (by decide) mX3_count_62 dX3_count_52 ?_
    exact hret _ _ _ _ dX3_count_55 H
  by_cases c2 : v1 = 2
  · refine sj_tab (v := 2) (tgt := 56) S (by decide) c2 dX3_count_1 (by decide) (by decide) rfl (by decide) ?_
    have H := H.2.2.2.1 c2
    refine sj_aload_n (pl := 0) S dX3_count_56 rfl rfl ?_
    refine sj_geti S fX_0_1 iX3_count_3 rfl (by decide) mX3_count_41 dX3_count_57 ?_
    exact hret _ _ _ _ dX3_count_60 H
  by_cases c3 : v1 = 3
  · refine sj_tab (v := 3) (tgt := 61) S (by decide) c3 dX3_count_1 (by decide) (by decide) rfl (by decide) ?_
    have H := H.2.2.2.2.1 c3
    refine sj_aload_n (pl := 0) S dX3_count_61 rfl rfl ?_
    refine sj_getr S fX_0_2 iX3_count_3 rfl (by decide) mX3_count_16 dX3_count_62 ?_
    refine sj_geti S fX_2_8 iX3_count_0 rfl (by decide) mX3_count_103 dX3_count_65 ?_
    exact hret _ _ _ _ dX3_count_68 H
  by_cases c4 : v1 = 4
  · refine sj_tab (v := 4) (tgt := 69) S (by decide) c4 dX3_count_1 (by decide) (by decide) rfl (by decide) ?_
    have H := H.2.2.2.2.2.1 c4
    refine sj_aload_n (pl := 0) S dX3_count_69 rfl rfl ?_
    refine sj_getr S fX_0_2 iX3_count_3 rfl (by decide) mX3_count_16 dX3_count_70 ?_
    refine sj_vi (rest := []) (q0 := 2) (ci := 0) S (kX0_likedPairs l g st _ H) (fun s args hts => cwV 0 hts gX3_count_X0_likedPairs rfl rfl rfl (by decide +kernel) ⟨Nat.le_of_ble_eq_true rfl, Nat.le_of_ble_eq_true rfl⟩) rfl rfl rfl rfl (Nat.le_of_ble_eq_true rfl) dX3_count_73 (fun r300 st301 H => ?_)
    exact hret _ _ _ _ dX3_count_76 H
  by_cases c5 : v1 = 5
  · refine sj_tab (v := 5) (tgt := 77) S (by decide) c5 dX3_count_1 (by decide) (by decide) rfl (by decide) ?_
    have H := H.2.2.2.2.2.2.1 c5
    refine sj_aload_n (pl := 0) S dX3_count_77 rfl rfl ?_
    refine sj_geti S fX_0_4 iX3_count_3 rfl (by decide) mX3_count_158 dX3_count_78 ?_
    exact hret _ _ _ _ dX3_count_81 H
  have cd : v1 < 0 ∨ 5 < v1 := by omega
  refine sj_tabd (tgt := 82) S H.1 cd dX3_count_1 (by decide) ?_
  have H := H.2.2.2.2.2.2.2 cd
  refine sj_iload_n (pl := 1) S dX3_count_82 rfl rfl ?_
  refine sj_bipush S dX3_count_83 (by decide +kernel) ?_
  refine sj_bipush S dX3_count_85 (by decide +kernel) ?_
  refine sj_si (rest := []) S (kX3_isOutside l g v1 10 25 st _ H) (fun s args hts => va_cwS 3 hts gX3_count_X3_isOutside rfl rfl rfl (by decide +kernel) ⟨Nat.le_of_ble_eq_true rfl, Nat.le_of_ble_eq_true rfl⟩) rfl rfl (Nat.le_of_ble_eq_true rfl) dX3_count_87 (fun r302 st303 H => ?_)
  refine sj_if_eq (tgt := 98) S H.1 dX3_count_90 (by decide) (fun c9 => ?_) (fun c9 => ?_)
  · have H := H.2.1 c9
    refine sj_aload_n (pl := 0) S dX3_count_98 rfl rfl ?_
    refine sj_getr S fX_0_2 iX3_count_3 rfl (by decide) mX3_count_16 dX3_count_99 ?_
    refine sj_getr S fX_2_4 iX3_count_0 rfl (by decide) mX3_count_73 dX3_count_102 ?_
    refine sj_iload_n (pl := 1) S dX3_count_105 rfl rfl ?_
    refine sj_bipush S dX3_count_106 (by decide +kernel) ?_
    refine sj_isub S dX3_count_108 ?_
    refine sj_iald S aX_5 H.1 dX3_count_109 ?_
    have H := H.2
    exact hret _ _ _ _ dX3_count_110 H
  · have H := H.2.2 c9
    refine sj_bipush S dX3_count_93 (by decide +kernel) ?_
    refine sj_goto (tgt := 110) S dX3_count_95 (by decide) ?_
    exact hret _ _ _ _ dX3_count_110 H
set_option maxRecDepth 100000 in
set_option maxHeartbeats 4000000 in
theorem kX3_count (l : Launch) (g : sq_G) (v1 : Int) (st : sq_S) (Q : Int → sq_S → Prop) (H : wX3_count v1 st Q) : sq_Ci l yX3_count wsX3_count rX3_count g sq_X [.ref (g.2.2 0), .int (sq_z v1)] st Q := by
  refine sq_in_i (cc := cX3_count) (nL := 2) (own := RX3) (by decide) rfl rfl (Nat.le_of_ble_eq_true rfl) ?_
  intro J S hret
  exact tX3_count_0 S hret v1 st H
