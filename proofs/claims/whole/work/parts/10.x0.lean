/-! isOutside (III)Z : X3_isOutside -/
def wX3_isOutside (v0 v1 v2 : Int) (st : sq_S) (Q : Int → sq_S → Prop) : Prop :=
  (sq_rg v0 ∧ sq_rg v1) ∧ (v0 < v1 → ((1 : Int) = 0 ∨ (1 : Int) = 1) ∧ Q 1 st) ∧ (v1 ≤ v0 → (sq_rg v0 ∧ sq_rg v2) ∧ (v0 ≤ v2 → ((0 : Int) = 0 ∨ (0 : Int) = 1) ∧ Q 0 st) ∧ (v2 < v0 → ((1 : Int) = 0 ∨ (1 : Int) = 1) ∧ Q 1 st))
def rX3_isOutside : Room := { frames := 0, cells := 0, slots := 0, locals := 0 }
set_option maxRecDepth 100000 in
set_option maxHeartbeats 4000000 in
theorem tX3_isOutside_0 {l : Launch} {g : sq_G} {J : sq_K} {Q : Int → sq_S → Prop} (S : sq_J l rX3_isOutside cX3_isOutside 3 RX3 wsX3_isOutside g sq_X J) (hret : ∀ (pc : Nat) (lv : List (Nat × Value)) (r : Int) (st' : sq_S), decode cX3_isOutside pc = .ok (.ireturn, 1) → (r = 0 ∨ r = 1) ∧ Q r st' → J pc lv [.int (sq_z r)] st') (v0 v1 v2 : Int) (st : sq_S) (H : wX3_isOutside v0 v1 v2 st Q) : J 0 [(0, .int (sq_z v0)), (1, .int (sq_z v1)), (2, .int (sq_z v2))] [] st := by
  unfold wX3_isOutside at H
  refine sj_iload_n (pl := 0) S dX3_isOutside_0 rfl rfl ?_
  refine sj_iload_n (pl := 1) S dX3_isOutside_1 rfl rfl ?_
  refine sj_icmp_lt (tgt := 10) S H.1 dX3_isOutside_2 (by decide) (fun c9 => ?_) (fun c9 => ?_)
  · have H := H.2.1 c9
    refine sj_iconst S dX3_isOutside_10 ?_
    refine sj_goto (tgt := 15) S dX3_isOutside_11 (by decide) ?_
    exact hret _ _ _ _ dX3_isOutside_15 H
  · have H := H.2.2 c9
    refine sj_iload_n (pl := 0) S dX3_isOutside_5 rfl rfl ?_
    refine sj_iload_n (pl := 2) S dX3_isOutside_6 rfl rfl ?_
    refine sj_icmp_le (tgt := 14) S H.1 dX3_isOutside_7 (by decide) (fun c9 => ?_) (fun c9 => ?_)
    · have H := H.2.1 c9
      refine sj_iconst S dX3_isOutside_14 ?_
      exact hret _ _ _ _ dX3_isOutside_15 H
    · have H := H.2.2 c9
      refine sj_iconst S dX3_isOutside_10 ?_
      refine sj_goto (tgt := 15) S dX3_isOutside_11 (by decide) ?_
      exact hret _ _ _ _ dX3_isOutside_15 H
set_option maxRecDepth 100000 in
set_option maxHeartbeats 4000000 in
theorem kX3_isOutside (l : Launch) (g : sq_G) (v0 v1 v2 : Int) (st : sq_S) (Q : Int → sq_S → Prop) (H : wX3_isOutside v0 v1 v2 st Q) : sq_Ci l yX3_isOutside wsX3_isOutside rX3_isOutside g sq_X [.int (sq_z v0), .int (sq_z v1), .int (sq_z v2)] st Q := by
  refine sq_in_z (cc := cX3_isOutside) (nL := 3) (own := RX3) (by decide) rfl rfl (Nat.le_of_ble_eq_true rfl) ?_
  intro J S hret
  exact tX3_isOutside_0 S hret v0 v1 v2 st H
/-! say (I)I : X3_say -/
theorem iX3_say_3 : ∀ w ∈ u_ws RX3 TX3 8, w ∈ wsX3_say := fun _ h => List.mem_cons_of_mem _ (List.mem_append_right _ h)
theorem mX3_say_9 : Cond.fieldLink RX3 9 (TX3 0).1 (TX3 0).2.1 (TX3 0).2.2.1 ∈ wsX3_say := List.mem_of_getElem? (i := 2) rfl
theorem mX3_say_41 : Cond.fieldLink RX3 41 (TX3 1).1 (TX3 1).2.1 (TX3 1).2.2.1 ∈ wsX3_say := List.mem_of_getElem? (i := 1) rfl
def wX3_say (v1 : Int) (st : sq_S) (Q : Int → sq_S → Prop) : Prop :=
  wX3_isOutside v1 33 126 st (fun r1 st2 => sq_rg r1 ∧ (r1 = 0 → (sq_rg (st2 0 1) ∧ sq_rg 48) ∧ ((st2 0 1) < 48 → sq_ib (st2 0 1) 48 ∧ (∀ st3 : sq_S, st3 = sq_set st2 1 ((st2 0 1)).toNat v1 → (∀ st4 : sq_S, st4 = sq_set st3 0 1 ((st3 0 1) + 1) → (Q (st4 0 1) st4)))) ∧ (48 ≤ (st2 0 1) → Q (-4) st2)) ∧ (¬ r1 = 0 → Q (-2) st2))
def rX3_say : Room := { frames := 1, cells := 0, slots := 0, locals := 22 }
set_option maxRecDepth 100000 in
set_option maxHeartbeats 4000000 in
theorem tX3_say_0 {l : Launch} {g : sq_G} {J : sq_K} {Q : Int → sq_S → Prop} (S : sq_J l rX3_say cX3_say 2 RX3 wsX3_say g sq_X J) (hret : ∀ (pc : Nat) (lv : List (Nat × Value)) (r : Int) (st' : sq_S), decode cX3_say pc = .ok (.ireturn, 1) → Q r st' → J pc lv [.int (sq_z r)] st') (v1 : Int) (st : sq_S) (H : wX3_say v1 st Q) : J 0 [(0, .ref (g.2.2 0)), (1, .int (sq_z v1))] [] st := by
  unfold wX3_say at H
  refine sj_iload_n (pl := 1) S dX3_say_0 rfl rfl ?_
  refine sj_bipush S dX3_say_1 (by decide +kernel) ?_
  refine sj_bipush S dX3_say_3 (by decide +kernel) ?_
  refine sj_si (rest := []) S (kX3_isOutside l g v1 33 126 st _ H) (fun s args hts => va_cwS 3 hts gX3_say_X3_isOutside rfl rfl rfl (by decide +kernel) ⟨Nat.le_of_ble_eq_true rfl, Nat.le_of_ble_eq_true rfl⟩) rfl rfl (Nat.le_of_ble_eq_true rfl) dX3_say_5 (fun r1 st2 H => ?_)
  refine sj_if_eq (tgt := 14) S H.1 dX3_say_8 (by decide) (fun c9 => ?_) (fun c9 => ?_)
  · have H := H.2.1 c9
    refine sj_aload_n (pl := 0) S dX3_say_14 rfl rfl ?_
    refine sj_geti S fX_0_1 iX3_say_3 rfl (by decide) mX3_say_41 dX3_say_15 ?_
    refine sj_bipush S dX3_say_18 (by decide +kernel) ?_
    refine sj_icmp_lt (tgt := 26) S H.1 dX3_say_20 (by decide) (fun c9 => ?_) (fun c9 => ?_)
    · have H := H.2.1 c9
      refine sj_aload_n (pl := 0) S dX3_say_26 rfl rfl ?_
      refine sj_getr S fX_0_0 iX3_say_3 rfl (by decide) mX3_say_9 dX3_say_27 ?_
      refine sj_aload_n (pl := 0) S dX3_say_30 rfl rfl ?_
      refine sj_geti S fX_0_1 iX3_say_3 rfl (by decide) mX3_say_41 dX3_say_31 ?_
      refine sj_iload_n (pl := 1) S dX3_say_34 rfl rfl ?_
      refine sj_iast S aX_1 H.1 dX3_say_35 (fun st3 est3 => ?_)
      have H := H.2 st3 est3
      refine sj_aload_n (pl := 0) S dX3_say_36 rfl rfl ?_
      refine sj_dup S dX3_say_37 rfl ?_
      refine sj_geti S fX_0_1 iX3_say_3 rfl (by decide) mX3_say_41 dX3_say_38 ?_
      refine sj_iconst S dX3_say_41 ?_
      refine sj_iadd S dX3_say_42 ?_
      refine sj_puti S fX_0_1 iX3_say_3 tyX3 tyX3_ok nmX3 rfl (by decide) mX3_say_41 rfl rfl dX3_say_43 (fun st4 est4 => ?_)
      have H := H st4 est4
      refine sj_aload_n (pl := 0) S dX3_say_46 rfl rfl ?_
      refine sj_geti S fX_0_1 iX3_say_3 rfl (by decide) mX3_say_41 dX3_say_47 ?_
      exact hret _ _ _ _ dX3_say_50 H
    · have H := H.2.2 c9
      refine sj_bipush S dX3_say_23 (by decide +kernel) ?_
      exact hret _ _ _ _ dX3_say_25 H
  · have H := H.2.2 c9
    refine sj_bipush S dX3_say_11 (by decide +kernel) ?_
    exact hret _ _ _ _ dX3_say_13 H
set_option maxRecDepth 100000 in
set_option maxHeartbeats 4000000 in
theorem kX3_say (l : Launch) (g : sq_G) (v1 : Int) (st : sq_S) (Q : Int → sq_S → Prop) (H : wX3_say v1 st Q) : sq_Ci l yX3_say wsX3_say rX3_say g sq_X [.ref (g.2.2 0), .int (sq_z v1)] st Q := by
  refine sq_in_i (cc := cX3_say) (nL := 2) (own := RX3) (by decide) rfl rfl (Nat.le_of_ble_eq_true rfl) ?_
  intro J S hret
  exact tX3_say_0 S hret v1 st H
/-! wipe ()I : X3_wipe -/
theorem iX3_wipe_3 : ∀ w ∈ u_ws RX3 TX3 8, w ∈ wsX3_wipe := fun _ h => List.mem_cons_of_mem _ (List.mem_append_right _ h)
theorem mX3_wipe_41 : Cond.fieldLink RX3 41 (TX3 1).1 (TX3 1).2.1 (TX3 1).2.2.1 ∈ wsX3_wipe := List.mem_of_getElem? (i := 1) rfl
def wX3_wipe (st : sq_S) (Q : Int → sq_S → Prop) : Prop :=
  ∀ y5 : Int, y5 = (st 0 1) → (∀ st6 : sq_S, st6 = sq_set st 0 1 0 → (Q y5 st6))
def rX3_wipe : Room := { frames := 0, cells := 0, slots := 0, locals := 0 }
set_option maxRecDepth 100000 in
set_option maxHeartbeats 4000000 in
theorem tX3_wipe_0 {l : Launch} {g : sq_G} {J : sq_K} {Q : Int → sq_S → Prop} (S : sq_J l rX3_wipe cX3_wipe 2 RX3 wsX3_wipe g sq_X J) (hret : ∀ (pc : Nat) (lv : List (Nat × Value)) (r : Int) (st' : sq_S), decode cX3_wipe pc = .ok (.ireturn, 1) → Q r st' → J pc lv [.int (sq_z r)] st') (st : sq_S) (H : wX3_wipe st Q) : J 0 [(0, .ref (g.2.2 0))] [] st := by
  unfold wX3_wipe at H
  refine sj_aload_n (pl := 0) S dX3_wipe_0 rfl rfl ?_
  refine sj_geti S fX_0_1 iX3_wipe_3 rfl (by decide) mX3_wipe_41 dX3_wipe_1 ?_
  refine sj_istore_n (lv' := [(0, .ref (g.2.2 0))]) S dX3_wipe_4 rfl (by decide) (fun _ => rfl) (fun y5 ey5 => ?_)
  have H := H y5 ey5
  refine sj_aload_n (pl := 1) S dX3_wipe_5 rfl rfl ?_
  refine sj_iconst S dX3_wipe_6 ?_
  refine sj_puti S fX_0_1 iX3_wipe_3 tyX3 tyX3_ok nmX3 rfl (by decide) mX3_wipe_41 rfl rfl dX3_wipe_7 (fun st6 est6 => ?_)
  have H := H st6 est6
  refine sj_iload_n (pl := 0) S dX3_wipe_10 rfl rfl ?_
  exact hret _ _ _ _ dX3_wipe_11 H
set_option maxRecDepth 100000 in
set_option maxHeartbeats 4000000 in
theorem kX3_wipe (l : Launch) (g : sq_G) (st : sq_S) (Q : Int → sq_S → Prop) (H : wX3_wipe  st Q) : sq_Ci l yX3_wipe wsX3_wipe rX3_wipe g sq_X [.ref (g.2.2 0)] st Q := by
  refine sq_in_i (cc := cX3_wipe) (nL := 2) (own := RX3) (by decide) rfl rfl (Nat.le_of_ble_eq_true rfl) ?_
  intro J S hret
  exact tX3_wipe_0 S hret  st H
/-! isNoLetter (I)Z : X3_isNoLetter -/
def wX3_isNoLetter (v0 : Int) (st : sq_S) (Q : Int → sq_S → Prop) : Prop :=
  wX3_isOutside v0 0 15 st (fun r9 st10 => (r9 = 0 ∨ r9 = 1) ∧ Q r9 st10)
def rX3_isNoLetter : Room := { frames := 1, cells := 0, slots := 0, locals := 22 }
set_option maxRecDepth 100000 in
set_option maxHeartbeats 4000000 in
theorem tX3_isNoLetter_0 {l : Launch} {g : sq_G} {J : sq_K} {Q : Int → sq_S → Prop} (S : sq_J l rX3_isNoLetter cX3_isNoLetter 1 RX3 wsX3_isNoLetter g sq_X J) (hret : ∀ (pc : Nat) (lv : List (Nat × Value)) (r : Int) (st' : sq_S), decode cX3_isNoLetter pc = .ok (.ireturn, 1) → (r = 0 ∨ r = 1) ∧ Q r st' → J pc lv [.int (sq_z r)] st') (v0 : Int) (st : sq_S) (H : wX3_isNoLetter v0 st Q) : J 0 [(0, .int (sq_z v0))] [] st := by
  unfold wX3_isNoLetter at H
  refine sj_iload_n (pl := 0) S dX3_isNoLetter_0 rfl rfl ?_
  refine sj_iconst S dX3_isNoLetter_1 ?_
  refine sj_bipush S dX3_isNoLetter_2 (by decide +kernel) ?_
  refine sj_si (rest := []) S (kX3_isOutside l g v0 0 15 st _ H) (fun s args hts => va_cwS 3 hts gX3_isNoLetter_X3_isOutside rfl rfl rfl (by decide +kernel) ⟨Nat.le_of_ble_eq_true rfl, Nat.le_of_ble_eq_true rfl⟩) rfl rfl (Nat.le_of_ble_eq_true rfl) dX3_isNoLetter_4 (fun r9 st10 H => ?_)
  exact hret _ _ _ _ dX3_isNoLetter_7 H
set_option maxRecDepth 100000 in
set_option maxHeartbeats 4000000 in
theorem kX3_isNoLetter (l : Launch) (g : sq_G) (v0 : Int) (st : sq_S) (Q : Int → sq_S → Prop) (H : wX3_isNoLetter v0 st Q) : sq_Ci l yX3_isNoLetter wsX3_isNoLetter rX3_isNoLetter g sq_X [.int (sq_z v0)] st Q := by
  refine sq_in_z (cc := cX3_isNoLetter) (nL := 1) (own := RX3) (by decide) rfl rfl (Nat.le_of_ble_eq_true rfl) ?_
  intro J S hret
  exact tX3_isNoLetter_0 S hret v0 st H
/-! padHasOnlyLetters ()Z : X3_padHasOnlyLetters -/
theorem iX3_padHasOnlyLetters_3 : ∀ w ∈ u_ws RX3 TX3 8, w ∈ wsX3_padHasOnlyLetters := fun _ h => List.mem_cons_of_mem _ (List.mem_append_right _ h)
theorem mX3_padHasOnlyLetters_9 : Cond.fieldLink RX3 9 (TX3 0).1 (TX3 0).2.1 (TX3 0).2.2.1 ∈ wsX3_padHasOnlyLetters := List.mem_of_getElem? (i := 2) rfl
theorem mX3_padHasOnlyLetters_41 : Cond.fieldLink RX3 41 (TX3 1).1 (TX3 1).2.1 (TX3 1).2.2.1 ∈ wsX3_padHasOnlyLetters := List.mem_of_getElem? (i := 1) rfl
def bX3_padHasOnlyLetters_2 (K2 : Int → sq_S → Prop) (Q : Int → sq_S → Prop) (v1 : Int) (st : sq_S) : Prop :=
  (sq_rg v1 ∧ sq_rg (st 0 1)) ∧ ((st 0 1) ≤ v1 → ((1 : Int) = 0 ∨ (1 : Int) = 1) ∧ Q 1 st) ∧ (v1 < (st 0 1) → sq_ib v1 48 ∧ (wX3_isNoLetter ((st 1 v1.toNat) - 97) st (fun r11 st12 => sq_rg r11 ∧ (r11 = 0 → K2 (v1 + 1) st12) ∧ (¬ r11 = 0 → ((0 : Int) = 0 ∨ (0 : Int) = 1) ∧ Q 0 st12))))
def bX3_padHasOnlyLetters_0 (K2 : Int → sq_S → Prop) (Q : Int → sq_S → Prop) (st : sq_S) : Prop :=
  K2 0 st
def wX3_padHasOnlyLetters (st : sq_S) (Q : Int → sq_S → Prop) : Prop :=
  ∀ (K2 : Int → sq_S → Prop), (∀ (v1 : Int) (st : sq_S), bX3_padHasOnlyLetters_2 K2 Q v1 st → K2 v1 st) → bX3_padHasOnlyLetters_0 K2 Q  st
def rX3_padHasOnlyLetters : Room := { frames := 2, cells := 0, slots := 0, locals := 42 }
def qX3_padHasOnlyLetters_2 (J : sq_K) (g : sq_G) : Int → sq_S → Prop := fun v1 st => J 2 [(0, .ref (g.2.2 0)), (1, .int (sq_z v1))] [] st
set_option maxRecDepth 100000 in
set_option maxHeartbeats 4000000 in
theorem tX3_padHasOnlyLetters_2 {l : Launch} {g : sq_G} {J : sq_K} {Q : Int → sq_S → Prop} (S : sq_J l rX3_padHasOnlyLetters cX3_padHasOnlyLetters 2 RX3 wsX3_padHasOnlyLetters g sq_X J) (hret : ∀ (pc : Nat) (lv : List (Nat × Value)) (r : Int) (st' : sq_S), decode cX3_padHasOnlyLetters pc = .ok (.ireturn, 1) → (r = 0 ∨ r = 1) ∧ Q r st' → J pc lv [.int (sq_z r)] st') (v1 : Int) (st : sq_S) (H : bX3_padHasOnlyLetters_2 (qX3_padHasOnlyLetters_2 J g) Q v1 st) : J 2 [(0, .ref (g.2.2 0)), (1, .int (sq_z v1))] [] st := by
  unfold bX3_padHasOnlyLetters_2 at H
  refine sj_iload_n (pl := 1) S dX3_padHasOnlyLetters_2 rfl rfl ?_
  refine sj_aload_n (pl := 0) S dX3_padHasOnlyLetters_3 rfl rfl ?_
  refine sj_geti S fX_0_1 iX3_padHasOnlyLetters_3 rfl (by decide) mX3_padHasOnlyLetters_41 dX3_padHasOnlyLetters_4 ?_
  refine sj_icmp_ge (tgt := 33) S H.1 dX3_padHasOnlyLetters_7 (by decide) (fun c9 => ?_) (fun c9 => ?_)
  · have H := H.2.1 c9
    refine sj_iconst S dX3_padHasOnlyLetters_33 ?_
    exact hret _ _ _ _ dX3_padHasOnlyLetters_34 H
  · have H := H.2.2 c9
    refine sj_aload_n (pl := 0) S dX3_padHasOnlyLetters_10 rfl rfl ?_
    refine sj_getr S fX_0_0 iX3_padHasOnlyLetters_3 rfl (by decide) mX3_padHasOnlyLetters_9 dX3_padHasOnlyLetters_11 ?_
    refine sj_iload_n (pl := 1) S dX3_padHasOnlyLetters_14 rfl rfl ?_
    refine sj_iald S aX_1 H.1 dX3_padHasOnlyLetters_15 ?_
    have H := H.2
    refine sj_bipush S dX3_padHasOnlyLetters_16 (by decide +kernel) ?_
    refine sj_isub S dX3_padHasOnlyLetters_18 ?_
    refine sj_si (rest := []) S (kX3_isNoLetter l g ((st 1 v1.toNat) - 97) st _ H) (fun s args hts => va_cwS 1 hts gX3_padHasOnlyLetters_X3_isNoLetter rfl rfl rfl (by decide +kernel) ⟨Nat.le_of_ble_eq_true rfl, Nat.le_of_ble_eq_true rfl⟩) rfl rfl (Nat.le_of_ble_eq_true rfl) dX3_padHasOnlyLetters_19 (fun r11 st12 H => ?_)
    refine sj_if_eq (tgt := 27) S H.1 dX3_padHasOnlyLetters_22 (by decide) (fun c9 => ?_) (fun c9 => ?_)
    · have H := H.2.1 c9
      refine sj_iinc (pl := 1) (lv' := [(0, .ref (g.2.2 0))]) S dX3_padHasOnlyLetters_27 rfl (by decide) (fun _ => rfl) ?_
      refine sj_goto (tgt := 2) S dX3_padHasOnlyLetters_30 (by decide) ?_
      exact sj_lv S [1, 0] rfl H
    · have H := H.2.2 c9
      refine sj_iconst S dX3_padHasOnlyLetters_25 ?_
      exact hret _ _ _ _ dX3_padHasOnlyLetters_26 H
set_option maxRecDepth 100000 in
set_option maxHeartbeats 4000000 in
theorem tX3_padHasOnlyLetters_0 {l : Launch} {g : sq_G} {J : sq_K} {Q : Int → sq_S → Prop} (S : sq_J l rX3_padHasOnlyLetters cX3_padHasOnlyLetters 2 RX3 wsX3_padHasOnlyLetters g sq_X J) (hret : ∀ (pc : Nat) (lv : List (Nat × Value)) (r : Int) (st' : sq_S), decode cX3_padHasOnlyLetters pc = .ok (.ireturn, 1) → (r = 0 ∨ r = 1) ∧ Q r st' → J pc lv [.int (sq_z r)] st') (st : sq_S) (H : bX3_padHasOnlyLetters_0 (qX3_padHasOnlyLetters_2 J g) Q st) : J 0 [(0, .ref (g.2.2 0))] [] st := by
  unfold bX3_padHasOnlyLetters_0 at H
  refine sj_iconst S dX3_padHasOnlyLetters_0 ?_
  refine sj_istore_na (lv' := [(0, .ref (g.2.2 0))]) S dX3_padHasOnlyLetters_1 rfl (by decide) (fun _ => rfl) ?_
  exact sj_lv S [1, 0] rfl H
set_option maxRecDepth 100000 in
set_option maxHeartbeats 4000000 in
theorem kX3_padHasOnlyLetters (l : Launch) (g : sq_G) (st : sq_S) (Q : Int → sq_S → Prop) (H : wX3_padHasOnlyLetters  st Q) : sq_Ci l yX3_padHasOnlyLetters wsX3_padHasOnlyLetters rX3_padHasOnlyLetters g sq_X [.ref (g.2.2 0)] st Q := by
  refine sq_in_z (cc := cX3_padHasOnlyLetters) (nL := 2) (own := RX3) (by decide) rfl rfl (Nat.le_of_ble_eq_true rfl) ?_
  intro J S hret
  exact tX3_padHasOnlyLetters_0 S hret  st (H (qX3_padHasOnlyLetters_2 J g) (tX3_padHasOnlyLetters_2 S hret))
/-! readPadInto ([I)V : X3_readPadInto_4 -/
theorem iX3_readPadInto_3 : ∀ w ∈ u_ws RX3 TX3 8, w ∈ wsX3_readPadInto := fun _ h => List.mem_cons_of_mem _ (List.mem_append_right _ h)
theorem mX3_readPadInto_9 : Cond.fieldLink RX3 9 (TX3 0).1 (TX3 0).2.1 (TX3 0).2.2.1 ∈ wsX3_readPadInto := List.mem_of_getElem? (i := 2) rfl
theorem mX3_readPadInto_41 : Cond.fieldLink RX3 41 (TX3 1).1 (TX3 1).2.1 (TX3 1).2.2.1 ∈ wsX3_readPadInto := List.mem_of_getElem? (i := 1) rfl
def bX3_readPadInto_4_2 (K2 : Int → sq_S → Prop) (Q : Int → sq_S → Prop) (v2 : Int) (st : sq_S) : Prop :=
  (sq_rg v2 ∧ sq_rg (st 0 1)) ∧ ((st 0 1) ≤ v2 → Q 0 st) ∧ (v2 < (st 0 1) → (sq_rg v2 ∧ sq_rg 6) ∧ (6 ≤ v2 → Q 0 st) ∧ (v2 < 6 → sq_ib v2 48 ∧ (sq_ib v2 6 ∧ (∀ st17 : sq_S, st17 = sq_set st 4 v2.toNat ((st 1 v2.toNat) - 97) → (K2 (v2 + 1) st17)))))
def bX3_readPadInto_4_0 (K2 : Int → sq_S → Prop) (Q : Int → sq_S → Prop) (st : sq_S) : Prop :=
  K2 0 st
def wX3_readPadInto_4 (st : sq_S) (Q : Int → sq_S → Prop) : Prop :=
  ∀ (K2 : Int → sq_S → Prop), (∀ (v2 : Int) (st : sq_S), bX3_readPadInto_4_2 K2 Q v2 st → K2 v2 st) → bX3_readPadInto_4_0 K2 Q  st
def rX3_readPadInto_4 : Room := { frames := 0, cells := 0, slots := 0, locals := 0 }
def qX3_readPadInto_4_2 (J : sq_K) (g : sq_G) : Int → sq_S → Prop := fun v2 st => J 2 [(0, .ref (g.2.2 0)), (1, .ref (g.2.2 4)), (2, .int (sq_z v2))] [] st
set_option maxRecDepth 100000 in
set_option maxHeartbeats 4000000 in
theorem tX3_readPadInto_4_2 {l : Launch} {g : sq_G} {J : sq_K} {Q : Int → sq_S → Prop} (S : sq_J l rX3_readPadInto_4 cX3_readPadInto 3 RX3 wsX3_readPadInto g sq_X J) (hret : ∀ (pc : Nat) (lv : List (Nat × Value)) (st' : sq_S), decode cX3_readPadInto pc = .ok (.return_, 1) → Q 0 st' → J pc lv [] st') (v2 : Int) (st : sq_S) (H : bX3_readPadInto_4_2 (qX3_readPadInto_4_2 J g) Q v2 st) : J 2 [(0, .ref (g.2.2 0)), (1, .ref (g.2.2 4)), (2, .int (sq_z v2))] [] st := by
  unfold bX3_readPadInto_4_2 at H
  refine sj_iload_n (pl := 2) S dX3_readPadInto_2 rfl rfl ?_
  refine sj_aload_n (pl := 0) S dX3_readPadInto_3 rfl rfl ?_
  refine sj_geti S fX_0_1 iX3_readPadInto_3 rfl (by decide) mX3_readPadInto_41 dX3_readPadInto_4 ?_
  refine sj_icmp_ge (tgt := 34) S H.1 dX3_readPadInto_7 (by decide) (fun c9 => ?_) (fun c9 => ?_)
  · have H := H.2.1 c9
    exact hret _ _ _ dX3_readPadInto_34 H
  · have H := H.2.2 c9
    refine sj_iload_n (pl := 2) S dX3_readPadInto_10 rfl rfl ?_
    refine sj_aload_n (pl := 1) S dX3_readPadInto_11 rfl rfl ?_
    refine sj_alen S aX_4 dX3_readPadInto_12 ?_
    refine sj_icmp_ge (tgt := 34) S H.1 dX3_readPadInto_13 (by decide) (fun c9 => ?_) (fun c9 => ?_)
    · have H := H.2.1 c9
      exact hret _ _ _ dX3_readPadInto_34 H
    · have H := H.2.2 c9
      refine sj_aload_n (pl := 1) S dX3_readPadInto_16 rfl rfl ?_
      refine sj_iload_n (pl := 2) S dX3_readPadInto_17 rfl rfl ?_
      refine sj_aload_n (pl := 0) S dX3_readPadInto_18 rfl rfl ?_
      refine sj_getr S fX_0_0 iX3_readPadInto_3 rfl (by decide) mX3_readPadInto_9 dX3_readPadInto_19 ?_
      refine sj_iload_n (pl := 2) S dX3_readPadInto_22 rfl rfl ?_
      refine sj_iald S aX_1 H.1 dX3_readPadInto_23 ?_
      have H := H.2
      refine sj_bipush S dX3_readPadInto_24 (by decide +kernel) ?_
      refine sj_isub S dX3_readPadInto_26 ?_
      refine sj_iast S aX_4 H.1 dX3_readPadInto_27 (fun st17 est17 => ?_)
      have H := H.2 st17 est17
      refine sj_iinc (pl := 2) (lv' := [(0, .ref (g.2.2 0)), (1, .ref (g.2.2 4))]) S dX3_readPadInto_28 rfl (by decide) (fun _ => rfl) ?_
      refine sj_goto (tgt := 2) S dX3_readPadInto_31 (by decide) ?_
      exact sj_lv S [1, 2, 0] rfl H
set_option maxRecDepth 100000 in
set_option maxHeartbeats 4000000 in
theorem tX3_readPadInto_4_0 {l : Launch} {g : sq_G} {J : sq_K} {Q : Int → sq_S → Prop} (S : sq_J l rX3_readPadInto_4 cX3_readPadInto 3 RX3 wsX3_readPadInto g sq_X J) (hret : ∀ (pc : Nat) (lv : List (Nat × Value)) (st' : sq_S), decode cX3_readPadInto pc = .ok (.return_, 1) → Q 0 st' → J pc lv [] st') (st : sq_S) (H : bX3_readPadInto_4_0 (qX3_readPadInto_4_2 J g) Q st) : J 0 [(0, .ref (g.2.2 0)), (1, .ref (g.2.2 4))] [] st := by
  unfold bX3_readPadInto_4_0 at H
  refine sj_iconst S dX3_readPadInto_0 ?_
  refine sj_istore_na (lv' := [(0, .ref (g.2.2 0)), (1, .ref (g.2.2 4))]) S dX3_readPadInto_1 rfl (by decide) (fun _ => rfl) ?_
  exact sj_lv S [1, 2, 0] rfl H
set_option maxRecDepth 100000 in
set_option maxHeartbeats 4000000 in
theorem kX3_readPadInto_4 (l : Launch) (g : sq_G) (st : sq_S) (Q : Int → sq_S → Prop) (H : wX3_readPadInto_4  st Q) : sq_Cv l yX3_readPadInto wsX3_readPadInto rX3_readPadInto_4 g sq_X [.ref (g.2.2 0), .ref (g.2.2 4)] st Q := by
  refine sq_in_v (cc := cX3_readPadInto) (nL := 3) (own := RX3) (by decide) rfl rfl (Nat.le_of_ble_eq_true rfl) ?_
  intro J S hret
  exact tX3_readPadInto_4_0 S hret  st (H (qX3_readPadInto_4_2 J g) (tX3_readPadInto_4_2 S hret))
/-! readPadInto ([I)V : X3_readPadInto_3 -/
def bX3_readPadInto_3_2 (K2 : Int → sq_S → Prop) (Q : Int → sq_S → Prop) (v2 : Int) (st : sq_S) : Prop :=
  (sq_rg v2 ∧ sq_rg (st 0 1)) ∧ ((st 0 1) ≤ v2 → Q 0 st) ∧ (v2 < (st 0 1) → (sq_rg v2 ∧ sq_rg 48) ∧ (48 ≤ v2 → Q 0 st) ∧ (v2 < 48 → sq_ib v2 48 ∧ (sq_ib v2 48 ∧ (∀ st22 : sq_S, st22 = sq_set st 3 v2.toNat ((st 1 v2.toNat) - 97) → (K2 (v2 + 1) st22)))))
def bX3_readPadInto_3_0 (K2 : Int → sq_S → Prop) (Q : Int → sq_S → Prop) (st : sq_S) : Prop :=
  K2 0 st
def wX3_readPadInto_3 (st : sq_S) (Q : Int → sq_S → Prop) : Prop :=
  ∀ (K2 : Int → sq_S → Prop), (∀ (v2 : Int) (st : sq_S), bX3_readPadInto_3_2 K2 Q v2 st → K2 v2 st) → bX3_readPadInto_3_0 K2 Q  st
def rX3_readPadInto_3 : Room := { frames := 0, cells := 0, slots := 0, locals := 0 }
def qX3_readPadInto_3_2 (J : sq_K) (g : sq_G) : Int → sq_S → Prop := fun v2 st => J 2 [(0, .ref (g.2.2 0)), (1, .ref (g.2.2 3)), (2, .int (sq_z v2))] [] st
set_option maxRecDepth 100000 in
set_option maxHeartbeats 4000000 in
theorem tX3_readPadInto_3_2 {l : Launch} {g : sq_G} {J : sq_K} {Q : Int → sq_S → Prop} (S : sq_J l rX3_readPadInto_3 cX3_readPadInto 3 RX3 wsX3_readPadInto g sq_X J) (hret : ∀ (pc : Nat) (lv : List (Nat × Value)) (st' : sq_S), decode cX3_readPadInto pc = .ok (.return_, 1) → Q 0 st' → J pc lv [] st') (v2 : Int) (st : sq_S) (H : bX3_readPadInto_3_2 (qX3_readPadInto_3_2 J g) Q v2 st) : J 2 [(0, .ref (g.2.2 0)), (1, .ref (g.2.2 3)), (2, .int (sq_z v2))] [] st := by
  unfold bX3_readPadInto_3_2 at H
  refine sj_iload_n (pl := 2) S dX3_readPadInto_2 rfl rfl ?_
  refine sj_aload_n (pl := 0) S dX3_readPadInto_3 rfl rfl ?_
  refine sj_geti S fX_0_1 iX3_readPadInto_3 rfl (by decide) mX3_readPadInto_41 dX3_readPadInto_4 ?_
  refine sj_icmp_ge (tgt := 34) S H.1 dX3_readPadInto_7 (by decide) (fun c9 => ?_) (fun c9 => ?_)
  · have H := H.2.1 c9
    exact hret _ _ _ dX3_readPadInto_34 H
  · have H := H.2.2 c9
    refine sj_iload_n (pl := 2) S dX3_readPadInto_10 rfl rfl ?_
    refine sj_aload_n (pl := 1) S dX3_readPadInto_11 rfl rfl ?_
    refine sj_alen S aX_3 dX3_readPadInto_12 ?_
    refine sj_icmp_ge (tgt := 34) S H.1 dX3_readPadInto_13 (by decide) (fun c9 => ?_) (fun c9 => ?_)
    · have H := H.2.1 c9
      exact hret _ _ _ dX3_readPadInto_34 H
    · have H := H.2.2 c9
      refine sj_aload_n (pl := 1) S dX3_readPadInto_16 rfl rfl ?_
      refine sj_iload_n (pl := 2) S dX3_readPadInto_17 rfl rfl ?_
      refine sj_aload_n (pl := 0) S dX3_readPadInto_18 rfl rfl ?_
      refine sj_getr S fX_0_0 iX3_readPadInto_3 rfl (by decide) mX3_readPadInto_9 dX3_readPadInto_19 ?_
      refine sj_iload_n (pl := 2) S dX3_readPadInto_22 rfl rfl ?_
      refine sj_iald S aX_1 H.1 dX3_readPadInto_23 ?_
      have H := H.2
      refine sj_bipush S dX3_readPadInto_24 (by decide +kernel) ?_
      refine sj_isub S dX3_readPadInto_26 ?_
      refine sj_iast S aX_3 H.1 dX3_readPadInto_27 (fun st22 est22 => ?_)
      have H := H.2 st22 est22
      refine sj_iinc (pl := 2) (lv' := [(0, .ref (g.2.2 0)), (1, .ref (g.2.2 3))]) S dX3_readPadInto_28 rfl (by decide) (fun _ => rfl) ?_
      refine sj_goto (tgt := 2) S dX3_readPadInto_31 (by decide) ?_
      exact sj_lv S [1, 2, 0] rfl H
set_option maxRecDepth 100000 in
set_option maxHeartbeats 4000000 in
theorem tX3_readPadInto_3_0 {l : Launch} {g : sq_G} {J : sq_K} {Q : Int → sq_S → Prop} (S : sq_J l rX3_readPadInto_3 cX3_readPadInto 3 RX3 wsX3_readPadInto g sq_X J) (hret : ∀ (pc : Nat) (lv : List (Nat × Value)) (st' : sq_S), decode cX3_readPadInto pc = .ok (.return_, 1) → Q 0 st' → J pc lv [] st') (st : sq_S) (H : bX3_readPadInto_3_0 (qX3_readPadInto_3_2 J g) Q st) : J 0 [(0, .ref (g.2.2 0)), (1, .ref (g.2.2 3))] [] st := by
  unfold bX3_readPadInto_3_0 at H
  refine sj_iconst S dX3_readPadInto_0 ?_
  refine sj_istore_na (lv' := [(0, .ref (g.2.2 0)), (1, .ref (g.2.2 3))]) S dX3_readPadInto_1 rfl (by decide) (fun _ => rfl) ?_
  exact sj_lv S [1, 2, 0] rfl H
set_option maxRecDepth 100000 in
set_option maxHeartbeats 4000000 in
theorem kX3_readPadInto_3 (l : Launch) (g : sq_G) (st : sq_S) (Q : Int → sq_S → Prop) (H : wX3_readPadInto_3  st Q) : sq_Cv l yX3_readPadInto wsX3_readPadInto rX3_readPadInto_3 g sq_X [.ref (g.2.2 0), .ref (g.2.2 3)] st Q := by
  refine sq_in_v (cc := cX3_readPadInto) (nL := 3) (own := RX3) (by decide) rfl rfl (Nat.le_of_ble_eq_true rfl) ?_
  intro J S hret
  exact tX3_readPadInto_3_0 S hret  st (H (qX3_readPadInto_3_2 J g) (tX3_readPadInto_3_2 S hret))
/-! take (I)I : X3_take -/
theorem iX3_take_0 : ∀ w ∈ u_ws RX0 TX0 9, w ∈ wsX3_take := fun _ h => List.mem_cons_of_mem _ (List.mem_append_right _ h)
theorem iX3_take_3 : ∀ w ∈ u_ws RX3 TX3 8, w ∈ wsX3_take := fun _ h => List.mem_cons_of_mem _ (List.mem_append_left _ (List.mem_append_right _ h))
theorem mX3_take_16 : Cond.fieldLink RX3 16 (TX3 2).1 (TX3 2).2.1 (TX3 2).2.2.1 ∈ wsX3_take := List.mem_of_getElem? (i := 2) rfl
theorem mX3_take_41 : Cond.fieldLink RX3 41 (TX3 1).1 (TX3 1).2.1 (TX3 1).2.2.1 ∈ wsX3_take := List.mem_of_getElem? (i := 1) rfl
theorem mX3_take_49 : Cond.fieldLink RX3 49 (TX0 0).1 (TX0 0).2.1 (TX0 0).2.2.1 ∈ wsX3_take := List.mem_of_getElem? (i := 3) rfl
theorem mX3_take_56 : Cond.fieldLink RX3 56 (TX0 1).1 (TX0 1).2.1 (TX0 1).2.2.1 ∈ wsX3_take := List.mem_of_getElem? (i := 4) rfl
theorem mX3_take_59 : Cond.fieldLink RX3 59 (TX0 2).1 (TX0 2).2.1 (TX0 2).2.2.1 ∈ wsX3_take := List.mem_of_getElem? (i := 5) rfl
theorem mX3_take_62 : Cond.fieldLink RX3 62 (TX0 3).1 (TX0 3).2.1 (TX0 3).2.2.1 ∈ wsX3_take := List.mem_of_getElem? (i := 6) rfl
def bX3_take_40 (K40 : Int → sq_S → Prop) (Q : Int → sq_S → Prop) (v1 : Int) (st : sq_S) : Prop :=
  sq_rg v1 ∧ (¬ v1 = 0 → wX3_readPadInto_4 st (fun _ st18 => ∀ st19 : sq_S, st19 = sq_set st18 2 3 (st18 0 1) → (wX3_wipe st19 (fun r20 st21 => Q r20 st21)))) ∧ (v1 = 0 → wX3_readPadInto_3 st (fun _ st23 => ∀ st24 : sq_S, st24 = sq_set st23 2 1 (st23 0 1) → (wX3_wipe st24 (fun r25 st26 => Q r25 st26))))
def bX3_take_0 (K40 : Int → sq_S → Prop) (Q : Int → sq_S → Prop) (v1 : Int) (st : sq_S) : Prop :=
  wX3_isOutside v1 0 1 st (fun r7 st8 => sq_rg r7 ∧ (r7 = 0 → wX3_padHasOnlyLetters st8 (fun r13 st14 => sq_rg r13 ∧ (r13 = 0 → Q (-7) st14) ∧ (¬ r13 = 0 → (sq_rg v1 ∧ sq_rg 1) ∧ (¬ v1 = 1 → K40 v1 st14) ∧ (v1 = 1 → wX3_isOutside (st14 0 1) 1 6 st14 (fun r15 st16 => sq_rg r15 ∧ (r15 = 0 → K40 v1 st16) ∧ (¬ r15 = 0 → Q (-7) st16)))))) ∧ (¬ r7 = 0 → Q (-2) st8))
def wX3_take (v1 : Int) (st : sq_S) (Q : Int → sq_S → Prop) : Prop :=
  ∀ (K40 : Int → sq_S → Prop), (∀ (v1 : Int) (st : sq_S), bX3_take_40 K40 Q v1 st → K40 v1 st) → bX3_take_0 K40 Q v1 st
def rX3_take : Room := { frames := 3, cells := 0, slots := 0, locals := 63 }
def qX3_take_40 (J : sq_K) (g : sq_G) : Int → sq_S → Prop := fun v1 st => J 40 [(0, .ref (g.2.2 0)), (1, .int (sq_z v1))] [] st
set_option maxRecDepth 100000 in
set_option maxHeartbeats 4000000 in
theorem tX3_take_40 {l : Launch} {g : sq_G} {J : sq_K} {Q : Int → sq_S → Prop} (S : sq_J l rX3_take cX3_take 2 RX3 wsX3_take g sq_X J) (hret : ∀ (pc : Nat) (lv : List (Nat × Value)) (r : Int) (st' : sq_S), decode cX3_take pc = .ok (.ireturn, 1) → Q r st' → J pc lv [.int (sq_z r)] st') (v1 : Int) (st : sq_S) (H : bX3_take_40 (qX3_take_40 J g) Q v1 st) : J 40 [(0, .ref (g.2.2 0)), (1, .int (sq_z v1))] [] st := by
  unfold bX3_take_40 at H
  refine sj_iload_n (pl := 1) S dX3_take_40 rfl rfl ?_
  refine sj_if_ne (tgt := 69) S H.1 dX3_take_41 (by decide) (fun c9 => ?_) (fun c9 => ?_)
  · have H := H.2.1 c9
    refine sj_aload_n (pl := 0) S dX3_take_69 rfl rfl ?_
    refine sj_aload_n (pl := 0) S dX3_take_70 rfl rfl ?_
    refine sj_getr S fX_0_2 iX3_take_3 rfl (by decide) mX3_take_16 dX3_take_71 ?_
    refine sj_getr S fX_2_2 iX3_take_0 rfl (by decide) mX3_take_59 dX3_take_74 ?_
    refine sj_vv (rest := []) (q0 := 0) (ci := 3) S (kX3_readPadInto_4 l g st _ H) (fun s args hts => cwV 1 hts gX3_take_X3_readPadInto rfl rfl rfl (by decide +kernel) ⟨Nat.le_of_ble_eq_true rfl, Nat.le_of_ble_eq_true rfl⟩) rfl rfl rfl rfl (Nat.le_of_ble_eq_true rfl) dX3_take_77 (fun st18 H => ?_)
    refine sj_aload_n (pl := 0) S dX3_take_80 rfl rfl ?_
    refine sj_getr S fX_0_2 iX3_take_3 rfl (by decide) mX3_take_16 dX3_take_81 ?_
    refine sj_aload_n (pl := 0) S dX3_take_84 rfl rfl ?_
    refine sj_geti S fX_0_1 iX3_take_3 rfl (by decide) mX3_take_41 dX3_take_85 ?_
    refine sj_puti S fX_2_3 iX3_take_0 tyX0 tyX0_ok nmX0 rfl (by decide) mX3_take_62 rfl rfl dX3_take_88 (fun st19 est19 => ?_)
    have H := H st19 est19
    refine sj_aload_n (pl := 0) S dX3_take_91 rfl rfl ?_
    refine sj_vi (rest := []) (q0 := 0) (ci := 3) S (kX3_wipe l g st19 _ H) (fun s args hts => cwV 0 hts gX3_take_X3_wipe rfl rfl rfl (by decide +kernel) ⟨Nat.le_of_ble_eq_true rfl, Nat.le_of_ble_eq_true rfl⟩) rfl rfl rfl rfl (Nat.le_of_ble_eq_true rfl) dX3_take_92 (fun r20 st21 H => ?_)
    exact hret _ _ _ _ dX3_take_95 H
  · have H := H.2.2 c9
    refine sj_aload_n (pl := 0) S dX3_take_44 rfl rfl ?_
    refine sj_aload_n (pl := 0) S dX3_take_45 rfl rfl ?_
    refine sj_getr S fX_0_2 iX3_take_3 rfl (by decide) mX3_take_16 dX3_take_46 ?_
    refine sj_getr S fX_2_0 iX3_take_0 rfl (by decide) mX3_take_49 dX3_take_49 ?_
    refine sj_vv (rest := []) (q0 := 0) (ci := 3) S (kX3_readPadInto_3 l g st _ H) (fun s args hts => cwV 1 hts gX3_take_X3_readPadInto rfl rfl rfl (by decide +kernel) ⟨Nat.le_of_ble_eq_true rfl, Nat.le_of_ble_eq_true rfl⟩) rfl rfl rfl rfl (Nat.le_of_ble_eq_true rfl) dX3_take_52 (fun st23 H => ?_)
    refine sj_aload_n (pl := 0) S dX3_take_55 rfl rfl ?_
    refine sj_getr S fX_0_2 iX3_take_3 rfl (by decide) mX3_take_16 dX3_take_56 ?_
    refine sj_aload_n (pl := 0) S dX3_take_59 rfl rfl ?_
    refine sj_geti S fX_0_1 iX3_take_3 rfl (by decide) mX3_take_41 dX3_take_60 ?_
    refine sj_puti S fX_2_1 iX3_take_0 tyX0 tyX0_ok nmX0 rfl (by decide) mX3_take_56 rfl rfl dX3_take_63 (fun st24 est24 => ?_)
    have H := H st24 est24
    refine sj_goto (tgt := 91) S dX3_take_66 (by decide) ?_
    refine sj_aload_n (pl := 0) S dX3_take_91 rfl rfl ?_
    refine sj_vi (rest := []) (q0 := 0) (ci := 3) S (kX3_wipe l g st24 _ H) (fun s args hts => cwV 0 hts gX3_take_X3_wipe rfl rfl rfl (by decide +kernel) ⟨Nat.le_of_ble_eq_true rfl, Nat.le_of_ble_eq_true rfl⟩) rfl rfl rfl rfl (Nat.le_of_ble_eq_true rfl) dX3_take_92 (fun r25 st26 H => ?_)
    exact hret _ _ _ _ dX3_take_95 H
set_option maxRecDepth 100000 in
set_option maxHeartbeats 4000000 in
theorem tX3_take_0 {l : Launch} {g : sq_G} {J : sq_K} {Q : Int → sq_S → Prop} (S : sq_J l rX3_take cX3_take 2 RX3 wsX3_take g sq_X J) (hret : ∀ (pc : Nat) (lv : List (Nat × Value)) (r : Int) (st' : sq_S), decode cX3_take pc = .ok (.ireturn, 1) → Q r st' → J pc lv [.int (sq_z r)] st') (v1 : Int) (st : sq_S) (H : bX3_take_0 (qX3_take_40 J g) Q v1 st) : J 0 [(0, .ref (g.2.2 0)), (1, .int (sq_z v1))] [] st := by
  unfold bX3_take_0 at H
  refine sj_iload_n (pl := 1) S dX3_take_0 rfl rfl ?_
  refine sj_iconst S dX3_take_1 ?_
  refine sj_iconst S dX3_take_2 ?_
  refine sj_si (rest := []) S (kX3_isOutside l g v1 0 1 st _ H) (fun s args hts => va_cwS 3 hts gX3_take_X3_isOutside rfl rfl rfl (by decide +kernel) ⟨Nat.le_of_ble_eq_true rfl, Nat.le_of_ble_eq_true rfl⟩) rfl rfl (Nat.le_of_ble_eq_true rfl) dX3_take_3 (fun r7 st8 H => ?_)
  refine sj_if_eq (tgt := 12) S H.1 dX3_take_6 (by decide) (fun c9 => ?_) (fun c9 => ?_)
  · have H := H.2.1 c9
    refine sj_aload_n (pl := 0) S dX3_take_12 rfl rfl ?_
    refine sj_vi (rest := []) (q0 := 0) (ci := 3) S (kX3_padHasOnlyLetters l g st8 _ H) (fun s args hts => cwV 0 hts gX3_take_X3_padHasOnlyLetters rfl rfl rfl (by decide +kernel) ⟨Nat.le_of_ble_eq_true rfl, Nat.le_of_ble_eq_true rfl⟩) rfl rfl rfl rfl (Nat.le_of_ble_eq_true rfl) dX3_take_13 (fun r13 st14 H => ?_)
    refine sj_if_eq (tgt := 37) S H.1 dX3_take_16 (by decide) (fun c9 => ?_) (fun c9 => ?_)
    · have H := H.2.1 c9
      refine sj_bipush S dX3_take_37 (by decide +kernel) ?_
      exact hret _ _ _ _ dX3_take_39 H
    · have H := H.2.2 c9
      refine sj_iload_n (pl := 1) S dX3_take_19 rfl rfl ?_
      refine sj_iconst S dX3_take_20 ?_
      refine sj_icmp_ne (tgt := 40) S H.1 dX3_take_21 (by decide) (fun c9 => ?_) (fun c9 => ?_)
      · have H := H.2.1 c9
        exact sj_lv S [0, 1] rfl H
      · have H := H.2.2 c9
        refine sj_aload_n (pl := 0) S dX3_take_24 rfl rfl ?_
        refine sj_geti S fX_0_1 iX3_take_3 rfl (by decide) mX3_take_41 dX3_take_25 ?_
        refine sj_iconst S dX3_take_28 ?_
        refine sj_bipush S dX3_take_29 (by decide +kernel) ?_
        refine sj_si (rest := []) S (kX3_isOutside l g (st14 0 1) 1 6 st14 _ H) (fun s args hts => va_cwS 3 hts gX3_take_X3_isOutside rfl rfl rfl (by decide +kernel) ⟨Nat.le_of_ble_eq_true rfl, Nat.le_of_ble_eq_true rfl⟩) rfl rfl (Nat.le_of_ble_eq_true rfl) dX3_take_31 (fun r15 st16 H => ?_)
        refine sj_if_eq (tgt := 40) S H.1 dX3_take_34 (by decide) (fun c9 => ?_) (fun c9 => ?_)
        · have H := H.2.1 c9
          exact sj_lv S [0, 1] rfl H
        · have H := H.2.2 c9
          refine sj_bipush S dX3_take_37 (by decide +kernel) ?_
          exact hret _ _ _ _ dX3_take_39 H
  · have H := H.2.2 c9
    refine sj_bipush S dX3_take_9 (by decide +kernel) ?_
    exact hret _ _ _ _ dX3_take_11 H
set_option maxRecDepth 100000 in
set_option maxHeartbeats 4000000 in
theorem kX3_take (l : Launch) (g : sq_G) (v1 : Int) (st : sq_S) (Q : Int → sq_S → Prop) (H : wX3_take v1 st Q) : sq_Ci l yX3_take wsX3_take rX3_take g sq_X [.ref (g.2.2 0), .int (sq_z v1)] st Q := by
  refine sq_in_i (cc := cX3_take) (nL := 2) (own := RX3) (by decide) rfl rfl (Nat.le_of_ble_eq_true rfl) ?_
  intro J S hret
  exact tX3_take_0 S hret v1 st (H (qX3_take_40 J g) (tX3_take_40 S hret))
/-! worth (II)I : X3_worth -/
theorem iX3_worth_0 : ∀ w ∈ u_ws RX0 TX0 9, w ∈ wsX3_worth := fun _ h => List.mem_cons_of_mem _ (List.mem_append_right _ h)
theorem iX3_worth_3 : ∀ w ∈ u_ws RX3 TX3 8, w ∈ wsX3_worth := fun _ h => List.mem_cons_of_mem _ (List.mem_append_left _ (List.mem_append_right _ h))
theorem mX3_worth_16 : Cond.fieldLink RX3 16 (TX3 2).1 (TX3 2).2.1 (TX3 2).2.2.1 ∈ wsX3_worth := List.mem_of_getElem? (i := 1) rfl
theorem mX3_worth_73 : Cond.fieldLink RX3 73 (TX0 4).1 (TX0 4).2.1 (TX0 4).2.2.1 ∈ wsX3_worth := List.mem_of_getElem? (i := 2) rfl
def wX3_worth (v1 v2 : Int) (st : sq_S) (Q : Int → sq_S → Prop) : Prop :=
  wX3_isNoLetter v1 st (fun r27 st28 => sq_rg r27 ∧ (¬ r27 = 0 → Q (-2) st28) ∧ (r27 = 0 → wX3_isOutside v2 0 99 st28 (fun r29 st30 => sq_rg r29 ∧ (r29 = 0 → sq_ib v1 16 ∧ (∀ y31 : Int, y31 = (st30 5 v1.toNat) → (sq_ib v1 16 ∧ (∀ st32 : sq_S, st32 = sq_set st30 5 v1.toNat v2 → (Q y31 st32))))) ∧ (¬ r29 = 0 → Q (-2) st30))))
def rX3_worth : Room := { frames := 2, cells := 0, slots := 0, locals := 42 }
set_option maxRecDepth 100000 in
set_option maxHeartbeats 4000000 in
theorem tX3_worth_0 {l : Launch} {g : sq_G} {J : sq_K} {Q : Int → sq_S → Prop} (S : sq_J l rX3_worth cX3_worth 4 RX3 wsX3_worth g sq_X J) (hret : ∀ (pc : Nat) (lv : List (Nat × Value)) (r : Int) (st' : sq_S), decode cX3_worth pc = .ok (.ireturn, 1) → Q r st' → J pc lv [.int (sq_z r)] st') (v1 v2 : Int) (st : sq_S) (H : wX3_worth v1 v2 st Q) : J 0 [(0, .ref (g.2.2 0)), (1, .int (sq_z v1)), (2, .int (sq_z v2))] [] st := by
  unfold wX3_worth at H
  refine sj_iload_n (pl := 1) S dX3_worth_0 rfl rfl ?_
  refine sj_si (rest := []) S (kX3_isNoLetter l g v1 st _ H) (fun s args hts => va_cwS 1 hts gX3_worth_X3_isNoLetter rfl rfl rfl (by decide +kernel) ⟨Nat.le_of_ble_eq_true rfl, Nat.le_of_ble_eq_true rfl⟩) rfl rfl (Nat.le_of_ble_eq_true rfl) dX3_worth_1 (fun r27 st28 H => ?_)
  refine sj_if_ne (tgt := 17) S H.1 dX3_worth_4 (by decide) (fun c9 => ?_) (fun c9 => ?_)
  · have H := H.2.1 c9
    refine sj_bipush S dX3_worth_17 (by decide +kernel) ?_
    exact hret _ _ _ _ dX3_worth_19 H
  · have H := H.2.2 c9
    refine sj_iload_n (pl := 2) S dX3_worth_7 rfl rfl ?_
    refine sj_iconst S dX3_worth_8 ?_
    refine sj_bipush S dX3_worth_9 (by decide +kernel) ?_
    refine sj_si (rest := []) S (kX3_isOutside l g v2 0 99 st28 _ H) (fun s args hts => va_cwS 3 hts gX3_worth_X3_isOutside rfl rfl rfl (by decide +kernel) ⟨Nat.le_of_ble_eq_true rfl, Nat.le_of_ble_eq_true rfl⟩) rfl rfl (Nat.le_of_ble_eq_true rfl) dX3_worth_11 (fun r29 st30 H => ?_)
    refine sj_if_eq (tgt := 20) S H.1 dX3_worth_14 (by decide) (fun c9 => ?_) (fun c9 => ?_)
    · have H := H.2.1 c9
      refine sj_aload_n (pl := 0) S dX3_worth_20 rfl rfl ?_
      refine sj_getr S fX_0_2 iX3_worth_3 rfl (by decide) mX3_worth_16 dX3_worth_21 ?_
      refine sj_getr S fX_2_4 iX3_worth_0 rfl (by decide) mX3_worth_73 dX3_worth_24 ?_
      refine sj_iload_n (pl := 1) S dX3_worth_27 rfl rfl ?_
      refine sj_iald S aX_5 H.1 dX3_worth_28 ?_
      have H := H.2
      refine sj_istore_n (lv' := [(0, .ref (g.2.2 0)), (1, .int (sq_z v1)), (2, .int (sq_z v2))]) S dX3_worth_29 rfl (by decide) (fun _ => rfl) (fun y31 ey31 => ?_)
      have H := H y31 ey31
      refine sj_aload_n (pl := 1) S dX3_worth_30 rfl rfl ?_
      refine sj_getr S fX_0_2 iX3_worth_3 rfl (by decide) mX3_worth_16 dX3_worth_31 ?_
      refine sj_getr S fX_2_4 iX3_worth_0 rfl (by decide) mX3_worth_73 dX3_worth_34 ?_
      refine sj_iload_n (pl := 2) S dX3_worth_37 rfl rfl ?_
      refine sj_iload_n (pl := 3) S dX3_worth_38 rfl rfl ?_
      refine sj_iast S aX_5 H.1 dX3_worth_39 (fun st32 est32 => ?_)
      have H := H.2 st32 est32
      refine sj_iload_n (pl := 0) S dX3_worth_40 rfl rfl ?_
      exact hret _ _ _ _ dX3_worth_41 H
    · have H := H.2.2 c9
      refine sj_bipush S dX3_worth_17 (by decide +kernel) ?_
      exact hret _ _ _ _ dX3_worth_19 H
set_option maxRecDepth 100000 in
set_option maxHeartbeats 4000000 in
theorem kX3_worth (l : Launch) (g : sq_G) (v1 v2 : Int) (st : sq_S) (Q : Int → sq_S → Prop) (H : wX3_worth v1 v2 st Q) : sq_Ci l yX3_worth wsX3_worth rX3_worth g sq_X [.ref (g.2.2 0), .int (sq_z v1), .int (sq_z v2)] st Q := by
  refine sq_in_i (cc := cX3_worth) (nL := 4) (own := RX3) (by decide) rfl rfl (Nat.le_of_ble_eq_true rfl) ?_
  intro J S hret
  exact tX3_worth_0 S hret v1 v2 st H
/-! bitCount (I)I : J6_bitCount -/
def wJ6_bitCount (v0 : Int) (st : sq_S) (Q : Int → sq_S → Prop) : Prop :=
  ∀ y41 : Int, y41 = (v0 - (sq_and (sq_ushr v0 1) 1431655765)) → (∀ y42 : Int, y42 = ((sq_and y41 858993459) + (sq_and (sq_ushr y41 2) 858993459)) → (∀ y43 : Int, y43 = (sq_and (y42 + (sq_ushr y42 4)) 252645135) → (∀ y44 : Int, y44 = (y43 + (sq_ushr y43 8)) → (∀ y45 : Int, y45 = (y44 + (sq_ushr y44 16)) → (Q (sq_and y45 63) st)))))
def rJ6_bitCount : Room := { frames := 0, cells := 0, slots := 0, locals := 0 }
set_option maxRecDepth 100000 in
set_option maxHeartbeats 4000000 in
theorem tJ6_bitCount_0 {l : Launch} {g : sq_G} {J : sq_K} {Q : Int → sq_S → Prop} (S : sq_J l rJ6_bitCount cJ6_bitCount_0f7a4 1 RJ6 wsJ6_bitCount_0f7a4 g sq_X J) (hret : ∀ (pc : Nat) (lv : List (Nat × Value)) (r : Int) (st' : sq_S), decode cJ6_bitCount_0f7a4 pc = .ok (.ireturn, 1) → Q r st' → J pc lv [.int (sq_z r)] st') (v0 : Int) (st : sq_S) (H : wJ6_bitCount v0 st Q) : J 0 [(0, .int (sq_z v0))] [] st := by
  unfold wJ6_bitCount at H
  refine sj_iload_n (pl := 0) S dJ6_bitCount_0f7a4_0 rfl rfl ?_
  refine sj_iload_n (pl := 0) S dJ6_bitCount_0f7a4_1 rfl rfl ?_
  refine sj_iconst S dJ6_bitCount_0f7a4_2 ?_
  refine sj_iushr S dJ6_bitCount_0f7a4_3 ?_
  refine sj_ldcw (n := 1431655765) S dJ6_bitCount_0f7a4_4 (List.mem_of_getElem? (i := 1) rfl) rfl ?_
  refine sj_iand S dJ6_bitCount_0f7a4_7 ?_
  refine sj_isub S dJ6_bitCount_0f7a4_8 ?_
  refine sj_istore_n (lv' := []) S dJ6_bitCount_0f7a4_9 rfl (by decide) (fun _ => rfl) (fun y41 ey41 => ?_)
  have H := H y41 ey41
  refine sj_iload_n (pl := 0) S dJ6_bitCount_0f7a4_10 rfl rfl ?_
  refine sj_ldcw (n := 858993459) S dJ6_bitCount_0f7a4_11 (List.mem_of_getElem? (i := 2) rfl) rfl ?_
  refine sj_iand S dJ6_bitCount_0f7a4_14 ?_
  refine sj_iload_n (pl := 0) S dJ6_bitCount_0f7a4_15 rfl rfl ?_
  refine sj_iconst S dJ6_bitCount_0f7a4_16 ?_
  refine sj_iushr S dJ6_bitCount_0f7a4_17 ?_
  refine sj_ldcw (n := 858993459) S dJ6_bitCount_0f7a4_18 (List.mem_of_getElem? (i := 2) rfl) rfl ?_
  refine sj_iand S dJ6_bitCount_0f7a4_21 ?_
  refine sj_iadd S dJ6_bitCount_0f7a4_22 ?_
  refine sj_istore_n (lv' := []) S dJ6_bitCount_0f7a4_23 rfl (by decide) (fun _ => rfl) (fun y42 ey42 => ?_)
  have H := H y42 ey42
  refine sj_iload_n (pl := 0) S dJ6_bitCount_0f7a4_24 rfl rfl ?_
  refine sj_iload_n (pl := 0) S dJ6_bitCount_0f7a4_25 rfl rfl ?_
  refine sj_iconst S dJ6_bitCount_0f7a4_26 ?_
  refine sj_iushr S dJ6_bitCount_0f7a4_27 ?_
  refine sj_iadd S dJ6_bitCount_0f7a4_28 ?_
  refine sj_ldcw (n := 252645135) S dJ6_bitCount_0f7a4_29 (List.mem_of_getElem? (i := 3) rfl) rfl ?_
  refine sj_iand S dJ6_bitCount_0f7a4_32 ?_
  refine sj_istore_n (lv' := []) S dJ6_bitCount_0f7a4_33 rfl (by decide) (fun _ => rfl) (fun y43 ey43 => ?_)
  have H := H y43 ey43
  refine sj_iload_n (pl := 0) S dJ6_bitCount_0f7a4_34 rfl rfl ?_
  refine sj_iload_n (pl := 0) S dJ6_bitCount_0f7a4_35 rfl rfl ?_
  refine sj_bipush S dJ6_bitCount_0f7a4_36 (by decide +kernel) ?_
  refine sj_iushr S dJ6_bitCount_0f7a4_38 ?_
  refine sj_iadd S dJ6_bitCount_0f7a4_39 ?_
  refine sj_istore_n (lv' := []) S dJ6_bitCount_0f7a4_40 rfl (by decide) (fun _ => rfl) (fun y44 ey44 => ?_)
  have H := H y44 ey44
  refine sj_iload_n (pl := 0) S dJ6_bitCount_0f7a4_41 rfl rfl ?_
  refine sj_iload_n (pl := 0) S dJ6_bitCount_0f7a4_42 rfl rfl ?_
  refine sj_bipush S dJ6_bitCount_0f7a4_43 (by decide +kernel) ?_
  refine sj_iushr S dJ6_bitCount_0f7a4_45 ?_
  refine sj_iadd S dJ6_bitCount_0f7a4_46 ?_
  refine sj_istore_n (lv' := []) S dJ6_bitCount_0f7a4_47 rfl (by decide) (fun _ => rfl) (fun y45 ey45 => ?_)
  have H := H y45 ey45
  refine sj_iload_n (pl := 0) S dJ6_bitCount_0f7a4_48 rfl rfl ?_
  refine sj_bipush S dJ6_bitCount_0f7a4_49 (by decide +kernel) ?_
  refine sj_iand S dJ6_bitCount_0f7a4_51 ?_
  exact hret _ _ _ _ dJ6_bitCount_0f7a4_52 H
set_option maxRecDepth 100000 in
set_option maxHeartbeats 4000000 in
theorem kJ6_bitCount (l : Launch) (g : sq_G) (v0 : Int) (st : sq_S) (Q : Int → sq_S → Prop) (H : wJ6_bitCount v0 st Q) : sq_Ci l yJ6_bitCount_0f7a4 wsJ6_bitCount_0f7a4 rJ6_bitCount g sq_X [.int (sq_z v0)] st Q := by
  refine sq_in_i (cc := cJ6_bitCount_0f7a4) (nL := 1) (own := RJ6) (by decide) rfl rfl (Nat.le_of_ble_eq_true rfl) ?_
  intro J S hret
  exact tJ6_bitCount_0 S hret v0 st H
/-! likedPairs ()I : X0_likedPairs -/
theorem iX0_likedPairs_0 : ∀ w ∈ u_ws RX0 TX0 9, w ∈ wsX0_likedPairs := fun _ h => List.mem_cons_of_mem _ (List.mem_append_right _ h)
theorem mX0_likedPairs_25 : Cond.fieldLink RX0 25 (TX0 5).1 (TX0 5).2.1 (TX0 5).2.2.1 ∈ wsX0_likedPairs := List.mem_of_getElem? (i := 1) rfl
def bX0_likedPairs_4 (K4 : Int → Int → sq_S → Prop) (Q : Int → sq_S → Prop) (v1 v2 : Int) (st : sq_S) : Prop :=
  (sq_rg v2 ∧ sq_rg 16) ∧ (16 ≤ v2 → Q v1 st) ∧ (v2 < 16 → sq_ib v2 16 ∧ (wJ6_bitCount (st 6 v2.toNat) st (fun r46 st47 => ∀ y48 : Int, y48 = (v1 + r46) → (K4 y48 (v2 + 1) st47))))
def bX0_likedPairs_0 (K4 : Int → Int → sq_S → Prop) (Q : Int → sq_S → Prop) (st : sq_S) : Prop :=
  K4 0 0 st
def wX0_likedPairs (st : sq_S) (Q : Int → sq_S → Prop) : Prop :=
  ∀ (K4 : Int → Int → sq_S → Prop), (∀ (v1 v2 : Int) (st : sq_S), bX0_likedPairs_4 K4 Q v1 v2 st → K4 v1 v2 st) → bX0_likedPairs_0 K4 Q  st
def rX0_likedPairs : Room := { frames := 1, cells := 0, slots := 0, locals := 20 }
def qX0_likedPairs_4 (J : sq_K) (g : sq_G) : Int → Int → sq_S → Prop := fun v1 v2 st => J 4 [(0, .ref (g.2.2 2)), (1, .int (sq_z v1)), (2, .int (sq_z v2))] [] st
set_option maxRecDepth 100000 in
set_option maxHeartbeats 4000000 in
theorem tX0_likedPairs_4 {l : Launch} {g : sq_G} {J : sq_K} {Q : Int → sq_S → Prop} (S : sq_J l rX0_likedPairs cX0_likedPairs 3 RX0 wsX0_likedPairs g sq_X J) (hret : ∀ (pc : Nat) (lv : List (Nat × Value)) (r : Int) (st' : sq_S), decode cX0_likedPairs pc = .ok (.ireturn, 1) → Q r st' → J pc lv [.int (sq_z r)] st') (v1 v2 : Int) (st : sq_S) (H : bX0_likedPairs_4 (qX0_likedPairs_4 J g) Q v1 v2 st) : J 4 [(0, .ref (g.2.2 2)), (1, .int (sq_z v1)), (2, .int (sq_z v2))] [] st := by
  unfold bX0_likedPairs_4 at H
  refine sj_iload_n (pl := 2) S dX0_likedPairs_4 rfl rfl ?_
  refine sj_bipush S dX0_likedPairs_5 (by decide +kernel) ?_
  refine sj_icmp_ge (tgt := 28) S H.1 dX0_likedPairs_7 (by decide) (fun c9 => ?_) (fun c9 => ?_)
  · have H := H.2.1 c9
    refine sj_iload_n (pl := 1) S dX0_likedPairs_28 rfl rfl ?_
    exact hret _ _ _ _ dX0_likedPairs_29 H
  · have H := H.2.2 c9
    refine sj_iload_n (pl := 1) S dX0_likedPairs_10 rfl rfl ?_
    refine sj_aload_n (pl := 0) S dX0_likedPairs_11 rfl rfl ?_
    refine sj_getr S fX_2_5 iX0_likedPairs_0 rfl (by decide) mX0_likedPairs_25 dX0_likedPairs_12 ?_
    refine sj_iload_n (pl := 2) S dX0_likedPairs_15 rfl rfl ?_
    refine sj_iald S aX_6 H.1 dX0_likedPairs_16 ?_
    have H := H.2
    refine sj_si (rest := [.int (sq_z v1)]) S (kJ6_bitCount l g (st 6 v2.toNat) st _ H) (fun s args hts => va_cwS 1 hts gX0_likedPairs_J6_bitCount_0f7a4 rfl rfl rfl (by decide +kernel) ⟨Nat.le_of_ble_eq_true rfl, Nat.le_of_ble_eq_true rfl⟩) rfl rfl (Nat.le_of_ble_eq_true rfl) dX0_likedPairs_17 (fun r46 st47 H => ?_)
    refine sj_iadd S dX0_likedPairs_20 ?_
    refine sj_istore_n (lv' := [(0, .ref (g.2.2 2)), (2, .int (sq_z v2))]) S dX0_likedPairs_21 rfl (by decide) (fun _ => rfl) (fun y48 ey48 => ?_)
    have H := H y48 ey48
    refine sj_iinc (pl := 2) (lv' := [(1, .int (sq_z y48)), (0, .ref (g.2.2 2))]) S dX0_likedPairs_22 rfl (by decide) (fun _ => rfl) ?_
    refine sj_goto (tgt := 4) S dX0_likedPairs_25 (by decide) ?_
    exact sj_lv S [2, 1, 0] rfl H
set_option maxRecDepth 100000 in
set_option maxHeartbeats 4000000 in
theorem tX0_likedPairs_0 {l : Launch} {g : sq_G} {J : sq_K} {Q : Int → sq_S → Prop} (S : sq_J l rX0_likedPairs cX0_likedPairs 3 RX0 wsX0_likedPairs g sq_X J) (hret : ∀ (pc : Nat) (lv : List (Nat × Value)) (r : Int) (st' : sq_S), decode cX0_likedPairs pc = .ok (.ireturn, 1) → Q r st' → J pc lv [.int (sq_z r)] st') (st : sq_S) (H : bX0_likedPairs_0 (qX0_likedPairs_4 J g) Q st) : J 0 [(0, .ref (g.2.2 2))] [] st := by
  unfold bX0_likedPairs_0 at H
  refine sj_iconst S dX0_likedPairs_0 ?_
  refine sj_istore_na (lv' := [(0, .ref (g.2.2 2))]) S dX0_likedPairs_1 rfl (by decide) (fun _ => rfl) ?_
  refine sj_iconst S dX0_likedPairs_2 ?_
  refine sj_istore_na (lv' := [(1, .int (sq_z 0)), (0, .ref (g.2.2 2))]) S dX0_likedPairs_3 rfl (by decide) (fun _ => rfl) ?_
  exact sj_lv S [2, 1, 0] rfl H
set_option maxRecDepth 100000 in
set_option maxHeartbeats 4000000 in
theorem kX0_likedPairs (l : Launch) (g : sq_G) (st : sq_S) (Q : Int → sq_S → Prop) (H : wX0_likedPairs  st Q) : sq_Ci l yX0_likedPairs wsX0_likedPairs rX0_likedPairs g sq_X [.ref (g.2.2 2)] st Q := by
  refine sq_in_i (cc := cX0_likedPairs) (nL := 3) (own := RX0) (by decide) rfl rfl (Nat.le_of_ble_eq_true rfl) ?_
  intro J S hret
  exact tX0_likedPairs_0 S hret  st (H (qX0_likedPairs_4 J g) (tX0_likedPairs_4 S hret))
/-! like (III)I : X3_like -/
theorem iX3_like_0 : ∀ w ∈ u_ws RX0 TX0 9, w ∈ wsX3_like := fun _ h => List.mem_cons_of_mem _ (List.mem_append_right _ h)
theorem iX3_like_3 : ∀ w ∈ u_ws RX3 TX3 8, w ∈ wsX3_like := fun _ h => List.mem_cons_of_mem _ (List.mem_append_left _ (List.mem_append_right _ h))
theorem mX3_like_16 : Cond.fieldLink RX3 16 (TX3 2).1 (TX3 2).2.1 (TX3 2).2.2.1 ∈ wsX3_like := List.mem_of_getElem? (i := 1) rfl
theorem mX3_like_76 : Cond.fieldLink RX3 76 (TX0 5).1 (TX0 5).2.1 (TX0 5).2.2.1 ∈ wsX3_like := List.mem_of_getElem? (i := 2) rfl
def wX3_like (v1 v2 v3 : Int) (st : sq_S) (Q : Int → sq_S → Prop) : Prop :=
  wX3_isNoLetter v1 st (fun r33 st34 => sq_rg r33 ∧ (¬ r33 = 0 → Q (-2) st34) ∧ (r33 = 0 → wX3_isNoLetter v2 st34 (fun r35 st36 => sq_rg r35 ∧ (¬ r35 = 0 → Q (-2) st36) ∧ (r35 = 0 → wX3_isOutside v3 0 1 st36 (fun r37 st38 => sq_rg r37 ∧ (r37 = 0 → ∀ y39 : Int, y39 = (sq_shl 1 v2) → ((sq_rg v3 ∧ sq_rg 1) ∧ (¬ v3 = 1 → sq_ib v1 16 ∧ (sq_ib v1 16 ∧ (∀ st40 : sq_S, st40 = sq_set st38 6 v1.toNat (sq_and (st38 6 v1.toNat) (sq_xor y39 (-1))) → (wX0_likedPairs st40 (fun r49 st50 => Q r49 st50))))) ∧ (v3 = 1 → sq_ib v1 16 ∧ (sq_ib v1 16 ∧ (∀ st51 : sq_S, st51 = sq_set st38 6 v1.toNat (sq_or (st38 6 v1.toNat) y39) → (wX0_likedPairs st51 (fun r52 st53 => Q r52 st53))))))) ∧ (¬ r37 = 0 → Q (-2) st38))))))
def rX3_like : Room := { frames := 2, cells := 0, slots := 0, locals := 42 }
set_option maxRecDepth 100000 in
set_option maxHeartbeats 4000000 in
theorem tX3_like_0 {l : Launch} {g : sq_G} {J : sq_K} {Q : Int → sq_S → Prop} (S : sq_J l rX3_like cX3_like 5 RX3 wsX3_like g sq_X J) (hret : ∀ (pc : Nat) (lv : List (Nat × Value)) (r : Int) (st' : sq_S), decode cX3_like pc = .ok (.ireturn, 1) → Q r st' → J pc lv [.int (sq_z r)] st') (v1 v2 v3 : Int) (st : sq_S) (H : wX3_like v1 v2 v3 st Q) : J 0 [(0, .ref (g.2.2 0)), (1, .int (sq_z v1)), (2, .int (sq_z v2)), (3, .int (sq_z v3))] [] st := by
  unfold wX3_like at H
  refine sj_iload_n (pl := 1) S dX3_like_0 rfl rfl ?_
  refine sj_si (rest := []) S (kX3_isNoLetter l g v1 st _ H) (fun s args hts => va_cwS 1 hts gX3_like_X3_isNoLetter rfl rfl rfl (by decide +kernel) ⟨Nat.le_of_ble_eq_true rfl, Nat.le_of_ble_eq_true rfl⟩) rfl rfl (Nat.le_of_ble_eq_true rfl) dX3_like_1 (fun r33 st34 H => ?_)
  refine sj_if_ne (tgt := 23) S H.1 dX3_like_4 (by decide) (fun c9 => ?_) (fun c9 => ?_)
  · have H := H.2.1 c9
    refine sj_bipush S dX3_like_23 (by decide +kernel) ?_
    exact hret _ _ _ _ dX3_like_25 H
  · have H := H.2.2 c9
    refine sj_iload_n (pl := 2) S dX3_like_7 rfl rfl ?_
    refine sj_si (rest := []) S (kX3_isNoLetter l g v2 st34 _ H) (fun s args hts => va_cwS 1 hts gX3_like_X3_isNoLetter rfl rfl rfl (by decide +kernel) ⟨Nat.le_of_ble_eq_true rfl, Nat.le_of_ble_eq_true rfl⟩) rfl rfl (Nat.le_of_ble_eq_true rfl) dX3_like_8 (fun r35 st36 H => ?_)
    refine sj_if_ne (tgt := 23) S H.1 dX3_like_11 (by decide) (fun c9 => ?_) (fun c9 => ?_)
    · have H := H.2.1 c9
      refine sj_bipush S dX3_like_23 (by decide +kernel) ?_
      exact hret _ _ _ _ dX3_like_25 H
    · have H := H.2.2 c9
      refine sj_iload_n (pl := 3) S dX3_like_14 rfl rfl ?_
      refine sj_iconst S dX3_like_15 ?_
      refine sj_iconst S dX3_like_16 ?_
      refine sj_si (rest := []) S (kX3_isOutside l g v3 0 1 st36 _ H) (fun s args hts => va_cwS 3 hts gX3_like_X3_isOutside rfl rfl rfl (by decide +kernel) ⟨Nat.le_of_ble_eq_true rfl, Nat.le_of_ble_eq_true rfl⟩) rfl rfl (Nat.le_of_ble_eq_true rfl) dX3_like_17 (fun r37 st38 H => ?_)
      refine sj_if_eq (tgt := 26) S H.1 dX3_like_20 (by decide) (fun c9 => ?_) (fun c9 => ?_)
      · have H := H.2.1 c9
        refine sj_iconst S dX3_like_26 ?_
        refine sj_iload_n (pl := 2) S dX3_like_27 rfl rfl ?_
        refine sj_ishl S dX3_like_28 ?_
        refine sj_istore (lv' := [(0, .ref (g.2.2 0)), (1, .int (sq_z v1)), (2, .int (sq_z v2)), (3, .int (sq_z v3))]) S dX3_like_29 (by decide) (fun _ => rfl) (fun y39 ey39 => ?_)
        have H := H y39 ey39
        refine sj_aload_n (pl := 1) S dX3_like_31 rfl rfl ?_
        refine sj_getr S fX_0_2 iX3_like_3 rfl (by decide) mX3_like_16 dX3_like_32 ?_
        refine sj_getr S fX_2_5 iX3_like_0 rfl (by decide) mX3_like_76 dX3_like_35 ?_
        refine sj_iload_n (pl := 2) S dX3_like_38 rfl rfl ?_
        refine sj_iload_n (pl := 4) S dX3_like_39 rfl rfl ?_
        refine sj_iconst S dX3_like_40 ?_
        refine sj_icmp_ne (tgt := 59) S H.1 dX3_like_41 (by decide) (fun c9 => ?_) (fun c9 => ?_)
        · have H := H.2.1 c9
          refine sj_aload_n (pl := 1) S dX3_like_59 rfl rfl ?_
          refine sj_getr S fX_0_2 iX3_like_3 rfl (by decide) mX3_like_16 dX3_like_60 ?_
          refine sj_getr S fX_2_5 iX3_like_0 rfl (by decide) mX3_like_76 dX3_like_63 ?_
          refine sj_iload_n (pl := 2) S dX3_like_66 rfl rfl ?_
          refine sj_iald S aX_6 H.1 dX3_like_67 ?_
          have H := H.2
          refine sj_iload (pl := 0) S dX3_like_68 rfl ?_
          refine sj_iconst S dX3_like_70 ?_
          refine sj_ixor S dX3_like_71 ?_
          refine sj_iand S dX3_like_72 ?_
          refine sj_iast S aX_6 H.1 dX3_like_73 (fun st40 est40 => ?_)
          have H := H.2 st40 est40
          refine sj_aload_n (pl := 1) S dX3_like_74 rfl rfl ?_
          refine sj_getr S fX_0_2 iX3_like_3 rfl (by decide) mX3_like_16 dX3_like_75 ?_
          refine sj_vi (rest := []) (q0 := 2) (ci := 0) S (kX0_likedPairs l g st40 _ H) (fun s args hts => cwV 0 hts gX3_like_X0_likedPairs rfl rfl rfl (by decide +kernel) ⟨Nat.le_of_ble_eq_true rfl, Nat.le_of_ble_eq_true rfl⟩) rfl rfl rfl rfl (Nat.le_of_ble_eq_true rfl) dX3_like_78 (fun r49 st50 H => ?_)
          exact hret _ _ _ _ dX3_like_81 H
        · have H := H.2.2 c9
          refine sj_aload_n (pl := 1) S dX3_like_44 rfl rfl ?_
          refine sj_getr S fX_0_2 iX3_like_3 rfl (by decide) mX3_like_16 dX3_like_45 ?_
          refine sj_getr S fX_2_5 iX3_like_0 rfl (by decide) mX3_like_76 dX3_like_48 ?_
          refine sj_iload_n (pl := 2) S dX3_like_51 rfl rfl ?_
          refine sj_iald S aX_6 H.1 dX3_like_52 ?_
          have H := H.2
          refine sj_iload (pl := 0) S dX3_like_53 rfl ?_
          refine sj_ior S dX3_like_55 ?_
          refine sj_goto (tgt := 73) S dX3_like_56 (by decide) ?_
          refine sj_iast S aX_6 H.1 dX3_like_73 (fun st51 est51 => ?_)
          have H := H.2 st51 est51
          refine sj_aload_n (pl := 1) S dX3_like_74 rfl rfl ?_
          refine sj_getr S fX_0_2 iX3_like_3 rfl (by decide) mX3_like_16 dX3_like_75 ?_
          refine sj_vi (rest := []) (q0 := 2) (ci := 0) S (kX0_likedPairs l g st51 _ H) (fun s args hts => cwV 0 hts gX3_like_X0_likedPairs rfl rfl rfl (by decide +kernel) ⟨Nat.le_of_ble_eq_true rfl, Nat.le_of_ble_eq_true rfl⟩) rfl rfl rfl rfl (Nat.le_of_ble_eq_true rfl) dX3_like_78 (fun r52 st53 H => ?_)
          exact hret _ _ _ _ dX3_like_81 H
      · have H := H.2.2 c9
        refine sj_bipush S dX3_like_23 (by decide +kernel) ?_
        exact hret _ _ _ _ dX3_like_25 H
set_option maxRecDepth 100000 in
set_option maxHeartbeats 4000000 in
theorem kX3_like (l : Launch) (g : sq_G) (v1 v2 v3 : Int) (st : sq_S) (Q : Int → sq_S → Prop) (H : wX3_like v1 v2 v3 st Q) : sq_Ci l yX3_like wsX3_like rX3_like g sq_X [.ref (g.2.2 0), .int (sq_z v1), .int (sq_z v2), .int (sq_z v3)] st Q := by
  refine sq_in_i (cc := cX3_like) (nL := 5) (own := RX3) (by decide) rfl rfl (Nat.le_of_ble_eq_true rfl) ?_
  intro J S hret
  exact tX3_like_0 S hret v1 v2 v3 st H
/-! letterAt ([III)I : X3_letterAt_3 -/
def wX3_letterAt_3 (v1 v2 : Int) (st : sq_S) (Q : Int → sq_S → Prop) : Prop :=
  (sq_rg v2 ∧ sq_rg (-1)) ∧ (¬ v2 = (-1) → wX3_isOutside v2 0 (v1 - 1) st (fun r54 st55 => sq_rg r54 ∧ (r54 = 0 → sq_ib v2 48 ∧ (Q (st55 3 v2.toNat) st55)) ∧ (¬ r54 = 0 → Q (-6) st55))) ∧ (v2 = (-1) → Q v1 st)
def rX3_letterAt_3 : Room := { frames := 1, cells := 0, slots := 0, locals := 22 }
set_option maxRecDepth 100000 in
set_option maxHeartbeats 4000000 in
theorem tX3_letterAt_3_0 {l : Launch} {g : sq_G} {J : sq_K} {Q : Int → sq_S → Prop} (S : sq_J l rX3_letterAt_3 cX3_letterAt 3 RX3 wsX3_letterAt g sq_X J) (hret : ∀ (pc : Nat) (lv : List (Nat × Value)) (r : Int) (st' : sq_S), decode cX3_letterAt pc = .ok (.ireturn, 1) → Q r st' → J pc lv [.int (sq_z r)] st') (v1 v2 : Int) (st : sq_S) (H : wX3_letterAt_3 v1 v2 st Q) : J 0 [(0, .ref (g.2.2 3)), (1, .int (sq_z v1)), (2, .int (sq_z v2))] [] st := by
  unfold wX3_letterAt_3 at H
  refine sj_iload_n (pl := 2) S dX3_letterAt_0 rfl rfl ?_
  refine sj_iconst S dX3_letterAt_1 ?_
  refine sj_icmp_ne (tgt := 7) S H.1 dX3_letterAt_2 (by decide) (fun c9 => ?_) (fun c9 => ?_)
  · have H := H.2.1 c9
    refine sj_iload_n (pl := 2) S dX3_letterAt_7 rfl rfl ?_
    refine sj_iconst S dX3_letterAt_8 ?_
    refine sj_iload_n (pl := 1) S dX3_letterAt_9 rfl rfl ?_
    refine sj_iconst S dX3_letterAt_10 ?_
    refine sj_isub S dX3_letterAt_11 ?_
    refine sj_si (rest := []) S (kX3_isOutside l g v2 0 (v1 - 1) st _ H) (fun s args hts => va_cwS 3 hts gX3_letterAt_X3_isOutside rfl rfl rfl (by decide +kernel) ⟨Nat.le_of_ble_eq_true rfl, Nat.le_of_ble_eq_true rfl⟩) rfl rfl (Nat.le_of_ble_eq_true rfl) dX3_letterAt_12 (fun r54 st55 H => ?_)
    refine sj_if_eq (tgt := 23) S H.1 dX3_letterAt_15 (by decide) (fun c9 => ?_) (fun c9 => ?_)
    · have H := H.2.1 c9
      refine sj_aload_n (pl := 0) S dX3_letterAt_23 rfl rfl ?_
      refine sj_iload_n (pl := 2) S dX3_letterAt_24 rfl rfl ?_
      refine sj_iald S aX_3 H.1 dX3_letterAt_25 ?_
      have H := H.2
      exact hret _ _ _ _ dX3_letterAt_26 H
    · have H := H.2.2 c9
      refine sj_bipush S dX3_letterAt_18 (by decide +kernel) ?_
      refine sj_goto (tgt := 26) S dX3_letterAt_20 (by decide) ?_
      exact hret _ _ _ _ dX3_letterAt_26 H
  · have H := H.2.2 c9
    refine sj_iload_n (pl := 1) S dX3_letterAt_5 rfl rfl ?_
    exact hret _ _ _ _ dX3_letterAt_6 H
set_option maxRecDepth 100000 in
set_option maxHeartbeats 4000000 in
theorem kX3_letterAt_3 (l : Launch) (g : sq_G) (v1 v2 : Int) (st : sq_S) (Q : Int → sq_S → Prop) (H : wX3_letterAt_3 v1 v2 st Q) : sq_Ci l yX3_letterAt wsX3_letterAt rX3_letterAt_3 g sq_X [.ref (g.2.2 3), .int (sq_z v1), .int (sq_z v2)] st Q := by
  refine sq_in_i (cc := cX3_letterAt) (nL := 3) (own := RX3) (by decide) rfl rfl (Nat.le_of_ble_eq_true rfl) ?_
  intro J S hret
  exact tX3_letterAt_3_0 S hret v1 v2 st H
/-! letterAt ([III)I : X3_letterAt_4 -/
def wX3_letterAt_4 (v1 v2 : Int) (st : sq_S) (Q : Int → sq_S → Prop) : Prop :=
  (sq_rg v2 ∧ sq_rg (-1)) ∧ (¬ v2 = (-1) → wX3_isOutside v2 0 (v1 - 1) st (fun r58 st59 => sq_rg r58 ∧ (r58 = 0 → sq_ib v2 6 ∧ (Q (st59 4 v2.toNat) st59)) ∧ (¬ r58 = 0 → Q (-6) st59))) ∧ (v2 = (-1) → Q v1 st)
def rX3_letterAt_4 : Room := { frames := 1, cells := 0, slots := 0, locals := 22 }
set_option maxRecDepth 100000 in
set_option maxHeartbeats 4000000 in
theorem tX3_letterAt_4_0 {l : Launch} {g : sq_G} {J : sq_K} {Q : Int → sq_S → Prop} (S : sq_J l rX3_letterAt_4 cX3_letterAt 3 RX3 wsX3_letterAt g sq_X J) (hret : ∀ (pc : Nat) (lv : List (Nat × Value)) (r : Int) (st' : sq_S), decode cX3_letterAt pc = .ok (.ireturn, 1) → Q r st' → J pc lv [.int (sq_z r)] st') (v1 v2 : Int) (st : sq_S) (H : wX3_letterAt_4 v1 v2 st Q) : J 0 [(0, .ref (g.2.2 4)), (1, .int (sq_z v1)), (2, .int (sq_z v2))] [] st := by
  unfold wX3_letterAt_4 at H
  refine sj_iload_n (pl := 2) S dX3_letterAt_0 rfl rfl ?_
  refine sj_iconst S dX3_letterAt_1 ?_
  refine sj_icmp_ne (tgt := 7) S H.1 dX3_letterAt_2 (by decide) (fun c9 => ?_) (fun c9 => ?_)
  · have H := H.2.1 c9
    refine sj_iload_n (pl := 2) S dX3_letterAt_7 rfl rfl ?_
    refine sj_iconst S dX3_letterAt_8 ?_
    refine sj_iload_n (pl := 1) S dX3_letterAt_9 rfl rfl ?_
    refine sj_iconst S dX3_letterAt_10 ?_
    refine sj_isub S dX3_letterAt_11 ?_
    refine sj_si (rest := []) S (kX3_isOutside l g v2 0 (v1 - 1) st _ H) (fun s args hts => va_cwS 3 hts gX3_letterAt_X3_isOutside rfl rfl rfl (by decide +kernel) ⟨Nat.le_of_ble_eq_true rfl, Nat.le_of_ble_eq_true rfl⟩) rfl rfl (Nat.le_of_ble_eq_true rfl) dX3_letterAt_12 (fun r58 st59 H => ?_)
    refine sj_if_eq (tgt := 23) S H.1 dX3_letterAt_15 (by decide) (fun c9 => ?_) (fun c9 => ?_)
    · have H := H.2.1 c9
      refine sj_aload_n (pl := 0) S dX3_letterAt_23 rfl rfl ?_
      refine sj_iload_n (pl := 2) S dX3_letterAt_24 rfl rfl ?_
      refine sj_iald S aX_4 H.1 dX3_letterAt_25 ?_
      have H := H.2
      exact hret _ _ _ _ dX3_letterAt_26 H
    · have H := H.2.2 c9
      refine sj_bipush S dX3_letterAt_18 (by decide +kernel) ?_
      refine sj_goto (tgt := 26) S dX3_letterAt_20 (by decide) ?_
      exact hret _ _ _ _ dX3_letterAt_26 H
  · have H := H.2.2 c9
    refine sj_iload_n (pl := 1) S dX3_letterAt_5 rfl rfl ?_
    exact hret _ _ _ _ dX3_letterAt_6 H
set_option maxRecDepth 100000 in
set_option maxHeartbeats 4000000 in
theorem kX3_letterAt_4 (l : Launch) (g : sq_G) (v1 v2 : Int) (st : sq_S) (Q : Int → sq_S → Prop) (H : wX3_letterAt_4 v1 v2 st Q) : sq_Ci l yX3_letterAt wsX3_letterAt rX3_letterAt_4 g sq_X [.ref (g.2.2 4), .int (sq_z v1), .int (sq_z v2)] st Q := by
  refine sq_in_i (cc := cX3_letterAt) (nL := 3) (own := RX3) (by decide) rfl rfl (Nat.le_of_ble_eq_true rfl) ?_
  intro J S hret
  exact tX3_letterAt_4_0 S hret v1 v2 st H
/-! put (II)V : X1_put -/
theorem iX1_put_1 : ∀ w ∈ u_ws RX1 TX1 2, w ∈ wsX1_put := fun _ h => List.mem_cons_of_mem _ (List.mem_append_right _ h)
theorem mX1_put_9 : Cond.fieldLink RX1 9 (TX1 0).1 (TX1 0).2.1 (TX1 0).2.2.1 ∈ wsX1_put := List.mem_of_getElem? (i := 1) rfl
theorem mX1_put_15 : Cond.fieldLink RX1 15 (TX1 1).1 (TX1 1).2.1 (TX1 1).2.2.1 ∈ wsX1_put := List.mem_of_getElem? (i := 2) rfl
def wX1_put (v1 v2 : Int) (st : sq_S) (Q : Int → sq_S → Prop) : Prop :=
  sq_ib v2 16 ∧ (∀ st63 : sq_S, st63 = sq_set st 27 v2.toNat v1 → (sq_ib v1 16 ∧ (∀ st64 : sq_S, st64 = sq_set st63 28 v1.toNat v2 → (Q 0 st64))))
def rX1_put : Room := { frames := 0, cells := 0, slots := 0, locals := 0 }
set_option maxRecDepth 100000 in
set_option maxHeartbeats 4000000 in
theorem tX1_put_0 {l : Launch} {g : sq_G} {J : sq_K} {Q : Int → sq_S → Prop} (S : sq_J l rX1_put cX1_put 3 RX1 wsX1_put g sq_X J) (hret : ∀ (pc : Nat) (lv : List (Nat × Value)) (st' : sq_S), decode cX1_put pc = .ok (.return_, 1) → Q 0 st' → J pc lv [] st') (v1 v2 : Int) (st : sq_S) (H : wX1_put v1 v2 st Q) : J 0 [(0, .ref (g.2.2 26)), (1, .int (sq_z v1)), (2, .int (sq_z v2))] [] st := by
  unfold wX1_put at H
  refine sj_aload_n (pl := 0) S dX1_put_0 rfl rfl ?_
  refine sj_getr S fX_26_0 iX1_put_1 rfl (by decide) mX1_put_9 dX1_put_1 ?_
  refine sj_iload_n (pl := 2) S dX1_put_4 rfl rfl ?_
  refine sj_iload_n (pl := 1) S dX1_put_5 rfl rfl ?_
  refine sj_iast S aX_27 H.1 dX1_put_6 (fun st63 est63 => ?_)
  have H := H.2 st63 est63
  refine sj_aload_n (pl := 0) S dX1_put_7 rfl rfl ?_
  refine sj_getr S fX_26_1 iX1_put_1 rfl (by decide) mX1_put_15 dX1_put_8 ?_
  refine sj_iload_n (pl := 1) S dX1_put_11 rfl rfl ?_
  refine sj_iload_n (pl := 2) S dX1_put_12 rfl rfl ?_
  refine sj_iast S aX_28 H.1 dX1_put_13 (fun st64 est64 => ?_)
  have H := H.2 st64 est64
  exact hret _ _ _ dX1_put_14 H
set_option maxRecDepth 100000 in
set_option maxHeartbeats 4000000 in
theorem kX1_put (l : Launch) (g : sq_G) (v1 v2 : Int) (st : sq_S) (Q : Int → sq_S → Prop) (H : wX1_put v1 v2 st Q) : sq_Cv l yX1_put wsX1_put rX1_put g sq_X [.ref (g.2.2 26), .int (sq_z v1), .int (sq_z v2)] st Q := by
  refine sq_in_v (cc := cX1_put) (nL := 3) (own := RX1) (by decide) rfl rfl (Nat.le_of_ble_eq_true rfl) ?_
  intro J S hret
  exact tX1_put_0 S hret v1 v2 st H
/-! layOut ([II)V : X1_layOut -/
def bX1_layOut_8 (K8 : Int → Int → Int → Int → sq_S → Prop) (K58 : Int → Int → Int → sq_S → Prop) (Q : Int → sq_S → Prop) (v2 v3 v4 v5 : Int) (st : sq_S) : Prop :=
  (sq_rg v5 ∧ sq_rg v2) ∧ (v2 ≤ v5 → K58 v3 v4 0 st) ∧ (v5 < v2 → sq_ib v5 6 ∧ (sq_rg (sq_and (sq_shr v4 (st 4 v5.toNat)) 1) ∧ (¬ (sq_and (sq_shr v4 (st 4 v5.toNat)) 1) = 0 → K8 v2 v3 v4 (v5 + 1) st) ∧ ((sq_and (sq_shr v4 (st 4 v5.toNat)) 1) = 0 → sq_ib v5 6 ∧ (∀ y62 : Int, y62 = (sq_or v4 (sq_shl 1 (st 4 v5.toNat))) → (sq_ib v5 6 ∧ (wX1_put (st 4 v5.toNat) v3 st (fun _ st65 => K8 v2 (v3 + 1) y62 (v5 + 1) st65)))))))
def bX1_layOut_58 (K8 : Int → Int → Int → Int → sq_S → Prop) (K58 : Int → Int → Int → sq_S → Prop) (Q : Int → sq_S → Prop) (v3 v4 v5 : Int) (st : sq_S) : Prop :=
  (sq_rg v5 ∧ sq_rg 16) ∧ (16 ≤ v5 → Q 0 st) ∧ (v5 < 16 → sq_rg (sq_and (sq_shr v4 v5) 1) ∧ (¬ (sq_and (sq_shr v4 v5) 1) = 0 → K58 v3 v4 (v5 + 1) st) ∧ ((sq_and (sq_shr v4 v5) 1) = 0 → wX1_put v5 v3 st (fun _ st66 => K58 (v3 + 1) v4 (v5 + 1) st66)))
def bX1_layOut_0 (K8 : Int → Int → Int → Int → sq_S → Prop) (K58 : Int → Int → Int → sq_S → Prop) (Q : Int → sq_S → Prop) (v2 : Int) (st : sq_S) : Prop :=
  K8 v2 0 0 0 st
def wX1_layOut (v2 : Int) (st : sq_S) (Q : Int → sq_S → Prop) : Prop :=
  ∀ (K8 : Int → Int → Int → Int → sq_S → Prop) (K58 : Int → Int → Int → sq_S → Prop), (∀ (v2 v3 v4 v5 : Int) (st : sq_S), bX1_layOut_8 K8 K58 Q v2 v3 v4 v5 st → K8 v2 v3 v4 v5 st) → (∀ (v3 v4 v5 : Int) (st : sq_S), bX1_layOut_58 K8 K58 Q v3 v4 v5 st → K58 v3 v4 v5 st) → bX1_layOut_0 K8 K58 Q v2 st
def rX1_layOut : Room := { frames := 1, cells := 0, slots := 0, locals := 22 }
def qX1_layOut_8 (J : sq_K) (g : sq_G) : Int → Int → Int → Int → sq_S → Prop := fun v2 v3 v4 v5 st => J 8 [(0, .ref (g.2.2 26)), (1, .ref (g.2.2 4)), (2, .int (sq_z v2)), (3, .int (sq_z v3)), (4, .int (sq_z v4)), (5, .int (sq_z v5))] [] st
def qX1_layOut_58 (J : sq_K) (g : sq_G) : Int → Int → Int → sq_S → Prop := fun v3 v4 v5 st => J 58 [(0, .ref (g.2.2 26)), (3, .int (sq_z v3)), (4, .int (sq_z v4)), (5, .int (sq_z v5))] [] st
set_option maxRecDepth 100000 in
set_option maxHeartbeats 4000000 in
theorem tX1_layOut_8 {l : Launch} {g : sq_G} {J : sq_K} {Q : Int → sq_S → Prop} (S : sq_J l rX1_layOut cX1_layOut 6 RX1 wsX1_layOut g sq_X J) (hret : ∀ (pc : Nat) (lv : List (Nat × Value)) (st' : sq_S), decode cX1_layOut pc = .ok (.return_, 1) → Q 0 st' → J pc lv [] st') (v2 v3 v4 v5 : Int) (st : sq_S) (H : bX1_layOut_8 (qX1_layOut_8 J g) (qX1_layOut_58 J g) Q v2 v3 v4 v5 st) : J 8 [(0, .ref (g.2.2 26)), (1, .ref (g.2.2 4)), (2, .int (sq_z v2)), (3, .int (sq_z v3)), (4, .int (sq_z v4)), (5, .int (sq_z v5))] [] st := by
  unfold bX1_layOut_8 at H
  refine sj_iload (pl := 5) S dX1_layOut_8 rfl ?_
  refine sj_iload_n (pl := 2) S dX1_layOut_10 rfl rfl ?_
  refine sj_icmp_ge (tgt := 55) S H.1 dX1_layOut_11 (by decide) (fun c9 => ?_) (fun c9 => ?_)
  · have H := H.2.1 c9
    refine sj_iconst S dX1_layOut_55 ?_
    refine sj_istorea (lv' := [(0, .ref (g.2.2 26)), (1, .ref (g.2.2 4)), (2, .int (sq_z v2)), (3, .int (sq_z v3)), (4, .int (sq_z v4))]) S dX1_layOut_56 (by decide) (fun _ => rfl) ?_
    exact sj_lv S [1, 4, 5, 0] rfl H
  · have H := H.2.2 c9
    refine sj_iload (pl := 4) S dX1_layOut_14 rfl ?_
    refine sj_aload_n (pl := 1) S dX1_layOut_16 rfl rfl ?_
    refine sj_iload (pl := 5) S dX1_layOut_17 rfl ?_
    refine sj_iald S aX_4 H.1 dX1_layOut_19 ?_
    have H := H.2
    refine sj_ishr S dX1_layOut_20 ?_
    refine sj_iconst S dX1_layOut_21 ?_
    refine sj_iand S dX1_layOut_22 ?_
    refine sj_if_ne (tgt := 49) S H.1 dX1_layOut_23 (by decide) (fun c9 => ?_) (fun c9 => ?_)
    · have H := H.2.1 c9
      refine sj_iinc (pl := 5) (lv' := [(0, .ref (g.2.2 26)), (1, .ref (g.2.2 4)), (2, .int (sq_z v2)), (3, .int (sq_z v3)), (4, .int (sq_z v4))]) S dX1_layOut_49 rfl (by decide) (fun _ => rfl) ?_
      refine sj_goto (tgt := 8) S dX1_layOut_52 (by decide) ?_
      exact sj_lv S [1, 2, 3, 4, 5, 0] rfl H
    · have H := H.2.2 c9
      refine sj_iload (pl := 4) S dX1_layOut_26 rfl ?_
      refine sj_iconst S dX1_layOut_28 ?_
      refine sj_aload_n (pl := 1) S dX1_layOut_29 rfl rfl ?_
      refine sj_iload (pl := 5) S dX1_layOut_30 rfl ?_
      refine sj_iald S aX_4 H.1 dX1_layOut_32 ?_
      have H := H.2
      refine sj_ishl S dX1_layOut_33 ?_
      refine sj_ior S dX1_layOut_34 ?_
      refine sj_istore (lv' := [(0, .ref (g.2.2 26)), (1, .ref (g.2.2 4)), (2, .int (sq_z v2)), (3, .int (sq_z v3)), (5, .int (sq_z v5))]) S dX1_layOut_35 (by decide) (fun _ => rfl) (fun y62 ey62 => ?_)
      have H := H y62 ey62
      refine sj_aload_n (pl := 1) S dX1_layOut_37 rfl rfl ?_
      refine sj_aload_n (pl := 2) S dX1_layOut_38 rfl rfl ?_
      refine sj_iload (pl := 5) S dX1_layOut_39 rfl ?_
      refine sj_iald S aX_4 H.1 dX1_layOut_41 ?_
      have H := H.2
      refine sj_iload_n (pl := 4) S dX1_layOut_42 rfl rfl ?_
      refine sj_vv (rest := []) (q0 := 26) (ci := 1) S (kX1_put l g (st 4 v5.toNat) v3 st _ H) (fun s args hts => cwV 2 hts gX1_layOut_X1_put rfl rfl rfl (by decide +kernel) ⟨Nat.le_of_ble_eq_true rfl, Nat.le_of_ble_eq_true rfl⟩) rfl rfl rfl rfl (Nat.le_of_ble_eq_true rfl) dX1_layOut_43 (fun st65 H => ?_)
      refine sj_iinc (pl := 4) (lv' := [(4, .int (sq_z y62)), (0, .ref (g.2.2 26)), (1, .ref (g.2.2 4)), (2, .int (sq_z v2)), (5, .int (sq_z v5))]) S dX1_layOut_46 rfl (by decide) (fun _ => rfl) ?_
      refine sj_iinc (pl := 5) (lv' := [(3, .int (sq_z (v3 + 1))), (4, .int (sq_z y62)), (0, .ref (g.2.2 26)), (1, .ref (g.2.2 4)), (2, .int (sq_z v2))]) S dX1_layOut_49 rfl (by decide) (fun _ => rfl) ?_
      refine sj_goto (tgt := 8) S dX1_layOut_52 (by decide) ?_
      exact sj_lv S [3, 4, 5, 1, 2, 0] rfl H
set_option maxRecDepth 100000 in
set_option maxHeartbeats 4000000 in
theorem tX1_layOut_58 {l : Launch} {g : sq_G} {J : sq_K} {Q : Int → sq_S → Prop} (S : sq_J l rX1_layOut cX1_layOut 6 RX1 wsX1_layOut g sq_X J) (hret : ∀ (pc : Nat) (lv : List (Nat × Value)) (st' : sq_S), decode cX1_layOut pc = .ok (.return_, 1) → Q 0 st' → J pc lv [] st') (v3 v4 v5 : Int) (st : sq_S) (H : bX1_layOut_58 (qX1_layOut_8 J g) (qX1_layOut_58 J g) Q v3 v4 v5 st) : J 58 [(0, .ref (g.2.2 26)), (3, .int (sq_z v3)), (4, .int (sq_z v4)), (5, .int (sq_z v5))] [] st := by
  unfold bX1_layOut_58 at H
  refine sj_iload (pl := 3) S dX1_layOut_58 rfl ?_
  refine sj_bipush S dX1_layOut_60 (by decide +kernel) ?_
  refine sj_icmp_ge (tgt := 91) S H.1 dX1_layOut_62 (by decide) (fun c9 => ?_) (fun c9 => ?_)
  · have H := H.2.1 c9
    exact hret _ _ _ dX1_layOut_91 H
  · have H := H.2.2 c9
    refine sj_iload (pl := 2) S dX1_layOut_65 rfl ?_
    refine sj_iload (pl := 3) S dX1_layOut_67 rfl ?_
    refine sj_ishr S dX1_layOut_69 ?_
    refine sj_iconst S dX1_layOut_70 ?_
    refine sj_iand S dX1_layOut_71 ?_
    refine sj_if_ne (tgt := 85) S H.1 dX1_layOut_72 (by decide) (fun c9 => ?_) (fun c9 => ?_)
    · have H := H.2.1 c9
      refine sj_iinc (pl := 3) (lv' := [(0, .ref (g.2.2 26)), (3, .int (sq_z v3)), (4, .int (sq_z v4))]) S dX1_layOut_85 rfl (by decide) (fun _ => rfl) ?_
      refine sj_goto (tgt := 58) S dX1_layOut_88 (by decide) ?_
      exact sj_lv S [1, 2, 3, 0] rfl H
    · have H := H.2.2 c9
      refine sj_aload_n (pl := 0) S dX1_layOut_75 rfl rfl ?_
      refine sj_iload (pl := 3) S dX1_layOut_76 rfl ?_
      refine sj_iload_n (pl := 1) S dX1_layOut_78 rfl rfl ?_
      refine sj_vv (rest := []) (q0 := 26) (ci := 1) S (kX1_put l g v5 v3 st _ H) (fun s args hts => cwV 2 hts gX1_layOut_X1_put rfl rfl rfl (by decide +kernel) ⟨Nat.le_of_ble_eq_true rfl, Nat.le_of_ble_eq_true rfl⟩) rfl rfl rfl rfl (Nat.le_of_ble_eq_true rfl) dX1_layOut_79 (fun st66 H => ?_)
      refine sj_iinc (pl := 1) (lv' := [(0, .ref (g.2.2 26)), (4, .int (sq_z v4)), (5, .int (sq_z v5))]) S dX1_layOut_82 rfl (by decide) (fun _ => rfl) ?_
      refine sj_iinc (pl := 3) (lv' := [(3, .int (sq_z (v3 + 1))), (0, .ref (g.2.2 26)), (4, .int (sq_z v4))]) S dX1_layOut_85 rfl (by decide) (fun _ => rfl) ?_
      refine sj_goto (tgt := 58) S dX1_layOut_88 (by decide) ?_
      exact sj_lv S [2, 1, 3, 0] rfl H
set_option maxRecDepth 100000 in
set_option maxHeartbeats 4000000 in
theorem tX1_layOut_0 {l : Launch} {g : sq_G} {J : sq_K} {Q : Int → sq_S → Prop} (S : sq_J l rX1_layOut cX1_layOut 6 RX1 wsX1_layOut g sq_X J) (hret : ∀ (pc : Nat) (lv : List (Nat × Value)) (st' : sq_S), decode cX1_layOut pc = .ok (.return_, 1) → Q 0 st' → J pc lv [] st') (v2 : Int) (st : sq_S) (H : bX1_layOut_0 (qX1_layOut_8 J g) (qX1_layOut_58 J g) Q v2 st) : J 0 [(0, .ref (g.2.2 26)), (1, .ref (g.2.2 4)), (2, .int (sq_z v2))] [] st := by
  unfold bX1_layOut_0 at H
  refine sj_iconst S dX1_layOut_0 ?_
  refine sj_istore_na (lv' := [(0, .ref (g.2.2 26)), (1, .ref (g.2.2 4)), (2, .int (sq_z v2))]) S dX1_layOut_1 rfl (by decide) (fun _ => rfl) ?_
  refine sj_iconst S dX1_layOut_2 ?_
  refine sj_istorea (lv' := [(3, .int (sq_z 0)), (0, .ref (g.2.2 26)), (1, .ref (g.2.2 4)), (2, .int (sq_z v2))]) S dX1_layOut_3 (by decide) (fun _ => rfl) ?_
  refine sj_iconst S dX1_layOut_5 ?_
  refine sj_istorea (lv' := [(4, .int (sq_z 0)), (3, .int (sq_z 0)), (0, .ref (g.2.2 26)), (1, .ref (g.2.2 4)), (2, .int (sq_z v2))]) S dX1_layOut_6 (by decide) (fun _ => rfl) ?_
  exact sj_lv S [3, 4, 5, 2, 1, 0] rfl H
set_option maxRecDepth 100000 in
set_option maxHeartbeats 4000000 in
theorem kX1_layOut (l : Launch) (g : sq_G) (v2 : Int) (st : sq_S) (Q : Int → sq_S → Prop) (H : wX1_layOut v2 st Q) : sq_Cv l yX1_layOut wsX1_layOut rX1_layOut g sq_X [.ref (g.2.2 26), .ref (g.2.2 4), .int (sq_z v2)] st Q := by
  refine sq_in_v (cc := cX1_layOut) (nL := 6) (own := RX1) (by decide) rfl rfl (Nat.le_of_ble_eq_true rfl) ?_
  intro J S hret
  exact tX1_layOut_0 S hret v2 st (H (qX1_layOut_8 J g) (qX1_layOut_58 J g) (tX1_layOut_8 S hret) (tX1_layOut_58 S hret))
/-! letterAt ([III)I : X3_letterAt_27 -/
def wX3_letterAt_27 (v1 v2 : Int) (st : sq_S) (Q : Int → sq_S → Prop) : Prop :=
  (sq_rg v2 ∧ sq_rg (-1)) ∧ (¬ v2 = (-1) → wX3_isOutside v2 0 (v1 - 1) st (fun r68 st69 => sq_rg r68 ∧ (r68 = 0 → sq_ib v2 16 ∧ (Q (st69 27 v2.toNat) st69)) ∧ (¬ r68 = 0 → Q (-6) st69))) ∧ (v2 = (-1) → Q v1 st)
def rX3_letterAt_27 : Room := { frames := 1, cells := 0, slots := 0, locals := 22 }
set_option maxRecDepth 100000 in
set_option maxHeartbeats 4000000 in
theorem tX3_letterAt_27_0 {l : Launch} {g : sq_G} {J : sq_K} {Q : Int → sq_S → Prop} (S : sq_J l rX3_letterAt_27 cX3_letterAt 3 RX3 wsX3_letterAt g sq_X J) (hret : ∀ (pc : Nat) (lv : List (Nat × Value)) (r : Int) (st' : sq_S), decode cX3_letterAt pc = .ok (.ireturn, 1) → Q r st' → J pc lv [.int (sq_z r)] st') (v1 v2 : Int) (st : sq_S) (H : wX3_letterAt_27 v1 v2 st Q) : J 0 [(0, .ref (g.2.2 27)), (1, .int (sq_z v1)), (2, .int (sq_z v2))] [] st := by
  unfold wX3_letterAt_27 at H
  refine sj_iload_n (pl := 2) S dX3_letterAt_0 rfl rfl ?_
  refine sj_iconst S dX3_letterAt_1 ?_
  refine sj_icmp_ne (tgt := 7) S H.1 dX3_letterAt_2 (by decide) (fun c9 => ?_) (fun c9 => ?_)
  · have H := H.2.1 c9
    refine sj_iload_n (pl := 2) S dX3_letterAt_7 rfl rfl ?_
    refine sj_iconst S dX3_letterAt_8 ?_
    refine sj_iload_n (pl := 1) S dX3_letterAt_9 rfl rfl ?_
    refine sj_iconst S dX3_letterAt_10 ?_
    refine sj_isub S dX3_letterAt_11 ?_
    refine sj_si (rest := []) S (kX3_isOutside l g v2 0 (v1 - 1) st _ H) (fun s args hts => va_cwS 3 hts gX3_letterAt_X3_isOutside rfl rfl rfl (by decide +kernel) ⟨Nat.le_of_ble_eq_true rfl, Nat.le_of_ble_eq_true rfl⟩) rfl rfl (Nat.le_of_ble_eq_true rfl) dX3_letterAt_12 (fun r68 st69 H => ?_)
    refine sj_if_eq (tgt := 23) S H.1 dX3_letterAt_15 (by decide) (fun c9 => ?_) (fun c9 => ?_)
    · have H := H.2.1 c9
      refine sj_aload_n (pl := 0) S dX3_letterAt_23 rfl rfl ?_
      refine sj_iload_n (pl := 2) S dX3_letterAt_24 rfl rfl ?_
      refine sj_iald S aX_27 H.1 dX3_letterAt_25 ?_
      have H := H.2
      exact hret _ _ _ _ dX3_letterAt_26 H
    · have H := H.2.2 c9
      refine sj_bipush S dX3_letterAt_18 (by decide +kernel) ?_
      refine sj_goto (tgt := 26) S dX3_letterAt_20 (by decide) ?_
      exact hret _ _ _ _ dX3_letterAt_26 H
  · have H := H.2.2 c9
    refine sj_iload_n (pl := 1) S dX3_letterAt_5 rfl rfl ?_
    exact hret _ _ _ _ dX3_letterAt_6 H
set_option maxRecDepth 100000 in
set_option maxHeartbeats 4000000 in
theorem kX3_letterAt_27 (l : Launch) (g : sq_G) (v1 v2 : Int) (st : sq_S) (Q : Int → sq_S → Prop) (H : wX3_letterAt_27 v1 v2 st Q) : sq_Ci l yX3_letterAt wsX3_letterAt rX3_letterAt_27 g sq_X [.ref (g.2.2 27), .int (sq_z v1), .int (sq_z v2)] st Q := by
  refine sq_in_i (cc := cX3_letterAt) (nL := 3) (own := RX3) (by decide) rfl rfl (Nat.le_of_ble_eq_true rfl) ?_
  intro J S hret
  exact tX3_letterAt_27_0 S hret v1 v2 st H
/-! letter (II)I : X3_letter -/
theorem iX3_letter_0 : ∀ w ∈ u_ws RX0 TX0 9, w ∈ wsX3_letter := fun _ h => List.mem_cons_of_mem _ (List.mem_append_left _ (List.mem_append_left _ (List.mem_append_right _ h)))
theorem iX3_letter_1 : ∀ w ∈ u_ws RX1 TX1 2, w ∈ wsX3_letter := fun _ h => List.mem_cons_of_mem _ (List.mem_append_right _ h)
theorem iX3_letter_2 : ∀ w ∈ u_ws RX2 TX2 5, w ∈ wsX3_letter := fun _ h => List.mem_cons_of_mem _ (List.mem_append_left _ (List.mem_append_right _ h))
theorem iX3_letter_3 : ∀ w ∈ u_ws RX3 TX3 8, w ∈ wsX3_letter := fun _ h => List.mem_cons_of_mem _ (List.mem_append_left _ (List.mem_append_left _ (List.mem_append_left _ (List.mem_append_right _ h))))
theorem mX3_letter_16 : Cond.fieldLink RX3 16 (TX3 2).1 (TX3 2).2.1 (TX3 2).2.2.1 ∈ wsX3_letter := List.mem_of_getElem? (i := 1) rfl
theorem mX3_letter_27 : Cond.fieldLink RX3 27 (TX3 5).1 (TX3 5).2.1 (TX3 5).2.2.1 ∈ wsX3_letter := List.mem_of_getElem? (i := 6) rfl
theorem mX3_letter_49 : Cond.fieldLink RX3 49 (TX0 0).1 (TX0 0).2.1 (TX0 0).2.2.1 ∈ wsX3_letter := List.mem_of_getElem? (i := 2) rfl
theorem mX3_letter_56 : Cond.fieldLink RX3 56 (TX0 1).1 (TX0 1).2.1 (TX0 1).2.2.1 ∈ wsX3_letter := List.mem_of_getElem? (i := 3) rfl
theorem mX3_letter_59 : Cond.fieldLink RX3 59 (TX0 2).1 (TX0 2).2.1 (TX0 2).2.2.1 ∈ wsX3_letter := List.mem_of_getElem? (i := 4) rfl
theorem mX3_letter_62 : Cond.fieldLink RX3 62 (TX0 3).1 (TX0 3).2.1 (TX0 3).2.2.1 ∈ wsX3_letter := List.mem_of_getElem? (i := 5) rfl
theorem mX3_letter_86 : Cond.fieldLink RX3 86 (TX2 1).1 (TX2 1).2.1 (TX2 1).2.2.1 ∈ wsX3_letter := List.mem_of_getElem? (i := 7) rfl
theorem mX3_letter_96 : Cond.fieldLink RX3 96 (TX1 0).1 (TX1 0).2.1 (TX1 0).2.2.1 ∈ wsX3_letter := List.mem_of_getElem? (i := 8) rfl
def wX3_letter (v1 v2 : Int) (st : sq_S) (Q : Int → sq_S → Prop) : Prop :=
  sq_rg v1 ∧ (v1 = 0 → wX3_letterAt_3 (st 2 1) v2 st (fun r56 st57 => Q r56 st57)) ∧ (v1 = 1 → wX3_letterAt_4 (st 2 3) v2 st (fun r60 st61 => Q r60 st61)) ∧ (v1 = 2 → wX1_layOut (st 2 3) st (fun _ st67 => wX3_letterAt_27 16 v2 st67 (fun r70 st71 => Q r70 st71))) ∧ ((v1 < 0 ∨ 2 < v1) → Q (-2) st)
def rX3_letter : Room := { frames := 2, cells := 0, slots := 0, locals := 47 }
set_option maxRecDepth 100000 in
set_option maxHeartbeats 4000000 in
theorem tX3_letter_0 {l : Launch} {g : sq_G} {J : sq_K} {Q : Int → sq_S → Prop} (S : sq_J l rX3_letter cX3_letter 3 RX3 wsX3_letter g sq_X J) (hret : ∀ (pc : Nat) (lv : List (Nat × Value)) (r : Int) (st' : sq_S), decode cX3_letter pc = .ok (.ireturn, 1) → Q r st' → J pc lv [.int (sq_z r)] st') (v1 v2 : Int) (st : sq_S) (H : wX3_letter v1 v2 st Q) : J 0 [(0, .ref (g.2.2 0)), (1, .int (sq_z v1)), (2, .int (sq_z v2))] [] st := by
  unfold wX3_letter at H
  refine sj_iload_n (pl := 1) S dX3_letter_0 rfl rfl ?_
  by_cases c0 : v1 = 0
  · refine sj_tab (v := 0) (tgt := 28) S (by decide) c0 dX3_letter_1 (by decide) (by decide) rfl (by decide) ?_
    have H := H.2.1 c0
    refine sj_aload_n (pl := 0) S dX3_letter_28 rfl rfl ?_
    refine sj_getr S fX_0_2 iX3_letter_3 rfl (by decide) mX3_letter_16 dX3_letter_29 ?_
    refine sj_getr S fX_2_0 iX3_letter_0 rfl (by decide) mX3_letter_49 dX3_letter_32 ?_
    refine sj_aload_n (pl := 0) S dX3_letter_35 rfl rfl ?_
    refine sj_getr S fX_0_2 iX3_letter_3 rfl (by decide) mX3_letter_16 dX3_letter_36 ?_
    refine sj_geti S fX_2_1 iX3_letter_0 rfl (by decide) mX3_letter_56 dX3_letter_39 ?_
    refine sj_iload_n (pl := 2) S dX3_letter_42 rfl rfl ?_
    refine sj_si (rest := []) S (kX3_letterAt_3 l g (st 2 1) v2 st _ H) (fun s args hts => va_cwS 3 hts gX3_letter_X3_letterAt rfl rfl rfl (by decide +kernel) ⟨Nat.le_of_ble_eq_true rfl, Nat.le_of_ble_eq_true rfl⟩) rfl rfl (Nat.le_of_ble_eq_true rfl) dX3_letter_43 (fun r56 st57 H => ?_)
    exact hret _ _ _ _ dX3_letter_46 H
  by_cases c1 : v1 = 1
  · refine sj_tab (v := 1) (tgt := 47) S (by decide) c1 dX3_letter_1 (by decide) (by decide) rfl (by decide) ?_
    have H := H.2.2.1 c1
    refine sj_aload_n (pl := 0) S dX3_letter_47 rfl rfl ?_
    refine sj_getr S fX_0_2 iX3_letter_3 rfl (by decide) mX3_letter_16 dX3_letter_48 ?_
    refine sj_getr S fX_2_2 iX3_letter_0 rfl (by decide) mX3_letter_59 dX3_letter_51 ?_
    refine sj_aload_n (pl := 0) S dX3_letter_54 rfl rfl ?_
    refine sj_getr S fX_0_2 iX3_letter_3 rfl (by decide) mX3_letter_16 dX3_letter_55 ?_
    refine sj_geti S fX_2_3 iX3_letter_0 rfl (by decide) mX3_letter_62 dX3_letter_58 ?_
    refine sj_iload_n (pl := 2) S dX3_letter_61 rfl rfl ?_
    refine sj_si (rest := []) S (kX3_letterAt_4 l g (st 2 3) v2 st _ H) (fun s args hts => va_cwS 3 hts gX3_letter_X3_letterAt rfl rfl rfl (by decide +kernel) ⟨Nat.le_of_ble_eq_true rfl, Nat.le_of_ble_eq_true rfl⟩) rfl rfl (Nat.le_of_ble_eq_true rfl) dX3_letter_62 (fun r60 st61 H => ?_)
    exact hret _ _ _ _ dX3_letter_65 H
  by_cases c2 : v1 = 2
  · refine sj_tab (v := 2) (tgt := 66) S (by decide) c2 dX3_letter_1 (by decide) (by decide) rfl (by decide) ?_
    have H := H.2.2.2.1 c2
    refine sj_aload_n (pl := 0) S dX3_letter_66 rfl rfl ?_
    refine sj_getr S fX_0_5 iX3_letter_3 rfl (by decide) mX3_letter_27 dX3_letter_67 ?_
    refine sj_getr S fX_24_1 iX3_letter_2 rfl (by decide) mX3_letter_86 dX3_letter_70 ?_
    refine sj_aload_n (pl := 0) S dX3_letter_73 rfl rfl ?_
    refine sj_getr S fX_0_2 iX3_letter_3 rfl (by decide) mX3_letter_16 dX3_letter_74 ?_
    refine sj_getr S fX_2_2 iX3_letter_0 rfl (by decide) mX3_letter_59 dX3_letter_77 ?_
    refine sj_aload_n (pl := 0) S dX3_letter_80 rfl rfl ?_
    refine sj_getr S fX_0_2 iX3_letter_3 rfl (by decide) mX3_letter_16 dX3_letter_81 ?_
    refine sj_geti S fX_2_3 iX3_letter_0 rfl (by decide) mX3_letter_62 dX3_letter_84 ?_
    refine sj_vv (rest := []) (q0 := 26) (ci := 1) S (kX1_layOut l g (st 2 3) st _ H) (fun s args hts => cwV 2 hts gX3_letter_X1_layOut rfl rfl rfl (by decide +kernel) ⟨Nat.le_of_ble_eq_true rfl, Nat.le_of_ble_eq_true rfl⟩) rfl rfl rfl rfl (Nat.le_of_ble_eq_true rfl) dX3_letter_87 (fun st67 H => ?_)
    refine sj_aload_n (pl := 0) S dX3_letter_90 rfl rfl ?_
    refine sj_getr S fX_0_5 iX3_letter_3 rfl (by decide) mX3_letter_27 dX3_letter_91 ?_
    refine sj_getr S fX_24_1 iX3_letter_2 rfl (by decide) mX3_letter_86 dX3_letter_94 ?_
    refine sj_getr S fX_26_0 iX3_letter_1 rfl (by decide) mX3_letter_96 dX3_letter_97 ?_
    refine sj_bipush S dX3_letter_100 (by decide +kernel) ?_
    refine sj_iload_n (pl := 2) S dX3_letter_102 rfl rfl ?_
    refine sj_si (rest := []) S (kX3_letterAt_27 l g 16 v2 st67 _ H) (fun s args hts => va_cwS 3 hts gX3_letter_X3_letterAt rfl rfl rfl (by decide +kernel) ⟨Nat.le_of_ble_eq_true rfl, Nat.le_of_ble_eq_true rfl⟩) rfl rfl (Nat.le_of_ble_eq_true rfl) dX3_letter_103 (fun r70 st71 H => ?_)
    exact hret _ _ _ _ dX3_letter_106 H
  have cd : v1 < 0 ∨ 2 < v1 := by omega
  refine sj_tabd (tgt := 107) S H.1 cd dX3_letter_1 (by decide) ?_
  have H := H.2.2.2.2 cd
  refine sj_bipush S dX3_letter_107 (by decide +kernel) ?_
  exact hret _ _ _ _ dX3_letter_109 H
set_option maxRecDepth 100000 in
set_option maxHeartbeats 4000000 in
theorem kX3_letter (l : Launch) (g : sq_G) (v1 v2 : Int) (st : sq_S) (Q : Int → sq_S → Prop) (H : wX3_letter v1 v2 st Q) : sq_Ci l yX3_letter wsX3_letter rX3_letter g sq_X [.ref (g.2.2 0), .int (sq_z v1), .int (sq_z v2)] st Q := by
  refine sq_in_i (cc := cX3_letter) (nL := 3) (own := RX3) (by decide) rfl rfl (Nat.le_of_ble_eq_true rfl) ?_
  intro J S hret
  exact tX3_letter_0 S hret v1 v2 st H
/-! hasOddText ()Z : X3_hasOddText -/
theorem iX3_hasOddText_0 : ∀ w ∈ u_ws RX0 TX0 9, w ∈ wsX3_hasOddText := fun _ h => List.mem_cons_of_mem _ (List.mem_append_right _ h)
theorem iX3_hasOddText_3 : ∀ w ∈ u_ws RX3 TX3 8, w ∈ wsX3_hasOddText := fun _ h => List.mem_cons_of_mem _ (List.mem_append_left _ (List.mem_append_right _ h))
theorem mX3_hasOddText_16 : Cond.fieldLink RX3 16 (TX3 2).1 (TX3 2).2.1 (TX3 2).2.2.1 ∈ wsX3_hasOddText := List.mem_of_getElem? (i := 1) rfl
theorem mX3_hasOddText_56 : Cond.fieldLink RX3 56 (TX0 1).1 (TX0 1).2.1 (TX0 1).2.2.1 ∈ wsX3_hasOddText := List.mem_of_getElem? (i := 2) rfl
def wX3_hasOddText (st : sq_S) (Q : Int → sq_S → Prop) : Prop :=
  (sq_rg (sq_and (st 2 1) 1) ∧ sq_rg 1) ∧ (¬ (sq_and (st 2 1) 1) = 1 → ((0 : Int) = 0 ∨ (0 : Int) = 1) ∧ Q 0 st) ∧ ((sq_and (st 2 1) 1) = 1 → ((1 : Int) = 0 ∨ (1 : Int) = 1) ∧ Q 1 st)
def rX3_hasOddText : Room := { frames := 0, cells := 0, slots := 0, locals := 0 }
set_option maxRecDepth 100000 in
set_option maxHeartbeats 4000000 in
theorem tX3_hasOddText_0 {l : Launch} {g : sq_G} {J : sq_K} {Q : Int → sq_S → Prop} (S : sq_J l rX3_hasOddText cX3_hasOddText 1 RX3 wsX3_hasOddText g sq_X J) (hret : ∀ (pc : Nat) (lv : List (Nat × Value)) (r : Int) (st' : sq_S), decode cX3_hasOddText pc = .ok (.ireturn, 1) → (r = 0 ∨ r = 1) ∧ Q r st' → J pc lv [.int (sq_z r)] st') (st : sq_S) (H : wX3_hasOddText st Q) : J 0 [(0, .ref (g.2.2 0))] [] st := by
  unfold wX3_hasOddText at H
  refine sj_aload_n (pl := 0) S dX3_hasOddText_0 rfl rfl ?_
  refine sj_getr S fX_0_2 iX3_hasOddText_3 rfl (by decide) mX3_hasOddText_16 dX3_hasOddText_1 ?_
  refine sj_geti S fX_2_1 iX3_hasOddText_0 rfl (by decide) mX3_hasOddText_56 dX3_hasOddText_4 ?_
  refine sj_iconst S dX3_hasOddText_7 ?_
  refine sj_iand S dX3_hasOddText_8 ?_
  refine sj_iconst S dX3_hasOddText_9 ?_
  refine sj_icmp_ne (tgt := 17) S H.1 dX3_hasOddText_10 (by decide) (fun c9 => ?_) (fun c9 => ?_)
  · have H := H.2.1 c9
    refine sj_iconst S dX3_hasOddText_17 ?_
    exact hret _ _ _ _ dX3_hasOddText_18 H
  · have H := H.2.2 c9
    refine sj_iconst S dX3_hasOddText_13 ?_
    refine sj_goto (tgt := 18) S dX3_hasOddText_14 (by decide) ?_
    exact hret _ _ _ _ dX3_hasOddText_18 H
set_option maxRecDepth 100000 in
set_option maxHeartbeats 4000000 in
theorem kX3_hasOddText (l : Launch) (g : sq_G) (st : sq_S) (Q : Int → sq_S → Prop) (H : wX3_hasOddText  st Q) : sq_Ci l yX3_hasOddText wsX3_hasOddText rX3_hasOddText g sq_X [.ref (g.2.2 0)] st Q := by
  refine sq_in_z (cc := cX3_hasOddText) (nL := 1) (own := RX3) (by decide) rfl rfl (Nat.le_of_ble_eq_true rfl) ?_
  intro J S hret
  exact tX3_hasOddText_0 S hret  st H
/-! addKey (LSecretSquares$Desk;IZ)V : X2_addKey -/
theorem iX2_addKey_0 : ∀ w ∈ u_ws RX0 TX0 9, w ∈ wsX2_addKey := fun _ h => List.mem_cons_of_mem _ (List.mem_append_left _ (List.mem_append_right _ h))
theorem iX2_addKey_2 : ∀ w ∈ u_ws RX2 TX2 5, w ∈ wsX2_addKey := fun _ h => List.mem_cons_of_mem _ (List.mem_append_right _ h)
theorem mX2_addKey_9 : Cond.fieldLink RX2 9 (TX2 0).1 (TX2 0).2.1 (TX2 0).2.2.1 ∈ wsX2_addKey := List.mem_of_getElem? (i := 3) rfl
theorem mX2_addKey_41 : Cond.fieldLink RX2 41 (TX0 2).1 (TX0 2).2.1 (TX0 2).2.2.1 ∈ wsX2_addKey := List.mem_of_getElem? (i := 2) rfl
theorem mX2_addKey_56 : Cond.fieldLink RX2 56 (TX0 1).1 (TX0 1).2.1 (TX0 1).2.2.1 ∈ wsX2_addKey := List.mem_of_getElem? (i := 1) rfl
theorem mX2_addKey_72 : Cond.fieldLink RX2 72 (TX0 0).1 (TX0 0).2.1 (TX0 0).2.2.1 ∈ wsX2_addKey := List.mem_of_getElem? (i := 4) rfl
def bX2_addKey_6 (K6 : Int → Int → Int → Int → sq_S → Prop) (K37 : Int → Int → Int → Int → Int → sq_S → Prop) (Q : Int → sq_S → Prop) (v2 v3 v4 v5 : Int) (st : sq_S) : Prop :=
  (sq_rg v5 ∧ sq_rg (st 2 1)) ∧ ((st 2 1) ≤ v5 → Q 0 st) ∧ (v5 < (st 2 1) → sq_rg v3 ∧ (v3 = 0 → sq_ib v4 6 ∧ (K37 v2 v3 v4 v5 (-(st 4 v4.toNat)) st)) ∧ (¬ v3 = 0 → sq_ib v4 6 ∧ (K37 v2 v3 v4 v5 (st 4 v4.toNat) st)))
def bX2_addKey_37 (K6 : Int → Int → Int → Int → sq_S → Prop) (K37 : Int → Int → Int → Int → Int → sq_S → Prop) (Q : Int → sq_S → Prop) (v2 v3 v4 v5 s0 : Int) (st : sq_S) : Prop :=
  sq_ib v5 48 ∧ (sq_ib v5 48 ∧ (∀ st76 : sq_S, st76 = sq_set st 25 v5.toNat (sq_and ((st 3 v5.toNat) + s0) 15) → ((sq_rg (v4 + 1) ∧ sq_rg v2) ∧ (v2 ≤ (v4 + 1) → K6 v2 v3 0 (v5 + 1) st76) ∧ ((v4 + 1) < v2 → ∀ y77 : Int, y77 = (v4 + 1) → (K6 v2 v3 y77 (v5 + 1) st76)))))
def bX2_addKey_0 (K6 : Int → Int → Int → Int → sq_S → Prop) (K37 : Int → Int → Int → Int → Int → sq_S → Prop) (Q : Int → sq_S → Prop) (v2 v3 : Int) (st : sq_S) : Prop :=
  K6 v2 v3 0 0 st
def wX2_addKey (v2 v3 : Int) (st : sq_S) (Q : Int → sq_S → Prop) : Prop :=
  ∀ (K6 : Int → Int → Int → Int → sq_S → Prop) (K37 : Int → Int → Int → Int → Int → sq_S → Prop), (∀ (v2 v3 v4 v5 : Int) (st : sq_S), bX2_addKey_6 K6 K37 Q v2 v3 v4 v5 st → K6 v2 v3 v4 v5 st) → (∀ (v2 v3 v4 v5 s0 : Int) (st : sq_S), bX2_addKey_37 K6 K37 Q v2 v3 v4 v5 s0 st → K37 v2 v3 v4 v5 s0 st) → bX2_addKey_0 K6 K37 Q v2 v3 st
def rX2_addKey : Room := { frames := 0, cells := 0, slots := 0, locals := 0 }
def qX2_addKey_6 (J : sq_K) (g : sq_G) : Int → Int → Int → Int → sq_S → Prop := fun v2 v3 v4 v5 st => J 6 [(0, .ref (g.2.2 24)), (1, .ref (g.2.2 2)), (2, .int (sq_z v2)), (3, .int (sq_z v3)), (4, .int (sq_z v4)), (5, .int (sq_z v5))] [] st
def qX2_addKey_37 (J : sq_K) (g : sq_G) : Int → Int → Int → Int → Int → sq_S → Prop := fun v2 v3 v4 v5 s0 st => J 37 [(0, .ref (g.2.2 24)), (1, .ref (g.2.2 2)), (2, .int (sq_z v2)), (3, .int (sq_z v3)), (4, .int (sq_z v4)), (5, .int (sq_z v5))] [.int (sq_z s0)] st
set_option maxRecDepth 100000 in
set_option maxHeartbeats 4000000 in
theorem tX2_addKey_6 {l : Launch} {g : sq_G} {J : sq_K} {Q : Int → sq_S → Prop} (S : sq_J l rX2_addKey cX2_addKey 7 RX2 wsX2_addKey g sq_X J) (hret : ∀ (pc : Nat) (lv : List (Nat × Value)) (st' : sq_S), decode cX2_addKey pc = .ok (.return_, 1) → Q 0 st' → J pc lv [] st') (v2 v3 v4 v5 : Int) (st : sq_S) (H : bX2_addKey_6 (qX2_addKey_6 J g) (qX2_addKey_37 J g) Q v2 v3 v4 v5 st) : J 6 [(0, .ref (g.2.2 24)), (1, .ref (g.2.2 2)), (2, .int (sq_z v2)), (3, .int (sq_z v3)), (4, .int (sq_z v4)), (5, .int (sq_z v5))] [] st := by
  unfold bX2_addKey_6 at H
  refine sj_iload (pl := 5) S dX2_addKey_6 rfl ?_
  refine sj_aload_n (pl := 1) S dX2_addKey_8 rfl rfl ?_
  refine sj_geti S fX_2_1 iX2_addKey_0 rfl (by decide) mX2_addKey_56 dX2_addKey_9 ?_
  refine sj_icmp_ge (tgt := 83) S H.1 dX2_addKey_12 (by decide) (fun c9 => ?_) (fun c9 => ?_)
  · have H := H.2.1 c9
    exact hret _ _ _ dX2_addKey_83 H
  · have H := H.2.2 c9
    refine sj_iload_n (pl := 3) S dX2_addKey_15 rfl rfl ?_
    refine sj_if_eq (tgt := 29) S H.1 dX2_addKey_16 (by decide) (fun c9 => ?_) (fun c9 => ?_)
    · have H := H.2.1 c9
      refine sj_aload_n (pl := 1) S dX2_addKey_29 rfl rfl ?_
      refine sj_getr S fX_2_2 iX2_addKey_0 rfl (by decide) mX2_addKey_41 dX2_addKey_30 ?_
      refine sj_iload (pl := 4) S dX2_addKey_33 rfl ?_
      refine sj_iald S aX_4 H.1 dX2_addKey_35 ?_
      have H := H.2
      refine sj_ineg S dX2_addKey_36 ?_
      exact sj_lv S [0, 1, 2, 3, 4, 5] rfl H
    · have H := H.2.2 c9
      refine sj_aload_n (pl := 1) S dX2_addKey_19 rfl rfl ?_
      refine sj_getr S fX_2_2 iX2_addKey_0 rfl (by decide) mX2_addKey_41 dX2_addKey_20 ?_
      refine sj_iload (pl := 4) S dX2_addKey_23 rfl ?_
      refine sj_iald S aX_4 H.1 dX2_addKey_25 ?_
      have H := H.2
      refine sj_goto (tgt := 37) S dX2_addKey_26 (by decide) ?_
      exact sj_lv S [0, 1, 2, 3, 4, 5] rfl H
set_option maxRecDepth 100000 in
set_option maxHeartbeats 4000000 in
theorem tX2_addKey_37 {l : Launch} {g : sq_G} {J : sq_K} {Q : Int → sq_S → Prop} (S : sq_J l rX2_addKey cX2_addKey 7 RX2 wsX2_addKey g sq_X J) (hret : ∀ (pc : Nat) (lv : List (Nat × Value)) (st' : sq_S), decode cX2_addKey pc = .ok (.return_, 1) → Q 0 st' → J pc lv [] st') (v2 v3 v4 v5 s0 : Int) (st : sq_S) (H : bX2_addKey_37 (qX2_addKey_6 J g) (qX2_addKey_37 J g) Q v2 v3 v4 v5 s0 st) : J 37 [(0, .ref (g.2.2 24)), (1, .ref (g.2.2 2)), (2, .int (sq_z v2)), (3, .int (sq_z v3)), (4, .int (sq_z v4)), (5, .int (sq_z v5))] [.int (sq_z s0)] st := by
  unfold bX2_addKey_37 at H
  refine sj_istorea (lv' := [(0, .ref (g.2.2 24)), (1, .ref (g.2.2 2)), (2, .int (sq_z v2)), (3, .int (sq_z v3)), (4, .int (sq_z v4)), (5, .int (sq_z v5))]) S dX2_addKey_37 (by decide) (fun _ => rfl) ?_
  refine sj_aload_n (pl := 1) S dX2_addKey_39 rfl rfl ?_
  refine sj_getr S fX_24_0 iX2_addKey_2 rfl (by decide) mX2_addKey_9 dX2_addKey_40 ?_
  refine sj_iload (pl := 6) S dX2_addKey_43 rfl ?_
  refine sj_aload_n (pl := 2) S dX2_addKey_45 rfl rfl ?_
  refine sj_getr S fX_2_0 iX2_addKey_0 rfl (by decide) mX2_addKey_72 dX2_addKey_46 ?_
  refine sj_iload (pl := 6) S dX2_addKey_49 rfl ?_
  refine sj_iald S aX_3 H.1 dX2_addKey_51 ?_
  have H := H.2
  refine sj_iload (pl := 0) S dX2_addKey_52 rfl ?_
  refine sj_iadd S dX2_addKey_54 ?_
  refine sj_bipush S dX2_addKey_55 (by decide +kernel) ?_
  refine sj_iand S dX2_addKey_57 ?_
  refine sj_iast S aX_25 H.1 dX2_addKey_58 (fun st76 est76 => ?_)
  have H := H.2 st76 est76
  refine sj_iload (pl := 5) S dX2_addKey_59 rfl ?_
  refine sj_iconst S dX2_addKey_61 ?_
  refine sj_iadd S dX2_addKey_62 ?_
  refine sj_iload_n (pl := 3) S dX2_addKey_63 rfl rfl ?_
  refine sj_icmp_ge (tgt := 74) S H.1 dX2_addKey_64 (by decide) (fun c9 => ?_) (fun c9 => ?_)
  · have H := H.2.1 c9
    refine sj_iconst S dX2_addKey_74 ?_
    refine sj_istorea (lv' := [(6, .int (sq_z s0)), (0, .ref (g.2.2 24)), (1, .ref (g.2.2 2)), (2, .int (sq_z v2)), (3, .int (sq_z v3)), (5, .int (sq_z v5))]) S dX2_addKey_75 (by decide) (fun _ => rfl) ?_
    refine sj_iinc (pl := 6) (lv' := [(4, .int (sq_z 0)), (6, .int (sq_z s0)), (0, .ref (g.2.2 24)), (1, .ref (g.2.2 2)), (2, .int (sq_z v2)), (3, .int (sq_z v3))]) S dX2_addKey_77 rfl (by decide) (fun _ => rfl) ?_
    refine sj_goto (tgt := 6) S dX2_addKey_80 (by decide) ?_
    exact sj_lv S [3, 4, 5, 6, 1, 0] rfl H
  · have H := H.2.2 c9
    refine sj_iload (pl := 5) S dX2_addKey_67 rfl ?_
    refine sj_iconst S dX2_addKey_69 ?_
    refine sj_iadd S dX2_addKey_70 ?_
    refine sj_goto (tgt := 75) S dX2_addKey_71 (by decide) ?_
    refine sj_istore (lv' := [(6, .int (sq_z s0)), (0, .ref (g.2.2 24)), (1, .ref (g.2.2 2)), (2, .int (sq_z v2)), (3, .int (sq_z v3)), (5, .int (sq_z v5))]) S dX2_addKey_75 (by decide) (fun _ => rfl) (fun y77 ey77 => ?_)
    have H := H y77 ey77
    refine sj_iinc (pl := 6) (lv' := [(4, .int (sq_z y77)), (6, .int (sq_z s0)), (0, .ref (g.2.2 24)), (1, .ref (g.2.2 2)), (2, .int (sq_z v2)), (3, .int (sq_z v3))]) S dX2_addKey_77 rfl (by decide) (fun _ => rfl) ?_
    refine sj_goto (tgt := 6) S dX2_addKey_80 (by decide) ?_
    exact sj_lv S [3, 4, 5, 6, 1, 0] rfl H
set_option maxRecDepth 100000 in
set_option maxHeartbeats 4000000 in
theorem tX2_addKey_0 {l : Launch} {g : sq_G} {J : sq_K} {Q : Int → sq_S → Prop} (S : sq_J l rX2_addKey cX2_addKey 7 RX2 wsX2_addKey g sq_X J) (hret : ∀ (pc : Nat) (lv : List (Nat × Value)) (st' : sq_S), decode cX2_addKey pc = .ok (.return_, 1) → Q 0 st' → J pc lv [] st') (v2 v3 : Int) (st : sq_S) (H : bX2_addKey_0 (qX2_addKey_6 J g) (qX2_addKey_37 J g) Q v2 v3 st) : J 0 [(0, .ref (g.2.2 24)), (1, .ref (g.2.2 2)), (2, .int (sq_z v2)), (3, .int (sq_z v3))] [] st := by
  unfold bX2_addKey_0 at H
  refine sj_iconst S dX2_addKey_0 ?_
  refine sj_istorea (lv' := [(0, .ref (g.2.2 24)), (1, .ref (g.2.2 2)), (2, .int (sq_z v2)), (3, .int (sq_z v3))]) S dX2_addKey_1 (by decide) (fun _ => rfl) ?_
  refine sj_iconst S dX2_addKey_3 ?_
  refine sj_istorea (lv' := [(4, .int (sq_z 0)), (0, .ref (g.2.2 24)), (1, .ref (g.2.2 2)), (2, .int (sq_z v2)), (3, .int (sq_z v3))]) S dX2_addKey_4 (by decide) (fun _ => rfl) ?_
  exact sj_lv S [2, 3, 4, 5, 1, 0] rfl H
set_option maxRecDepth 100000 in
set_option maxHeartbeats 4000000 in
theorem kX2_addKey (l : Launch) (g : sq_G) (v2 v3 : Int) (st : sq_S) (Q : Int → sq_S → Prop) (H : wX2_addKey v2 v3 st Q) : sq_Cv l yX2_addKey wsX2_addKey rX2_addKey g sq_X [.ref (g.2.2 24), .ref (g.2.2 2), .int (sq_z v2), .int (sq_z v3)] st Q := by
  refine sq_in_v (cc := cX2_addKey) (nL := 7) (own := RX2) (by decide) rfl rfl (Nat.le_of_ble_eq_true rfl) ?_
  intro J S hret
  exact tX2_addKey_0 S hret v2 v3 st (H (qX2_addKey_6 J g) (qX2_addKey_37 J g) (tX2_addKey_6 S hret) (tX2_addKey_37 S hret))
/-! rowOf (I)I : X1_rowOf -/
theorem iX1_rowOf_1 : ∀ w ∈ u_ws RX1 TX1 2, w ∈ wsX1_rowOf := fun _ h => List.mem_cons_of_mem _ (List.mem_append_right _ h)
theorem mX1_rowOf_15 : Cond.fieldLink RX1 15 (TX1 1).1 (TX1 1).2.1 (TX1 1).2.2.1 ∈ wsX1_rowOf := List.mem_of_getElem? (i := 1) rfl
def wX1_rowOf (v1 : Int) (st : sq_S) (Q : Int → sq_S → Prop) : Prop :=
  sq_ib v1 16 ∧ (Q (sq_shr (st 28 v1.toNat) 2) st)
def rX1_rowOf : Room := { frames := 0, cells := 0, slots := 0, locals := 0 }
set_option maxRecDepth 100000 in
set_option maxHeartbeats 4000000 in
theorem tX1_rowOf_0 {l : Launch} {g : sq_G} {J : sq_K} {Q : Int → sq_S → Prop} (S : sq_J l rX1_rowOf cX1_rowOf 2 RX1 wsX1_rowOf g sq_X J) (hret : ∀ (pc : Nat) (lv : List (Nat × Value)) (r : Int) (st' : sq_S), decode cX1_rowOf pc = .ok (.ireturn, 1) → Q r st' → J pc lv [.int (sq_z r)] st') (v1 : Int) (st : sq_S) (H : wX1_rowOf v1 st Q) : J 0 [(0, .ref (g.2.2 26)), (1, .int (sq_z v1))] [] st := by
  unfold wX1_rowOf at H
  refine sj_aload_n (pl := 0) S dX1_rowOf_0 rfl rfl ?_
  refine sj_getr S fX_26_1 iX1_rowOf_1 rfl (by decide) mX1_rowOf_15 dX1_rowOf_1 ?_
  refine sj_iload_n (pl := 1) S dX1_rowOf_4 rfl rfl ?_
  refine sj_iald S aX_28 H.1 dX1_rowOf_5 ?_
  have H := H.2
  refine sj_iconst S dX1_rowOf_6 ?_
  refine sj_ishr S dX1_rowOf_7 ?_
  exact hret _ _ _ _ dX1_rowOf_8 H
set_option maxRecDepth 100000 in
set_option maxHeartbeats 4000000 in
theorem kX1_rowOf (l : Launch) (g : sq_G) (v1 : Int) (st : sq_S) (Q : Int → sq_S → Prop) (H : wX1_rowOf v1 st Q) : sq_Ci l yX1_rowOf wsX1_rowOf rX1_rowOf g sq_X [.ref (g.2.2 26), .int (sq_z v1)] st Q := by
  refine sq_in_i (cc := cX1_rowOf) (nL := 2) (own := RX1) (by decide) rfl rfl (Nat.le_of_ble_eq_true rfl) ?_
  intro J S hret
  exact tX1_rowOf_0 S hret v1 st H
/-! columnOf (I)I : X1_columnOf -/
theorem iX1_columnOf_1 : ∀ w ∈ u_ws RX1 TX1 2, w ∈ wsX1_columnOf := fun _ h => List.mem_cons_of_mem _ (List.mem_append_right _ h)
theorem mX1_columnOf_15 : Cond.fieldLink RX1 15 (TX1 1).1 (TX1 1).2.1 (TX1 1).2.2.1 ∈ wsX1_columnOf := List.mem_of_getElem? (i := 1) rfl
def wX1_columnOf (v1 : Int) (st : sq_S) (Q : Int → sq_S → Prop) : Prop :=
  sq_ib v1 16 ∧ (Q (sq_and (st 28 v1.toNat) 3) st)
def rX1_columnOf : Room := { frames := 0, cells := 0, slots := 0, locals := 0 }
set_option maxRecDepth 100000 in
set_option maxHeartbeats 4000000 in
theorem tX1_columnOf_0 {l : Launch} {g : sq_G} {J : sq_K} {Q : Int → sq_S → Prop} (S : sq_J l rX1_columnOf cX1_columnOf 2 RX1 wsX1_columnOf g sq_X J) (hret : ∀ (pc : Nat) (lv : List (Nat × Value)) (r : Int) (st' : sq_S), decode cX1_columnOf pc = .ok (.ireturn, 1) → Q r st' → J pc lv [.int (sq_z r)] st') (v1 : Int) (st : sq_S) (H : wX1_columnOf v1 st Q) : J 0 [(0, .ref (g.2.2 26)), (1, .int (sq_z v1))] [] st := by
  unfold wX1_columnOf at H
  refine sj_aload_n (pl := 0) S dX1_columnOf_0 rfl rfl ?_
  refine sj_getr S fX_26_1 iX1_columnOf_1 rfl (by decide) mX1_columnOf_15 dX1_columnOf_1 ?_
  refine sj_iload_n (pl := 1) S dX1_columnOf_4 rfl rfl ?_
  refine sj_iald S aX_28 H.1 dX1_columnOf_5 ?_
  have H := H.2
  refine sj_iconst S dX1_columnOf_6 ?_
  refine sj_iand S dX1_columnOf_7 ?_
  exact hret _ _ _ _ dX1_columnOf_8 H
set_option maxRecDepth 100000 in
set_option maxHeartbeats 4000000 in
theorem kX1_columnOf (l : Launch) (g : sq_G) (v1 : Int) (st : sq_S) (Q : Int → sq_S → Prop) (H : wX1_columnOf v1 st Q) : sq_Ci l yX1_columnOf wsX1_columnOf rX1_columnOf g sq_X [.ref (g.2.2 26), .int (sq_z v1)] st Q := by
  refine sq_in_i (cc := cX1_columnOf) (nL := 2) (own := RX1) (by decide) rfl rfl (Nat.le_of_ble_eq_true rfl) ?_
  intro J S hret
  exact tX1_columnOf_0 S hret v1 st H
/-! at (II)I : X1_at -/
theorem iX1_at_1 : ∀ w ∈ u_ws RX1 TX1 2, w ∈ wsX1_at := fun _ h => List.mem_cons_of_mem _ (List.mem_append_right _ h)
theorem mX1_at_9 : Cond.fieldLink RX1 9 (TX1 0).1 (TX1 0).2.1 (TX1 0).2.2.1 ∈ wsX1_at := List.mem_of_getElem? (i := 1) rfl
def wX1_at (v1 v2 : Int) (st : sq_S) (Q : Int → sq_S → Prop) : Prop :=
  sq_ib ((4 * (sq_and v1 3)) + (sq_and v2 3)) 16 ∧ (Q (st 27 (((4 * (sq_and v1 3)) + (sq_and v2 3))).toNat) st)
def rX1_at : Room := { frames := 0, cells := 0, slots := 0, locals := 0 }
set_option maxRecDepth 100000 in
set_option maxHeartbeats 4000000 in
theorem tX1_at_0 {l : Launch} {g : sq_G} {J : sq_K} {Q : Int → sq_S → Prop} (S : sq_J l rX1_at cX1_at 3 RX1 wsX1_at g sq_X J) (hret : ∀ (pc : Nat) (lv : List (Nat × Value)) (r : Int) (st' : sq_S), decode cX1_at pc = .ok (.ireturn, 1) → Q r st' → J pc lv [.int (sq_z r)] st') (v1 v2 : Int) (st : sq_S) (H : wX1_at v1 v2 st Q) : J 0 [(0, .ref (g.2.2 26)), (1, .int (sq_z v1)), (2, .int (sq_z v2))] [] st := by
  unfold wX1_at at H
  refine sj_aload_n (pl := 0) S dX1_at_0 rfl rfl ?_
  refine sj_getr S fX_26_0 iX1_at_1 rfl (by decide) mX1_at_9 dX1_at_1 ?_
  refine sj_iconst S dX1_at_4 ?_
  refine sj_iload_n (pl := 1) S dX1_at_5 rfl rfl ?_
  refine sj_iconst S dX1_at_6 ?_
  refine sj_iand S dX1_at_7 ?_
  refine sj_imul S dX1_at_8 ?_
  refine sj_iload_n (pl := 2) S dX1_at_9 rfl rfl ?_
  refine sj_iconst S dX1_at_10 ?_
  refine sj_iand S dX1_at_11 ?_
  refine sj_iadd S dX1_at_12 ?_
  refine sj_iald S aX_27 H.1 dX1_at_13 ?_
  have H := H.2
  exact hret _ _ _ _ dX1_at_14 H
set_option maxRecDepth 100000 in
set_option maxHeartbeats 4000000 in
theorem kX1_at (l : Launch) (g : sq_G) (v1 v2 : Int) (st : sq_S) (Q : Int → sq_S → Prop) (H : wX1_at v1 v2 st Q) : sq_Ci l yX1_at wsX1_at rX1_at g sq_X [.ref (g.2.2 26), .int (sq_z v1), .int (sq_z v2)] st Q := by
  refine sq_in_i (cc := cX1_at) (nL := 3) (own := RX1) (by decide) rfl rfl (Nat.le_of_ble_eq_true rfl) ?_
  intro J S hret
  exact tX1_at_0 S hret v1 v2 st H
/-! beside (III)I : X1_beside -/
def wX1_beside (v1 v2 v3 : Int) (st : sq_S) (Q : Int → sq_S → Prop) : Prop :=
  wX1_rowOf v1 st (fun r83 st84 => wX1_columnOf v1 st84 (fun r85 st86 => (sq_rg v1 ∧ sq_rg v2) ∧ (¬ v1 = v2 → wX1_rowOf v2 st86 (fun r87 st88 => (sq_rg r83 ∧ sq_rg r87) ∧ (¬ r83 = r87 → wX1_columnOf v2 st88 (fun r89 st90 => (sq_rg r85 ∧ sq_rg r89) ∧ (¬ r85 = r89 → wX1_columnOf v2 st90 (fun r91 st92 => wX1_at r83 r91 st92 (fun r93 st94 => Q r93 st94))) ∧ (r85 = r89 → wX1_at (r83 + v3) r85 st90 (fun r95 st96 => Q r95 st96)))) ∧ (r83 = r87 → wX1_at r83 (r85 + v3) st88 (fun r97 st98 => Q r97 st98)))) ∧ (v1 = v2 → wX1_at (r83 + v3) (r85 + v3) st86 (fun r99 st100 => Q r99 st100))))
def rX1_beside : Room := { frames := 1, cells := 0, slots := 0, locals := 22 }
set_option maxRecDepth 100000 in
set_option maxHeartbeats 4000000 in
theorem tX1_beside_0 {l : Launch} {g : sq_G} {J : sq_K} {Q : Int → sq_S → Prop} (S : sq_J l rX1_beside cX1_beside 6 RX1 wsX1_beside g sq_X J) (hret : ∀ (pc : Nat) (lv : List (Nat × Value)) (r : Int) (st' : sq_S), decode cX1_beside pc = .ok (.ireturn, 1) → Q r st' → J pc lv [.int (sq_z r)] st') (v1 v2 v3 : Int) (st : sq_S) (H : wX1_beside v1 v2 v3 st Q) : J 0 [(0, .ref (g.2.2 26)), (1, .int (sq_z v1)), (2, .int (sq_z v2)), (3, .int (sq_z v3))] [] st := by
  unfold wX1_beside at H
  refine sj_aload_n (pl := 0) S dX1_beside_0 rfl rfl ?_
  refine sj_iload_n (pl := 1) S dX1_beside_1 rfl rfl ?_
  refine sj_vi (rest := []) (q0 := 26) (ci := 1) S (kX1_rowOf l g v1 st _ H) (fun s args hts => cwV 1 hts gX1_beside_X1_rowOf rfl rfl rfl (by decide +kernel) ⟨Nat.le_of_ble_eq_true rfl, Nat.le_of_ble_eq_true rfl⟩) rfl rfl rfl rfl (Nat.le_of_ble_eq_true rfl) dX1_beside_2 (fun r83 st84 H => ?_)
  refine sj_istorea (lv' := [(0, .ref (g.2.2 26)), (1, .int (sq_z v1)), (2, .int (sq_z v2)), (3, .int (sq_z v3))]) S dX1_beside_5 (by decide) (fun _ => rfl) ?_
  refine sj_aload_n (pl := 1) S dX1_beside_7 rfl rfl ?_
  refine sj_iload_n (pl := 2) S dX1_beside_8 rfl rfl ?_
  refine sj_vi (rest := []) (q0 := 26) (ci := 1) S (kX1_columnOf l g v1 st84 _ H) (fun s args hts => cwV 1 hts gX1_beside_X1_columnOf rfl rfl rfl (by decide +kernel) ⟨Nat.le_of_ble_eq_true rfl, Nat.le_of_ble_eq_true rfl⟩) rfl rfl rfl rfl (Nat.le_of_ble_eq_true rfl) dX1_beside_9 (fun r85 st86 H => ?_)
  refine sj_istorea (lv' := [(4, .int (sq_z r83)), (0, .ref (g.2.2 26)), (1, .int (sq_z v1)), (2, .int (sq_z v2)), (3, .int (sq_z v3))]) S dX1_beside_12 (by decide) (fun _ => rfl) ?_
  refine sj_iload_n (pl := 3) S dX1_beside_14 rfl rfl ?_
  refine sj_iload_n (pl := 4) S dX1_beside_15 rfl rfl ?_
  refine sj_icmp_ne (tgt := 32) S H.1 dX1_beside_16 (by decide) (fun c9 => ?_) (fun c9 => ?_)
  · have H := H.2.1 c9
    refine sj_iload (pl := 1) S dX1_beside_32 rfl ?_
    refine sj_aload_n (pl := 2) S dX1_beside_34 rfl rfl ?_
    refine sj_iload_n (pl := 4) S dX1_beside_35 rfl rfl ?_
    refine sj_vi (rest := [.int (sq_z r83)]) (q0 := 26) (ci := 1) S (kX1_rowOf l g v2 st86 _ H) (fun s args hts => cwV 1 hts gX1_beside_X1_rowOf rfl rfl rfl (by decide +kernel) ⟨Nat.le_of_ble_eq_true rfl, Nat.le_of_ble_eq_true rfl⟩) rfl rfl rfl rfl (Nat.le_of_ble_eq_true rfl) dX1_beside_36 (fun r87 st88 H => ?_)
    refine sj_icmp_ne (tgt := 53) S H.1 dX1_beside_39 (by decide) (fun c9 => ?_) (fun c9 => ?_)
    · have H := H.2.1 c9
      refine sj_iload (pl := 0) S dX1_beside_53 rfl ?_
      refine sj_aload_n (pl := 2) S dX1_beside_55 rfl rfl ?_
      refine sj_iload_n (pl := 4) S dX1_beside_56 rfl rfl ?_
      refine sj_vi (rest := [.int (sq_z r85)]) (q0 := 26) (ci := 1) S (kX1_columnOf l g v2 st88 _ H) (fun s args hts => cwV 1 hts gX1_beside_X1_columnOf rfl rfl rfl (by decide +kernel) ⟨Nat.le_of_ble_eq_true rfl, Nat.le_of_ble_eq_true rfl⟩) rfl rfl rfl rfl (Nat.le_of_ble_eq_true rfl) dX1_beside_57 (fun r89 st90 H => ?_)
      refine sj_icmp_ne (tgt := 74) S H.1 dX1_beside_60 (by decide) (fun c9 => ?_) (fun c9 => ?_)
      · have H := H.2.1 c9
        refine sj_aload_n (pl := 2) S dX1_beside_74 rfl rfl ?_
        refine sj_iload (pl := 1) S dX1_beside_75 rfl ?_
        refine sj_aload_n (pl := 2) S dX1_beside_77 rfl rfl ?_
        refine sj_iload_n (pl := 4) S dX1_beside_78 rfl rfl ?_
        refine sj_vi (rest := [.int (sq_z r83), .ref (g.2.2 26)]) (q0 := 26) (ci := 1) S (kX1_columnOf l g v2 st90 _ H) (fun s args hts => cwV 1 hts gX1_beside_X1_columnOf rfl rfl rfl (by decide +kernel) ⟨Nat.le_of_ble_eq_true rfl, Nat.le_of_ble_eq_true rfl⟩) rfl rfl rfl rfl (Nat.le_of_ble_eq_true rfl) dX1_beside_79 (fun r91 st92 H => ?_)
        refine sj_vi (rest := []) (q0 := 26) (ci := 1) S (kX1_at l g r83 r91 st92 _ H) (fun s args hts => cwV 2 hts gX1_beside_X1_at rfl rfl rfl (by decide +kernel) ⟨Nat.le_of_ble_eq_true rfl, Nat.le_of_ble_eq_true rfl⟩) rfl rfl rfl rfl (Nat.le_of_ble_eq_true rfl) dX1_beside_82 (fun r93 st94 H => ?_)
        exact hret _ _ _ _ dX1_beside_85 H
      · have H := H.2.2 c9
        refine sj_aload_n (pl := 2) S dX1_beside_63 rfl rfl ?_
        refine sj_iload (pl := 1) S dX1_beside_64 rfl ?_
        refine sj_iload_n (pl := 5) S dX1_beside_66 rfl rfl ?_
        refine sj_iadd S dX1_beside_67 ?_
        refine sj_iload (pl := 0) S dX1_beside_68 rfl ?_
        refine sj_vi (rest := []) (q0 := 26) (ci := 1) S (kX1_at l g (r83 + v3) r85 st90 _ H) (fun s args hts => cwV 2 hts gX1_beside_X1_at rfl rfl rfl (by decide +kernel) ⟨Nat.le_of_ble_eq_true rfl, Nat.le_of_ble_eq_true rfl⟩) rfl rfl rfl rfl (Nat.le_of_ble_eq_true rfl) dX1_beside_70 (fun r95 st96 H => ?_)
        exact hret _ _ _ _ dX1_beside_73 H
    · have H := H.2.2 c9
      refine sj_aload_n (pl := 2) S dX1_beside_42 rfl rfl ?_
      refine sj_iload (pl := 1) S dX1_beside_43 rfl ?_
      refine sj_iload (pl := 0) S dX1_beside_45 rfl ?_
      refine sj_iload_n (pl := 5) S dX1_beside_47 rfl rfl ?_
      refine sj_iadd S dX1_beside_48 ?_
      refine sj_vi (rest := []) (q0 := 26) (ci := 1) S (kX1_at l g r83 (r85 + v3) st88 _ H) (fun s args hts => cwV 2 hts gX1_beside_X1_at rfl rfl rfl (by decide +kernel) ⟨Nat.le_of_ble_eq_true rfl, Nat.le_of_ble_eq_true rfl⟩) rfl rfl rfl rfl (Nat.le_of_ble_eq_true rfl) dX1_beside_49 (fun r97 st98 H => ?_)
      exact hret _ _ _ _ dX1_beside_52 H
  · have H := H.2.2 c9
    refine sj_aload_n (pl := 2) S dX1_beside_19 rfl rfl ?_
    refine sj_iload (pl := 1) S dX1_beside_20 rfl ?_
    refine sj_iload_n (pl := 5) S dX1_beside_22 rfl rfl ?_
    refine sj_iadd S dX1_beside_23 ?_
    refine sj_iload (pl := 0) S dX1_beside_24 rfl ?_
    refine sj_iload_n (pl := 5) S dX1_beside_26 rfl rfl ?_
    refine sj_iadd S dX1_beside_27 ?_
    refine sj_vi (rest := []) (q0 := 26) (ci := 1) S (kX1_at l g (r83 + v3) (r85 + v3) st86 _ H) (fun s args hts => cwV 2 hts gX1_beside_X1_at rfl rfl rfl (by decide +kernel) ⟨Nat.le_of_ble_eq_true rfl, Nat.le_of_ble_eq_true rfl⟩) rfl rfl rfl rfl (Nat.le_of_ble_eq_true rfl) dX1_beside_28 (fun r99 st100 H => ?_)
    exact hret _ _ _ _ dX1_beside_31 H
set_option maxRecDepth 100000 in
set_option maxHeartbeats 4000000 in
theorem kX1_beside (l : Launch) (g : sq_G) (v1 v2 v3 : Int) (st : sq_S) (Q : Int → sq_S → Prop) (H : wX1_beside v1 v2 v3 st Q) : sq_Ci l yX1_beside wsX1_beside rX1_beside g sq_X [.ref (g.2.2 26), .int (sq_z v1), .int (sq_z v2), .int (sq_z v3)] st Q := by
  refine sq_in_i (cc := cX1_beside) (nL := 6) (own := RX1) (by decide) rfl rfl (Nat.le_of_ble_eq_true rfl) ?_
  intro J S hret
  exact tX1_beside_0 S hret v1 v2 v3 st H
/-! changePairs (LSecretSquares$Desk;Z)V : X2_changePairs -/
theorem iX2_changePairs_0 : ∀ w ∈ u_ws RX0 TX0 9, w ∈ wsX2_changePairs := fun _ h => List.mem_cons_of_mem _ (List.mem_append_left _ (List.mem_append_left _ (List.mem_append_right _ h)))
theorem iX2_changePairs_2 : ∀ w ∈ u_ws RX2 TX2 5, w ∈ wsX2_changePairs := fun _ h => List.mem_cons_of_mem _ (List.mem_append_left _ (List.mem_append_right _ h))
theorem mX2_changePairs_9 : Cond.fieldLink RX2 9 (TX2 0).1 (TX2 0).2.1 (TX2 0).2.2.1 ∈ wsX2_changePairs := List.mem_of_getElem? (i := 3) rfl
theorem mX2_changePairs_18 : Cond.fieldLink RX2 18 (TX2 1).1 (TX2 1).2.1 (TX2 1).2.2.1 ∈ wsX2_changePairs := List.mem_of_getElem? (i := 4) rfl
theorem mX2_changePairs_56 : Cond.fieldLink RX2 56 (TX0 1).1 (TX0 1).2.1 (TX0 1).2.2.1 ∈ wsX2_changePairs := List.mem_of_getElem? (i := 1) rfl
theorem mX2_changePairs_72 : Cond.fieldLink RX2 72 (TX0 0).1 (TX0 0).2.1 (TX0 0).2.2.1 ∈ wsX2_changePairs := List.mem_of_getElem? (i := 2) rfl
def bX2_changePairs_13 (K13 : Int → Int → sq_S → Prop) (Q : Int → sq_S → Prop) (v3 v4 : Int) (st : sq_S) : Prop :=
  (sq_rg v4 ∧ sq_rg (st 2 1)) ∧ ((st 2 1) ≤ v4 → Q 0 st) ∧ (v4 < (st 2 1) → sq_ib (v4 - 1) 48 ∧ (∀ y81 : Int, y81 = (st 3 ((v4 - 1)).toNat) → (sq_ib v4 48 ∧ (∀ y82 : Int, y82 = (st 3 v4.toNat) → (wX1_beside y81 y82 v3 st (fun r101 st102 => sq_ib (v4 - 1) 48 ∧ (∀ st103 : sq_S, st103 = sq_set st102 25 ((v4 - 1)).toNat r101 → (wX1_beside y82 y81 v3 st103 (fun r104 st105 => sq_ib v4 48 ∧ (∀ st106 : sq_S, st106 = sq_set st105 25 v4.toNat r104 → (K13 v3 (v4 + 2) st106)))))))))))
def bX2_changePairs_0 (K13 : Int → Int → sq_S → Prop) (Q : Int → sq_S → Prop) (v2 : Int) (st : sq_S) : Prop :=
  sq_rg v2 ∧ (v2 = 0 → K13 (-1) 1 st) ∧ (¬ v2 = 0 → K13 1 1 st)
def wX2_changePairs (v2 : Int) (st : sq_S) (Q : Int → sq_S → Prop) : Prop :=
  ∀ (K13 : Int → Int → sq_S → Prop), (∀ (v3 v4 : Int) (st : sq_S), bX2_changePairs_13 K13 Q v3 v4 st → K13 v3 v4 st) → bX2_changePairs_0 K13 Q v2 st
def rX2_changePairs : Room := { frames := 2, cells := 0, slots := 0, locals := 47 }
def qX2_changePairs_13 (J : sq_K) (g : sq_G) : Int → Int → sq_S → Prop := fun v3 v4 st => J 13 [(0, .ref (g.2.2 24)), (1, .ref (g.2.2 2)), (3, .int (sq_z v3)), (4, .int (sq_z v4))] [] st
set_option maxRecDepth 100000 in
set_option maxHeartbeats 4000000 in
theorem tX2_changePairs_13 {l : Launch} {g : sq_G} {J : sq_K} {Q : Int → sq_S → Prop} (S : sq_J l rX2_changePairs cX2_changePairs 7 RX2 wsX2_changePairs g sq_X J) (hret : ∀ (pc : Nat) (lv : List (Nat × Value)) (st' : sq_S), decode cX2_changePairs pc = .ok (.return_, 1) → Q 0 st' → J pc lv [] st') (v3 v4 : Int) (st : sq_S) (H : bX2_changePairs_13 (qX2_changePairs_13 J g) Q v3 v4 st) : J 13 [(0, .ref (g.2.2 24)), (1, .ref (g.2.2 2)), (3, .int (sq_z v3)), (4, .int (sq_z v4))] [] st := by
  unfold bX2_changePairs_13 at H
  refine sj_iload (pl := 3) S dX2_changePairs_13 rfl ?_
  refine sj_aload_n (pl := 1) S dX2_changePairs_15 rfl rfl ?_
  refine sj_geti S fX_2_1 iX2_changePairs_0 rfl (by decide) mX2_changePairs_56 dX2_changePairs_16 ?_
  refine sj_icmp_ge (tgt := 88) S H.1 dX2_changePairs_19 (by decide) (fun c9 => ?_) (fun c9 => ?_)
  · have H := H.2.1 c9
    exact hret _ _ _ dX2_changePairs_88 H
  · have H := H.2.2 c9
    refine sj_aload_n (pl := 1) S dX2_changePairs_22 rfl rfl ?_
    refine sj_getr S fX_2_0 iX2_changePairs_0 rfl (by decide) mX2_changePairs_72 dX2_changePairs_23 ?_
    refine sj_iload (pl := 3) S dX2_changePairs_26 rfl ?_
    refine sj_iconst S dX2_changePairs_28 ?_
    refine sj_isub S dX2_changePairs_29 ?_
    refine sj_iald S aX_3 H.1 dX2_changePairs_30 ?_
    have H := H.2
    refine sj_istore (lv' := [(0, .ref (g.2.2 24)), (1, .ref (g.2.2 2)), (3, .int (sq_z v3)), (4, .int (sq_z v4))]) S dX2_changePairs_31 (by decide) (fun _ => rfl) (fun y81 ey81 => ?_)
    have H := H y81 ey81
    refine sj_aload_n (pl := 2) S dX2_changePairs_33 rfl rfl ?_
    refine sj_getr S fX_2_0 iX2_changePairs_0 rfl (by decide) mX2_changePairs_72 dX2_changePairs_34 ?_
    refine sj_iload (pl := 4) S dX2_changePairs_37 rfl ?_
    refine sj_iald S aX_3 H.1 dX2_changePairs_39 ?_
    have H := H.2
    refine sj_istore (lv' := [(5, .int (sq_z y81)), (0, .ref (g.2.2 24)), (1, .ref (g.2.2 2)), (3, .int (sq_z v3)), (4, .int (sq_z v4))]) S dX2_changePairs_40 (by decide) (fun _ => rfl) (fun y82 ey82 => ?_)
    have H := H y82 ey82
    refine sj_aload_n (pl := 2) S dX2_changePairs_42 rfl rfl ?_
    refine sj_getr S fX_24_0 iX2_changePairs_2 rfl (by decide) mX2_changePairs_9 dX2_changePairs_43 ?_
    refine sj_iload (pl := 5) S dX2_changePairs_46 rfl ?_
    refine sj_iconst S dX2_changePairs_48 ?_
    refine sj_isub S dX2_changePairs_49 ?_
    refine sj_aload_n (pl := 2) S dX2_changePairs_50 rfl rfl ?_
    refine sj_getr S fX_24_1 iX2_changePairs_2 rfl (by decide) mX2_changePairs_18 dX2_changePairs_51 ?_
    refine sj_iload (pl := 1) S dX2_changePairs_54 rfl ?_
    refine sj_iload (pl := 0) S dX2_changePairs_56 rfl ?_
    refine sj_iload_n (pl := 4) S dX2_changePairs_58 rfl rfl ?_
    refine sj_vi (rest := [.int (sq_z (v4 - 1)), .ref (g.2.2 25)]) (q0 := 26) (ci := 1) S (kX1_beside l g y81 y82 v3 st _ H) (fun s args hts => cwV 3 hts gX2_changePairs_X1_beside rfl rfl rfl (by decide +kernel) ⟨Nat.le_of_ble_eq_true rfl, Nat.le_of_ble_eq_true rfl⟩) rfl rfl rfl rfl (Nat.le_of_ble_eq_true rfl) dX2_changePairs_59 (fun r101 st102 H => ?_)
    refine sj_iast S aX_25 H.1 dX2_changePairs_62 (fun st103 est103 => ?_)
    have H := H.2 st103 est103
    refine sj_aload_n (pl := 2) S dX2_changePairs_63 rfl rfl ?_
    refine sj_getr S fX_24_0 iX2_changePairs_2 rfl (by decide) mX2_changePairs_9 dX2_changePairs_64 ?_
    refine sj_iload (pl := 5) S dX2_changePairs_67 rfl ?_
    refine sj_aload_n (pl := 2) S dX2_changePairs_69 rfl rfl ?_
    refine sj_getr S fX_24_1 iX2_changePairs_2 rfl (by decide) mX2_changePairs_18 dX2_changePairs_70 ?_
    refine sj_iload (pl := 0) S dX2_changePairs_73 rfl ?_
    refine sj_iload (pl := 1) S dX2_changePairs_75 rfl ?_
    refine sj_iload_n (pl := 4) S dX2_changePairs_77 rfl rfl ?_
    refine sj_vi (rest := [.int (sq_z v4), .ref (g.2.2 25)]) (q0 := 26) (ci := 1) S (kX1_beside l g y82 y81 v3 st103 _ H) (fun s args hts => cwV 3 hts gX2_changePairs_X1_beside rfl rfl rfl (by decide +kernel) ⟨Nat.le_of_ble_eq_true rfl, Nat.le_of_ble_eq_true rfl⟩) rfl rfl rfl rfl (Nat.le_of_ble_eq_true rfl) dX2_changePairs_78 (fun r104 st105 H => ?_)
    refine sj_iast S aX_25 H.1 dX2_changePairs_81 (fun st106 est106 => ?_)
    have H := H.2 st106 est106
    refine sj_iinc (pl := 5) (lv' := [(6, .int (sq_z y82)), (5, .int (sq_z y81)), (0, .ref (g.2.2 24)), (1, .ref (g.2.2 2)), (3, .int (sq_z v3))]) S dX2_changePairs_82 rfl (by decide) (fun _ => rfl) ?_
    refine sj_goto (tgt := 13) S dX2_changePairs_85 (by decide) ?_
    exact sj_lv S [3, 4, 5, 0] rfl H
set_option maxRecDepth 100000 in
set_option maxHeartbeats 4000000 in
theorem tX2_changePairs_0 {l : Launch} {g : sq_G} {J : sq_K} {Q : Int → sq_S → Prop} (S : sq_J l rX2_changePairs cX2_changePairs 7 RX2 wsX2_changePairs g sq_X J) (hret : ∀ (pc : Nat) (lv : List (Nat × Value)) (st' : sq_S), decode cX2_changePairs pc = .ok (.return_, 1) → Q 0 st' → J pc lv [] st') (v2 : Int) (st : sq_S) (H : bX2_changePairs_0 (qX2_changePairs_13 J g) Q v2 st) : J 0 [(0, .ref (g.2.2 24)), (1, .ref (g.2.2 2)), (2, .int (sq_z v2))] [] st := by
  unfold bX2_changePairs_0 at H
  refine sj_iload_n (pl := 2) S dX2_changePairs_0 rfl rfl ?_
  refine sj_if_eq (tgt := 8) S H.1 dX2_changePairs_1 (by decide) (fun c9 => ?_) (fun c9 => ?_)
  · have H := H.2.1 c9
    refine sj_iconst S dX2_changePairs_8 ?_
    refine sj_istore_na (lv' := [(0, .ref (g.2.2 24)), (1, .ref (g.2.2 2)), (2, .int (sq_z v2))]) S dX2_changePairs_9 rfl (by decide) (fun _ => rfl) ?_
    refine sj_iconst S dX2_changePairs_10 ?_
    refine sj_istorea (lv' := [(3, .int (sq_z (-1))), (0, .ref (g.2.2 24)), (1, .ref (g.2.2 2)), (2, .int (sq_z v2))]) S dX2_changePairs_11 (by decide) (fun _ => rfl) ?_
    exact sj_lv S [2, 3, 1, 0] rfl H
  · have H := H.2.2 c9
    refine sj_iconst S dX2_changePairs_4 ?_
    refine sj_goto (tgt := 9) S dX2_changePairs_5 (by decide) ?_
    refine sj_istore_na (lv' := [(0, .ref (g.2.2 24)), (1, .ref (g.2.2 2)), (2, .int (sq_z v2))]) S dX2_changePairs_9 rfl (by decide) (fun _ => rfl) ?_
    refine sj_iconst S dX2_changePairs_10 ?_
    refine sj_istorea (lv' := [(3, .int (sq_z 1)), (0, .ref (g.2.2 24)), (1, .ref (g.2.2 2)), (2, .int (sq_z v2))]) S dX2_changePairs_11 (by decide) (fun _ => rfl) ?_
    exact sj_lv S [2, 3, 1, 0] rfl H
set_option maxRecDepth 100000 in
set_option maxHeartbeats 4000000 in
theorem kX2_changePairs (l : Launch) (g : sq_G) (v2 : Int) (st : sq_S) (Q : Int → sq_S → Prop) (H : wX2_changePairs v2 st Q) : sq_Cv l yX2_changePairs wsX2_changePairs rX2_changePairs g sq_X [.ref (g.2.2 24), .ref (g.2.2 2), .int (sq_z v2)] st Q := by
  refine sq_in_v (cc := cX2_changePairs) (nL := 7) (own := RX2) (by decide) rfl rfl (Nat.le_of_ble_eq_true rfl) ?_
  intro J S hret
  exact tX2_changePairs_0 S hret v2 st (H (qX2_changePairs_13 J g) (tX2_changePairs_13 S hret))
/-! orderByKey (LSecretSquares$Desk;)V : X2_orderByKey -/
theorem iX2_orderByKey_0 : ∀ w ∈ u_ws RX0 TX0 9, w ∈ wsX2_orderByKey := fun _ h => List.mem_cons_of_mem _ (List.mem_append_left _ (List.mem_append_right _ h))
theorem iX2_orderByKey_2 : ∀ w ∈ u_ws RX2 TX2 5, w ∈ wsX2_orderByKey := fun _ h => List.mem_cons_of_mem _ (List.mem_append_right _ h)
theorem mX2_orderByKey_22 : Cond.fieldLink RX2 22 (TX2 2).1 (TX2 2).2.1 (TX2 2).2.2.1 ∈ wsX2_orderByKey := List.mem_of_getElem? (i := 3) rfl
theorem mX2_orderByKey_35 : Cond.fieldLink RX2 35 (TX0 3).1 (TX0 3).2.1 (TX0 3).2.2.1 ∈ wsX2_orderByKey := List.mem_of_getElem? (i := 1) rfl
theorem mX2_orderByKey_41 : Cond.fieldLink RX2 41 (TX0 2).1 (TX0 2).2.1 (TX0 2).2.2.1 ∈ wsX2_orderByKey := List.mem_of_getElem? (i := 2) rfl
def bX2_orderByKey_4 (K4 : Int → Int → sq_S → Prop) (K13 : Int → Int → Int → sq_S → Prop) (Q : Int → sq_S → Prop) (v2 v3 : Int) (st : sq_S) : Prop :=
  (sq_rg v3 ∧ sq_rg 16) ∧ (16 ≤ v3 → Q 0 st) ∧ (v3 < 16 → K13 v2 v3 0 st)
def bX2_orderByKey_13 (K4 : Int → Int → sq_S → Prop) (K13 : Int → Int → Int → sq_S → Prop) (Q : Int → sq_S → Prop) (v2 v3 v4 : Int) (st : sq_S) : Prop :=
  (sq_rg v4 ∧ sq_rg (st 2 3)) ∧ ((st 2 3) ≤ v4 → K4 v2 (v3 + 1) st) ∧ (v4 < (st 2 3) → sq_ib v4 6 ∧ ((sq_rg (st 4 v4.toNat) ∧ sq_rg v3) ∧ (¬ (st 4 v4.toNat) = v3 → K13 v2 v3 (v4 + 1) st) ∧ ((st 4 v4.toNat) = v3 → sq_ib v2 6 ∧ (∀ st108 : sq_S, st108 = sq_set st 29 v2.toNat v4 → (K13 (v2 + 1) v3 (v4 + 1) st108)))))
def bX2_orderByKey_0 (K4 : Int → Int → sq_S → Prop) (K13 : Int → Int → Int → sq_S → Prop) (Q : Int → sq_S → Prop) (st : sq_S) : Prop :=
  K4 0 0 st
def wX2_orderByKey (st : sq_S) (Q : Int → sq_S → Prop) : Prop :=
  ∀ (K4 : Int → Int → sq_S → Prop) (K13 : Int → Int → Int → sq_S → Prop), (∀ (v2 v3 : Int) (st : sq_S), bX2_orderByKey_4 K4 K13 Q v2 v3 st → K4 v2 v3 st) → (∀ (v2 v3 v4 : Int) (st : sq_S), bX2_orderByKey_13 K4 K13 Q v2 v3 v4 st → K13 v2 v3 v4 st) → bX2_orderByKey_0 K4 K13 Q  st
def rX2_orderByKey : Room := { frames := 0, cells := 0, slots := 0, locals := 0 }
def qX2_orderByKey_4 (J : sq_K) (g : sq_G) : Int → Int → sq_S → Prop := fun v2 v3 st => J 4 [(0, .ref (g.2.2 24)), (1, .ref (g.2.2 2)), (2, .int (sq_z v2)), (3, .int (sq_z v3))] [] st
def qX2_orderByKey_13 (J : sq_K) (g : sq_G) : Int → Int → Int → sq_S → Prop := fun v2 v3 v4 st => J 13 [(0, .ref (g.2.2 24)), (1, .ref (g.2.2 2)), (2, .int (sq_z v2)), (3, .int (sq_z v3)), (4, .int (sq_z v4))] [] st
set_option maxRecDepth 100000 in
set_option maxHeartbeats 4000000 in
theorem tX2_orderByKey_4 {l : Launch} {g : sq_G} {J : sq_K} {Q : Int → sq_S → Prop} (S : sq_J l rX2_orderByKey cX2_orderByKey 5 RX2 wsX2_orderByKey g sq_X J) (hret : ∀ (pc : Nat) (lv : List (Nat × Value)) (st' : sq_S), decode cX2_orderByKey pc = .ok (.return_, 1) → Q 0 st' → J pc lv [] st') (v2 v3 : Int) (st : sq_S) (H : bX2_orderByKey_4 (qX2_orderByKey_4 J g) (qX2_orderByKey_13 J g) Q v2 v3 st) : J 4 [(0, .ref (g.2.2 24)), (1, .ref (g.2.2 2)), (2, .int (sq_z v2)), (3, .int (sq_z v3))] [] st := by
  unfold bX2_orderByKey_4 at H
  refine sj_iload_n (pl := 3) S dX2_orderByKey_4 rfl rfl ?_
  refine sj_bipush S dX2_orderByKey_5 (by decide +kernel) ?_
  refine sj_icmp_ge (tgt := 56) S H.1 dX2_orderByKey_7 (by decide) (fun c9 => ?_) (fun c9 => ?_)
  · have H := H.2.1 c9
    exact hret _ _ _ dX2_orderByKey_56 H
  · have H := H.2.2 c9
    refine sj_iconst S dX2_orderByKey_10 ?_
    refine sj_istorea (lv' := [(0, .ref (g.2.2 24)), (1, .ref (g.2.2 2)), (2, .int (sq_z v2)), (3, .int (sq_z v3))]) S dX2_orderByKey_11 (by decide) (fun _ => rfl) ?_
    exact sj_lv S [1, 2, 3, 4, 0] rfl H
set_option maxRecDepth 100000 in
set_option maxHeartbeats 4000000 in
theorem tX2_orderByKey_13 {l : Launch} {g : sq_G} {J : sq_K} {Q : Int → sq_S → Prop} (S : sq_J l rX2_orderByKey cX2_orderByKey 5 RX2 wsX2_orderByKey g sq_X J) (hret : ∀ (pc : Nat) (lv : List (Nat × Value)) (st' : sq_S), decode cX2_orderByKey pc = .ok (.return_, 1) → Q 0 st' → J pc lv [] st') (v2 v3 v4 : Int) (st : sq_S) (H : bX2_orderByKey_13 (qX2_orderByKey_4 J g) (qX2_orderByKey_13 J g) Q v2 v3 v4 st) : J 13 [(0, .ref (g.2.2 24)), (1, .ref (g.2.2 2)), (2, .int (sq_z v2)), (3, .int (sq_z v3)), (4, .int (sq_z v4))] [] st := by
  unfold bX2_orderByKey_13 at H
  refine sj_iload (pl := 4) S dX2_orderByKey_13 rfl ?_
  refine sj_aload_n (pl := 1) S dX2_orderByKey_15 rfl rfl ?_
  refine sj_geti S fX_2_3 iX2_orderByKey_0 rfl (by decide) mX2_orderByKey_35 dX2_orderByKey_16 ?_
  refine sj_icmp_ge (tgt := 50) S H.1 dX2_orderByKey_19 (by decide) (fun c9 => ?_) (fun c9 => ?_)
  · have H := H.2.1 c9
    refine sj_iinc (pl := 3) (lv' := [(0, .ref (g.2.2 24)), (1, .ref (g.2.2 2)), (2, .int (sq_z v2)), (4, .int (sq_z v4))]) S dX2_orderByKey_50 rfl (by decide) (fun _ => rfl) ?_
    refine sj_goto (tgt := 4) S dX2_orderByKey_53 (by decide) ?_
    exact sj_lv S [1, 2, 3, 0] rfl H
  · have H := H.2.2 c9
    refine sj_aload_n (pl := 1) S dX2_orderByKey_22 rfl rfl ?_
    refine sj_getr S fX_2_2 iX2_orderByKey_0 rfl (by decide) mX2_orderByKey_41 dX2_orderByKey_23 ?_
    refine sj_iload (pl := 4) S dX2_orderByKey_26 rfl ?_
    refine sj_iald S aX_4 H.1 dX2_orderByKey_28 ?_
    have H := H.2
    refine sj_iload_n (pl := 3) S dX2_orderByKey_29 rfl rfl ?_
    refine sj_icmp_ne (tgt := 44) S H.1 dX2_orderByKey_30 (by decide) (fun c9 => ?_) (fun c9 => ?_)
    · have H := H.2.1 c9
      refine sj_iinc (pl := 4) (lv' := [(0, .ref (g.2.2 24)), (1, .ref (g.2.2 2)), (2, .int (sq_z v2)), (3, .int (sq_z v3))]) S dX2_orderByKey_44 rfl (by decide) (fun _ => rfl) ?_
      refine sj_goto (tgt := 13) S dX2_orderByKey_47 (by decide) ?_
      exact sj_lv S [1, 2, 3, 4, 0] rfl H
    · have H := H.2.2 c9
      refine sj_aload_n (pl := 0) S dX2_orderByKey_33 rfl rfl ?_
      refine sj_getr S fX_24_2 iX2_orderByKey_2 rfl (by decide) mX2_orderByKey_22 dX2_orderByKey_34 ?_
      refine sj_iload_n (pl := 2) S dX2_orderByKey_37 rfl rfl ?_
      refine sj_iload (pl := 4) S dX2_orderByKey_38 rfl ?_
      refine sj_iast S aX_29 H.1 dX2_orderByKey_40 (fun st108 est108 => ?_)
      have H := H.2 st108 est108
      refine sj_iinc (pl := 2) (lv' := [(0, .ref (g.2.2 24)), (1, .ref (g.2.2 2)), (3, .int (sq_z v3)), (4, .int (sq_z v4))]) S dX2_orderByKey_41 rfl (by decide) (fun _ => rfl) ?_
      refine sj_iinc (pl := 4) (lv' := [(2, .int (sq_z (v2 + 1))), (0, .ref (g.2.2 24)), (1, .ref (g.2.2 2)), (3, .int (sq_z v3))]) S dX2_orderByKey_44 rfl (by decide) (fun _ => rfl) ?_
      refine sj_goto (tgt := 13) S dX2_orderByKey_47 (by decide) ?_
      exact sj_lv S [2, 3, 1, 4, 0] rfl H
set_option maxRecDepth 100000 in
set_option maxHeartbeats 4000000 in
theorem tX2_orderByKey_0 {l : Launch} {g : sq_G} {J : sq_K} {Q : Int → sq_S → Prop} (S : sq_J l rX2_orderByKey cX2_orderByKey 5 RX2 wsX2_orderByKey g sq_X J) (hret : ∀ (pc : Nat) (lv : List (Nat × Value)) (st' : sq_S), decode cX2_orderByKey pc = .ok (.return_, 1) → Q 0 st' → J pc lv [] st') (st : sq_S) (H : bX2_orderByKey_0 (qX2_orderByKey_4 J g) (qX2_orderByKey_13 J g) Q st) : J 0 [(0, .ref (g.2.2 24)), (1, .ref (g.2.2 2))] [] st := by
  unfold bX2_orderByKey_0 at H
  refine sj_iconst S dX2_orderByKey_0 ?_
  refine sj_istore_na (lv' := [(0, .ref (g.2.2 24)), (1, .ref (g.2.2 2))]) S dX2_orderByKey_1 rfl (by decide) (fun _ => rfl) ?_
  refine sj_iconst S dX2_orderByKey_2 ?_
  refine sj_istore_na (lv' := [(2, .int (sq_z 0)), (0, .ref (g.2.2 24)), (1, .ref (g.2.2 2))]) S dX2_orderByKey_3 rfl (by decide) (fun _ => rfl) ?_
  exact sj_lv S [2, 3, 1, 0] rfl H
set_option maxRecDepth 100000 in
set_option maxHeartbeats 4000000 in
theorem kX2_orderByKey (l : Launch) (g : sq_G) (st : sq_S) (Q : Int → sq_S → Prop) (H : wX2_orderByKey  st Q) : sq_Cv l yX2_orderByKey wsX2_orderByKey rX2_orderByKey g sq_X [.ref (g.2.2 24), .ref (g.2.2 2)] st Q := by
  refine sq_in_v (cc := cX2_orderByKey) (nL := 5) (own := RX2) (by decide) rfl rfl (Nat.le_of_ble_eq_true rfl) ?_
  intro J S hret
  exact tX2_orderByKey_0 S hret  st (H (qX2_orderByKey_4 J g) (qX2_orderByKey_13 J g) (tX2_orderByKey_4 S hret) (tX2_orderByKey_13 S hret))
/-! readColumns (II)V : X2_readColumns -/
theorem iX2_readColumns_2 : ∀ w ∈ u_ws RX2 TX2 5, w ∈ wsX2_readColumns := fun _ h => List.mem_cons_of_mem _ (List.mem_append_right _ h)
theorem mX2_readColumns_22 : Cond.fieldLink RX2 22 (TX2 2).1 (TX2 2).2.1 (TX2 2).2.2.1 ∈ wsX2_readColumns := List.mem_of_getElem? (i := 1) rfl
theorem mX2_readColumns_25 : Cond.fieldLink RX2 25 (TX2 3).1 (TX2 3).2.1 (TX2 3).2.2.1 ∈ wsX2_readColumns := List.mem_of_getElem? (i := 2) rfl
def bX2_readColumns_5 (K5 : Int → Int → Int → Int → sq_S → Prop) (K20 : Int → Int → Int → Int → Int → sq_S → Prop) (Q : Int → sq_S → Prop) (v1 v2 v3 v4 : Int) (st : sq_S) : Prop :=
  (sq_rg v4 ∧ sq_rg v2) ∧ (v2 ≤ v4 → Q 0 st) ∧ (v4 < v2 → sq_ib v4 6 ∧ (∀ y110 : Int, y110 = (st 29 v4.toNat) → (K20 v1 v2 v3 v4 y110 st)))
def bX2_readColumns_20 (K5 : Int → Int → Int → Int → sq_S → Prop) (K20 : Int → Int → Int → Int → Int → sq_S → Prop) (Q : Int → sq_S → Prop) (v1 v2 v3 v4 v5 : Int) (st : sq_S) : Prop :=
  (sq_rg v5 ∧ sq_rg v1) ∧ (v1 ≤ v5 → K5 v1 v2 v3 (v4 + 1) st) ∧ (v5 < v1 → sq_ib v3 48 ∧ (∀ st111 : sq_S, st111 = sq_set st 30 v3.toNat v5 → (∀ y112 : Int, y112 = (v5 + v2) → (K20 v1 v2 (v3 + 1) v4 y112 st111))))
def bX2_readColumns_0 (K5 : Int → Int → Int → Int → sq_S → Prop) (K20 : Int → Int → Int → Int → Int → sq_S → Prop) (Q : Int → sq_S → Prop) (v1 v2 : Int) (st : sq_S) : Prop :=
  K5 v1 v2 0 0 st
def wX2_readColumns (v1 v2 : Int) (st : sq_S) (Q : Int → sq_S → Prop) : Prop :=
  ∀ (K5 : Int → Int → Int → Int → sq_S → Prop) (K20 : Int → Int → Int → Int → Int → sq_S → Prop), (∀ (v1 v2 v3 v4 : Int) (st : sq_S), bX2_readColumns_5 K5 K20 Q v1 v2 v3 v4 st → K5 v1 v2 v3 v4 st) → (∀ (v1 v2 v3 v4 v5 : Int) (st : sq_S), bX2_readColumns_20 K5 K20 Q v1 v2 v3 v4 v5 st → K20 v1 v2 v3 v4 v5 st) → bX2_readColumns_0 K5 K20 Q v1 v2 st
def rX2_readColumns : Room := { frames := 0, cells := 0, slots := 0, locals := 0 }
def qX2_readColumns_5 (J : sq_K) (g : sq_G) : Int → Int → Int → Int → sq_S → Prop := fun v1 v2 v3 v4 st => J 5 [(0, .ref (g.2.2 24)), (1, .int (sq_z v1)), (2, .int (sq_z v2)), (3, .int (sq_z v3)), (4, .int (sq_z v4))] [] st
def qX2_readColumns_20 (J : sq_K) (g : sq_G) : Int → Int → Int → Int → Int → sq_S → Prop := fun v1 v2 v3 v4 v5 st => J 20 [(0, .ref (g.2.2 24)), (1, .int (sq_z v1)), (2, .int (sq_z v2)), (3, .int (sq_z v3)), (4, .int (sq_z v4)), (5, .int (sq_z v5))] [] st
set_option maxRecDepth 100000 in
set_option maxHeartbeats 4000000 in
theorem tX2_readColumns_5 {l : Launch} {g : sq_G} {J : sq_K} {Q : Int → sq_S → Prop} (S : sq_J l rX2_readColumns cX2_readColumns 6 RX2 wsX2_readColumns g sq_X J) (hret : ∀ (pc : Nat) (lv : List (Nat × Value)) (st' : sq_S), decode cX2_readColumns pc = .ok (.return_, 1) → Q 0 st' → J pc lv [] st') (v1 v2 v3 v4 : Int) (st : sq_S) (H : bX2_readColumns_5 (qX2_readColumns_5 J g) (qX2_readColumns_20 J g) Q v1 v2 v3 v4 st) : J 5 [(0, .ref (g.2.2 24)), (1, .int (sq_z v1)), (2, .int (sq_z v2)), (3, .int (sq_z v3)), (4, .int (sq_z v4))] [] st := by
  unfold bX2_readColumns_5 at H
  refine sj_iload (pl := 4) S dX2_readColumns_5 rfl ?_
  refine sj_iload_n (pl := 2) S dX2_readColumns_7 rfl rfl ?_
  refine sj_icmp_ge (tgt := 52) S H.1 dX2_readColumns_8 (by decide) (fun c9 => ?_) (fun c9 => ?_)
  · have H := H.2.1 c9
    exact hret _ _ _ dX2_readColumns_52 H
  · have H := H.2.2 c9
    refine sj_aload_n (pl := 0) S dX2_readColumns_11 rfl rfl ?_
    refine sj_getr S fX_24_2 iX2_readColumns_2 rfl (by decide) mX2_readColumns_22 dX2_readColumns_12 ?_
    refine sj_iload (pl := 4) S dX2_readColumns_15 rfl ?_
    refine sj_iald S aX_29 H.1 dX2_readColumns_17 ?_
    have H := H.2
    refine sj_istore (lv' := [(0, .ref (g.2.2 24)), (1, .int (sq_z v1)), (2, .int (sq_z v2)), (3, .int (sq_z v3)), (4, .int (sq_z v4))]) S dX2_readColumns_18 (by decide) (fun _ => rfl) (fun y110 ey110 => ?_)
    have H := H y110 ey110
    exact sj_lv S [1, 2, 3, 4, 5, 0] rfl H
set_option maxRecDepth 100000 in
set_option maxHeartbeats 4000000 in
theorem tX2_readColumns_20 {l : Launch} {g : sq_G} {J : sq_K} {Q : Int → sq_S → Prop} (S : sq_J l rX2_readColumns cX2_readColumns 6 RX2 wsX2_readColumns g sq_X J) (hret : ∀ (pc : Nat) (lv : List (Nat × Value)) (st' : sq_S), decode cX2_readColumns pc = .ok (.return_, 1) → Q 0 st' → J pc lv [] st') (v1 v2 v3 v4 v5 : Int) (st : sq_S) (H : bX2_readColumns_20 (qX2_readColumns_5 J g) (qX2_readColumns_20 J g) Q v1 v2 v3 v4 v5 st) : J 20 [(0, .ref (g.2.2 24)), (1, .int (sq_z v1)), (2, .int (sq_z v2)), (3, .int (sq_z v3)), (4, .int (sq_z v4)), (5, .int (sq_z v5))] [] st := by
  unfold bX2_readColumns_20 at H
  refine sj_iload (pl := 5) S dX2_readColumns_20 rfl ?_
  refine sj_iload_n (pl := 1) S dX2_readColumns_22 rfl rfl ?_
  refine sj_icmp_ge (tgt := 46) S H.1 dX2_readColumns_23 (by decide) (fun c9 => ?_) (fun c9 => ?_)
  · have H := H.2.1 c9
    refine sj_iinc (pl := 4) (lv' := [(0, .ref (g.2.2 24)), (1, .int (sq_z v1)), (2, .int (sq_z v2)), (3, .int (sq_z v3)), (5, .int (sq_z v5))]) S dX2_readColumns_46 rfl (by decide) (fun _ => rfl) ?_
    refine sj_goto (tgt := 5) S dX2_readColumns_49 (by decide) ?_
    exact sj_lv S [1, 2, 3, 4, 0] rfl H
  · have H := H.2.2 c9
    refine sj_aload_n (pl := 0) S dX2_readColumns_26 rfl rfl ?_
    refine sj_getr S fX_24_3 iX2_readColumns_2 rfl (by decide) mX2_readColumns_25 dX2_readColumns_27 ?_
    refine sj_iload_n (pl := 3) S dX2_readColumns_30 rfl rfl ?_
    refine sj_iload (pl := 5) S dX2_readColumns_31 rfl ?_
    refine sj_iast S aX_30 H.1 dX2_readColumns_33 (fun st111 est111 => ?_)
    have H := H.2 st111 est111
    refine sj_iinc (pl := 3) (lv' := [(0, .ref (g.2.2 24)), (1, .int (sq_z v1)), (2, .int (sq_z v2)), (4, .int (sq_z v4)), (5, .int (sq_z v5))]) S dX2_readColumns_34 rfl (by decide) (fun _ => rfl) ?_
    refine sj_iload (pl := 5) S dX2_readColumns_37 rfl ?_
    refine sj_iload_n (pl := 3) S dX2_readColumns_39 rfl rfl ?_
    refine sj_iadd S dX2_readColumns_40 ?_
    refine sj_istore (lv' := [(3, .int (sq_z (v3 + 1))), (0, .ref (g.2.2 24)), (1, .int (sq_z v1)), (2, .int (sq_z v2)), (4, .int (sq_z v4))]) S dX2_readColumns_41 (by decide) (fun _ => rfl) (fun y112 ey112 => ?_)
    have H := H y112 ey112
    refine sj_goto (tgt := 20) S dX2_readColumns_43 (by decide) ?_
    exact sj_lv S [2, 3, 4, 1, 5, 0] rfl H
set_option maxRecDepth 100000 in
set_option maxHeartbeats 4000000 in
theorem tX2_readColumns_0 {l : Launch} {g : sq_G} {J : sq_K} {Q : Int → sq_S → Prop} (S : sq_J l rX2_readColumns cX2_readColumns 6 RX2 wsX2_readColumns g sq_X J) (hret : ∀ (pc : Nat) (lv : List (Nat × Value)) (st' : sq_S), decode cX2_readColumns pc = .ok (.return_, 1) → Q 0 st' → J pc lv [] st') (v1 v2 : Int) (st : sq_S) (H : bX2_readColumns_0 (qX2_readColumns_5 J g) (qX2_readColumns_20 J g) Q v1 v2 st) : J 0 [(0, .ref (g.2.2 24)), (1, .int (sq_z v1)), (2, .int (sq_z v2))] [] st := by
  unfold bX2_readColumns_0 at H
  refine sj_iconst S dX2_readColumns_0 ?_
  refine sj_istore_na (lv' := [(0, .ref (g.2.2 24)), (1, .int (sq_z v1)), (2, .int (sq_z v2))]) S dX2_readColumns_1 rfl (by decide) (fun _ => rfl) ?_
  refine sj_iconst S dX2_readColumns_2 ?_
  refine sj_istorea (lv' := [(3, .int (sq_z 0)), (0, .ref (g.2.2 24)), (1, .int (sq_z v1)), (2, .int (sq_z v2))]) S dX2_readColumns_3 (by decide) (fun _ => rfl) ?_
  exact sj_lv S [2, 3, 4, 1, 0] rfl H
set_option maxRecDepth 100000 in
set_option maxHeartbeats 4000000 in
theorem kX2_readColumns (l : Launch) (g : sq_G) (v1 v2 : Int) (st : sq_S) (Q : Int → sq_S → Prop) (H : wX2_readColumns v1 v2 st Q) : sq_Cv l yX2_readColumns wsX2_readColumns rX2_readColumns g sq_X [.ref (g.2.2 24), .int (sq_z v1), .int (sq_z v2)] st Q := by
  refine sq_in_v (cc := cX2_readColumns) (nL := 6) (own := RX2) (by decide) rfl rfl (Nat.le_of_ble_eq_true rfl) ?_
  intro J S hret
  exact tX2_readColumns_0 S hret v1 v2 st (H (qX2_readColumns_5 J g) (qX2_readColumns_20 J g) (tX2_readColumns_5 S hret) (tX2_readColumns_20 S hret))
