/-! in (III)Z : X4_in -/
def wX4_in (v0 v1 v2 : Int) (st : sq_S) (Q : Int → sq_S → Prop) : Prop :=
  (sq_rg v0 ∧ sq_rg v1) ∧ (v0 < v1 → ((0 : Int) = 0 ∨ (0 : Int) = 1) ∧ Q 0 st) ∧ (v1 ≤ v0 → (sq_rg v0 ∧ sq_rg v2) ∧ (v2 < v0 → ((0 : Int) = 0 ∨ (0 : Int) = 1) ∧ Q 0 st) ∧ (v0 ≤ v2 → ((1 : Int) = 0 ∨ (1 : Int) = 1) ∧ Q 1 st))
def rX4_in : Room := { frames := 0, cells := 0, slots := 0, locals := 0 }
set_option maxRecDepth 100000 in
set_option maxHeartbeats 4000000 in
theorem tX4_in_0 {l : Launch} {g : sq_G} {J : sq_K} {Q : Int → sq_S → Prop} (S : sq_J l rX4_in cX4_in 3 RX4 wsX4_in g sq_M J) (hret : ∀ (pc : Nat) (lv : List (Nat × Value)) (r : Int) (st' : sq_S), decode cX4_in pc = .ok (.ireturn, 1) → (r = 0 ∨ r = 1) ∧ Q r st' → J pc lv [.int (sq_z r)] st') (v0 v1 v2 : Int) (st : sq_S) (H : wX4_in v0 v1 v2 st Q) : J 0 [(0, .int (sq_z v0)), (1, .int (sq_z v1)), (2, .int (sq_z v2))] [] st := by
  unfold wX4_in at H
  refine sj_iload_n (pl := 0) S dX4_in_0 rfl rfl ?_
  refine sj_iload_n (pl := 1) S dX4_in_1 rfl rfl ?_
  refine sj_icmp_lt (tgt := 14) S H.1 dX4_in_2 (by decide) (fun c9 => ?_) (fun c9 => ?_)
  · have H := H.2.1 c9
    refine sj_iconst S dX4_in_14 ?_
    exact hret _ _ _ _ dX4_in_15 H
  · have H := H.2.2 c9
    refine sj_iload_n (pl := 0) S dX4_in_5 rfl rfl ?_
    refine sj_iload_n (pl := 2) S dX4_in_6 rfl rfl ?_
    refine sj_icmp_gt (tgt := 14) S H.1 dX4_in_7 (by decide) (fun c9 => ?_) (fun c9 => ?_)
    · have H := H.2.1 c9
      refine sj_iconst S dX4_in_14 ?_
      exact hret _ _ _ _ dX4_in_15 H
    · have H := H.2.2 c9
      refine sj_iconst S dX4_in_10 ?_
      refine sj_goto (tgt := 15) S dX4_in_11 (by decide) ?_
      exact hret _ _ _ _ dX4_in_15 H
set_option maxRecDepth 100000 in
set_option maxHeartbeats 4000000 in
theorem kX4_in (l : Launch) (g : sq_G) (v0 v1 v2 : Int) (st : sq_S) (Q : Int → sq_S → Prop) (H : wX4_in v0 v1 v2 st Q) : sq_Ci l yX4_in wsX4_in rX4_in g sq_M [.int (sq_z v0), .int (sq_z v1), .int (sq_z v2)] st Q := by
  refine sq_in_z (cc := cX4_in) (nL := 3) (own := RX4) (by decide) rfl rfl (Nat.le_of_ble_eq_true rfl) ?_
  intro J S hret
  exact tX4_in_0 S hret v0 v1 v2 st H
/-! say (I)I : X4_say -/
theorem iX4_say_4 : ∀ w ∈ u_ws RX4 TX4 12, w ∈ wsX4_say := fun _ h => List.mem_cons_of_mem _ (List.mem_append_right _ h)
theorem mX4_say_20 : Cond.fieldLink RX4 20 (TX4 3).1 (TX4 3).2.1 (TX4 3).2.2.1 ∈ wsX4_say := List.mem_of_getElem? (i := 2) rfl
theorem mX4_say_45 : Cond.fieldLink RX4 45 (TX4 4).1 (TX4 4).2.1 (TX4 4).2.2.1 ∈ wsX4_say := List.mem_of_getElem? (i := 1) rfl
def wX4_say (v1 : Int) (st : sq_S) (Q : Int → sq_S → Prop) : Prop :=
  wX4_in v1 33 126 st (fun r304 st305 => sq_rg r304 ∧ (¬ r304 = 0 → (sq_rg (st305 0 4) ∧ sq_rg 48) ∧ (¬ (st305 0 4) = 48 → sq_ib (st305 0 4) 48 ∧ (∀ st306 : sq_S, st306 = sq_set st305 4 ((st305 0 4)).toNat v1 → (∀ st307 : sq_S, st307 = sq_set st306 0 4 ((st306 0 4) + 1) → (Q (st307 0 4) st307)))) ∧ ((st305 0 4) = 48 → Q (-4) st305)) ∧ (r304 = 0 → Q (-2) st305))
def rX4_say : Room := { frames := 1, cells := 0, slots := 0, locals := 22 }
set_option maxRecDepth 100000 in
set_option maxHeartbeats 4000000 in
theorem tX4_say_0 {l : Launch} {g : sq_G} {J : sq_K} {Q : Int → sq_S → Prop} (S : sq_J l rX4_say cX4_say 2 RX4 wsX4_say g sq_M J) (hret : ∀ (pc : Nat) (lv : List (Nat × Value)) (r : Int) (st' : sq_S), decode cX4_say pc = .ok (.ireturn, 1) → Q r st' → J pc lv [.int (sq_z r)] st') (v1 : Int) (st : sq_S) (H : wX4_say v1 st Q) : J 0 [(0, .ref (g.2.2 0)), (1, .int (sq_z v1))] [] st := by
  unfold wX4_say at H
  refine sj_iload_n (pl := 1) S dX4_say_0 rfl rfl ?_
  refine sj_bipush S dX4_say_1 (by decide +kernel) ?_
  refine sj_bipush S dX4_say_3 (by decide +kernel) ?_
  refine sj_si (rest := []) S (kX4_in l g v1 33 126 st _ H) (fun s args hts => va_cwS 3 hts gX4_say_X4_in rfl rfl rfl (by decide +kernel) ⟨Nat.le_of_ble_eq_true rfl, Nat.le_of_ble_eq_true rfl⟩) rfl rfl (Nat.le_of_ble_eq_true rfl) dX4_say_5 (fun r304 st305 H => ?_)
  refine sj_if_ne (tgt := 14) S H.1 dX4_say_8 (by decide) (fun c9 => ?_) (fun c9 => ?_)
  · have H := H.2.1 c9
    refine sj_aload_n (pl := 0) S dX4_say_14 rfl rfl ?_
    refine sj_geti S fM_0_4 iX4_say_4 rfl (by decide) mX4_say_45 dX4_say_15 ?_
    refine sj_bipush S dX4_say_18 (by decide +kernel) ?_
    refine sj_icmp_ne (tgt := 26) S H.1 dX4_say_20 (by decide) (fun c9 => ?_) (fun c9 => ?_)
    · have H := H.2.1 c9
      refine sj_aload_n (pl := 0) S dX4_say_26 rfl rfl ?_
      refine sj_getr S fM_0_3 iX4_say_4 rfl (by decide) mX4_say_20 dX4_say_27 ?_
      refine sj_aload_n (pl := 0) S dX4_say_30 rfl rfl ?_
      refine sj_geti S fM_0_4 iX4_say_4 rfl (by decide) mX4_say_45 dX4_say_31 ?_
      refine sj_iload_n (pl := 1) S dX4_say_34 rfl rfl ?_
      refine sj_iast S aM_4 H.1 dX4_say_35 (fun st306 est306 => ?_)
      have H := H.2 st306 est306
      refine sj_aload_n (pl := 0) S dX4_say_36 rfl rfl ?_
      refine sj_dup S dX4_say_37 rfl ?_
      refine sj_geti S fM_0_4 iX4_say_4 rfl (by decide) mX4_say_45 dX4_say_38 ?_
      refine sj_iconst S dX4_say_41 ?_
      refine sj_iadd S dX4_say_42 ?_
      refine sj_puti S fM_0_4 iX4_say_4 tyX4 tyX4_ok nmX4 rfl (by decide) mX4_say_45 rfl rfl dX4_say_43 (fun st307 est307 => ?_)
      have H := H st307 est307
      refine sj_aload_n (pl := 0) S dX4_say_46 rfl rfl ?_
      refine sj_geti S fM_0_4 iX4_say_4 rfl (by decide) mX4_say_45 dX4_say_47 ?_
      exact hret _ _ _ _ dX4_say_50 H
    · have H := H.2.2 c9
      refine sj_bipush S dX4_say_23 (by decide +kernel) ?_
      exact hret _ _ _ _ dX4_say_25 H
  · have H := H.2.2 c9
    refine sj_bipush S dX4_say_11 (by decide +kernel) ?_
    exact hret _ _ _ _ dX4_say_13 H
set_option maxRecDepth 100000 in
set_option maxHeartbeats 4000000 in
theorem kX4_say (l : Launch) (g : sq_G) (v1 : Int) (st : sq_S) (Q : Int → sq_S → Prop) (H : wX4_say v1 st Q) : sq_Ci l yX4_say wsX4_say rX4_say g sq_M [.ref (g.2.2 0), .int (sq_z v1)] st Q := by
  refine sq_in_i (cc := cX4_say) (nL := 2) (own := RX4) (by decide) rfl rfl (Nat.le_of_ble_eq_true rfl) ?_
  intro J S hret
  exact tX4_say_0 S hret v1 st H
/-! wipe ()I : X4_wipe -/
theorem iX4_wipe_4 : ∀ w ∈ u_ws RX4 TX4 12, w ∈ wsX4_wipe := fun _ h => List.mem_cons_of_mem _ (List.mem_append_right _ h)
theorem mX4_wipe_45 : Cond.fieldLink RX4 45 (TX4 4).1 (TX4 4).2.1 (TX4 4).2.2.1 ∈ wsX4_wipe := List.mem_of_getElem? (i := 1) rfl
def wX4_wipe (st : sq_S) (Q : Int → sq_S → Prop) : Prop :=
  ∀ y308 : Int, y308 = (st 0 4) → (∀ st309 : sq_S, st309 = sq_set st 0 4 0 → (Q y308 st309))
def rX4_wipe : Room := { frames := 0, cells := 0, slots := 0, locals := 0 }
set_option maxRecDepth 100000 in
set_option maxHeartbeats 4000000 in
theorem tX4_wipe_0 {l : Launch} {g : sq_G} {J : sq_K} {Q : Int → sq_S → Prop} (S : sq_J l rX4_wipe cX4_wipe 2 RX4 wsX4_wipe g sq_M J) (hret : ∀ (pc : Nat) (lv : List (Nat × Value)) (r : Int) (st' : sq_S), decode cX4_wipe pc = .ok (.ireturn, 1) → Q r st' → J pc lv [.int (sq_z r)] st') (st : sq_S) (H : wX4_wipe st Q) : J 0 [(0, .ref (g.2.2 0))] [] st := by
  unfold wX4_wipe at H
  refine sj_aload_n (pl := 0) S dX4_wipe_0 rfl rfl ?_
  refine sj_geti S fM_0_4 iX4_wipe_4 rfl (by decide) mX4_wipe_45 dX4_wipe_1 ?_
  refine sj_istore_n (lv' := [(0, .ref (g.2.2 0))]) S dX4_wipe_4 rfl (by decide) (fun _ => rfl) (fun y308 ey308 => ?_)
  have H := H y308 ey308
  refine sj_aload_n (pl := 1) S dX4_wipe_5 rfl rfl ?_
  refine sj_iconst S dX4_wipe_6 ?_
  refine sj_puti S fM_0_4 iX4_wipe_4 tyX4 tyX4_ok nmX4 rfl (by decide) mX4_wipe_45 rfl rfl dX4_wipe_7 (fun st309 est309 => ?_)
  have H := H st309 est309
  refine sj_iload_n (pl := 0) S dX4_wipe_10 rfl rfl ?_
  exact hret _ _ _ _ dX4_wipe_11 H
set_option maxRecDepth 100000 in
set_option maxHeartbeats 4000000 in
theorem kX4_wipe (l : Launch) (g : sq_G) (st : sq_S) (Q : Int → sq_S → Prop) (H : wX4_wipe  st Q) : sq_Ci l yX4_wipe wsX4_wipe rX4_wipe g sq_M [.ref (g.2.2 0)] st Q := by
  refine sq_in_i (cc := cX4_wipe) (nL := 2) (own := RX4) (by decide) rfl rfl (Nat.le_of_ble_eq_true rfl) ?_
  intro J S hret
  exact tX4_wipe_0 S hret  st H
/-! take (I)I : X4_take -/
theorem iX4_take_4 : ∀ w ∈ u_ws RX4 TX4 12, w ∈ wsX4_take := fun _ h => List.mem_cons_of_mem _ (List.mem_append_right _ h)
theorem mX4_take_7 : Cond.fieldLink RX4 7 (TX4 0).1 (TX4 0).2.1 (TX4 0).2.2.1 ∈ wsX4_take := List.mem_of_getElem? (i := 3) rfl
theorem mX4_take_20 : Cond.fieldLink RX4 20 (TX4 3).1 (TX4 3).2.1 (TX4 3).2.2.1 ∈ wsX4_take := List.mem_of_getElem? (i := 2) rfl
theorem mX4_take_45 : Cond.fieldLink RX4 45 (TX4 4).1 (TX4 4).2.1 (TX4 4).2.2.1 ∈ wsX4_take := List.mem_of_getElem? (i := 1) rfl
def bX4_take_37 (K37 : Int → Int → Int → sq_S → Prop) (K86 : Int → Int → sq_S → Prop) (Q : Int → sq_S → Prop) (v1 v2 v3 : Int) (st : sq_S) : Prop :=
  (sq_rg v3 ∧ sq_rg (st 0 4)) ∧ ((st 0 4) ≤ v3 → sq_rg v2 ∧ (¬ v2 = 0 → K86 v1 0 st) ∧ (v2 = 0 → Q (-7) st)) ∧ (v3 < (st 0 4) → sq_rg v2 ∧ (v2 = 0 → K37 v1 0 (v3 + 1) st) ∧ (¬ v2 = 0 → sq_ib v3 48 ∧ (wX4_in (st 4 v3.toNat) 97 112 st (fun r314 st315 => sq_rg r314 ∧ (r314 = 0 → K37 v1 0 (v3 + 1) st315) ∧ (¬ r314 = 0 → K37 v1 1 (v3 + 1) st315)))))
def bX4_take_86 (K37 : Int → Int → Int → sq_S → Prop) (K86 : Int → Int → sq_S → Prop) (Q : Int → sq_S → Prop) (v1 v3 : Int) (st : sq_S) : Prop :=
  (sq_rg v3 ∧ sq_rg (st 0 4)) ∧ ((st 0 4) ≤ v3 → sq_rg v1 ∧ (¬ v1 = 0 → sq_ib 55 819 ∧ (∀ st316 : sq_S, st316 = sq_set st 1 55 (st 0 4) → (∀ y317 : Int, y317 = (st316 0 4) → (∀ st318 : sq_S, st318 = sq_set st316 0 4 0 → (Q y317 st318))))) ∧ (v1 = 0 → sq_ib 48 819 ∧ (∀ st319 : sq_S, st319 = sq_set st 1 48 (st 0 4) → (∀ y320 : Int, y320 = (st319 0 4) → (∀ st321 : sq_S, st321 = sq_set st319 0 4 0 → (Q y320 st321)))))) ∧ (v3 < (st 0 4) → sq_rg v1 ∧ (¬ v1 = 0 → sq_ib v3 48 ∧ (sq_ib (49 + v3) 819 ∧ (∀ st322 : sq_S, st322 = sq_set st 1 ((49 + v3)).toNat ((st 4 v3.toNat) - 97) → (K86 v1 (v3 + 1) st322)))) ∧ (v1 = 0 → sq_ib v3 48 ∧ (sq_ib (0 + v3) 819 ∧ (∀ st323 : sq_S, st323 = sq_set st 1 ((0 + v3)).toNat ((st 4 v3.toNat) - 97) → (K86 v1 (v3 + 1) st323)))))
def bX4_take_0 (K37 : Int → Int → Int → sq_S → Prop) (K86 : Int → Int → sq_S → Prop) (Q : Int → sq_S → Prop) (v1 : Int) (st : sq_S) : Prop :=
  wX4_in v1 0 1 st (fun r310 st311 => sq_rg r310 ∧ (¬ r310 = 0 → sq_rg v1 ∧ (v1 = 0 → K37 v1 1 0 st311) ∧ (¬ v1 = 0 → wX4_in (st311 0 4) 1 6 st311 (fun r312 st313 => sq_rg r312 ∧ (r312 = 0 → K37 v1 0 0 st313) ∧ (¬ r312 = 0 → K37 v1 1 0 st313)))) ∧ (r310 = 0 → Q (-2) st311))
def wX4_take (v1 : Int) (st : sq_S) (Q : Int → sq_S → Prop) : Prop :=
  ∀ (K37 : Int → Int → Int → sq_S → Prop) (K86 : Int → Int → sq_S → Prop), (∀ (v1 v2 v3 : Int) (st : sq_S), bX4_take_37 K37 K86 Q v1 v2 v3 st → K37 v1 v2 v3 st) → (∀ (v1 v3 : Int) (st : sq_S), bX4_take_86 K37 K86 Q v1 v3 st → K86 v1 v3 st) → bX4_take_0 K37 K86 Q v1 st
def rX4_take : Room := { frames := 1, cells := 0, slots := 0, locals := 22 }
def qX4_take_37 (J : sq_K) (g : sq_G) : Int → Int → Int → sq_S → Prop := fun v1 v2 v3 st => J 37 [(0, .ref (g.2.2 0)), (1, .int (sq_z v1)), (2, .int (sq_z v2)), (3, .int (sq_z v3))] [] st
def qX4_take_86 (J : sq_K) (g : sq_G) : Int → Int → sq_S → Prop := fun v1 v3 st => J 86 [(0, .ref (g.2.2 0)), (1, .int (sq_z v1)), (3, .int (sq_z v3))] [] st
set_option maxRecDepth 100000 in
set_option maxHeartbeats 4000000 in
theorem tX4_take_37 {l : Launch} {g : sq_G} {J : sq_K} {Q : Int → sq_S → Prop} (S : sq_J l rX4_take cX4_take 4 RX4 wsX4_take g sq_M J) (hret : ∀ (pc : Nat) (lv : List (Nat × Value)) (r : Int) (st' : sq_S), decode cX4_take pc = .ok (.ireturn, 1) → Q r st' → J pc lv [.int (sq_z r)] st') (v1 v2 v3 : Int) (st : sq_S) (H : bX4_take_37 (qX4_take_37 J g) (qX4_take_86 J g) Q v1 v2 v3 st) : J 37 [(0, .ref (g.2.2 0)), (1, .int (sq_z v1)), (2, .int (sq_z v2)), (3, .int (sq_z v3))] [] st := by
  unfold bX4_take_37 at H
  refine sj_iload_n (pl := 3) S dX4_take_37 rfl rfl ?_
  refine sj_aload_n (pl := 0) S dX4_take_38 rfl rfl ?_
  refine sj_geti S fM_0_4 iX4_take_4 rfl (by decide) mX4_take_45 dX4_take_39 ?_
  refine sj_icmp_ge (tgt := 77) S H.1 dX4_take_42 (by decide) (fun c9 => ?_) (fun c9 => ?_)
  · have H := H.2.1 c9
    refine sj_iload_n (pl := 2) S dX4_take_77 rfl rfl ?_
    refine sj_if_ne (tgt := 84) S H.1 dX4_take_78 (by decide) (fun c9 => ?_) (fun c9 => ?_)
    · have H := H.2.1 c9
      refine sj_iconst S dX4_take_84 ?_
      refine sj_istore_na (lv' := [(0, .ref (g.2.2 0)), (1, .int (sq_z v1)), (2, .int (sq_z v2))]) S dX4_take_85 rfl (by decide) (fun _ => rfl) ?_
      exact sj_lv S [1, 2, 0] rfl H
    · have H := H.2.2 c9
      refine sj_bipush S dX4_take_81 (by decide +kernel) ?_
      exact hret _ _ _ _ dX4_take_83 H
  · have H := H.2.2 c9
    refine sj_iload_n (pl := 2) S dX4_take_45 rfl rfl ?_
    refine sj_if_eq (tgt := 69) S H.1 dX4_take_46 (by decide) (fun c9 => ?_) (fun c9 => ?_)
    · have H := H.2.1 c9
      refine sj_iconst S dX4_take_69 ?_
      refine sj_istore_na (lv' := [(0, .ref (g.2.2 0)), (1, .int (sq_z v1)), (3, .int (sq_z v3))]) S dX4_take_70 rfl (by decide) (fun _ => rfl) ?_
      refine sj_iinc (pl := 3) (lv' := [(2, .int (sq_z 0)), (0, .ref (g.2.2 0)), (1, .int (sq_z v1))]) S dX4_take_71 rfl (by decide) (fun _ => rfl) ?_
      refine sj_goto (tgt := 37) S dX4_take_74 (by decide) ?_
      exact sj_lv S [2, 3, 1, 0] rfl H
    · have H := H.2.2 c9
      refine sj_aload_n (pl := 0) S dX4_take_49 rfl rfl ?_
      refine sj_getr S fM_0_3 iX4_take_4 rfl (by decide) mX4_take_20 dX4_take_50 ?_
      refine sj_iload_n (pl := 3) S dX4_take_53 rfl rfl ?_
      refine sj_iald S aM_4 H.1 dX4_take_54 ?_
      have H := H.2
      refine sj_bipush S dX4_take_55 (by decide +kernel) ?_
      refine sj_bipush S dX4_take_57 (by decide +kernel) ?_
      refine sj_si (rest := []) S (kX4_in l g (st 4 v3.toNat) 97 112 st _ H) (fun s args hts => va_cwS 3 hts gX4_take_X4_in rfl rfl rfl (by decide +kernel) ⟨Nat.le_of_ble_eq_true rfl, Nat.le_of_ble_eq_true rfl⟩) rfl rfl (Nat.le_of_ble_eq_true rfl) dX4_take_59 (fun r314 st315 H => ?_)
      refine sj_if_eq (tgt := 69) S H.1 dX4_take_62 (by decide) (fun c9 => ?_) (fun c9 => ?_)
      · have H := H.2.1 c9
        refine sj_iconst S dX4_take_69 ?_
        refine sj_istore_na (lv' := [(0, .ref (g.2.2 0)), (1, .int (sq_z v1)), (3, .int (sq_z v3))]) S dX4_take_70 rfl (by decide) (fun _ => rfl) ?_
        refine sj_iinc (pl := 3) (lv' := [(2, .int (sq_z 0)), (0, .ref (g.2.2 0)), (1, .int (sq_z v1))]) S dX4_take_71 rfl (by decide) (fun _ => rfl) ?_
        refine sj_goto (tgt := 37) S dX4_take_74 (by decide) ?_
        exact sj_lv S [2, 3, 1, 0] rfl H
      · have H := H.2.2 c9
        refine sj_iconst S dX4_take_65 ?_
        refine sj_goto (tgt := 70) S dX4_take_66 (by decide) ?_
        refine sj_istore_na (lv' := [(0, .ref (g.2.2 0)), (1, .int (sq_z v1)), (3, .int (sq_z v3))]) S dX4_take_70 rfl (by decide) (fun _ => rfl) ?_
        refine sj_iinc (pl := 3) (lv' := [(2, .int (sq_z 1)), (0, .ref (g.2.2 0)), (1, .int (sq_z v1))]) S dX4_take_71 rfl (by decide) (fun _ => rfl) ?_
        refine sj_goto (tgt := 37) S dX4_take_74 (by decide) ?_
        exact sj_lv S [2, 3, 1, 0] rfl H
set_option maxRecDepth 100000 in
set_option maxHeartbeats 4000000 in
theorem tX4_take_86 {l : Launch} {g : sq_G} {J : sq_K} {Q : Int → sq_S → Prop} (S : sq_J l rX4_take cX4_take 4 RX4 wsX4_take g sq_M J) (hret : ∀ (pc : Nat) (lv : List (Nat × Value)) (r : Int) (st' : sq_S), decode cX4_take pc = .ok (.ireturn, 1) → Q r st' → J pc lv [.int (sq_z r)] st') (v1 v3 : Int) (st : sq_S) (H : bX4_take_86 (qX4_take_37 J g) (qX4_take_86 J g) Q v1 v3 st) : J 86 [(0, .ref (g.2.2 0)), (1, .int (sq_z v1)), (3, .int (sq_z v3))] [] st := by
  unfold bX4_take_86 at H
  refine sj_iload_n (pl := 2) S dX4_take_86 rfl rfl ?_
  refine sj_aload_n (pl := 0) S dX4_take_87 rfl rfl ?_
  refine sj_geti S fM_0_4 iX4_take_4 rfl (by decide) mX4_take_45 dX4_take_88 ?_
  refine sj_icmp_ge (tgt := 126) S H.1 dX4_take_91 (by decide) (fun c9 => ?_) (fun c9 => ?_)
  · have H := H.2.1 c9
    refine sj_aload_n (pl := 0) S dX4_take_126 rfl rfl ?_
    refine sj_getr S fM_0_0 iX4_take_4 rfl (by decide) mX4_take_7 dX4_take_127 ?_
    refine sj_iload_n (pl := 1) S dX4_take_130 rfl rfl ?_
    refine sj_if_ne (tgt := 139) S H.1 dX4_take_131 (by decide) (fun c9 => ?_) (fun c9 => ?_)
    · have H := H.2.1 c9
      refine sj_bipush S dX4_take_139 (by decide +kernel) ?_
      refine sj_aload_n (pl := 0) S dX4_take_141 rfl rfl ?_
      refine sj_geti S fM_0_4 iX4_take_4 rfl (by decide) mX4_take_45 dX4_take_142 ?_
      refine sj_iast S aM_1 H.1 dX4_take_145 (fun st316 est316 => ?_)
      have H := H.2 st316 est316
      refine sj_aload_n (pl := 0) S dX4_take_146 rfl rfl ?_
      refine sj_geti S fM_0_4 iX4_take_4 rfl (by decide) mX4_take_45 dX4_take_147 ?_
      refine sj_istore_n (lv' := [(0, .ref (g.2.2 0)), (1, .int (sq_z v1))]) S dX4_take_150 rfl (by decide) (fun _ => rfl) (fun y317 ey317 => ?_)
      have H := H y317 ey317
      refine sj_aload_n (pl := 1) S dX4_take_151 rfl rfl ?_
      refine sj_iconst S dX4_take_152 ?_
      refine sj_puti S fM_0_4 iX4_take_4 tyX4 tyX4_ok nmX4 rfl (by decide) mX4_take_45 rfl rfl dX4_take_153 (fun st318 est318 => ?_)
      have H := H st318 est318
      refine sj_iload_n (pl := 0) S dX4_take_156 rfl rfl ?_
      exact hret _ _ _ _ dX4_take_157 H
    · have H := H.2.2 c9
      refine sj_bipush S dX4_take_134 (by decide +kernel) ?_
      refine sj_goto (tgt := 141) S dX4_take_136 (by decide) ?_
      refine sj_aload_n (pl := 0) S dX4_take_141 rfl rfl ?_
      refine sj_geti S fM_0_4 iX4_take_4 rfl (by decide) mX4_take_45 dX4_take_142 ?_
      refine sj_iast S aM_1 H.1 dX4_take_145 (fun st319 est319 => ?_)
      have H := H.2 st319 est319
      refine sj_aload_n (pl := 0) S dX4_take_146 rfl rfl ?_
      refine sj_geti S fM_0_4 iX4_take_4 rfl (by decide) mX4_take_45 dX4_take_147 ?_
      refine sj_istore_n (lv' := [(0, .ref (g.2.2 0)), (1, .int (sq_z v1))]) S dX4_take_150 rfl (by decide) (fun _ => rfl) (fun y320 ey320 => ?_)
      have H := H y320 ey320
      refine sj_aload_n (pl := 1) S dX4_take_151 rfl rfl ?_
      refine sj_iconst S dX4_take_152 ?_
      refine sj_puti S fM_0_4 iX4_take_4 tyX4 tyX4_ok nmX4 rfl (by decide) mX4_take_45 rfl rfl dX4_take_153 (fun st321 est321 => ?_)
      have H := H st321 est321
      refine sj_iload_n (pl := 0) S dX4_take_156 rfl rfl ?_
      exact hret _ _ _ _ dX4_take_157 H
  · have H := H.2.2 c9
    refine sj_aload_n (pl := 0) S dX4_take_94 rfl rfl ?_
    refine sj_getr S fM_0_0 iX4_take_4 rfl (by decide) mX4_take_7 dX4_take_95 ?_
    refine sj_iload_n (pl := 1) S dX4_take_98 rfl rfl ?_
    refine sj_if_ne (tgt := 106) S H.1 dX4_take_99 (by decide) (fun c9 => ?_) (fun c9 => ?_)
    · have H := H.2.1 c9
      refine sj_bipush S dX4_take_106 (by decide +kernel) ?_
      refine sj_iload_n (pl := 2) S dX4_take_108 rfl rfl ?_
      refine sj_iadd S dX4_take_109 ?_
      refine sj_aload_n (pl := 0) S dX4_take_110 rfl rfl ?_
      refine sj_getr S fM_0_3 iX4_take_4 rfl (by decide) mX4_take_20 dX4_take_111 ?_
      refine sj_iload_n (pl := 2) S dX4_take_114 rfl rfl ?_
      refine sj_iald S aM_4 H.1 dX4_take_115 ?_
      have H := H.2
      refine sj_bipush S dX4_take_116 (by decide +kernel) ?_
      refine sj_isub S dX4_take_118 ?_
      refine sj_iast S aM_1 H.1 dX4_take_119 (fun st322 est322 => ?_)
      have H := H.2 st322 est322
      refine sj_iinc (pl := 2) (lv' := [(0, .ref (g.2.2 0)), (1, .int (sq_z v1))]) S dX4_take_120 rfl (by decide) (fun _ => rfl) ?_
      refine sj_goto (tgt := 86) S dX4_take_123 (by decide) ?_
      exact sj_lv S [1, 2, 0] rfl H
    · have H := H.2.2 c9
      refine sj_iconst S dX4_take_102 ?_
      refine sj_goto (tgt := 108) S dX4_take_103 (by decide) ?_
      refine sj_iload_n (pl := 2) S dX4_take_108 rfl rfl ?_
      refine sj_iadd S dX4_take_109 ?_
      refine sj_aload_n (pl := 0) S dX4_take_110 rfl rfl ?_
      refine sj_getr S fM_0_3 iX4_take_4 rfl (by decide) mX4_take_20 dX4_take_111 ?_
      refine sj_iload_n (pl := 2) S dX4_take_114 rfl rfl ?_
      refine sj_iald S aM_4 H.1 dX4_take_115 ?_
      have H := H.2
      refine sj_bipush S dX4_take_116 (by decide +kernel) ?_
      refine sj_isub S dX4_take_118 ?_
      refine sj_iast S aM_1 H.1 dX4_take_119 (fun st323 est323 => ?_)
      have H := H.2 st323 est323
      refine sj_iinc (pl := 2) (lv' := [(0, .ref (g.2.2 0)), (1, .int (sq_z v1))]) S dX4_take_120 rfl (by decide) (fun _ => rfl) ?_
      refine sj_goto (tgt := 86) S dX4_take_123 (by decide) ?_
      exact sj_lv S [1, 2, 0] rfl H
set_option maxRecDepth 100000 in
set_option maxHeartbeats 4000000 in
theorem tX4_take_0 {l : Launch} {g : sq_G} {J : sq_K} {Q : Int → sq_S → Prop} (S : sq_J l rX4_take cX4_take 4 RX4 wsX4_take g sq_M J) (hret : ∀ (pc : Nat) (lv : List (Nat × Value)) (r : Int) (st' : sq_S), decode cX4_take pc = .ok (.ireturn, 1) → Q r st' → J pc lv [.int (sq_z r)] st') (v1 : Int) (st : sq_S) (H : bX4_take_0 (qX4_take_37 J g) (qX4_take_86 J g) Q v1 st) : J 0 [(0, .ref (g.2.2 0)), (1, .int (sq_z v1))] [] st := by
  unfold bX4_take_0 at H
  refine sj_iload_n (pl := 1) S dX4_take_0 rfl rfl ?_
  refine sj_iconst S dX4_take_1 ?_
  refine sj_iconst S dX4_take_2 ?_
  refine sj_si (rest := []) S (kX4_in l g v1 0 1 st _ H) (fun s args hts => va_cwS 3 hts gX4_take_X4_in rfl rfl rfl (by decide +kernel) ⟨Nat.le_of_ble_eq_true rfl, Nat.le_of_ble_eq_true rfl⟩) rfl rfl (Nat.le_of_ble_eq_true rfl) dX4_take_3 (fun r310 st311 H => ?_)
  refine sj_if_ne (tgt := 12) S H.1 dX4_take_6 (by decide) (fun c9 => ?_) (fun c9 => ?_)
  · have H := H.2.1 c9
    refine sj_iload_n (pl := 1) S dX4_take_12 rfl rfl ?_
    refine sj_if_eq (tgt := 29) S H.1 dX4_take_13 (by decide) (fun c9 => ?_) (fun c9 => ?_)
    · have H := H.2.1 c9
      refine sj_iconst S dX4_take_29 ?_
      refine sj_goto (tgt := 34) S dX4_take_30 (by decide) ?_
      refine sj_istore_na (lv' := [(0, .ref (g.2.2 0)), (1, .int (sq_z v1))]) S dX4_take_34 rfl (by decide) (fun _ => rfl) ?_
      refine sj_iconst S dX4_take_35 ?_
      refine sj_istore_na (lv' := [(2, .int (sq_z 1)), (0, .ref (g.2.2 0)), (1, .int (sq_z v1))]) S dX4_take_36 rfl (by decide) (fun _ => rfl) ?_
      exact sj_lv S [2, 3, 1, 0] rfl H
    · have H := H.2.2 c9
      refine sj_aload_n (pl := 0) S dX4_take_16 rfl rfl ?_
      refine sj_geti S fM_0_4 iX4_take_4 rfl (by decide) mX4_take_45 dX4_take_17 ?_
      refine sj_iconst S dX4_take_20 ?_
      refine sj_bipush S dX4_take_21 (by decide +kernel) ?_
      refine sj_si (rest := []) S (kX4_in l g (st311 0 4) 1 6 st311 _ H) (fun s args hts => va_cwS 3 hts gX4_take_X4_in rfl rfl rfl (by decide +kernel) ⟨Nat.le_of_ble_eq_true rfl, Nat.le_of_ble_eq_true rfl⟩) rfl rfl (Nat.le_of_ble_eq_true rfl) dX4_take_23 (fun r312 st313 H => ?_)
      refine sj_if_eq (tgt := 33) S H.1 dX4_take_26 (by decide) (fun c9 => ?_) (fun c9 => ?_)
      · have H := H.2.1 c9
        refine sj_iconst S dX4_take_33 ?_
        refine sj_istore_na (lv' := [(0, .ref (g.2.2 0)), (1, .int (sq_z v1))]) S dX4_take_34 rfl (by decide) (fun _ => rfl) ?_
        refine sj_iconst S dX4_take_35 ?_
        refine sj_istore_na (lv' := [(2, .int (sq_z 0)), (0, .ref (g.2.2 0)), (1, .int (sq_z v1))]) S dX4_take_36 rfl (by decide) (fun _ => rfl) ?_
        exact sj_lv S [2, 3, 1, 0] rfl H
      · have H := H.2.2 c9
        refine sj_iconst S dX4_take_29 ?_
        refine sj_goto (tgt := 34) S dX4_take_30 (by decide) ?_
        refine sj_istore_na (lv' := [(0, .ref (g.2.2 0)), (1, .int (sq_z v1))]) S dX4_take_34 rfl (by decide) (fun _ => rfl) ?_
        refine sj_iconst S dX4_take_35 ?_
        refine sj_istore_na (lv' := [(2, .int (sq_z 1)), (0, .ref (g.2.2 0)), (1, .int (sq_z v1))]) S dX4_take_36 rfl (by decide) (fun _ => rfl) ?_
        exact sj_lv S [2, 3, 1, 0] rfl H
  · have H := H.2.2 c9
    refine sj_bipush S dX4_take_9 (by decide +kernel) ?_
    exact hret _ _ _ _ dX4_take_11 H
set_option maxRecDepth 100000 in
set_option maxHeartbeats 4000000 in
theorem kX4_take (l : Launch) (g : sq_G) (v1 : Int) (st : sq_S) (Q : Int → sq_S → Prop) (H : wX4_take v1 st Q) : sq_Ci l yX4_take wsX4_take rX4_take g sq_M [.ref (g.2.2 0), .int (sq_z v1)] st Q := by
  refine sq_in_i (cc := cX4_take) (nL := 4) (own := RX4) (by decide) rfl rfl (Nat.le_of_ble_eq_true rfl) ?_
  intro J S hret
  exact tX4_take_0 S hret v1 st (H (qX4_take_37 J g) (qX4_take_86 J g) (tX4_take_37 S hret) (tX4_take_86 S hret))
/-! isLetter (I)Z : X4_isLetter -/
def wX4_isLetter (v0 : Int) (st : sq_S) (Q : Int → sq_S → Prop) : Prop :=
  wX4_in v0 0 15 st (fun r324 st325 => (r324 = 0 ∨ r324 = 1) ∧ Q r324 st325)
def rX4_isLetter : Room := { frames := 1, cells := 0, slots := 0, locals := 22 }
set_option maxRecDepth 100000 in
set_option maxHeartbeats 4000000 in
theorem tX4_isLetter_0 {l : Launch} {g : sq_G} {J : sq_K} {Q : Int → sq_S → Prop} (S : sq_J l rX4_isLetter cX4_isLetter 1 RX4 wsX4_isLetter g sq_M J) (hret : ∀ (pc : Nat) (lv : List (Nat × Value)) (r : Int) (st' : sq_S), decode cX4_isLetter pc = .ok (.ireturn, 1) → (r = 0 ∨ r = 1) ∧ Q r st' → J pc lv [.int (sq_z r)] st') (v0 : Int) (st : sq_S) (H : wX4_isLetter v0 st Q) : J 0 [(0, .int (sq_z v0))] [] st := by
  unfold wX4_isLetter at H
  refine sj_iload_n (pl := 0) S dX4_isLetter_0 rfl rfl ?_
  refine sj_iconst S dX4_isLetter_1 ?_
  refine sj_bipush S dX4_isLetter_2 (by decide +kernel) ?_
  refine sj_si (rest := []) S (kX4_in l g v0 0 15 st _ H) (fun s args hts => va_cwS 3 hts gX4_isLetter_X4_in rfl rfl rfl (by decide +kernel) ⟨Nat.le_of_ble_eq_true rfl, Nat.le_of_ble_eq_true rfl⟩) rfl rfl (Nat.le_of_ble_eq_true rfl) dX4_isLetter_4 (fun r324 st325 H => ?_)
  exact hret _ _ _ _ dX4_isLetter_7 H
set_option maxRecDepth 100000 in
set_option maxHeartbeats 4000000 in
theorem kX4_isLetter (l : Launch) (g : sq_G) (v0 : Int) (st : sq_S) (Q : Int → sq_S → Prop) (H : wX4_isLetter v0 st Q) : sq_Ci l yX4_isLetter wsX4_isLetter rX4_isLetter g sq_M [.int (sq_z v0)] st Q := by
  refine sq_in_z (cc := cX4_isLetter) (nL := 1) (own := RX4) (by decide) rfl rfl (Nat.le_of_ble_eq_true rfl) ?_
  intro J S hret
  exact tX4_isLetter_0 S hret v0 st H
/-! worth (II)I : X4_worth -/
theorem iX4_worth_4 : ∀ w ∈ u_ws RX4 TX4 12, w ∈ wsX4_worth := fun _ h => List.mem_cons_of_mem _ (List.mem_append_right _ h)
theorem mX4_worth_7 : Cond.fieldLink RX4 7 (TX4 0).1 (TX4 0).2.1 (TX4 0).2.2.1 ∈ wsX4_worth := List.mem_of_getElem? (i := 1) rfl
def wX4_worth (v1 v2 : Int) (st : sq_S) (Q : Int → sq_S → Prop) : Prop :=
  wX4_isLetter v1 st (fun r326 st327 => sq_rg r326 ∧ (r326 = 0 → Q (-2) st327) ∧ (¬ r326 = 0 → wX4_in v2 0 99 st327 (fun r328 st329 => sq_rg r328 ∧ (¬ r328 = 0 → sq_ib (56 + v1) 819 ∧ (∀ y330 : Int, y330 = (st329 1 ((56 + v1)).toNat) → (sq_ib (56 + v1) 819 ∧ (∀ st331 : sq_S, st331 = sq_set st329 1 ((56 + v1)).toNat v2 → (Q y330 st331))))) ∧ (r328 = 0 → Q (-2) st329))))
def rX4_worth : Room := { frames := 2, cells := 0, slots := 0, locals := 42 }
set_option maxRecDepth 100000 in
set_option maxHeartbeats 4000000 in
theorem tX4_worth_0 {l : Launch} {g : sq_G} {J : sq_K} {Q : Int → sq_S → Prop} (S : sq_J l rX4_worth cX4_worth 4 RX4 wsX4_worth g sq_M J) (hret : ∀ (pc : Nat) (lv : List (Nat × Value)) (r : Int) (st' : sq_S), decode cX4_worth pc = .ok (.ireturn, 1) → Q r st' → J pc lv [.int (sq_z r)] st') (v1 v2 : Int) (st : sq_S) (H : wX4_worth v1 v2 st Q) : J 0 [(0, .ref (g.2.2 0)), (1, .int (sq_z v1)), (2, .int (sq_z v2))] [] st := by
  unfold wX4_worth at H
  refine sj_iload_n (pl := 1) S dX4_worth_0 rfl rfl ?_
  refine sj_si (rest := []) S (kX4_isLetter l g v1 st _ H) (fun s args hts => va_cwS 1 hts gX4_worth_X4_isLetter rfl rfl rfl (by decide +kernel) ⟨Nat.le_of_ble_eq_true rfl, Nat.le_of_ble_eq_true rfl⟩) rfl rfl (Nat.le_of_ble_eq_true rfl) dX4_worth_1 (fun r326 st327 H => ?_)
  refine sj_if_eq (tgt := 17) S H.1 dX4_worth_4 (by decide) (fun c9 => ?_) (fun c9 => ?_)
  · have H := H.2.1 c9
    refine sj_bipush S dX4_worth_17 (by decide +kernel) ?_
    exact hret _ _ _ _ dX4_worth_19 H
  · have H := H.2.2 c9
    refine sj_iload_n (pl := 2) S dX4_worth_7 rfl rfl ?_
    refine sj_iconst S dX4_worth_8 ?_
    refine sj_bipush S dX4_worth_9 (by decide +kernel) ?_
    refine sj_si (rest := []) S (kX4_in l g v2 0 99 st327 _ H) (fun s args hts => va_cwS 3 hts gX4_worth_X4_in rfl rfl rfl (by decide +kernel) ⟨Nat.le_of_ble_eq_true rfl, Nat.le_of_ble_eq_true rfl⟩) rfl rfl (Nat.le_of_ble_eq_true rfl) dX4_worth_11 (fun r328 st329 H => ?_)
    refine sj_if_ne (tgt := 20) S H.1 dX4_worth_14 (by decide) (fun c9 => ?_) (fun c9 => ?_)
    · have H := H.2.1 c9
      refine sj_aload_n (pl := 0) S dX4_worth_20 rfl rfl ?_
      refine sj_getr S fM_0_0 iX4_worth_4 rfl (by decide) mX4_worth_7 dX4_worth_21 ?_
      refine sj_bipush S dX4_worth_24 (by decide +kernel) ?_
      refine sj_iload_n (pl := 1) S dX4_worth_26 rfl rfl ?_
      refine sj_iadd S dX4_worth_27 ?_
      refine sj_iald S aM_1 H.1 dX4_worth_28 ?_
      have H := H.2
      refine sj_istore_n (lv' := [(0, .ref (g.2.2 0)), (1, .int (sq_z v1)), (2, .int (sq_z v2))]) S dX4_worth_29 rfl (by decide) (fun _ => rfl) (fun y330 ey330 => ?_)
      have H := H y330 ey330
      refine sj_aload_n (pl := 1) S dX4_worth_30 rfl rfl ?_
      refine sj_getr S fM_0_0 iX4_worth_4 rfl (by decide) mX4_worth_7 dX4_worth_31 ?_
      refine sj_bipush S dX4_worth_34 (by decide +kernel) ?_
      refine sj_iload_n (pl := 2) S dX4_worth_36 rfl rfl ?_
      refine sj_iadd S dX4_worth_37 ?_
      refine sj_iload_n (pl := 3) S dX4_worth_38 rfl rfl ?_
      refine sj_iast S aM_1 H.1 dX4_worth_39 (fun st331 est331 => ?_)
      have H := H.2 st331 est331
      refine sj_iload_n (pl := 0) S dX4_worth_40 rfl rfl ?_
      exact hret _ _ _ _ dX4_worth_41 H
    · have H := H.2.2 c9
      refine sj_bipush S dX4_worth_17 (by decide +kernel) ?_
      exact hret _ _ _ _ dX4_worth_19 H
set_option maxRecDepth 100000 in
set_option maxHeartbeats 4000000 in
theorem kX4_worth (l : Launch) (g : sq_G) (v1 v2 : Int) (st : sq_S) (Q : Int → sq_S → Prop) (H : wX4_worth v1 v2 st Q) : sq_Ci l yX4_worth wsX4_worth rX4_worth g sq_M [.ref (g.2.2 0), .int (sq_z v1), .int (sq_z v2)] st Q := by
  refine sq_in_i (cc := cX4_worth) (nL := 4) (own := RX4) (by decide) rfl rfl (Nat.le_of_ble_eq_true rfl) ?_
  intro J S hret
  exact tX4_worth_0 S hret v1 v2 st H
/-! liked ()I : X4_liked -/
theorem iX4_liked_4 : ∀ w ∈ u_ws RX4 TX4 12, w ∈ wsX4_liked := fun _ h => List.mem_cons_of_mem _ (List.mem_append_right _ h)
theorem mX4_liked_7 : Cond.fieldLink RX4 7 (TX4 0).1 (TX4 0).2.1 (TX4 0).2.2.1 ∈ wsX4_liked := List.mem_of_getElem? (i := 1) rfl
def bX4_liked_4 (K4 : Int → Int → sq_S → Prop) (Q : Int → sq_S → Prop) (v1 v2 : Int) (st : sq_S) : Prop :=
  (sq_rg v2 ∧ sq_rg 256) ∧ (256 ≤ v2 → Q v1 st) ∧ (v2 < 256 → sq_ib (72 + v2) 819 ∧ (∀ y339 : Int, y339 = (v1 + (st 1 ((72 + v2)).toNat)) → (K4 y339 (v2 + 1) st)))
def bX4_liked_0 (K4 : Int → Int → sq_S → Prop) (Q : Int → sq_S → Prop) (st : sq_S) : Prop :=
  K4 0 0 st
def wX4_liked (st : sq_S) (Q : Int → sq_S → Prop) : Prop :=
  ∀ (K4 : Int → Int → sq_S → Prop), (∀ (v1 v2 : Int) (st : sq_S), bX4_liked_4 K4 Q v1 v2 st → K4 v1 v2 st) → bX4_liked_0 K4 Q  st
def rX4_liked : Room := { frames := 0, cells := 0, slots := 0, locals := 0 }
def qX4_liked_4 (J : sq_K) (g : sq_G) : Int → Int → sq_S → Prop := fun v1 v2 st => J 4 [(0, .ref (g.2.2 0)), (1, .int (sq_z v1)), (2, .int (sq_z v2))] [] st
set_option maxRecDepth 100000 in
set_option maxHeartbeats 4000000 in
theorem tX4_liked_4 {l : Launch} {g : sq_G} {J : sq_K} {Q : Int → sq_S → Prop} (S : sq_J l rX4_liked cX4_liked 3 RX4 wsX4_liked g sq_M J) (hret : ∀ (pc : Nat) (lv : List (Nat × Value)) (r : Int) (st' : sq_S), decode cX4_liked pc = .ok (.ireturn, 1) → Q r st' → J pc lv [.int (sq_z r)] st') (v1 v2 : Int) (st : sq_S) (H : bX4_liked_4 (qX4_liked_4 J g) Q v1 v2 st) : J 4 [(0, .ref (g.2.2 0)), (1, .int (sq_z v1)), (2, .int (sq_z v2))] [] st := by
  unfold bX4_liked_4 at H
  refine sj_iload_n (pl := 2) S dX4_liked_4 rfl rfl ?_
  refine sj_sipush S dX4_liked_5 (by decide +kernel) ?_
  refine sj_icmp_ge (tgt := 29) S H.1 dX4_liked_8 (by decide) (fun c9 => ?_) (fun c9 => ?_)
  · have H := H.2.1 c9
    refine sj_iload_n (pl := 1) S dX4_liked_29 rfl rfl ?_
    exact hret _ _ _ _ dX4_liked_30 H
  · have H := H.2.2 c9
    refine sj_iload_n (pl := 1) S dX4_liked_11 rfl rfl ?_
    refine sj_aload_n (pl := 0) S dX4_liked_12 rfl rfl ?_
    refine sj_getr S fM_0_0 iX4_liked_4 rfl (by decide) mX4_liked_7 dX4_liked_13 ?_
    refine sj_bipush S dX4_liked_16 (by decide +kernel) ?_
    refine sj_iload_n (pl := 2) S dX4_liked_18 rfl rfl ?_
    refine sj_iadd S dX4_liked_19 ?_
    refine sj_iald S aM_1 H.1 dX4_liked_20 ?_
    have H := H.2
    refine sj_iadd S dX4_liked_21 ?_
    refine sj_istore_n (lv' := [(0, .ref (g.2.2 0)), (2, .int (sq_z v2))]) S dX4_liked_22 rfl (by decide) (fun _ => rfl) (fun y339 ey339 => ?_)
    have H := H y339 ey339
    refine sj_iinc (pl := 2) (lv' := [(1, .int (sq_z y339)), (0, .ref (g.2.2 0))]) S dX4_liked_23 rfl (by decide) (fun _ => rfl) ?_
    refine sj_goto (tgt := 4) S dX4_liked_26 (by decide) ?_
    exact sj_lv S [2, 1, 0] rfl H
set_option maxRecDepth 100000 in
set_option maxHeartbeats 4000000 in
theorem tX4_liked_0 {l : Launch} {g : sq_G} {J : sq_K} {Q : Int → sq_S → Prop} (S : sq_J l rX4_liked cX4_liked 3 RX4 wsX4_liked g sq_M J) (hret : ∀ (pc : Nat) (lv : List (Nat × Value)) (r : Int) (st' : sq_S), decode cX4_liked pc = .ok (.ireturn, 1) → Q r st' → J pc lv [.int (sq_z r)] st') (st : sq_S) (H : bX4_liked_0 (qX4_liked_4 J g) Q st) : J 0 [(0, .ref (g.2.2 0))] [] st := by
  unfold bX4_liked_0 at H
  refine sj_iconst S dX4_liked_0 ?_
  refine sj_istore_na (lv' := [(0, .ref (g.2.2 0))]) S dX4_liked_1 rfl (by decide) (fun _ => rfl) ?_
  refine sj_iconst S dX4_liked_2 ?_
  refine sj_istore_na (lv' := [(1, .int (sq_z 0)), (0, .ref (g.2.2 0))]) S dX4_liked_3 rfl (by decide) (fun _ => rfl) ?_
  exact sj_lv S [2, 1, 0] rfl H
set_option maxRecDepth 100000 in
set_option maxHeartbeats 4000000 in
theorem kX4_liked (l : Launch) (g : sq_G) (st : sq_S) (Q : Int → sq_S → Prop) (H : wX4_liked  st Q) : sq_Ci l yX4_liked wsX4_liked rX4_liked g sq_M [.ref (g.2.2 0)] st Q := by
  refine sq_in_i (cc := cX4_liked) (nL := 3) (own := RX4) (by decide) rfl rfl (Nat.le_of_ble_eq_true rfl) ?_
  intro J S hret
  exact tX4_liked_0 S hret  st (H (qX4_liked_4 J g) (tX4_liked_4 S hret))
/-! like (III)I : X4_like -/
theorem iX4_like_4 : ∀ w ∈ u_ws RX4 TX4 12, w ∈ wsX4_like := fun _ h => List.mem_cons_of_mem _ (List.mem_append_right _ h)
theorem mX4_like_7 : Cond.fieldLink RX4 7 (TX4 0).1 (TX4 0).2.1 (TX4 0).2.2.1 ∈ wsX4_like := List.mem_of_getElem? (i := 1) rfl
def wX4_like (v1 v2 v3 : Int) (st : sq_S) (Q : Int → sq_S → Prop) : Prop :=
  wX4_isLetter v1 st (fun r332 st333 => sq_rg r332 ∧ (r332 = 0 → Q (-2) st333) ∧ (¬ r332 = 0 → wX4_isLetter v2 st333 (fun r334 st335 => sq_rg r334 ∧ (r334 = 0 → Q (-2) st335) ∧ (¬ r334 = 0 → wX4_in v3 0 1 st335 (fun r336 st337 => sq_rg r336 ∧ (¬ r336 = 0 → sq_ib ((72 + (16 * v1)) + v2) 819 ∧ (∀ st338 : sq_S, st338 = sq_set st337 1 (((72 + (16 * v1)) + v2)).toNat v3 → (wX4_liked st338 (fun r340 st341 => Q r340 st341)))) ∧ (r336 = 0 → Q (-2) st337))))))
def rX4_like : Room := { frames := 2, cells := 0, slots := 0, locals := 42 }
set_option maxRecDepth 100000 in
set_option maxHeartbeats 4000000 in
theorem tX4_like_0 {l : Launch} {g : sq_G} {J : sq_K} {Q : Int → sq_S → Prop} (S : sq_J l rX4_like cX4_like 4 RX4 wsX4_like g sq_M J) (hret : ∀ (pc : Nat) (lv : List (Nat × Value)) (r : Int) (st' : sq_S), decode cX4_like pc = .ok (.ireturn, 1) → Q r st' → J pc lv [.int (sq_z r)] st') (v1 v2 v3 : Int) (st : sq_S) (H : wX4_like v1 v2 v3 st Q) : J 0 [(0, .ref (g.2.2 0)), (1, .int (sq_z v1)), (2, .int (sq_z v2)), (3, .int (sq_z v3))] [] st := by
  unfold wX4_like at H
  refine sj_iload_n (pl := 1) S dX4_like_0 rfl rfl ?_
  refine sj_si (rest := []) S (kX4_isLetter l g v1 st _ H) (fun s args hts => va_cwS 1 hts gX4_like_X4_isLetter rfl rfl rfl (by decide +kernel) ⟨Nat.le_of_ble_eq_true rfl, Nat.le_of_ble_eq_true rfl⟩) rfl rfl (Nat.le_of_ble_eq_true rfl) dX4_like_1 (fun r332 st333 H => ?_)
  refine sj_if_eq (tgt := 23) S H.1 dX4_like_4 (by decide) (fun c9 => ?_) (fun c9 => ?_)
  · have H := H.2.1 c9
    refine sj_bipush S dX4_like_23 (by decide +kernel) ?_
    exact hret _ _ _ _ dX4_like_25 H
  · have H := H.2.2 c9
    refine sj_iload_n (pl := 2) S dX4_like_7 rfl rfl ?_
    refine sj_si (rest := []) S (kX4_isLetter l g v2 st333 _ H) (fun s args hts => va_cwS 1 hts gX4_like_X4_isLetter rfl rfl rfl (by decide +kernel) ⟨Nat.le_of_ble_eq_true rfl, Nat.le_of_ble_eq_true rfl⟩) rfl rfl (Nat.le_of_ble_eq_true rfl) dX4_like_8 (fun r334 st335 H => ?_)
    refine sj_if_eq (tgt := 23) S H.1 dX4_like_11 (by decide) (fun c9 => ?_) (fun c9 => ?_)
    · have H := H.2.1 c9
      refine sj_bipush S dX4_like_23 (by decide +kernel) ?_
      exact hret _ _ _ _ dX4_like_25 H
    · have H := H.2.2 c9
      refine sj_iload_n (pl := 3) S dX4_like_14 rfl rfl ?_
      refine sj_iconst S dX4_like_15 ?_
      refine sj_iconst S dX4_like_16 ?_
      refine sj_si (rest := []) S (kX4_in l g v3 0 1 st335 _ H) (fun s args hts => va_cwS 3 hts gX4_like_X4_in rfl rfl rfl (by decide +kernel) ⟨Nat.le_of_ble_eq_true rfl, Nat.le_of_ble_eq_true rfl⟩) rfl rfl (Nat.le_of_ble_eq_true rfl) dX4_like_17 (fun r336 st337 H => ?_)
      refine sj_if_ne (tgt := 26) S H.1 dX4_like_20 (by decide) (fun c9 => ?_) (fun c9 => ?_)
      · have H := H.2.1 c9
        refine sj_aload_n (pl := 0) S dX4_like_26 rfl rfl ?_
        refine sj_getr S fM_0_0 iX4_like_4 rfl (by decide) mX4_like_7 dX4_like_27 ?_
        refine sj_bipush S dX4_like_30 (by decide +kernel) ?_
        refine sj_bipush S dX4_like_32 (by decide +kernel) ?_
        refine sj_iload_n (pl := 1) S dX4_like_34 rfl rfl ?_
        refine sj_imul S dX4_like_35 ?_
        refine sj_iadd S dX4_like_36 ?_
        refine sj_iload_n (pl := 2) S dX4_like_37 rfl rfl ?_
        refine sj_iadd S dX4_like_38 ?_
        refine sj_iload_n (pl := 3) S dX4_like_39 rfl rfl ?_
        refine sj_iast S aM_1 H.1 dX4_like_40 (fun st338 est338 => ?_)
        have H := H.2 st338 est338
        refine sj_aload_n (pl := 0) S dX4_like_41 rfl rfl ?_
        refine sj_vi (rest := []) (q0 := 0) (ci := 4) S (kX4_liked l g st338 _ H) (fun s args hts => cwV 0 hts gX4_like_X4_liked rfl rfl rfl (by decide +kernel) ⟨Nat.le_of_ble_eq_true rfl, Nat.le_of_ble_eq_true rfl⟩) rfl rfl rfl rfl (Nat.le_of_ble_eq_true rfl) dX4_like_42 (fun r340 st341 H => ?_)
        exact hret _ _ _ _ dX4_like_45 H
      · have H := H.2.2 c9
        refine sj_bipush S dX4_like_23 (by decide +kernel) ?_
        exact hret _ _ _ _ dX4_like_25 H
set_option maxRecDepth 100000 in
set_option maxHeartbeats 4000000 in
theorem kX4_like (l : Launch) (g : sq_G) (v1 v2 v3 : Int) (st : sq_S) (Q : Int → sq_S → Prop) (H : wX4_like v1 v2 v3 st Q) : sq_Ci l yX4_like wsX4_like rX4_like g sq_M [.ref (g.2.2 0), .int (sq_z v1), .int (sq_z v2), .int (sq_z v3)] st Q := by
  refine sq_in_i (cc := cX4_like) (nL := 4) (own := RX4) (by decide) rfl rfl (Nat.le_of_ble_eq_true rfl) ?_
  intro J S hret
  exact tX4_like_0 S hret v1 v2 v3 st H
/-! many ()I : X4_many -/
theorem iX4_many_4 : ∀ w ∈ u_ws RX4 TX4 12, w ∈ wsX4_many := fun _ h => List.mem_cons_of_mem _ (List.mem_append_right _ h)
theorem mX4_many_7 : Cond.fieldLink RX4 7 (TX4 0).1 (TX4 0).2.1 (TX4 0).2.2.1 ∈ wsX4_many := List.mem_of_getElem? (i := 1) rfl
def wX4_many (st : sq_S) (Q : Int → sq_S → Prop) : Prop :=
  sq_ib 48 819 ∧ (Q (st 1 48) st)
def rX4_many : Room := { frames := 0, cells := 0, slots := 0, locals := 0 }
set_option maxRecDepth 100000 in
set_option maxHeartbeats 4000000 in
theorem tX4_many_0 {l : Launch} {g : sq_G} {J : sq_K} {Q : Int → sq_S → Prop} (S : sq_J l rX4_many cX4_many 1 RX4 wsX4_many g sq_M J) (hret : ∀ (pc : Nat) (lv : List (Nat × Value)) (r : Int) (st' : sq_S), decode cX4_many pc = .ok (.ireturn, 1) → Q r st' → J pc lv [.int (sq_z r)] st') (st : sq_S) (H : wX4_many st Q) : J 0 [(0, .ref (g.2.2 0))] [] st := by
  unfold wX4_many at H
  refine sj_aload_n (pl := 0) S dX4_many_0 rfl rfl ?_
  refine sj_getr S fM_0_0 iX4_many_4 rfl (by decide) mX4_many_7 dX4_many_1 ?_
  refine sj_bipush S dX4_many_4 (by decide +kernel) ?_
  refine sj_iald S aM_1 H.1 dX4_many_6 ?_
  have H := H.2
  exact hret _ _ _ _ dX4_many_7 H
set_option maxRecDepth 100000 in
set_option maxHeartbeats 4000000 in
theorem kX4_many (l : Launch) (g : sq_G) (st : sq_S) (Q : Int → sq_S → Prop) (H : wX4_many  st Q) : sq_Ci l yX4_many wsX4_many rX4_many g sq_M [.ref (g.2.2 0)] st Q := by
  refine sq_in_i (cc := cX4_many) (nL := 1) (own := RX4) (by decide) rfl rfl (Nat.le_of_ble_eq_true rfl) ?_
  intro J S hret
  exact tX4_many_0 S hret  st H
/-! laySquare ()V : X4_laySquare -/
theorem iX4_laySquare_4 : ∀ w ∈ u_ws RX4 TX4 12, w ∈ wsX4_laySquare := fun _ h => List.mem_cons_of_mem _ (List.mem_append_right _ h)
theorem mX4_laySquare_7 : Cond.fieldLink RX4 7 (TX4 0).1 (TX4 0).2.1 (TX4 0).2.2.1 ∈ wsX4_laySquare := List.mem_of_getElem? (i := 1) rfl
theorem mX4_laySquare_29 : Cond.fieldLink RX4 29 (TX4 7).1 (TX4 7).2.1 (TX4 7).2.2.1 ∈ wsX4_laySquare := List.mem_of_getElem? (i := 2) rfl
def bX4_laySquare_6 (K6 : Int → Int → Int → sq_S → Prop) (K52 : Int → Int → Int → Int → sq_S → Prop) (Q : Int → sq_S → Prop) (v1 v2 v3 : Int) (st : sq_S) : Prop :=
  sq_ib 55 819 ∧ ((sq_rg v3 ∧ sq_rg ((st 1 55) + 16)) ∧ (((st 1 55) + 16) ≤ v3 → Q 0 st) ∧ (v3 < ((st 1 55) + 16) → sq_ib 55 819 ∧ ((sq_rg v3 ∧ sq_rg (st 1 55)) ∧ ((st 1 55) ≤ v3 → sq_ib 55 819 ∧ (K52 v1 v2 v3 (v3 - (st 1 55)) st)) ∧ (v3 < (st 1 55) → sq_ib (49 + v3) 819 ∧ (K52 v1 v2 v3 (st 1 ((49 + v3)).toNat) st)))))
def bX4_laySquare_52 (K6 : Int → Int → Int → sq_S → Prop) (K52 : Int → Int → Int → Int → sq_S → Prop) (Q : Int → sq_S → Prop) (v1 v2 v3 s0 : Int) (st : sq_S) : Prop :=
  sq_rg (sq_and (sq_shr v2 s0) 1) ∧ (¬ (sq_and (sq_shr v2 s0) 1) = 0 → K6 v1 v2 (v3 + 1) st) ∧ ((sq_and (sq_shr v2 s0) 1) = 0 → sq_ib v1 16 ∧ (∀ st348 : sq_S, st348 = sq_set st 7 v1.toNat s0 → (∀ y349 : Int, y349 = (sq_or v2 (sq_shl 1 s0)) → (K6 (v1 + 1) y349 (v3 + 1) st348))))
def bX4_laySquare_0 (K6 : Int → Int → Int → sq_S → Prop) (K52 : Int → Int → Int → Int → sq_S → Prop) (Q : Int → sq_S → Prop) (st : sq_S) : Prop :=
  K6 0 0 0 st
def wX4_laySquare (st : sq_S) (Q : Int → sq_S → Prop) : Prop :=
  ∀ (K6 : Int → Int → Int → sq_S → Prop) (K52 : Int → Int → Int → Int → sq_S → Prop), (∀ (v1 v2 v3 : Int) (st : sq_S), bX4_laySquare_6 K6 K52 Q v1 v2 v3 st → K6 v1 v2 v3 st) → (∀ (v1 v2 v3 s0 : Int) (st : sq_S), bX4_laySquare_52 K6 K52 Q v1 v2 v3 s0 st → K52 v1 v2 v3 s0 st) → bX4_laySquare_0 K6 K52 Q  st
def rX4_laySquare : Room := { frames := 0, cells := 0, slots := 0, locals := 0 }
def qX4_laySquare_6 (J : sq_K) (g : sq_G) : Int → Int → Int → sq_S → Prop := fun v1 v2 v3 st => J 6 [(0, .ref (g.2.2 0)), (1, .int (sq_z v1)), (2, .int (sq_z v2)), (3, .int (sq_z v3))] [] st
def qX4_laySquare_52 (J : sq_K) (g : sq_G) : Int → Int → Int → Int → sq_S → Prop := fun v1 v2 v3 s0 st => J 52 [(0, .ref (g.2.2 0)), (1, .int (sq_z v1)), (2, .int (sq_z v2)), (3, .int (sq_z v3))] [.int (sq_z s0)] st
set_option maxRecDepth 100000 in
set_option maxHeartbeats 4000000 in
theorem tX4_laySquare_6 {l : Launch} {g : sq_G} {J : sq_K} {Q : Int → sq_S → Prop} (S : sq_J l rX4_laySquare cX4_laySquare 5 RX4 wsX4_laySquare g sq_M J) (hret : ∀ (pc : Nat) (lv : List (Nat × Value)) (st' : sq_S), decode cX4_laySquare pc = .ok (.return_, 1) → Q 0 st' → J pc lv [] st') (v1 v2 v3 : Int) (st : sq_S) (H : bX4_laySquare_6 (qX4_laySquare_6 J g) (qX4_laySquare_52 J g) Q v1 v2 v3 st) : J 6 [(0, .ref (g.2.2 0)), (1, .int (sq_z v1)), (2, .int (sq_z v2)), (3, .int (sq_z v3))] [] st := by
  unfold bX4_laySquare_6 at H
  refine sj_iload_n (pl := 3) S dX4_laySquare_6 rfl rfl ?_
  refine sj_aload_n (pl := 0) S dX4_laySquare_7 rfl rfl ?_
  refine sj_getr S fM_0_0 iX4_laySquare_4 rfl (by decide) mX4_laySquare_7 dX4_laySquare_8 ?_
  refine sj_bipush S dX4_laySquare_11 (by decide +kernel) ?_
  refine sj_iald S aM_1 H.1 dX4_laySquare_13 ?_
  have H := H.2
  refine sj_bipush S dX4_laySquare_14 (by decide +kernel) ?_
  refine sj_iadd S dX4_laySquare_16 ?_
  refine sj_icmp_ge (tgt := 87) S H.1 dX4_laySquare_17 (by decide) (fun c9 => ?_) (fun c9 => ?_)
  · have H := H.2.1 c9
    exact hret _ _ _ dX4_laySquare_87 H
  · have H := H.2.2 c9
    refine sj_iload_n (pl := 3) S dX4_laySquare_20 rfl rfl ?_
    refine sj_aload_n (pl := 0) S dX4_laySquare_21 rfl rfl ?_
    refine sj_getr S fM_0_0 iX4_laySquare_4 rfl (by decide) mX4_laySquare_7 dX4_laySquare_22 ?_
    refine sj_bipush S dX4_laySquare_25 (by decide +kernel) ?_
    refine sj_iald S aM_1 H.1 dX4_laySquare_27 ?_
    have H := H.2
    refine sj_icmp_ge (tgt := 43) S H.1 dX4_laySquare_28 (by decide) (fun c9 => ?_) (fun c9 => ?_)
    · have H := H.2.1 c9
      refine sj_iload_n (pl := 3) S dX4_laySquare_43 rfl rfl ?_
      refine sj_aload_n (pl := 0) S dX4_laySquare_44 rfl rfl ?_
      refine sj_getr S fM_0_0 iX4_laySquare_4 rfl (by decide) mX4_laySquare_7 dX4_laySquare_45 ?_
      refine sj_bipush S dX4_laySquare_48 (by decide +kernel) ?_
      refine sj_iald S aM_1 H.1 dX4_laySquare_50 ?_
      have H := H.2
      refine sj_isub S dX4_laySquare_51 ?_
      exact sj_lv S [0, 1, 2, 3] rfl H
    · have H := H.2.2 c9
      refine sj_aload_n (pl := 0) S dX4_laySquare_31 rfl rfl ?_
      refine sj_getr S fM_0_0 iX4_laySquare_4 rfl (by decide) mX4_laySquare_7 dX4_laySquare_32 ?_
      refine sj_bipush S dX4_laySquare_35 (by decide +kernel) ?_
      refine sj_iload_n (pl := 3) S dX4_laySquare_37 rfl rfl ?_
      refine sj_iadd S dX4_laySquare_38 ?_
      refine sj_iald S aM_1 H.1 dX4_laySquare_39 ?_
      have H := H.2
      refine sj_goto (tgt := 52) S dX4_laySquare_40 (by decide) ?_
      exact sj_lv S [0, 1, 2, 3] rfl H
set_option maxRecDepth 100000 in
set_option maxHeartbeats 4000000 in
theorem tX4_laySquare_52 {l : Launch} {g : sq_G} {J : sq_K} {Q : Int → sq_S → Prop} (S : sq_J l rX4_laySquare cX4_laySquare 5 RX4 wsX4_laySquare g sq_M J) (hret : ∀ (pc : Nat) (lv : List (Nat × Value)) (st' : sq_S), decode cX4_laySquare pc = .ok (.return_, 1) → Q 0 st' → J pc lv [] st') (v1 v2 v3 s0 : Int) (st : sq_S) (H : bX4_laySquare_52 (qX4_laySquare_6 J g) (qX4_laySquare_52 J g) Q v1 v2 v3 s0 st) : J 52 [(0, .ref (g.2.2 0)), (1, .int (sq_z v1)), (2, .int (sq_z v2)), (3, .int (sq_z v3))] [.int (sq_z s0)] st := by
  unfold bX4_laySquare_52 at H
  refine sj_istorea (lv' := [(0, .ref (g.2.2 0)), (1, .int (sq_z v1)), (2, .int (sq_z v2)), (3, .int (sq_z v3))]) S dX4_laySquare_52 (by decide) (fun _ => rfl) ?_
  refine sj_iload_n (pl := 3) S dX4_laySquare_54 rfl rfl ?_
  refine sj_iload (pl := 0) S dX4_laySquare_55 rfl ?_
  refine sj_ishr S dX4_laySquare_57 ?_
  refine sj_iconst S dX4_laySquare_58 ?_
  refine sj_iand S dX4_laySquare_59 ?_
  refine sj_if_ne (tgt := 81) S H.1 dX4_laySquare_60 (by decide) (fun c9 => ?_) (fun c9 => ?_)
  · have H := H.2.1 c9
    refine sj_iinc (pl := 4) (lv' := [(4, .int (sq_z s0)), (0, .ref (g.2.2 0)), (1, .int (sq_z v1)), (2, .int (sq_z v2))]) S dX4_laySquare_81 rfl (by decide) (fun _ => rfl) ?_
    refine sj_goto (tgt := 6) S dX4_laySquare_84 (by decide) ?_
    exact sj_lv S [2, 3, 4, 0] rfl H
  · have H := H.2.2 c9
    refine sj_aload_n (pl := 1) S dX4_laySquare_63 rfl rfl ?_
    refine sj_getr S fM_0_7 iX4_laySquare_4 rfl (by decide) mX4_laySquare_29 dX4_laySquare_64 ?_
    refine sj_iload_n (pl := 2) S dX4_laySquare_67 rfl rfl ?_
    refine sj_iload (pl := 0) S dX4_laySquare_68 rfl ?_
    refine sj_iast S aM_7 H.1 dX4_laySquare_70 (fun st348 est348 => ?_)
    have H := H.2 st348 est348
    refine sj_iinc (pl := 2) (lv' := [(4, .int (sq_z s0)), (0, .ref (g.2.2 0)), (2, .int (sq_z v2)), (3, .int (sq_z v3))]) S dX4_laySquare_71 rfl (by decide) (fun _ => rfl) ?_
    refine sj_iload_n (pl := 3) S dX4_laySquare_74 rfl rfl ?_
    refine sj_iconst S dX4_laySquare_75 ?_
    refine sj_iload (pl := 1) S dX4_laySquare_76 rfl ?_
    refine sj_ishl S dX4_laySquare_78 ?_
    refine sj_ior S dX4_laySquare_79 ?_
    refine sj_istore_n (lv' := [(1, .int (sq_z (v1 + 1))), (4, .int (sq_z s0)), (0, .ref (g.2.2 0)), (3, .int (sq_z v3))]) S dX4_laySquare_80 rfl (by decide) (fun _ => rfl) (fun y349 ey349 => ?_)
    have H := H y349 ey349
    refine sj_iinc (pl := 4) (lv' := [(2, .int (sq_z y349)), (1, .int (sq_z (v1 + 1))), (4, .int (sq_z s0)), (0, .ref (g.2.2 0))]) S dX4_laySquare_81 rfl (by decide) (fun _ => rfl) ?_
    refine sj_goto (tgt := 6) S dX4_laySquare_84 (by decide) ?_
    exact sj_lv S [4, 2, 1, 0] rfl H
set_option maxRecDepth 100000 in
set_option maxHeartbeats 4000000 in
theorem tX4_laySquare_0 {l : Launch} {g : sq_G} {J : sq_K} {Q : Int → sq_S → Prop} (S : sq_J l rX4_laySquare cX4_laySquare 5 RX4 wsX4_laySquare g sq_M J) (hret : ∀ (pc : Nat) (lv : List (Nat × Value)) (st' : sq_S), decode cX4_laySquare pc = .ok (.return_, 1) → Q 0 st' → J pc lv [] st') (st : sq_S) (H : bX4_laySquare_0 (qX4_laySquare_6 J g) (qX4_laySquare_52 J g) Q st) : J 0 [(0, .ref (g.2.2 0))] [] st := by
  unfold bX4_laySquare_0 at H
  refine sj_iconst S dX4_laySquare_0 ?_
  refine sj_istore_na (lv' := [(0, .ref (g.2.2 0))]) S dX4_laySquare_1 rfl (by decide) (fun _ => rfl) ?_
  refine sj_iconst S dX4_laySquare_2 ?_
  refine sj_istore_na (lv' := [(1, .int (sq_z 0)), (0, .ref (g.2.2 0))]) S dX4_laySquare_3 rfl (by decide) (fun _ => rfl) ?_
  refine sj_iconst S dX4_laySquare_4 ?_
  refine sj_istore_na (lv' := [(2, .int (sq_z 0)), (1, .int (sq_z 0)), (0, .ref (g.2.2 0))]) S dX4_laySquare_5 rfl (by decide) (fun _ => rfl) ?_
  exact sj_lv S [3, 2, 1, 0] rfl H
set_option maxRecDepth 100000 in
set_option maxHeartbeats 4000000 in
theorem kX4_laySquare (l : Launch) (g : sq_G) (st : sq_S) (Q : Int → sq_S → Prop) (H : wX4_laySquare  st Q) : sq_Cv l yX4_laySquare wsX4_laySquare rX4_laySquare g sq_M [.ref (g.2.2 0)] st Q := by
  refine sq_in_v (cc := cX4_laySquare) (nL := 5) (own := RX4) (by decide) rfl rfl (Nat.le_of_ble_eq_true rfl) ?_
  intro J S hret
  exact tX4_laySquare_0 S hret  st (H (qX4_laySquare_6 J g) (qX4_laySquare_52 J g) (tX4_laySquare_6 S hret) (tX4_laySquare_52 S hret))
/-! letter (II)I : X4_letter -/
theorem iX4_letter_4 : ∀ w ∈ u_ws RX4 TX4 12, w ∈ wsX4_letter := fun _ h => List.mem_cons_of_mem _ (List.mem_append_right _ h)
theorem mX4_letter_7 : Cond.fieldLink RX4 7 (TX4 0).1 (TX4 0).2.1 (TX4 0).2.2.1 ∈ wsX4_letter := List.mem_of_getElem? (i := 1) rfl
theorem mX4_letter_29 : Cond.fieldLink RX4 29 (TX4 7).1 (TX4 7).2.1 (TX4 7).2.2.1 ∈ wsX4_letter := List.mem_of_getElem? (i := 2) rfl
def bX4_letter_40 (K40 : Int → Int → Int → sq_S → Prop) (Q : Int → sq_S → Prop) (v1 v2 s0 : Int) (st : sq_S) : Prop :=
  (sq_rg v2 ∧ sq_rg (-1)) ∧ (¬ v2 = (-1) → wX4_in v2 0 (s0 - 1) st (fun r346 st347 => sq_rg r346 ∧ (¬ r346 = 0 → wX4_laySquare st347 (fun _ st350 => sq_rg v1 ∧ (¬ v1 = 0 → (sq_rg v1 ∧ sq_rg 1) ∧ (¬ v1 = 1 → sq_ib v2 16 ∧ (Q (st350 7 v2.toNat) st350)) ∧ (v1 = 1 → sq_ib (49 + v2) 819 ∧ (Q (st350 1 ((49 + v2)).toNat) st350))) ∧ (v1 = 0 → sq_ib (0 + v2) 819 ∧ (Q (st350 1 ((0 + v2)).toNat) st350)))) ∧ (r346 = 0 → Q (-6) st347))) ∧ (v2 = (-1) → Q s0 st)
def bX4_letter_0 (K40 : Int → Int → Int → sq_S → Prop) (Q : Int → sq_S → Prop) (v1 v2 : Int) (st : sq_S) : Prop :=
  wX4_in v1 0 2 st (fun r342 st343 => sq_rg r342 ∧ (¬ r342 = 0 → sq_rg v1 ∧ (¬ v1 = 0 → (sq_rg v1 ∧ sq_rg 1) ∧ (¬ v1 = 1 → K40 v1 v2 16 st343) ∧ (v1 = 1 → sq_ib 55 819 ∧ (K40 v1 v2 (st343 1 55) st343))) ∧ (v1 = 0 → wX4_many st343 (fun r344 st345 => K40 v1 v2 r344 st345))) ∧ (r342 = 0 → Q (-2) st343))
def wX4_letter (v1 v2 : Int) (st : sq_S) (Q : Int → sq_S → Prop) : Prop :=
  ∀ (K40 : Int → Int → Int → sq_S → Prop), (∀ (v1 v2 s0 : Int) (st : sq_S), bX4_letter_40 K40 Q v1 v2 s0 st → K40 v1 v2 s0 st) → bX4_letter_0 K40 Q v1 v2 st
def rX4_letter : Room := { frames := 1, cells := 0, slots := 0, locals := 24 }
def qX4_letter_40 (J : sq_K) (g : sq_G) : Int → Int → Int → sq_S → Prop := fun v1 v2 s0 st => J 40 [(0, .ref (g.2.2 0)), (1, .int (sq_z v1)), (2, .int (sq_z v2))] [.int (sq_z s0)] st
set_option maxRecDepth 100000 in
set_option maxHeartbeats 4000000 in
theorem tX4_letter_40 {l : Launch} {g : sq_G} {J : sq_K} {Q : Int → sq_S → Prop} (S : sq_J l rX4_letter cX4_letter 4 RX4 wsX4_letter g sq_M J) (hret : ∀ (pc : Nat) (lv : List (Nat × Value)) (r : Int) (st' : sq_S), decode cX4_letter pc = .ok (.ireturn, 1) → Q r st' → J pc lv [.int (sq_z r)] st') (v1 v2 s0 : Int) (st : sq_S) (H : bX4_letter_40 (qX4_letter_40 J g) Q v1 v2 s0 st) : J 40 [(0, .ref (g.2.2 0)), (1, .int (sq_z v1)), (2, .int (sq_z v2))] [.int (sq_z s0)] st := by
  unfold bX4_letter_40 at H
  refine sj_istore_na (lv' := [(0, .ref (g.2.2 0)), (1, .int (sq_z v1)), (2, .int (sq_z v2))]) S dX4_letter_40 rfl (by decide) (fun _ => rfl) ?_
  refine sj_iload_n (pl := 3) S dX4_letter_41 rfl rfl ?_
  refine sj_iconst S dX4_letter_42 ?_
  refine sj_icmp_ne (tgt := 48) S H.1 dX4_letter_43 (by decide) (fun c9 => ?_) (fun c9 => ?_)
  · have H := H.2.1 c9
    refine sj_iload_n (pl := 3) S dX4_letter_48 rfl rfl ?_
    refine sj_iconst S dX4_letter_49 ?_
    refine sj_iload_n (pl := 0) S dX4_letter_50 rfl rfl ?_
    refine sj_iconst S dX4_letter_51 ?_
    refine sj_isub S dX4_letter_52 ?_
    refine sj_si (rest := []) S (kX4_in l g v2 0 (s0 - 1) st _ H) (fun s args hts => va_cwS 3 hts gX4_letter_X4_in rfl rfl rfl (by decide +kernel) ⟨Nat.le_of_ble_eq_true rfl, Nat.le_of_ble_eq_true rfl⟩) rfl rfl (Nat.le_of_ble_eq_true rfl) dX4_letter_53 (fun r346 st347 H => ?_)
    refine sj_if_ne (tgt := 62) S H.1 dX4_letter_56 (by decide) (fun c9 => ?_) (fun c9 => ?_)
    · have H := H.2.1 c9
      refine sj_aload_n (pl := 1) S dX4_letter_62 rfl rfl ?_
      refine sj_vv (rest := []) (q0 := 0) (ci := 4) S (kX4_laySquare l g st347 _ H) (fun s args hts => cwV 0 hts gX4_letter_X4_laySquare rfl rfl rfl (by decide +kernel) ⟨Nat.le_of_ble_eq_true rfl, Nat.le_of_ble_eq_true rfl⟩) rfl rfl rfl rfl (Nat.le_of_ble_eq_true rfl) dX4_letter_63 (fun st350 H => ?_)
      refine sj_iload_n (pl := 2) S dX4_letter_66 rfl rfl ?_
      refine sj_if_ne (tgt := 81) S H.1 dX4_letter_67 (by decide) (fun c9 => ?_) (fun c9 => ?_)
      · have H := H.2.1 c9
        refine sj_iload_n (pl := 2) S dX4_letter_81 rfl rfl ?_
        refine sj_iconst S dX4_letter_82 ?_
        refine sj_icmp_ne (tgt := 98) S H.1 dX4_letter_83 (by decide) (fun c9 => ?_) (fun c9 => ?_)
        · have H := H.2.1 c9
          refine sj_aload_n (pl := 1) S dX4_letter_98 rfl rfl ?_
          refine sj_getr S fM_0_7 iX4_letter_4 rfl (by decide) mX4_letter_29 dX4_letter_99 ?_
          refine sj_iload_n (pl := 3) S dX4_letter_102 rfl rfl ?_
          refine sj_iald S aM_7 H.1 dX4_letter_103 ?_
          have H := H.2
          exact hret _ _ _ _ dX4_letter_104 H
        · have H := H.2.2 c9
          refine sj_aload_n (pl := 1) S dX4_letter_86 rfl rfl ?_
          refine sj_getr S fM_0_0 iX4_letter_4 rfl (by decide) mX4_letter_7 dX4_letter_87 ?_
          refine sj_bipush S dX4_letter_90 (by decide +kernel) ?_
          refine sj_iload_n (pl := 3) S dX4_letter_92 rfl rfl ?_
          refine sj_iadd S dX4_letter_93 ?_
          refine sj_iald S aM_1 H.1 dX4_letter_94 ?_
          have H := H.2
          refine sj_goto (tgt := 104) S dX4_letter_95 (by decide) ?_
          exact hret _ _ _ _ dX4_letter_104 H
      · have H := H.2.2 c9
        refine sj_aload_n (pl := 1) S dX4_letter_70 rfl rfl ?_
        refine sj_getr S fM_0_0 iX4_letter_4 rfl (by decide) mX4_letter_7 dX4_letter_71 ?_
        refine sj_iconst S dX4_letter_74 ?_
        refine sj_iload_n (pl := 3) S dX4_letter_75 rfl rfl ?_
        refine sj_iadd S dX4_letter_76 ?_
        refine sj_iald S aM_1 H.1 dX4_letter_77 ?_
        have H := H.2
        refine sj_goto (tgt := 104) S dX4_letter_78 (by decide) ?_
        exact hret _ _ _ _ dX4_letter_104 H
    · have H := H.2.2 c9
      refine sj_bipush S dX4_letter_59 (by decide +kernel) ?_
      exact hret _ _ _ _ dX4_letter_61 H
  · have H := H.2.2 c9
    refine sj_iload_n (pl := 0) S dX4_letter_46 rfl rfl ?_
    exact hret _ _ _ _ dX4_letter_47 H
set_option maxRecDepth 100000 in
set_option maxHeartbeats 4000000 in
theorem tX4_letter_0 {l : Launch} {g : sq_G} {J : sq_K} {Q : Int → sq_S → Prop} (S : sq_J l rX4_letter cX4_letter 4 RX4 wsX4_letter g sq_M J) (hret : ∀ (pc : Nat) (lv : List (Nat × Value)) (r : Int) (st' : sq_S), decode cX4_letter pc = .ok (.ireturn, 1) → Q r st' → J pc lv [.int (sq_z r)] st') (v1 v2 : Int) (st : sq_S) (H : bX4_letter_0 (qX4_letter_40 J g) Q v1 v2 st) : J 0 [(0, .ref (g.2.2 0)), (1, .int (sq_z v1)), (2, .int (sq_z v2))] [] st := by
  unfold bX4_letter_0 at H
  refine sj_iload_n (pl := 1) S dX4_letter_0 rfl rfl ?_
  refine sj_iconst S dX4_letter_1 ?_
  refine sj_iconst S dX4_letter_2 ?_
  refine sj_si (rest := []) S (kX4_in l g v1 0 2 st _ H) (fun s args hts => va_cwS 3 hts gX4_letter_X4_in rfl rfl rfl (by decide +kernel) ⟨Nat.le_of_ble_eq_true rfl, Nat.le_of_ble_eq_true rfl⟩) rfl rfl (Nat.le_of_ble_eq_true rfl) dX4_letter_3 (fun r342 st343 H => ?_)
  refine sj_if_ne (tgt := 12) S H.1 dX4_letter_6 (by decide) (fun c9 => ?_) (fun c9 => ?_)
  · have H := H.2.1 c9
    refine sj_iload_n (pl := 1) S dX4_letter_12 rfl rfl ?_
    refine sj_if_ne (tgt := 23) S H.1 dX4_letter_13 (by decide) (fun c9 => ?_) (fun c9 => ?_)
    · have H := H.2.1 c9
      refine sj_iload_n (pl := 1) S dX4_letter_23 rfl rfl ?_
      refine sj_iconst S dX4_letter_24 ?_
      refine sj_icmp_ne (tgt := 38) S H.1 dX4_letter_25 (by decide) (fun c9 => ?_) (fun c9 => ?_)
      · have H := H.2.1 c9
        refine sj_bipush S dX4_letter_38 (by decide +kernel) ?_
        exact sj_lv S [0, 1, 2] rfl H
      · have H := H.2.2 c9
        refine sj_aload_n (pl := 0) S dX4_letter_28 rfl rfl ?_
        refine sj_getr S fM_0_0 iX4_letter_4 rfl (by decide) mX4_letter_7 dX4_letter_29 ?_
        refine sj_bipush S dX4_letter_32 (by decide +kernel) ?_
        refine sj_iald S aM_1 H.1 dX4_letter_34 ?_
        have H := H.2
        refine sj_goto (tgt := 40) S dX4_letter_35 (by decide) ?_
        exact sj_lv S [0, 1, 2] rfl H
    · have H := H.2.2 c9
      refine sj_aload_n (pl := 0) S dX4_letter_16 rfl rfl ?_
      refine sj_vi (rest := []) (q0 := 0) (ci := 4) S (kX4_many l g st343 _ H) (fun s args hts => cwV 0 hts gX4_letter_X4_many rfl rfl rfl (by decide +kernel) ⟨Nat.le_of_ble_eq_true rfl, Nat.le_of_ble_eq_true rfl⟩) rfl rfl rfl rfl (Nat.le_of_ble_eq_true rfl) dX4_letter_17 (fun r344 st345 H => ?_)
      refine sj_goto (tgt := 40) S dX4_letter_20 (by decide) ?_
      exact sj_lv S [0, 1, 2] rfl H
  · have H := H.2.2 c9
    refine sj_bipush S dX4_letter_9 (by decide +kernel) ?_
    exact hret _ _ _ _ dX4_letter_11 H
set_option maxRecDepth 100000 in
set_option maxHeartbeats 4000000 in
theorem kX4_letter (l : Launch) (g : sq_G) (v1 v2 : Int) (st : sq_S) (Q : Int → sq_S → Prop) (H : wX4_letter v1 v2 st Q) : sq_Ci l yX4_letter wsX4_letter rX4_letter g sq_M [.ref (g.2.2 0), .int (sq_z v1), .int (sq_z v2)] st Q := by
  refine sq_in_i (cc := cX4_letter) (nL := 4) (own := RX4) (by decide) rfl rfl (Nat.le_of_ble_eq_true rfl) ?_
  intro J S hret
  exact tX4_letter_0 S hret v1 v2 st (H (qX4_letter_40 J g) (tX4_letter_40 S hret))
/-! shiftAll (IZ)V : X4_shiftAll -/
theorem iX4_shiftAll_4 : ∀ w ∈ u_ws RX4 TX4 12, w ∈ wsX4_shiftAll := fun _ h => List.mem_cons_of_mem _ (List.mem_append_right _ h)
theorem mX4_shiftAll_7 : Cond.fieldLink RX4 7 (TX4 0).1 (TX4 0).2.1 (TX4 0).2.2.1 ∈ wsX4_shiftAll := List.mem_of_getElem? (i := 1) rfl
theorem mX4_shiftAll_23 : Cond.fieldLink RX4 23 (TX4 5).1 (TX4 5).2.1 (TX4 5).2.2.1 ∈ wsX4_shiftAll := List.mem_of_getElem? (i := 3) rfl
theorem mX4_shiftAll_26 : Cond.fieldLink RX4 26 (TX4 6).1 (TX4 6).2.1 (TX4 6).2.2.1 ∈ wsX4_shiftAll := List.mem_of_getElem? (i := 2) rfl
def bX4_shiftAll_2 (K2 : Int → Int → Int → sq_S → Prop) (K33 : Int → Int → Int → Int → Int → sq_S → Prop) (Q : Int → sq_S → Prop) (v1 v2 v3 : Int) (st : sq_S) : Prop :=
  wX4_many st (fun r356 st357 => (sq_rg v3 ∧ sq_rg r356) ∧ (r356 ≤ v3 → Q 0 st357) ∧ (v3 < r356 → sq_rg v2 ∧ (v2 = 0 → K33 v1 v2 v3 0 49 st357) ∧ (¬ v2 = 0 → sq_ib 55 819 ∧ (((0 ≤ v3 ∧ v3 ≤ 2147483647) ∧ (0 < (st357 1 55) ∧ (st357 1 55) ≤ 2147483647)) ∧ (K33 v1 v2 v3 (v3 % (st357 1 55)) 49 st357)))))
def bX4_shiftAll_33 (K2 : Int → Int → Int → sq_S → Prop) (K33 : Int → Int → Int → Int → Int → sq_S → Prop) (Q : Int → sq_S → Prop) (v1 v2 v3 s0 s1 : Int) (st : sq_S) : Prop :=
  sq_ib (s1 + s0) 819 ∧ (∀ y358 : Int, y358 = (st 1 ((s1 + s0)).toNat) → (sq_ib v3 48 ∧ (((0 ≤ (((st 5 v3.toNat) + (v1 * y358)) + 16) ∧ (((st 5 v3.toNat) + (v1 * y358)) + 16) ≤ 2147483647) ∧ (0 < (16 : Int) ∧ (16 : Int) ≤ 2147483647)) ∧ (sq_ib v3 48 ∧ (∀ st359 : sq_S, st359 = sq_set st 6 v3.toNat ((((st 5 v3.toNat) + (v1 * y358)) + 16) % 16) → (K2 v1 v2 (v3 + 1) st359))))))
def bX4_shiftAll_0 (K2 : Int → Int → Int → sq_S → Prop) (K33 : Int → Int → Int → Int → Int → sq_S → Prop) (Q : Int → sq_S → Prop) (v1 v2 : Int) (st : sq_S) : Prop :=
  K2 v1 v2 0 st
def wX4_shiftAll (v1 v2 : Int) (st : sq_S) (Q : Int → sq_S → Prop) : Prop :=
  ∀ (K2 : Int → Int → Int → sq_S → Prop) (K33 : Int → Int → Int → Int → Int → sq_S → Prop), (∀ (v1 v2 v3 : Int) (st : sq_S), bX4_shiftAll_2 K2 K33 Q v1 v2 v3 st → K2 v1 v2 v3 st) → (∀ (v1 v2 v3 s0 s1 : Int) (st : sq_S), bX4_shiftAll_33 K2 K33 Q v1 v2 v3 s0 s1 st → K33 v1 v2 v3 s0 s1 st) → bX4_shiftAll_0 K2 K33 Q v1 v2 st
def rX4_shiftAll : Room := { frames := 1, cells := 0, slots := 0, locals := 20 }
def qX4_shiftAll_2 (J : sq_K) (g : sq_G) : Int → Int → Int → sq_S → Prop := fun v1 v2 v3 st => J 2 [(0, .ref (g.2.2 0)), (1, .int (sq_z v1)), (2, .int (sq_z v2)), (3, .int (sq_z v3))] [] st
def qX4_shiftAll_33 (J : sq_K) (g : sq_G) : Int → Int → Int → Int → Int → sq_S → Prop := fun v1 v2 v3 s0 s1 st => J 33 [(0, .ref (g.2.2 0)), (1, .int (sq_z v1)), (2, .int (sq_z v2)), (3, .int (sq_z v3))] [.int (sq_z s0), .int (sq_z s1), .ref (g.2.2 1)] st
set_option maxRecDepth 100000 in
set_option maxHeartbeats 4000000 in
theorem tX4_shiftAll_2 {l : Launch} {g : sq_G} {J : sq_K} {Q : Int → sq_S → Prop} (S : sq_J l rX4_shiftAll cX4_shiftAll 5 RX4 wsX4_shiftAll g sq_M J) (hret : ∀ (pc : Nat) (lv : List (Nat × Value)) (st' : sq_S), decode cX4_shiftAll pc = .ok (.return_, 1) → Q 0 st' → J pc lv [] st') (v1 v2 v3 : Int) (st : sq_S) (H : bX4_shiftAll_2 (qX4_shiftAll_2 J g) (qX4_shiftAll_33 J g) Q v1 v2 v3 st) : J 2 [(0, .ref (g.2.2 0)), (1, .int (sq_z v1)), (2, .int (sq_z v2)), (3, .int (sq_z v3))] [] st := by
  unfold bX4_shiftAll_2 at H
  refine sj_iload_n (pl := 3) S dX4_shiftAll_2 rfl rfl ?_
  refine sj_aload_n (pl := 0) S dX4_shiftAll_3 rfl rfl ?_
  refine sj_vi (rest := [.int (sq_z v3)]) (q0 := 0) (ci := 4) S (kX4_many l g st _ H) (fun s args hts => cwV 0 hts gX4_shiftAll_X4_many rfl rfl rfl (by decide +kernel) ⟨Nat.le_of_ble_eq_true rfl, Nat.le_of_ble_eq_true rfl⟩) rfl rfl rfl rfl (Nat.le_of_ble_eq_true rfl) dX4_shiftAll_4 (fun r356 st357 H => ?_)
  refine sj_icmp_ge (tgt := 66) S H.1 dX4_shiftAll_7 (by decide) (fun c9 => ?_) (fun c9 => ?_)
  · have H := H.2.1 c9
    exact hret _ _ _ dX4_shiftAll_66 H
  · have H := H.2.2 c9
    refine sj_aload_n (pl := 0) S dX4_shiftAll_10 rfl rfl ?_
    refine sj_getr S fM_0_0 iX4_shiftAll_4 rfl (by decide) mX4_shiftAll_7 dX4_shiftAll_11 ?_
    refine sj_bipush S dX4_shiftAll_14 (by decide +kernel) ?_
    refine sj_iload_n (pl := 2) S dX4_shiftAll_16 rfl rfl ?_
    refine sj_if_eq (tgt := 32) S H.1 dX4_shiftAll_17 (by decide) (fun c9 => ?_) (fun c9 => ?_)
    · have H := H.2.1 c9
      refine sj_iconst S dX4_shiftAll_32 ?_
      exact sj_lv S [0, 1, 2, 3] rfl H
    · have H := H.2.2 c9
      refine sj_iload_n (pl := 3) S dX4_shiftAll_20 rfl rfl ?_
      refine sj_aload_n (pl := 0) S dX4_shiftAll_21 rfl rfl ?_
      refine sj_getr S fM_0_0 iX4_shiftAll_4 rfl (by decide) mX4_shiftAll_7 dX4_shiftAll_22 ?_
      refine sj_bipush S dX4_shiftAll_25 (by decide +kernel) ?_
      refine sj_iald S aM_1 H.1 dX4_shiftAll_27 ?_
      have H := H.2
      refine sj_irem S H.1 dX4_shiftAll_28 ?_
      have H := H.2
      refine sj_goto (tgt := 33) S dX4_shiftAll_29 (by decide) ?_
      exact sj_lv S [0, 1, 2, 3] rfl H
set_option maxRecDepth 100000 in
set_option maxHeartbeats 4000000 in
theorem tX4_shiftAll_33 {l : Launch} {g : sq_G} {J : sq_K} {Q : Int → sq_S → Prop} (S : sq_J l rX4_shiftAll cX4_shiftAll 5 RX4 wsX4_shiftAll g sq_M J) (hret : ∀ (pc : Nat) (lv : List (Nat × Value)) (st' : sq_S), decode cX4_shiftAll pc = .ok (.return_, 1) → Q 0 st' → J pc lv [] st') (v1 v2 v3 s0 s1 : Int) (st : sq_S) (H : bX4_shiftAll_33 (qX4_shiftAll_2 J g) (qX4_shiftAll_33 J g) Q v1 v2 v3 s0 s1 st) : J 33 [(0, .ref (g.2.2 0)), (1, .int (sq_z v1)), (2, .int (sq_z v2)), (3, .int (sq_z v3))] [.int (sq_z s0), .int (sq_z s1), .ref (g.2.2 1)] st := by
  unfold bX4_shiftAll_33 at H
  refine sj_iadd S dX4_shiftAll_33 ?_
  refine sj_iald S aM_1 H.1 dX4_shiftAll_34 ?_
  have H := H.2
  refine sj_istore (lv' := [(0, .ref (g.2.2 0)), (1, .int (sq_z v1)), (2, .int (sq_z v2)), (3, .int (sq_z v3))]) S dX4_shiftAll_35 (by decide) (fun _ => rfl) (fun y358 ey358 => ?_)
  have H := H y358 ey358
  refine sj_aload_n (pl := 1) S dX4_shiftAll_37 rfl rfl ?_
  refine sj_getr S fM_0_6 iX4_shiftAll_4 rfl (by decide) mX4_shiftAll_26 dX4_shiftAll_38 ?_
  refine sj_iload_n (pl := 4) S dX4_shiftAll_41 rfl rfl ?_
  refine sj_aload_n (pl := 1) S dX4_shiftAll_42 rfl rfl ?_
  refine sj_getr S fM_0_5 iX4_shiftAll_4 rfl (by decide) mX4_shiftAll_23 dX4_shiftAll_43 ?_
  refine sj_iload_n (pl := 4) S dX4_shiftAll_46 rfl rfl ?_
  refine sj_iald S aM_5 H.1 dX4_shiftAll_47 ?_
  have H := H.2
  refine sj_iload_n (pl := 2) S dX4_shiftAll_48 rfl rfl ?_
  refine sj_iload (pl := 0) S dX4_shiftAll_49 rfl ?_
  refine sj_imul S dX4_shiftAll_51 ?_
  refine sj_iadd S dX4_shiftAll_52 ?_
  refine sj_bipush S dX4_shiftAll_53 (by decide +kernel) ?_
  refine sj_iadd S dX4_shiftAll_55 ?_
  refine sj_bipush S dX4_shiftAll_56 (by decide +kernel) ?_
  refine sj_irem S H.1 dX4_shiftAll_58 ?_
  have H := H.2
  refine sj_iast S aM_6 H.1 dX4_shiftAll_59 (fun st359 est359 => ?_)
  have H := H.2 st359 est359
  refine sj_iinc (pl := 4) (lv' := [(4, .int (sq_z y358)), (0, .ref (g.2.2 0)), (1, .int (sq_z v1)), (2, .int (sq_z v2))]) S dX4_shiftAll_60 rfl (by decide) (fun _ => rfl) ?_
  refine sj_goto (tgt := 2) S dX4_shiftAll_63 (by decide) ?_
  exact sj_lv S [2, 3, 4, 0] rfl H
set_option maxRecDepth 100000 in
set_option maxHeartbeats 4000000 in
theorem tX4_shiftAll_0 {l : Launch} {g : sq_G} {J : sq_K} {Q : Int → sq_S → Prop} (S : sq_J l rX4_shiftAll cX4_shiftAll 5 RX4 wsX4_shiftAll g sq_M J) (hret : ∀ (pc : Nat) (lv : List (Nat × Value)) (st' : sq_S), decode cX4_shiftAll pc = .ok (.return_, 1) → Q 0 st' → J pc lv [] st') (v1 v2 : Int) (st : sq_S) (H : bX4_shiftAll_0 (qX4_shiftAll_2 J g) (qX4_shiftAll_33 J g) Q v1 v2 st) : J 0 [(0, .ref (g.2.2 0)), (1, .int (sq_z v1)), (2, .int (sq_z v2))] [] st := by
  unfold bX4_shiftAll_0 at H
  refine sj_iconst S dX4_shiftAll_0 ?_
  refine sj_istore_na (lv' := [(0, .ref (g.2.2 0)), (1, .int (sq_z v1)), (2, .int (sq_z v2))]) S dX4_shiftAll_1 rfl (by decide) (fun _ => rfl) ?_
  exact sj_lv S [1, 2, 3, 0] rfl H
set_option maxRecDepth 100000 in
set_option maxHeartbeats 4000000 in
theorem kX4_shiftAll (l : Launch) (g : sq_G) (v1 v2 : Int) (st : sq_S) (Q : Int → sq_S → Prop) (H : wX4_shiftAll v1 v2 st Q) : sq_Cv l yX4_shiftAll wsX4_shiftAll rX4_shiftAll g sq_M [.ref (g.2.2 0), .int (sq_z v1), .int (sq_z v2)] st Q := by
  refine sq_in_v (cc := cX4_shiftAll) (nL := 5) (own := RX4) (by decide) rfl rfl (Nat.le_of_ble_eq_true rfl) ?_
  intro J S hret
  exact tX4_shiftAll_0 S hret v1 v2 st (H (qX4_shiftAll_2 J g) (qX4_shiftAll_33 J g) (tX4_shiftAll_2 S hret) (tX4_shiftAll_33 S hret))
/-! placeOf (I)I : X4_placeOf -/
theorem iX4_placeOf_4 : ∀ w ∈ u_ws RX4 TX4 12, w ∈ wsX4_placeOf := fun _ h => List.mem_cons_of_mem _ (List.mem_append_right _ h)
theorem mX4_placeOf_29 : Cond.fieldLink RX4 29 (TX4 7).1 (TX4 7).2.1 (TX4 7).2.2.1 ∈ wsX4_placeOf := List.mem_of_getElem? (i := 1) rfl
def bX4_placeOf_2 (K2 : Int → Int → sq_S → Prop) (Q : Int → sq_S → Prop) (v1 v2 : Int) (st : sq_S) : Prop :=
  sq_ib v2 16 ∧ ((sq_rg (st 7 v2.toNat) ∧ sq_rg v1) ∧ ((st 7 v2.toNat) = v1 → Q v2 st) ∧ (¬ (st 7 v2.toNat) = v1 → K2 v1 (v2 + 1) st))
def bX4_placeOf_0 (K2 : Int → Int → sq_S → Prop) (Q : Int → sq_S → Prop) (v1 : Int) (st : sq_S) : Prop :=
  K2 v1 0 st
def wX4_placeOf (v1 : Int) (st : sq_S) (Q : Int → sq_S → Prop) : Prop :=
  ∀ (K2 : Int → Int → sq_S → Prop), (∀ (v1 v2 : Int) (st : sq_S), bX4_placeOf_2 K2 Q v1 v2 st → K2 v1 v2 st) → bX4_placeOf_0 K2 Q v1 st
def rX4_placeOf : Room := { frames := 0, cells := 0, slots := 0, locals := 0 }
def qX4_placeOf_2 (J : sq_K) (g : sq_G) : Int → Int → sq_S → Prop := fun v1 v2 st => J 2 [(0, .ref (g.2.2 0)), (1, .int (sq_z v1)), (2, .int (sq_z v2))] [] st
set_option maxRecDepth 100000 in
set_option maxHeartbeats 4000000 in
theorem tX4_placeOf_2 {l : Launch} {g : sq_G} {J : sq_K} {Q : Int → sq_S → Prop} (S : sq_J l rX4_placeOf cX4_placeOf 3 RX4 wsX4_placeOf g sq_M J) (hret : ∀ (pc : Nat) (lv : List (Nat × Value)) (r : Int) (st' : sq_S), decode cX4_placeOf pc = .ok (.ireturn, 1) → Q r st' → J pc lv [.int (sq_z r)] st') (v1 v2 : Int) (st : sq_S) (H : bX4_placeOf_2 (qX4_placeOf_2 J g) Q v1 v2 st) : J 2 [(0, .ref (g.2.2 0)), (1, .int (sq_z v1)), (2, .int (sq_z v2))] [] st := by
  unfold bX4_placeOf_2 at H
  refine sj_aload_n (pl := 0) S dX4_placeOf_2 rfl rfl ?_
  refine sj_getr S fM_0_7 iX4_placeOf_4 rfl (by decide) mX4_placeOf_29 dX4_placeOf_3 ?_
  refine sj_iload_n (pl := 2) S dX4_placeOf_6 rfl rfl ?_
  refine sj_iald S aM_7 H.1 dX4_placeOf_7 ?_
  have H := H.2
  refine sj_iload_n (pl := 1) S dX4_placeOf_8 rfl rfl ?_
  refine sj_icmp_eq (tgt := 18) S H.1 dX4_placeOf_9 (by decide) (fun c9 => ?_) (fun c9 => ?_)
  · have H := H.2.1 c9
    refine sj_iload_n (pl := 2) S dX4_placeOf_18 rfl rfl ?_
    exact hret _ _ _ _ dX4_placeOf_19 H
  · have H := H.2.2 c9
    refine sj_iinc (pl := 2) (lv' := [(0, .ref (g.2.2 0)), (1, .int (sq_z v1))]) S dX4_placeOf_12 rfl (by decide) (fun _ => rfl) ?_
    refine sj_goto (tgt := 2) S dX4_placeOf_15 (by decide) ?_
    exact sj_lv S [1, 2, 0] rfl H
set_option maxRecDepth 100000 in
set_option maxHeartbeats 4000000 in
theorem tX4_placeOf_0 {l : Launch} {g : sq_G} {J : sq_K} {Q : Int → sq_S → Prop} (S : sq_J l rX4_placeOf cX4_placeOf 3 RX4 wsX4_placeOf g sq_M J) (hret : ∀ (pc : Nat) (lv : List (Nat × Value)) (r : Int) (st' : sq_S), decode cX4_placeOf pc = .ok (.ireturn, 1) → Q r st' → J pc lv [.int (sq_z r)] st') (v1 : Int) (st : sq_S) (H : bX4_placeOf_0 (qX4_placeOf_2 J g) Q v1 st) : J 0 [(0, .ref (g.2.2 0)), (1, .int (sq_z v1))] [] st := by
  unfold bX4_placeOf_0 at H
  refine sj_iconst S dX4_placeOf_0 ?_
  refine sj_istore_na (lv' := [(0, .ref (g.2.2 0)), (1, .int (sq_z v1))]) S dX4_placeOf_1 rfl (by decide) (fun _ => rfl) ?_
  exact sj_lv S [1, 2, 0] rfl H
set_option maxRecDepth 100000 in
set_option maxHeartbeats 4000000 in
theorem kX4_placeOf (l : Launch) (g : sq_G) (v1 : Int) (st : sq_S) (Q : Int → sq_S → Prop) (H : wX4_placeOf v1 st Q) : sq_Ci l yX4_placeOf wsX4_placeOf rX4_placeOf g sq_M [.ref (g.2.2 0), .int (sq_z v1)] st Q := by
  refine sq_in_i (cc := cX4_placeOf) (nL := 3) (own := RX4) (by decide) rfl rfl (Nat.le_of_ble_eq_true rfl) ?_
  intro J S hret
  exact tX4_placeOf_0 S hret v1 st (H (qX4_placeOf_2 J g) (tX4_placeOf_2 S hret))
/-! round (I)I : X4_round -/
def wX4_round (v0 : Int) (st : sq_S) (Q : Int → sq_S → Prop) : Prop :=
  ((0 ≤ (v0 + 4) ∧ (v0 + 4) ≤ 2147483647) ∧ (0 < (4 : Int) ∧ (4 : Int) ≤ 2147483647)) ∧ (Q ((v0 + 4) % 4) st)
def rX4_round : Room := { frames := 0, cells := 0, slots := 0, locals := 0 }
set_option maxRecDepth 100000 in
set_option maxHeartbeats 4000000 in
theorem tX4_round_0 {l : Launch} {g : sq_G} {J : sq_K} {Q : Int → sq_S → Prop} (S : sq_J l rX4_round cX4_round 1 RX4 wsX4_round g sq_M J) (hret : ∀ (pc : Nat) (lv : List (Nat × Value)) (r : Int) (st' : sq_S), decode cX4_round pc = .ok (.ireturn, 1) → Q r st' → J pc lv [.int (sq_z r)] st') (v0 : Int) (st : sq_S) (H : wX4_round v0 st Q) : J 0 [(0, .int (sq_z v0))] [] st := by
  unfold wX4_round at H
  refine sj_iload_n (pl := 0) S dX4_round_0 rfl rfl ?_
  refine sj_iconst S dX4_round_1 ?_
  refine sj_iadd S dX4_round_2 ?_
  refine sj_iconst S dX4_round_3 ?_
  refine sj_irem S H.1 dX4_round_4 ?_
  have H := H.2
  exact hret _ _ _ _ dX4_round_5 H
set_option maxRecDepth 100000 in
set_option maxHeartbeats 4000000 in
theorem kX4_round (l : Launch) (g : sq_G) (v0 : Int) (st : sq_S) (Q : Int → sq_S → Prop) (H : wX4_round v0 st Q) : sq_Ci l yX4_round wsX4_round rX4_round g sq_M [.int (sq_z v0)] st Q := by
  refine sq_in_i (cc := cX4_round) (nL := 1) (own := RX4) (by decide) rfl rfl (Nat.le_of_ble_eq_true rfl) ?_
  intro J S hret
  exact tX4_round_0 S hret v0 st H
/-! atSquare (II)I : X4_atSquare -/
theorem iX4_atSquare_4 : ∀ w ∈ u_ws RX4 TX4 12, w ∈ wsX4_atSquare := fun _ h => List.mem_cons_of_mem _ (List.mem_append_right _ h)
theorem mX4_atSquare_29 : Cond.fieldLink RX4 29 (TX4 7).1 (TX4 7).2.1 (TX4 7).2.2.1 ∈ wsX4_atSquare := List.mem_of_getElem? (i := 1) rfl
def wX4_atSquare (v1 v2 : Int) (st : sq_S) (Q : Int → sq_S → Prop) : Prop :=
  wX4_round v1 st (fun r370 st371 => wX4_round v2 st371 (fun r372 st373 => sq_ib ((4 * r370) + r372) 16 ∧ (Q (st373 7 (((4 * r370) + r372)).toNat) st373)))
def rX4_atSquare : Room := { frames := 1, cells := 0, slots := 0, locals := 20 }
set_option maxRecDepth 100000 in
set_option maxHeartbeats 4000000 in
theorem tX4_atSquare_0 {l : Launch} {g : sq_G} {J : sq_K} {Q : Int → sq_S → Prop} (S : sq_J l rX4_atSquare cX4_atSquare 3 RX4 wsX4_atSquare g sq_M J) (hret : ∀ (pc : Nat) (lv : List (Nat × Value)) (r : Int) (st' : sq_S), decode cX4_atSquare pc = .ok (.ireturn, 1) → Q r st' → J pc lv [.int (sq_z r)] st') (v1 v2 : Int) (st : sq_S) (H : wX4_atSquare v1 v2 st Q) : J 0 [(0, .ref (g.2.2 0)), (1, .int (sq_z v1)), (2, .int (sq_z v2))] [] st := by
  unfold wX4_atSquare at H
  refine sj_aload_n (pl := 0) S dX4_atSquare_0 rfl rfl ?_
  refine sj_getr S fM_0_7 iX4_atSquare_4 rfl (by decide) mX4_atSquare_29 dX4_atSquare_1 ?_
  refine sj_iconst S dX4_atSquare_4 ?_
  refine sj_iload_n (pl := 1) S dX4_atSquare_5 rfl rfl ?_
  refine sj_si (rest := [.int (sq_z 4), .ref (g.2.2 7)]) S (kX4_round l g v1 st _ H) (fun s args hts => va_cwS 1 hts gX4_atSquare_X4_round rfl rfl rfl (by decide +kernel) ⟨Nat.le_of_ble_eq_true rfl, Nat.le_of_ble_eq_true rfl⟩) rfl rfl (Nat.le_of_ble_eq_true rfl) dX4_atSquare_6 (fun r370 st371 H => ?_)
  refine sj_imul S dX4_atSquare_9 ?_
  refine sj_iload_n (pl := 2) S dX4_atSquare_10 rfl rfl ?_
  refine sj_si (rest := [.int (sq_z (4 * r370)), .ref (g.2.2 7)]) S (kX4_round l g v2 st371 _ H) (fun s args hts => va_cwS 1 hts gX4_atSquare_X4_round rfl rfl rfl (by decide +kernel) ⟨Nat.le_of_ble_eq_true rfl, Nat.le_of_ble_eq_true rfl⟩) rfl rfl (Nat.le_of_ble_eq_true rfl) dX4_atSquare_11 (fun r372 st373 H => ?_)
  refine sj_iadd S dX4_atSquare_14 ?_
  refine sj_iald S aM_7 H.1 dX4_atSquare_15 ?_
  have H := H.2
  exact hret _ _ _ _ dX4_atSquare_16 H
set_option maxRecDepth 100000 in
set_option maxHeartbeats 4000000 in
theorem kX4_atSquare (l : Launch) (g : sq_G) (v1 v2 : Int) (st : sq_S) (Q : Int → sq_S → Prop) (H : wX4_atSquare v1 v2 st Q) : sq_Ci l yX4_atSquare wsX4_atSquare rX4_atSquare g sq_M [.ref (g.2.2 0), .int (sq_z v1), .int (sq_z v2)] st Q := by
  refine sq_in_i (cc := cX4_atSquare) (nL := 3) (own := RX4) (by decide) rfl rfl (Nat.le_of_ble_eq_true rfl) ?_
  intro J S hret
  exact tX4_atSquare_0 S hret v1 v2 st H
/-! pair (II)V : X4_pair -/
theorem iX4_pair_4 : ∀ w ∈ u_ws RX4 TX4 12, w ∈ wsX4_pair := fun _ h => List.mem_cons_of_mem _ (List.mem_append_right _ h)
theorem mX4_pair_23 : Cond.fieldLink RX4 23 (TX4 5).1 (TX4 5).2.1 (TX4 5).2.2.1 ∈ wsX4_pair := List.mem_of_getElem? (i := 1) rfl
theorem mX4_pair_26 : Cond.fieldLink RX4 26 (TX4 6).1 (TX4 6).2.1 (TX4 6).2.2.1 ∈ wsX4_pair := List.mem_of_getElem? (i := 2) rfl
def bX4_pair_51 (K51 : Int → Int → Int → Int → sq_S → Prop) (K73 : Int → Int → Int → Int → Int → sq_S → Prop) (K124 : Int → Int → Int → Int → Int → sq_S → Prop) (Q : Int → sq_S → Prop) (v1 v2 v3 v4 : Int) (st : sq_S) : Prop :=
  ((0 ≤ v3 ∧ v3 ≤ 2147483647) ∧ (0 < (4 : Int) ∧ (4 : Int) ≤ 2147483647)) ∧ (((0 ≤ v4 ∧ v4 ≤ 2147483647) ∧ (0 < (4 : Int) ∧ (4 : Int) ≤ 2147483647)) ∧ ((sq_rg (v3 / 4) ∧ sq_rg (v4 / 4)) ∧ (¬ (v3 / 4) = (v4 / 4) → K73 v1 v3 v4 v2 0 st) ∧ ((v3 / 4) = (v4 / 4) → K73 v1 v3 v4 v2 v2 st)))
def bX4_pair_73 (K51 : Int → Int → Int → Int → sq_S → Prop) (K73 : Int → Int → Int → Int → Int → sq_S → Prop) (K124 : Int → Int → Int → Int → Int → sq_S → Prop) (Q : Int → sq_S → Prop) (v1 v3 v4 v5 s0 : Int) (st : sq_S) : Prop :=
  sq_rg v5 ∧ (¬ v5 = 0 → K124 v1 v3 v4 v5 s0 st) ∧ (v5 = 0 → sq_rg s0 ∧ (¬ s0 = 0 → K124 v1 v3 v4 v5 s0 st) ∧ (s0 = 0 → ((0 ≤ v3 ∧ v3 ≤ 2147483647) ∧ (0 < (4 : Int) ∧ (4 : Int) ≤ 2147483647)) ∧ (((0 ≤ v4 ∧ v4 ≤ 2147483647) ∧ (0 < (4 : Int) ∧ (4 : Int) ≤ 2147483647)) ∧ (wX4_atSquare (v3 / 4) (v4 % 4) st (fun r374 st375 => sq_ib v1 48 ∧ (∀ st376 : sq_S, st376 = sq_set st375 6 v1.toNat r374 → (((0 ≤ v4 ∧ v4 ≤ 2147483647) ∧ (0 < (4 : Int) ∧ (4 : Int) ≤ 2147483647)) ∧ (((0 ≤ v3 ∧ v3 ≤ 2147483647) ∧ (0 < (4 : Int) ∧ (4 : Int) ≤ 2147483647)) ∧ (wX4_atSquare (v4 / 4) (v3 % 4) st376 (fun r377 st378 => sq_ib (v1 + 1) 48 ∧ (∀ st379 : sq_S, st379 = sq_set st378 6 ((v1 + 1)).toNat r377 → (Q 0 st379))))))))))))
def bX4_pair_124 (K51 : Int → Int → Int → Int → sq_S → Prop) (K73 : Int → Int → Int → Int → Int → sq_S → Prop) (K124 : Int → Int → Int → Int → Int → sq_S → Prop) (Q : Int → sq_S → Prop) (v1 v3 v4 v5 v6 : Int) (st : sq_S) : Prop :=
  ((0 ≤ v3 ∧ v3 ≤ 2147483647) ∧ (0 < (4 : Int) ∧ (4 : Int) ≤ 2147483647)) ∧ (((0 ≤ v3 ∧ v3 ≤ 2147483647) ∧ (0 < (4 : Int) ∧ (4 : Int) ≤ 2147483647)) ∧ (wX4_atSquare ((v3 / 4) + v5) ((v3 % 4) + v6) st (fun r380 st381 => sq_ib v1 48 ∧ (∀ st382 : sq_S, st382 = sq_set st381 6 v1.toNat r380 → (((0 ≤ v4 ∧ v4 ≤ 2147483647) ∧ (0 < (4 : Int) ∧ (4 : Int) ≤ 2147483647)) ∧ (((0 ≤ v4 ∧ v4 ≤ 2147483647) ∧ (0 < (4 : Int) ∧ (4 : Int) ≤ 2147483647)) ∧ (wX4_atSquare ((v4 / 4) + v5) ((v4 % 4) + v6) st382 (fun r383 st384 => sq_ib (v1 + 1) 48 ∧ (∀ st385 : sq_S, st385 = sq_set st384 6 ((v1 + 1)).toNat r383 → (Q 0 st385))))))))))
def bX4_pair_0 (K51 : Int → Int → Int → Int → sq_S → Prop) (K73 : Int → Int → Int → Int → Int → sq_S → Prop) (K124 : Int → Int → Int → Int → Int → sq_S → Prop) (Q : Int → sq_S → Prop) (v1 v2 : Int) (st : sq_S) : Prop :=
  sq_ib v1 48 ∧ (wX4_placeOf (st 5 v1.toNat) st (fun r366 st367 => sq_ib (v1 + 1) 48 ∧ (wX4_placeOf (st367 5 ((v1 + 1)).toNat) st367 (fun r368 st369 => (sq_rg r366 ∧ sq_rg r368) ∧ (r366 = r368 → K51 v1 v2 r366 r368 st369) ∧ (¬ r366 = r368 → ((0 ≤ r366 ∧ r366 ≤ 2147483647) ∧ (0 < (4 : Int) ∧ (4 : Int) ≤ 2147483647)) ∧ (((0 ≤ r368 ∧ r368 ≤ 2147483647) ∧ (0 < (4 : Int) ∧ (4 : Int) ≤ 2147483647)) ∧ ((sq_rg (r366 / 4) ∧ sq_rg (r368 / 4)) ∧ ((r366 / 4) = (r368 / 4) → ((0 ≤ r366 ∧ r366 ≤ 2147483647) ∧ (0 < (4 : Int) ∧ (4 : Int) ≤ 2147483647)) ∧ (((0 ≤ r368 ∧ r368 ≤ 2147483647) ∧ (0 < (4 : Int) ∧ (4 : Int) ≤ 2147483647)) ∧ ((sq_rg (r366 / 4) ∧ sq_rg (r368 / 4)) ∧ (¬ (r366 / 4) = (r368 / 4) → K73 v1 r366 r368 0 0 st369) ∧ ((r366 / 4) = (r368 / 4) → K73 v1 r366 r368 0 v2 st369)))) ∧ (¬ (r366 / 4) = (r368 / 4) → ((0 ≤ r366 ∧ r366 ≤ 2147483647) ∧ (0 < (4 : Int) ∧ (4 : Int) ≤ 2147483647)) ∧ (((0 ≤ r368 ∧ r368 ≤ 2147483647) ∧ (0 < (4 : Int) ∧ (4 : Int) ≤ 2147483647)) ∧ ((sq_rg (r366 % 4) ∧ sq_rg (r368 % 4)) ∧ (¬ (r366 % 4) = (r368 % 4) → ((0 ≤ r366 ∧ r366 ≤ 2147483647) ∧ (0 < (4 : Int) ∧ (4 : Int) ≤ 2147483647)) ∧ (((0 ≤ r368 ∧ r368 ≤ 2147483647) ∧ (0 < (4 : Int) ∧ (4 : Int) ≤ 2147483647)) ∧ ((sq_rg (r366 / 4) ∧ sq_rg (r368 / 4)) ∧ (¬ (r366 / 4) = (r368 / 4) → K73 v1 r366 r368 0 0 st369) ∧ ((r366 / 4) = (r368 / 4) → K73 v1 r366 r368 0 v2 st369)))) ∧ ((r366 % 4) = (r368 % 4) → K51 v1 v2 r366 r368 st369)))))))))))
def wX4_pair (v1 v2 : Int) (st : sq_S) (Q : Int → sq_S → Prop) : Prop :=
  ∀ (K51 : Int → Int → Int → Int → sq_S → Prop) (K73 : Int → Int → Int → Int → Int → sq_S → Prop) (K124 : Int → Int → Int → Int → Int → sq_S → Prop), (∀ (v1 v2 v3 v4 : Int) (st : sq_S), bX4_pair_51 K51 K73 K124 Q v1 v2 v3 v4 st → K51 v1 v2 v3 v4 st) → (∀ (v1 v3 v4 v5 s0 : Int) (st : sq_S), bX4_pair_73 K51 K73 K124 Q v1 v3 v4 v5 s0 st → K73 v1 v3 v4 v5 s0 st) → (∀ (v1 v3 v4 v5 v6 : Int) (st : sq_S), bX4_pair_124 K51 K73 K124 Q v1 v3 v4 v5 v6 st → K124 v1 v3 v4 v5 v6 st) → bX4_pair_0 K51 K73 K124 Q v1 v2 st
def rX4_pair : Room := { frames := 2, cells := 0, slots := 0, locals := 42 }
def qX4_pair_51 (J : sq_K) (g : sq_G) : Int → Int → Int → Int → sq_S → Prop := fun v1 v2 v3 v4 st => J 51 [(0, .ref (g.2.2 0)), (1, .int (sq_z v1)), (2, .int (sq_z v2)), (3, .int (sq_z v3)), (4, .int (sq_z v4))] [] st
def qX4_pair_73 (J : sq_K) (g : sq_G) : Int → Int → Int → Int → Int → sq_S → Prop := fun v1 v3 v4 v5 s0 st => J 73 [(0, .ref (g.2.2 0)), (1, .int (sq_z v1)), (3, .int (sq_z v3)), (4, .int (sq_z v4)), (5, .int (sq_z v5))] [.int (sq_z s0)] st
def qX4_pair_124 (J : sq_K) (g : sq_G) : Int → Int → Int → Int → Int → sq_S → Prop := fun v1 v3 v4 v5 v6 st => J 124 [(0, .ref (g.2.2 0)), (1, .int (sq_z v1)), (3, .int (sq_z v3)), (4, .int (sq_z v4)), (5, .int (sq_z v5)), (6, .int (sq_z v6))] [] st
set_option maxRecDepth 100000 in
set_option maxHeartbeats 4000000 in
theorem tX4_pair_51 {l : Launch} {g : sq_G} {J : sq_K} {Q : Int → sq_S → Prop} (S : sq_J l rX4_pair cX4_pair 7 RX4 wsX4_pair g sq_M J) (hret : ∀ (pc : Nat) (lv : List (Nat × Value)) (st' : sq_S), decode cX4_pair pc = .ok (.return_, 1) → Q 0 st' → J pc lv [] st') (v1 v2 v3 v4 : Int) (st : sq_S) (H : bX4_pair_51 (qX4_pair_51 J g) (qX4_pair_73 J g) (qX4_pair_124 J g) Q v1 v2 v3 v4 st) : J 51 [(0, .ref (g.2.2 0)), (1, .int (sq_z v1)), (2, .int (sq_z v2)), (3, .int (sq_z v3)), (4, .int (sq_z v4))] [] st := by
  unfold bX4_pair_51 at H
  refine sj_iload_n (pl := 2) S dX4_pair_51 rfl rfl ?_
  refine sj_goto (tgt := 56) S dX4_pair_52 (by decide) ?_
  refine sj_istorea (lv' := [(0, .ref (g.2.2 0)), (1, .int (sq_z v1)), (2, .int (sq_z v2)), (3, .int (sq_z v3)), (4, .int (sq_z v4))]) S dX4_pair_56 (by decide) (fun _ => rfl) ?_
  refine sj_iload_n (pl := 4) S dX4_pair_58 rfl rfl ?_
  refine sj_iconst S dX4_pair_59 ?_
  refine sj_idiv S H.1 dX4_pair_60 ?_
  have H := H.2
  refine sj_iload (pl := 5) S dX4_pair_61 rfl ?_
  refine sj_iconst S dX4_pair_63 ?_
  refine sj_idiv S H.1 dX4_pair_64 ?_
  have H := H.2
  refine sj_icmp_ne (tgt := 72) S H.1 dX4_pair_65 (by decide) (fun c9 => ?_) (fun c9 => ?_)
  · have H := H.2.1 c9
    refine sj_iconst S dX4_pair_72 ?_
    exact sj_lv S [1, 2, 4, 5, 0] rfl H
  · have H := H.2.2 c9
    refine sj_iload_n (pl := 3) S dX4_pair_68 rfl rfl ?_
    refine sj_goto (tgt := 73) S dX4_pair_69 (by decide) ?_
    exact sj_lv S [1, 2, 4, 5, 0] rfl H
set_option maxRecDepth 100000 in
set_option maxHeartbeats 4000000 in
theorem tX4_pair_73 {l : Launch} {g : sq_G} {J : sq_K} {Q : Int → sq_S → Prop} (S : sq_J l rX4_pair cX4_pair 7 RX4 wsX4_pair g sq_M J) (hret : ∀ (pc : Nat) (lv : List (Nat × Value)) (st' : sq_S), decode cX4_pair pc = .ok (.return_, 1) → Q 0 st' → J pc lv [] st') (v1 v3 v4 v5 s0 : Int) (st : sq_S) (H : bX4_pair_73 (qX4_pair_51 J g) (qX4_pair_73 J g) (qX4_pair_124 J g) Q v1 v3 v4 v5 s0 st) : J 73 [(0, .ref (g.2.2 0)), (1, .int (sq_z v1)), (3, .int (sq_z v3)), (4, .int (sq_z v4)), (5, .int (sq_z v5))] [.int (sq_z s0)] st := by
  unfold bX4_pair_73 at H
  refine sj_istorea (lv' := [(0, .ref (g.2.2 0)), (1, .int (sq_z v1)), (3, .int (sq_z v3)), (4, .int (sq_z v4)), (5, .int (sq_z v5))]) S dX4_pair_73 (by decide) (fun _ => rfl) ?_
  refine sj_iload (pl := 5) S dX4_pair_75 rfl ?_
  refine sj_if_ne (tgt := 124) S H.1 dX4_pair_77 (by decide) (fun c9 => ?_) (fun c9 => ?_)
  · have H := H.2.1 c9
    exact sj_lv S [1, 2, 3, 4, 5, 0] rfl H
  · have H := H.2.2 c9
    refine sj_iload (pl := 0) S dX4_pair_80 rfl ?_
    refine sj_if_ne (tgt := 124) S H.1 dX4_pair_82 (by decide) (fun c9 => ?_) (fun c9 => ?_)
    · have H := H.2.1 c9
      exact sj_lv S [1, 2, 3, 4, 5, 0] rfl H
    · have H := H.2.2 c9
      refine sj_aload_n (pl := 1) S dX4_pair_85 rfl rfl ?_
      refine sj_getr S fM_0_6 iX4_pair_4 rfl (by decide) mX4_pair_26 dX4_pair_86 ?_
      refine sj_iload_n (pl := 2) S dX4_pair_89 rfl rfl ?_
      refine sj_aload_n (pl := 1) S dX4_pair_90 rfl rfl ?_
      refine sj_iload_n (pl := 3) S dX4_pair_91 rfl rfl ?_
      refine sj_iconst S dX4_pair_92 ?_
      refine sj_idiv S H.1 dX4_pair_93 ?_
      have H := H.2
      refine sj_iload (pl := 4) S dX4_pair_94 rfl ?_
      refine sj_iconst S dX4_pair_96 ?_
      refine sj_irem S H.1 dX4_pair_97 ?_
      have H := H.2
      refine sj_vi (rest := [.int (sq_z v1), .ref (g.2.2 6)]) (q0 := 0) (ci := 4) S (kX4_atSquare l g (v3 / 4) (v4 % 4) st _ H) (fun s args hts => cwV 2 hts gX4_pair_X4_atSquare rfl rfl rfl (by decide +kernel) ⟨Nat.le_of_ble_eq_true rfl, Nat.le_of_ble_eq_true rfl⟩) rfl rfl rfl rfl (Nat.le_of_ble_eq_true rfl) dX4_pair_98 (fun r374 st375 H => ?_)
      refine sj_iast S aM_6 H.1 dX4_pair_101 (fun st376 est376 => ?_)
      have H := H.2 st376 est376
      refine sj_aload_n (pl := 1) S dX4_pair_102 rfl rfl ?_
      refine sj_getr S fM_0_6 iX4_pair_4 rfl (by decide) mX4_pair_26 dX4_pair_103 ?_
      refine sj_iload_n (pl := 2) S dX4_pair_106 rfl rfl ?_
      refine sj_iconst S dX4_pair_107 ?_
      refine sj_iadd S dX4_pair_108 ?_
      refine sj_aload_n (pl := 1) S dX4_pair_109 rfl rfl ?_
      refine sj_iload (pl := 4) S dX4_pair_110 rfl ?_
      refine sj_iconst S dX4_pair_112 ?_
      refine sj_idiv S H.1 dX4_pair_113 ?_
      have H := H.2
      refine sj_iload_n (pl := 3) S dX4_pair_114 rfl rfl ?_
      refine sj_iconst S dX4_pair_115 ?_
      refine sj_irem S H.1 dX4_pair_116 ?_
      have H := H.2
      refine sj_vi (rest := [.int (sq_z (v1 + 1)), .ref (g.2.2 6)]) (q0 := 0) (ci := 4) S (kX4_atSquare l g (v4 / 4) (v3 % 4) st376 _ H) (fun s args hts => cwV 2 hts gX4_pair_X4_atSquare rfl rfl rfl (by decide +kernel) ⟨Nat.le_of_ble_eq_true rfl, Nat.le_of_ble_eq_true rfl⟩) rfl rfl rfl rfl (Nat.le_of_ble_eq_true rfl) dX4_pair_117 (fun r377 st378 H => ?_)
      refine sj_iast S aM_6 H.1 dX4_pair_120 (fun st379 est379 => ?_)
      have H := H.2 st379 est379
      refine sj_goto (tgt := 172) S dX4_pair_121 (by decide) ?_
      exact hret _ _ _ dX4_pair_172 H
set_option maxRecDepth 100000 in
set_option maxHeartbeats 4000000 in
theorem tX4_pair_124 {l : Launch} {g : sq_G} {J : sq_K} {Q : Int → sq_S → Prop} (S : sq_J l rX4_pair cX4_pair 7 RX4 wsX4_pair g sq_M J) (hret : ∀ (pc : Nat) (lv : List (Nat × Value)) (st' : sq_S), decode cX4_pair pc = .ok (.return_, 1) → Q 0 st' → J pc lv [] st') (v1 v3 v4 v5 v6 : Int) (st : sq_S) (H : bX4_pair_124 (qX4_pair_51 J g) (qX4_pair_73 J g) (qX4_pair_124 J g) Q v1 v3 v4 v5 v6 st) : J 124 [(0, .ref (g.2.2 0)), (1, .int (sq_z v1)), (3, .int (sq_z v3)), (4, .int (sq_z v4)), (5, .int (sq_z v5)), (6, .int (sq_z v6))] [] st := by
  unfold bX4_pair_124 at H
  refine sj_aload_n (pl := 0) S dX4_pair_124 rfl rfl ?_
  refine sj_getr S fM_0_6 iX4_pair_4 rfl (by decide) mX4_pair_26 dX4_pair_125 ?_
  refine sj_iload_n (pl := 1) S dX4_pair_128 rfl rfl ?_
  refine sj_aload_n (pl := 0) S dX4_pair_129 rfl rfl ?_
  refine sj_iload_n (pl := 2) S dX4_pair_130 rfl rfl ?_
  refine sj_iconst S dX4_pair_131 ?_
  refine sj_idiv S H.1 dX4_pair_132 ?_
  have H := H.2
  refine sj_iload (pl := 4) S dX4_pair_133 rfl ?_
  refine sj_iadd S dX4_pair_135 ?_
  refine sj_iload_n (pl := 2) S dX4_pair_136 rfl rfl ?_
  refine sj_iconst S dX4_pair_137 ?_
  refine sj_irem S H.1 dX4_pair_138 ?_
  have H := H.2
  refine sj_iload (pl := 5) S dX4_pair_139 rfl ?_
  refine sj_iadd S dX4_pair_141 ?_
  refine sj_vi (rest := [.int (sq_z v1), .ref (g.2.2 6)]) (q0 := 0) (ci := 4) S (kX4_atSquare l g ((v3 / 4) + v5) ((v3 % 4) + v6) st _ H) (fun s args hts => cwV 2 hts gX4_pair_X4_atSquare rfl rfl rfl (by decide +kernel) ⟨Nat.le_of_ble_eq_true rfl, Nat.le_of_ble_eq_true rfl⟩) rfl rfl rfl rfl (Nat.le_of_ble_eq_true rfl) dX4_pair_142 (fun r380 st381 H => ?_)
  refine sj_iast S aM_6 H.1 dX4_pair_145 (fun st382 est382 => ?_)
  have H := H.2 st382 est382
  refine sj_aload_n (pl := 0) S dX4_pair_146 rfl rfl ?_
  refine sj_getr S fM_0_6 iX4_pair_4 rfl (by decide) mX4_pair_26 dX4_pair_147 ?_
  refine sj_iload_n (pl := 1) S dX4_pair_150 rfl rfl ?_
  refine sj_iconst S dX4_pair_151 ?_
  refine sj_iadd S dX4_pair_152 ?_
  refine sj_aload_n (pl := 0) S dX4_pair_153 rfl rfl ?_
  refine sj_iload (pl := 3) S dX4_pair_154 rfl ?_
  refine sj_iconst S dX4_pair_156 ?_
  refine sj_idiv S H.1 dX4_pair_157 ?_
  have H := H.2
  refine sj_iload (pl := 4) S dX4_pair_158 rfl ?_
  refine sj_iadd S dX4_pair_160 ?_
  refine sj_iload (pl := 3) S dX4_pair_161 rfl ?_
  refine sj_iconst S dX4_pair_163 ?_
  refine sj_irem S H.1 dX4_pair_164 ?_
  have H := H.2
  refine sj_iload (pl := 5) S dX4_pair_165 rfl ?_
  refine sj_iadd S dX4_pair_167 ?_
  refine sj_vi (rest := [.int (sq_z (v1 + 1)), .ref (g.2.2 6)]) (q0 := 0) (ci := 4) S (kX4_atSquare l g ((v4 / 4) + v5) ((v4 % 4) + v6) st382 _ H) (fun s args hts => cwV 2 hts gX4_pair_X4_atSquare rfl rfl rfl (by decide +kernel) ⟨Nat.le_of_ble_eq_true rfl, Nat.le_of_ble_eq_true rfl⟩) rfl rfl rfl rfl (Nat.le_of_ble_eq_true rfl) dX4_pair_168 (fun r383 st384 H => ?_)
  refine sj_iast S aM_6 H.1 dX4_pair_171 (fun st385 est385 => ?_)
  have H := H.2 st385 est385
  exact hret _ _ _ dX4_pair_172 H
set_option maxRecDepth 100000 in
set_option maxHeartbeats 4000000 in
theorem tX4_pair_0 {l : Launch} {g : sq_G} {J : sq_K} {Q : Int → sq_S → Prop} (S : sq_J l rX4_pair cX4_pair 7 RX4 wsX4_pair g sq_M J) (hret : ∀ (pc : Nat) (lv : List (Nat × Value)) (st' : sq_S), decode cX4_pair pc = .ok (.return_, 1) → Q 0 st' → J pc lv [] st') (v1 v2 : Int) (st : sq_S) (H : bX4_pair_0 (qX4_pair_51 J g) (qX4_pair_73 J g) (qX4_pair_124 J g) Q v1 v2 st) : J 0 [(0, .ref (g.2.2 0)), (1, .int (sq_z v1)), (2, .int (sq_z v2))] [] st := by
  unfold bX4_pair_0 at H
  refine sj_aload_n (pl := 0) S dX4_pair_0 rfl rfl ?_
  refine sj_aload_n (pl := 0) S dX4_pair_1 rfl rfl ?_
  refine sj_getr S fM_0_5 iX4_pair_4 rfl (by decide) mX4_pair_23 dX4_pair_2 ?_
  refine sj_iload_n (pl := 1) S dX4_pair_5 rfl rfl ?_
  refine sj_iald S aM_5 H.1 dX4_pair_6 ?_
  have H := H.2
  refine sj_vi (rest := []) (q0 := 0) (ci := 4) S (kX4_placeOf l g (st 5 v1.toNat) st _ H) (fun s args hts => cwV 1 hts gX4_pair_X4_placeOf rfl rfl rfl (by decide +kernel) ⟨Nat.le_of_ble_eq_true rfl, Nat.le_of_ble_eq_true rfl⟩) rfl rfl rfl rfl (Nat.le_of_ble_eq_true rfl) dX4_pair_7 (fun r366 st367 H => ?_)
  refine sj_istore_na (lv' := [(0, .ref (g.2.2 0)), (1, .int (sq_z v1)), (2, .int (sq_z v2))]) S dX4_pair_10 rfl (by decide) (fun _ => rfl) ?_
  refine sj_aload_n (pl := 1) S dX4_pair_11 rfl rfl ?_
  refine sj_aload_n (pl := 1) S dX4_pair_12 rfl rfl ?_
  refine sj_getr S fM_0_5 iX4_pair_4 rfl (by decide) mX4_pair_23 dX4_pair_13 ?_
  refine sj_iload_n (pl := 2) S dX4_pair_16 rfl rfl ?_
  refine sj_iconst S dX4_pair_17 ?_
  refine sj_iadd S dX4_pair_18 ?_
  refine sj_iald S aM_5 H.1 dX4_pair_19 ?_
  have H := H.2
  refine sj_vi (rest := []) (q0 := 0) (ci := 4) S (kX4_placeOf l g (st367 5 ((v1 + 1)).toNat) st367 _ H) (fun s args hts => cwV 1 hts gX4_pair_X4_placeOf rfl rfl rfl (by decide +kernel) ⟨Nat.le_of_ble_eq_true rfl, Nat.le_of_ble_eq_true rfl⟩) rfl rfl rfl rfl (Nat.le_of_ble_eq_true rfl) dX4_pair_20 (fun r368 st369 H => ?_)
  refine sj_istorea (lv' := [(3, .int (sq_z r366)), (0, .ref (g.2.2 0)), (1, .int (sq_z v1)), (2, .int (sq_z v2))]) S dX4_pair_23 (by decide) (fun _ => rfl) ?_
  refine sj_iload_n (pl := 1) S dX4_pair_25 rfl rfl ?_
  refine sj_iload (pl := 0) S dX4_pair_26 rfl ?_
  refine sj_icmp_eq (tgt := 51) S H.1 dX4_pair_28 (by decide) (fun c9 => ?_) (fun c9 => ?_)
  · have H := H.2.1 c9
    exact sj_lv S [2, 3, 4, 1, 0] rfl H
  · have H := H.2.2 c9
    refine sj_iload_n (pl := 1) S dX4_pair_31 rfl rfl ?_
    refine sj_iconst S dX4_pair_32 ?_
    refine sj_idiv S H.1 dX4_pair_33 ?_
    have H := H.2
    refine sj_iload (pl := 0) S dX4_pair_34 rfl ?_
    refine sj_iconst S dX4_pair_36 ?_
    refine sj_idiv S H.1 dX4_pair_37 ?_
    have H := H.2
    refine sj_icmp_eq (tgt := 55) S H.1 dX4_pair_38 (by decide) (fun c9 => ?_) (fun c9 => ?_)
    · have H := H.2.1 c9
      refine sj_iconst S dX4_pair_55 ?_
      refine sj_istorea (lv' := [(4, .int (sq_z r368)), (3, .int (sq_z r366)), (0, .ref (g.2.2 0)), (1, .int (sq_z v1)), (2, .int (sq_z v2))]) S dX4_pair_56 (by decide) (fun _ => rfl) ?_
      refine sj_iload_n (pl := 2) S dX4_pair_58 rfl rfl ?_
      refine sj_iconst S dX4_pair_59 ?_
      refine sj_idiv S H.1 dX4_pair_60 ?_
      have H := H.2
      refine sj_iload (pl := 1) S dX4_pair_61 rfl ?_
      refine sj_iconst S dX4_pair_63 ?_
      refine sj_idiv S H.1 dX4_pair_64 ?_
      have H := H.2
      refine sj_icmp_ne (tgt := 72) S H.1 dX4_pair_65 (by decide) (fun c9 => ?_) (fun c9 => ?_)
      · have H := H.2.1 c9
        refine sj_iconst S dX4_pair_72 ?_
        exact sj_lv S [3, 4, 2, 1, 0] rfl H
      · have H := H.2.2 c9
        refine sj_iload_n (pl := 5) S dX4_pair_68 rfl rfl ?_
        refine sj_goto (tgt := 73) S dX4_pair_69 (by decide) ?_
        exact sj_lv S [3, 4, 2, 1, 0] rfl H
    · have H := H.2.2 c9
      refine sj_iload_n (pl := 1) S dX4_pair_41 rfl rfl ?_
      refine sj_iconst S dX4_pair_42 ?_
      refine sj_irem S H.1 dX4_pair_43 ?_
      have H := H.2
      refine sj_iload (pl := 0) S dX4_pair_44 rfl ?_
      refine sj_iconst S dX4_pair_46 ?_
      refine sj_irem S H.1 dX4_pair_47 ?_
      have H := H.2
      refine sj_icmp_ne (tgt := 55) S H.1 dX4_pair_48 (by decide) (fun c9 => ?_) (fun c9 => ?_)
      · have H := H.2.1 c9
        refine sj_iconst S dX4_pair_55 ?_
        refine sj_istorea (lv' := [(4, .int (sq_z r368)), (3, .int (sq_z r366)), (0, .ref (g.2.2 0)), (1, .int (sq_z v1)), (2, .int (sq_z v2))]) S dX4_pair_56 (by decide) (fun _ => rfl) ?_
        refine sj_iload_n (pl := 2) S dX4_pair_58 rfl rfl ?_
        refine sj_iconst S dX4_pair_59 ?_
        refine sj_idiv S H.1 dX4_pair_60 ?_
        have H := H.2
        refine sj_iload (pl := 1) S dX4_pair_61 rfl ?_
        refine sj_iconst S dX4_pair_63 ?_
        refine sj_idiv S H.1 dX4_pair_64 ?_
        have H := H.2
        refine sj_icmp_ne (tgt := 72) S H.1 dX4_pair_65 (by decide) (fun c9 => ?_) (fun c9 => ?_)
        · have H := H.2.1 c9
          refine sj_iconst S dX4_pair_72 ?_
          exact sj_lv S [3, 4, 2, 1, 0] rfl H
        · have H := H.2.2 c9
          refine sj_iload_n (pl := 5) S dX4_pair_68 rfl rfl ?_
          refine sj_goto (tgt := 73) S dX4_pair_69 (by decide) ?_
          exact sj_lv S [3, 4, 2, 1, 0] rfl H
      · have H := H.2.2 c9
        exact sj_lv S [2, 3, 4, 1, 0] rfl H
set_option maxRecDepth 100000 in
set_option maxHeartbeats 4000000 in
theorem kX4_pair (l : Launch) (g : sq_G) (v1 v2 : Int) (st : sq_S) (Q : Int → sq_S → Prop) (H : wX4_pair v1 v2 st Q) : sq_Cv l yX4_pair wsX4_pair rX4_pair g sq_M [.ref (g.2.2 0), .int (sq_z v1), .int (sq_z v2)] st Q := by
  refine sq_in_v (cc := cX4_pair) (nL := 7) (own := RX4) (by decide) rfl rfl (Nat.le_of_ble_eq_true rfl) ?_
  intro J S hret
  exact tX4_pair_0 S hret v1 v2 st (H (qX4_pair_51 J g) (qX4_pair_73 J g) (qX4_pair_124 J g) (tX4_pair_51 S hret) (tX4_pair_73 S hret) (tX4_pair_124 S hret))
/-! pairs (I)V : X4_pairs -/
def bX4_pairs_2 (K2 : Int → Int → sq_S → Prop) (Q : Int → sq_S → Prop) (v1 v2 : Int) (st : sq_S) : Prop :=
  wX4_many st (fun r364 st365 => (sq_rg (v2 + 1) ∧ sq_rg r364) ∧ (r364 ≤ (v2 + 1) → Q 0 st365) ∧ ((v2 + 1) < r364 → wX4_pair v2 v1 st365 (fun _ st386 => K2 v1 (v2 + 2) st386)))
def bX4_pairs_0 (K2 : Int → Int → sq_S → Prop) (Q : Int → sq_S → Prop) (v1 : Int) (st : sq_S) : Prop :=
  K2 v1 0 st
def wX4_pairs (v1 : Int) (st : sq_S) (Q : Int → sq_S → Prop) : Prop :=
  ∀ (K2 : Int → Int → sq_S → Prop), (∀ (v1 v2 : Int) (st : sq_S), bX4_pairs_2 K2 Q v1 v2 st → K2 v1 v2 st) → bX4_pairs_0 K2 Q v1 st
def rX4_pairs : Room := { frames := 3, cells := 0, slots := 0, locals := 68 }
def qX4_pairs_2 (J : sq_K) (g : sq_G) : Int → Int → sq_S → Prop := fun v1 v2 st => J 2 [(0, .ref (g.2.2 0)), (1, .int (sq_z v1)), (2, .int (sq_z v2))] [] st
set_option maxRecDepth 100000 in
set_option maxHeartbeats 4000000 in
theorem tX4_pairs_2 {l : Launch} {g : sq_G} {J : sq_K} {Q : Int → sq_S → Prop} (S : sq_J l rX4_pairs cX4_pairs 3 RX4 wsX4_pairs g sq_M J) (hret : ∀ (pc : Nat) (lv : List (Nat × Value)) (st' : sq_S), decode cX4_pairs pc = .ok (.return_, 1) → Q 0 st' → J pc lv [] st') (v1 v2 : Int) (st : sq_S) (H : bX4_pairs_2 (qX4_pairs_2 J g) Q v1 v2 st) : J 2 [(0, .ref (g.2.2 0)), (1, .int (sq_z v1)), (2, .int (sq_z v2))] [] st := by
  unfold bX4_pairs_2 at H
  refine sj_iload_n (pl := 2) S dX4_pairs_2 rfl rfl ?_
  refine sj_iconst S dX4_pairs_3 ?_
  refine sj_iadd S dX4_pairs_4 ?_
  refine sj_aload_n (pl := 0) S dX4_pairs_5 rfl rfl ?_
  refine sj_vi (rest := [.int (sq_z (v2 + 1))]) (q0 := 0) (ci := 4) S (kX4_many l g st _ H) (fun s args hts => cwV 0 hts gX4_pairs_X4_many rfl rfl rfl (by decide +kernel) ⟨Nat.le_of_ble_eq_true rfl, Nat.le_of_ble_eq_true rfl⟩) rfl rfl rfl rfl (Nat.le_of_ble_eq_true rfl) dX4_pairs_6 (fun r364 st365 H => ?_)
  refine sj_icmp_ge (tgt := 24) S H.1 dX4_pairs_9 (by decide) (fun c9 => ?_) (fun c9 => ?_)
  · have H := H.2.1 c9
    exact hret _ _ _ dX4_pairs_24 H
  · have H := H.2.2 c9
    refine sj_aload_n (pl := 0) S dX4_pairs_12 rfl rfl ?_
    refine sj_iload_n (pl := 2) S dX4_pairs_13 rfl rfl ?_
    refine sj_iload_n (pl := 1) S dX4_pairs_14 rfl rfl ?_
    refine sj_vv (rest := []) (q0 := 0) (ci := 4) S (kX4_pair l g v2 v1 st365 _ H) (fun s args hts => cwV 2 hts gX4_pairs_X4_pair rfl rfl rfl (by decide +kernel) ⟨Nat.le_of_ble_eq_true rfl, Nat.le_of_ble_eq_true rfl⟩) rfl rfl rfl rfl (Nat.le_of_ble_eq_true rfl) dX4_pairs_15 (fun st386 H => ?_)
    refine sj_iinc (pl := 2) (lv' := [(0, .ref (g.2.2 0)), (1, .int (sq_z v1))]) S dX4_pairs_18 rfl (by decide) (fun _ => rfl) ?_
    refine sj_goto (tgt := 2) S dX4_pairs_21 (by decide) ?_
    exact sj_lv S [1, 2, 0] rfl H
set_option maxRecDepth 100000 in
set_option maxHeartbeats 4000000 in
theorem tX4_pairs_0 {l : Launch} {g : sq_G} {J : sq_K} {Q : Int → sq_S → Prop} (S : sq_J l rX4_pairs cX4_pairs 3 RX4 wsX4_pairs g sq_M J) (hret : ∀ (pc : Nat) (lv : List (Nat × Value)) (st' : sq_S), decode cX4_pairs pc = .ok (.return_, 1) → Q 0 st' → J pc lv [] st') (v1 : Int) (st : sq_S) (H : bX4_pairs_0 (qX4_pairs_2 J g) Q v1 st) : J 0 [(0, .ref (g.2.2 0)), (1, .int (sq_z v1))] [] st := by
  unfold bX4_pairs_0 at H
  refine sj_iconst S dX4_pairs_0 ?_
  refine sj_istore_na (lv' := [(0, .ref (g.2.2 0)), (1, .int (sq_z v1))]) S dX4_pairs_1 rfl (by decide) (fun _ => rfl) ?_
  exact sj_lv S [1, 2, 0] rfl H
set_option maxRecDepth 100000 in
set_option maxHeartbeats 4000000 in
theorem kX4_pairs (l : Launch) (g : sq_G) (v1 : Int) (st : sq_S) (Q : Int → sq_S → Prop) (H : wX4_pairs v1 st Q) : sq_Cv l yX4_pairs wsX4_pairs rX4_pairs g sq_M [.ref (g.2.2 0), .int (sq_z v1)] st Q := by
  refine sq_in_v (cc := cX4_pairs) (nL := 3) (own := RX4) (by decide) rfl rfl (Nat.le_of_ble_eq_true rfl) ?_
  intro J S hret
  exact tX4_pairs_0 S hret v1 st (H (qX4_pairs_2 J g) (tX4_pairs_2 S hret))
/-! layKeyOrder ()V : X4_layKeyOrder -/
theorem iX4_layKeyOrder_4 : ∀ w ∈ u_ws RX4 TX4 12, w ∈ wsX4_layKeyOrder := fun _ h => List.mem_cons_of_mem _ (List.mem_append_right _ h)
theorem mX4_layKeyOrder_7 : Cond.fieldLink RX4 7 (TX4 0).1 (TX4 0).2.1 (TX4 0).2.2.1 ∈ wsX4_layKeyOrder := List.mem_of_getElem? (i := 1) rfl
theorem mX4_layKeyOrder_32 : Cond.fieldLink RX4 32 (TX4 8).1 (TX4 8).2.1 (TX4 8).2.2.1 ∈ wsX4_layKeyOrder := List.mem_of_getElem? (i := 2) rfl
def bX4_layKeyOrder_2 (K2 : Int → sq_S → Prop) (K17 : Int → Int → Int → sq_S → Prop) (Q : Int → sq_S → Prop) (v1 : Int) (st : sq_S) : Prop :=
  sq_ib 55 819 ∧ ((sq_rg v1 ∧ sq_rg (st 1 55)) ∧ ((st 1 55) ≤ v1 → Q 0 st) ∧ (v1 < (st 1 55) → K17 v1 0 0 st))
def bX4_layKeyOrder_17 (K2 : Int → sq_S → Prop) (K17 : Int → Int → Int → sq_S → Prop) (Q : Int → sq_S → Prop) (v1 v2 v3 : Int) (st : sq_S) : Prop :=
  sq_ib 55 819 ∧ ((sq_rg v3 ∧ sq_rg (st 1 55)) ∧ ((st 1 55) ≤ v3 → sq_ib v2 6 ∧ (∀ st388 : sq_S, st388 = sq_set st 8 v2.toNat v1 → (K2 (v1 + 1) st388))) ∧ (v3 < (st 1 55) → sq_ib (49 + v3) 819 ∧ (sq_ib (49 + v1) 819 ∧ ((sq_rg (st 1 ((49 + v3)).toNat) ∧ sq_rg (st 1 ((49 + v1)).toNat)) ∧ ((st 1 ((49 + v3)).toNat) < (st 1 ((49 + v1)).toNat) → ∀ y389 : Int, y389 = (v2 + 1) → (K17 v1 y389 (v3 + 1) st)) ∧ ((st 1 ((49 + v1)).toNat) ≤ (st 1 ((49 + v3)).toNat) → sq_ib (49 + v3) 819 ∧ (sq_ib (49 + v1) 819 ∧ ((sq_rg (st 1 ((49 + v3)).toNat) ∧ sq_rg (st 1 ((49 + v1)).toNat)) ∧ (¬ (st 1 ((49 + v3)).toNat) = (st 1 ((49 + v1)).toNat) → ∀ y390 : Int, y390 = (v2 + 0) → (K17 v1 y390 (v3 + 1) st)) ∧ ((st 1 ((49 + v3)).toNat) = (st 1 ((49 + v1)).toNat) → (sq_rg v3 ∧ sq_rg v1) ∧ (v1 ≤ v3 → ∀ y391 : Int, y391 = (v2 + 0) → (K17 v1 y391 (v3 + 1) st)) ∧ (v3 < v1 → ∀ y392 : Int, y392 = (v2 + 1) → (K17 v1 y392 (v3 + 1) st))))))))))
def bX4_layKeyOrder_0 (K2 : Int → sq_S → Prop) (K17 : Int → Int → Int → sq_S → Prop) (Q : Int → sq_S → Prop) (st : sq_S) : Prop :=
  K2 0 st
def wX4_layKeyOrder (st : sq_S) (Q : Int → sq_S → Prop) : Prop :=
  ∀ (K2 : Int → sq_S → Prop) (K17 : Int → Int → Int → sq_S → Prop), (∀ (v1 : Int) (st : sq_S), bX4_layKeyOrder_2 K2 K17 Q v1 st → K2 v1 st) → (∀ (v1 v2 v3 : Int) (st : sq_S), bX4_layKeyOrder_17 K2 K17 Q v1 v2 v3 st → K17 v1 v2 v3 st) → bX4_layKeyOrder_0 K2 K17 Q  st
def rX4_layKeyOrder : Room := { frames := 0, cells := 0, slots := 0, locals := 0 }
def qX4_layKeyOrder_2 (J : sq_K) (g : sq_G) : Int → sq_S → Prop := fun v1 st => J 2 [(0, .ref (g.2.2 0)), (1, .int (sq_z v1))] [] st
def qX4_layKeyOrder_17 (J : sq_K) (g : sq_G) : Int → Int → Int → sq_S → Prop := fun v1 v2 v3 st => J 17 [(0, .ref (g.2.2 0)), (1, .int (sq_z v1)), (2, .int (sq_z v2)), (3, .int (sq_z v3))] [] st
set_option maxRecDepth 100000 in
set_option maxHeartbeats 4000000 in
theorem tX4_layKeyOrder_2 {l : Launch} {g : sq_G} {J : sq_K} {Q : Int → sq_S → Prop} (S : sq_J l rX4_layKeyOrder cX4_layKeyOrder 4 RX4 wsX4_layKeyOrder g sq_M J) (hret : ∀ (pc : Nat) (lv : List (Nat × Value)) (st' : sq_S), decode cX4_layKeyOrder pc = .ok (.return_, 1) → Q 0 st' → J pc lv [] st') (v1 : Int) (st : sq_S) (H : bX4_layKeyOrder_2 (qX4_layKeyOrder_2 J g) (qX4_layKeyOrder_17 J g) Q v1 st) : J 2 [(0, .ref (g.2.2 0)), (1, .int (sq_z v1))] [] st := by
  unfold bX4_layKeyOrder_2 at H
  refine sj_iload_n (pl := 1) S dX4_layKeyOrder_2 rfl rfl ?_
  refine sj_aload_n (pl := 0) S dX4_layKeyOrder_3 rfl rfl ?_
  refine sj_getr S fM_0_0 iX4_layKeyOrder_4 rfl (by decide) mX4_layKeyOrder_7 dX4_layKeyOrder_4 ?_
  refine sj_bipush S dX4_layKeyOrder_7 (by decide +kernel) ?_
  refine sj_iald S aM_1 H.1 dX4_layKeyOrder_9 ?_
  have H := H.2
  refine sj_icmp_ge (tgt := 102) S H.1 dX4_layKeyOrder_10 (by decide) (fun c9 => ?_) (fun c9 => ?_)
  · have H := H.2.1 c9
    exact hret _ _ _ dX4_layKeyOrder_102 H
  · have H := H.2.2 c9
    refine sj_iconst S dX4_layKeyOrder_13 ?_
    refine sj_istore_na (lv' := [(0, .ref (g.2.2 0)), (1, .int (sq_z v1))]) S dX4_layKeyOrder_14 rfl (by decide) (fun _ => rfl) ?_
    refine sj_iconst S dX4_layKeyOrder_15 ?_
    refine sj_istore_na (lv' := [(2, .int (sq_z 0)), (0, .ref (g.2.2 0)), (1, .int (sq_z v1))]) S dX4_layKeyOrder_16 rfl (by decide) (fun _ => rfl) ?_
    exact sj_lv S [2, 3, 1, 0] rfl H
set_option maxRecDepth 100000 in
set_option maxHeartbeats 4000000 in
theorem tX4_layKeyOrder_17 {l : Launch} {g : sq_G} {J : sq_K} {Q : Int → sq_S → Prop} (S : sq_J l rX4_layKeyOrder cX4_layKeyOrder 4 RX4 wsX4_layKeyOrder g sq_M J) (hret : ∀ (pc : Nat) (lv : List (Nat × Value)) (st' : sq_S), decode cX4_layKeyOrder pc = .ok (.return_, 1) → Q 0 st' → J pc lv [] st') (v1 v2 v3 : Int) (st : sq_S) (H : bX4_layKeyOrder_17 (qX4_layKeyOrder_2 J g) (qX4_layKeyOrder_17 J g) Q v1 v2 v3 st) : J 17 [(0, .ref (g.2.2 0)), (1, .int (sq_z v1)), (2, .int (sq_z v2)), (3, .int (sq_z v3))] [] st := by
  unfold bX4_layKeyOrder_17 at H
  refine sj_iload_n (pl := 3) S dX4_layKeyOrder_17 rfl rfl ?_
  refine sj_aload_n (pl := 0) S dX4_layKeyOrder_18 rfl rfl ?_
  refine sj_getr S fM_0_0 iX4_layKeyOrder_4 rfl (by decide) mX4_layKeyOrder_7 dX4_layKeyOrder_19 ?_
  refine sj_bipush S dX4_layKeyOrder_22 (by decide +kernel) ?_
  refine sj_iald S aM_1 H.1 dX4_layKeyOrder_24 ?_
  have H := H.2
  refine sj_icmp_ge (tgt := 89) S H.1 dX4_layKeyOrder_25 (by decide) (fun c9 => ?_) (fun c9 => ?_)
  · have H := H.2.1 c9
    refine sj_aload_n (pl := 0) S dX4_layKeyOrder_89 rfl rfl ?_
    refine sj_getr S fM_0_8 iX4_layKeyOrder_4 rfl (by decide) mX4_layKeyOrder_32 dX4_layKeyOrder_90 ?_
    refine sj_iload_n (pl := 2) S dX4_layKeyOrder_93 rfl rfl ?_
    refine sj_iload_n (pl := 1) S dX4_layKeyOrder_94 rfl rfl ?_
    refine sj_iast S aM_8 H.1 dX4_layKeyOrder_95 (fun st388 est388 => ?_)
    have H := H.2 st388 est388
    refine sj_iinc (pl := 1) (lv' := [(0, .ref (g.2.2 0)), (2, .int (sq_z v2)), (3, .int (sq_z v3))]) S dX4_layKeyOrder_96 rfl (by decide) (fun _ => rfl) ?_
    refine sj_goto (tgt := 2) S dX4_layKeyOrder_99 (by decide) ?_
    exact sj_lv S [1, 0] rfl H
  · have H := H.2.2 c9
    refine sj_iload_n (pl := 2) S dX4_layKeyOrder_28 rfl rfl ?_
    refine sj_aload_n (pl := 0) S dX4_layKeyOrder_29 rfl rfl ?_
    refine sj_getr S fM_0_0 iX4_layKeyOrder_4 rfl (by decide) mX4_layKeyOrder_7 dX4_layKeyOrder_30 ?_
    refine sj_bipush S dX4_layKeyOrder_33 (by decide +kernel) ?_
    refine sj_iload_n (pl := 3) S dX4_layKeyOrder_35 rfl rfl ?_
    refine sj_iadd S dX4_layKeyOrder_36 ?_
    refine sj_iald S aM_1 H.1 dX4_layKeyOrder_37 ?_
    have H := H.2
    refine sj_aload_n (pl := 0) S dX4_layKeyOrder_38 rfl rfl ?_
    refine sj_getr S fM_0_0 iX4_layKeyOrder_4 rfl (by decide) mX4_layKeyOrder_7 dX4_layKeyOrder_39 ?_
    refine sj_bipush S dX4_layKeyOrder_42 (by decide +kernel) ?_
    refine sj_iload_n (pl := 1) S dX4_layKeyOrder_44 rfl rfl ?_
    refine sj_iadd S dX4_layKeyOrder_45 ?_
    refine sj_iald S aM_1 H.1 dX4_layKeyOrder_46 ?_
    have H := H.2
    refine sj_icmp_lt (tgt := 76) S H.1 dX4_layKeyOrder_47 (by decide) (fun c9 => ?_) (fun c9 => ?_)
    · have H := H.2.1 c9
      refine sj_iconst S dX4_layKeyOrder_76 ?_
      refine sj_goto (tgt := 81) S dX4_layKeyOrder_77 (by decide) ?_
      refine sj_iadd S dX4_layKeyOrder_81 ?_
      refine sj_istore_n (lv' := [(0, .ref (g.2.2 0)), (1, .int (sq_z v1)), (3, .int (sq_z v3))]) S dX4_layKeyOrder_82 rfl (by decide) (fun _ => rfl) (fun y389 ey389 => ?_)
      have H := H y389 ey389
      refine sj_iinc (pl := 3) (lv' := [(2, .int (sq_z y389)), (0, .ref (g.2.2 0)), (1, .int (sq_z v1))]) S dX4_layKeyOrder_83 rfl (by decide) (fun _ => rfl) ?_
      refine sj_goto (tgt := 17) S dX4_layKeyOrder_86 (by decide) ?_
      exact sj_lv S [2, 3, 1, 0] rfl H
    · have H := H.2.2 c9
      refine sj_aload_n (pl := 0) S dX4_layKeyOrder_50 rfl rfl ?_
      refine sj_getr S fM_0_0 iX4_layKeyOrder_4 rfl (by decide) mX4_layKeyOrder_7 dX4_layKeyOrder_51 ?_
      refine sj_bipush S dX4_layKeyOrder_54 (by decide +kernel) ?_
      refine sj_iload_n (pl := 3) S dX4_layKeyOrder_56 rfl rfl ?_
      refine sj_iadd S dX4_layKeyOrder_57 ?_
      refine sj_iald S aM_1 H.1 dX4_layKeyOrder_58 ?_
      have H := H.2
      refine sj_aload_n (pl := 0) S dX4_layKeyOrder_59 rfl rfl ?_
      refine sj_getr S fM_0_0 iX4_layKeyOrder_4 rfl (by decide) mX4_layKeyOrder_7 dX4_layKeyOrder_60 ?_
      refine sj_bipush S dX4_layKeyOrder_63 (by decide +kernel) ?_
      refine sj_iload_n (pl := 1) S dX4_layKeyOrder_65 rfl rfl ?_
      refine sj_iadd S dX4_layKeyOrder_66 ?_
      refine sj_iald S aM_1 H.1 dX4_layKeyOrder_67 ?_
      have H := H.2
      refine sj_icmp_ne (tgt := 80) S H.1 dX4_layKeyOrder_68 (by decide) (fun c9 => ?_) (fun c9 => ?_)
      · have H := H.2.1 c9
        refine sj_iconst S dX4_layKeyOrder_80 ?_
        refine sj_iadd S dX4_layKeyOrder_81 ?_
        refine sj_istore_n (lv' := [(0, .ref (g.2.2 0)), (1, .int (sq_z v1)), (3, .int (sq_z v3))]) S dX4_layKeyOrder_82 rfl (by decide) (fun _ => rfl) (fun y390 ey390 => ?_)
        have H := H y390 ey390
        refine sj_iinc (pl := 3) (lv' := [(2, .int (sq_z y390)), (0, .ref (g.2.2 0)), (1, .int (sq_z v1))]) S dX4_layKeyOrder_83 rfl (by decide) (fun _ => rfl) ?_
        refine sj_goto (tgt := 17) S dX4_layKeyOrder_86 (by decide) ?_
        exact sj_lv S [2, 3, 1, 0] rfl H
      · have H := H.2.2 c9
        refine sj_iload_n (pl := 3) S dX4_layKeyOrder_71 rfl rfl ?_
        refine sj_iload_n (pl := 1) S dX4_layKeyOrder_72 rfl rfl ?_
        refine sj_icmp_ge (tgt := 80) S H.1 dX4_layKeyOrder_73 (by decide) (fun c9 => ?_) (fun c9 => ?_)
        · have H := H.2.1 c9
          refine sj_iconst S dX4_layKeyOrder_80 ?_
          refine sj_iadd S dX4_layKeyOrder_81 ?_
          refine sj_istore_n (lv' := [(0, .ref (g.2.2 0)), (1, .int (sq_z v1)), (3, .int (sq_z v3))]) S dX4_layKeyOrder_82 rfl (by decide) (fun _ => rfl) (fun y391 ey391 => ?_)
          have H := H y391 ey391
          refine sj_iinc (pl := 3) (lv' := [(2, .int (sq_z y391)), (0, .ref (g.2.2 0)), (1, .int (sq_z v1))]) S dX4_layKeyOrder_83 rfl (by decide) (fun _ => rfl) ?_
          refine sj_goto (tgt := 17) S dX4_layKeyOrder_86 (by decide) ?_
          exact sj_lv S [2, 3, 1, 0] rfl H
        · have H := H.2.2 c9
          refine sj_iconst S dX4_layKeyOrder_76 ?_
          refine sj_goto (tgt := 81) S dX4_layKeyOrder_77 (by decide) ?_
          refine sj_iadd S dX4_layKeyOrder_81 ?_
          refine sj_istore_n (lv' := [(0, .ref (g.2.2 0)), (1, .int (sq_z v1)), (3, .int (sq_z v3))]) S dX4_layKeyOrder_82 rfl (by decide) (fun _ => rfl) (fun y392 ey392 => ?_)
          have H := H y392 ey392
          refine sj_iinc (pl := 3) (lv' := [(2, .int (sq_z y392)), (0, .ref (g.2.2 0)), (1, .int (sq_z v1))]) S dX4_layKeyOrder_83 rfl (by decide) (fun _ => rfl) ?_
          refine sj_goto (tgt := 17) S dX4_layKeyOrder_86 (by decide) ?_
          exact sj_lv S [2, 3, 1, 0] rfl H
set_option maxRecDepth 100000 in
set_option maxHeartbeats 4000000 in
theorem tX4_layKeyOrder_0 {l : Launch} {g : sq_G} {J : sq_K} {Q : Int → sq_S → Prop} (S : sq_J l rX4_layKeyOrder cX4_layKeyOrder 4 RX4 wsX4_layKeyOrder g sq_M J) (hret : ∀ (pc : Nat) (lv : List (Nat × Value)) (st' : sq_S), decode cX4_layKeyOrder pc = .ok (.return_, 1) → Q 0 st' → J pc lv [] st') (st : sq_S) (H : bX4_layKeyOrder_0 (qX4_layKeyOrder_2 J g) (qX4_layKeyOrder_17 J g) Q st) : J 0 [(0, .ref (g.2.2 0))] [] st := by
  unfold bX4_layKeyOrder_0 at H
  refine sj_iconst S dX4_layKeyOrder_0 ?_
  refine sj_istore_na (lv' := [(0, .ref (g.2.2 0))]) S dX4_layKeyOrder_1 rfl (by decide) (fun _ => rfl) ?_
  exact sj_lv S [1, 0] rfl H
set_option maxRecDepth 100000 in
set_option maxHeartbeats 4000000 in
theorem kX4_layKeyOrder (l : Launch) (g : sq_G) (st : sq_S) (Q : Int → sq_S → Prop) (H : wX4_layKeyOrder  st Q) : sq_Cv l yX4_layKeyOrder wsX4_layKeyOrder rX4_layKeyOrder g sq_M [.ref (g.2.2 0)] st Q := by
  refine sq_in_v (cc := cX4_layKeyOrder) (nL := 4) (own := RX4) (by decide) rfl rfl (Nat.le_of_ble_eq_true rfl) ?_
  intro J S hret
  exact tX4_layKeyOrder_0 S hret  st (H (qX4_layKeyOrder_2 J g) (qX4_layKeyOrder_17 J g) (tX4_layKeyOrder_2 S hret) (tX4_layKeyOrder_17 S hret))
/-! layColumns (I)V : X4_layColumns -/
theorem iX4_layColumns_4 : ∀ w ∈ u_ws RX4 TX4 12, w ∈ wsX4_layColumns := fun _ h => List.mem_cons_of_mem _ (List.mem_append_right _ h)
theorem mX4_layColumns_32 : Cond.fieldLink RX4 32 (TX4 8).1 (TX4 8).2.1 (TX4 8).2.2.1 ∈ wsX4_layColumns := List.mem_of_getElem? (i := 1) rfl
theorem mX4_layColumns_35 : Cond.fieldLink RX4 35 (TX4 9).1 (TX4 9).2.1 (TX4 9).2.2.1 ∈ wsX4_layColumns := List.mem_of_getElem? (i := 2) rfl
def bX4_layColumns_4 (K4 : Int → Int → Int → sq_S → Prop) (K17 : Int → Int → Int → Int → sq_S → Prop) (Q : Int → sq_S → Prop) (v1 v2 v3 : Int) (st : sq_S) : Prop :=
  (sq_rg v3 ∧ sq_rg v1) ∧ (v1 ≤ v3 → Q 0 st) ∧ (v3 < v1 → sq_ib v3 6 ∧ (∀ y394 : Int, y394 = (st 8 v3.toNat) → (K17 v1 v2 v3 y394 st)))
def bX4_layColumns_17 (K4 : Int → Int → Int → sq_S → Prop) (K17 : Int → Int → Int → Int → sq_S → Prop) (Q : Int → sq_S → Prop) (v1 v2 v3 v4 : Int) (st : sq_S) : Prop :=
  wX4_many st (fun r395 st396 => (sq_rg v4 ∧ sq_rg r395) ∧ (r395 ≤ v4 → K4 v1 v2 (v3 + 1) st396) ∧ (v4 < r395 → sq_ib v2 48 ∧ (∀ st397 : sq_S, st397 = sq_set st396 9 v2.toNat v4 → (∀ y398 : Int, y398 = (v4 + v1) → (K17 v1 (v2 + 1) v3 y398 st397)))))
def bX4_layColumns_0 (K4 : Int → Int → Int → sq_S → Prop) (K17 : Int → Int → Int → Int → sq_S → Prop) (Q : Int → sq_S → Prop) (v1 : Int) (st : sq_S) : Prop :=
  K4 v1 0 0 st
def wX4_layColumns (v1 : Int) (st : sq_S) (Q : Int → sq_S → Prop) : Prop :=
  ∀ (K4 : Int → Int → Int → sq_S → Prop) (K17 : Int → Int → Int → Int → sq_S → Prop), (∀ (v1 v2 v3 : Int) (st : sq_S), bX4_layColumns_4 K4 K17 Q v1 v2 v3 st → K4 v1 v2 v3 st) → (∀ (v1 v2 v3 v4 : Int) (st : sq_S), bX4_layColumns_17 K4 K17 Q v1 v2 v3 v4 st → K17 v1 v2 v3 v4 st) → bX4_layColumns_0 K4 K17 Q v1 st
def rX4_layColumns : Room := { frames := 1, cells := 0, slots := 0, locals := 20 }
def qX4_layColumns_4 (J : sq_K) (g : sq_G) : Int → Int → Int → sq_S → Prop := fun v1 v2 v3 st => J 4 [(0, .ref (g.2.2 0)), (1, .int (sq_z v1)), (2, .int (sq_z v2)), (3, .int (sq_z v3))] [] st
def qX4_layColumns_17 (J : sq_K) (g : sq_G) : Int → Int → Int → Int → sq_S → Prop := fun v1 v2 v3 v4 st => J 17 [(0, .ref (g.2.2 0)), (1, .int (sq_z v1)), (2, .int (sq_z v2)), (3, .int (sq_z v3)), (4, .int (sq_z v4))] [] st
set_option maxRecDepth 100000 in
set_option maxHeartbeats 4000000 in
theorem tX4_layColumns_4 {l : Launch} {g : sq_G} {J : sq_K} {Q : Int → sq_S → Prop} (S : sq_J l rX4_layColumns cX4_layColumns 5 RX4 wsX4_layColumns g sq_M J) (hret : ∀ (pc : Nat) (lv : List (Nat × Value)) (st' : sq_S), decode cX4_layColumns pc = .ok (.return_, 1) → Q 0 st' → J pc lv [] st') (v1 v2 v3 : Int) (st : sq_S) (H : bX4_layColumns_4 (qX4_layColumns_4 J g) (qX4_layColumns_17 J g) Q v1 v2 v3 st) : J 4 [(0, .ref (g.2.2 0)), (1, .int (sq_z v1)), (2, .int (sq_z v2)), (3, .int (sq_z v3))] [] st := by
  unfold bX4_layColumns_4 at H
  refine sj_iload_n (pl := 3) S dX4_layColumns_4 rfl rfl ?_
  refine sj_iload_n (pl := 1) S dX4_layColumns_5 rfl rfl ?_
  refine sj_icmp_ge (tgt := 52) S H.1 dX4_layColumns_6 (by decide) (fun c9 => ?_) (fun c9 => ?_)
  · have H := H.2.1 c9
    exact hret _ _ _ dX4_layColumns_52 H
  · have H := H.2.2 c9
    refine sj_aload_n (pl := 0) S dX4_layColumns_9 rfl rfl ?_
    refine sj_getr S fM_0_8 iX4_layColumns_4 rfl (by decide) mX4_layColumns_32 dX4_layColumns_10 ?_
    refine sj_iload_n (pl := 3) S dX4_layColumns_13 rfl rfl ?_
    refine sj_iald S aM_8 H.1 dX4_layColumns_14 ?_
    have H := H.2
    refine sj_istore (lv' := [(0, .ref (g.2.2 0)), (1, .int (sq_z v1)), (2, .int (sq_z v2)), (3, .int (sq_z v3))]) S dX4_layColumns_15 (by decide) (fun _ => rfl) (fun y394 ey394 => ?_)
    have H := H y394 ey394
    exact sj_lv S [1, 2, 3, 4, 0] rfl H
set_option maxRecDepth 100000 in
set_option maxHeartbeats 4000000 in
theorem tX4_layColumns_17 {l : Launch} {g : sq_G} {J : sq_K} {Q : Int → sq_S → Prop} (S : sq_J l rX4_layColumns cX4_layColumns 5 RX4 wsX4_layColumns g sq_M J) (hret : ∀ (pc : Nat) (lv : List (Nat × Value)) (st' : sq_S), decode cX4_layColumns pc = .ok (.return_, 1) → Q 0 st' → J pc lv [] st') (v1 v2 v3 v4 : Int) (st : sq_S) (H : bX4_layColumns_17 (qX4_layColumns_4 J g) (qX4_layColumns_17 J g) Q v1 v2 v3 v4 st) : J 17 [(0, .ref (g.2.2 0)), (1, .int (sq_z v1)), (2, .int (sq_z v2)), (3, .int (sq_z v3)), (4, .int (sq_z v4))] [] st := by
  unfold bX4_layColumns_17 at H
  refine sj_iload (pl := 4) S dX4_layColumns_17 rfl ?_
  refine sj_aload_n (pl := 0) S dX4_layColumns_19 rfl rfl ?_
  refine sj_vi (rest := [.int (sq_z v4)]) (q0 := 0) (ci := 4) S (kX4_many l g st _ H) (fun s args hts => cwV 0 hts gX4_layColumns_X4_many rfl rfl rfl (by decide +kernel) ⟨Nat.le_of_ble_eq_true rfl, Nat.le_of_ble_eq_true rfl⟩) rfl rfl rfl rfl (Nat.le_of_ble_eq_true rfl) dX4_layColumns_20 (fun r395 st396 H => ?_)
  refine sj_icmp_ge (tgt := 46) S H.1 dX4_layColumns_23 (by decide) (fun c9 => ?_) (fun c9 => ?_)
  · have H := H.2.1 c9
    refine sj_iinc (pl := 3) (lv' := [(0, .ref (g.2.2 0)), (1, .int (sq_z v1)), (2, .int (sq_z v2)), (4, .int (sq_z v4))]) S dX4_layColumns_46 rfl (by decide) (fun _ => rfl) ?_
    refine sj_goto (tgt := 4) S dX4_layColumns_49 (by decide) ?_
    exact sj_lv S [1, 2, 3, 0] rfl H
  · have H := H.2.2 c9
    refine sj_aload_n (pl := 0) S dX4_layColumns_26 rfl rfl ?_
    refine sj_getr S fM_0_9 iX4_layColumns_4 rfl (by decide) mX4_layColumns_35 dX4_layColumns_27 ?_
    refine sj_iload_n (pl := 2) S dX4_layColumns_30 rfl rfl ?_
    refine sj_iload (pl := 4) S dX4_layColumns_31 rfl ?_
    refine sj_iast S aM_9 H.1 dX4_layColumns_33 (fun st397 est397 => ?_)
    have H := H.2 st397 est397
    refine sj_iinc (pl := 2) (lv' := [(0, .ref (g.2.2 0)), (1, .int (sq_z v1)), (3, .int (sq_z v3)), (4, .int (sq_z v4))]) S dX4_layColumns_34 rfl (by decide) (fun _ => rfl) ?_
    refine sj_iload (pl := 4) S dX4_layColumns_37 rfl ?_
    refine sj_iload_n (pl := 2) S dX4_layColumns_39 rfl rfl ?_
    refine sj_iadd S dX4_layColumns_40 ?_
    refine sj_istore (lv' := [(2, .int (sq_z (v2 + 1))), (0, .ref (g.2.2 0)), (1, .int (sq_z v1)), (3, .int (sq_z v3))]) S dX4_layColumns_41 (by decide) (fun _ => rfl) (fun y398 ey398 => ?_)
    have H := H y398 ey398
    refine sj_goto (tgt := 17) S dX4_layColumns_43 (by decide) ?_
    exact sj_lv S [2, 3, 1, 4, 0] rfl H
set_option maxRecDepth 100000 in
set_option maxHeartbeats 4000000 in
theorem tX4_layColumns_0 {l : Launch} {g : sq_G} {J : sq_K} {Q : Int → sq_S → Prop} (S : sq_J l rX4_layColumns cX4_layColumns 5 RX4 wsX4_layColumns g sq_M J) (hret : ∀ (pc : Nat) (lv : List (Nat × Value)) (st' : sq_S), decode cX4_layColumns pc = .ok (.return_, 1) → Q 0 st' → J pc lv [] st') (v1 : Int) (st : sq_S) (H : bX4_layColumns_0 (qX4_layColumns_4 J g) (qX4_layColumns_17 J g) Q v1 st) : J 0 [(0, .ref (g.2.2 0)), (1, .int (sq_z v1))] [] st := by
  unfold bX4_layColumns_0 at H
  refine sj_iconst S dX4_layColumns_0 ?_
  refine sj_istore_na (lv' := [(0, .ref (g.2.2 0)), (1, .int (sq_z v1))]) S dX4_layColumns_1 rfl (by decide) (fun _ => rfl) ?_
  refine sj_iconst S dX4_layColumns_2 ?_
  refine sj_istore_na (lv' := [(2, .int (sq_z 0)), (0, .ref (g.2.2 0)), (1, .int (sq_z v1))]) S dX4_layColumns_3 rfl (by decide) (fun _ => rfl) ?_
  exact sj_lv S [2, 3, 1, 0] rfl H
set_option maxRecDepth 100000 in
set_option maxHeartbeats 4000000 in
theorem kX4_layColumns (l : Launch) (g : sq_G) (v1 : Int) (st : sq_S) (Q : Int → sq_S → Prop) (H : wX4_layColumns v1 st Q) : sq_Cv l yX4_layColumns wsX4_layColumns rX4_layColumns g sq_M [.ref (g.2.2 0), .int (sq_z v1)] st Q := by
  refine sq_in_v (cc := cX4_layColumns) (nL := 5) (own := RX4) (by decide) rfl rfl (Nat.le_of_ble_eq_true rfl) ?_
  intro J S hret
  exact tX4_layColumns_0 S hret v1 st (H (qX4_layColumns_4 J g) (qX4_layColumns_17 J g) (tX4_layColumns_4 S hret) (tX4_layColumns_17 S hret))
