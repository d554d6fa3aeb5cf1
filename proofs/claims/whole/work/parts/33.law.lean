/-! the law: its judgement over both worlds, its loop over any relation that all calls keep -/
def sl_o_say (Rel : sq_S → sq_S → Prop) : Prop := ∀ (sx sm : sq_S) (a1 : Int), Rel sx sm → sq_rg a1 → wX3_say a1 sx (fun r sx' => wX4_say a1 sm (fun r' sm' => r = r' ∧ sq_rg r ∧ Rel sx' sm'))
def sl_o_wipe (Rel : sq_S → sq_S → Prop) : Prop := ∀ (sx sm : sq_S), Rel sx sm → wX3_wipe sx (fun r sx' => wX4_wipe sm (fun r' sm' => r = r' ∧ sq_rg r ∧ Rel sx' sm'))
def sl_o_take (Rel : sq_S → sq_S → Prop) : Prop := ∀ (sx sm : sq_S) (a1 : Int), Rel sx sm → sq_rg a1 → wX3_take a1 sx (fun r sx' => wX4_take a1 sm (fun r' sm' => r = r' ∧ sq_rg r ∧ Rel sx' sm'))
def sl_o_worth (Rel : sq_S → sq_S → Prop) : Prop := ∀ (sx sm : sq_S) (a1 a2 : Int), Rel sx sm → sq_rg a1 → sq_rg a2 → wX3_worth a1 a2 sx (fun r sx' => wX4_worth a1 a2 sm (fun r' sm' => r = r' ∧ sq_rg r ∧ Rel sx' sm'))
def sl_o_like (Rel : sq_S → sq_S → Prop) : Prop := ∀ (sx sm : sq_S) (a1 a2 a3 : Int), Rel sx sm → sq_rg a1 → sq_rg a2 → sq_rg a3 → wX3_like a1 a2 a3 sx (fun r sx' => wX4_like a1 a2 a3 sm (fun r' sm' => r = r' ∧ sq_rg r ∧ Rel sx' sm'))
def sl_o_letter (Rel : sq_S → sq_S → Prop) : Prop := ∀ (sx sm : sq_S) (a1 a2 : Int), Rel sx sm → sq_rg a1 → sq_rg a2 → wX3_letter a1 a2 sx (fun r sx' => wX4_letter a1 a2 sm (fun r' sm' => r = r' ∧ sq_rg r ∧ Rel sx' sm'))
def sl_o_hide (Rel : sq_S → sq_S → Prop) : Prop := ∀ (sx sm : sq_S) (a1 : Int), Rel sx sm → sq_rg a1 → wX3_hide a1 sx (fun r sx' => wX4_hide a1 sm (fun r' sm' => r = r' ∧ sq_rg r ∧ Rel sx' sm'))
def sl_o_find (Rel : sq_S → sq_S → Prop) : Prop := ∀ (sx sm : sq_S) (a1 : Int), Rel sx sm → sq_rg a1 → wX3_find a1 sx (fun r sx' => wX4_find a1 sm (fun r' sm' => r = r' ∧ sq_rg r ∧ Rel sx' sm'))
def sl_o_undo (Rel : sq_S → sq_S → Prop) : Prop := ∀ (sx sm : sq_S), Rel sx sm → wX3_undo sx (fun r sx' => wX4_undo sm (fun r' sm' => r = r' ∧ sq_rg r ∧ Rel sx' sm'))
def sl_o_times (Rel : sq_S → sq_S → Prop) : Prop := ∀ (sx sm : sq_S) (a1 : Int), Rel sx sm → sq_rg a1 → wX3_times a1 sx (fun r sx' => wX4_times a1 sm (fun r' sm' => r = r' ∧ sq_rg r ∧ Rel sx' sm'))
def sl_o_same (Rel : sq_S → sq_S → Prop) : Prop := ∀ (sx sm : sq_S) (a1 : Int), Rel sx sm → sq_rg a1 → wX3_same a1 sx (fun r sx' => wX4_same a1 sm (fun r' sm' => r = r' ∧ sq_rg r ∧ Rel sx' sm'))
def sl_o_length (Rel : sq_S → sq_S → Prop) : Prop := ∀ (sx sm : sq_S) (a1 : Int), Rel sx sm → sq_rg a1 → wX3_length a1 sx (fun r sx' => wX4_length a1 sm (fun r' sm' => r = r' ∧ sq_rg r ∧ Rel sx' sm'))
def sl_o_shift (Rel : sq_S → sq_S → Prop) : Prop := ∀ (sx sm : sq_S) (a1 a2 a3 a4 : Int), Rel sx sm → sq_rg a1 → sq_rg a2 → sq_rg a3 → sq_rg a4 → wX3_shift a1 a2 a3 a4 sx (fun r sx' => wX4_shift a1 a2 a3 a4 sm (fun r' sm' => r = r' ∧ sq_rg r ∧ Rel sx' sm'))
def sl_o_good (Rel : sq_S → sq_S → Prop) : Prop := ∀ (sx sm : sq_S), Rel sx sm → wX3_good sx (fun r sx' => wX4_good sm (fun r' sm' => r = r' ∧ sq_rg r ∧ Rel sx' sm'))
def sl_o_order (Rel : sq_S → sq_S → Prop) : Prop := ∀ (sx sm : sq_S) (a1 a2 : Int), Rel sx sm → sq_rg a1 → sq_rg a2 → wX3_order a1 a2 sx (fun r sx' => wX4_order a1 a2 sm (fun r' sm' => r = r' ∧ sq_rg r ∧ Rel sx' sm'))
def sl_o_climb (Rel : sq_S → sq_S → Prop) : Prop := ∀ (sx sm : sq_S) (a1 a2 a3 : Int), Rel sx sm → sq_rg a1 → sq_rg a2 → sq_rg a3 → wX3_climb a1 a2 a3 sx (fun r sx' => wX4_climb a1 a2 a3 sm (fun r' sm' => r = r' ∧ sq_rg r ∧ Rel sx' sm'))
def sl_o_image (Rel : sq_S → sq_S → Prop) : Prop := ∀ (sx sm : sq_S) (a1 : Int), Rel sx sm → sq_rg a1 → wX3_image a1 sx (fun r sx' => wX4_image a1 sm (fun r' sm' => r = r' ∧ sq_rg r ∧ Rel sx' sm'))
def sl_o_restore (Rel : sq_S → sq_S → Prop) : Prop := ∀ (sx sm : sq_S) (a1 : Int), Rel sx sm → sq_rg a1 → wX3_restore a1 sx (fun r sx' => wX4_restore a1 sm (fun r' sm' => r = r' ∧ sq_rg r ∧ Rel sx' sm'))
def sl_o_count (Rel : sq_S → sq_S → Prop) : Prop := ∀ (sx sm : sq_S) (a1 : Int), Rel sx sm → sq_rg a1 → wX3_count a1 sx (fun r sx' => wX4_count a1 sm (fun r' sm' => r = r' ∧ sq_rg r ∧ Rel sx' sm'))
def sl_ops (Rel : sq_S → sq_S → Prop) : Prop := sl_o_say Rel ∧ sl_o_wipe Rel ∧ sl_o_take Rel ∧ sl_o_worth Rel ∧ sl_o_like Rel ∧ sl_o_letter Rel ∧ sl_o_hide Rel ∧ sl_o_find Rel ∧ sl_o_undo Rel ∧ sl_o_times Rel ∧ sl_o_same Rel ∧ sl_o_length Rel ∧ sl_o_shift Rel ∧ sl_o_good Rel ∧ sl_o_order Rel ∧ sl_o_climb Rel ∧ sl_o_image Rel ∧ sl_o_restore Rel ∧ sl_o_count Rel
theorem sl_split {D : va_G} {cl : List vw_C} {A : Nat → Prop} {X M : va_W} {H : Heap} (hP : va_P D cl (X ++ M) H) (hD : va_D A (X ++ M)) : va_P D cl X H ∧ va_P D cl M H ∧ va_D A X ∧ va_D A M ∧ ∀ (i j : Nat) (p q : Nat × va_E), X[i]? = some p → M[j]? = some q → p.1 ≠ q.1 := by
  have hl : ∀ (k : Nat) (q : Nat × va_E), X[k]? = some q → (X ++ M)[k]? = some q := fun k q h => by
    rw [List.getElem?_append_left (List.getElem?_eq_some_iff.mp h).1]; exact h
  have hr : ∀ (k : Nat) (q : Nat × va_E), M[k]? = some q → (X ++ M)[X.length + k]? = some q := fun k q h => by
    rw [List.getElem?_append_right (Nat.le_add_right _ _), Nat.add_sub_cancel_left]; exact h
  refine ⟨fun k q h => hP k q (hl k q h), fun k q h => hP _ q (hr k q h), ⟨fun i j p q h1 h2 e => hD.1 i j p q (hl i p h1) (hl j q h2) e, fun k q h => hD.2 k q (hl k q h)⟩, ⟨fun i j p q h1 h2 e => ?_, fun k q h => hD.2 _ q (hr k q h)⟩, fun i j p q h1 h2 e => ?_⟩
  · have := hD.1 _ _ p q (hr i p h1) (hr j q h2) e
    omega
  · have h3 := hD.1 _ _ p q (hl i p h1) (hr j q h2) e
    have h4 := (List.getElem?_eq_some_iff.mp h1).1
    omega
theorem sl_joinX {D : va_G} {cl : List vw_C} {A : Nat → Prop} {X X' M : va_W} {H H1 : Heap} (hP : va_P D cl (X ++ M) H) (hD : va_D A (X ++ M)) (hF : ∀ q, va_A X H.size q → A q) (hk : ∀ q : Nat, q < H.size → ¬ va_A X H.size q → H1[q]? = H[q]?) (hP1 : va_P D cl X' H1) (hD1 : va_D (va_A X H.size) X') : va_P D cl (X' ++ M) H1 ∧ va_D A (X' ++ M) := by
  obtain ⟨hPX, hPM, hDX, hDM, hap⟩ := sl_split hP hD
  have ap : ∀ (k : Nat) (q : Nat × va_E), M[k]? = some q → q.1 < H.size ∧ ¬ va_A X H.size q.1 := by
    intro k q hq
    have hl := (hPM k q hq).lt
    refine ⟨hl, fun h => ?_⟩
    rcases h with ⟨k2, e, h⟩ | h
    · exact hap k2 k _ q h hq rfl
    · omega
  refine ⟨va_P.app hP1 (fun k q hq => ?_), va_D.app (hD1.weaken (fun k q _ h => hF q.1 h)) hDM (fun i j x y hx hy hxy => ?_)⟩
  · exact (hPM k q hq).kept (hk q.1 (ap k q hq).1 (ap k q hq).2)
  · exact (ap j y hy).2 (by rw [← hxy]; exact hD1.2 i x hx)
theorem sl_joinM {D : va_G} {cl : List vw_C} {A : Nat → Prop} {X M M' : va_W} {H H1 : Heap} (hP : va_P D cl (X ++ M) H) (hD : va_D A (X ++ M)) (hF : ∀ q, va_A M H.size q → A q) (hk : ∀ q : Nat, q < H.size → ¬ va_A M H.size q → H1[q]? = H[q]?) (hP1 : va_P D cl M' H1) (hD1 : va_D (va_A M H.size) M') : va_P D cl (X ++ M') H1 ∧ va_D A (X ++ M') := by
  obtain ⟨hPX, hPM, hDX, hDM, hap⟩ := sl_split hP hD
  have ap : ∀ (k : Nat) (q : Nat × va_E), X[k]? = some q → q.1 < H.size ∧ ¬ va_A M H.size q.1 := by
    intro k q hq
    have hl := (hPX k q hq).lt
    refine ⟨hl, fun h => ?_⟩
    rcases h with ⟨k2, e, h⟩ | h
    · exact hap k k2 q _ hq h rfl
    · omega
  refine ⟨va_P.app (fun k q hq => ?_) hP1, va_D.app hDX (hD1.weaken (fun k q _ h => hF q.1 h)) (fun i j x y hx hy hxy => ?_)⟩
  · exact (hPX k q hq).kept (hk q.1 (ap k q hq).1 (ap k q hq).2)
  · exact (ap i x hx).2 (by rw [hxy]; exact hD1.2 j y hy)
def sl_J (l : Launch) (D : va_G) (cy : sn_cy) (ax am : Nat → Nat) (b L : Nat) (xs : Nat → Int32) (LJ : sq_S → sq_S → sq_K) : Prop :=
  ∃ (p : Program) (e : Env) (s : State) (m : MethodId) (args : Array Value) (below : List Frame) (meth : Method) (c : Code) (cells slots : Nat) (Q : State → Prop), p.tables.exec = Jvm.exec ∧ c.code = cL_law ∧ c.maxLocals = 4 ∧ s.vm.findClass RL = some m.cls ∧ (∀ w ∈ wsL_law, w.before args s = true) ∧ va_K D vwCl (sn_ty D cy) s ∧ cells ≤ room_1.cells ∧ slots ≤ room_1.slots ∧ va_X b L xs s s.heap ∧ b < s.heap.size ∧ LJ = fun sx sm => sq_j p l e room_1 s m args below meth c (D, cy, ax) (fun _ _ => sq_X (D, cy, ax) sx ++ sq_M (D, cy, am) sm) (fun q => s.heap.size ≤ q) 4 cells slots Q
section SLR
variable {l : Launch} {D : va_G} {cy : sn_cy} {ax am : Nat → Nat} {b L : Nat} {xs : Nat → Int32} {LJ : sq_S → sq_S → sq_K} {sx sm z : sq_S} {pc : Nat} {lv : List (Nat × Value)} {stk : List Value}
theorem sl_S (S : sl_J l D cy ax am b L xs LJ) (sx sm : sq_S) : sq_J l room_1 cL_law 4 RL wsL_law (D, cy, ax) (fun _ _ => sq_X (D, cy, ax) sx ++ sq_M (D, cy, am) sm) (LJ sx sm) := by
  obtain ⟨p, e, s, m, args, below, meth, c, cells, slots, Q, hx, hb, hml, hown, hts, hK, hc1, hc2, hX, hbl, rfl⟩ := S
  exact ⟨p, e, s, m, args, below, meth, c, _, cells, slots, Q, hx, hb, hml, hown, hts, hK, fun _ h => h, hc1, hc2, rfl⟩
theorem sl_ald (S : sl_J l D cy ax am b L xs LJ) {i : Int} (hL : L < 2147483648) (hi : sq_ib i L) (hd : decode cL_law pc = .ok (.iaload, 1)) (kk : LJ sx sm (pc + 1) lv (.int (sq_z (xs i.toNat).toInt) :: stk) z) : LJ sx sm pc lv (.int (sq_z i) :: .ref b :: stk) z := by
  obtain ⟨p, e, s, m, args, below, meth, c, cells, slots, Q, hx, hb, hml, hown, hts, hK, hc1, hc2, hX, hbl, rfl⟩ := S
  intro H locs ls h1 h2 h3 h4
  have k1 := kk H locs ls h1 h2 h3 h4
  rw [sq_zq, ← sq_zc hL hi] at k1
  exact va_sld hx hb hX hbl (Nat.not_le.mpr hbl) h4 (sq_zin hL hi) hd k1
theorem sl_len (S : sl_J l D cy ax am b L xs LJ) (hd : decode cL_law pc = .ok (.arraylength, 1)) (kk : LJ sx sm (pc + 1) lv (.int (sq_z (L : Int)) :: stk) z) : LJ sx sm pc lv (.ref b :: stk) z := by
  obtain ⟨p, e, s, m, args, below, meth, c, cells, slots, Q, hx, hb, hml, hown, hts, hK, hc1, hc2, hX, hbl, rfl⟩ := S
  intro H locs ls h1 h2 h3 h4
  have k1 := kk H locs ls h1 h2 h3 h4
  rw [sq_zn] at k1
  exact va_slen hx hb hX hbl (Nat.not_le.mpr hbl) h4 hd k1

theorem sl_vx (S : sl_J l D cy ax am b L xs LJ) {y : MethodName} {ws : List Cond} {rm : Room} {bytes : ByteArray} {maxL n ix : Nat} {ret : Option FieldType} {As rest : List Value} {Qc : Int → sq_S → Prop} (ct : sq_Ci l y ws rm (D, cy, ax) sq_X (.ref (ax 0) :: As) sx Qc) (cw : ∀ (s : State) (args : Array Value), (∀ w ∈ wsL_law, w.before args s = true) → CallW room_1 s args RL RX3 ix y bytes maxL ret ws rm 0 0 n) (hn : As.length = n) (hs : stk = As.reverse ++ .ref (ax 0) :: rest) (hw : (rest.map fun v => v.category).sum ≤ 8) (hd : decode cL_law pc = .ok (.invokevirtual ix, 3)) (kk : ∀ (r : Int) (st' : sq_S), Qc r st' → LJ st' sm (pc + 3) lv (.int (sq_z r) :: rest) z) : LJ sx sm pc lv stk z := by
  obtain ⟨p, e, s, m, args, below, meth, c, cells, slots, Q, hx, hb, hml, hown, hts, hK, hc1, hc2, hX, hbl, rfl⟩ := S
  intro H locs ls h1 h2 h3 h4
  have h2 : va_P D vwCl (sq_X (D, cy, ax) sx ++ sq_M (D, cy, am) sm) H := h2
  obtain ⟨hPX, hPM, hDX, hDM, hap⟩ := sl_split h2 h3
  have hFc : ∀ q, va_A (sq_X (D, cy, ax) sx) H.size q → s.heap.size ≤ q := by
    intro q h
    rcases h with ⟨k, e, h⟩ | h
    · exact hDX.2 k (q, e) h
    · exact Nat.le_trans h4.1 h
  refine va_calli (va_runV (As := As) (rest := rest) ⟨hx, hb, hml, hown, hts⟩ (ct H.size) (cw s args hts) ⟨sq_blind (D, cy, ax) sq_X _ sx H.size, va_recv (ci := 3) (q0 := 0) hK hPX rfl rfl, fun U hU hW => ⟨rfl, by rw [hU], by rw [hU]; exact hPX, va_K.moved hW.alike hK, hDX.weaken (fun _ _ _ _ => trivial)⟩⟩ rfl hn h1.1 hs (lv_room hw) hd ⟨hc1, hc2⟩) h4 (fun q _ h => hFc q h) hFc (fun r u t H1 locs1 ht hvm hpost hB hz1 hk1 hS => ?_)
  obtain ⟨hr9, hq9⟩ := hpost
  obtain ⟨hP1, hK1, hD1⟩ := hB
  rw [ht] at hP1
  rw [hr9]
  obtain ⟨hP2, hD2⟩ := sl_joinX h2 h3 hFc hk1 hP1 hD1
  exact kk u.1 u.2 hq9 H1 locs1 ls h1 hP2 hD2 hS
theorem sl_vm (S : sl_J l D cy ax am b L xs LJ) {y : MethodName} {ws : List Cond} {rm : Room} {bytes : ByteArray} {maxL n ix : Nat} {ret : Option FieldType} {As rest : List Value} {Qc : Int → sq_S → Prop} (ct : sq_Ci l y ws rm (D, cy, am) sq_M (.ref (am 0) :: As) sm Qc) (cw : ∀ (s : State) (args : Array Value), (∀ w ∈ wsL_law, w.before args s = true) → CallW room_1 s args RL RX4 ix y bytes maxL ret ws rm 0 0 n) (hn : As.length = n) (hs : stk = As.reverse ++ .ref (am 0) :: rest) (hw : (rest.map fun v => v.category).sum ≤ 8) (hd : decode cL_law pc = .ok (.invokevirtual ix, 3)) (kk : ∀ (r : Int) (st' : sq_S), Qc r st' → LJ sx st' (pc + 3) lv (.int (sq_z r) :: rest) z) : LJ sx sm pc lv stk z := by
  obtain ⟨p, e, s, m, args, below, meth, c, cells, slots, Q, hx, hb, hml, hown, hts, hK, hc1, hc2, hX, hbl, rfl⟩ := S
  intro H locs ls h1 h2 h3 h4
  have h2 : va_P D vwCl (sq_X (D, cy, ax) sx ++ sq_M (D, cy, am) sm) H := h2
  obtain ⟨hPX, hPM, hDX, hDM, hap⟩ := sl_split h2 h3
  have hFc : ∀ q, va_A (sq_M (D, cy, am) sm) H.size q → s.heap.size ≤ q := by
    intro q h
    rcases h with ⟨k, e, h⟩ | h
    · exact hDM.2 k (q, e) h
    · exact Nat.le_trans h4.1 h
  refine va_calli (va_runV (As := As) (rest := rest) ⟨hx, hb, hml, hown, hts⟩ (ct H.size) (cw s args hts) ⟨sq_blind (D, cy, am) sq_M _ sm H.size, va_recv (ci := 4) (q0 := 0) hK hPM rfl rfl, fun U hU hW => ⟨rfl, by rw [hU], by rw [hU]; exact hPM, va_K.moved hW.alike hK, hDM.weaken (fun _ _ _ _ => trivial)⟩⟩ rfl hn h1.1 hs (lv_room hw) hd ⟨hc1, hc2⟩) h4 (fun q _ h => hFc q h) hFc (fun r u t H1 locs1 ht hvm hpost hB hz1 hk1 hS => ?_)
  obtain ⟨hr9, hq9⟩ := hpost
  obtain ⟨hP1, hK1, hD1⟩ := hB
  rw [ht] at hP1
  rw [hr9]
  obtain ⟨hP2, hD2⟩ := sl_joinM h2 h3 hFc hk1 hP1 hD1
  exact kk u.1 u.2 hq9 H1 locs1 ls h1 hP2 hD2 hS
end SLR
theorem sl_rg (x : Int32) : sq_rg x.toInt := by
  have h1 := Int32.le_toInt x
  have h2 := Int32.toInt_lt x
  omega
set_option maxRecDepth 100000 in
set_option maxHeartbeats 4000000 in
theorem sl_c_say {l : Launch} {D : va_G} {cy : sn_cy} {ax am : Nat → Nat} {b L : Nat} {xs : Nat → Int32} {LJ : sq_S → sq_S → sq_K} {Rel : sq_S → sq_S → Prop} (S : sl_J l D cy ax am b L xs LJ) (ho : sl_o_say Rel) (hL3 : L < 2147483648) {i : Int} (hi0 : 0 ≤ i) (hi : i + 5 ≤ L) {sx sm z : sq_S} (hR : Rel sx sm) (next : ∀ sx1 sm1 : sq_S, Rel sx1 sm1 → LJ sx1 sm1 631 [(0, .ref b), (1, .ref (ax 0)), (2, .ref (am 0)), (3, .int (sq_z i))] [] z) : LJ sx sm 124 [(0, .ref b), (1, .ref (ax 0)), (2, .ref (am 0)), (3, .int (sq_z i))] [] z := by
  refine sj_aload_n (pl := 1) (sl_S S sx sm) dL_law_124 rfl rfl ?_
  refine sj_aload_n (pl := 0) (sl_S S sx sm) dL_law_125 rfl rfl ?_
  refine sj_iload_n (pl := 3) (sl_S S sx sm) dL_law_126 rfl rfl ?_
  refine sj_iconst (sl_S S sx sm) dL_law_127 ?_
  refine sj_iadd (sl_S S sx sm) dL_law_128 ?_
  refine sl_ald S hL3 (by omega) dL_law_129 ?_
  refine sl_vx (rest := []) S (kX3_say l (D, cy, ax) ((xs (i + 1).toNat).toInt) sx _ (ho sx sm ((xs (i + 1).toNat).toInt) hR (sl_rg _))) (fun s args hts => cwV 1 hts gL_law_X3_say rfl rfl rfl (by decide +kernel) ⟨Nat.le_of_ble_eq_true rfl, Nat.le_of_ble_eq_true rfl⟩) rfl rfl (Nat.le_of_ble_eq_true rfl) dL_law_130 (fun r1 sx1 H => ?_)
  refine sj_aload_n (pl := 2) (sl_S S sx1 sm) dL_law_133 rfl rfl ?_
  refine sj_aload_n (pl := 0) (sl_S S sx1 sm) dL_law_134 rfl rfl ?_
  refine sj_iload_n (pl := 3) (sl_S S sx1 sm) dL_law_135 rfl rfl ?_
  refine sj_iconst (sl_S S sx1 sm) dL_law_136 ?_
  refine sj_iadd (sl_S S sx1 sm) dL_law_137 ?_
  refine sl_ald S hL3 (by omega) dL_law_138 ?_
  refine sl_vm (rest := [.int (sq_z r1)]) S (kX4_say l (D, cy, am) ((xs (i + 1).toNat).toInt) sm _ H) (fun s args hts => cwV 1 hts gL_law_X4_say rfl rfl rfl (by decide +kernel) ⟨Nat.le_of_ble_eq_true rfl, Nat.le_of_ble_eq_true rfl⟩) rfl rfl (Nat.le_of_ble_eq_true rfl) dL_law_139 (fun r2 sm1 H => ?_)
  obtain ⟨e12, hr1, hR⟩ := H
  subst e12
  refine sj_icmp_eq (tgt := 631) (sl_S S sx1 sm1) ⟨hr1, hr1⟩ dL_law_142 (by decide) (fun _ => ?_) (fun c9 => absurd rfl c9)
  exact next sx1 sm1 hR
set_option maxRecDepth 100000 in
set_option maxHeartbeats 4000000 in
theorem sl_c_wipe {l : Launch} {D : va_G} {cy : sn_cy} {ax am : Nat → Nat} {b L : Nat} {xs : Nat → Int32} {LJ : sq_S → sq_S → sq_K} {Rel : sq_S → sq_S → Prop} (S : sl_J l D cy ax am b L xs LJ) (ho : sl_o_wipe Rel) (hL3 : L < 2147483648) {i : Int} (hi0 : 0 ≤ i) (hi : i + 5 ≤ L) {sx sm z : sq_S} (hR : Rel sx sm) (next : ∀ sx1 sm1 : sq_S, Rel sx1 sm1 → LJ sx1 sm1 631 [(0, .ref b), (1, .ref (ax 0)), (2, .ref (am 0)), (3, .int (sq_z i))] [] z) : LJ sx sm 147 [(0, .ref b), (1, .ref (ax 0)), (2, .ref (am 0)), (3, .int (sq_z i))] [] z := by
  refine sj_aload_n (pl := 1) (sl_S S sx sm) dL_law_147 rfl rfl ?_
  refine sl_vx (rest := []) S (kX3_wipe l (D, cy, ax)  sx _ (ho sx sm  hR )) (fun s args hts => cwV 0 hts gL_law_X3_wipe rfl rfl rfl (by decide +kernel) ⟨Nat.le_of_ble_eq_true rfl, Nat.le_of_ble_eq_true rfl⟩) rfl rfl (Nat.le_of_ble_eq_true rfl) dL_law_148 (fun r1 sx1 H => ?_)
  refine sj_aload_n (pl := 2) (sl_S S sx1 sm) dL_law_151 rfl rfl ?_
  refine sl_vm (rest := [.int (sq_z r1)]) S (kX4_wipe l (D, cy, am)  sm _ H) (fun s args hts => cwV 0 hts gL_law_X4_wipe rfl rfl rfl (by decide +kernel) ⟨Nat.le_of_ble_eq_true rfl, Nat.le_of_ble_eq_true rfl⟩) rfl rfl (Nat.le_of_ble_eq_true rfl) dL_law_152 (fun r2 sm1 H => ?_)
  obtain ⟨e12, hr1, hR⟩ := H
  subst e12
  refine sj_icmp_eq (tgt := 631) (sl_S S sx1 sm1) ⟨hr1, hr1⟩ dL_law_155 (by decide) (fun _ => ?_) (fun c9 => absurd rfl c9)
  exact next sx1 sm1 hR
set_option maxRecDepth 100000 in
set_option maxHeartbeats 4000000 in
theorem sl_c_take {l : Launch} {D : va_G} {cy : sn_cy} {ax am : Nat → Nat} {b L : Nat} {xs : Nat → Int32} {LJ : sq_S → sq_S → sq_K} {Rel : sq_S → sq_S → Prop} (S : sl_J l D cy ax am b L xs LJ) (ho : sl_o_take Rel) (hL3 : L < 2147483648) {i : Int} (hi0 : 0 ≤ i) (hi : i + 5 ≤ L) {sx sm z : sq_S} (hR : Rel sx sm) (next : ∀ sx1 sm1 : sq_S, Rel sx1 sm1 → LJ sx1 sm1 631 [(0, .ref b), (1, .ref (ax 0)), (2, .ref (am 0)), (3, .int (sq_z i))] [] z) : LJ sx sm 160 [(0, .ref b), (1, .ref (ax 0)), (2, .ref (am 0)), (3, .int (sq_z i))] [] z := by
  refine sj_aload_n (pl := 1) (sl_S S sx sm) dL_law_160 rfl rfl ?_
  refine sj_aload_n (pl := 0) (sl_S S sx sm) dL_law_161 rfl rfl ?_
  refine sj_iload_n (pl := 3) (sl_S S sx sm) dL_law_162 rfl rfl ?_
  refine sj_iconst (sl_S S sx sm) dL_law_163 ?_
  refine sj_iadd (sl_S S sx sm) dL_law_164 ?_
  refine sl_ald S hL3 (by omega) dL_law_165 ?_
  refine sl_vx (rest := []) S (kX3_take l (D, cy, ax) ((xs (i + 1).toNat).toInt) sx _ (ho sx sm ((xs (i + 1).toNat).toInt) hR (sl_rg _))) (fun s args hts => cwV 1 hts gL_law_X3_take rfl rfl rfl (by decide +kernel) ⟨Nat.le_of_ble_eq_true rfl, Nat.le_of_ble_eq_true rfl⟩) rfl rfl (Nat.le_of_ble_eq_true rfl) dL_law_166 (fun r1 sx1 H => ?_)
  refine sj_aload_n (pl := 2) (sl_S S sx1 sm) dL_law_169 rfl rfl ?_
  refine sj_aload_n (pl := 0) (sl_S S sx1 sm) dL_law_170 rfl rfl ?_
  refine sj_iload_n (pl := 3) (sl_S S sx1 sm) dL_law_171 rfl rfl ?_
  refine sj_iconst (sl_S S sx1 sm) dL_law_172 ?_
  refine sj_iadd (sl_S S sx1 sm) dL_law_173 ?_
  refine sl_ald S hL3 (by omega) dL_law_174 ?_
  refine sl_vm (rest := [.int (sq_z r1)]) S (kX4_take l (D, cy, am) ((xs (i + 1).toNat).toInt) sm _ H) (fun s args hts => cwV 1 hts gL_law_X4_take rfl rfl rfl (by decide +kernel) ⟨Nat.le_of_ble_eq_true rfl, Nat.le_of_ble_eq_true rfl⟩) rfl rfl (Nat.le_of_ble_eq_true rfl) dL_law_175 (fun r2 sm1 H => ?_)
  obtain ⟨e12, hr1, hR⟩ := H
  subst e12
  refine sj_icmp_eq (tgt := 631) (sl_S S sx1 sm1) ⟨hr1, hr1⟩ dL_law_178 (by decide) (fun _ => ?_) (fun c9 => absurd rfl c9)
  exact next sx1 sm1 hR
set_option maxRecDepth 100000 in
set_option maxHeartbeats 4000000 in
theorem sl_c_worth {l : Launch} {D : va_G} {cy : sn_cy} {ax am : Nat → Nat} {b L : Nat} {xs : Nat → Int32} {LJ : sq_S → sq_S → sq_K} {Rel : sq_S → sq_S → Prop} (S : sl_J l D cy ax am b L xs LJ) (ho : sl_o_worth Rel) (hL3 : L < 2147483648) {i : Int} (hi0 : 0 ≤ i) (hi : i + 5 ≤ L) {sx sm z : sq_S} (hR : Rel sx sm) (next : ∀ sx1 sm1 : sq_S, Rel sx1 sm1 → LJ sx1 sm1 631 [(0, .ref b), (1, .ref (ax 0)), (2, .ref (am 0)), (3, .int (sq_z i))] [] z) : LJ sx sm 183 [(0, .ref b), (1, .ref (ax 0)), (2, .ref (am 0)), (3, .int (sq_z i))] [] z := by
  refine sj_aload_n (pl := 1) (sl_S S sx sm) dL_law_183 rfl rfl ?_
  refine sj_aload_n (pl := 0) (sl_S S sx sm) dL_law_184 rfl rfl ?_
  refine sj_iload_n (pl := 3) (sl_S S sx sm) dL_law_185 rfl rfl ?_
  refine sj_iconst (sl_S S sx sm) dL_law_186 ?_
  refine sj_iadd (sl_S S sx sm) dL_law_187 ?_
  refine sl_ald S hL3 (by omega) dL_law_188 ?_
  refine sj_aload_n (pl := 0) (sl_S S sx sm) dL_law_189 rfl rfl ?_
  refine sj_iload_n (pl := 3) (sl_S S sx sm) dL_law_190 rfl rfl ?_
  refine sj_iconst (sl_S S sx sm) dL_law_191 ?_
  refine sj_iadd (sl_S S sx sm) dL_law_192 ?_
  refine sl_ald S hL3 (by omega) dL_law_193 ?_
  refine sl_vx (rest := []) S (kX3_worth l (D, cy, ax) ((xs (i + 1).toNat).toInt) ((xs (i + 2).toNat).toInt) sx _ (ho sx sm ((xs (i + 1).toNat).toInt) ((xs (i + 2).toNat).toInt) hR (sl_rg _) (sl_rg _))) (fun s args hts => cwV 2 hts gL_law_X3_worth rfl rfl rfl (by decide +kernel) ⟨Nat.le_of_ble_eq_true rfl, Nat.le_of_ble_eq_true rfl⟩) rfl rfl (Nat.le_of_ble_eq_true rfl) dL_law_194 (fun r1 sx1 H => ?_)
  refine sj_aload_n (pl := 2) (sl_S S sx1 sm) dL_law_197 rfl rfl ?_
  refine sj_aload_n (pl := 0) (sl_S S sx1 sm) dL_law_198 rfl rfl ?_
  refine sj_iload_n (pl := 3) (sl_S S sx1 sm) dL_law_199 rfl rfl ?_
  refine sj_iconst (sl_S S sx1 sm) dL_law_200 ?_
  refine sj_iadd (sl_S S sx1 sm) dL_law_201 ?_
  refine sl_ald S hL3 (by omega) dL_law_202 ?_
  refine sj_aload_n (pl := 0) (sl_S S sx1 sm) dL_law_203 rfl rfl ?_
  refine sj_iload_n (pl := 3) (sl_S S sx1 sm) dL_law_204 rfl rfl ?_
  refine sj_iconst (sl_S S sx1 sm) dL_law_205 ?_
  refine sj_iadd (sl_S S sx1 sm) dL_law_206 ?_
  refine sl_ald S hL3 (by omega) dL_law_207 ?_
  refine sl_vm (rest := [.int (sq_z r1)]) S (kX4_worth l (D, cy, am) ((xs (i + 1).toNat).toInt) ((xs (i + 2).toNat).toInt) sm _ H) (fun s args hts => cwV 2 hts gL_law_X4_worth rfl rfl rfl (by decide +kernel) ⟨Nat.le_of_ble_eq_true rfl, Nat.le_of_ble_eq_true rfl⟩) rfl rfl (Nat.le_of_ble_eq_true rfl) dL_law_208 (fun r2 sm1 H => ?_)
  obtain ⟨e12, hr1, hR⟩ := H
  subst e12
  refine sj_icmp_eq (tgt := 631) (sl_S S sx1 sm1) ⟨hr1, hr1⟩ dL_law_211 (by decide) (fun _ => ?_) (fun c9 => absurd rfl c9)
  exact next sx1 sm1 hR
set_option maxRecDepth 100000 in
set_option maxHeartbeats 4000000 in
theorem sl_c_like {l : Launch} {D : va_G} {cy : sn_cy} {ax am : Nat → Nat} {b L : Nat} {xs : Nat → Int32} {LJ : sq_S → sq_S → sq_K} {Rel : sq_S → sq_S → Prop} (S : sl_J l D cy ax am b L xs LJ) (ho : sl_o_like Rel) (hL3 : L < 2147483648) {i : Int} (hi0 : 0 ≤ i) (hi : i + 5 ≤ L) {sx sm z : sq_S} (hR : Rel sx sm) (next : ∀ sx1 sm1 : sq_S, Rel sx1 sm1 → LJ sx1 sm1 631 [(0, .ref b), (1, .ref (ax 0)), (2, .ref (am 0)), (3, .int (sq_z i))] [] z) : LJ sx sm 216 [(0, .ref b), (1, .ref (ax 0)), (2, .ref (am 0)), (3, .int (sq_z i))] [] z := by
  refine sj_aload_n (pl := 1) (sl_S S sx sm) dL_law_216 rfl rfl ?_
  refine sj_aload_n (pl := 0) (sl_S S sx sm) dL_law_217 rfl rfl ?_
  refine sj_iload_n (pl := 3) (sl_S S sx sm) dL_law_218 rfl rfl ?_
  refine sj_iconst (sl_S S sx sm) dL_law_219 ?_
  refine sj_iadd (sl_S S sx sm) dL_law_220 ?_
  refine sl_ald S hL3 (by omega) dL_law_221 ?_
  refine sj_aload_n (pl := 0) (sl_S S sx sm) dL_law_222 rfl rfl ?_
  refine sj_iload_n (pl := 3) (sl_S S sx sm) dL_law_223 rfl rfl ?_
  refine sj_iconst (sl_S S sx sm) dL_law_224 ?_
  refine sj_iadd (sl_S S sx sm) dL_law_225 ?_
  refine sl_ald S hL3 (by omega) dL_law_226 ?_
  refine sj_aload_n (pl := 0) (sl_S S sx sm) dL_law_227 rfl rfl ?_
  refine sj_iload_n (pl := 3) (sl_S S sx sm) dL_law_228 rfl rfl ?_
  refine sj_iconst (sl_S S sx sm) dL_law_229 ?_
  refine sj_iadd (sl_S S sx sm) dL_law_230 ?_
  refine sl_ald S hL3 (by omega) dL_law_231 ?_
  refine sl_vx (rest := []) S (kX3_like l (D, cy, ax) ((xs (i + 1).toNat).toInt) ((xs (i + 2).toNat).toInt) ((xs (i + 3).toNat).toInt) sx _ (ho sx sm ((xs (i + 1).toNat).toInt) ((xs (i + 2).toNat).toInt) ((xs (i + 3).toNat).toInt) hR (sl_rg _) (sl_rg _) (sl_rg _))) (fun s args hts => cwV 3 hts gL_law_X3_like rfl rfl rfl (by decide +kernel) ⟨Nat.le_of_ble_eq_true rfl, Nat.le_of_ble_eq_true rfl⟩) rfl rfl (Nat.le_of_ble_eq_true rfl) dL_law_232 (fun r1 sx1 H => ?_)
  refine sj_aload_n (pl := 2) (sl_S S sx1 sm) dL_law_235 rfl rfl ?_
  refine sj_aload_n (pl := 0) (sl_S S sx1 sm) dL_law_236 rfl rfl ?_
  refine sj_iload_n (pl := 3) (sl_S S sx1 sm) dL_law_237 rfl rfl ?_
  refine sj_iconst (sl_S S sx1 sm) dL_law_238 ?_
  refine sj_iadd (sl_S S sx1 sm) dL_law_239 ?_
  refine sl_ald S hL3 (by omega) dL_law_240 ?_
  refine sj_aload_n (pl := 0) (sl_S S sx1 sm) dL_law_241 rfl rfl ?_
  refine sj_iload_n (pl := 3) (sl_S S sx1 sm) dL_law_242 rfl rfl ?_
  refine sj_iconst (sl_S S sx1 sm) dL_law_243 ?_
  refine sj_iadd (sl_S S sx1 sm) dL_law_244 ?_
  refine sl_ald S hL3 (by omega) dL_law_245 ?_
  refine sj_aload_n (pl := 0) (sl_S S sx1 sm) dL_law_246 rfl rfl ?_
  refine sj_iload_n (pl := 3) (sl_S S sx1 sm) dL_law_247 rfl rfl ?_
  refine sj_iconst (sl_S S sx1 sm) dL_law_248 ?_
  refine sj_iadd (sl_S S sx1 sm) dL_law_249 ?_
  refine sl_ald S hL3 (by omega) dL_law_250 ?_
  refine sl_vm (rest := [.int (sq_z r1)]) S (kX4_like l (D, cy, am) ((xs (i + 1).toNat).toInt) ((xs (i + 2).toNat).toInt) ((xs (i + 3).toNat).toInt) sm _ H) (fun s args hts => cwV 3 hts gL_law_X4_like rfl rfl rfl (by decide +kernel) ⟨Nat.le_of_ble_eq_true rfl, Nat.le_of_ble_eq_true rfl⟩) rfl rfl (Nat.le_of_ble_eq_true rfl) dL_law_251 (fun r2 sm1 H => ?_)
  obtain ⟨e12, hr1, hR⟩ := H
  subst e12
  refine sj_icmp_eq (tgt := 631) (sl_S S sx1 sm1) ⟨hr1, hr1⟩ dL_law_254 (by decide) (fun _ => ?_) (fun c9 => absurd rfl c9)
  exact next sx1 sm1 hR
set_option maxRecDepth 100000 in
set_option maxHeartbeats 4000000 in
theorem sl_c_letter {l : Launch} {D : va_G} {cy : sn_cy} {ax am : Nat → Nat} {b L : Nat} {xs : Nat → Int32} {LJ : sq_S → sq_S → sq_K} {Rel : sq_S → sq_S → Prop} (S : sl_J l D cy ax am b L xs LJ) (ho : sl_o_letter Rel) (hL3 : L < 2147483648) {i : Int} (hi0 : 0 ≤ i) (hi : i + 5 ≤ L) {sx sm z : sq_S} (hR : Rel sx sm) (next : ∀ sx1 sm1 : sq_S, Rel sx1 sm1 → LJ sx1 sm1 631 [(0, .ref b), (1, .ref (ax 0)), (2, .ref (am 0)), (3, .int (sq_z i))] [] z) : LJ sx sm 259 [(0, .ref b), (1, .ref (ax 0)), (2, .ref (am 0)), (3, .int (sq_z i))] [] z := by
  refine sj_aload_n (pl := 1) (sl_S S sx sm) dL_law_259 rfl rfl ?_
  refine sj_aload_n (pl := 0) (sl_S S sx sm) dL_law_260 rfl rfl ?_
  refine sj_iload_n (pl := 3) (sl_S S sx sm) dL_law_261 rfl rfl ?_
  refine sj_iconst (sl_S S sx sm) dL_law_262 ?_
  refine sj_iadd (sl_S S sx sm) dL_law_263 ?_
  refine sl_ald S hL3 (by omega) dL_law_264 ?_
  refine sj_aload_n (pl := 0) (sl_S S sx sm) dL_law_265 rfl rfl ?_
  refine sj_iload_n (pl := 3) (sl_S S sx sm) dL_law_266 rfl rfl ?_
  refine sj_iconst (sl_S S sx sm) dL_law_267 ?_
  refine sj_iadd (sl_S S sx sm) dL_law_268 ?_
  refine sl_ald S hL3 (by omega) dL_law_269 ?_
  refine sl_vx (rest := []) S (kX3_letter l (D, cy, ax) ((xs (i + 1).toNat).toInt) ((xs (i + 2).toNat).toInt) sx _ (ho sx sm ((xs (i + 1).toNat).toInt) ((xs (i + 2).toNat).toInt) hR (sl_rg _) (sl_rg _))) (fun s args hts => cwV 2 hts gL_law_X3_letter rfl rfl rfl (by decide +kernel) ⟨Nat.le_of_ble_eq_true rfl, Nat.le_of_ble_eq_true rfl⟩) rfl rfl (Nat.le_of_ble_eq_true rfl) dL_law_270 (fun r1 sx1 H => ?_)
  refine sj_aload_n (pl := 2) (sl_S S sx1 sm) dL_law_273 rfl rfl ?_
  refine sj_aload_n (pl := 0) (sl_S S sx1 sm) dL_law_274 rfl rfl ?_
  refine sj_iload_n (pl := 3) (sl_S S sx1 sm) dL_law_275 rfl rfl ?_
  refine sj_iconst (sl_S S sx1 sm) dL_law_276 ?_
  refine sj_iadd (sl_S S sx1 sm) dL_law_277 ?_
  refine sl_ald S hL3 (by omega) dL_law_278 ?_
  refine sj_aload_n (pl := 0) (sl_S S sx1 sm) dL_law_279 rfl rfl ?_
  refine sj_iload_n (pl := 3) (sl_S S sx1 sm) dL_law_280 rfl rfl ?_
  refine sj_iconst (sl_S S sx1 sm) dL_law_281 ?_
  refine sj_iadd (sl_S S sx1 sm) dL_law_282 ?_
  refine sl_ald S hL3 (by omega) dL_law_283 ?_
  refine sl_vm (rest := [.int (sq_z r1)]) S (kX4_letter l (D, cy, am) ((xs (i + 1).toNat).toInt) ((xs (i + 2).toNat).toInt) sm _ H) (fun s args hts => cwV 2 hts gL_law_X4_letter rfl rfl rfl (by decide +kernel) ⟨Nat.le_of_ble_eq_true rfl, Nat.le_of_ble_eq_true rfl⟩) rfl rfl (Nat.le_of_ble_eq_true rfl) dL_law_284 (fun r2 sm1 H => ?_)
  obtain ⟨e12, hr1, hR⟩ := H
  subst e12
  refine sj_icmp_eq (tgt := 631) (sl_S S sx1 sm1) ⟨hr1, hr1⟩ dL_law_287 (by decide) (fun _ => ?_) (fun c9 => absurd rfl c9)
  exact next sx1 sm1 hR
set_option maxRecDepth 100000 in
set_option maxHeartbeats 4000000 in
theorem sl_c_hide {l : Launch} {D : va_G} {cy : sn_cy} {ax am : Nat → Nat} {b L : Nat} {xs : Nat → Int32} {LJ : sq_S → sq_S → sq_K} {Rel : sq_S → sq_S → Prop} (S : sl_J l D cy ax am b L xs LJ) (ho : sl_o_hide Rel) (hL3 : L < 2147483648) {i : Int} (hi0 : 0 ≤ i) (hi : i + 5 ≤ L) {sx sm z : sq_S} (hR : Rel sx sm) (next : ∀ sx1 sm1 : sq_S, Rel sx1 sm1 → LJ sx1 sm1 631 [(0, .ref b), (1, .ref (ax 0)), (2, .ref (am 0)), (3, .int (sq_z i))] [] z) : LJ sx sm 292 [(0, .ref b), (1, .ref (ax 0)), (2, .ref (am 0)), (3, .int (sq_z i))] [] z := by
  refine sj_aload_n (pl := 1) (sl_S S sx sm) dL_law_292 rfl rfl ?_
  refine sj_aload_n (pl := 0) (sl_S S sx sm) dL_law_293 rfl rfl ?_
  refine sj_iload_n (pl := 3) (sl_S S sx sm) dL_law_294 rfl rfl ?_
  refine sj_iconst (sl_S S sx sm) dL_law_295 ?_
  refine sj_iadd (sl_S S sx sm) dL_law_296 ?_
  refine sl_ald S hL3 (by omega) dL_law_297 ?_
  refine sl_vx (rest := []) S (kX3_hide l (D, cy, ax) ((xs (i + 1).toNat).toInt) sx _ (ho sx sm ((xs (i + 1).toNat).toInt) hR (sl_rg _))) (fun s args hts => cwV 1 hts gL_law_X3_hide rfl rfl rfl (by decide +kernel) ⟨Nat.le_of_ble_eq_true rfl, Nat.le_of_ble_eq_true rfl⟩) rfl rfl (Nat.le_of_ble_eq_true rfl) dL_law_298 (fun r1 sx1 H => ?_)
  refine sj_aload_n (pl := 2) (sl_S S sx1 sm) dL_law_301 rfl rfl ?_
  refine sj_aload_n (pl := 0) (sl_S S sx1 sm) dL_law_302 rfl rfl ?_
  refine sj_iload_n (pl := 3) (sl_S S sx1 sm) dL_law_303 rfl rfl ?_
  refine sj_iconst (sl_S S sx1 sm) dL_law_304 ?_
  refine sj_iadd (sl_S S sx1 sm) dL_law_305 ?_
  refine sl_ald S hL3 (by omega) dL_law_306 ?_
  refine sl_vm (rest := [.int (sq_z r1)]) S (kX4_hide l (D, cy, am) ((xs (i + 1).toNat).toInt) sm _ H) (fun s args hts => cwV 1 hts gL_law_X4_hide rfl rfl rfl (by decide +kernel) ⟨Nat.le_of_ble_eq_true rfl, Nat.le_of_ble_eq_true rfl⟩) rfl rfl (Nat.le_of_ble_eq_true rfl) dL_law_307 (fun r2 sm1 H => ?_)
  obtain ⟨e12, hr1, hR⟩ := H
  subst e12
  refine sj_icmp_eq (tgt := 631) (sl_S S sx1 sm1) ⟨hr1, hr1⟩ dL_law_310 (by decide) (fun _ => ?_) (fun c9 => absurd rfl c9)
  exact next sx1 sm1 hR
set_option maxRecDepth 100000 in
set_option maxHeartbeats 4000000 in
theorem sl_c_find {l : Launch} {D : va_G} {cy : sn_cy} {ax am : Nat → Nat} {b L : Nat} {xs : Nat → Int32} {LJ : sq_S → sq_S → sq_K} {Rel : sq_S → sq_S → Prop} (S : sl_J l D cy ax am b L xs LJ) (ho : sl_o_find Rel) (hL3 : L < 2147483648) {i : Int} (hi0 : 0 ≤ i) (hi : i + 5 ≤ L) {sx sm z : sq_S} (hR : Rel sx sm) (next : ∀ sx1 sm1 : sq_S, Rel sx1 sm1 → LJ sx1 sm1 631 [(0, .ref b), (1, .ref (ax 0)), (2, .ref (am 0)), (3, .int (sq_z i))] [] z) : LJ sx sm 315 [(0, .ref b), (1, .ref (ax 0)), (2, .ref (am 0)), (3, .int (sq_z i))] [] z := by
  refine sj_aload_n (pl := 1) (sl_S S sx sm) dL_law_315 rfl rfl ?_
  refine sj_aload_n (pl := 0) (sl_S S sx sm) dL_law_316 rfl rfl ?_
  refine sj_iload_n (pl := 3) (sl_S S sx sm) dL_law_317 rfl rfl ?_
  refine sj_iconst (sl_S S sx sm) dL_law_318 ?_
  refine sj_iadd (sl_S S sx sm) dL_law_319 ?_
  refine sl_ald S hL3 (by omega) dL_law_320 ?_
  refine sl_vx (rest := []) S (kX3_find l (D, cy, ax) ((xs (i + 1).toNat).toInt) sx _ (ho sx sm ((xs (i + 1).toNat).toInt) hR (sl_rg _))) (fun s args hts => cwV 1 hts gL_law_X3_find rfl rfl rfl (by decide +kernel) ⟨Nat.le_of_ble_eq_true rfl, Nat.le_of_ble_eq_true rfl⟩) rfl rfl (Nat.le_of_ble_eq_true rfl) dL_law_321 (fun r1 sx1 H => ?_)
  refine sj_aload_n (pl := 2) (sl_S S sx1 sm) dL_law_324 rfl rfl ?_
  refine sj_aload_n (pl := 0) (sl_S S sx1 sm) dL_law_325 rfl rfl ?_
  refine sj_iload_n (pl := 3) (sl_S S sx1 sm) dL_law_326 rfl rfl ?_
  refine sj_iconst (sl_S S sx1 sm) dL_law_327 ?_
  refine sj_iadd (sl_S S sx1 sm) dL_law_328 ?_
  refine sl_ald S hL3 (by omega) dL_law_329 ?_
  refine sl_vm (rest := [.int (sq_z r1)]) S (kX4_find l (D, cy, am) ((xs (i + 1).toNat).toInt) sm _ H) (fun s args hts => cwV 1 hts gL_law_X4_find rfl rfl rfl (by decide +kernel) ⟨Nat.le_of_ble_eq_true rfl, Nat.le_of_ble_eq_true rfl⟩) rfl rfl (Nat.le_of_ble_eq_true rfl) dL_law_330 (fun r2 sm1 H => ?_)
  obtain ⟨e12, hr1, hR⟩ := H
  subst e12
  refine sj_icmp_eq (tgt := 631) (sl_S S sx1 sm1) ⟨hr1, hr1⟩ dL_law_333 (by decide) (fun _ => ?_) (fun c9 => absurd rfl c9)
  exact next sx1 sm1 hR
set_option maxRecDepth 100000 in
set_option maxHeartbeats 4000000 in
theorem sl_c_undo {l : Launch} {D : va_G} {cy : sn_cy} {ax am : Nat → Nat} {b L : Nat} {xs : Nat → Int32} {LJ : sq_S → sq_S → sq_K} {Rel : sq_S → sq_S → Prop} (S : sl_J l D cy ax am b L xs LJ) (ho : sl_o_undo Rel) (hL3 : L < 2147483648) {i : Int} (hi0 : 0 ≤ i) (hi : i + 5 ≤ L) {sx sm z : sq_S} (hR : Rel sx sm) (next : ∀ sx1 sm1 : sq_S, Rel sx1 sm1 → LJ sx1 sm1 631 [(0, .ref b), (1, .ref (ax 0)), (2, .ref (am 0)), (3, .int (sq_z i))] [] z) : LJ sx sm 338 [(0, .ref b), (1, .ref (ax 0)), (2, .ref (am 0)), (3, .int (sq_z i))] [] z := by
  refine sj_aload_n (pl := 1) (sl_S S sx sm) dL_law_338 rfl rfl ?_
  refine sl_vx (rest := []) S (kX3_undo l (D, cy, ax)  sx _ (ho sx sm  hR )) (fun s args hts => cwV 0 hts gL_law_X3_undo rfl rfl rfl (by decide +kernel) ⟨Nat.le_of_ble_eq_true rfl, Nat.le_of_ble_eq_true rfl⟩) rfl rfl (Nat.le_of_ble_eq_true rfl) dL_law_339 (fun r1 sx1 H => ?_)
  refine sj_aload_n (pl := 2) (sl_S S sx1 sm) dL_law_342 rfl rfl ?_
  refine sl_vm (rest := [.int (sq_z r1)]) S (kX4_undo l (D, cy, am)  sm _ H) (fun s args hts => cwV 0 hts gL_law_X4_undo rfl rfl rfl (by decide +kernel) ⟨Nat.le_of_ble_eq_true rfl, Nat.le_of_ble_eq_true rfl⟩) rfl rfl (Nat.le_of_ble_eq_true rfl) dL_law_343 (fun r2 sm1 H => ?_)
  obtain ⟨e12, hr1, hR⟩ := H
  subst e12
  refine sj_icmp_eq (tgt := 631) (sl_S S sx1 sm1) ⟨hr1, hr1⟩ dL_law_346 (by decide) (fun _ => ?_) (fun c9 => absurd rfl c9)
  exact next sx1 sm1 hR
set_option maxRecDepth 100000 in
set_option maxHeartbeats 4000000 in
theorem sl_c_times {l : Launch} {D : va_G} {cy : sn_cy} {ax am : Nat → Nat} {b L : Nat} {xs : Nat → Int32} {LJ : sq_S → sq_S → sq_K} {Rel : sq_S → sq_S → Prop} (S : sl_J l D cy ax am b L xs LJ) (ho : sl_o_times Rel) (hL3 : L < 2147483648) {i : Int} (hi0 : 0 ≤ i) (hi : i + 5 ≤ L) {sx sm z : sq_S} (hR : Rel sx sm) (next : ∀ sx1 sm1 : sq_S, Rel sx1 sm1 → LJ sx1 sm1 631 [(0, .ref b), (1, .ref (ax 0)), (2, .ref (am 0)), (3, .int (sq_z i))] [] z) : LJ sx sm 351 [(0, .ref b), (1, .ref (ax 0)), (2, .ref (am 0)), (3, .int (sq_z i))] [] z := by
  refine sj_aload_n (pl := 1) (sl_S S sx sm) dL_law_351 rfl rfl ?_
  refine sj_aload_n (pl := 0) (sl_S S sx sm) dL_law_352 rfl rfl ?_
  refine sj_iload_n (pl := 3) (sl_S S sx sm) dL_law_353 rfl rfl ?_
  refine sj_iconst (sl_S S sx sm) dL_law_354 ?_
  refine sj_iadd (sl_S S sx sm) dL_law_355 ?_
  refine sl_ald S hL3 (by omega) dL_law_356 ?_
  refine sl_vx (rest := []) S (kX3_times l (D, cy, ax) ((xs (i + 1).toNat).toInt) sx _ (ho sx sm ((xs (i + 1).toNat).toInt) hR (sl_rg _))) (fun s args hts => cwV 1 hts gL_law_X3_times rfl rfl rfl (by decide +kernel) ⟨Nat.le_of_ble_eq_true rfl, Nat.le_of_ble_eq_true rfl⟩) rfl rfl (Nat.le_of_ble_eq_true rfl) dL_law_357 (fun r1 sx1 H => ?_)
  refine sj_aload_n (pl := 2) (sl_S S sx1 sm) dL_law_360 rfl rfl ?_
  refine sj_aload_n (pl := 0) (sl_S S sx1 sm) dL_law_361 rfl rfl ?_
  refine sj_iload_n (pl := 3) (sl_S S sx1 sm) dL_law_362 rfl rfl ?_
  refine sj_iconst (sl_S S sx1 sm) dL_law_363 ?_
  refine sj_iadd (sl_S S sx1 sm) dL_law_364 ?_
  refine sl_ald S hL3 (by omega) dL_law_365 ?_
  refine sl_vm (rest := [.int (sq_z r1)]) S (kX4_times l (D, cy, am) ((xs (i + 1).toNat).toInt) sm _ H) (fun s args hts => cwV 1 hts gL_law_X4_times rfl rfl rfl (by decide +kernel) ⟨Nat.le_of_ble_eq_true rfl, Nat.le_of_ble_eq_true rfl⟩) rfl rfl (Nat.le_of_ble_eq_true rfl) dL_law_366 (fun r2 sm1 H => ?_)
  obtain ⟨e12, hr1, hR⟩ := H
  subst e12
  refine sj_icmp_eq (tgt := 631) (sl_S S sx1 sm1) ⟨hr1, hr1⟩ dL_law_369 (by decide) (fun _ => ?_) (fun c9 => absurd rfl c9)
  exact next sx1 sm1 hR
set_option maxRecDepth 100000 in
set_option maxHeartbeats 4000000 in
theorem sl_c_same {l : Launch} {D : va_G} {cy : sn_cy} {ax am : Nat → Nat} {b L : Nat} {xs : Nat → Int32} {LJ : sq_S → sq_S → sq_K} {Rel : sq_S → sq_S → Prop} (S : sl_J l D cy ax am b L xs LJ) (ho : sl_o_same Rel) (hL3 : L < 2147483648) {i : Int} (hi0 : 0 ≤ i) (hi : i + 5 ≤ L) {sx sm z : sq_S} (hR : Rel sx sm) (next : ∀ sx1 sm1 : sq_S, Rel sx1 sm1 → LJ sx1 sm1 631 [(0, .ref b), (1, .ref (ax 0)), (2, .ref (am 0)), (3, .int (sq_z i))] [] z) : LJ sx sm 374 [(0, .ref b), (1, .ref (ax 0)), (2, .ref (am 0)), (3, .int (sq_z i))] [] z := by
  refine sj_aload_n (pl := 1) (sl_S S sx sm) dL_law_374 rfl rfl ?_
  refine sj_aload_n (pl := 0) (sl_S S sx sm) dL_law_375 rfl rfl ?_
  refine sj_iload_n (pl := 3) (sl_S S sx sm) dL_law_376 rfl rfl ?_
  refine sj_iconst (sl_S S sx sm) dL_law_377 ?_
  refine sj_iadd (sl_S S sx sm) dL_law_378 ?_
  refine sl_ald S hL3 (by omega) dL_law_379 ?_
  refine sl_vx (rest := []) S (kX3_same l (D, cy, ax) ((xs (i + 1).toNat).toInt) sx _ (ho sx sm ((xs (i + 1).toNat).toInt) hR (sl_rg _))) (fun s args hts => cwV 1 hts gL_law_X3_same rfl rfl rfl (by decide +kernel) ⟨Nat.le_of_ble_eq_true rfl, Nat.le_of_ble_eq_true rfl⟩) rfl rfl (Nat.le_of_ble_eq_true rfl) dL_law_380 (fun r1 sx1 H => ?_)
  refine sj_aload_n (pl := 2) (sl_S S sx1 sm) dL_law_383 rfl rfl ?_
  refine sj_aload_n (pl := 0) (sl_S S sx1 sm) dL_law_384 rfl rfl ?_
  refine sj_iload_n (pl := 3) (sl_S S sx1 sm) dL_law_385 rfl rfl ?_
  refine sj_iconst (sl_S S sx1 sm) dL_law_386 ?_
  refine sj_iadd (sl_S S sx1 sm) dL_law_387 ?_
  refine sl_ald S hL3 (by omega) dL_law_388 ?_
  refine sl_vm (rest := [.int (sq_z r1)]) S (kX4_same l (D, cy, am) ((xs (i + 1).toNat).toInt) sm _ H) (fun s args hts => cwV 1 hts gL_law_X4_same rfl rfl rfl (by decide +kernel) ⟨Nat.le_of_ble_eq_true rfl, Nat.le_of_ble_eq_true rfl⟩) rfl rfl (Nat.le_of_ble_eq_true rfl) dL_law_389 (fun r2 sm1 H => ?_)
  obtain ⟨e12, hr1, hR⟩ := H
  subst e12
  refine sj_icmp_eq (tgt := 631) (sl_S S sx1 sm1) ⟨hr1, hr1⟩ dL_law_392 (by decide) (fun _ => ?_) (fun c9 => absurd rfl c9)
  exact next sx1 sm1 hR
set_option maxRecDepth 100000 in
set_option maxHeartbeats 4000000 in
theorem sl_c_length {l : Launch} {D : va_G} {cy : sn_cy} {ax am : Nat → Nat} {b L : Nat} {xs : Nat → Int32} {LJ : sq_S → sq_S → sq_K} {Rel : sq_S → sq_S → Prop} (S : sl_J l D cy ax am b L xs LJ) (ho : sl_o_length Rel) (hL3 : L < 2147483648) {i : Int} (hi0 : 0 ≤ i) (hi : i + 5 ≤ L) {sx sm z : sq_S} (hR : Rel sx sm) (next : ∀ sx1 sm1 : sq_S, Rel sx1 sm1 → LJ sx1 sm1 631 [(0, .ref b), (1, .ref (ax 0)), (2, .ref (am 0)), (3, .int (sq_z i))] [] z) : LJ sx sm 397 [(0, .ref b), (1, .ref (ax 0)), (2, .ref (am 0)), (3, .int (sq_z i))] [] z := by
  refine sj_aload_n (pl := 1) (sl_S S sx sm) dL_law_397 rfl rfl ?_
  refine sj_aload_n (pl := 0) (sl_S S sx sm) dL_law_398 rfl rfl ?_
  refine sj_iload_n (pl := 3) (sl_S S sx sm) dL_law_399 rfl rfl ?_
  refine sj_iconst (sl_S S sx sm) dL_law_400 ?_
  refine sj_iadd (sl_S S sx sm) dL_law_401 ?_
  refine sl_ald S hL3 (by omega) dL_law_402 ?_
  refine sl_vx (rest := []) S (kX3_length l (D, cy, ax) ((xs (i + 1).toNat).toInt) sx _ (ho sx sm ((xs (i + 1).toNat).toInt) hR (sl_rg _))) (fun s args hts => cwV 1 hts gL_law_X3_length rfl rfl rfl (by decide +kernel) ⟨Nat.le_of_ble_eq_true rfl, Nat.le_of_ble_eq_true rfl⟩) rfl rfl (Nat.le_of_ble_eq_true rfl) dL_law_403 (fun r1 sx1 H => ?_)
  refine sj_aload_n (pl := 2) (sl_S S sx1 sm) dL_law_406 rfl rfl ?_
  refine sj_aload_n (pl := 0) (sl_S S sx1 sm) dL_law_407 rfl rfl ?_
  refine sj_iload_n (pl := 3) (sl_S S sx1 sm) dL_law_408 rfl rfl ?_
  refine sj_iconst (sl_S S sx1 sm) dL_law_409 ?_
  refine sj_iadd (sl_S S sx1 sm) dL_law_410 ?_
  refine sl_ald S hL3 (by omega) dL_law_411 ?_
  refine sl_vm (rest := [.int (sq_z r1)]) S (kX4_length l (D, cy, am) ((xs (i + 1).toNat).toInt) sm _ H) (fun s args hts => cwV 1 hts gL_law_X4_length rfl rfl rfl (by decide +kernel) ⟨Nat.le_of_ble_eq_true rfl, Nat.le_of_ble_eq_true rfl⟩) rfl rfl (Nat.le_of_ble_eq_true rfl) dL_law_412 (fun r2 sm1 H => ?_)
  obtain ⟨e12, hr1, hR⟩ := H
  subst e12
  refine sj_icmp_eq (tgt := 631) (sl_S S sx1 sm1) ⟨hr1, hr1⟩ dL_law_415 (by decide) (fun _ => ?_) (fun c9 => absurd rfl c9)
  exact next sx1 sm1 hR
set_option maxRecDepth 100000 in
set_option maxHeartbeats 4000000 in
theorem sl_c_shift {l : Launch} {D : va_G} {cy : sn_cy} {ax am : Nat → Nat} {b L : Nat} {xs : Nat → Int32} {LJ : sq_S → sq_S → sq_K} {Rel : sq_S → sq_S → Prop} (S : sl_J l D cy ax am b L xs LJ) (ho : sl_o_shift Rel) (hL3 : L < 2147483648) {i : Int} (hi0 : 0 ≤ i) (hi : i + 5 ≤ L) {sx sm z : sq_S} (hR : Rel sx sm) (next : ∀ sx1 sm1 : sq_S, Rel sx1 sm1 → LJ sx1 sm1 631 [(0, .ref b), (1, .ref (ax 0)), (2, .ref (am 0)), (3, .int (sq_z i))] [] z) : LJ sx sm 420 [(0, .ref b), (1, .ref (ax 0)), (2, .ref (am 0)), (3, .int (sq_z i))] [] z := by
  refine sj_aload_n (pl := 1) (sl_S S sx sm) dL_law_420 rfl rfl ?_
  refine sj_aload_n (pl := 0) (sl_S S sx sm) dL_law_421 rfl rfl ?_
  refine sj_iload_n (pl := 3) (sl_S S sx sm) dL_law_422 rfl rfl ?_
  refine sj_iconst (sl_S S sx sm) dL_law_423 ?_
  refine sj_iadd (sl_S S sx sm) dL_law_424 ?_
  refine sl_ald S hL3 (by omega) dL_law_425 ?_
  refine sj_aload_n (pl := 0) (sl_S S sx sm) dL_law_426 rfl rfl ?_
  refine sj_iload_n (pl := 3) (sl_S S sx sm) dL_law_427 rfl rfl ?_
  refine sj_iconst (sl_S S sx sm) dL_law_428 ?_
  refine sj_iadd (sl_S S sx sm) dL_law_429 ?_
  refine sl_ald S hL3 (by omega) dL_law_430 ?_
  refine sj_aload_n (pl := 0) (sl_S S sx sm) dL_law_431 rfl rfl ?_
  refine sj_iload_n (pl := 3) (sl_S S sx sm) dL_law_432 rfl rfl ?_
  refine sj_iconst (sl_S S sx sm) dL_law_433 ?_
  refine sj_iadd (sl_S S sx sm) dL_law_434 ?_
  refine sl_ald S hL3 (by omega) dL_law_435 ?_
  refine sj_aload_n (pl := 0) (sl_S S sx sm) dL_law_436 rfl rfl ?_
  refine sj_iload_n (pl := 3) (sl_S S sx sm) dL_law_437 rfl rfl ?_
  refine sj_iconst (sl_S S sx sm) dL_law_438 ?_
  refine sj_iadd (sl_S S sx sm) dL_law_439 ?_
  refine sl_ald S hL3 (by omega) dL_law_440 ?_
  refine sl_vx (rest := []) S (kX3_shift l (D, cy, ax) ((xs (i + 1).toNat).toInt) ((xs (i + 2).toNat).toInt) ((xs (i + 3).toNat).toInt) ((xs (i + 4).toNat).toInt) sx _ (ho sx sm ((xs (i + 1).toNat).toInt) ((xs (i + 2).toNat).toInt) ((xs (i + 3).toNat).toInt) ((xs (i + 4).toNat).toInt) hR (sl_rg _) (sl_rg _) (sl_rg _) (sl_rg _))) (fun s args hts => cwV 4 hts gL_law_X3_shift rfl rfl rfl (by decide +kernel) ⟨Nat.le_of_ble_eq_true rfl, Nat.le_of_ble_eq_true rfl⟩) rfl rfl (Nat.le_of_ble_eq_true rfl) dL_law_441 (fun r1 sx1 H => ?_)
  refine sj_aload_n (pl := 2) (sl_S S sx1 sm) dL_law_444 rfl rfl ?_
  refine sj_aload_n (pl := 0) (sl_S S sx1 sm) dL_law_445 rfl rfl ?_
  refine sj_iload_n (pl := 3) (sl_S S sx1 sm) dL_law_446 rfl rfl ?_
  refine sj_iconst (sl_S S sx1 sm) dL_law_447 ?_
  refine sj_iadd (sl_S S sx1 sm) dL_law_448 ?_
  refine sl_ald S hL3 (by omega) dL_law_449 ?_
  refine sj_aload_n (pl := 0) (sl_S S sx1 sm) dL_law_450 rfl rfl ?_
  refine sj_iload_n (pl := 3) (sl_S S sx1 sm) dL_law_451 rfl rfl ?_
  refine sj_iconst (sl_S S sx1 sm) dL_law_452 ?_
  refine sj_iadd (sl_S S sx1 sm) dL_law_453 ?_
  refine sl_ald S hL3 (by omega) dL_law_454 ?_
  refine sj_aload_n (pl := 0) (sl_S S sx1 sm) dL_law_455 rfl rfl ?_
  refine sj_iload_n (pl := 3) (sl_S S sx1 sm) dL_law_456 rfl rfl ?_
  refine sj_iconst (sl_S S sx1 sm) dL_law_457 ?_
  refine sj_iadd (sl_S S sx1 sm) dL_law_458 ?_
  refine sl_ald S hL3 (by omega) dL_law_459 ?_
  refine sj_aload_n (pl := 0) (sl_S S sx1 sm) dL_law_460 rfl rfl ?_
  refine sj_iload_n (pl := 3) (sl_S S sx1 sm) dL_law_461 rfl rfl ?_
  refine sj_iconst (sl_S S sx1 sm) dL_law_462 ?_
  refine sj_iadd (sl_S S sx1 sm) dL_law_463 ?_
  refine sl_ald S hL3 (by omega) dL_law_464 ?_
  refine sl_vm (rest := [.int (sq_z r1)]) S (kX4_shift l (D, cy, am) ((xs (i + 1).toNat).toInt) ((xs (i + 2).toNat).toInt) ((xs (i + 3).toNat).toInt) ((xs (i + 4).toNat).toInt) sm _ H) (fun s args hts => cwV 4 hts gL_law_X4_shift rfl rfl rfl (by decide +kernel) ⟨Nat.le_of_ble_eq_true rfl, Nat.le_of_ble_eq_true rfl⟩) rfl rfl (Nat.le_of_ble_eq_true rfl) dL_law_465 (fun r2 sm1 H => ?_)
  obtain ⟨e12, hr1, hR⟩ := H
  subst e12
  refine sj_icmp_eq (tgt := 631) (sl_S S sx1 sm1) ⟨hr1, hr1⟩ dL_law_468 (by decide) (fun _ => ?_) (fun c9 => absurd rfl c9)
  exact next sx1 sm1 hR
set_option maxRecDepth 100000 in
set_option maxHeartbeats 4000000 in
theorem sl_c_good {l : Launch} {D : va_G} {cy : sn_cy} {ax am : Nat → Nat} {b L : Nat} {xs : Nat → Int32} {LJ : sq_S → sq_S → sq_K} {Rel : sq_S → sq_S → Prop} (S : sl_J l D cy ax am b L xs LJ) (ho : sl_o_good Rel) (hL3 : L < 2147483648) {i : Int} (hi0 : 0 ≤ i) (hi : i + 5 ≤ L) {sx sm z : sq_S} (hR : Rel sx sm) (next : ∀ sx1 sm1 : sq_S, Rel sx1 sm1 → LJ sx1 sm1 631 [(0, .ref b), (1, .ref (ax 0)), (2, .ref (am 0)), (3, .int (sq_z i))] [] z) : LJ sx sm 473 [(0, .ref b), (1, .ref (ax 0)), (2, .ref (am 0)), (3, .int (sq_z i))] [] z := by
  refine sj_aload_n (pl := 1) (sl_S S sx sm) dL_law_473 rfl rfl ?_
  refine sl_vx (rest := []) S (kX3_good l (D, cy, ax)  sx _ (ho sx sm  hR )) (fun s args hts => cwV 0 hts gL_law_X3_good rfl rfl rfl (by decide +kernel) ⟨Nat.le_of_ble_eq_true rfl, Nat.le_of_ble_eq_true rfl⟩) rfl rfl (Nat.le_of_ble_eq_true rfl) dL_law_474 (fun r1 sx1 H => ?_)
  refine sj_aload_n (pl := 2) (sl_S S sx1 sm) dL_law_477 rfl rfl ?_
  refine sl_vm (rest := [.int (sq_z r1)]) S (kX4_good l (D, cy, am)  sm _ H) (fun s args hts => cwV 0 hts gL_law_X4_good rfl rfl rfl (by decide +kernel) ⟨Nat.le_of_ble_eq_true rfl, Nat.le_of_ble_eq_true rfl⟩) rfl rfl (Nat.le_of_ble_eq_true rfl) dL_law_478 (fun r2 sm1 H => ?_)
  obtain ⟨e12, hr1, hR⟩ := H
  subst e12
  refine sj_icmp_eq (tgt := 631) (sl_S S sx1 sm1) ⟨hr1, hr1⟩ dL_law_481 (by decide) (fun _ => ?_) (fun c9 => absurd rfl c9)
  exact next sx1 sm1 hR
set_option maxRecDepth 100000 in
set_option maxHeartbeats 4000000 in
theorem sl_c_order {l : Launch} {D : va_G} {cy : sn_cy} {ax am : Nat → Nat} {b L : Nat} {xs : Nat → Int32} {LJ : sq_S → sq_S → sq_K} {Rel : sq_S → sq_S → Prop} (S : sl_J l D cy ax am b L xs LJ) (ho : sl_o_order Rel) (hL3 : L < 2147483648) {i : Int} (hi0 : 0 ≤ i) (hi : i + 5 ≤ L) {sx sm z : sq_S} (hR : Rel sx sm) (next : ∀ sx1 sm1 : sq_S, Rel sx1 sm1 → LJ sx1 sm1 631 [(0, .ref b), (1, .ref (ax 0)), (2, .ref (am 0)), (3, .int (sq_z i))] [] z) : LJ sx sm 486 [(0, .ref b), (1, .ref (ax 0)), (2, .ref (am 0)), (3, .int (sq_z i))] [] z := by
  refine sj_aload_n (pl := 1) (sl_S S sx sm) dL_law_486 rfl rfl ?_
  refine sj_aload_n (pl := 0) (sl_S S sx sm) dL_law_487 rfl rfl ?_
  refine sj_iload_n (pl := 3) (sl_S S sx sm) dL_law_488 rfl rfl ?_
  refine sj_iconst (sl_S S sx sm) dL_law_489 ?_
  refine sj_iadd (sl_S S sx sm) dL_law_490 ?_
  refine sl_ald S hL3 (by omega) dL_law_491 ?_
  refine sj_aload_n (pl := 0) (sl_S S sx sm) dL_law_492 rfl rfl ?_
  refine sj_iload_n (pl := 3) (sl_S S sx sm) dL_law_493 rfl rfl ?_
  refine sj_iconst (sl_S S sx sm) dL_law_494 ?_
  refine sj_iadd (sl_S S sx sm) dL_law_495 ?_
  refine sl_ald S hL3 (by omega) dL_law_496 ?_
  refine sl_vx (rest := []) S (kX3_order l (D, cy, ax) ((xs (i + 1).toNat).toInt) ((xs (i + 2).toNat).toInt) sx _ (ho sx sm ((xs (i + 1).toNat).toInt) ((xs (i + 2).toNat).toInt) hR (sl_rg _) (sl_rg _))) (fun s args hts => cwV 2 hts gL_law_X3_order rfl rfl rfl (by decide +kernel) ⟨Nat.le_of_ble_eq_true rfl, Nat.le_of_ble_eq_true rfl⟩) rfl rfl (Nat.le_of_ble_eq_true rfl) dL_law_497 (fun r1 sx1 H => ?_)
  refine sj_aload_n (pl := 2) (sl_S S sx1 sm) dL_law_500 rfl rfl ?_
  refine sj_aload_n (pl := 0) (sl_S S sx1 sm) dL_law_501 rfl rfl ?_
  refine sj_iload_n (pl := 3) (sl_S S sx1 sm) dL_law_502 rfl rfl ?_
  refine sj_iconst (sl_S S sx1 sm) dL_law_503 ?_
  refine sj_iadd (sl_S S sx1 sm) dL_law_504 ?_
  refine sl_ald S hL3 (by omega) dL_law_505 ?_
  refine sj_aload_n (pl := 0) (sl_S S sx1 sm) dL_law_506 rfl rfl ?_
  refine sj_iload_n (pl := 3) (sl_S S sx1 sm) dL_law_507 rfl rfl ?_
  refine sj_iconst (sl_S S sx1 sm) dL_law_508 ?_
  refine sj_iadd (sl_S S sx1 sm) dL_law_509 ?_
  refine sl_ald S hL3 (by omega) dL_law_510 ?_
  refine sl_vm (rest := [.int (sq_z r1)]) S (kX4_order l (D, cy, am) ((xs (i + 1).toNat).toInt) ((xs (i + 2).toNat).toInt) sm _ H) (fun s args hts => cwV 2 hts gL_law_X4_order rfl rfl rfl (by decide +kernel) ⟨Nat.le_of_ble_eq_true rfl, Nat.le_of_ble_eq_true rfl⟩) rfl rfl (Nat.le_of_ble_eq_true rfl) dL_law_511 (fun r2 sm1 H => ?_)
  obtain ⟨e12, hr1, hR⟩ := H
  subst e12
  refine sj_icmp_eq (tgt := 631) (sl_S S sx1 sm1) ⟨hr1, hr1⟩ dL_law_514 (by decide) (fun _ => ?_) (fun c9 => absurd rfl c9)
  exact next sx1 sm1 hR
set_option maxRecDepth 100000 in
set_option maxHeartbeats 4000000 in
theorem sl_c_climb {l : Launch} {D : va_G} {cy : sn_cy} {ax am : Nat → Nat} {b L : Nat} {xs : Nat → Int32} {LJ : sq_S → sq_S → sq_K} {Rel : sq_S → sq_S → Prop} (S : sl_J l D cy ax am b L xs LJ) (ho : sl_o_climb Rel) (hL3 : L < 2147483648) {i : Int} (hi0 : 0 ≤ i) (hi : i + 5 ≤ L) {sx sm z : sq_S} (hR : Rel sx sm) (next : ∀ sx1 sm1 : sq_S, Rel sx1 sm1 → LJ sx1 sm1 631 [(0, .ref b), (1, .ref (ax 0)), (2, .ref (am 0)), (3, .int (sq_z i))] [] z) : LJ sx sm 519 [(0, .ref b), (1, .ref (ax 0)), (2, .ref (am 0)), (3, .int (sq_z i))] [] z := by
  refine sj_aload_n (pl := 1) (sl_S S sx sm) dL_law_519 rfl rfl ?_
  refine sj_aload_n (pl := 0) (sl_S S sx sm) dL_law_520 rfl rfl ?_
  refine sj_iload_n (pl := 3) (sl_S S sx sm) dL_law_521 rfl rfl ?_
  refine sj_iconst (sl_S S sx sm) dL_law_522 ?_
  refine sj_iadd (sl_S S sx sm) dL_law_523 ?_
  refine sl_ald S hL3 (by omega) dL_law_524 ?_
  refine sj_aload_n (pl := 0) (sl_S S sx sm) dL_law_525 rfl rfl ?_
  refine sj_iload_n (pl := 3) (sl_S S sx sm) dL_law_526 rfl rfl ?_
  refine sj_iconst (sl_S S sx sm) dL_law_527 ?_
  refine sj_iadd (sl_S S sx sm) dL_law_528 ?_
  refine sl_ald S hL3 (by omega) dL_law_529 ?_
  refine sj_aload_n (pl := 0) (sl_S S sx sm) dL_law_530 rfl rfl ?_
  refine sj_iload_n (pl := 3) (sl_S S sx sm) dL_law_531 rfl rfl ?_
  refine sj_iconst (sl_S S sx sm) dL_law_532 ?_
  refine sj_iadd (sl_S S sx sm) dL_law_533 ?_
  refine sl_ald S hL3 (by omega) dL_law_534 ?_
  refine sl_vx (rest := []) S (kX3_climb l (D, cy, ax) ((xs (i + 1).toNat).toInt) ((xs (i + 2).toNat).toInt) ((xs (i + 3).toNat).toInt) sx _ (ho sx sm ((xs (i + 1).toNat).toInt) ((xs (i + 2).toNat).toInt) ((xs (i + 3).toNat).toInt) hR (sl_rg _) (sl_rg _) (sl_rg _))) (fun s args hts => cwV 3 hts gL_law_X3_climb rfl rfl rfl (by decide +kernel) ⟨Nat.le_of_ble_eq_true rfl, Nat.le_of_ble_eq_true rfl⟩) rfl rfl (Nat.le_of_ble_eq_true rfl) dL_law_535 (fun r1 sx1 H => ?_)
  refine sj_aload_n (pl := 2) (sl_S S sx1 sm) dL_law_538 rfl rfl ?_
  refine sj_aload_n (pl := 0) (sl_S S sx1 sm) dL_law_539 rfl rfl ?_
  refine sj_iload_n (pl := 3) (sl_S S sx1 sm) dL_law_540 rfl rfl ?_
  refine sj_iconst (sl_S S sx1 sm) dL_law_541 ?_
  refine sj_iadd (sl_S S sx1 sm) dL_law_542 ?_
  refine sl_ald S hL3 (by omega) dL_law_543 ?_
  refine sj_aload_n (pl := 0) (sl_S S sx1 sm) dL_law_544 rfl rfl ?_
  refine sj_iload_n (pl := 3) (sl_S S sx1 sm) dL_law_545 rfl rfl ?_
  refine sj_iconst (sl_S S sx1 sm) dL_law_546 ?_
  refine sj_iadd (sl_S S sx1 sm) dL_law_547 ?_
  refine sl_ald S hL3 (by omega) dL_law_548 ?_
  refine sj_aload_n (pl := 0) (sl_S S sx1 sm) dL_law_549 rfl rfl ?_
  refine sj_iload_n (pl := 3) (sl_S S sx1 sm) dL_law_550 rfl rfl ?_
  refine sj_iconst (sl_S S sx1 sm) dL_law_551 ?_
  refine sj_iadd (sl_S S sx1 sm) dL_law_552 ?_
  refine sl_ald S hL3 (by omega) dL_law_553 ?_
  refine sl_vm (rest := [.int (sq_z r1)]) S (kX4_climb l (D, cy, am) ((xs (i + 1).toNat).toInt) ((xs (i + 2).toNat).toInt) ((xs (i + 3).toNat).toInt) sm _ H) (fun s args hts => cwV 3 hts gL_law_X4_climb rfl rfl rfl (by decide +kernel) ⟨Nat.le_of_ble_eq_true rfl, Nat.le_of_ble_eq_true rfl⟩) rfl rfl (Nat.le_of_ble_eq_true rfl) dL_law_554 (fun r2 sm1 H => ?_)
  obtain ⟨e12, hr1, hR⟩ := H
  subst e12
  refine sj_icmp_eq (tgt := 631) (sl_S S sx1 sm1) ⟨hr1, hr1⟩ dL_law_557 (by decide) (fun _ => ?_) (fun c9 => absurd rfl c9)
  exact next sx1 sm1 hR
set_option maxRecDepth 100000 in
set_option maxHeartbeats 4000000 in
theorem sl_c_image {l : Launch} {D : va_G} {cy : sn_cy} {ax am : Nat → Nat} {b L : Nat} {xs : Nat → Int32} {LJ : sq_S → sq_S → sq_K} {Rel : sq_S → sq_S → Prop} (S : sl_J l D cy ax am b L xs LJ) (ho : sl_o_image Rel) (hL3 : L < 2147483648) {i : Int} (hi0 : 0 ≤ i) (hi : i + 5 ≤ L) {sx sm z : sq_S} (hR : Rel sx sm) (next : ∀ sx1 sm1 : sq_S, Rel sx1 sm1 → LJ sx1 sm1 631 [(0, .ref b), (1, .ref (ax 0)), (2, .ref (am 0)), (3, .int (sq_z i))] [] z) : LJ sx sm 562 [(0, .ref b), (1, .ref (ax 0)), (2, .ref (am 0)), (3, .int (sq_z i))] [] z := by
  refine sj_aload_n (pl := 1) (sl_S S sx sm) dL_law_562 rfl rfl ?_
  refine sj_aload_n (pl := 0) (sl_S S sx sm) dL_law_563 rfl rfl ?_
  refine sj_iload_n (pl := 3) (sl_S S sx sm) dL_law_564 rfl rfl ?_
  refine sj_iconst (sl_S S sx sm) dL_law_565 ?_
  refine sj_iadd (sl_S S sx sm) dL_law_566 ?_
  refine sl_ald S hL3 (by omega) dL_law_567 ?_
  refine sl_vx (rest := []) S (kX3_image l (D, cy, ax) ((xs (i + 1).toNat).toInt) sx _ (ho sx sm ((xs (i + 1).toNat).toInt) hR (sl_rg _))) (fun s args hts => cwV 1 hts gL_law_X3_image rfl rfl rfl (by decide +kernel) ⟨Nat.le_of_ble_eq_true rfl, Nat.le_of_ble_eq_true rfl⟩) rfl rfl (Nat.le_of_ble_eq_true rfl) dL_law_568 (fun r1 sx1 H => ?_)
  refine sj_aload_n (pl := 2) (sl_S S sx1 sm) dL_law_571 rfl rfl ?_
  refine sj_aload_n (pl := 0) (sl_S S sx1 sm) dL_law_572 rfl rfl ?_
  refine sj_iload_n (pl := 3) (sl_S S sx1 sm) dL_law_573 rfl rfl ?_
  refine sj_iconst (sl_S S sx1 sm) dL_law_574 ?_
  refine sj_iadd (sl_S S sx1 sm) dL_law_575 ?_
  refine sl_ald S hL3 (by omega) dL_law_576 ?_
  refine sl_vm (rest := [.int (sq_z r1)]) S (kX4_image l (D, cy, am) ((xs (i + 1).toNat).toInt) sm _ H) (fun s args hts => cwV 1 hts gL_law_X4_image rfl rfl rfl (by decide +kernel) ⟨Nat.le_of_ble_eq_true rfl, Nat.le_of_ble_eq_true rfl⟩) rfl rfl (Nat.le_of_ble_eq_true rfl) dL_law_577 (fun r2 sm1 H => ?_)
  obtain ⟨e12, hr1, hR⟩ := H
  subst e12
  refine sj_icmp_eq (tgt := 631) (sl_S S sx1 sm1) ⟨hr1, hr1⟩ dL_law_580 (by decide) (fun _ => ?_) (fun c9 => absurd rfl c9)
  exact next sx1 sm1 hR
set_option maxRecDepth 100000 in
set_option maxHeartbeats 4000000 in
theorem sl_c_restore {l : Launch} {D : va_G} {cy : sn_cy} {ax am : Nat → Nat} {b L : Nat} {xs : Nat → Int32} {LJ : sq_S → sq_S → sq_K} {Rel : sq_S → sq_S → Prop} (S : sl_J l D cy ax am b L xs LJ) (ho : sl_o_restore Rel) (hL3 : L < 2147483648) {i : Int} (hi0 : 0 ≤ i) (hi : i + 5 ≤ L) {sx sm z : sq_S} (hR : Rel sx sm) (next : ∀ sx1 sm1 : sq_S, Rel sx1 sm1 → LJ sx1 sm1 631 [(0, .ref b), (1, .ref (ax 0)), (2, .ref (am 0)), (3, .int (sq_z i))] [] z) : LJ sx sm 585 [(0, .ref b), (1, .ref (ax 0)), (2, .ref (am 0)), (3, .int (sq_z i))] [] z := by
  refine sj_aload_n (pl := 1) (sl_S S sx sm) dL_law_585 rfl rfl ?_
  refine sj_aload_n (pl := 0) (sl_S S sx sm) dL_law_586 rfl rfl ?_
  refine sj_iload_n (pl := 3) (sl_S S sx sm) dL_law_587 rfl rfl ?_
  refine sj_iconst (sl_S S sx sm) dL_law_588 ?_
  refine sj_iadd (sl_S S sx sm) dL_law_589 ?_
  refine sl_ald S hL3 (by omega) dL_law_590 ?_
  refine sl_vx (rest := []) S (kX3_restore l (D, cy, ax) ((xs (i + 1).toNat).toInt) sx _ (ho sx sm ((xs (i + 1).toNat).toInt) hR (sl_rg _))) (fun s args hts => cwV 1 hts gL_law_X3_restore rfl rfl rfl (by decide +kernel) ⟨Nat.le_of_ble_eq_true rfl, Nat.le_of_ble_eq_true rfl⟩) rfl rfl (Nat.le_of_ble_eq_true rfl) dL_law_591 (fun r1 sx1 H => ?_)
  refine sj_aload_n (pl := 2) (sl_S S sx1 sm) dL_law_594 rfl rfl ?_
  refine sj_aload_n (pl := 0) (sl_S S sx1 sm) dL_law_595 rfl rfl ?_
  refine sj_iload_n (pl := 3) (sl_S S sx1 sm) dL_law_596 rfl rfl ?_
  refine sj_iconst (sl_S S sx1 sm) dL_law_597 ?_
  refine sj_iadd (sl_S S sx1 sm) dL_law_598 ?_
  refine sl_ald S hL3 (by omega) dL_law_599 ?_
  refine sl_vm (rest := [.int (sq_z r1)]) S (kX4_restore l (D, cy, am) ((xs (i + 1).toNat).toInt) sm _ H) (fun s args hts => cwV 1 hts gL_law_X4_restore rfl rfl rfl (by decide +kernel) ⟨Nat.le_of_ble_eq_true rfl, Nat.le_of_ble_eq_true rfl⟩) rfl rfl (Nat.le_of_ble_eq_true rfl) dL_law_600 (fun r2 sm1 H => ?_)
  obtain ⟨e12, hr1, hR⟩ := H
  subst e12
  refine sj_icmp_eq (tgt := 631) (sl_S S sx1 sm1) ⟨hr1, hr1⟩ dL_law_603 (by decide) (fun _ => ?_) (fun c9 => absurd rfl c9)
  exact next sx1 sm1 hR
set_option maxRecDepth 100000 in
set_option maxHeartbeats 4000000 in
theorem sl_c_count {l : Launch} {D : va_G} {cy : sn_cy} {ax am : Nat → Nat} {b L : Nat} {xs : Nat → Int32} {LJ : sq_S → sq_S → sq_K} {Rel : sq_S → sq_S → Prop} (S : sl_J l D cy ax am b L xs LJ) (ho : sl_o_count Rel) (hL3 : L < 2147483648) {i : Int} (hi0 : 0 ≤ i) (hi : i + 5 ≤ L) {sx sm z : sq_S} (hR : Rel sx sm) (next : ∀ sx1 sm1 : sq_S, Rel sx1 sm1 → LJ sx1 sm1 631 [(0, .ref b), (1, .ref (ax 0)), (2, .ref (am 0)), (3, .int (sq_z i))] [] z) : LJ sx sm 608 [(0, .ref b), (1, .ref (ax 0)), (2, .ref (am 0)), (3, .int (sq_z i))] [] z := by
  refine sj_aload_n (pl := 1) (sl_S S sx sm) dL_law_608 rfl rfl ?_
  refine sj_aload_n (pl := 0) (sl_S S sx sm) dL_law_609 rfl rfl ?_
  refine sj_iload_n (pl := 3) (sl_S S sx sm) dL_law_610 rfl rfl ?_
  refine sj_iconst (sl_S S sx sm) dL_law_611 ?_
  refine sj_iadd (sl_S S sx sm) dL_law_612 ?_
  refine sl_ald S hL3 (by omega) dL_law_613 ?_
  refine sl_vx (rest := []) S (kX3_count l (D, cy, ax) ((xs (i + 1).toNat).toInt) sx _ (ho sx sm ((xs (i + 1).toNat).toInt) hR (sl_rg _))) (fun s args hts => cwV 1 hts gL_law_X3_count rfl rfl rfl (by decide +kernel) ⟨Nat.le_of_ble_eq_true rfl, Nat.le_of_ble_eq_true rfl⟩) rfl rfl (Nat.le_of_ble_eq_true rfl) dL_law_614 (fun r1 sx1 H => ?_)
  refine sj_aload_n (pl := 2) (sl_S S sx1 sm) dL_law_617 rfl rfl ?_
  refine sj_aload_n (pl := 0) (sl_S S sx1 sm) dL_law_618 rfl rfl ?_
  refine sj_iload_n (pl := 3) (sl_S S sx1 sm) dL_law_619 rfl rfl ?_
  refine sj_iconst (sl_S S sx1 sm) dL_law_620 ?_
  refine sj_iadd (sl_S S sx1 sm) dL_law_621 ?_
  refine sl_ald S hL3 (by omega) dL_law_622 ?_
  refine sl_vm (rest := [.int (sq_z r1)]) S (kX4_count l (D, cy, am) ((xs (i + 1).toNat).toInt) sm _ H) (fun s args hts => cwV 1 hts gL_law_X4_count rfl rfl rfl (by decide +kernel) ⟨Nat.le_of_ble_eq_true rfl, Nat.le_of_ble_eq_true rfl⟩) rfl rfl (Nat.le_of_ble_eq_true rfl) dL_law_623 (fun r2 sm1 H => ?_)
  obtain ⟨e12, hr1, hR⟩ := H
  subst e12
  refine sj_icmp_eq (tgt := 631) (sl_S S sx1 sm1) ⟨hr1, hr1⟩ dL_law_626 (by decide) (fun _ => ?_) (fun c9 => absurd rfl c9)
  exact next sx1 sm1 hR
set_option maxRecDepth 100000 in
set_option maxHeartbeats 4000000 in
theorem sl_loop {l : Launch} {D : va_G} {cy : sn_cy} {ax am : Nat → Nat} {b L : Nat} {xs : Nat → Int32} {LJ : sq_S → sq_S → sq_K} {Rel : sq_S → sq_S → Prop} (S : sl_J l D cy ax am b L xs LJ) (ho : sl_ops Rel) (hL3 : L ≤ 2560) (z : sq_S) (hret : ∀ (sx sm : sq_S) (lv : List (Nat × Value)), LJ sx sm 638 lv [.int (sq_z 1)] z) : ∀ (n : Nat) (i : Int) (sx sm : sq_S), 0 ≤ i → i ≤ 2565 → (2570 - i).toNat < n → Rel sx sm → LJ sx sm 18 [(0, .ref b), (1, .ref (ax 0)), (2, .ref (am 0)), (3, .int (sq_z i))] [] z := by
  intro n
  induction n with
  | zero => intro i sx sm h0 h1 h2; omega
  | succ n ih =>
    intro i sx sm hi0 hi1 hn hR
    have S0 := sl_S S sx sm
    refine sj_iload_n (pl := 3) S0 dL_law_18 rfl rfl ?_
    refine sj_aload_n (pl := 0) S0 dL_law_19 rfl rfl ?_
    refine sl_len S dL_law_20 ?_
    refine sj_iconst S0 dL_law_21 ?_
    refine sj_isub S0 dL_law_22 ?_
    refine sj_icmp_gt (tgt := 637) S0 (by omega) dL_law_23 (by decide) (fun c9 => ?_) (fun c9 => ?_)
    · refine sj_iconst S0 dL_law_637 ?_
      exact hret sx sm _
    · have next : ∀ sx1 sm1 : sq_S, Rel sx1 sm1 → LJ sx1 sm1 631 [(0, .ref b), (1, .ref (ax 0)), (2, .ref (am 0)), (3, .int (sq_z i))] [] z := by
        intro sx1 sm1 hR1
        refine sj_iinc (pl := 3) (lv' := [(0, .ref b), (1, .ref (ax 0)), (2, .ref (am 0))]) (sl_S S sx1 sm1) dL_law_631 rfl (by decide) (fun _ => rfl) ?_
        refine sj_goto (tgt := 18) (sl_S S sx1 sm1) dL_law_634 (by decide) ?_
        refine sj_lv (sl_S S sx1 sm1) [1, 2, 3, 0] rfl ?_
        exact ih (i + 5) sx1 sm1 (by omega) (by omega) (by omega) hR1
      refine sj_aload_n (pl := 0) S0 dL_law_26 rfl rfl ?_
      refine sj_iload_n (pl := 3) S0 dL_law_27 rfl rfl ?_
      refine sl_ald S (by omega) (by omega) dL_law_28 ?_
      refine sj_bipush S0 dL_law_29 (by decide +kernel) ?_
      refine sj_iand S0 dL_law_31 ?_
      obtain ⟨x, hx⟩ : ∃ x : Int, x = sq_and (xs i.toNat).toInt 31 := ⟨_, rfl⟩
      rw [← hx]
      have hxr : sq_rg x := by rw [hx]; exact sl_rg _
      obtain ⟨hsay, hwipe, htake, hworth, hlike, hletter, hhide, hfind, hundo, htimes, hsame, hlength, hshift, hgood, horder, hclimb, himage, hrestore, hcount⟩ := ho
      by_cases c0 : x = 0
      · refine sj_tab (v := 0) (tgt := 124) S0 (by decide) c0 dL_law_32 (by decide) (by decide) rfl (by decide) ?_
        exact sl_c_say S hsay (by omega) hi0 (by omega) hR next
      by_cases c1 : x = 1
      · refine sj_tab (v := 1) (tgt := 147) S0 (by decide) c1 dL_law_32 (by decide) (by decide) rfl (by decide) ?_
        exact sl_c_wipe S hwipe (by omega) hi0 (by omega) hR next
      by_cases c2 : x = 2
      · refine sj_tab (v := 2) (tgt := 160) S0 (by decide) c2 dL_law_32 (by decide) (by decide) rfl (by decide) ?_
        exact sl_c_take S htake (by omega) hi0 (by omega) hR next
      by_cases c3 : x = 3
      · refine sj_tab (v := 3) (tgt := 183) S0 (by decide) c3 dL_law_32 (by decide) (by decide) rfl (by decide) ?_
        exact sl_c_worth S hworth (by omega) hi0 (by omega) hR next
      by_cases c4 : x = 4
      · refine sj_tab (v := 4) (tgt := 216) S0 (by decide) c4 dL_law_32 (by decide) (by decide) rfl (by decide) ?_
        exact sl_c_like S hlike (by omega) hi0 (by omega) hR next
      by_cases c5 : x = 5
      · refine sj_tab (v := 5) (tgt := 259) S0 (by decide) c5 dL_law_32 (by decide) (by decide) rfl (by decide) ?_
        exact sl_c_letter S hletter (by omega) hi0 (by omega) hR next
      by_cases c6 : x = 6
      · refine sj_tab (v := 6) (tgt := 292) S0 (by decide) c6 dL_law_32 (by decide) (by decide) rfl (by decide) ?_
        exact sl_c_hide S hhide (by omega) hi0 (by omega) hR next
      by_cases c7 : x = 7
      · refine sj_tab (v := 7) (tgt := 315) S0 (by decide) c7 dL_law_32 (by decide) (by decide) rfl (by decide) ?_
        exact sl_c_find S hfind (by omega) hi0 (by omega) hR next
      by_cases c8 : x = 8
      · refine sj_tab (v := 8) (tgt := 338) S0 (by decide) c8 dL_law_32 (by decide) (by decide) rfl (by decide) ?_
        exact sl_c_undo S hundo (by omega) hi0 (by omega) hR next
      by_cases c9 : x = 9
      · refine sj_tab (v := 9) (tgt := 351) S0 (by decide) c9 dL_law_32 (by decide) (by decide) rfl (by decide) ?_
        exact sl_c_times S htimes (by omega) hi0 (by omega) hR next
      by_cases c10 : x = 10
      · refine sj_tab (v := 10) (tgt := 374) S0 (by decide) c10 dL_law_32 (by decide) (by decide) rfl (by decide) ?_
        exact sl_c_same S hsame (by omega) hi0 (by omega) hR next
      by_cases c11 : x = 11
      · refine sj_tab (v := 11) (tgt := 397) S0 (by decide) c11 dL_law_32 (by decide) (by decide) rfl (by decide) ?_
        exact sl_c_length S hlength (by omega) hi0 (by omega) hR next
      by_cases c12 : x = 12
      · refine sj_tab (v := 12) (tgt := 420) S0 (by decide) c12 dL_law_32 (by decide) (by decide) rfl (by decide) ?_
        exact sl_c_shift S hshift (by omega) hi0 (by omega) hR next
      by_cases c13 : x = 13
      · refine sj_tab (v := 13) (tgt := 473) S0 (by decide) c13 dL_law_32 (by decide) (by decide) rfl (by decide) ?_
        exact sl_c_good S hgood (by omega) hi0 (by omega) hR next
      by_cases c14 : x = 14
      · refine sj_tab (v := 14) (tgt := 486) S0 (by decide) c14 dL_law_32 (by decide) (by decide) rfl (by decide) ?_
        exact sl_c_order S horder (by omega) hi0 (by omega) hR next
      by_cases c15 : x = 15
      · refine sj_tab (v := 15) (tgt := 519) S0 (by decide) c15 dL_law_32 (by decide) (by decide) rfl (by decide) ?_
        exact sl_c_climb S hclimb (by omega) hi0 (by omega) hR next
      by_cases c16 : x = 16
      · refine sj_tab (v := 16) (tgt := 562) S0 (by decide) c16 dL_law_32 (by decide) (by decide) rfl (by decide) ?_
        exact sl_c_image S himage (by omega) hi0 (by omega) hR next
      by_cases c17 : x = 17
      · refine sj_tab (v := 17) (tgt := 585) S0 (by decide) c17 dL_law_32 (by decide) (by decide) rfl (by decide) ?_
        exact sl_c_restore S hrestore (by omega) hi0 (by omega) hR next
      by_cases c18 : x = 18
      · refine sj_tab (v := 18) (tgt := 608) S0 (by decide) c18 dL_law_32 (by decide) (by decide) rfl (by decide) ?_
        exact sl_c_count S hcount (by omega) hi0 (by omega) hR next
      have cd : x < 0 ∨ 18 < x := by omega
      refine sj_tabd (tgt := 631) S0 hxr cd dL_law_32 (by decide) ?_
      exact next sx sm hR
set_option maxRecDepth 100000 in
set_option maxHeartbeats 8000000 in
theorem whole_open (Rel : sq_S → sq_S → Prop) (ho : sl_ops Rel) (h00 : Rel sn_x0 sn_m0) {p : Program} {e : Env} {s : State} {m : MethodId} {below : List Frame} {meth : Method} {c : Code} (l : Launch) {b L : Nat} {xs : Nat → Int32} (hL : L ≤ 2560) (C0 : lw_At p s m meth c b L xs) : W p l e room_1 s m #[Value.ref b] below meth c s.heap [] 0 0 (lw_Z below #[Value.ref b] s) (entryFrame m ([Value.ref b] : List Value).toArray 4) := by
  obtain ⟨hx, hb, hr, hml, hown, hts0, hX, hbl, hlocks, hgv⟩ := id C0
  have hts : ∀ w ∈ wsL_law, w.before #[Value.ref b] s = true := fun w h => hts0 w (wsL_law_in w h)
  have hown : s.vm.findClass RL = some m.cls := hown
  have hA : ∀ q : Nat, s.heap.size ≤ q → (fun q : Nat => s.heap.size ≤ q) q := fun _ h => h
  obtain ⟨k0, iS0, hKn0⟩ := u_known (C := RX0) (T := TX0) (N := 9) (n := 9) hts0 inX0 (hts0 (.instantiable RX0 9) (List.mem_of_getElem? (i := 60) rfl))
  obtain ⟨k1, iS1, hKn1⟩ := u_known (C := RX1) (T := TX1) (N := 2) (n := 2) hts0 inX1 (hts0 (.instantiable RX1 2) (List.mem_of_getElem? (i := 113) rfl))
  obtain ⟨k2, iS2, hKn2⟩ := u_known (C := RX2) (T := TX2) (N := 5) (n := 5) hts0 inX2 (hts0 (.instantiable RX2 5) (List.mem_of_getElem? (i := 107) rfl))
  obtain ⟨k3, iS3, hKn3⟩ := u_known (C := RX3) (T := TX3) (N := 8) (n := 8) hts0 inX3 (hts0 (.instantiable RX3 8) (List.mem_of_getElem? (i := 52) rfl))
  obtain ⟨k4, iS4, hKn4⟩ := u_known (C := RX4) (T := TX4) (N := 12) (n := 12) hts0 inX4 (hts0 (.instantiable RX4 12) (List.mem_of_getElem? (i := 417) rfl))
  obtain ⟨D, hKc⟩ : ∃ D : va_G, ∀ (k : Nat) (q : vw_C), vwCl[k]? = some q → u_Kn s q.1 q.2.1 q.2.2 (D.1 k) (D.2 k) := by
    refine ⟨(fun k => if k = 0 then k0 else if k = 1 then k1 else if k = 2 then k2 else if k = 3 then k3 else k4, fun k => if k = 0 then iS0 else if k = 1 then iS1 else if k = 2 then iS2 else if k = 3 then iS3 else iS4), ?_⟩
    intro k q hq
    match k, hq with
    | 0, hq => cases hq; exact hKn0
    | 1, hq => cases hq; exact hKn1
    | 2, hq => cases hq; exact hKn2
    | 3, hq => cases hq; exact hKn3
    | 4, hq => cases hq; exact hKn4
    | k + 5, hq => simp [vwCl] at hq
  obtain ⟨cI, kI, compI, fI1, fI2, fI3⟩ := Cond.arrayClass_spec (hts0 (.arrayClass .int) (List.mem_of_getElem? (i := 104) rfl))
  obtain ⟨cZ, kZ, compZ, fZ1, fZ2, fZ3⟩ := Cond.arrayClass_spec (hts0 (.arrayClass .boolean) (List.mem_of_getElem? (i := 459) rfl))
  have hao : va_AO RX0 s := va_AO.of (hts0 (.arrayOver (.object RX0)) (List.mem_of_getElem? (i := 105) rfl))
  obtain ⟨compD, cD, kD, fD1, fD2, fD3, fD4, fD5⟩ := Cond.arrayOver_spec hao
  have hn15 : va_Nw (.methodLinkNest RX3 15 yX0_init RX3) s := va_Nw.of rfl (hts0 _ (List.mem_of_getElem? (i := 61) rfl))
  have hn26 : va_Nw (.methodLinkNest RX3 26 yX2_init RX3) s := va_Nw.of rfl (hts0 _ (List.mem_of_getElem? (i := 108) rfl))
  have hn17 : va_Nw (.methodLinkNest RX2 17 yX1_init RX3) s := va_Nw.of rfl (hts0 _ (List.mem_of_getElem? (i := 114) rfl))
  obtain ⟨cy, hcy⟩ : ∃ cy : sn_cy, cy = (cI, cZ, cD) := ⟨_, rfl⟩
  have hS : va_S (fun q : Nat => s.heap.size ≤ q) s.heap s.heap [] := va_S.rf
  have hK : va_K D vwCl (sn_ty D cy) s := by
    refine ⟨hKc, ?_⟩
    subst hcy
    intro k q hq
    match k, hq with
    | 0, hq => cases hq; exact ⟨fun n z => ⟨(fun k h => by cases h), kI, fI2, compI, fI3⟩, fI1⟩
    | 1, hq => cases hq; exact ⟨fun n z => ⟨(fun k h => by cases h), kZ, fZ2, compZ, fZ3⟩, fZ1⟩
    | 2, hq => cases hq; exact ⟨fun n z => ⟨(fun k h => by cases h), kD, fD3, compD, fD4⟩, kD, compD, fD3, fD4, fD1, fD5⟩
    | k + 3, hq => simp [sq_tys] at hq
  have hP : va_P D vwCl [] s.heap := fun k q h => by simp at h
  have hD : va_D (fun q : Nat => s.heap.size ≤ q) [] := ⟨fun i j p q h => by simp at h, fun k q h => by simp at h⟩
  have hl := lv_entry ([.ref b]) (n := 4) (Nat.le_of_ble_eq_true rfl)
  rw [lg_entry_eq]
  generalize (lg_sl ([.ref b]) ++ List.replicate (4 - (lg_sl ([.ref b])).length) Slot.unset).toArray = ls at hl ⊢
  have hl : lv_has ls 4 [(0, .ref b)] := hl
  have hb : c.code = cL_law := hb
  refine va_new (ci := 3) (fs := [.null, .int 0, .null, .null, .int 0, .null, .null, .null]) (C := RX3) (T := TX3) (N := 8) hx hb hts inlX3 tyX3 tyX3_ok hown (hts (.classLink RL 7 RX3) (List.mem_of_getElem? (i := 0) rfl)) (hts (.instantiable RX3 8) (List.mem_of_getElem? (i := 1) rfl)) (hts (.initialized RX3) (List.mem_of_getElem? (i := 2) rfl)) hK hP hD hS hA rfl (fun j hj => by rcases (show j = 0 ∨ j = 1 ∨ j = 2 ∨ j = 3 ∨ j = 4 ∨ j = 5 ∨ j = 6 ∨ j = 7 by omega) with rfl | rfl | rfl | rfl | rfl | rfl | rfl | rfl <;> rfl) (Nat.le_of_ble_eq_true rfl) (Nat.le_of_ble_eq_true rfl) dL_law_0 (fun q0 H hP hD hS => ?_)
  have hP : va_P D vwCl [(q0, .inr (3, [.null, .int 0, .null, .null, .int 0, .null, .null, .null]))] H := hP
  have hD : va_D (fun q : Nat => s.heap.size ≤ q) [(q0, .inr (3, [.null, .int 0, .null, .null, .int 0, .null, .null, .null]))] := hD
  refine W.widen (k := 1) (n := 8) (by omega) (by omega) ?_
  refine lv_dup hx hb dL_law_3 rfl ?_
  have hFc := va_free (wc := [(q0, .inr (3, [.null, .int 0, .null, .null, .int 0, .null, .null, .null]))]) hD hS hA [0] rfl
  refine va_callv (va_runI (As := []) (rest := [.ref q0]) ⟨hx, hb, hml, hown, hts⟩ (nX3_init l D cy q0 H.size) (cwI 0 hts gL_law_X3_init rfl rfl rfl (hts (.initialized RX3) (List.mem_of_getElem? (i := 2) rfl)) (hts (.methodLink RL 9 yX3_init) (List.mem_of_getElem? (i := 6) rfl)) (hts (.instanceMethod yX3_init) (List.mem_of_getElem? (i := 7) rfl)) rfl (by decide +kernel) ⟨Nat.le_of_ble_eq_true rfl, Nat.le_of_ble_eq_true rfl⟩) ⟨fun a U g mk q => by obtain ⟨q0, q1, qP, qK, qD, qa, qb, qc, qd⟩ := q; exact ⟨q0, q1, qP, va_K.moved (u := U) (U := U.calling g mk a) (Vm.Alike.refl U.vm) qK, qD, va_Nw.same rfl rfl qa, va_Nw.same rfl rfl qb, va_Nw.same rfl rfl qc, va_AO.moved (Vm.Alike.refl U.vm) qd⟩, fun U hU hW => ⟨rfl, by rw [hU], by rw [hU]; exact hP, va_K.moved hW.alike hK, hD.weaken (fun _ _ _ _ => trivial), va_Nw.warmM hW hn15, va_Nw.warmM hW hn26, va_Nw.warmM hW hn17, va_AO.moved hW.alike hao⟩⟩ rfl rfl hl.1 rfl (lv_room (Nat.le_of_ble_eq_true rfl)) dL_law_4 ⟨Nat.le_of_ble_eq_true rfl, Nat.le_of_ble_eq_true rfl⟩) hS (fun q _ h => hFc q h) hFc (fun ax t H1 locs ht hvm hw hB hz1 hk1 hS => ?_)
  obtain ⟨hP1, hK1, hD1⟩ := hB
  rw [ht] at hP1
  have hP := hP1
  have hD : va_D (fun q : Nat => s.heap.size ≤ q) (sq_X (D, cy, ax) sn_x0) := hD1.weaken (fun k q _ h => hFc q.1 h)
  have e0 : ax 0 = q0 := hw
  rw [← e0]
  refine W.widen (k := 34) (n := 2072) (by omega) (by omega) ?_
  refine lv_astore_n (lv' := [(1, .ref (ax 0)), (0, .ref b)]) hx hb dL_law_7 rfl hl (by decide) rfl (fun ls hl => ?_)
  refine va_new (ci := 4) (fs := [.null, .null, .null, .null, .int 0, .null, .null, .null, .null, .null, .null, .int 0]) (C := RX4) (T := TX4) (N := 12) hx hb hts inlX4 tyX4 tyX4_ok hown (hts (.classLink RL 10 RX4) (List.mem_of_getElem? (i := 3) rfl)) (hts (.instantiable RX4 12) (List.mem_of_getElem? (i := 4) rfl)) (hts (.initialized RX4) (List.mem_of_getElem? (i := 5) rfl)) hK hP hD hS hA rfl (fun j hj => by rcases (show j = 0 ∨ j = 1 ∨ j = 2 ∨ j = 3 ∨ j = 4 ∨ j = 5 ∨ j = 6 ∨ j = 7 ∨ j = 8 ∨ j = 9 ∨ j = 10 ∨ j = 11 by omega) with rfl | rfl | rfl | rfl | rfl | rfl | rfl | rfl | rfl | rfl | rfl | rfl <;> rfl) (Nat.le_of_ble_eq_true rfl) (Nat.le_of_ble_eq_true rfl) dL_law_8 (fun q1 H hP hD hS => ?_)
  refine W.widen (k := 35) (n := 2084) (by omega) (by omega) ?_
  refine lv_dup hx hb dL_law_11 rfl ?_
  obtain ⟨hPX, hPM, hDX, hDM, hap⟩ := sl_split hP hD
  have hFc : ∀ q, va_A [(q1, .inr (4, [.null, .null, .null, .null, .int 0, .null, .null, .null, .null, .null, .null, .int 0]))] H.size q → s.heap.size ≤ q := by
    intro q h
    rcases h with ⟨k, e, h⟩ | h
    · exact hDM.2 k (q, e) h
    · exact Nat.le_trans hS.1 h
  refine va_callv (va_runI (As := []) (rest := [.ref q1]) ⟨hx, hb, hml, hown, hts⟩ (nX4_init l D cy q1 H.size) (cwI 0 hts gL_law_X4_init rfl rfl rfl (hts (.initialized RX4) (List.mem_of_getElem? (i := 5) rfl)) (hts (.methodLink RL 12 yX4_init) (List.mem_of_getElem? (i := 51) rfl)) (hts (.instanceMethod yX4_init) (List.mem_of_getElem? (i := 52) rfl)) rfl (by decide +kernel) ⟨Nat.le_of_ble_eq_true rfl, Nat.le_of_ble_eq_true rfl⟩) ⟨fun a U g mk q => by obtain ⟨q0, q1, qP, qK, qD⟩ := q; exact ⟨q0, q1, qP, va_K.moved (u := U) (U := U.calling g mk a) (Vm.Alike.refl U.vm) qK, qD⟩, fun U hU hW => ⟨rfl, by rw [hU], by rw [hU]; exact hPM, va_K.moved hW.alike hK, hDM.weaken (fun _ _ _ _ => trivial)⟩⟩ rfl rfl hl.1 rfl (lv_room (Nat.le_of_ble_eq_true rfl)) dL_law_12 ⟨Nat.le_of_ble_eq_true rfl, Nat.le_of_ble_eq_true rfl⟩) hS (fun q _ h => hFc q h) hFc (fun am t H1 locs ht hvm hw2 hB hz1 hk1 hS => ?_)
  obtain ⟨hP1, hK1, hD1⟩ := hB
  rw [ht] at hP1
  obtain ⟨hP, hD⟩ := sl_joinM hP hD hFc hk1 hP1 hD1
  have e1 : am 0 = q1 := hw2
  rw [← e1]
  refine W.widen (k := 45) (n := 4853) (by omega) (by omega) ?_
  have S : sl_J l D cy ax am b L xs (fun sx sm => sq_j p l e room_1 s m #[Value.ref b] below meth c (D, cy, ax) (fun _ _ => sq_X (D, cy, ax) sx ++ sq_M (D, cy, am) sm) (fun q => s.heap.size ≤ q) 4 45 4853 (lw_Z below #[Value.ref b] s)) := ⟨p, e, s, m, _, below, meth, c, 45, 4853, _, hx, hb, hml, hown, hts, hK, Nat.le_of_ble_eq_true rfl, Nat.le_of_ble_eq_true rfl, hX, hbl, rfl⟩
  refine lv_astore_n (lv' := [(2, .ref (am 0)), (1, .ref (ax 0)), (0, .ref b)]) hx hb dL_law_15 rfl hl (by decide) rfl (fun ls hl => ?_)
  refine lv_iconst (v := 0) hx hb dL_law_16 (by decide) ?_
  refine lv_istore_n (lv' := [(3, .int 0), (2, .ref (am 0)), (1, .ref (ax 0)), (0, .ref b)]) hx hb dL_law_17 rfl hl (by decide) rfl (fun ls hl => ?_)
  have go := sl_loop S ho hL (fun _ _ => 0) (fun sx sm lv H locs ls h1 h2 h3 h4 => by
    refine va_forget (fun q hq => h4.2.2 q hq) ?_
    refine W.widen (k := 600000) (n := 7302250) (Nat.le_of_ble_eq_true rfl) (Nat.le_of_ble_eq_true rfl) ?_
    exact lw_ret hx hb hr hlocks dL_law_638) 2571 0 sn_x0 sn_m0 (by omega) (by omega) (by omega) h00
  exact go H1 locs ls (lv_sub hl [3, 2, 1, 0] rfl) hP hD hS
