/-! abstract memory: cell, place, number; the worlds of the class and of the reference; the judgement J over them -/
abbrev sq_S : Type := Nat → Nat → Int
abbrev sq_G : Type := va_G × (ClassId × ClassId × ClassId) × (Nat → Nat)
def sq_z (a : Int) : Int32 := Int32.ofInt a
def sq_row (st : sq_S) (q : Nat) (F : Nat → Int) : sq_S := fun c => if c = q then F else st c
def sq_set (st : sq_S) (q k : Nat) (x : Int) : sq_S := sq_row st q (fun j => if j = k then x else st q j)
def sq_cp (f h : Nat → Int) (sp dp n : Nat) : Nat → Int := fun k => if dp ≤ k ∧ k < dp + n then f (sp + (k - dp)) else h k
abbrev sq_rg (a : Int) : Prop := -2147483648 ≤ a ∧ a ≤ 2147483647
abbrev sq_ib (i : Int) (n : Int) : Prop := 0 ≤ i ∧ i < n
def sq_and (a b : Int) : Int := (sq_z a &&& sq_z b).toInt
def sq_or (a b : Int) : Int := (sq_z a ||| sq_z b).toInt
def sq_xor (a b : Int) : Int := (sq_z a ^^^ sq_z b).toInt
def sq_shl (a b : Int) : Int := (sq_z a <<< (sq_z b &&& 31)).toInt
def sq_shr (a b : Int) : Int := (sq_z a >>> (sq_z b &&& 31)).toInt
def sq_ushr (a b : Int) : Int := ((sq_z a).toUInt32 >>> ((sq_z b).toUInt32 &&& Int32.toUInt32 31)).toInt32.toInt
def sq_tys (g : sq_G) : List (ClassId × FieldType) := [(g.2.1.1, .int), (g.2.1.2.1, .boolean), (g.2.1.2.2, .object "SecretSquares$Desk")]
def sq_im (g : sq_G) : Nat → Option Nat := fun k => if k = 0 then some (g.2.2 9) else if k = 1 then some (g.2.2 16) else none

def sq_X (g : sq_G) (st : sq_S) : va_W := [
  (g.2.2 0, .inr (3, [.ref (g.2.2 1), .int (sq_z (st 0 1)), .ref (g.2.2 2), .ref (g.2.2 23), .int (sq_z (st 0 4)), .ref (g.2.2 24), .ref (g.2.2 32), .ref (g.2.2 33)])),
  (g.2.2 1, .inl (g.2.1.1, 48, .inl (fun k => sq_z (st 1 k)))),
  (g.2.2 2, .inr (0, [.ref (g.2.2 3), .int (sq_z (st 2 1)), .ref (g.2.2 4), .int (sq_z (st 2 3)), .ref (g.2.2 5), .ref (g.2.2 6), .ref (g.2.2 7), .ref (g.2.2 8), .int (sq_z (st 2 8))])),
  (g.2.2 3, .inl (g.2.1.1, 48, .inl (fun k => sq_z (st 3 k)))),
  (g.2.2 4, .inl (g.2.1.1, 6, .inl (fun k => sq_z (st 4 k)))),
  (g.2.2 5, .inl (g.2.1.1, 16, .inl (fun k => sq_z (st 5 k)))),
  (g.2.2 6, .inl (g.2.1.1, 16, .inl (fun k => sq_z (st 6 k)))),
  (g.2.2 7, .inl (g.2.1.1, 480, .inl (fun k => sq_z (st 7 k)))),
  (g.2.2 8, .inl (g.2.1.1, 10, .inl (fun k => sq_z (st 8 k)))),
  (g.2.2 9, .inr (0, [.ref (g.2.2 10), .int (sq_z (st 9 1)), .ref (g.2.2 11), .int (sq_z (st 9 3)), .ref (g.2.2 12), .ref (g.2.2 13), .ref (g.2.2 14), .ref (g.2.2 15), .int (sq_z (st 9 8))])),
  (g.2.2 10, .inl (g.2.1.1, 48, .inl (fun k => sq_z (st 10 k)))),
  (g.2.2 11, .inl (g.2.1.1, 6, .inl (fun k => sq_z (st 11 k)))),
  (g.2.2 12, .inl (g.2.1.1, 16, .inl (fun k => sq_z (st 12 k)))),
  (g.2.2 13, .inl (g.2.1.1, 16, .inl (fun k => sq_z (st 13 k)))),
  (g.2.2 14, .inl (g.2.1.1, 480, .inl (fun k => sq_z (st 14 k)))),
  (g.2.2 15, .inl (g.2.1.1, 10, .inl (fun k => sq_z (st 15 k)))),
  (g.2.2 16, .inr (0, [.ref (g.2.2 17), .int (sq_z (st 16 1)), .ref (g.2.2 18), .int (sq_z (st 16 3)), .ref (g.2.2 19), .ref (g.2.2 20), .ref (g.2.2 21), .ref (g.2.2 22), .int (sq_z (st 16 8))])),
  (g.2.2 17, .inl (g.2.1.1, 48, .inl (fun k => sq_z (st 17 k)))),
  (g.2.2 18, .inl (g.2.1.1, 6, .inl (fun k => sq_z (st 18 k)))),
  (g.2.2 19, .inl (g.2.1.1, 16, .inl (fun k => sq_z (st 19 k)))),
  (g.2.2 20, .inl (g.2.1.1, 16, .inl (fun k => sq_z (st 20 k)))),
  (g.2.2 21, .inl (g.2.1.1, 480, .inl (fun k => sq_z (st 21 k)))),
  (g.2.2 22, .inl (g.2.1.1, 10, .inl (fun k => sq_z (st 22 k)))),
  (g.2.2 23, .inl (g.2.1.2.2, 2, .inr (.inr (.inr (.inr (sq_im g)))))),
  (g.2.2 24, .inr (2, [.ref (g.2.2 25), .ref (g.2.2 26), .ref (g.2.2 29), .ref (g.2.2 30), .ref (g.2.2 31)])),
  (g.2.2 25, .inl (g.2.1.1, 48, .inl (fun k => sq_z (st 25 k)))),
  (g.2.2 26, .inr (1, [.ref (g.2.2 27), .ref (g.2.2 28)])),
  (g.2.2 27, .inl (g.2.1.1, 16, .inl (fun k => sq_z (st 27 k)))),
  (g.2.2 28, .inl (g.2.1.1, 16, .inl (fun k => sq_z (st 28 k)))),
  (g.2.2 29, .inl (g.2.1.1, 6, .inl (fun k => sq_z (st 29 k)))),
  (g.2.2 30, .inl (g.2.1.1, 48, .inl (fun k => sq_z (st 30 k)))),
  (g.2.2 31, .inl (g.2.1.1, 96, .inl (fun k => sq_z (st 31 k)))),
  (g.2.2 32, .inl (g.2.1.1, 16, .inl (fun k => sq_z (st 32 k)))),
  (g.2.2 33, .inl (g.2.1.1, 6, .inl (fun k => sq_z (st 33 k))))]
def sq_M (g : sq_G) (st : sq_S) : va_W := [
  (g.2.2 0, .inr (4, [.ref (g.2.2 1), .ref (g.2.2 2), .ref (g.2.2 3), .ref (g.2.2 4), .int (sq_z (st 0 4)), .ref (g.2.2 5), .ref (g.2.2 6), .ref (g.2.2 7), .ref (g.2.2 8), .ref (g.2.2 9), .ref (g.2.2 10), .int (sq_z (st 0 11))])),
  (g.2.2 1, .inl (g.2.1.1, 819, .inl (fun k => sq_z (st 1 k)))),
  (g.2.2 2, .inl (g.2.1.1, 1638, .inl (fun k => sq_z (st 2 k)))),
  (g.2.2 3, .inl (g.2.1.2.1, 2, .inl (fun k => sq_z (st 3 k)))),
  (g.2.2 4, .inl (g.2.1.1, 48, .inl (fun k => sq_z (st 4 k)))),
  (g.2.2 5, .inl (g.2.1.1, 48, .inl (fun k => sq_z (st 5 k)))),
  (g.2.2 6, .inl (g.2.1.1, 48, .inl (fun k => sq_z (st 6 k)))),
  (g.2.2 7, .inl (g.2.1.1, 16, .inl (fun k => sq_z (st 7 k)))),
  (g.2.2 8, .inl (g.2.1.1, 6, .inl (fun k => sq_z (st 8 k)))),
  (g.2.2 9, .inl (g.2.1.1, 48, .inl (fun k => sq_z (st 9 k)))),
  (g.2.2 10, .inl (g.2.1.1, 96, .inl (fun k => sq_z (st 10 k))))]
/-- cell q is an array of ints of n places -/
def sq_ar (wl : sq_G → sq_S → va_W) (q n : Nat) : Prop := n < 2147483648 ∧ ∀ (g : sq_G) (st : sq_S), (wl g st)[q]? = some (g.2.2 q, .inl (g.2.1.1, n, .inl (fun k => sq_z (st q k)))) ∧ ∀ F : Nat → Int, (wl g st).set q (g.2.2 q, .inl (g.2.1.1, n, .inl (fun k => sq_z (F k)))) = wl g (sq_row st q F)
def sq_az (wl : sq_G → sq_S → va_W) (q n : Nat) : Prop := n < 2147483648 ∧ ∀ (g : sq_G) (st : sq_S), (wl g st)[q]? = some (g.2.2 q, .inl (g.2.1.2.1, n, .inl (fun k => sq_z (st q k)))) ∧ ∀ F : Nat → Int, (wl g st).set q (g.2.2 q, .inl (g.2.1.2.1, n, .inl (fun k => sq_z (F k)))) = wl g (sq_row st q F)
/-- cell q is an object of class ci; its field k is an int -/
def sq_fi (wl : sq_G → sq_S → va_W) (q ci k : Nat) : Prop := ∀ (g : sq_G) (st : sq_S), ∃ fs : List Value, (wl g st)[q]? = some (g.2.2 q, .inr (ci, fs)) ∧ fs[k]? = some (.int (sq_z (st q k))) ∧ k < fs.length ∧ ∀ x : Int, (wl g st).set q (g.2.2 q, .inr (ci, fs.set k (.int (sq_z x)))) = wl g (sq_set st q k x)
/-- .. its field k is a reference to cell r -/
def sq_fr (wl : sq_G → sq_S → va_W) (q ci k r : Nat) : Prop := ∀ (g : sq_G) (st : sq_S), ∃ fs : List Value, (wl g st)[q]? = some (g.2.2 q, .inr (ci, fs)) ∧ fs[k]? = some (.ref (g.2.2 r))

theorem aX_1 : sq_ar sq_X 1 48 := ⟨by decide, fun _ _ => ⟨rfl, fun _ => rfl⟩⟩
theorem aX_3 : sq_ar sq_X 3 48 := ⟨by decide, fun _ _ => ⟨rfl, fun _ => rfl⟩⟩
theorem aX_4 : sq_ar sq_X 4 6 := ⟨by decide, fun _ _ => ⟨rfl, fun _ => rfl⟩⟩
theorem aX_5 : sq_ar sq_X 5 16 := ⟨by decide, fun _ _ => ⟨rfl, fun _ => rfl⟩⟩
theorem aX_6 : sq_ar sq_X 6 16 := ⟨by decide, fun _ _ => ⟨rfl, fun _ => rfl⟩⟩
theorem aX_7 : sq_ar sq_X 7 480 := ⟨by decide, fun _ _ => ⟨rfl, fun _ => rfl⟩⟩
theorem aX_8 : sq_ar sq_X 8 10 := ⟨by decide, fun _ _ => ⟨rfl, fun _ => rfl⟩⟩
theorem aX_10 : sq_ar sq_X 10 48 := ⟨by decide, fun _ _ => ⟨rfl, fun _ => rfl⟩⟩
theorem aX_11 : sq_ar sq_X 11 6 := ⟨by decide, fun _ _ => ⟨rfl, fun _ => rfl⟩⟩
theorem aX_12 : sq_ar sq_X 12 16 := ⟨by decide, fun _ _ => ⟨rfl, fun _ => rfl⟩⟩
theorem aX_13 : sq_ar sq_X 13 16 := ⟨by decide, fun _ _ => ⟨rfl, fun _ => rfl⟩⟩
theorem aX_14 : sq_ar sq_X 14 480 := ⟨by decide, fun _ _ => ⟨rfl, fun _ => rfl⟩⟩
theorem aX_15 : sq_ar sq_X 15 10 := ⟨by decide, fun _ _ => ⟨rfl, fun _ => rfl⟩⟩
theorem aX_17 : sq_ar sq_X 17 48 := ⟨by decide, fun _ _ => ⟨rfl, fun _ => rfl⟩⟩
theorem aX_18 : sq_ar sq_X 18 6 := ⟨by decide, fun _ _ => ⟨rfl, fun _ => rfl⟩⟩
theorem aX_19 : sq_ar sq_X 19 16 := ⟨by decide, fun _ _ => ⟨rfl, fun _ => rfl⟩⟩
theorem aX_20 : sq_ar sq_X 20 16 := ⟨by decide, fun _ _ => ⟨rfl, fun _ => rfl⟩⟩
theorem aX_21 : sq_ar sq_X 21 480 := ⟨by decide, fun _ _ => ⟨rfl, fun _ => rfl⟩⟩
theorem aX_22 : sq_ar sq_X 22 10 := ⟨by decide, fun _ _ => ⟨rfl, fun _ => rfl⟩⟩
theorem aX_25 : sq_ar sq_X 25 48 := ⟨by decide, fun _ _ => ⟨rfl, fun _ => rfl⟩⟩
theorem aX_27 : sq_ar sq_X 27 16 := ⟨by decide, fun _ _ => ⟨rfl, fun _ => rfl⟩⟩
theorem aX_28 : sq_ar sq_X 28 16 := ⟨by decide, fun _ _ => ⟨rfl, fun _ => rfl⟩⟩
theorem aX_29 : sq_ar sq_X 29 6 := ⟨by decide, fun _ _ => ⟨rfl, fun _ => rfl⟩⟩
theorem aX_30 : sq_ar sq_X 30 48 := ⟨by decide, fun _ _ => ⟨rfl, fun _ => rfl⟩⟩
theorem aX_31 : sq_ar sq_X 31 96 := ⟨by decide, fun _ _ => ⟨rfl, fun _ => rfl⟩⟩
theorem aX_32 : sq_ar sq_X 32 16 := ⟨by decide, fun _ _ => ⟨rfl, fun _ => rfl⟩⟩
theorem aX_33 : sq_ar sq_X 33 6 := ⟨by decide, fun _ _ => ⟨rfl, fun _ => rfl⟩⟩
theorem aM_1 : sq_ar sq_M 1 819 := ⟨by decide, fun _ _ => ⟨rfl, fun _ => rfl⟩⟩
theorem aM_2 : sq_ar sq_M 2 1638 := ⟨by decide, fun _ _ => ⟨rfl, fun _ => rfl⟩⟩
theorem aM_4 : sq_ar sq_M 4 48 := ⟨by decide, fun _ _ => ⟨rfl, fun _ => rfl⟩⟩
theorem aM_5 : sq_ar sq_M 5 48 := ⟨by decide, fun _ _ => ⟨rfl, fun _ => rfl⟩⟩
theorem aM_6 : sq_ar sq_M 6 48 := ⟨by decide, fun _ _ => ⟨rfl, fun _ => rfl⟩⟩
theorem aM_7 : sq_ar sq_M 7 16 := ⟨by decide, fun _ _ => ⟨rfl, fun _ => rfl⟩⟩
theorem aM_8 : sq_ar sq_M 8 6 := ⟨by decide, fun _ _ => ⟨rfl, fun _ => rfl⟩⟩
theorem aM_9 : sq_ar sq_M 9 48 := ⟨by decide, fun _ _ => ⟨rfl, fun _ => rfl⟩⟩
theorem aM_10 : sq_ar sq_M 10 96 := ⟨by decide, fun _ _ => ⟨rfl, fun _ => rfl⟩⟩
theorem aM_3 : sq_az sq_M 3 2 := ⟨by decide, fun _ _ => ⟨rfl, fun _ => rfl⟩⟩
theorem fX_0_0 : sq_fr sq_X 0 3 0 1 := fun _ _ => ⟨_, rfl, rfl⟩
theorem fX_0_2 : sq_fr sq_X 0 3 2 2 := fun _ _ => ⟨_, rfl, rfl⟩
theorem fX_0_3 : sq_fr sq_X 0 3 3 23 := fun _ _ => ⟨_, rfl, rfl⟩
theorem fX_0_5 : sq_fr sq_X 0 3 5 24 := fun _ _ => ⟨_, rfl, rfl⟩
theorem fX_0_6 : sq_fr sq_X 0 3 6 32 := fun _ _ => ⟨_, rfl, rfl⟩
theorem fX_0_7 : sq_fr sq_X 0 3 7 33 := fun _ _ => ⟨_, rfl, rfl⟩
theorem fX_0_1 : sq_fi sq_X 0 3 1 := fun _ _ => ⟨_, rfl, rfl, Nat.le_of_ble_eq_true rfl, fun _ => rfl⟩
theorem fX_0_4 : sq_fi sq_X 0 3 4 := fun _ _ => ⟨_, rfl, rfl, Nat.le_of_ble_eq_true rfl, fun _ => rfl⟩
theorem fX_2_0 : sq_fr sq_X 2 0 0 3 := fun _ _ => ⟨_, rfl, rfl⟩
theorem fX_2_2 : sq_fr sq_X 2 0 2 4 := fun _ _ => ⟨_, rfl, rfl⟩
theorem fX_2_4 : sq_fr sq_X 2 0 4 5 := fun _ _ => ⟨_, rfl, rfl⟩
theorem fX_2_5 : sq_fr sq_X 2 0 5 6 := fun _ _ => ⟨_, rfl, rfl⟩
theorem fX_2_6 : sq_fr sq_X 2 0 6 7 := fun _ _ => ⟨_, rfl, rfl⟩
theorem fX_2_7 : sq_fr sq_X 2 0 7 8 := fun _ _ => ⟨_, rfl, rfl⟩
theorem fX_2_1 : sq_fi sq_X 2 0 1 := fun _ _ => ⟨_, rfl, rfl, Nat.le_of_ble_eq_true rfl, fun _ => rfl⟩
theorem fX_2_3 : sq_fi sq_X 2 0 3 := fun _ _ => ⟨_, rfl, rfl, Nat.le_of_ble_eq_true rfl, fun _ => rfl⟩
theorem fX_2_8 : sq_fi sq_X 2 0 8 := fun _ _ => ⟨_, rfl, rfl, Nat.le_of_ble_eq_true rfl, fun _ => rfl⟩
theorem fX_9_0 : sq_fr sq_X 9 0 0 10 := fun _ _ => ⟨_, rfl, rfl⟩
theorem fX_9_2 : sq_fr sq_X 9 0 2 11 := fun _ _ => ⟨_, rfl, rfl⟩
theorem fX_9_4 : sq_fr sq_X 9 0 4 12 := fun _ _ => ⟨_, rfl, rfl⟩
theorem fX_9_5 : sq_fr sq_X 9 0 5 13 := fun _ _ => ⟨_, rfl, rfl⟩
theorem fX_9_6 : sq_fr sq_X 9 0 6 14 := fun _ _ => ⟨_, rfl, rfl⟩
theorem fX_9_7 : sq_fr sq_X 9 0 7 15 := fun _ _ => ⟨_, rfl, rfl⟩
theorem fX_9_1 : sq_fi sq_X 9 0 1 := fun _ _ => ⟨_, rfl, rfl, Nat.le_of_ble_eq_true rfl, fun _ => rfl⟩
theorem fX_9_3 : sq_fi sq_X 9 0 3 := fun _ _ => ⟨_, rfl, rfl, Nat.le_of_ble_eq_true rfl, fun _ => rfl⟩
theorem fX_9_8 : sq_fi sq_X 9 0 8 := fun _ _ => ⟨_, rfl, rfl, Nat.le_of_ble_eq_true rfl, fun _ => rfl⟩
theorem fX_16_0 : sq_fr sq_X 16 0 0 17 := fun _ _ => ⟨_, rfl, rfl⟩
theorem fX_16_2 : sq_fr sq_X 16 0 2 18 := fun _ _ => ⟨_, rfl, rfl⟩
theorem fX_16_4 : sq_fr sq_X 16 0 4 19 := fun _ _ => ⟨_, rfl, rfl⟩
theorem fX_16_5 : sq_fr sq_X 16 0 5 20 := fun _ _ => ⟨_, rfl, rfl⟩
theorem fX_16_6 : sq_fr sq_X 16 0 6 21 := fun _ _ => ⟨_, rfl, rfl⟩
theorem fX_16_7 : sq_fr sq_X 16 0 7 22 := fun _ _ => ⟨_, rfl, rfl⟩
theorem fX_16_1 : sq_fi sq_X 16 0 1 := fun _ _ => ⟨_, rfl, rfl, Nat.le_of_ble_eq_true rfl, fun _ => rfl⟩
theorem fX_16_3 : sq_fi sq_X 16 0 3 := fun _ _ => ⟨_, rfl, rfl, Nat.le_of_ble_eq_true rfl, fun _ => rfl⟩
theorem fX_16_8 : sq_fi sq_X 16 0 8 := fun _ _ => ⟨_, rfl, rfl, Nat.le_of_ble_eq_true rfl, fun _ => rfl⟩
theorem fX_24_0 : sq_fr sq_X 24 2 0 25 := fun _ _ => ⟨_, rfl, rfl⟩
theorem fX_24_1 : sq_fr sq_X 24 2 1 26 := fun _ _ => ⟨_, rfl, rfl⟩
theorem fX_24_2 : sq_fr sq_X 24 2 2 29 := fun _ _ => ⟨_, rfl, rfl⟩
theorem fX_24_3 : sq_fr sq_X 24 2 3 30 := fun _ _ => ⟨_, rfl, rfl⟩
theorem fX_24_4 : sq_fr sq_X 24 2 4 31 := fun _ _ => ⟨_, rfl, rfl⟩
theorem fX_26_0 : sq_fr sq_X 26 1 0 27 := fun _ _ => ⟨_, rfl, rfl⟩
theorem fX_26_1 : sq_fr sq_X 26 1 1 28 := fun _ _ => ⟨_, rfl, rfl⟩
theorem fM_0_0 : sq_fr sq_M 0 4 0 1 := fun _ _ => ⟨_, rfl, rfl⟩
theorem fM_0_1 : sq_fr sq_M 0 4 1 2 := fun _ _ => ⟨_, rfl, rfl⟩
theorem fM_0_2 : sq_fr sq_M 0 4 2 3 := fun _ _ => ⟨_, rfl, rfl⟩
theorem fM_0_3 : sq_fr sq_M 0 4 3 4 := fun _ _ => ⟨_, rfl, rfl⟩
theorem fM_0_5 : sq_fr sq_M 0 4 5 5 := fun _ _ => ⟨_, rfl, rfl⟩
theorem fM_0_6 : sq_fr sq_M 0 4 6 6 := fun _ _ => ⟨_, rfl, rfl⟩
theorem fM_0_7 : sq_fr sq_M 0 4 7 7 := fun _ _ => ⟨_, rfl, rfl⟩
theorem fM_0_8 : sq_fr sq_M 0 4 8 8 := fun _ _ => ⟨_, rfl, rfl⟩
theorem fM_0_9 : sq_fr sq_M 0 4 9 9 := fun _ _ => ⟨_, rfl, rfl⟩
theorem fM_0_10 : sq_fr sq_M 0 4 10 10 := fun _ _ => ⟨_, rfl, rfl⟩
theorem fM_0_4 : sq_fi sq_M 0 4 4 := fun _ _ => ⟨_, rfl, rfl, Nat.le_of_ble_eq_true rfl, fun _ => rfl⟩
theorem fM_0_11 : sq_fi sq_M 0 4 11 := fun _ _ => ⟨_, rfl, rfl, Nat.le_of_ble_eq_true rfl, fun _ => rfl⟩

theorem sq_zt {a : Int} (h : sq_rg a) : (sq_z a).toInt = a := Int32.toInt_ofInt_of_le (by omega) (by omega)
theorem sq_zq (x : Int32) : sq_z x.toInt = x := Int32.ofInt_toInt x
theorem sq_zn (n : Nat) : sq_z (n : Int) = nI n := Int32.ofInt_eq_ofNat
theorem sq_zlt {a b : Int} (ha : sq_rg a) (hb : sq_rg b) : sq_z a < sq_z b ↔ a < b := by rw [Int32.lt_iff_toInt_lt, sq_zt ha, sq_zt hb]
theorem sq_zle {a b : Int} (ha : sq_rg a) (hb : sq_rg b) : sq_z a ≤ sq_z b ↔ a ≤ b := by rw [Int32.le_iff_toInt_le, sq_zt ha, sq_zt hb]
theorem sq_zeq {a b : Int} (ha : sq_rg a) (hb : sq_rg b) : sq_z a = sq_z b ↔ a = b := by rw [← Int32.toInt_inj, sq_zt ha, sq_zt hb]
theorem sq_z0 : (0 : Int32) = sq_z 0 := rfl
theorem sq_r0 : sq_rg 0 := by decide
theorem sq_zadd (a b : Int) : sq_z a + sq_z b = sq_z (a + b) := (Int32.ofInt_add a b).symm
theorem sq_zsub (a b : Int) : sq_z a - sq_z b = sq_z (a - b) := (Int32.ofInt_sub a b).symm
theorem sq_zmul (a b : Int) : sq_z a * sq_z b = sq_z (a * b) := (Int32.ofInt_mul a b).symm
theorem sq_zneg (a : Int) : - sq_z a = sq_z (-a) := (Int32.ofInt_neg a).symm
theorem sq_zdiv {a b : Int} (ha : 0 ≤ a ∧ a ≤ 2147483647) (hb : 0 < b ∧ b ≤ 2147483647) : sq_z a / sq_z b = sq_z (a / b) := by
  obtain ⟨n, rfl⟩ := Int.eq_ofNat_of_zero_le ha.1
  obtain ⟨d, rfl⟩ := Int.eq_ofNat_of_zero_le (Int.le_of_lt hb.1)
  rw [← Int.natCast_ediv, sq_zn, sq_zn, sq_zn]
  exact pk_div (by omega) (by omega) (by omega)
theorem sq_zrem {a b : Int} (ha : 0 ≤ a ∧ a ≤ 2147483647) (hb : 0 < b ∧ b ≤ 2147483647) : sq_z a - sq_z a / sq_z b * sq_z b = sq_z (a % b) := by
  obtain ⟨n, rfl⟩ := Int.eq_ofNat_of_zero_le ha.1
  obtain ⟨d, rfl⟩ := Int.eq_ofNat_of_zero_le (Int.le_of_lt hb.1)
  rw [← Int.natCast_emod, sq_zn, sq_zn, sq_zn]
  exact pk_rem (by omega) (by omega) (by omega)
theorem sq_zne {b : Int} (hb : 0 < b ∧ b ≤ 2147483647) : ¬ sq_z b = 0 := by
  rw [sq_z0, sq_zeq (by omega) sq_r0]
  omega
theorem sq_zin {i : Int} {n : Nat} (hn : n < 2147483648) (h : sq_ib i n) : vp_in (sq_z i) n := by
  rw [vp_in_iff, sq_zt (by omega)]
  exact h
theorem sq_zc {i : Int} {n : Nat} (hn : n < 2147483648) (h : sq_ib i n) : (sq_z i).toNatClampNeg = i.toNat := by
  show (sq_z i).toInt.toNat = i.toNat
  rw [sq_zt (by omega)]
theorem sq_upd (st : sq_S) (q k : Nat) (x : Int) : upd (fun j => sq_z (st q j)) k (sq_z x) = fun j => sq_z ((fun j => if j = k then x else st q j) j) := by
  funext j
  by_cases h : j = k <;> simp [upd, h]
theorem sq_cpz (f h : Nat → Int) (sp dp n : Nat) : va_cpy (fun j => sq_z (f j)) (fun j => sq_z (h j)) sp dp n = fun j => sq_z (sq_cp f h sp dp n j) := by
  funext j
  unfold va_cpy sq_cp
  by_cases hj : dp ≤ j ∧ j < dp + n
  · rw [if_pos hj, if_pos hj]
  · rw [if_neg hj, if_neg hj]
abbrev sq_K : Type := Nat → List (Nat × Value) → List Value → sq_S → Prop
def sq_j (p : Program) (l : Launch) (e : Env) (R : Room) (s : State) (m : MethodId) (args : Array Value) (below : List Frame) (meth : Method) (c : Code) (g : sq_G) (wl : sq_G → sq_S → va_W) (A : Nat → Prop) (nL cells slots : Nat) (Q : State → Prop) : sq_K := fun pc lv stk st =>
  ∀ (H : Heap) (locs : List Loc) (ls : Array Slot), lv_has ls nL lv → va_P g.1 vwCl (wl g st) H → va_D A (wl g st) → va_S A s.heap H locs → W p l e R s m args below meth c H locs cells slots Q (F0 m pc ls stk)
def sq_J (l : Launch) (R : Room) (cc : ByteArray) (nL : Nat) (own : String) (Ts : List Cond) (g : sq_G) (wl : sq_G → sq_S → va_W) (J : sq_K) : Prop :=
  ∃ (p : Program) (e : Env) (s : State) (m : MethodId) (args : Array Value) (below : List Frame) (meth : Method) (c : Code) (A : Nat → Prop) (cells slots : Nat) (Q : State → Prop), p.tables.exec = Jvm.exec ∧ c.code = cc ∧ c.maxLocals = nL ∧ s.vm.findClass own = some m.cls ∧ (∀ w ∈ Ts, w.before args s = true) ∧ va_K g.1 vwCl (sq_tys g) s ∧ (∀ q, s.heap.size ≤ q → A q) ∧ cells ≤ R.cells ∧ slots ≤ R.slots ∧ J = sq_j p l e R s m args below meth c g wl A nL cells slots Q
def sq_P (g : sq_G) (wl : sq_G → sq_S → va_W) (av : List Value) (st : sq_S) (sz : Nat) : Array Value → State → Prop := va_Pc av (fun U => U.heap.size = sz ∧ va_P g.1 vwCl (wl g st) U.heap ∧ va_K g.1 vwCl (sq_tys g) U ∧ va_D (fun _ => True) (wl g st))
def sq_B (g : sq_G) (wl : sq_G → sq_S → va_W) (st : sq_S) (sz : Nat) (u : sq_S) (t : State) : Prop := va_P g.1 vwCl (wl g u) t.heap ∧ va_K g.1 vwCl (sq_tys g) t ∧ va_D (va_A (wl g st) sz) (wl g u)
def sq_Qi (g : sq_G) (wl : sq_G → sq_S → va_W) (st : sq_S) (sz : Nat) (Q : Int → sq_S → Prop) : Array Value → State → Outcome → State → Prop := va_Qi (S := Int × sq_S) (fun r u => r = sq_z u.1 ∧ Q u.1 u.2) (fun u t => sq_B g wl st sz u.2 t) (va_A (wl g st) sz)
def sq_Qv (g : sq_G) (wl : sq_G → sq_S → va_W) (st : sq_S) (sz : Nat) (Q : Int → sq_S → Prop) : Array Value → State → Outcome → State → Prop := va_Qv (S := sq_S) (fun u => Q 0 u) (fun u t => sq_B g wl st sz u t) (va_A (wl g st) sz)
/-- a contract: with an int (or boolean), or with nothing -/
def sq_Ci (l : Launch) (y : MethodName) (ws : List Cond) (rm : Room) (g : sq_G) (wl : sq_G → sq_S → va_W) (av : List Value) (st : sq_S) (Q : Int → sq_S → Prop) : Prop := ∀ sz : Nat, Met l y ws rm (sq_P g wl av st sz) (sq_Qi g wl st sz Q) 0 0 (va_A (wl g st) sz)
def sq_Cv (l : Launch) (y : MethodName) (ws : List Cond) (rm : Room) (g : sq_G) (wl : sq_G → sq_S → va_W) (av : List Value) (st : sq_S) (Q : Int → sq_S → Prop) : Prop := ∀ sz : Nat, Met l y ws rm (sq_P g wl av st sz) (sq_Qv g wl st sz Q) 0 0 (va_A (wl g st) sz)
theorem sq_blind (g : sq_G) (wl : sq_G → sq_S → va_W) (av : List Value) (st : sq_S) (sz : Nat) : FrameBlind (sq_P g wl av st sz) := fun a U g' mk q => by
  obtain ⟨q0, q1, qP, qK, qD⟩ := q
  exact ⟨q0, q1, qP, va_K.moved (u := U) (U := U.calling g' mk a) (Vm.Alike.refl U.vm) qK, qD⟩
section SQR
variable {l : Launch} {R : Room} {cc : ByteArray} {nL : Nat} {own : String} {Ts : List Cond} {g : sq_G} {wl : sq_G → sq_S → va_W} {J : sq_K}
variable {pc : Nat} {lv : List (Nat × Value)} {stk : List Value} {st : sq_S}

theorem sj_iconst (S : sq_J l R cc nL own Ts g wl J) {n : Int} (hd : decode cc pc = .ok (.iconst n, 1)) (k : J (pc + 1) lv (.int (sq_z n) :: stk) st) : J pc lv (stk) st := by
  obtain ⟨p, e, s, m, args, below, meth, c, A, cells, slots, Qs, hx, hb, hml, hown, hts, hK, hA, hc1, hc2, rfl⟩ := S
  intro H locs ls h1 h2 h3 h4
  exact lv_iconst hx hb hd rfl (k H locs ls h1 h2 h3 h4)
theorem sj_bipush (S : sq_J l R cc nL own Ts g wl J) {n : Int} (hd : decode cc pc = .ok (.bipush n, 2)) (hv : (Int8.ofInt n).toInt32 = sq_z n) (k : J (pc + 2) lv (.int (sq_z n) :: stk) st) : J pc lv (stk) st := by
  obtain ⟨p, e, s, m, args, below, meth, c, A, cells, slots, Qs, hx, hb, hml, hown, hts, hK, hA, hc1, hc2, rfl⟩ := S
  intro H locs ls h1 h2 h3 h4
  exact lv_bipush hx hb hd hv (k H locs ls h1 h2 h3 h4)
theorem sj_sipush (S : sq_J l R cc nL own Ts g wl J) {n : Int} (hd : decode cc pc = .ok (.sipush n, 3)) (hv : (Int16.ofInt n).toInt32 = sq_z n) (k : J (pc + 3) lv (.int (sq_z n) :: stk) st) : J pc lv (stk) st := by
  obtain ⟨p, e, s, m, args, below, meth, c, A, cells, slots, Qs, hx, hb, hml, hown, hts, hK, hA, hc1, hc2, rfl⟩ := S
  intro H locs ls h1 h2 h3 h4
  exact lv_sipush hx hb hd hv (k H locs ls h1 h2 h3 h4)
theorem sj_ldc (S : sq_J l R cc nL own Ts g wl J) {n : Int} {ix : Nat} {v : Int32} (hd : decode cc pc = .ok (.ldc ix, 2)) (hw : Cond.constant own ix v ∈ Ts) (hv : v = sq_z n) (k : J (pc + 2) lv (.int (sq_z n) :: stk) st) : J pc lv (stk) st := by
  obtain ⟨p, e, s, m, args, below, meth, c, A, cells, slots, Qs, hx, hb, hml, hown, hts, hK, hA, hc1, hc2, rfl⟩ := S
  intro H locs ls h1 h2 h3 h4
  subst hv
  exact lv_ldc hx hb hown (hts _ hw) hd (k H locs ls h1 h2 h3 h4)
theorem sj_ldcw (S : sq_J l R cc nL own Ts g wl J) {n : Int} {ix : Nat} {v : Int32} (hd : decode cc pc = .ok (.ldc_w ix, 3)) (hw : Cond.constant own ix v ∈ Ts) (hv : v = sq_z n) (k : J (pc + 3) lv (.int (sq_z n) :: stk) st) : J pc lv (stk) st := by
  obtain ⟨p, e, s, m, args, below, meth, c, A, cells, slots, Qs, hx, hb, hml, hown, hts, hK, hA, hc1, hc2, rfl⟩ := S
  intro H locs ls h1 h2 h3 h4
  subst hv
  exact lv_ldcw hx hb hown (hts _ hw) hd (k H locs ls h1 h2 h3 h4)
theorem sj_iload_n (S : sq_J l R cc nL own Ts g wl J) {kk : Fin 4} {i pl : Nat} {x : Int32} (hd : decode cc pc = .ok (.iload_n kk, 1)) (hi : (kk : Nat) = i) (hl : lv[pl]? = some (i, .int x)) (k : J (pc + 1) lv (.int x :: stk) st) : J pc lv (stk) st := by
  obtain ⟨p, e, s, m, args, below, meth, c, A, cells, slots, Qs, hx, hb, hml, hown, hts, hK, hA, hc1, hc2, rfl⟩ := S
  intro H locs ls h1 h2 h3 h4
  exact lv_iload_n hx hb hd hi (lv_at h1 pl hl) (k H locs ls h1 h2 h3 h4)
theorem sj_iload (S : sq_J l R cc nL own Ts g wl J) {i pl : Nat} {x : Int32} (hd : decode cc pc = .ok (.iload i, 2)) (hl : lv[pl]? = some (i, .int x)) (k : J (pc + 2) lv (.int x :: stk) st) : J pc lv (stk) st := by
  obtain ⟨p, e, s, m, args, below, meth, c, A, cells, slots, Qs, hx, hb, hml, hown, hts, hK, hA, hc1, hc2, rfl⟩ := S
  intro H locs ls h1 h2 h3 h4
  exact lv_iload hx hb hd (lv_at h1 pl hl) (k H locs ls h1 h2 h3 h4)
theorem sj_aload_n (S : sq_J l R cc nL own Ts g wl J) {kk : Fin 4} {i pl : Nat} {x : Nat} (hd : decode cc pc = .ok (.aload_n kk, 1)) (hi : (kk : Nat) = i) (hl : lv[pl]? = some (i, .ref x)) (k : J (pc + 1) lv (.ref x :: stk) st) : J pc lv (stk) st := by
  obtain ⟨p, e, s, m, args, below, meth, c, A, cells, slots, Qs, hx, hb, hml, hown, hts, hK, hA, hc1, hc2, rfl⟩ := S
  intro H locs ls h1 h2 h3 h4
  exact lv_aload_n hx hb hd hi (lv_at h1 pl hl) (k H locs ls h1 h2 h3 h4)
theorem sj_aload (S : sq_J l R cc nL own Ts g wl J) {i pl : Nat} {x : Nat} (hd : decode cc pc = .ok (.aload i, 2)) (hl : lv[pl]? = some (i, .ref x)) (k : J (pc + 2) lv (.ref x :: stk) st) : J pc lv (stk) st := by
  obtain ⟨p, e, s, m, args, below, meth, c, A, cells, slots, Qs, hx, hb, hml, hown, hts, hK, hA, hc1, hc2, rfl⟩ := S
  intro H locs ls h1 h2 h3 h4
  exact lv_aload hx hb hd (lv_at h1 pl hl) (k H locs ls h1 h2 h3 h4)
theorem sj_istore_n (S : sq_J l R cc nL own Ts g wl J) {kk : Fin 4} {i : Nat} {x : Int} {lv' : List (Nat × Value)} (hd : decode cc pc = .ok (.istore_n kk, 1)) (hi : (kk : Nat) = i) (hn : i < nL) (hl : ∀ y : Int, (i, Value.int (sq_z y)) :: lv.filter (fun q => !(q.1 == i) && !(q.1 + 1 == i && q.2.category == 2)) = (i, Value.int (sq_z y)) :: lv') (k : ∀ y : Int, y = x → J (pc + 1) ((i, .int (sq_z y)) :: lv') stk st) : J pc lv (.int (sq_z x) :: stk) st := by
  obtain ⟨p, e, s, m, args, below, meth, c, A, cells, slots, Qs, hx, hb, hml, hown, hts, hK, hA, hc1, hc2, rfl⟩ := S
  intro H locs ls h1 h2 h3 h4
  exact lv_istore_n hx hb hd hi h1 hn (hl x) (fun ls' h1' => k x rfl H locs ls' h1' h2 h3 h4)
theorem sj_istore (S : sq_J l R cc nL own Ts g wl J) {i : Nat} {x : Int} {lv' : List (Nat × Value)} (hd : decode cc pc = .ok (.istore i, 2)) (hn : i < nL) (hl : ∀ y : Int, (i, Value.int (sq_z y)) :: lv.filter (fun q => !(q.1 == i) && !(q.1 + 1 == i && q.2.category == 2)) = (i, Value.int (sq_z y)) :: lv') (k : ∀ y : Int, y = x → J (pc + 2) ((i, .int (sq_z y)) :: lv') stk st) : J pc lv (.int (sq_z x) :: stk) st := by
  obtain ⟨p, e, s, m, args, below, meth, c, A, cells, slots, Qs, hx, hb, hml, hown, hts, hK, hA, hc1, hc2, rfl⟩ := S
  intro H locs ls h1 h2 h3 h4
  exact lv_istore hx hb hd h1 hn (hl x) (fun ls' h1' => k x rfl H locs ls' h1' h2 h3 h4)
theorem sj_istore_na (S : sq_J l R cc nL own Ts g wl J) {kk : Fin 4} {i : Nat} {x : Int} {lv' : List (Nat × Value)} (hd : decode cc pc = .ok (.istore_n kk, 1)) (hi : (kk : Nat) = i) (hn : i < nL) (hl : ∀ y : Int, (i, Value.int (sq_z y)) :: lv.filter (fun q => !(q.1 == i) && !(q.1 + 1 == i && q.2.category == 2)) = (i, Value.int (sq_z y)) :: lv') (k : J (pc + 1) ((i, .int (sq_z x)) :: lv') stk st) : J pc lv (.int (sq_z x) :: stk) st := by
  obtain ⟨p, e, s, m, args, below, meth, c, A, cells, slots, Qs, hx, hb, hml, hown, hts, hK, hA, hc1, hc2, rfl⟩ := S
  intro H locs ls h1 h2 h3 h4
  exact lv_istore_n hx hb hd hi h1 hn (hl x) (fun ls' h1' => k H locs ls' h1' h2 h3 h4)
theorem sj_istorea (S : sq_J l R cc nL own Ts g wl J) {i : Nat} {x : Int} {lv' : List (Nat × Value)} (hd : decode cc pc = .ok (.istore i, 2)) (hn : i < nL) (hl : ∀ y : Int, (i, Value.int (sq_z y)) :: lv.filter (fun q => !(q.1 == i) && !(q.1 + 1 == i && q.2.category == 2)) = (i, Value.int (sq_z y)) :: lv') (k : J (pc + 2) ((i, .int (sq_z x)) :: lv') stk st) : J pc lv (.int (sq_z x) :: stk) st := by
  obtain ⟨p, e, s, m, args, below, meth, c, A, cells, slots, Qs, hx, hb, hml, hown, hts, hK, hA, hc1, hc2, rfl⟩ := S
  intro H locs ls h1 h2 h3 h4
  exact lv_istore hx hb hd h1 hn (hl x) (fun ls' h1' => k H locs ls' h1' h2 h3 h4)
theorem sj_astore_n (S : sq_J l R cc nL own Ts g wl J) {kk : Fin 4} {i x : Nat} {lv' : List (Nat × Value)} (hd : decode cc pc = .ok (.astore_n kk, 1)) (hi : (kk : Nat) = i) (hn : i < nL) (hl : (i, Value.ref x) :: lv.filter (fun q => !(q.1 == i) && !(q.1 + 1 == i && q.2.category == 2)) = lv') (k : J (pc + 1) lv' stk st) : J pc lv (.ref x :: stk) st := by
  obtain ⟨p, e, s, m, args, below, meth, c, A, cells, slots, Qs, hx, hb, hml, hown, hts, hK, hA, hc1, hc2, rfl⟩ := S
  intro H locs ls h1 h2 h3 h4
  exact lv_astore_n hx hb hd hi h1 hn hl (fun ls' h1' => k H locs ls' h1' h2 h3 h4)
theorem sj_astore (S : sq_J l R cc nL own Ts g wl J) {i x : Nat} {lv' : List (Nat × Value)} (hd : decode cc pc = .ok (.astore i, 2)) (hn : i < nL) (hl : (i, Value.ref x) :: lv.filter (fun q => !(q.1 == i) && !(q.1 + 1 == i && q.2.category == 2)) = lv') (k : J (pc + 2) lv' stk st) : J pc lv (.ref x :: stk) st := by
  obtain ⟨p, e, s, m, args, below, meth, c, A, cells, slots, Qs, hx, hb, hml, hown, hts, hK, hA, hc1, hc2, rfl⟩ := S
  intro H locs ls h1 h2 h3 h4
  exact lv_astore hx hb hd h1 hn hl (fun ls' h1' => k H locs ls' h1' h2 h3 h4)
theorem sj_iinc (S : sq_J l R cc nL own Ts g wl J) {i pl : Nat} {n x : Int} {lv' : List (Nat × Value)} (hd : decode cc pc = .ok (.iinc i n, 3)) (hp : lv[pl]? = some (i, .int (sq_z x))) (hn : i < nL) (hl : ∀ y : Int, (i, Value.int (sq_z y)) :: lv.filter (fun q => !(q.1 == i) && !(q.1 + 1 == i && q.2.category == 2)) = (i, Value.int (sq_z y)) :: lv') (k : J (pc + 3) ((i, .int (sq_z (x + n))) :: lv') stk st) : J pc lv stk st := by
  obtain ⟨p, e, s, m, args, below, meth, c, A, cells, slots, Qs, hx, hb, hml, hown, hts, hK, hA, hc1, hc2, rfl⟩ := S
  intro H locs ls h1 h2 h3 h4
  exact lv_iinc hx hb hd h1 hp (sq_zadd x n) hn (hl (x + n)) (fun ls' h1' => k H locs ls' h1' h2 h3 h4)
theorem sj_lv (S : sq_J l R cc nL own Ts g wl J) {lv' : List (Nat × Value)} (ps : List Nat) (hl : lv_pick lv ps = lv') (k : J pc lv' stk st) : J pc lv stk st := by
  obtain ⟨p, e, s, m, args, below, meth, c, A, cells, slots, Qs, hx, hb, hml, hown, hts, hK, hA, hc1, hc2, rfl⟩ := S
  intro H locs ls h1 h2 h3 h4
  exact k H locs ls (lv_sub h1 ps hl) h2 h3 h4
theorem sj_iadd (S : sq_J l R cc nL own Ts g wl J) {x y : Int} (hd : decode cc pc = .ok (.iadd, 1)) (k : J (pc + 1) lv (.int (sq_z (x + y)) :: stk) st) : J pc lv (.int (sq_z y) :: .int (sq_z x) :: stk) st := by
  obtain ⟨p, e, s, m, args, below, meth, c, A, cells, slots, Qs, hx, hb, hml, hown, hts, hK, hA, hc1, hc2, rfl⟩ := S
  intro H locs ls h1 h2 h3 h4
  have k1 := k H locs ls h1 h2 h3 h4
  rw [← sq_zadd] at k1
  exact lv_iadd hx hb hd k1
theorem sj_isub (S : sq_J l R cc nL own Ts g wl J) {x y : Int} (hd : decode cc pc = .ok (.isub, 1)) (k : J (pc + 1) lv (.int (sq_z (x - y)) :: stk) st) : J pc lv (.int (sq_z y) :: .int (sq_z x) :: stk) st := by
  obtain ⟨p, e, s, m, args, below, meth, c, A, cells, slots, Qs, hx, hb, hml, hown, hts, hK, hA, hc1, hc2, rfl⟩ := S
  intro H locs ls h1 h2 h3 h4
  have k1 := k H locs ls h1 h2 h3 h4
  rw [← sq_zsub] at k1
  exact lv_isub hx hb hd k1
theorem sj_imul (S : sq_J l R cc nL own Ts g wl J) {x y : Int} (hd : decode cc pc = .ok (.imul, 1)) (k : J (pc + 1) lv (.int (sq_z (x * y)) :: stk) st) : J pc lv (.int (sq_z y) :: .int (sq_z x) :: stk) st := by
  obtain ⟨p, e, s, m, args, below, meth, c, A, cells, slots, Qs, hx, hb, hml, hown, hts, hK, hA, hc1, hc2, rfl⟩ := S
  intro H locs ls h1 h2 h3 h4
  have k1 := k H locs ls h1 h2 h3 h4
  rw [← sq_zmul] at k1
  exact lv_imul hx hb hd k1
theorem sj_iand (S : sq_J l R cc nL own Ts g wl J) {x y : Int} (hd : decode cc pc = .ok (.iand, 1)) (k : J (pc + 1) lv (.int (sq_z (sq_and x y)) :: stk) st) : J pc lv (.int (sq_z y) :: .int (sq_z x) :: stk) st := by
  obtain ⟨p, e, s, m, args, below, meth, c, A, cells, slots, Qs, hx, hb, hml, hown, hts, hK, hA, hc1, hc2, rfl⟩ := S
  intro H locs ls h1 h2 h3 h4
  have k1 := k H locs ls h1 h2 h3 h4
  unfold sq_and at k1
  rw [sq_zq] at k1
  exact lv_iand hx hb hd k1
theorem sj_ior (S : sq_J l R cc nL own Ts g wl J) {x y : Int} (hd : decode cc pc = .ok (.ior, 1)) (k : J (pc + 1) lv (.int (sq_z (sq_or x y)) :: stk) st) : J pc lv (.int (sq_z y) :: .int (sq_z x) :: stk) st := by
  obtain ⟨p, e, s, m, args, below, meth, c, A, cells, slots, Qs, hx, hb, hml, hown, hts, hK, hA, hc1, hc2, rfl⟩ := S
  intro H locs ls h1 h2 h3 h4
  have k1 := k H locs ls h1 h2 h3 h4
  unfold sq_or at k1
  rw [sq_zq] at k1
  exact lv_ior hx hb hd k1
theorem sj_ixor (S : sq_J l R cc nL own Ts g wl J) {x y : Int} (hd : decode cc pc = .ok (.ixor, 1)) (k : J (pc + 1) lv (.int (sq_z (sq_xor x y)) :: stk) st) : J pc lv (.int (sq_z y) :: .int (sq_z x) :: stk) st := by
  obtain ⟨p, e, s, m, args, below, meth, c, A, cells, slots, Qs, hx, hb, hml, hown, hts, hK, hA, hc1, hc2, rfl⟩ := S
  intro H locs ls h1 h2 h3 h4
  have k1 := k H locs ls h1 h2 h3 h4
  unfold sq_xor at k1
  rw [sq_zq] at k1
  exact lv_ixor hx hb hd k1
theorem sj_ishl (S : sq_J l R cc nL own Ts g wl J) {x y : Int} (hd : decode cc pc = .ok (.ishl, 1)) (k : J (pc + 1) lv (.int (sq_z (sq_shl x y)) :: stk) st) : J pc lv (.int (sq_z y) :: .int (sq_z x) :: stk) st := by
  obtain ⟨p, e, s, m, args, below, meth, c, A, cells, slots, Qs, hx, hb, hml, hown, hts, hK, hA, hc1, hc2, rfl⟩ := S
  intro H locs ls h1 h2 h3 h4
  have k1 := k H locs ls h1 h2 h3 h4
  unfold sq_shl at k1
  rw [sq_zq] at k1
  exact lv_ishl hx hb hd k1
theorem sj_ishr (S : sq_J l R cc nL own Ts g wl J) {x y : Int} (hd : decode cc pc = .ok (.ishr, 1)) (k : J (pc + 1) lv (.int (sq_z (sq_shr x y)) :: stk) st) : J pc lv (.int (sq_z y) :: .int (sq_z x) :: stk) st := by
  obtain ⟨p, e, s, m, args, below, meth, c, A, cells, slots, Qs, hx, hb, hml, hown, hts, hK, hA, hc1, hc2, rfl⟩ := S
  intro H locs ls h1 h2 h3 h4
  have k1 := k H locs ls h1 h2 h3 h4
  unfold sq_shr at k1
  rw [sq_zq] at k1
  exact lv_ishr hx hb hd k1
theorem sj_iushr (S : sq_J l R cc nL own Ts g wl J) {x y : Int} (hd : decode cc pc = .ok (.iushr, 1)) (k : J (pc + 1) lv (.int (sq_z (sq_ushr x y)) :: stk) st) : J pc lv (.int (sq_z y) :: .int (sq_z x) :: stk) st := by
  obtain ⟨p, e, s, m, args, below, meth, c, A, cells, slots, Qs, hx, hb, hml, hown, hts, hK, hA, hc1, hc2, rfl⟩ := S
  intro H locs ls h1 h2 h3 h4
  have k1 := k H locs ls h1 h2 h3 h4
  unfold sq_ushr at k1
  rw [sq_zq] at k1
  exact lv_iushr hx hb hd rfl k1
theorem sj_ineg (S : sq_J l R cc nL own Ts g wl J) {x : Int} (hd : decode cc pc = .ok (.ineg, 1)) (k : J (pc + 1) lv (.int (sq_z (-x)) :: stk) st) : J pc lv (.int (sq_z x) :: stk) st := by
  obtain ⟨p, e, s, m, args, below, meth, c, A, cells, slots, Qs, hx, hb, hml, hown, hts, hK, hA, hc1, hc2, rfl⟩ := S
  intro H locs ls h1 h2 h3 h4
  have k1 := k H locs ls h1 h2 h3 h4
  rw [← sq_zneg] at k1
  exact lv_ineg hx hb hd k1
theorem sj_idiv (S : sq_J l R cc nL own Ts g wl J) {x y : Int} (hq : (0 ≤ x ∧ x ≤ 2147483647) ∧ (0 < y ∧ y ≤ 2147483647)) (hd : decode cc pc = .ok (.idiv, 1)) (k : J (pc + 1) lv (.int (sq_z (x / y)) :: stk) st) : J pc lv (.int (sq_z y) :: .int (sq_z x) :: stk) st := by
  obtain ⟨p, e, s, m, args, below, meth, c, A, cells, slots, Qs, hx, hb, hml, hown, hts, hK, hA, hc1, hc2, rfl⟩ := S
  intro H locs ls h1 h2 h3 h4
  have k1 := k H locs ls h1 h2 h3 h4
  rw [← sq_zdiv hq.1 hq.2] at k1
  exact lv_idiv hx hb hd (sq_zne hq.2) k1
theorem sj_irem (S : sq_J l R cc nL own Ts g wl J) {x y : Int} (hq : (0 ≤ x ∧ x ≤ 2147483647) ∧ (0 < y ∧ y ≤ 2147483647)) (hd : decode cc pc = .ok (.irem, 1)) (k : J (pc + 1) lv (.int (sq_z (x % y)) :: stk) st) : J pc lv (.int (sq_z y) :: .int (sq_z x) :: stk) st := by
  obtain ⟨p, e, s, m, args, below, meth, c, A, cells, slots, Qs, hx, hb, hml, hown, hts, hK, hA, hc1, hc2, rfl⟩ := S
  intro H locs ls h1 h2 h3 h4
  have k1 := k H locs ls h1 h2 h3 h4
  rw [← sq_zrem hq.1 hq.2] at k1
  exact lv_irem hx hb hd (sq_zne hq.2) k1
theorem sj_dup (S : sq_J l R cc nL own Ts g wl J) {v : Value} (hd : decode cc pc = .ok (.dup, 1)) (hv : v.category = 1) (k : J (pc + 1) lv (v :: v :: stk) st) : J pc lv (v :: stk) st := by
  obtain ⟨p, e, s, m, args, below, meth, c, A, cells, slots, Qs, hx, hb, hml, hown, hts, hK, hA, hc1, hc2, rfl⟩ := S
  intro H locs ls h1 h2 h3 h4
  exact lv_dup hx hb hd hv (k H locs ls h1 h2 h3 h4)
theorem sj_dup2 (S : sq_J l R cc nL own Ts g wl J) {v u : Value} (hd : decode cc pc = .ok (.dup2, 1)) (hv : v.category = 1) (hu : u.category = 1) (k : J (pc + 1) lv (v :: u :: v :: u :: stk) st) : J pc lv (v :: u :: stk) st := by
  obtain ⟨p, e, s, m, args, below, meth, c, A, cells, slots, Qs, hx, hb, hml, hown, hts, hK, hA, hc1, hc2, rfl⟩ := S
  intro H locs ls h1 h2 h3 h4
  exact lv_dup2_11 hx hb hd hv hu (k H locs ls h1 h2 h3 h4)
theorem sj_goto (S : sq_J l R cc nL own Ts g wl J) {off : Int} {tgt : Nat} (hd : decode cc pc = .ok (.goto off, 3)) (ht : (pc : Int) + off = (tgt : Int)) (k : J tgt lv stk st) : J pc lv stk st := by
  obtain ⟨p, e, s, m, args, below, meth, c, A, cells, slots, Qs, hx, hb, hml, hown, hts, hK, hA, hc1, hc2, rfl⟩ := S
  intro H locs ls h1 h2 h3 h4
  exact lv_goto hx hb hd ht (k H locs ls h1 h2 h3 h4)
theorem sj_icmp_eq (S : sq_J l R cc nL own Ts g wl J) {x y off : Int} {tgt : Nat} (hr : sq_rg x ∧ sq_rg y) (hd : decode cc pc = .ok (.if_icmp .eq off, 3)) (ht : (pc : Int) + off = (tgt : Int)) (kt : x = y → J tgt lv stk st) (kf : ¬ x = y → J (pc + 3) lv stk st) : J pc lv (.int (sq_z y) :: .int (sq_z x) :: stk) st := by
  obtain ⟨p, e, s, m, args, below, meth, c, A, cells, slots, Qs, hx, hb, hml, hown, hts, hK, hA, hc1, hc2, rfl⟩ := S
  intro H locs ls h1 h2 h3 h4
  exact lv_icmp_eq hx hb hd ht (fun h => kt ((sq_zeq hr.1 hr.2).mp h) H locs ls h1 h2 h3 h4) (fun h => kf (fun q => h ((sq_zeq hr.1 hr.2).mpr q)) H locs ls h1 h2 h3 h4)
theorem sj_icmp_ne (S : sq_J l R cc nL own Ts g wl J) {x y off : Int} {tgt : Nat} (hr : sq_rg x ∧ sq_rg y) (hd : decode cc pc = .ok (.if_icmp .ne off, 3)) (ht : (pc : Int) + off = (tgt : Int)) (kt : ¬ x = y → J tgt lv stk st) (kf : x = y → J (pc + 3) lv stk st) : J pc lv (.int (sq_z y) :: .int (sq_z x) :: stk) st := by
  obtain ⟨p, e, s, m, args, below, meth, c, A, cells, slots, Qs, hx, hb, hml, hown, hts, hK, hA, hc1, hc2, rfl⟩ := S
  intro H locs ls h1 h2 h3 h4
  exact lv_icmp_ne hx hb hd ht (fun h => kt (fun q => h ((sq_zeq hr.1 hr.2).mpr q)) H locs ls h1 h2 h3 h4) (fun h => kf ((sq_zeq hr.1 hr.2).mp h) H locs ls h1 h2 h3 h4)
theorem sj_icmp_lt (S : sq_J l R cc nL own Ts g wl J) {x y off : Int} {tgt : Nat} (hr : sq_rg x ∧ sq_rg y) (hd : decode cc pc = .ok (.if_icmp .lt off, 3)) (ht : (pc : Int) + off = (tgt : Int)) (kt : x < y → J tgt lv stk st) (kf : y ≤ x → J (pc + 3) lv stk st) : J pc lv (.int (sq_z y) :: .int (sq_z x) :: stk) st := by
  obtain ⟨p, e, s, m, args, below, meth, c, A, cells, slots, Qs, hx, hb, hml, hown, hts, hK, hA, hc1, hc2, rfl⟩ := S
  intro H locs ls h1 h2 h3 h4
  exact lv_icmp_lt hx hb hd ht (fun h => kt ((sq_zlt hr.1 hr.2).mp h) H locs ls h1 h2 h3 h4) (fun h => kf (Int.not_lt.mp (fun q => h ((sq_zlt hr.1 hr.2).mpr q))) H locs ls h1 h2 h3 h4)
theorem sj_icmp_ge (S : sq_J l R cc nL own Ts g wl J) {x y off : Int} {tgt : Nat} (hr : sq_rg x ∧ sq_rg y) (hd : decode cc pc = .ok (.if_icmp .ge off, 3)) (ht : (pc : Int) + off = (tgt : Int)) (kt : y ≤ x → J tgt lv stk st) (kf : x < y → J (pc + 3) lv stk st) : J pc lv (.int (sq_z y) :: .int (sq_z x) :: stk) st := by
  obtain ⟨p, e, s, m, args, below, meth, c, A, cells, slots, Qs, hx, hb, hml, hown, hts, hK, hA, hc1, hc2, rfl⟩ := S
  intro H locs ls h1 h2 h3 h4
  exact lv_icmp_ge hx hb hd ht (fun h => kt ((sq_zle hr.2 hr.1).mp h) H locs ls h1 h2 h3 h4) (fun h => kf (Int.not_le.mp (fun q => h ((sq_zle hr.2 hr.1).mpr q))) H locs ls h1 h2 h3 h4)
theorem sj_icmp_gt (S : sq_J l R cc nL own Ts g wl J) {x y off : Int} {tgt : Nat} (hr : sq_rg x ∧ sq_rg y) (hd : decode cc pc = .ok (.if_icmp .gt off, 3)) (ht : (pc : Int) + off = (tgt : Int)) (kt : y < x → J tgt lv stk st) (kf : x ≤ y → J (pc + 3) lv stk st) : J pc lv (.int (sq_z y) :: .int (sq_z x) :: stk) st := by
  obtain ⟨p, e, s, m, args, below, meth, c, A, cells, slots, Qs, hx, hb, hml, hown, hts, hK, hA, hc1, hc2, rfl⟩ := S
  intro H locs ls h1 h2 h3 h4
  exact lv_icmp_gt hx hb hd ht (fun h => kt ((sq_zlt hr.2 hr.1).mp h) H locs ls h1 h2 h3 h4) (fun h => kf (Int.not_lt.mp (fun q => h ((sq_zlt hr.2 hr.1).mpr q))) H locs ls h1 h2 h3 h4)
theorem sj_icmp_le (S : sq_J l R cc nL own Ts g wl J) {x y off : Int} {tgt : Nat} (hr : sq_rg x ∧ sq_rg y) (hd : decode cc pc = .ok (.if_icmp .le off, 3)) (ht : (pc : Int) + off = (tgt : Int)) (kt : x ≤ y → J tgt lv stk st) (kf : y < x → J (pc + 3) lv stk st) : J pc lv (.int (sq_z y) :: .int (sq_z x) :: stk) st := by
  obtain ⟨p, e, s, m, args, below, meth, c, A, cells, slots, Qs, hx, hb, hml, hown, hts, hK, hA, hc1, hc2, rfl⟩ := S
  intro H locs ls h1 h2 h3 h4
  exact lv_icmp_le hx hb hd ht (fun h => kt ((sq_zle hr.1 hr.2).mp h) H locs ls h1 h2 h3 h4) (fun h => kf (Int.not_le.mp (fun q => h ((sq_zle hr.1 hr.2).mpr q))) H locs ls h1 h2 h3 h4)
theorem sj_if_eq (S : sq_J l R cc nL own Ts g wl J) {x off : Int} {tgt : Nat} (hr : sq_rg x) (hd : decode cc pc = .ok (.ifCond .eq off, 3)) (ht : (pc : Int) + off = (tgt : Int)) (kt : x = 0 → J tgt lv stk st) (kf : ¬ x = 0 → J (pc + 3) lv stk st) : J pc lv (.int (sq_z x) :: stk) st := by
  obtain ⟨p, e, s, m, args, below, meth, c, A, cells, slots, Qs, hx, hb, hml, hown, hts, hK, hA, hc1, hc2, rfl⟩ := S
  intro H locs ls h1 h2 h3 h4
  exact lv_if_eq hx hb hd ht (fun h => kt ((sq_zeq hr sq_r0).mp h) H locs ls h1 h2 h3 h4) (fun h => kf (fun q => h ((sq_zeq hr sq_r0).mpr q)) H locs ls h1 h2 h3 h4)
theorem sj_if_ne (S : sq_J l R cc nL own Ts g wl J) {x off : Int} {tgt : Nat} (hr : sq_rg x) (hd : decode cc pc = .ok (.ifCond .ne off, 3)) (ht : (pc : Int) + off = (tgt : Int)) (kt : ¬ x = 0 → J tgt lv stk st) (kf : x = 0 → J (pc + 3) lv stk st) : J pc lv (.int (sq_z x) :: stk) st := by
  obtain ⟨p, e, s, m, args, below, meth, c, A, cells, slots, Qs, hx, hb, hml, hown, hts, hK, hA, hc1, hc2, rfl⟩ := S
  intro H locs ls h1 h2 h3 h4
  exact lv_if_ne hx hb hd ht (fun h => kt (fun q => h ((sq_zeq hr sq_r0).mpr q)) H locs ls h1 h2 h3 h4) (fun h => kf ((sq_zeq hr sq_r0).mp h) H locs ls h1 h2 h3 h4)
theorem sj_if_lt (S : sq_J l R cc nL own Ts g wl J) {x off : Int} {tgt : Nat} (hr : sq_rg x) (hd : decode cc pc = .ok (.ifCond .lt off, 3)) (ht : (pc : Int) + off = (tgt : Int)) (kt : x < 0 → J tgt lv stk st) (kf : 0 ≤ x → J (pc + 3) lv stk st) : J pc lv (.int (sq_z x) :: stk) st := by
  obtain ⟨p, e, s, m, args, below, meth, c, A, cells, slots, Qs, hx, hb, hml, hown, hts, hK, hA, hc1, hc2, rfl⟩ := S
  intro H locs ls h1 h2 h3 h4
  exact lv_if_lt hx hb hd ht (fun h => kt ((sq_zlt hr sq_r0).mp h) H locs ls h1 h2 h3 h4) (fun h => kf (Int.not_lt.mp (fun q => h ((sq_zlt hr sq_r0).mpr q))) H locs ls h1 h2 h3 h4)
theorem sj_if_ge (S : sq_J l R cc nL own Ts g wl J) {x off : Int} {tgt : Nat} (hr : sq_rg x) (hd : decode cc pc = .ok (.ifCond .ge off, 3)) (ht : (pc : Int) + off = (tgt : Int)) (kt : 0 ≤ x → J tgt lv stk st) (kf : x < 0 → J (pc + 3) lv stk st) : J pc lv (.int (sq_z x) :: stk) st := by
  obtain ⟨p, e, s, m, args, below, meth, c, A, cells, slots, Qs, hx, hb, hml, hown, hts, hK, hA, hc1, hc2, rfl⟩ := S
  intro H locs ls h1 h2 h3 h4
  exact lv_if_ge hx hb hd ht (fun h => kt ((sq_zle sq_r0 hr).mp h) H locs ls h1 h2 h3 h4) (fun h => kf (Int.not_le.mp (fun q => h ((sq_zle sq_r0 hr).mpr q))) H locs ls h1 h2 h3 h4)
theorem sj_if_gt (S : sq_J l R cc nL own Ts g wl J) {x off : Int} {tgt : Nat} (hr : sq_rg x) (hd : decode cc pc = .ok (.ifCond .gt off, 3)) (ht : (pc : Int) + off = (tgt : Int)) (kt : 0 < x → J tgt lv stk st) (kf : x ≤ 0 → J (pc + 3) lv stk st) : J pc lv (.int (sq_z x) :: stk) st := by
  obtain ⟨p, e, s, m, args, below, meth, c, A, cells, slots, Qs, hx, hb, hml, hown, hts, hK, hA, hc1, hc2, rfl⟩ := S
  intro H locs ls h1 h2 h3 h4
  exact lv_if_gt hx hb hd ht (fun h => kt ((sq_zlt sq_r0 hr).mp h) H locs ls h1 h2 h3 h4) (fun h => kf (Int.not_lt.mp (fun q => h ((sq_zlt sq_r0 hr).mpr q))) H locs ls h1 h2 h3 h4)
theorem sj_if_le (S : sq_J l R cc nL own Ts g wl J) {x off : Int} {tgt : Nat} (hr : sq_rg x) (hd : decode cc pc = .ok (.ifCond .le off, 3)) (ht : (pc : Int) + off = (tgt : Int)) (kt : x ≤ 0 → J tgt lv stk st) (kf : 0 < x → J (pc + 3) lv stk st) : J pc lv (.int (sq_z x) :: stk) st := by
  obtain ⟨p, e, s, m, args, below, meth, c, A, cells, slots, Qs, hx, hb, hml, hown, hts, hK, hA, hc1, hc2, rfl⟩ := S
  intro H locs ls h1 h2 h3 h4
  exact lv_if_le hx hb hd ht (fun h => kt ((sq_zle hr sq_r0).mp h) H locs ls h1 h2 h3 h4) (fun h => kf (Int.not_le.mp (fun q => h ((sq_zle hr sq_r0).mpr q))) H locs ls h1 h2 h3 h4)
theorem sj_tab (S : sq_J l R cc nL own Ts g wl J) {x v dflt lo hi off : Int} {offs : Array Int} {len tgt : Nat} (hr : sq_rg v) (hv : x = v) (hd : decode cc pc = .ok (.tableswitch dflt lo hi offs, len)) (hl : ¬ v < lo) (hh : ¬ hi < v) (ho : offs[(v - lo).toNat]? = some off) (ht : (pc : Int) + off = (tgt : Int)) (k : J tgt lv stk st) : J pc lv (.int (sq_z x) :: stk) st := by
  obtain ⟨p, e, s, m, args, below, meth, c, A, cells, slots, Qs, hx, hb, hml, hown, hts, hK, hA, hc1, hc2, rfl⟩ := S
  intro H locs ls h1 h2 h3 h4
  subst hv
  exact lv_tableIn hx hb hd (by rw [sq_zt hr]; exact hl) (by rw [sq_zt hr]; exact hh) (by rw [sq_zt hr]; exact ho) ht (k H locs ls h1 h2 h3 h4)
theorem sj_tabd (S : sq_J l R cc nL own Ts g wl J) {x dflt lo hi : Int} {offs : Array Int} {len tgt : Nat} (hr : sq_rg x) (hv : x < lo ∨ hi < x) (hd : decode cc pc = .ok (.tableswitch dflt lo hi offs, len)) (ht : (pc : Int) + dflt = (tgt : Int)) (k : J tgt lv stk st) : J pc lv (.int (sq_z x) :: stk) st := by
  obtain ⟨p, e, s, m, args, below, meth, c, A, cells, slots, Qs, hx, hb, hml, hown, hts, hK, hA, hc1, hc2, rfl⟩ := S
  intro H locs ls h1 h2 h3 h4
  exact lv_tableOut hx hb hd (by rw [sq_zt hr]; exact hv) ht (k H locs ls h1 h2 h3 h4)
theorem sj_geti (S : sq_J l R cc nL own Ts g wl J) {C : String} {T : u_T} {N ix q ci k : Nat} (hf : sq_fi wl q ci k) (hin : ∀ w ∈ u_ws C T N, w ∈ Ts) (hc : vwCl[ci]? = some (C, T, N)) (hk : k < N) (hlink : Cond.fieldLink own ix (T k).1 (T k).2.1 (T k).2.2.1 ∈ Ts) (hd : decode cc pc = .ok (.getfield ix, 3)) (kk : J (pc + 3) lv (.int (sq_z (st q k)) :: stk) st) : J pc lv (.ref (g.2.2 q) :: stk) st := by
  obtain ⟨p, e, s, m, args, below, meth, c, A, cells, slots, Qs, hx, hb, hml, hown, hts, hK, hA, hc1, hc2, rfl⟩ := S
  intro H locs ls h1 h2 h3 h4
  obtain ⟨fs, he, hv, -, -⟩ := hf g st
  exact va_get (D := g.1) hx hb hts hin hown hK h2 q he hc k hk (hts _ hlink) (fun _ h9 => h9) hv hd (kk H locs ls h1 h2 h3 h4)
theorem sj_getr (S : sq_J l R cc nL own Ts g wl J) {C : String} {T : u_T} {N ix q ci k r : Nat} (hf : sq_fr wl q ci k r) (hin : ∀ w ∈ u_ws C T N, w ∈ Ts) (hc : vwCl[ci]? = some (C, T, N)) (hk : k < N) (hlink : Cond.fieldLink own ix (T k).1 (T k).2.1 (T k).2.2.1 ∈ Ts) (hd : decode cc pc = .ok (.getfield ix, 3)) (kk : J (pc + 3) lv (.ref (g.2.2 r) :: stk) st) : J pc lv (.ref (g.2.2 q) :: stk) st := by
  obtain ⟨p, e, s, m, args, below, meth, c, A, cells, slots, Qs, hx, hb, hml, hown, hts, hK, hA, hc1, hc2, rfl⟩ := S
  intro H locs ls h1 h2 h3 h4
  obtain ⟨fs, he, hv⟩ := hf g st
  exact va_get (D := g.1) hx hb hts hin hown hK h2 q he hc k hk (hts _ hlink) (fun _ h9 => h9) hv hd (kk H locs ls h1 h2 h3 h4)
theorem sj_puti (S : sq_J l R cc nL own Ts g wl J) {C : String} {T : u_T} {N ix q ci k : Nat} {x : Int} (hf : sq_fi wl q ci k) (hin : ∀ w ∈ u_ws C T N, w ∈ Ts) (ty0 : Nat → FieldType) (hty : ∀ k, k < N → parseFieldDescriptor (T k).2.2.1 = some (ty0 k)) (hnm : ∀ a, a < N → ∀ b, b < N → a ≠ b → (T a).2.1 ≠ (T b).2.1) (hc : vwCl[ci]? = some (C, T, N)) (hk : k < N) (hlink : Cond.fieldLink own ix (T k).1 (T k).2.1 (T k).2.2.1 ∈ Ts) (hfin : (T k).2.2.2 = false) (hty2 : parseFieldDescriptor (T k).2.2.1 = some .int) (hd : decode cc pc = .ok (.putfield ix, 3)) (kk : ∀ st' : sq_S, st' = sq_set st q k x → J (pc + 3) lv stk st') : J pc lv (.int (sq_z x) :: .ref (g.2.2 q) :: stk) st := by
  obtain ⟨p, e, s, m, args, below, meth, c, A, cells, slots, Qs, hx, hb, hml, hown, hts, hK, hA, hc1, hc2, rfl⟩ := S
  intro H locs ls h1 h2 h3 h4
  obtain ⟨fs, he, hv, hl, hs⟩ := hf g st
  exact va_put (D := g.1) (v := .int (sq_z x)) (ty := .int) hx hb hts hin ty0 hty hnm hown hK h2 h3 h4 q he hc k hk (hts _ hlink) (fun _ h9 => h9) hfin hty2 rfl rfl hl hd (fun H1 locs1 hP hD hS => kk _ rfl H1 locs1 ls h1 (by rw [← hs x]; exact hP) (by rw [← hs x]; exact hD) hS)
theorem sj_iald (S : sq_J l R cc nL own Ts g wl J) {q n : Nat} {i : Int} (ha : sq_ar wl q n) (hi : sq_ib i n) (hd : decode cc pc = .ok (.iaload, 1)) (kk : J (pc + 1) lv (.int (sq_z (st q i.toNat)) :: stk) st) : J pc lv (.int (sq_z i) :: .ref (g.2.2 q) :: stk) st := by
  obtain ⟨p, e, s, m, args, below, meth, c, A, cells, slots, Qs, hx, hb, hml, hown, hts, hK, hA, hc1, hc2, rfl⟩ := S
  intro H locs ls h1 h2 h3 h4
  have k1 := kk H locs ls h1 h2 h3 h4
  rw [← sq_zc ha.1 hi] at k1
  exact va_iald (D := g.1) hx hb hK h2 q 0 (ha.2 g st).1 rfl (sq_zin ha.1 hi) hd k1
theorem sj_zald (S : sq_J l R cc nL own Ts g wl J) {q n : Nat} {i : Int} (ha : sq_az wl q n) (hi : sq_ib i n) (hd : decode cc pc = .ok (.baload, 1)) (kk : J (pc + 1) lv (.int (sq_z (st q i.toNat)) :: stk) st) : J pc lv (.int (sq_z i) :: .ref (g.2.2 q) :: stk) st := by
  obtain ⟨p, e, s, m, args, below, meth, c, A, cells, slots, Qs, hx, hb, hml, hown, hts, hK, hA, hc1, hc2, rfl⟩ := S
  intro H locs ls h1 h2 h3 h4
  have k1 := kk H locs ls h1 h2 h3 h4
  rw [← sq_zc ha.1 hi] at k1
  exact va_zald (D := g.1) hx hb hK h2 q 1 (ha.2 g st).1 rfl (sq_zin ha.1 hi) hd k1
theorem sj_iast (S : sq_J l R cc nL own Ts g wl J) {q n : Nat} {i x : Int} (ha : sq_ar wl q n) (hi : sq_ib i n) (hd : decode cc pc = .ok (.iastore, 1)) (kk : ∀ st' : sq_S, st' = sq_set st q i.toNat x → J (pc + 1) lv stk st') : J pc lv (.int (sq_z x) :: .int (sq_z i) :: .ref (g.2.2 q) :: stk) st := by
  obtain ⟨p, e, s, m, args, below, meth, c, A, cells, slots, Qs, hx, hb, hml, hown, hts, hK, hA, hc1, hc2, rfl⟩ := S
  intro H locs ls h1 h2 h3 h4
  refine va_iast (D := g.1) hx hb hK h2 h3 h4 q 0 (ha.2 g st).1 rfl (sq_zin ha.1 hi) hd (fun H1 locs1 hP hD hS => ?_)
  rw [sq_zc ha.1 hi, sq_upd, (ha.2 g st).2] at hP hD
  exact kk _ rfl H1 locs1 ls h1 hP hD hS
theorem sj_zast (S : sq_J l R cc nL own Ts g wl J) {q n : Nat} {i x : Int} (ha : sq_az wl q n) (hi : sq_ib i n) (hb1 : x = 0 ∨ x = 1) (hd : decode cc pc = .ok (.bastore, 1)) (kk : ∀ st' : sq_S, st' = sq_set st q i.toNat x → J (pc + 1) lv stk st') : J pc lv (.int (sq_z x) :: .int (sq_z i) :: .ref (g.2.2 q) :: stk) st := by
  obtain ⟨p, e, s, m, args, below, meth, c, A, cells, slots, Qs, hx, hb, hml, hown, hts, hK, hA, hc1, hc2, rfl⟩ := S
  intro H locs ls h1 h2 h3 h4
  refine va_zast (D := g.1) hx hb hK h2 h3 h4 q 1 (ha.2 g st).1 rfl (sq_zin ha.1 hi) hd (fun H1 locs1 hP hD hS => ?_)
  have hz : vp_nar .boolean (sq_z x) = sq_z x := by rcases hb1 with rfl | rfl <;> decide
  first | rw [hz] at hP hD | skip
  rw [sq_zc ha.1 hi, sq_upd, (ha.2 g st).2] at hP hD
  exact kk _ rfl H1 locs1 ls h1 hP hD hS
/-- the array of images (of the class's world) -/
theorem sj_aald (S : sq_J l R cc nL own Ts g sq_X J) {i v : Int} {r : Nat} (hv : i = v) (hi : sq_ib v 2) (hr : sq_im g v.toNat = some r) (hd : decode cc pc = .ok (.aaload, 1)) (kk : J (pc + 1) lv (.ref r :: stk) st) : J pc lv (.int (sq_z i) :: .ref (g.2.2 23) :: stk) st := by
  subst hv
  obtain ⟨p, e, s, m, args, below, meth, c, A, cells, slots, Qs, hx, hb, hml, hown, hts, hK, hA, hc1, hc2, rfl⟩ := S
  intro H locs ls h1 h2 h3 h4
  refine va_aldq (D := g.1) hx hb hK h2 23 2 (C := "SecretSquares$Desk") (n := 2) (f := sq_im g) rfl rfl (sq_zin (by decide) hi) hd ?_
  rw [sq_zc (n := 2) (by decide) hi, hr]
  exact kk H locs ls h1 h2 h3 h4
theorem sj_alen (S : sq_J l R cc nL own Ts g wl J) {q n : Nat} (ha : sq_ar wl q n) (hd : decode cc pc = .ok (.arraylength, 1)) (kk : J (pc + 1) lv (.int (sq_z (n : Int)) :: stk) st) : J pc lv (.ref (g.2.2 q) :: stk) st := by
  obtain ⟨p, e, s, m, args, below, meth, c, A, cells, slots, Qs, hx, hb, hml, hown, hts, hK, hA, hc1, hc2, rfl⟩ := S
  intro H locs ls h1 h2 h3 h4
  exact va_alen (D := g.1) hx hb hK h2 q 0 (ha.2 g st).1 rfl (by rw [sq_zn]; rfl) hd (kk H locs ls h1 h2 h3 h4)
theorem sj_copy (S : sq_J l R cc nL own Ts g wl J) {q0 q1 n0 n1 ix : Nat} {sp dp n : Int} (ha0 : sq_ar wl q0 n0) (ha1 : sq_ar wl q1 n1) (hq : (0 ≤ sp ∧ 0 ≤ dp ∧ 0 ≤ n) ∧ sp + n ≤ n0 ∧ dp + n ≤ n1) (hw : Cond.methodLink own ix arraycopyName ∈ Ts) (hw1 : Cond.native arraycopyName ∈ Ts) (hw2 : Cond.static arraycopyName ∈ Ts) (hw3 : Cond.initialized "java/lang/System" ∈ Ts) (hfr : 1 ≤ R.frames) (hlo : (stk.map fun v => v.category).sum + (nativeFrameWords "java/lang/System" "arraycopy" 5 + 11) ≤ R.locals) (hd : decode cc pc = .ok (.invokestatic ix, 3)) (kk : ∀ st' : sq_S, st' = sq_row st q1 (sq_cp (st q0) (st q1) sp.toNat dp.toNat n.toNat) → J (pc + 3) lv stk st') : J pc lv (.int (sq_z n) :: .int (sq_z dp) :: .ref (g.2.2 q1) :: .int (sq_z sp) :: .ref (g.2.2 q0) :: stk) st := by
  obtain ⟨p, e, s, m, args, below, meth, c, A, cells, slots, Qs, hx, hb, hml, hown, hts, hK, hA, hc1, hc2, rfl⟩ := S
  intro H locs ls h1 h2 h3 h4
  have l0 := ha0.1
  have l1 := ha1.1
  have c1 : (sq_z sp).toNatClampNeg = sp.toNat := by show (sq_z sp).toInt.toNat = _; rw [sq_zt (by omega)]
  have c2 : (sq_z dp).toNatClampNeg = dp.toNat := by show (sq_z dp).toInt.toNat = _; rw [sq_zt (by omega)]
  have c3 : (sq_z n).toNatClampNeg = n.toNat := by show (sq_z n).toInt.toNat = _; rw [sq_zt (by omega)]
  have nn : ∀ a : Int, 0 ≤ a → a ≤ 2147483647 → ¬ sq_z a < 0 := by
    intro a ha hb h
    rw [sq_z0, sq_zlt (by omega) sq_r0] at h
    omega
  refine va_copyi (D := g.1) hx hb (hml.trans h1.1.symm) hown (hts _ hw) (hts _ hw1) (hts _ hw2) (hts _ hw3) hK h2 h3 h4 q0 q1 0 0 (ha0.2 g st).1 (ha1.2 g st).1 (ty := .int) rfl rfl rfl (nn _ (by omega) (by omega)) (nn _ (by omega) (by omega)) (nn _ (by omega) (by omega)) (by rw [c1, c3]; omega) (by rw [c2, c3]; omega) (fun _ _ => rfl) hfr hlo hd (fun H1 locs1 hP hD hS => ?_)
  rw [c1, c2, c3, sq_cpz, (ha1.2 g st).2] at hP hD
  exact kk _ rfl H1 locs1 ls h1 hP hD hS
theorem sj_vi (S : sq_J l R cc nL own Ts g wl J) {y : MethodName} {ws : List Cond} {rm : Room} {bytes : ByteArray} {maxL n ix : Nat} {ret : Option FieldType} {As rest : List Value} {Q : Int → sq_S → Prop} {a q0 ci : Nat} {C : String} {T : u_T} {N : Nat} {fs : List Value} (ct : sq_Ci l y ws rm g wl (.ref a :: As) st Q) (cw : ∀ (s : State) (args : Array Value), (∀ w ∈ Ts, w.before args s = true) → CallW R s args own C ix y bytes maxL ret ws rm 0 0 n) (he : (wl g st)[q0]? = some (a, .inr (ci, fs))) (hc : vwCl[ci]? = some (C, T, N)) (hn : As.length = n) (hs : stk = As.reverse ++ .ref a :: rest) (hw : (rest.map fun v => v.category).sum ≤ 8) (hd : decode cc pc = .ok (.invokevirtual ix, 3)) (kk : ∀ (r : Int) (st' : sq_S), Q r st' → J (pc + 3) lv (.int (sq_z r) :: rest) st') : J pc lv stk st := by
  obtain ⟨p, e, s, m, args, below, meth, c, A, cells, slots, Qs, hx, hb, hml, hown, hts, hK, hA, hc1, hc2, rfl⟩ := S
  intro H locs ls h1 h2 h3 h4
  have hFc : ∀ q, va_A (wl g st) H.size q → A q := by
    intro q h
    rcases h with ⟨k, e, h⟩ | h
    · exact h3.2 k (q, e) h
    · exact hA q (Nat.le_trans h4.1 h)
  refine va_calli (va_runV (As := As) (rest := rest) ⟨hx, hb, hml, hown, hts⟩ (ct H.size) (cw s args hts) ⟨sq_blind g wl _ st H.size, va_recv hK h2 hc he, fun U hU hW => ⟨rfl, by rw [hU], by rw [hU]; exact h2, va_K.moved hW.alike hK, h3.weaken (fun _ _ _ _ => trivial)⟩⟩ rfl hn h1.1 hs (lv_room hw) hd ⟨hc1, hc2⟩) h4 (fun q _ h => hFc q h) hFc (fun r u t H1 locs1 ht hvm hpost hB hz1 hk1 hS => ?_)
  obtain ⟨hr9, hq9⟩ := hpost
  obtain ⟨hP1, hK1, hD1⟩ := hB
  rw [ht] at hP1
  rw [hr9]
  exact kk u.1 u.2 hq9 H1 locs1 ls h1 hP1 (hD1.weaken (fun k q _ h => hFc q.1 h)) hS
theorem sj_vv (S : sq_J l R cc nL own Ts g wl J) {y : MethodName} {ws : List Cond} {rm : Room} {bytes : ByteArray} {maxL n ix : Nat} {ret : Option FieldType} {As rest : List Value} {Q : Int → sq_S → Prop} {a q0 ci : Nat} {C : String} {T : u_T} {N : Nat} {fs : List Value} (ct : sq_Cv l y ws rm g wl (.ref a :: As) st Q) (cw : ∀ (s : State) (args : Array Value), (∀ w ∈ Ts, w.before args s = true) → CallW R s args own C ix y bytes maxL ret ws rm 0 0 n) (he : (wl g st)[q0]? = some (a, .inr (ci, fs))) (hc : vwCl[ci]? = some (C, T, N)) (hn : As.length = n) (hs : stk = As.reverse ++ .ref a :: rest) (hw : (rest.map fun v => v.category).sum ≤ 8) (hd : decode cc pc = .ok (.invokevirtual ix, 3)) (kk : ∀ (st' : sq_S), Q 0 st' → J (pc + 3) lv rest st') : J pc lv stk st := by
  obtain ⟨p, e, s, m, args, below, meth, c, A, cells, slots, Qs, hx, hb, hml, hown, hts, hK, hA, hc1, hc2, rfl⟩ := S
  intro H locs ls h1 h2 h3 h4
  have hFc : ∀ q, va_A (wl g st) H.size q → A q := by
    intro q h
    rcases h with ⟨k, e, h⟩ | h
    · exact h3.2 k (q, e) h
    · exact hA q (Nat.le_trans h4.1 h)
  refine va_callv (va_runV (As := As) (rest := rest) ⟨hx, hb, hml, hown, hts⟩ (ct H.size) (cw s args hts) ⟨sq_blind g wl _ st H.size, va_recv hK h2 hc he, fun U hU hW => ⟨rfl, by rw [hU], by rw [hU]; exact h2, va_K.moved hW.alike hK, h3.weaken (fun _ _ _ _ => trivial)⟩⟩ rfl hn h1.1 hs (lv_room hw) hd ⟨hc1, hc2⟩) h4 (fun q _ h => hFc q h) hFc (fun u t H1 locs1 ht hvm hpost hB hz1 hk1 hS => ?_)
  obtain ⟨hP1, hK1, hD1⟩ := hB
  rw [ht] at hP1
  exact kk u hpost H1 locs1 ls h1 hP1 (hD1.weaken (fun k q _ h => hFc q.1 h)) hS
theorem sj_si (S : sq_J l R cc nL own Ts g wl J) {y : MethodName} {ws : List Cond} {rm : Room} {bytes : ByteArray} {maxL n ix : Nat} {ret : Option FieldType} {As rest : List Value} {Q : Int → sq_S → Prop} (ct : sq_Ci l y ws rm g wl As st Q) (cw : ∀ (s : State) (args : Array Value), (∀ w ∈ Ts, w.before args s = true) → CallB R s args own ix y bytes maxL ret ws rm 0 0 n ∧ (Cond.static y).before args s = true) (hn : As.length = n) (hs : stk = As.reverse ++ rest) (hw : (rest.map fun v => v.category).sum ≤ 8) (hd : decode cc pc = .ok (.invokestatic ix, 3)) (kk : ∀ (r : Int) (st' : sq_S), Q r st' → J (pc + 3) lv (.int (sq_z r) :: rest) st') : J pc lv stk st := by
  obtain ⟨p, e, s, m, args, below, meth, c, A, cells, slots, Qs, hx, hb, hml, hown, hts, hK, hA, hc1, hc2, rfl⟩ := S
  intro H locs ls h1 h2 h3 h4
  have hFc : ∀ q, va_A (wl g st) H.size q → A q := by
    intro q h
    rcases h with ⟨k, e, h⟩ | h
    · exact h3.2 k (q, e) h
    · exact hA q (Nat.le_trans h4.1 h)
  refine va_calli (va_runS (As := As) (rest := rest) ⟨hx, hb, hml, hown, hts⟩ (ct H.size) (cw s args hts) ⟨sq_blind g wl _ st H.size, fun U hU hW => ⟨rfl, by rw [hU], by rw [hU]; exact h2, va_K.moved hW.alike hK, h3.weaken (fun _ _ _ _ => trivial)⟩⟩ rfl hn h1.1 hs (lv_room hw) hd ⟨hc1, hc2⟩) h4 (fun q _ h => hFc q h) hFc (fun r u t H1 locs1 ht hvm hpost hB hz1 hk1 hS => ?_)
  obtain ⟨hr9, hq9⟩ := hpost
  obtain ⟨hP1, hK1, hD1⟩ := hB
  rw [ht] at hP1
  rw [hr9]
  exact kk u.1 u.2 hq9 H1 locs1 ls h1 hP1 (hD1.weaken (fun k q _ h => hFc q.1 h)) hS
end SQR
theorem sq_in_i {l : Launch} {y : MethodName} {ws ws' : List Cond} {rm : Room} {g : sq_G} {wl : sq_G → sq_S → va_W} {av : List Value} {st : sq_S} {Q : Int → sq_S → Prop} {cc : ByteArray} {nL : Nat} {own : String} (hy : plainName y.cls = true) (hw : ws = Cond.code y cc nL (some .int) :: ws') (ho : y.cls = own) (hlen : (lg_sl av).length ≤ nL)
    (body : ∀ J : sq_K, sq_J l rm cc nL own ws g wl J → (∀ (pc : Nat) (lv : List (Nat × Value)) (r : Int) (st' : sq_S), decode cc pc = .ok (.ireturn, 1) → Q r st' → J pc lv [.int (sq_z r)] st') → J 0 (lv_args 0 av) [] st) : sq_Ci l y ws rm g wl av st Q := by
  intro sz
  refine Met.ofW (cc := cc) (maxL := nL) (ret := some .int) hy hw ?_
  intro p e s m args below meth c s₁ B hml hv
  obtain ⟨rfl, hsz, hP, hK, hD0⟩ := hv
  have hx := B.exec
  have hb := B.bytes
  have hr := B.returns
  have hts := atoms_spec (ws := ws) B.pre
  have hown : s.vm.findClass own = some m.cls := by rw [← ho]; exact findClass_of_methodNamed B.named
  have hlocks := B.notSynchronized
  subst hsz
  have hl := lv_entry av (n := nL) hlen
  rw [lg_entry_eq]
  generalize (lg_sl av ++ List.replicate (nL - (lg_sl av).length) Slot.unset).toArray = ls at hl ⊢
  refine body (sq_j p l e rm s m av.toArray below meth c g wl (va_A (wl g st) s.heap.size) nL 0 0 _) ⟨p, e, s, m, _, below, meth, c, _, 0, 0, _, hx, hb, hml, hown, hts, hK, fun q h => Or.inr h, Nat.zero_le _, Nat.zero_le _, rfl⟩ ?_ s.heap [] ls hl hP hD0.self va_S.rf
  intro pc lv r st' hd hq H locs ls h1 h2 h3 h4
  exact W.iret (v := sq_z r) hx hb hr (fun t ht hW => ⟨⟨sq_z r, (r, st'), rfl, ⟨rfl, hq⟩, by rw [ht]; exact h2, va_K.moved hW.alike hK, h3⟩, h4.F ht⟩) h4.2.2 hd
theorem sq_in_z {l : Launch} {y : MethodName} {ws ws' : List Cond} {rm : Room} {g : sq_G} {wl : sq_G → sq_S → va_W} {av : List Value} {st : sq_S} {Q : Int → sq_S → Prop} {cc : ByteArray} {nL : Nat} {own : String} (hy : plainName y.cls = true) (hw : ws = Cond.code y cc nL (some .boolean) :: ws') (ho : y.cls = own) (hlen : (lg_sl av).length ≤ nL)
    (body : ∀ J : sq_K, sq_J l rm cc nL own ws g wl J → (∀ (pc : Nat) (lv : List (Nat × Value)) (r : Int) (st' : sq_S), decode cc pc = .ok (.ireturn, 1) → (r = 0 ∨ r = 1) ∧ Q r st' → J pc lv [.int (sq_z r)] st') → J 0 (lv_args 0 av) [] st) : sq_Ci l y ws rm g wl av st Q := by
  intro sz
  refine Met.ofW (cc := cc) (maxL := nL) (ret := some .boolean) hy hw ?_
  intro p e s m args below meth c s₁ B hml hv
  obtain ⟨rfl, hsz, hP, hK, hD0⟩ := hv
  have hx := B.exec
  have hb := B.bytes
  have hr := B.returns
  have hts := atoms_spec (ws := ws) B.pre
  have hown : s.vm.findClass own = some m.cls := by rw [← ho]; exact findClass_of_methodNamed B.named
  have hlocks := B.notSynchronized
  subst hsz
  have hl := lv_entry av (n := nL) hlen
  rw [lg_entry_eq]
  generalize (lg_sl av ++ List.replicate (nL - (lg_sl av).length) Slot.unset).toArray = ls at hl ⊢
  refine body (sq_j p l e rm s m av.toArray below meth c g wl (va_A (wl g st) s.heap.size) nL 0 0 _) ⟨p, e, s, m, _, below, meth, c, _, 0, 0, _, hx, hb, hml, hown, hts, hK, fun q h => Or.inr h, Nat.zero_le _, Nat.zero_le _, rfl⟩ ?_ s.heap [] ls hl hP hD0.self va_S.rf
  intro pc lv r st' hd hq H locs ls h1 h2 h3 h4
  exact W.zret (v := sq_z r) hx hb hr (by rcases hq.1 with rfl | rfl <;> rfl) (fun t ht hW => ⟨⟨sq_z r, (r, st'), rfl, ⟨rfl, hq.2⟩, by rw [ht]; exact h2, va_K.moved hW.alike hK, h3⟩, h4.F ht⟩) h4.2.2 hd
theorem sq_in_v {l : Launch} {y : MethodName} {ws ws' : List Cond} {rm : Room} {g : sq_G} {wl : sq_G → sq_S → va_W} {av : List Value} {st : sq_S} {Q : Int → sq_S → Prop} {cc : ByteArray} {nL : Nat} {own : String} (hy : plainName y.cls = true) (hw : ws = Cond.code y cc nL (none) :: ws') (ho : y.cls = own) (hlen : (lg_sl av).length ≤ nL)
    (body : ∀ J : sq_K, sq_J l rm cc nL own ws g wl J → (∀ (pc : Nat) (lv : List (Nat × Value)) (st' : sq_S), decode cc pc = .ok (.return_, 1) → Q 0 st' → J pc lv [] st') → J 0 (lv_args 0 av) [] st) : sq_Cv l y ws rm g wl av st Q := by
  intro sz
  refine Met.ofW (cc := cc) (maxL := nL) (ret := none) hy hw ?_
  intro p e s m args below meth c s₁ B hml hv
  obtain ⟨rfl, hsz, hP, hK, hD0⟩ := hv
  have hx := B.exec
  have hb := B.bytes
  have hr := B.returns
  have hts := atoms_spec (ws := ws) B.pre
  have hown : s.vm.findClass own = some m.cls := by rw [← ho]; exact findClass_of_methodNamed B.named
  have hlocks := B.notSynchronized
  subst hsz
  have hl := lv_entry av (n := nL) hlen
  rw [lg_entry_eq]
  generalize (lg_sl av ++ List.replicate (nL - (lg_sl av).length) Slot.unset).toArray = ls at hl ⊢
  refine body (sq_j p l e rm s m av.toArray below meth c g wl (va_A (wl g st) s.heap.size) nL 0 0 _) ⟨p, e, s, m, _, below, meth, c, _, 0, 0, _, hx, hb, hml, hown, hts, hK, fun q h => Or.inr h, Nat.zero_le _, Nat.zero_le _, rfl⟩ ?_ s.heap [] ls hl hP hD0.self va_S.rf
  intro pc lv st' hd hq H locs ls h1 h2 h3 h4
  exact W.vret hx hb hr (fun t ht hW => ⟨⟨st', rfl, hq, by rw [ht]; exact h2, va_K.moved hW.alike hK, h3⟩, h4.F ht⟩) h4.2.2 hd
