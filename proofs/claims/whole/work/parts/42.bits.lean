/-! pure part: sums, bits -/
def su (f : Nat → Int) : Nat → Int
  | 0 => 0
  | n + 1 => su f n + f n
theorem su_s (f : Nat → Int) (n : Nat) : su f (n + 1) = su f n + f n := rfl
theorem su_cong {f g : Nat → Int} : ∀ {n : Nat}, (∀ i, i < n → f i = g i) → su f n = su g n
  | 0, _ => rfl
  | n + 1, h => by rw [su_s, su_s, su_cong (fun i hi => h i (by omega)), h n (by omega)]
theorem su_bd {f : Nat → Int} {c : Int} : ∀ {n : Nat}, (∀ i, i < n → 0 ≤ f i ∧ f i ≤ c) → 0 ≤ su f n ∧ su f n ≤ n * c
  | 0, _ => by simp [su]
  | n + 1, h => by
    have h1 := su_bd (n := n) (fun i hi => h i (by omega))
    have h2 := h n (by omega)
    rw [su_s, show ((n + 1 : Nat) : Int) * c = n * c + c by rw [Int.natCast_add, Int.add_mul]; simp]
    omega
theorem su_add (f : Nat → Int) (m : Nat) : ∀ n, su f (m + n) = su f m + su (fun i => f (m + i)) n
  | 0 => by simp [su]
  | n + 1 => by
    rw [show m + (n + 1) = (m + n) + 1 from rfl, su_s, su_add f m n, su_s]
    omega
theorem su_blk (f : Nat → Int) : ∀ m, su f (16 * m) = su (fun a => su (fun c => f (16 * a + c)) 16) m
  | 0 => rfl
  | m + 1 => by
    rw [show 16 * (m + 1) = 16 * m + 16 by omega, su_add, su_blk f m]
    rfl
theorem pb_tn (x : Int) : (sq_z x).toBitVec.toNat = (x % 4294967296).toNat := by
  show (Int32.ofInt x).toBitVec.toNat = _
  have : (Int32.ofInt x).toBitVec = BitVec.ofInt 32 x := rfl
  rw [this, BitVec.toNat_ofInt]
  rfl
theorem pb_and15 (x : Int) : sq_and x 15 = x % 16 := by
  unfold sq_and
  rw [show sq_z x &&& sq_z 15 = nI ((sq_z x).toBitVec.toNat % 2 ^ 4) from pk_and (sq_z x) 4 (by decide), pb_tn, nI_toInt (by omega)]
  omega
theorem pb_and3 (x : Int) : sq_and x 3 = x % 4 := by
  unfold sq_and
  rw [show sq_z x &&& sq_z 3 = nI ((sq_z x).toBitVec.toNat % 2 ^ 2) from pk_and (sq_z x) 2 (by decide), pb_tn, nI_toInt (by omega)]
  omega
theorem pb_and1 (x : Int) : sq_and x 1 = x % 2 := by
  unfold sq_and
  rw [show sq_z x &&& sq_z 1 = nI ((sq_z x).toBitVec.toNat % 2 ^ 1) from pk_and (sq_z x) 1 (by decide), pb_tn, nI_toInt (by omega)]
  omega
theorem pb_sl : ∀ n, n < 32 → ((nI n &&& 31).toBitVec.smod 32).toNat = n := by decide
theorem pb_shr {v b : Nat} (hv : v < 2147483648) (hb : b < 32) : sq_shr (v : Int) (b : Int) = ((v / 2 ^ b : Nat) : Int) := by
  unfold sq_shr
  rw [sq_zn, sq_zn, pk_shrN (by omega) _ b (pb_sl b hb), nI_toInt (Nat.lt_of_le_of_lt (Nat.div_le_self _ _) (by omega))]
theorem pb_shl {b : Nat} (hb : b < 31) : sq_shl 1 (b : Int) = ((2 ^ b : Nat) : Int) := by
  unfold sq_shl
  have h1 : 2 ^ b < 2 ^ 31 := Nat.pow_lt_pow_right (by decide) hb
  rw [show sq_z 1 = nI 1 from rfl, sq_zn, pk_shlN _ b (pb_sl b (by omega)) (by omega), nI_toInt (by omega)]
  simp
theorem pb_bit {v b : Nat} (hv : v < 65536) (hb : b < 16) : sq_and (sq_shr (v : Int) (b : Int)) 1 = if v.testBit b then 1 else 0 := by
  rw [pb_shr (by omega) (by omega), pb_and1, Nat.testBit_eq_decide_div_mod_eq]
  generalize v / 2 ^ b = w
  by_cases h : w % 2 = 1
  · rw [if_pos (by simp [h])]
    omega
  · rw [if_neg (by simp [h])]
    omega
theorem pb_or (a b : Nat) (ha : a < 2147483648) (hb : b < 2147483648) : sq_or (a : Int) (b : Int) = ((a ||| b : Nat) : Int) := by
  unfold sq_or
  rw [sq_zn, sq_zn, fa_or, nI_toInt (Nat.or_lt_two_pow (n := 31) ha hb)]
theorem pb_andN (a b : Nat) (ha : a < 2147483648) : sq_and (a : Int) (b : Int) = ((a &&& b : Nat) : Int) := by
  unfold sq_and
  rw [sq_zn, sq_zn, fa_and, nI_toInt (Nat.lt_of_le_of_lt Nat.and_le_left (by omega))]
theorem pb_ushr {v : Nat} (k : Nat) (hk : (((sq_z (k : Int)).toUInt32 &&& Int32.toUInt32 31).toBitVec % 32).toNat = k) (hv : v < 2147483648) : sq_ushr (v : Int) (k : Int) = ((v / 2 ^ k : Nat) : Int) := by
  unfold sq_ushr
  rw [sq_zn v, pk_ushrN (by omega) _ k hk, nI_toInt (Nat.lt_of_le_of_lt (Nat.div_le_self _ _) (by omega))]
/-- a bit put, and taken away -/
theorem pb_put {v b : Nat} (hv : v < 65536) (hb : b < 16) : ∃ w : Nat, w < 65536 ∧ sq_or (v : Int) (sq_shl 1 (b : Int)) = w ∧ ∀ c : Nat, w.testBit c = (v.testBit c || decide (c = b)) := by
  have h1 : 2 ^ b < 2 ^ 16 := Nat.pow_lt_pow_right (by decide) hb
  refine ⟨v ||| 2 ^ b, Nat.or_lt_two_pow (n := 16) hv h1, ?_, fun c => fb_bit_set v b c⟩
  rw [pb_shl (by omega), pb_or _ _ (by omega) (by omega)]
theorem pb_cut {v b : Nat} (hv : v < 65536) (hb : b < 16) : ∃ w : Nat, w < 65536 ∧ sq_and (v : Int) (sq_xor (sq_shl 1 (b : Int)) (-1)) = w ∧ ∀ c : Nat, w.testBit c = (v.testBit c && !decide (c = b)) := by
  have h1 : 2 ^ b < 2 ^ 16 := Nat.pow_lt_pow_right (by decide) hb
  have h16 : (2 : Nat) ^ 16 = 65536 := rfl
  refine ⟨v &&& (2 ^ b ^^^ 4294967295), Nat.lt_of_le_of_lt Nat.and_le_left hv, ?_, fun c => ?_⟩
  · rw [pb_shl (by omega)]
    unfold sq_and sq_xor
    rw [sq_zq, sq_zn, sq_zn, show sq_z (-1) = nI 4294967295 from by decide, fb_xorI, fa_and, nI_toInt (Nat.lt_of_le_of_lt Nat.and_le_left (by omega))]
  · rw [Nat.testBit_and, Nat.testBit_xor, Nat.testBit_two_pow, show (4294967295 : Nat) = 2 ^ 32 - 1 from rfl, Nat.testBit_two_pow_sub_one]
    by_cases hc : c < 32
    · by_cases hcb : c = b
      · subst hcb
        simp [hc]
      · have : ¬ b = c := fun e => hcb e.symm
        simp [hc, hcb, this]
    · have hz : v.testBit c = false := Nat.testBit_lt_two_pow (Nat.lt_of_lt_of_le hv (by rw [← h16]; exact Nat.pow_le_pow_right (by decide) (by omega)))
      simp [hz]
