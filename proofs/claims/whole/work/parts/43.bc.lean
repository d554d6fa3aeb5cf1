/-- Integer.bitCount of sixteen bits -/
def bcN (v : Nat) : Nat :=
  let a := v - ((v / 2) &&& 1431655765)
  let b := (a &&& 858993459) + ((a / 4) &&& 858993459)
  let c := (b + b / 16) &&& 252645135
  let d := c + c / 256
  let e := d + d / 65536
  e &&& 63
def bcP (v : Nat) : Nat := v % 2 + v / 2 % 2 + v / 4 % 2 + v / 8 % 2 + v / 16 % 2 + v / 32 % 2 + v / 64 % 2 + v / 128 % 2 + v / 256 % 2 + v / 512 % 2 + v / 1024 % 2 + v / 2048 % 2 + v / 4096 % 2 + v / 8192 % 2 + v / 16384 % 2 + v / 32768 % 2
set_option maxRecDepth 100000 in
theorem bc_all : (List.range 256).all (fun h => (List.range 256).all (fun l => bcN (256 * h + l) == bcP (256 * h + l))) = true := by decide +kernel
theorem bc_eq {v : Nat} (hv : v < 65536) : bcN v = bcP v := by
  have h1 := List.all_eq_true.mp bc_all (v / 256) (List.mem_range.mpr (by omega))
  have h2 := List.all_eq_true.mp h1 (v % 256) (List.mem_range.mpr (by omega))
  rw [show 256 * (v / 256) + v % 256 = v by omega] at h2
  exact eq_of_beq h2
theorem bc_su {v : Nat} : (bcP v : Int) = su (fun c => if v.testBit c then 1 else 0) 16 := by
  have hb : ∀ c : Nat, (if v.testBit c then (1 : Int) else 0) = ((v / 2 ^ c % 2 : Nat) : Int) := by
    intro c
    rw [Nat.testBit_eq_decide_div_mod_eq]
    by_cases h : v / 2 ^ c % 2 = 1
    · simp [h]
    · have h2 : v / 2 ^ c % 2 = 0 := by omega
      simp [h2]
  simp only [su, hb, bcP]
  simp
theorem pb_count {v : Nat} {st : sq_S} {Q : Int → sq_S → Prop} (hv : v < 65536) (hq : Q (su (fun c => if v.testBit c then 1 else 0) 16) st) : wJ6_bitCount (v : Int) st Q := by
  rintro y1 e1 y2 e2 y3 e3 y4 e4 y5 e5
  have l1 : (v / 2) &&& 1431655765 ≤ v / 2 := Nat.and_le_left
  have f1 : y1 = ((v - ((v / 2) &&& 1431655765) : Nat) : Int) := by
    rw [e1, show (1 : Int) = ((1 : Nat) : Int) from rfl, pb_ushr 1 (by decide) (by omega), show (1431655765 : Int) = ((1431655765 : Nat) : Int) from rfl, pb_andN _ _ (by omega)]
    simp only [Nat.pow_one]
    omega
  generalize ha : v - ((v / 2) &&& 1431655765) = a at f1
  have f2 : y2 = (((a &&& 858993459) + ((a / 4) &&& 858993459) : Nat) : Int) := by
    rw [e2, f1, show (2 : Int) = ((2 : Nat) : Int) from rfl, pb_ushr 2 (by decide) (by omega), show (858993459 : Int) = ((858993459 : Nat) : Int) from rfl, pb_andN _ _ (by omega), pb_andN _ _ (Nat.lt_of_le_of_lt (Nat.div_le_self _ _) (by omega))]
    try rfl
  have l2 : (a &&& 858993459) ≤ 858993459 := Nat.and_le_right
  have l3 : ((a / 4) &&& 858993459) ≤ 858993459 := Nat.and_le_right
  generalize hb : (a &&& 858993459) + ((a / 4) &&& 858993459) = b at f2
  have f3 : y3 = (((b + b / 16) &&& 252645135 : Nat) : Int) := by
    rw [e3, f2, show (4 : Int) = ((4 : Nat) : Int) from rfl, pb_ushr 4 (by decide) (by omega), show (252645135 : Int) = ((252645135 : Nat) : Int) from rfl, ← Int.natCast_add, pb_andN _ _ (by omega)]
    try rfl
  have l4 : ((b + b / 16) &&& 252645135) ≤ 252645135 := Nat.and_le_right
  generalize hc : ((b + b / 16) &&& 252645135) = c at f3
  have f4 : y4 = ((c + c / 256 : Nat) : Int) := by
    rw [e4, f3, show (8 : Int) = ((8 : Nat) : Int) from rfl, pb_ushr 8 (by decide) (by omega)]
    try rfl
  generalize hd : c + c / 256 = d at f4
  have f5 : y5 = ((d + d / 65536 : Nat) : Int) := by
    rw [e5, f4, show (16 : Int) = ((16 : Nat) : Int) from rfl, pb_ushr 16 (by decide) (by omega)]
    try rfl
  rw [f5, show (63 : Int) = ((63 : Nat) : Int) from rfl, pb_andN _ _ (by omega)]
  have : (d + d / 65536) &&& 63 = bcN v := by
    unfold bcN
    simp only [ha, hb, hc, hd]
  rw [this, bc_eq hv, bc_su]
  exact hq
