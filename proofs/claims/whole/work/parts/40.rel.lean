/-! pure part: memory, the relation between the class's memory and the reference's -/
theorem pu_sc {st : sq_S} {q k : Nat} {x : Int} {c : Nat} (h : c ≠ q) : sq_set st q k x c = st c := by
  unfold sq_set sq_row; rw [if_neg h]
theorem pu_sk {st : sq_S} {q k : Nat} {x : Int} {j : Nat} (h : j ≠ k) : sq_set st q k x q j = st q j := by
  unfold sq_set sq_row; rw [if_pos rfl]; simp [h]
theorem pu_ss {st : sq_S} {q k : Nat} {x : Int} : sq_set st q k x q k = x := by
  unfold sq_set sq_row; rw [if_pos rfl]; simp
theorem pu_s (st : sq_S) (q k : Nat) (x : Int) (c j : Nat) : sq_set st q k x c j = if c = q ∧ j = k then x else st c j := by
  unfold sq_set sq_row
  by_cases h : c = q
  · subst h
    by_cases hj : j = k <;> simp [hj]
  · simp [h]
theorem pu_rc {st : sq_S} {q : Nat} {F : Nat → Int} {c : Nat} (h : c ≠ q) : sq_row st q F c = st c := by
  unfold sq_row; rw [if_neg h]
theorem pu_rr {st : sq_S} {q : Nat} {F : Nat → Int} : sq_row st q F q = F := by
  unfold sq_row; rw [if_pos rfl]
theorem pu_out {v0 v1 v2 : Int} {st : sq_S} {Q : Int → sq_S → Prop} (h0 : sq_rg v0) (h1 : sq_rg v1) (h2 : sq_rg v2) (h : v0 < v1 ∨ v2 < v0) (hq : Q 1 st) : wX3_isOutside v0 v1 v2 st Q :=
  ⟨⟨h0, h1⟩, fun _ => ⟨Or.inr rfl, hq⟩, fun _ => ⟨⟨h0, h2⟩, fun _ => by omega, fun _ => ⟨Or.inr rfl, hq⟩⟩⟩
theorem pu_inn {v0 v1 v2 : Int} {st : sq_S} {Q : Int → sq_S → Prop} (h0 : sq_rg v0) (h1 : sq_rg v1) (h2 : sq_rg v2) (h : v1 ≤ v0 ∧ v0 ≤ v2) (hq : Q 0 st) : wX3_isOutside v0 v1 v2 st Q :=
  ⟨⟨h0, h1⟩, fun _ => by omega, fun _ => ⟨⟨h0, h2⟩, fun _ => ⟨Or.inl rfl, hq⟩, fun _ => by omega⟩⟩
theorem pu_mno {v0 v1 v2 : Int} {st : sq_S} {Q : Int → sq_S → Prop} (h0 : sq_rg v0) (h1 : sq_rg v1) (h2 : sq_rg v2) (h : v0 < v1 ∨ v2 < v0) (hq : Q 0 st) : wX4_in v0 v1 v2 st Q :=
  ⟨⟨h0, h1⟩, fun _ => ⟨Or.inl rfl, hq⟩, fun _ => ⟨⟨h0, h2⟩, fun _ => ⟨Or.inl rfl, hq⟩, fun _ => by omega⟩⟩
theorem pu_min {v0 v1 v2 : Int} {st : sq_S} {Q : Int → sq_S → Prop} (h0 : sq_rg v0) (h1 : sq_rg v1) (h2 : sq_rg v2) (h : v1 ≤ v0 ∧ v0 ≤ v2) (hq : Q 1 st) : wX4_in v0 v1 v2 st Q :=
  ⟨⟨h0, h1⟩, fun _ => by omega, fun _ => ⟨⟨h0, h2⟩, fun _ => by omega, fun _ => ⟨Or.inr rfl, hq⟩⟩⟩
theorem pu_nlo {v : Int} {st : sq_S} {Q : Int → sq_S → Prop} (h0 : sq_rg v) (h : v < 0 ∨ 15 < v) (hq : Q 1 st) : wX3_isNoLetter v st Q := pu_out h0 (by decide) (by decide) h ⟨Or.inr rfl, hq⟩
theorem pu_nli {v : Int} {st : sq_S} {Q : Int → sq_S → Prop} (h0 : sq_rg v) (h : 0 ≤ v ∧ v ≤ 15) (hq : Q 0 st) : wX3_isNoLetter v st Q := pu_inn h0 (by decide) (by decide) h ⟨Or.inl rfl, hq⟩
theorem pu_ilo {v : Int} {st : sq_S} {Q : Int → sq_S → Prop} (h0 : sq_rg v) (h : v < 0 ∨ 15 < v) (hq : Q 0 st) : wX4_isLetter v st Q := pu_mno h0 (by decide) (by decide) h ⟨Or.inl rfl, hq⟩
theorem pu_ili {v : Int} {st : sq_S} {Q : Int → sq_S → Prop} (h0 : sq_rg v) (h : 0 ≤ v ∧ v ≤ 15) (hq : Q 1 st) : wX4_isLetter v st Q := pu_min h0 (by decide) (by decide) h ⟨Or.inr rfl, hq⟩
theorem pu_many {st : sq_S} {Q : Int → sq_S → Prop} (hq : Q (st 1 48) st) : wX4_many st Q := ⟨by decide, hq⟩
theorem pu_nat {x : Int} (h : 0 ≤ x) : ∃ n : Nat, x = n := Int.eq_ofNat_of_zero_le h
theorem pu_lt {n : Nat} {x : Int} (h : (n : Int) < x) : n < x.toNat := by omega
-- the relation
def Dt (sx : sq_S) (b : Nat) (F : Nat → Int) : Prop := (sx b 1 = F 48 ∧ 0 ≤ F 48 ∧ F 48 ≤ 48) ∧ ∀ i : Nat, (i : Int) < F 48 → sx (b + 1) i = F i ∧ 0 ≤ F i ∧ F i < 16
def Dk (sx : sq_S) (b : Nat) (F : Nat → Int) : Prop := (sx b 3 = F 55 ∧ 1 ≤ F 55 ∧ F 55 ≤ 6) ∧ ∀ i : Nat, (i : Int) < F 55 → sx (b + 2) i = F (49 + i) ∧ 0 ≤ F (49 + i) ∧ F (49 + i) < 16
def Dw (sx : sq_S) (b : Nat) (F : Nat → Int) : Prop := ∀ i : Nat, i < 16 → sx (b + 3) i = F (56 + i) ∧ 0 ≤ F (56 + i) ∧ F (56 + i) ≤ 99
def Dl (sx : sq_S) (b : Nat) (F : Nat → Int) : Prop := ∀ a : Nat, a < 16 → ∃ v : Nat, v < 65536 ∧ sx (b + 4) a = v ∧ ∀ c : Nat, c < 16 → F (72 + 16 * a + c) = if v.testBit c then 1 else 0
def Dv (sx : sq_S) (b : Nat) (F : Nat → Int) (j : Nat) : Prop := sx (b + 6) j = F (377 + 49 * j) ∧ 0 ≤ F (377 + 49 * j) ∧ F (377 + 49 * j) ≤ 48 ∧ ∀ i : Nat, (i : Int) < F (377 + 49 * j) → sx (b + 5) (48 * j + i) = F (329 + 49 * j + i) ∧ 0 ≤ F (329 + 49 * j + i) ∧ F (329 + 49 * j + i) < 16
def Ds (sx : sq_S) (b : Nat) (F : Nat → Int) : Prop := (sx b 8 = F 328 ∧ 0 ≤ F 328 ∧ F 328 ≤ 10) ∧ ∀ j : Nat, (j : Int) < F 328 → Dv sx b F j
def Dr (sx : sq_S) (b : Nat) (F : Nat → Int) : Prop := Dt sx b F ∧ Dk sx b F ∧ Dw sx b F ∧ Dl sx b F ∧ Ds sx b F
def Rp (sx sm : sq_S) : Prop := (sx 0 1 = sm 0 4 ∧ 0 ≤ sm 0 4 ∧ sm 0 4 ≤ 48) ∧ ∀ i : Nat, (i : Int) < sm 0 4 → sx 1 i = sm 4 i ∧ 33 ≤ sm 4 i ∧ sm 4 i ≤ 126
def Rk (sx sm : sq_S) : Prop := (sm 3 0 = 0 ∨ sm 3 0 = 1) ∧ (sm 3 1 = 0 ∨ sm 3 1 = 1) ∧ sx 0 4 = sm 3 0 + 2 * sm 3 1 ∧ (sm 3 0 = 1 → Dr sx 9 (sm 2)) ∧ (sm 3 1 = 1 → Dr sx 16 (fun i => sm 2 (819 + i)))
def Rel (sx sm : sq_S) : Prop := Rp sx sm ∧ Dr sx 2 (sm 1) ∧ Rk sx sm
theorem Dt.to {sx sx' : sq_S} {b b' : Nat} {F F' : Nat → Int} (h : Dt sx b F) (h1 : sx' b' 1 = sx b 1) (h2 : ∀ i : Nat, i < 48 → sx' (b' + 1) i = sx (b + 1) i) (h3 : ∀ i : Nat, i ≤ 48 → F' i = F i) : Dt sx' b' F' := by
  obtain ⟨⟨a1, a2, a3⟩, a4⟩ := h
  unfold Dt
  rw [h1, h3 48 (by omega)]
  refine ⟨⟨a1, a2, a3⟩, fun i hi => ?_⟩
  rw [h2 i (by omega), h3 i (by omega)]
  exact a4 i hi
theorem Dk.to {sx sx' : sq_S} {b b' : Nat} {F F' : Nat → Int} (h : Dk sx b F) (h1 : sx' b' 3 = sx b 3) (h2 : ∀ i : Nat, i < 6 → sx' (b' + 2) i = sx (b + 2) i) (h3 : ∀ i : Nat, 49 ≤ i → i ≤ 55 → F' i = F i) : Dk sx' b' F' := by
  obtain ⟨⟨a1, a2, a3⟩, a4⟩ := h
  unfold Dk
  rw [h1, h3 55 (by omega) (by omega)]
  refine ⟨⟨a1, a2, a3⟩, fun i hi => ?_⟩
  rw [h2 i (by omega), h3 (49 + i) (by omega) (by omega)]
  exact a4 i hi
theorem Dw.to {sx sx' : sq_S} {b b' : Nat} {F F' : Nat → Int} (h : Dw sx b F) (h2 : ∀ i : Nat, i < 16 → sx' (b' + 3) i = sx (b + 3) i) (h3 : ∀ i : Nat, 56 ≤ i → i < 72 → F' i = F i) : Dw sx' b' F' := by
  intro i hi
  rw [h2 i hi, h3 (56 + i) (by omega) (by omega)]
  exact h i hi
theorem Dl.to {sx sx' : sq_S} {b b' : Nat} {F F' : Nat → Int} (h : Dl sx b F) (h2 : ∀ i : Nat, i < 16 → sx' (b' + 4) i = sx (b + 4) i) (h3 : ∀ i : Nat, 72 ≤ i → i < 328 → F' i = F i) : Dl sx' b' F' := by
  intro a ha
  obtain ⟨v, e1, e2, e3⟩ := h a ha
  refine ⟨v, e1, by rw [h2 a ha]; exact e2, fun c hc => ?_⟩
  rw [h3 _ (by omega) (by omega)]
  exact e3 c hc
theorem Dv.to {sx sx' : sq_S} {b b' : Nat} {F F' : Nat → Int} {j j' : Nat} (h : Dv sx b F j) (h1 : sx' (b' + 6) j' = sx (b + 6) j) (h2 : ∀ i : Nat, i < 48 → sx' (b' + 5) (48 * j' + i) = sx (b + 5) (48 * j + i)) (h3 : ∀ i : Nat, i < 49 → F' (329 + 49 * j' + i) = F (329 + 49 * j + i)) : Dv sx' b' F' j' := by
  obtain ⟨a1, a2, a3, a4⟩ := h
  have e : F' (377 + 49 * j') = F (377 + 49 * j) := by
    have := h3 48 (by omega)
    rw [show 377 + 49 * j' = 329 + 49 * j' + 48 by omega, show 377 + 49 * j = 329 + 49 * j + 48 by omega]
    exact this
  unfold Dv
  rw [h1, e]
  refine ⟨a1, a2, a3, fun i hi => ?_⟩
  rw [h2 i (by omega), h3 i (by omega)]
  exact a4 i hi
theorem Ds.to {sx sx' : sq_S} {b b' : Nat} {F F' : Nat → Int} (h : Ds sx b F) (h1 : sx' b' 8 = sx b 8) (h2 : ∀ i : Nat, i < 10 → sx' (b' + 6) i = sx (b + 6) i) (h4 : ∀ i : Nat, i < 480 → sx' (b' + 5) i = sx (b + 5) i) (h3 : ∀ i : Nat, 328 ≤ i → i < 819 → F' i = F i) : Ds sx' b' F' := by
  obtain ⟨⟨a1, a2, a3⟩, a4⟩ := h
  unfold Ds
  rw [h1, h3 328 (by omega) (by omega)]
  refine ⟨⟨a1, a2, a3⟩, fun j hj => ?_⟩
  exact (a4 j hj).to (h2 j (by omega)) (fun i hi => h4 _ (by omega)) (fun i hi => h3 _ (by omega) (by omega))
theorem Dr.to {sx sx' : sq_S} {b b' : Nat} {F F' : Nat → Int} (h : Dr sx b F) (h0 : ∀ k : Nat, k < 9 → sx' b' k = sx b k) (h1 : ∀ i : Nat, i < 48 → sx' (b' + 1) i = sx (b + 1) i) (h2 : ∀ i : Nat, i < 6 → sx' (b' + 2) i = sx (b + 2) i) (h3 : ∀ i : Nat, i < 16 → sx' (b' + 3) i = sx (b + 3) i) (h4 : ∀ i : Nat, i < 16 → sx' (b' + 4) i = sx (b + 4) i) (h5 : ∀ i : Nat, i < 480 → sx' (b' + 5) i = sx (b + 5) i) (h6 : ∀ i : Nat, i < 10 → sx' (b' + 6) i = sx (b + 6) i) (h7 : ∀ i : Nat, i < 819 → F' i = F i) : Dr sx' b' F' := by
  obtain ⟨a1, a2, a3, a4, a5⟩ := h
  exact ⟨a1.to (h0 1 (by omega)) h1 (fun i hi => h7 i (by omega)), a2.to (h0 3 (by omega)) h2 (fun i _ hi => h7 i (by omega)), a3.to h3 (fun i _ hi => h7 i (by omega)), a4.to h4 (fun i _ hi => h7 i (by omega)), a5.to (h0 8 (by omega)) h6 h5 (fun i _ hi => h7 i hi)⟩
theorem Dr.cells {sx sx' : sq_S} {b : Nat} {F : Nat → Int} (h : Dr sx b F) (hc : ∀ c : Nat, b ≤ c → c ≤ b + 6 → sx' c = sx c) : Dr sx' b F :=
  h.to (fun k _ => by rw [hc b (by omega) (by omega)]) (fun i _ => by rw [hc (b + 1) (by omega) (by omega)]) (fun i _ => by rw [hc (b + 2) (by omega) (by omega)]) (fun i _ => by rw [hc (b + 3) (by omega) (by omega)]) (fun i _ => by rw [hc (b + 4) (by omega) (by omega)]) (fun i _ => by rw [hc (b + 5) (by omega) (by omega)]) (fun i _ => by rw [hc (b + 6) (by omega) (by omega)]) (fun _ _ => rfl)
theorem Rk.cells {sx sx' sm sm' : sq_S} (h : Rk sx sm) (h0 : sx' 0 4 = sx 0 4) (hc : ∀ c : Nat, 9 ≤ c → c ≤ 22 → sx' c = sx c) (h2 : sm' 2 = sm 2) (h3 : sm' 3 = sm 3) : Rk sx' sm' := by
  obtain ⟨a1, a2, a3, a4, a5⟩ := h
  unfold Rk
  rw [h3, h2, h0]
  exact ⟨a1, a2, a3, fun q => (a4 q).cells (fun c h1 h2 => hc c (by omega) (by omega)), fun q => (a5 q).cells (fun c h1 h2 => hc c (by omega) (by omega))⟩
/-- calls that change what doesn't last alone -/
theorem Rel.scr {sx sx' sm sm' : sq_S} (h : Rel sx sm) (hx : ∀ c : Nat, c ≤ 22 → sx' c = sx c) (hm : ∀ c : Nat, c ≤ 4 → (c = 0 → sm' 0 4 = sm 0 4) ∧ (c ≠ 0 → sm' c = sm c)) : Rel sx' sm' := by
  obtain ⟨⟨⟨p1, p2, p3⟩, p4⟩, h2, h3⟩ := h
  have m0 := (hm 0 (by omega)).1 rfl
  have m1 := (hm 1 (by omega)).2 (by omega)
  have m2 := (hm 2 (by omega)).2 (by omega)
  have m3 := (hm 3 (by omega)).2 (by omega)
  have m4 := (hm 4 (by omega)).2 (by omega)
  refine ⟨?_, ?_, h3.cells (by rw [hx 0 (by omega)]) (fun c _ h => hx c h) m2 m3⟩
  · unfold Rp
    rw [hx 0 (by omega), hx 1 (by omega), m0, m4]
    exact ⟨⟨p1, p2, p3⟩, p4⟩
  · rw [m1]
    exact h2.cells (fun c _ h => hx c (by omega))
theorem Rel.start : Rel sn_x0 sn_m0 := by
  refine ⟨⟨⟨rfl, by decide, by decide⟩, fun i hi => absurd hi (by show ¬ (i : Int) < 0; omega)⟩, ⟨⟨⟨rfl, by decide, by decide⟩, fun i hi => absurd hi (by show ¬ (i : Int) < 0; omega)⟩, ⟨⟨rfl, by decide, by decide⟩, fun i hi => ?_⟩, fun i hi => ?_, fun a ha => ?_, ⟨⟨rfl, by decide, by decide⟩, fun j hj => absurd hj (by show ¬ (j : Int) < 0; omega)⟩⟩, ⟨Or.inl rfl, Or.inl rfl, rfl, fun h => absurd h (by decide), fun h => absurd h (by decide)⟩⟩
  · have h1 : (i : Int) < 1 := hi
    have h0 : i = 0 := by omega
    subst h0
    exact ⟨rfl, by decide, by decide⟩
  · have e : sn_m0 1 (56 + i) = 0 := by
      show (if 56 + i = 55 then (1 : Int) else 0) = 0
      rw [if_neg (by omega)]
    rw [e]
    exact ⟨rfl, by decide, by decide⟩
  · refine ⟨0, by decide, rfl, fun c hc => ?_⟩
    show (if 72 + 16 * a + c = 55 then (1 : Int) else 0) = _
    rw [if_neg (by omega)]
    simp
