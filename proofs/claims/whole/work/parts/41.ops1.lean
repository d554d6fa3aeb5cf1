/-! pure part: say, wipe, worth, undo, image, restore -/
theorem Dr.to3 {sx sx' : sq_S} {b b' : Nat} {F F' : Nat → Int} (h : Dr sx b F) (k1 : sx' b' 1 = sx b 1) (k3 : sx' b' 3 = sx b 3) (k8 : sx' b' 8 = sx b 8) (h1 : ∀ i : Nat, i < 48 → sx' (b' + 1) i = sx (b + 1) i) (h2 : ∀ i : Nat, i < 6 → sx' (b' + 2) i = sx (b + 2) i) (h3 : ∀ i : Nat, i < 16 → sx' (b' + 3) i = sx (b + 3) i) (h4 : ∀ i : Nat, i < 16 → sx' (b' + 4) i = sx (b + 4) i) (h5 : ∀ i : Nat, i < 480 → sx' (b' + 5) i = sx (b + 5) i) (h6 : ∀ i : Nat, i < 10 → sx' (b' + 6) i = sx (b + 6) i) (h7 : ∀ i : Nat, i < 819 → F' i = F i) : Dr sx' b' F' := by
  obtain ⟨a1, a2, a3, a4, a5⟩ := h
  exact ⟨a1.to k1 h1 (fun i hi => h7 i (by omega)), a2.to k3 h2 (fun i _ hi => h7 i (by omega)), a3.to h3 (fun i _ hi => h7 i (by omega)), a4.to h4 (fun i _ hi => h7 i (by omega)), a5.to k8 h6 h5 (fun i _ hi => h7 i hi)⟩
theorem po_say : sl_o_say Rel := by
  intro sx sm a hR ha
  have hR0 := hR
  obtain ⟨⟨⟨p1, p2, p3⟩, p4⟩, h2, h3⟩ := hR
  by_cases h : a < 33 ∨ 126 < a
  · refine pu_out ha (by decide) (by decide) h ⟨by decide, fun h => absurd h (by decide), fun _ => ?_⟩
    exact pu_mno ha (by decide) (by decide) h ⟨by decide, fun h => absurd rfl h, fun _ => ⟨rfl, by decide, hR0⟩⟩
  · refine pu_inn ha (by decide) (by decide) (by omega) ⟨by decide, fun _ => ⟨by omega, fun hl => ⟨by omega, ?_⟩, fun hl => ?_⟩, fun h => absurd rfl h⟩
    · rintro _ rfl _ rfl
      refine pu_min ha (by decide) (by decide) (by omega) ⟨by decide, fun _ => ⟨by omega, fun hn => ⟨by omega, ?_⟩, fun hn => by omega⟩, fun h => absurd h (by decide)⟩
      rintro _ rfl _ rfl
      rw [pu_ss, pu_ss, pu_sc (show (0 : Nat) ≠ 1 by decide), pu_sc (show (0 : Nat) ≠ 4 by decide), p1]
      refine ⟨rfl, by omega, ⟨⟨?_, ?_⟩, ?_, ?_⟩⟩
      · rw [pu_ss, pu_ss]
        omega
      · rw [pu_ss]
        intro i hi
        rw [pu_sc (show (1 : Nat) ≠ 0 by decide), pu_sc (show (4 : Nat) ≠ 0 by decide)]
        by_cases hi2 : i = (sm 0 4).toNat
        · subst hi2
          rw [pu_ss, pu_ss]
          omega
        · rw [pu_sk hi2, pu_sk hi2]
          exact p4 i (by omega)
      · rw [pu_sc (show (1 : Nat) ≠ 0 by decide), pu_sc (show (1 : Nat) ≠ 4 by decide)]
        exact h2.cells (fun c hc _ => by rw [pu_sc (by omega), pu_sc (by omega)])
      · exact h3.cells (by rw [pu_sk (by decide), pu_sc (by decide)]) (fun c hc _ => by rw [pu_sc (by omega), pu_sc (by omega)]) (by rw [pu_sc (by decide), pu_sc (by decide)]) (by rw [pu_sc (by decide), pu_sc (by decide)])
    · exact pu_min ha (by decide) (by decide) (by omega) ⟨by decide, fun _ => ⟨by omega, fun hn => by omega, fun _ => ⟨rfl, by decide, hR0⟩⟩, fun h => absurd h (by decide)⟩
theorem Rel.wipe {sx sm : sq_S} (hR : Rel sx sm) : Rel (sq_set sx 0 1 0) (sq_set sm 0 4 0) := by
  obtain ⟨⟨⟨p1, p2, p3⟩, p4⟩, h2, h3⟩ := hR
  refine ⟨⟨?_, ?_⟩, ?_, ?_⟩
  · rw [pu_ss, pu_ss]
    omega
  · rw [pu_ss]
    intro i hi
    omega
  · rw [pu_sc (show (1 : Nat) ≠ 0 by decide)]
    exact h2.cells (fun c hc _ => by rw [pu_sc (by omega)])
  · exact h3.cells (by rw [pu_sk (by decide)]) (fun c hc _ => by rw [pu_sc (by omega)]) (by rw [pu_sc (by decide)]) (by rw [pu_sc (by decide)])
theorem po_wipe : sl_o_wipe Rel := by
  intro sx sm hR
  rintro _ rfl _ rfl _ rfl _ rfl
  have hR0 := hR
  obtain ⟨⟨⟨p1, p2, p3⟩, p4⟩, h2, h3⟩ := hR
  exact ⟨p1, by omega, hR0.wipe⟩
theorem po_worth : sl_o_worth Rel := by
  intro sx sm a v hR ha hv
  have hR0 := hR
  obtain ⟨hp, ⟨d1, d2, d3, d4, d5⟩, h3⟩ := hR
  by_cases h : a < 0 ∨ 15 < a
  · refine pu_nlo ha h ⟨by decide, fun _ => ?_, fun h => absurd h (by decide)⟩
    exact pu_ilo ha h ⟨by decide, fun _ => ⟨rfl, by decide, hR0⟩, fun h => absurd rfl h⟩
  refine pu_nli ha (by omega) ⟨by decide, fun h => absurd rfl h, fun _ => ?_⟩
  by_cases h2 : v < 0 ∨ 99 < v
  · refine pu_out hv (by decide) (by decide) h2 ⟨by decide, fun h => absurd h (by decide), fun _ => ?_⟩
    exact pu_ili ha (by omega) ⟨by decide, fun h => absurd h (by decide), fun _ => pu_mno hv (by decide) (by decide) h2 ⟨by decide, fun h => absurd rfl h, fun _ => ⟨rfl, by decide, hR0⟩⟩⟩
  refine pu_inn hv (by decide) (by decide) (by omega) ⟨by decide, fun _ => ⟨by omega, ?_⟩, fun h => absurd rfl h⟩
  rintro _ rfl
  refine ⟨by omega, ?_⟩
  rintro _ rfl
  refine pu_ili ha (by omega) ⟨by decide, fun h => absurd h (by decide), fun _ => pu_min hv (by decide) (by decide) (by omega) ⟨by decide, fun _ => ⟨by omega, ?_⟩, fun h => absurd h (by decide)⟩⟩
  rintro _ rfl
  refine ⟨by omega, ?_⟩
  rintro _ rfl
  have e : (56 + a).toNat = 56 + a.toNat := by omega
  have hw : sx 5 a.toNat = sm 1 (56 + a.toNat) ∧ 0 ≤ sm 1 (56 + a.toNat) ∧ sm 1 (56 + a.toNat) ≤ 99 := d3 a.toNat (by omega)
  rw [e]
  refine ⟨hw.1, ?_, ?_, ⟨?_, ?_, ?_, ?_, ?_⟩, ?_⟩
  · have := hw.1
    omega
  · unfold Rp
    rw [pu_sc (show (0 : Nat) ≠ 5 by decide), pu_sc (show (0 : Nat) ≠ 1 by decide), pu_sc (show (1 : Nat) ≠ 5 by decide), pu_sc (show (4 : Nat) ≠ 1 by decide)]
    exact hp
  · exact d1.to (by rw [pu_sc (by decide)]) (fun i _ => by rw [pu_sc (by decide)]) (fun i _ => by rw [pu_sk (by omega)])
  · exact d2.to (by rw [pu_sc (by decide)]) (fun i _ => by rw [pu_sc (by decide)]) (fun i _ _ => by rw [pu_sk (by omega)])
  · intro i hi
    by_cases hi2 : i = a.toNat
    · subst hi2
      rw [show 2 + 3 = 5 from rfl, pu_ss, pu_ss]
      omega
    · rw [show 2 + 3 = 5 from rfl, pu_sk hi2, pu_sk (by omega)]
      exact d3 i hi
  · exact d4.to (fun i _ => by rw [pu_sc (by decide)]) (fun i _ _ => by rw [pu_sk (by omega)])
  · exact d5.to (by rw [pu_sc (by decide)]) (fun i _ => by rw [pu_sc (by decide)]) (fun i _ => by rw [pu_sc (by decide)]) (fun i _ _ => by rw [pu_sk (by omega)])
  · exact h3.cells (by rw [pu_sc (by decide)]) (fun c hc _ => by rw [pu_sc (by omega)]) (by rw [pu_sc (by decide)]) (by rw [pu_sc (by decide)])
theorem po_undo : sl_o_undo Rel := by
  intro sx sm hR
  have hR0 := hR
  obtain ⟨hp, ⟨d1, d2, d3, d4, d5⟩, h3⟩ := hR
  obtain ⟨⟨s1, s2, s3⟩, s4⟩ := d5
  refine ⟨by omega, fun h0 => ⟨by omega, fun _ => ?_, fun h => absurd h h0⟩, fun h0 => ?_⟩
  · rintro _ rfl
    rw [pu_ss, pu_sc (show (8 : Nat) ≠ 2 by decide)]
    refine ⟨by omega, ?_⟩
    rintro _ rfl
    rw [pu_sk (show (8 : Nat) ≠ 1 by decide), pu_ss, pu_ss, pu_sc (show (7 : Nat) ≠ 2 by decide), pu_sc (show (7 : Nat) ≠ 2 by decide), pu_sc (show (3 : Nat) ≠ 2 by decide), pu_sc (show (3 : Nat) ≠ 2 by decide)]
    obtain ⟨j, hj⟩ : ∃ j : Nat, sm 1 328 = j + 1 := ⟨(sm 1 328 - 1).toNat, by omega⟩
    obtain ⟨v1, v2, v3, v4⟩ := s4 j (by omega)
    have ej : (sx 2 8 - 1).toNat = j := by omega
    have ej2 : sx 2 8 - 1 = j := by omega
    rw [ej, ej2]
    have v1 : sx 8 j = sm 1 (377 + 49 * j) := v1
    rw [v1]
    refine ⟨⟨⟨by omega, by omega, by omega⟩, by omega, by omega⟩, ?_⟩
    rintro _ rfl
    rw [pu_rc (show (2 : Nat) ≠ 3 by decide), pu_sk (show (8 : Nat) ≠ 1 by decide), pu_ss]
    obtain ⟨n, hn⟩ := pu_nat v2
    -- the reference
    intro K hK
    refine ⟨by decide, by omega, fun _ => ⟨by decide, by decide, ?_⟩, fun h => by omega⟩
    rintro _ rfl
    have loop : ∀ (k i : Nat) (tm : sq_S), i + k = 49 → (∀ c, c ≠ 1 → tm c = sm c) → (∀ i' : Nat, i' < i → tm 1 i' = sm 1 (329 + 49 * j + i')) → (∀ i' : Nat, 49 ≤ i' → i' ≠ 328 → tm 1 i' = sm 1 i') → tm 1 328 = j → K i tm := by
      intro k
      induction k with
      | zero =>
        intro i tm hi e1 e2 e3 e4
        refine hK _ _ ⟨by omega, fun _ => ⟨by decide, ?_⟩, fun h => by omega⟩
        rw [e4]
        refine ⟨rfl, by omega, ?_, ⟨?_, ?_, ?_, ?_, ?_⟩, ?_⟩
        · unfold Rp
          rw [pu_rc (by decide), pu_sc (by decide), pu_sc (by decide), pu_rc (by decide), pu_sc (by decide), pu_sc (by decide), e1 0 (by decide), e1 4 (by decide)]
          exact hp
        · have e48 : tm 1 48 = sm 1 (377 + 49 * j) := by rw [e2 48 (by omega), show 329 + 49 * j + 48 = 377 + 49 * j by omega]
          refine ⟨⟨?_, ?_, ?_⟩, ?_⟩
          · rw [pu_rc (by decide), pu_ss, e48]
          · rw [e48]; exact v2
          · rw [e48]; exact v3
          · rw [e48]
            intro i' hi'
            rw [e2 i' (by omega), show 2 + 1 = 3 from rfl, pu_rr]
            unfold sq_cp
            rw [if_pos (by omega)]
            have := v4 i' hi'
            rw [show (((j : Int) * 48).toNat + (i' - 0)) = 48 * j + i' by omega]
            exact this
        · exact d2.to (by rw [pu_rc (by decide), pu_sk (by decide), pu_sk (by decide)]) (fun i _ => by rw [pu_rc (by decide), pu_sc (by decide), pu_sc (by decide)]) (fun i _ _ => by rw [e3 i (by omega) (by omega)])
        · exact d3.to (fun i _ => by rw [pu_rc (by decide), pu_sc (by decide), pu_sc (by decide)]) (fun i _ _ => by rw [e3 i (by omega) (by omega)])
        · exact d4.to (fun i _ => by rw [pu_rc (by decide), pu_sc (by decide), pu_sc (by decide)]) (fun i _ _ => by rw [e3 i (by omega) (by omega)])
        · refine ⟨⟨?_, ?_, ?_⟩, ?_⟩
          · rw [pu_rc (by decide), pu_sk (by decide), pu_ss, e4]
          · rw [e4]; omega
          · rw [e4]; omega
          · rw [e4]
            intro j' hj'
            exact (s4 j' (by omega)).to (by rw [pu_rc (by decide), pu_sc (by decide), pu_sc (by decide)]) (fun i _ => by rw [pu_rc (by decide), pu_sc (by decide), pu_sc (by decide)]) (fun i _ => by rw [e3 _ (by omega) (by omega)])
        · exact h3.cells (by rw [pu_rc (by decide), pu_sc (by decide), pu_sc (by decide)]) (fun c hc _ => by rw [pu_rc (by omega), pu_sc (by omega), pu_sc (by omega)]) (e1 2 (by decide)) (e1 3 (by decide))
      | succ k ih =>
        intro i tm hi e1 e2 e3 e4
        refine hK _ _ ⟨by omega, fun h => by omega, fun _ => ⟨by decide, ?_, by omega, ?_⟩⟩
        · rw [e4]
          omega
        · rintro _ rfl
          rw [e4, show (329 + 49 * (j : Int) + (i : Int)).toNat = 329 + 49 * j + i by omega, show (0 + (i : Int)).toNat = i by omega, show (i : Int) + 1 = ((i + 1 : Nat) : Int) by omega]
          have hs : tm 1 (329 + 49 * j + i) = sm 1 (329 + 49 * j + i) := e3 _ (by omega) (by omega)
          refine ih (i + 1) _ (by omega) (fun c hc => by rw [pu_sc hc]; exact e1 c hc) (fun i' hi' => ?_) (fun i' h1 h2 => by rw [pu_sk (by omega)]; exact e3 i' h1 h2) (by rw [pu_sk (by omega)]; exact e4)
          by_cases hi2 : i' = i
          · subst hi2
            rw [pu_ss, hs]
          · rw [pu_sk hi2]
            exact e2 i' (by omega)
    refine loop 49 0 _ (by omega) (fun c hc => by rw [pu_sc hc]) (fun i' h => by omega) (fun i' h1 h2 => by rw [pu_sk h2]) ?_
    rw [pu_ss]
    omega
  · intro K hK
    exact ⟨by decide, by omega, fun h => by omega, fun _ => ⟨rfl, by decide, hR0⟩⟩

theorem pu_cf_9_2 {st : sq_S} {Q : Int → sq_S → Prop} (hq : ∀ st' : sq_S, (∀ c : Nat, c < 9 ∨ 15 < c → st' c = st c) → st' 9 1 = st 2 1 → st' 9 3 = st 2 3 → st' 9 8 = st 2 8 → (∀ i : Nat, i < 48 → st' 10 i = st 3 i) → (∀ i : Nat, i < 6 → st' 11 i = st 4 i) → (∀ i : Nat, i < 16 → st' 12 i = st 5 i) → (∀ i : Nat, i < 16 → st' 13 i = st 6 i) → (∀ i : Nat, i < 480 → st' 14 i = st 7 i) → (∀ i : Nat, i < 10 → st' 15 i = st 8 i) → Q 0 st') : wX0_copyFrom_9_2 st Q := by
  refine ⟨by decide, ?_⟩
  rintro _ rfl _ rfl
  refine ⟨by decide, ?_⟩
  rintro _ rfl _ rfl
  refine ⟨by decide, ?_⟩
  rintro _ rfl
  refine ⟨by decide, ?_⟩
  rintro _ rfl
  refine ⟨by decide, ?_⟩
  rintro _ rfl
  refine ⟨by decide, ?_⟩
  rintro _ rfl _ rfl
  apply hq
  · intro c hc
    rw [pu_sc (by omega), pu_rc (by omega), pu_rc (by omega), pu_rc (by omega), pu_rc (by omega), pu_sc (by omega), pu_rc (by omega), pu_sc (by omega), pu_rc (by omega)]
  · simp [sq_set, sq_row]
  · simp [sq_set, sq_row]
  · simp [sq_set, sq_row]
  all_goals
    intro i hi
    simp [sq_set, sq_row, sq_cp, hi]
theorem pu_cf_16_2 {st : sq_S} {Q : Int → sq_S → Prop} (hq : ∀ st' : sq_S, (∀ c : Nat, c < 16 ∨ 22 < c → st' c = st c) → st' 16 1 = st 2 1 → st' 16 3 = st 2 3 → st' 16 8 = st 2 8 → (∀ i : Nat, i < 48 → st' 17 i = st 3 i) → (∀ i : Nat, i < 6 → st' 18 i = st 4 i) → (∀ i : Nat, i < 16 → st' 19 i = st 5 i) → (∀ i : Nat, i < 16 → st' 20 i = st 6 i) → (∀ i : Nat, i < 480 → st' 21 i = st 7 i) → (∀ i : Nat, i < 10 → st' 22 i = st 8 i) → Q 0 st') : wX0_copyFrom_16_2 st Q := by
  refine ⟨by decide, ?_⟩
  rintro _ rfl _ rfl
  refine ⟨by decide, ?_⟩
  rintro _ rfl _ rfl
  refine ⟨by decide, ?_⟩
  rintro _ rfl
  refine ⟨by decide, ?_⟩
  rintro _ rfl
  refine ⟨by decide, ?_⟩
  rintro _ rfl
  refine ⟨by decide, ?_⟩
  rintro _ rfl _ rfl
  apply hq
  · intro c hc
    rw [pu_sc (by omega), pu_rc (by omega), pu_rc (by omega), pu_rc (by omega), pu_rc (by omega), pu_sc (by omega), pu_rc (by omega), pu_sc (by omega), pu_rc (by omega)]
  · simp [sq_set, sq_row]
  · simp [sq_set, sq_row]
  · simp [sq_set, sq_row]
  all_goals
    intro i hi
    simp [sq_set, sq_row, sq_cp, hi]
theorem pu_cf_2_9 {st : sq_S} {Q : Int → sq_S → Prop} (hq : ∀ st' : sq_S, (∀ c : Nat, c < 2 ∨ 8 < c → st' c = st c) → st' 2 1 = st 9 1 → st' 2 3 = st 9 3 → st' 2 8 = st 9 8 → (∀ i : Nat, i < 48 → st' 3 i = st 10 i) → (∀ i : Nat, i < 6 → st' 4 i = st 11 i) → (∀ i : Nat, i < 16 → st' 5 i = st 12 i) → (∀ i : Nat, i < 16 → st' 6 i = st 13 i) → (∀ i : Nat, i < 480 → st' 7 i = st 14 i) → (∀ i : Nat, i < 10 → st' 8 i = st 15 i) → Q 0 st') : wX0_copyFrom_2_9 st Q := by
  refine ⟨by decide, ?_⟩
  rintro _ rfl _ rfl
  refine ⟨by decide, ?_⟩
  rintro _ rfl _ rfl
  refine ⟨by decide, ?_⟩
  rintro _ rfl
  refine ⟨by decide, ?_⟩
  rintro _ rfl
  refine ⟨by decide, ?_⟩
  rintro _ rfl
  refine ⟨by decide, ?_⟩
  rintro _ rfl _ rfl
  apply hq
  · intro c hc
    rw [pu_sc (by omega), pu_rc (by omega), pu_rc (by omega), pu_rc (by omega), pu_rc (by omega), pu_sc (by omega), pu_rc (by omega), pu_sc (by omega), pu_rc (by omega)]
  · simp [sq_set, sq_row]
  · simp [sq_set, sq_row]
  · simp [sq_set, sq_row]
  all_goals
    intro i hi
    simp [sq_set, sq_row, sq_cp, hi]
theorem pu_cf_2_16 {st : sq_S} {Q : Int → sq_S → Prop} (hq : ∀ st' : sq_S, (∀ c : Nat, c < 2 ∨ 8 < c → st' c = st c) → st' 2 1 = st 16 1 → st' 2 3 = st 16 3 → st' 2 8 = st 16 8 → (∀ i : Nat, i < 48 → st' 3 i = st 17 i) → (∀ i : Nat, i < 6 → st' 4 i = st 18 i) → (∀ i : Nat, i < 16 → st' 5 i = st 19 i) → (∀ i : Nat, i < 16 → st' 6 i = st 20 i) → (∀ i : Nat, i < 480 → st' 7 i = st 21 i) → (∀ i : Nat, i < 10 → st' 8 i = st 22 i) → Q 0 st') : wX0_copyFrom_2_16 st Q := by
  refine ⟨by decide, ?_⟩
  rintro _ rfl _ rfl
  refine ⟨by decide, ?_⟩
  rintro _ rfl _ rfl
  refine ⟨by decide, ?_⟩
  rintro _ rfl
  refine ⟨by decide, ?_⟩
  rintro _ rfl
  refine ⟨by decide, ?_⟩
  rintro _ rfl
  refine ⟨by decide, ?_⟩
  rintro _ rfl _ rfl
  apply hq
  · intro c hc
    rw [pu_sc (by omega), pu_rc (by omega), pu_rc (by omega), pu_rc (by omega), pu_rc (by omega), pu_sc (by omega), pu_rc (by omega), pu_sc (by omega), pu_rc (by omega)]
  · simp [sq_set, sq_row]
  · simp [sq_set, sq_row]
  · simp [sq_set, sq_row]
  all_goals
    intro i hi
    simp [sq_set, sq_row, sq_cp, hi]
/-- the reference's loops of image and restore -/
theorem pu_mimg {v : Int} {sm : sq_S} {Q : Int → sq_S → Prop} (h : v = 0 ∨ v = 1) (hq : ∀ sm' : sq_S, (∀ c : Nat, c ≠ 2 → c ≠ 3 → sm' c = sm c) → (∀ i : Nat, i < 819 → sm' 2 (819 * v.toNat + i) = sm 1 i) → (∀ i : Nat, (i < 819 * v.toNat ∨ 819 * v.toNat + 819 ≤ i) → sm' 2 i = sm 2 i) → sm' 3 = sq_set sm 3 v.toNat 1 3 → Q 1 sm') : wX4_image v sm Q := by
  intro K hK
  have loop : ∀ (k i : Nat) (tm : sq_S), i + k = 819 → (∀ c, c ≠ 2 → tm c = sm c) → (∀ i' : Nat, i' < i → tm 2 (819 * v.toNat + i') = sm 1 i') → (∀ i' : Nat, (i' < 819 * v.toNat ∨ 819 * v.toNat + 819 ≤ i') → tm 2 i' = sm 2 i') → K v i tm := by
    intro k
    induction k with
    | zero =>
      intro i tm hi e1 e2 e3
      refine hK _ _ _ ⟨by omega, fun _ => ⟨by omega, Or.inr rfl, ?_⟩, fun h => by omega⟩
      rintro _ rfl
      refine hq _ (fun c h2 h3 => by rw [pu_sc h3]; exact e1 c h2) (fun i' hi' => by rw [pu_sc (by decide)]; exact e2 i' (by omega)) (fun i' hi' => by rw [pu_sc (by decide)]; exact e3 i' hi') ?_
      funext j
      rw [pu_s, pu_s, e1 3 (by decide)]
    | succ k ih =>
      intro i tm hi e1 e2 e3
      refine hK _ _ _ ⟨by omega, fun h => by omega, fun _ => ⟨by omega, by omega, ?_⟩⟩
      rintro _ rfl
      rw [show (819 * v + (i : Int)).toNat = 819 * v.toNat + i by omega, show (i : Int) + 1 = ((i + 1 : Nat) : Int) by omega]
      refine ih (i + 1) _ (by omega) (fun c hc => by rw [pu_sc hc]; exact e1 c hc) (fun i' hi' => ?_) (fun i' hi' => by rw [pu_sk (by omega)]; exact e3 i' hi')
      by_cases hi2 : i' = i
      · subst hi2
        rw [pu_ss, e1 1 (by decide)]
        rfl
      · rw [pu_sk (by omega)]
        exact e2 i' (by omega)
  refine pu_min (by omega) (by decide) (by decide) (by omega) ⟨by decide, fun _ => ?_, fun h => absurd h (by decide)⟩
  exact loop 819 0 sm (by omega) (fun _ _ => rfl) (fun i' h => by omega) (fun _ _ => rfl)
theorem pu_mres {v : Int} {sm : sq_S} {Q : Int → sq_S → Prop} (h : v = 0 ∨ v = 1) (hk : sm 3 v.toNat = 1) (hq : ∀ sm' : sq_S, (∀ c : Nat, c ≠ 1 → sm' c = sm c) → (∀ i : Nat, i < 819 → sm' 1 i = sm 2 (819 * v.toNat + i)) → Q 1 sm') : wX4_restore v sm Q := by
  intro K hK
  have loop : ∀ (k i : Nat) (tm : sq_S), i + k = 819 → (∀ c, c ≠ 1 → tm c = sm c) → (∀ i' : Nat, i' < i → tm 1 i' = sm 2 (819 * v.toNat + i')) → K v i tm := by
    intro k
    induction k with
    | zero =>
      intro i tm hi e1 e2
      exact hK _ _ _ ⟨by omega, fun _ => hq _ e1 (fun i' hi' => e2 i' (by omega)), fun h => by omega⟩
    | succ k ih =>
      intro i tm hi e1 e2
      refine hK _ _ _ ⟨by omega, fun h => by omega, fun _ => ⟨by omega, by omega, ?_⟩⟩
      rintro _ rfl
      rw [show (819 * v + (i : Int)).toNat = 819 * v.toNat + i by omega, show (i : Int) + 1 = ((i + 1 : Nat) : Int) by omega]
      refine ih (i + 1) _ (by omega) (fun c hc => by rw [pu_sc hc]; exact e1 c hc) (fun i' hi' => ?_)
      by_cases hi2 : i' = i
      · subst hi2
        rw [show ((i' : Int)).toNat = i' by omega, pu_ss, e1 2 (by decide)]
      · rw [pu_sk (by omega)]
        exact e2 i' (by omega)
  refine pu_min (by omega) (by decide) (by decide) (by omega) ⟨by decide, fun _ => ⟨by omega, by omega, fun _ => ?_, fun h => by omega⟩, fun h => absurd h (by decide)⟩
  exact loop 819 0 sm (by omega) (fun _ _ => rfl) (fun i' h => by omega)
theorem po_image : sl_o_image Rel := by
  intro sx sm a hR ha
  have hR0 := hR
  obtain ⟨hp, hd, k1, k2, k3, k4, k5⟩ := hR
  by_cases h : a < 0 ∨ 1 < a
  · refine pu_out ha (by decide) (by decide) h ⟨by decide, fun h => absurd h (by decide), fun _ => ?_⟩
    intro K hK
    exact pu_mno ha (by decide) (by decide) h ⟨by decide, fun h => absurd rfl h, fun _ => ⟨rfl, by decide, hR0⟩⟩
  refine pu_inn ha (by decide) (by decide) (by omega) ⟨by decide, fun _ => ⟨by omega, fun h0 => ?_, fun h1 => ?_⟩, fun h => absurd rfl h⟩
  · subst h0
    refine pu_cf_9_2 (fun st' c1 f1 f3 f8 r1 r2 r3 r4 r5 r6 => ?_)
    rintro _ rfl
    refine pu_mimg (Or.inl rfl) (fun sm' m1 m2 m3 m4 => ⟨rfl, by decide, ?_, ?_, ?_⟩)
    · unfold Rp
      rw [pu_sk (by decide), pu_sc (by decide), c1 0 (by omega), c1 1 (by omega), m1 0 (by decide) (by decide), m1 4 (by decide) (by decide)]
      exact hp
    · rw [m1 1 (by decide) (by decide)]
      exact hd.cells (fun c hc hc2 => by rw [pu_sc (by omega), c1 c (by omega)])
    · have e3 : sm' 3 0 = 1 := by rw [m4]; exact pu_ss
      have e4 : sm' 3 1 = sm 3 1 := by rw [m4]; exact pu_sk (by decide)
      refine ⟨Or.inr e3, by rw [e4]; exact k2, ?_, fun _ => ?_, fun h => ?_⟩
      · rw [pu_ss, c1 0 (by omega), k3, e3, e4]
        rcases k1 with q | q <;> rcases k2 with q2 | q2 <;> rw [q, q2] <;> decide
      · exact hd.to3 (by rw [pu_sc (by decide)]; exact f1) (by rw [pu_sc (by decide)]; exact f3) (by rw [pu_sc (by decide)]; exact f8) (fun i hi => by rw [pu_sc (by decide)]; exact r1 i hi) (fun i hi => by rw [pu_sc (by decide)]; exact r2 i hi) (fun i hi => by rw [pu_sc (by decide)]; exact r3 i hi) (fun i hi => by rw [pu_sc (by decide)]; exact r4 i hi) (fun i hi => by rw [pu_sc (by decide)]; exact r5 i hi) (fun i hi => by rw [pu_sc (by decide)]; exact r6 i hi) (fun i hi => by have := m2 i hi; simpa using this)
      · rw [e4] at h
        exact (k5 h).to3 (by rw [pu_sc (by decide), c1 16 (by omega)]) (by rw [pu_sc (by decide), c1 16 (by omega)]) (by rw [pu_sc (by decide), c1 16 (by omega)]) (fun i hi => by rw [pu_sc (by decide), c1 17 (by omega)]) (fun i hi => by rw [pu_sc (by decide), c1 18 (by omega)]) (fun i hi => by rw [pu_sc (by decide), c1 19 (by omega)]) (fun i hi => by rw [pu_sc (by decide), c1 20 (by omega)]) (fun i hi => by rw [pu_sc (by decide), c1 21 (by omega)]) (fun i hi => by rw [pu_sc (by decide), c1 22 (by omega)]) (fun i hi => m3 _ (by simp))
  · subst h1
    refine pu_cf_16_2 (fun st' c1 f1 f3 f8 r1 r2 r3 r4 r5 r6 => ?_)
    rintro _ rfl
    refine pu_mimg (Or.inr rfl) (fun sm' m1 m2 m3 m4 => ⟨rfl, by decide, ?_, ?_, ?_⟩)
    · unfold Rp
      rw [pu_sk (by decide), pu_sc (by decide), c1 0 (by omega), c1 1 (by omega), m1 0 (by decide) (by decide), m1 4 (by decide) (by decide)]
      exact hp
    · rw [m1 1 (by decide) (by decide)]
      exact hd.cells (fun c hc hc2 => by rw [pu_sc (by omega), c1 c (by omega)])
    · have e3 : sm' 3 1 = 1 := by rw [m4]; exact pu_ss
      have e4 : sm' 3 0 = sm 3 0 := by rw [m4]; exact pu_sk (by decide)
      refine ⟨by rw [e4]; exact k1, Or.inr e3, ?_, fun h => ?_, fun _ => ?_⟩
      · rw [pu_ss, c1 0 (by omega), k3, e3, e4]
        rcases k1 with q | q <;> rcases k2 with q2 | q2 <;> rw [q, q2] <;> decide
      · rw [e4] at h
        exact (k4 h).to3 (by rw [pu_sc (by decide), c1 9 (by omega)]) (by rw [pu_sc (by decide), c1 9 (by omega)]) (by rw [pu_sc (by decide), c1 9 (by omega)]) (fun i hi => by rw [pu_sc (by decide), c1 10 (by omega)]) (fun i hi => by rw [pu_sc (by decide), c1 11 (by omega)]) (fun i hi => by rw [pu_sc (by decide), c1 12 (by omega)]) (fun i hi => by rw [pu_sc (by decide), c1 13 (by omega)]) (fun i hi => by rw [pu_sc (by decide), c1 14 (by omega)]) (fun i hi => by rw [pu_sc (by decide), c1 15 (by omega)]) (fun i hi => m3 _ (by left; simp; omega))
      · exact hd.to3 (by rw [pu_sc (by decide)]; exact f1) (by rw [pu_sc (by decide)]; exact f3) (by rw [pu_sc (by decide)]; exact f8) (fun i hi => by rw [pu_sc (by decide)]; exact r1 i hi) (fun i hi => by rw [pu_sc (by decide)]; exact r2 i hi) (fun i hi => by rw [pu_sc (by decide)]; exact r3 i hi) (fun i hi => by rw [pu_sc (by decide)]; exact r4 i hi) (fun i hi => by rw [pu_sc (by decide)]; exact r5 i hi) (fun i hi => by rw [pu_sc (by decide)]; exact r6 i hi) (fun i hi => by have := m2 i hi; simpa using this)
theorem po_restore : sl_o_restore Rel := by
  intro sx sm a hR ha
  have hR0 := hR
  obtain ⟨hp, hd, k1, k2, k3, k4, k5⟩ := hR
  by_cases h : a < 0 ∨ 1 < a
  · refine pu_out ha (by decide) (by decide) h ⟨by decide, fun h => absurd h (by decide), fun _ => ?_⟩
    intro K hK
    exact pu_mno ha (by decide) (by decide) h ⟨by decide, fun h => absurd rfl h, fun _ => ⟨rfl, by decide, hR0⟩⟩
  have hb : sq_and (sq_shr (sx 0 4) a) 1 = sm 3 a.toNat := by
    rw [k3]
    rcases (show a = 0 ∨ a = 1 by omega) with q0 | q0 <;> subst q0 <;> rcases k1 with q | q <;> rcases k2 with q2 | q2 <;> simp only [q, q2, Int.toNat_zero, show (1 : Int).toNat = 1 from rfl] <;> decide
  have hr : sm 3 a.toNat = 0 ∨ sm 3 a.toNat = 1 := by
    rcases (show a = 0 ∨ a = 1 by omega) with q0 | q0 <;> subst q0
    · exact k1
    · exact k2
  refine pu_inn ha (by decide) (by decide) (by omega) ⟨by decide, fun _ => ?_, fun h => absurd rfl h⟩
  rw [hb]
  refine ⟨by omega, fun hk => ⟨by omega, fun h0 => ?_, fun h1 => ?_⟩, fun hk => ?_⟩
  · subst h0
    have hk1 : sm 3 0 = 1 := by rcases hr with q | q; exact absurd q hk; exact q
    refine pu_cf_2_9 (fun st' c1 f1 f3 f8 r1 r2 r3 r4 r5 r6 => ?_)
    refine pu_mres (Or.inl rfl) hk1 (fun sm' m1 m2 => ⟨rfl, by decide, ?_, ?_, ?_⟩)
    · unfold Rp
      rw [c1 0 (by omega), c1 1 (by omega), m1 0 (by decide), m1 4 (by decide)]
      exact hp
    · exact (k4 hk1).to3 f1 f3 f8 r1 r2 r3 r4 r5 r6 (fun i hi => by have := m2 i hi; simpa using this)
    · exact Rk.cells ⟨k1, k2, k3, k4, k5⟩ (by rw [c1 0 (by omega)]) (fun c _ _ => c1 c (by omega)) (m1 2 (by decide)) (m1 3 (by decide))
  · subst h1
    have hk1 : sm 3 1 = 1 := by rcases hr with q | q; exact absurd q hk; exact q
    refine pu_cf_2_16 (fun st' c1 f1 f3 f8 r1 r2 r3 r4 r5 r6 => ?_)
    refine pu_mres (Or.inr rfl) hk1 (fun sm' m1 m2 => ⟨rfl, by decide, ?_, ?_, ?_⟩)
    · unfold Rp
      rw [c1 0 (by omega), c1 1 (by omega), m1 0 (by decide), m1 4 (by decide)]
      exact hp
    · exact (k5 hk1).to3 f1 f3 f8 r1 r2 r3 r4 r5 r6 (fun i hi => by have := m2 i hi; simpa using this)
    · exact Rk.cells ⟨k1, k2, k3, k4, k5⟩ (by rw [c1 0 (by omega)]) (fun c _ _ => c1 c (by omega)) (m1 2 (by decide)) (m1 3 (by decide))
  · intro K hK
    exact pu_min ha (by decide) (by decide) (by omega) ⟨by decide, fun _ => ⟨by omega, by omega, fun h => absurd hk h, fun _ => ⟨rfl, by decide, hR0⟩⟩, fun h => absurd h (by decide)⟩

