/-! pure part: take -/
theorem px_pho_yes {n : Nat} {st : sq_S} {Q : Int → sq_S → Prop} (hn : st 0 1 = n) (h48 : n ≤ 48) (h : ∀ i : Nat, i < n → 97 ≤ st 1 i ∧ st 1 i ≤ 112) (hq : Q 1 st) : wX3_padHasOnlyLetters st Q := by
  intro K hK
  have loop : ∀ (m k : Nat), k + m = n → K (k : Int) st := by
    intro m
    induction m with
    | zero => intro k hk; exact hK _ _ ⟨by omega, fun _ => ⟨Or.inr rfl, hq⟩, fun h => by omega⟩
    | succ m ih =>
      intro k hk
      have hb := h k (by omega)
      refine hK _ _ ⟨by omega, fun h => by omega, fun _ => ⟨by omega, ?_⟩⟩
      rw [show (((k : Nat) : Int).toNat) = k from rfl]
      refine pu_nli (by omega) (by omega) ⟨by decide, fun _ => ?_, fun h => absurd rfl h⟩
      rw [pu_i]
      exact ih (k + 1) (by omega)
  exact loop n 0 (by omega)
theorem px_pho_no {n : Nat} {st : sq_S} {Q : Int → sq_S → Prop} (hn : st 0 1 = n) (h48 : n ≤ 48) (hr : ∀ i : Nat, i < n → 33 ≤ st 1 i ∧ st 1 i ≤ 126) (h : ∃ i : Nat, i < n ∧ (st 1 i < 97 ∨ 112 < st 1 i)) (hq : Q 0 st) : wX3_padHasOnlyLetters st Q := by
  intro K hK
  obtain ⟨j, hj, hb⟩ := h
  have loop : ∀ (m k : Nat), k + m = j → K (k : Int) st := by
    intro m
    induction m with
    | zero =>
      intro k hk
      have e : k = j := by omega
      subst e
      have h1 := hr k hj
      refine hK _ _ ⟨by omega, fun h => by omega, fun _ => ⟨by omega, ?_⟩⟩
      rw [show (((k : Nat) : Int).toNat) = k from rfl]
      exact pu_nlo (by omega) (by omega) ⟨by decide, fun h => absurd h (by decide), fun _ => ⟨Or.inl rfl, hq⟩⟩
    | succ m ih =>
      intro k hk
      have h1 := hr k (by omega)
      refine hK _ _ ⟨by omega, fun h => by omega, fun _ => ⟨by omega, ?_⟩⟩
      rw [show (((k : Nat) : Int).toNat) = k from rfl]
      by_cases hb2 : st 1 k < 97 ∨ 112 < st 1 k
      · exact pu_nlo (by omega) (by omega) ⟨by decide, fun h => absurd h (by decide), fun _ => ⟨Or.inl rfl, hq⟩⟩
      · refine pu_nli (by omega) (by omega) ⟨by decide, fun _ => ?_, fun h => absurd rfl h⟩
        rw [pu_i]
        exact ih (k + 1) (by omega)
  exact loop j 0 (by omega)
theorem px_rpi_3 {n : Nat} {st : sq_S} {Q : Int → sq_S → Prop} (hn : st 0 1 = n) (h48 : n ≤ 48) (hq : ∀ st' : sq_S, (∀ c : Nat, c ≠ 3 → st' c = st c) → (∀ i : Nat, i < n → st' 3 i = st 1 i - 97) → Q 0 st') : wX3_readPadInto_3 st Q := by
  intro K hK
  have loop : ∀ (m k : Nat) (tm : sq_S), k + m = n → (∀ c : Nat, c ≠ 3 → tm c = st c) → (∀ i : Nat, i < k → tm 3 i = st 1 i - 97) → K (k : Int) tm := by
    intro m
    induction m with
    | zero =>
      intro k tm hk e1 e2
      have e : k = n := by omega
      subst e
      refine hK _ _ ?_
      unfold bX3_readPadInto_3_2
      rw [e1 0 (by decide)]
      exact ⟨by omega, fun _ => hq _ e1 e2, fun h => by omega⟩
    | succ m ih =>
      intro k tm hk e1 e2
      refine hK _ _ ?_
      unfold bX3_readPadInto_3_2
      rw [e1 0 (by decide), e1 1 (by decide)]
      refine ⟨by omega, fun h => by omega, fun _ => ⟨by omega, fun h => by omega, fun _ => ⟨by omega, by omega, ?_⟩⟩⟩
      rintro _ rfl
      rw [show (((k : Nat) : Int).toNat) = k from rfl, pu_i]
      refine ih (k + 1) _ (by omega) (fun c hc => by rw [pu_sc hc]; exact e1 c hc) (fun i hi => ?_)
      by_cases h2 : i = k
      · subst h2
        rw [pu_ss]
      · rw [pu_sk h2]
        exact e2 i (by omega)
  exact loop n 0 st (by omega) (fun _ _ => rfl) (fun i h => by omega)
theorem px_rpi_4 {n : Nat} {st : sq_S} {Q : Int → sq_S → Prop} (hn : st 0 1 = n) (h48 : n ≤ 6) (hq : ∀ st' : sq_S, (∀ c : Nat, c ≠ 4 → st' c = st c) → (∀ i : Nat, i < n → st' 4 i = st 1 i - 97) → Q 0 st') : wX3_readPadInto_4 st Q := by
  intro K hK
  have loop : ∀ (m k : Nat) (tm : sq_S), k + m = n → (∀ c : Nat, c ≠ 4 → tm c = st c) → (∀ i : Nat, i < k → tm 4 i = st 1 i - 97) → K (k : Int) tm := by
    intro m
    induction m with
    | zero =>
      intro k tm hk e1 e2
      have e : k = n := by omega
      subst e
      refine hK _ _ ?_
      unfold bX3_readPadInto_4_2
      rw [e1 0 (by decide)]
      exact ⟨by omega, fun _ => hq _ e1 e2, fun h => by omega⟩
    | succ m ih =>
      intro k tm hk e1 e2
      refine hK _ _ ?_
      unfold bX3_readPadInto_4_2
      rw [e1 0 (by decide), e1 1 (by decide)]
      refine ⟨by omega, fun h => by omega, fun _ => ⟨by omega, fun h => by omega, fun _ => ⟨by omega, by omega, ?_⟩⟩⟩
      rintro _ rfl
      rw [show (((k : Nat) : Int).toNat) = k from rfl, pu_i]
      refine ih (k + 1) _ (by omega) (fun c hc => by rw [pu_sc hc]; exact e1 c hc) (fun i hi => ?_)
      by_cases h2 : i = k
      · subst h2
        rw [pu_ss]
      · rw [pu_sk h2]
        exact e2 i (by omega)
  exact loop n 0 st (by omega) (fun _ _ => rfl) (fun i h => by omega)
/-- the reference's take, refused and not -/
theorem pm_take_bad {v n : Int} {sm : sq_S} {Q : Int → sq_S → Prop} (hv : v = 0 ∨ v = 1) (hn : sm 0 4 = n) (h0 : 0 ≤ n) (h48 : n ≤ 48) (hr : ∀ i : Nat, (i : Int) < n → 33 ≤ sm 4 i ∧ sm 4 i ≤ 126) (hb : (v = 1 ∧ (n < 1 ∨ 6 < n)) ∨ ∃ i : Nat, (i : Int) < n ∧ (sm 4 i < 97 ∨ 112 < sm 4 i)) (hq : Q (-7) sm) : wX4_take v sm Q := by
  intro K K2 hK hK2
  -- from 'is' false on
  have lz : ∀ (m k : Nat), (k : Int) + m = n → K v 0 (k : Int) sm := by
    intro m
    induction m with
    | zero => intro k hk; exact hK _ _ _ _ ⟨by omega, fun _ => ⟨by decide, fun h => absurd rfl h, fun _ => hq⟩, fun h => by omega⟩
    | succ m ih =>
      intro k hk
      refine hK _ _ _ _ ⟨by omega, fun h => by omega, fun _ => ⟨by decide, fun _ => ?_, fun h => absurd rfl h⟩⟩
      rw [pu_i]
      exact ih (k + 1) (by omega)
  have l1 : (∃ i : Nat, (i : Int) < n ∧ (sm 4 i < 97 ∨ 112 < sm 4 i)) → K v 1 0 sm := by
    rintro ⟨j, hj, hb⟩
    have loop : ∀ (m k : Nat), k + m = j → K v 1 (k : Int) sm := by
      intro m
      induction m with
      | zero =>
        intro k hk
        have e : k = j := by omega
        subst e
        have h1 := hr k hj
        refine hK _ _ _ _ ⟨by omega, fun h => by omega, fun _ => ⟨by decide, fun h => absurd h (by decide), fun _ => ⟨by omega, ?_⟩⟩⟩
        rw [show (((k : Nat) : Int).toNat) = k from rfl]
        refine pu_mno (by omega) (by decide) (by decide) hb ⟨by decide, fun _ => ?_, fun h => absurd rfl h⟩
        rw [pu_i]
        exact lz (n.toNat - (k + 1)) (k + 1) (by omega)
      | succ m ih =>
        intro k hk
        have h1 := hr k (by omega)
        refine hK _ _ _ _ ⟨by omega, fun h => by omega, fun _ => ⟨by decide, fun h => absurd h (by decide), fun _ => ⟨by omega, ?_⟩⟩⟩
        rw [show (((k : Nat) : Int).toNat) = k from rfl]
        by_cases hb2 : sm 4 k < 97 ∨ 112 < sm 4 k
        · refine pu_mno (by omega) (by decide) (by decide) hb2 ⟨by decide, fun _ => ?_, fun h => absurd rfl h⟩
          rw [pu_i]
          exact lz (n.toNat - (k + 1)) (k + 1) (by omega)
        · refine pu_min (by omega) (by decide) (by decide) (by omega) ⟨by decide, fun h => absurd h (by decide), fun _ => ?_⟩
          rw [pu_i]
          exact ih (k + 1) (by omega)
    exact loop j 0 (by omega)
  have hv1 : sq_rg v := by clear hb; omega
  have hv2 : 0 ≤ v ∧ v ≤ 1 := by clear hb; omega
  refine pu_min hv1 (by decide) (by decide) hv2 ⟨by decide, fun _ => ⟨hv1, fun h => ?_, fun h => ?_⟩, fun h => absurd h (by decide)⟩
  · refine l1 ?_
    rcases hb with hb | hb
    · omega
    · exact hb
  · rw [hn]
    by_cases h6 : n < 1 ∨ 6 < n
    · exact pu_mno (by omega) (by decide) (by decide) h6 ⟨by decide, fun _ => lz n.toNat 0 (by omega), fun h => absurd rfl h⟩
    · refine pu_min (by omega) (by decide) (by decide) (by omega) ⟨by decide, fun h => absurd h (by decide), fun _ => l1 ?_⟩
      rcases hb with hb | hb
      · omega
      · exact hb
theorem pm_take_ok {v : Int} {n : Nat} {sm : sq_S} {Q : Int → sq_S → Prop} (hv : v = 0 ∨ v = 1) (hn : sm 0 4 = n) (h48 : n ≤ 48) (hg : ∀ i : Nat, i < n → 97 ≤ sm 4 i ∧ sm 4 i ≤ 112) (h6 : v = 1 → 1 ≤ n ∧ n ≤ 6) (hq : ∀ sm' : sq_S, (∀ c : Nat, c ≠ 0 → c ≠ 1 → sm' c = sm c) → sm' 0 4 = 0 → (v = 0 → (∀ i : Nat, i < n → sm' 1 i = sm 4 i - 97) ∧ sm' 1 48 = n ∧ ∀ i : Nat, 48 < i → sm' 1 i = sm 1 i) → (v = 1 → (∀ i : Nat, i < n → sm' 1 (49 + i) = sm 4 i - 97) ∧ sm' 1 55 = n ∧ ∀ i : Nat, (i < 49 ∨ 55 < i) → sm' 1 i = sm 1 i) → Q n sm') : wX4_take v sm Q := by
  intro K K2 hK hK2
  have l2 : ∀ (m k : Nat) (tm : sq_S), k + m = n → (∀ c : Nat, c ≠ 1 → tm c = sm c) → (v = 0 → (∀ i : Nat, i < k → tm 1 i = sm 4 i - 97) ∧ ∀ i : Nat, 48 ≤ i → tm 1 i = sm 1 i) → (v = 1 → (∀ i : Nat, i < k → tm 1 (49 + i) = sm 4 i - 97) ∧ ∀ i : Nat, (i < 49 ∨ 55 ≤ i) → tm 1 i = sm 1 i) → K2 v (k : Int) tm := by
    intro m
    induction m with
    | zero =>
      intro k tm hk e1 e2 e3
      have e : k = n := by omega
      subst e
      refine hK2 _ _ _ ?_
      unfold bX4_take_86
      rw [e1 0 (by decide), hn]
      refine ⟨by omega, fun _ => ⟨by omega, fun hv1 => ⟨by decide, ?_⟩, fun hv0 => ⟨by decide, ?_⟩⟩, fun h => by omega⟩
      · rintro _ rfl _ rfl _ rfl
        rw [pu_sc (show (0 : Nat) ≠ 1 by decide), e1 0 (by decide), hn]
        refine hq _ (fun c h0 h1 => by rw [pu_sc h0, pu_sc h1]; exact e1 c h1) pu_ss (fun h => by omega) (fun h => ⟨fun i hi => ?_, ?_, fun i hi => ?_⟩)
        · rw [pu_sc (by decide), pu_sk (by omega)]
          exact (e3 h).1 i hi
        · rw [pu_sc (by decide), pu_ss]
        · rw [pu_sc (by decide), pu_sk (by omega)]
          exact (e3 h).2 i (by omega)
      · rintro _ rfl _ rfl _ rfl
        rw [pu_sc (show (0 : Nat) ≠ 1 by decide), e1 0 (by decide), hn]
        refine hq _ (fun c h0 h1 => by rw [pu_sc h0, pu_sc h1]; exact e1 c h1) pu_ss (fun h => ⟨fun i hi => ?_, ?_, fun i hi => ?_⟩) (fun h => by omega)
        · rw [pu_sc (by decide), pu_sk (by omega)]
          exact (e2 h).1 i hi
        · rw [pu_sc (by decide), pu_ss]
        · rw [pu_sc (by decide), pu_sk (by omega)]
          exact (e2 h).2 i (by omega)
    | succ m ih =>
      intro k tm hk e1 e2 e3
      refine hK2 _ _ _ ?_
      unfold bX4_take_86
      rw [e1 0 (by decide), hn, e1 4 (by decide)]
      refine ⟨by omega, fun h => by omega, fun _ => ⟨by omega, fun hv1 => ⟨by omega, by omega, ?_⟩, fun hv0 => ⟨by omega, by omega, ?_⟩⟩⟩
      · have hv1 : v = 1 := by omega
        have := h6 hv1
        rintro _ rfl
        rw [show (((k : Nat) : Int).toNat) = k from rfl, show (49 + (k : Int)).toNat = 49 + k by omega, pu_i]
        refine ih (k + 1) _ (by omega) (fun c hc => by rw [pu_sc hc]; exact e1 c hc) (fun h => by omega) (fun h => ⟨fun i hi => ?_, fun i hi => ?_⟩)
        · by_cases h2 : i = k
          · subst h2
            rw [pu_ss]
          · rw [pu_sk (by omega)]
            exact (e3 h).1 i (by omega)
        · rw [pu_sk (by omega)]
          exact (e3 h).2 i hi
      · rintro _ rfl
        rw [show (((k : Nat) : Int).toNat) = k from rfl, pu_z, pu_i]
        refine ih (k + 1) _ (by omega) (fun c hc => by rw [pu_sc hc]; exact e1 c hc) (fun h => ⟨fun i hi => ?_, fun i hi => ?_⟩) (fun h => by omega)
        · by_cases h2 : i = k
          · subst h2
            rw [pu_ss]
          · rw [pu_sk (by omega)]
            exact (e2 h).1 i (by omega)
        · rw [pu_sk (by omega)]
          exact (e2 h).2 i hi
  have l1 : ∀ (m k : Nat), k + m = n → K v 1 (k : Int) sm := by
    intro m
    induction m with
    | zero =>
      intro k hk
      exact hK _ _ _ _ ⟨by omega, fun _ => ⟨by decide, fun _ => l2 n 0 sm (by omega) (fun _ _ => rfl) (fun _ => ⟨fun i h => by omega, fun _ _ => rfl⟩) (fun _ => ⟨fun i h => by omega, fun _ _ => rfl⟩), fun h => absurd h (by decide)⟩, fun h => by omega⟩
    | succ m ih =>
      intro k hk
      have h1 := hg k (by omega)
      refine hK _ _ _ _ ⟨by omega, fun h => by omega, fun _ => ⟨by decide, fun h => absurd h (by decide), fun _ => ⟨by omega, ?_⟩⟩⟩
      rw [show (((k : Nat) : Int).toNat) = k from rfl]
      refine pu_min (by omega) (by decide) (by decide) h1 ⟨by decide, fun h => absurd h (by decide), fun _ => ?_⟩
      rw [pu_i]
      exact ih (k + 1) (by omega)
  refine pu_min (by omega) (by decide) (by decide) (by omega) ⟨by decide, fun _ => ⟨by omega, fun h => l1 n 0 (by omega), fun h => ?_⟩, fun h => absurd h (by decide)⟩
  have := h6 (by omega)
  rw [hn]
  exact pu_min (by omega) (by decide) (by decide) (by omega) ⟨by decide, fun h => absurd h (by decide), fun _ => l1 n 0 (by omega)⟩
theorem po_take : sl_o_take Rel := by
  intro sx sm a hR ha
  have hR0 := hR
  obtain ⟨⟨⟨p1, p2, p3⟩, p4⟩, ⟨d1, d2, d3, d4, d5⟩, h3⟩ := hR
  obtain ⟨n, hn⟩ := pu_nat p2
  rw [hn] at p1 p4
  intro K hK
  by_cases h : a < 0 ∨ 1 < a
  · refine pu_out ha (by decide) (by decide) h ⟨by decide, fun h => absurd h (by decide), fun _ => ?_⟩
    intro K1 K2 hK1 hK2
    exact pu_mno ha (by decide) (by decide) h ⟨by decide, fun h => absurd rfl h, fun _ => ⟨rfl, by decide, hR0⟩⟩
  have hrx : ∀ i : Nat, i < n → 33 ≤ sx 1 i ∧ sx 1 i ≤ 126 := fun i hi => by have := p4 i (by omega); omega
  refine pu_inn ha (by decide) (by decide) (by omega) ⟨by decide, fun _ => ?_, fun h => absurd rfl h⟩
  by_cases hg : ∀ i : Nat, i < n → 97 ≤ sx 1 i ∧ sx 1 i ≤ 112
  · refine px_pho_yes p1 (by omega) hg ⟨by decide, fun h => absurd h (by decide), fun _ => ?_⟩
    have hgm : ∀ i : Nat, i < n → 97 ≤ sm 4 i ∧ sm 4 i ≤ 112 := fun i hi => by have := p4 i (by omega); have := hg i hi; omega
    have go : (a = 1 → 1 ≤ n ∧ n ≤ 6) → K a sx := by
      intro h6
      refine hK _ _ ⟨by omega, fun ha1 => ?_, fun ha0 => ?_⟩
      · have ha1 : a = 1 := by omega
        have h61 := h6 ha1
        refine px_rpi_4 p1 h61.2 (fun st' e1 e2 => ?_)
        rintro _ rfl _ rfl _ rfl
        rw [pu_sc (show (0 : Nat) ≠ 2 by decide), e1 0 (by decide), p1]
        refine pm_take_ok (by omega) hn (by omega) hgm h6 (fun sm' m1 m2 m3 m4 => ?_)
        obtain ⟨m5, m6, m7⟩ := m4 ha1
        refine ⟨rfl, by omega, ?_, ⟨?_, ?_, ?_, ?_, ?_⟩, ?_⟩
        · refine ⟨⟨by rw [pu_ss, m2], by omega, by omega⟩, fun i hi => by omega⟩
        · exact d1.to (by rw [pu_sc (by decide), pu_sk (by decide), e1 2 (by decide)]) (fun i _ => by rw [pu_sc (by decide), pu_sc (by decide), e1 3 (by decide)]) (fun i _ => m7 i (by omega))
        · refine ⟨⟨?_, ?_, ?_⟩, fun i hi => ?_⟩
          · rw [pu_sc (by decide), pu_ss, m6]
          · rw [m6]; omega
          · rw [m6]; omega
          · rw [m6] at hi
            rw [pu_sc (by decide), pu_sc (by decide), m5 i (by omega)]
            have q1 := e2 i (by omega)
            have q2 : sx 1 i = sm 4 i ∧ 33 ≤ sm 4 i ∧ sm 4 i ≤ 126 := p4 i (by omega)
            have q3 := hgm i (by omega)
            refine ⟨?_, by omega, by omega⟩
            show st' 4 i = _
            rw [q1, q2.1]
        · exact d3.to (fun i _ => by rw [pu_sc (by decide), pu_sc (by decide), e1 5 (by decide)]) (fun i _ _ => m7 i (by omega))
        · exact d4.to (fun i _ => by rw [pu_sc (by decide), pu_sc (by decide), e1 6 (by decide)]) (fun i _ _ => m7 i (by omega))
        · exact d5.to (by rw [pu_sc (by decide), pu_sk (by decide), e1 2 (by decide)]) (fun i _ => by rw [pu_sc (by decide), pu_sc (by decide), e1 8 (by decide)]) (fun i _ => by rw [pu_sc (by decide), pu_sc (by decide), e1 7 (by decide)]) (fun i _ _ => m7 i (by omega))
        · exact h3.cells (by rw [pu_sk (by decide), pu_sc (by decide), e1 0 (by decide)]) (fun c hc _ => by rw [pu_sc (by omega), pu_sc (by omega), e1 c (by omega)]) (m1 2 (by decide) (by decide)) (m1 3 (by decide) (by decide))
      · refine px_rpi_3 p1 (by omega) (fun st' e1 e2 => ?_)
        rintro _ rfl _ rfl _ rfl
        rw [pu_sc (show (0 : Nat) ≠ 2 by decide), e1 0 (by decide), p1]
        refine pm_take_ok (by omega) hn (by omega) hgm h6 (fun sm' m1 m2 m3 m4 => ?_)
        obtain ⟨m5, m6, m7⟩ := m3 ha0
        refine ⟨rfl, by omega, ?_, ⟨?_, ?_, ?_, ?_, ?_⟩, ?_⟩
        · refine ⟨⟨by rw [pu_ss, m2], by omega, by omega⟩, fun i hi => by omega⟩
        · refine ⟨⟨?_, ?_, ?_⟩, fun i hi => ?_⟩
          · rw [pu_sc (by decide), pu_ss, m6]
          · rw [m6]; omega
          · rw [m6]; omega
          · rw [m6] at hi
            rw [pu_sc (by decide), pu_sc (by decide), m5 i (by omega)]
            have q1 := e2 i (by omega)
            have q2 : sx 1 i = sm 4 i ∧ 33 ≤ sm 4 i ∧ sm 4 i ≤ 126 := p4 i (by omega)
            have q3 := hgm i (by omega)
            refine ⟨?_, by omega, by omega⟩
            show st' 3 i = _
            rw [q1, q2.1]
        · exact d2.to (by rw [pu_sc (by decide), pu_sk (by decide), e1 2 (by decide)]) (fun i _ => by rw [pu_sc (by decide), pu_sc (by decide), e1 4 (by decide)]) (fun i _ _ => m7 i (by omega))
        · exact d3.to (fun i _ => by rw [pu_sc (by decide), pu_sc (by decide), e1 5 (by decide)]) (fun i _ _ => m7 i (by omega))
        · exact d4.to (fun i _ => by rw [pu_sc (by decide), pu_sc (by decide), e1 6 (by decide)]) (fun i _ _ => m7 i (by omega))
        · exact d5.to (by rw [pu_sc (by decide), pu_sk (by decide), e1 2 (by decide)]) (fun i _ => by rw [pu_sc (by decide), pu_sc (by decide), e1 8 (by decide)]) (fun i _ => by rw [pu_sc (by decide), pu_sc (by decide), e1 7 (by decide)]) (fun i _ _ => m7 i (by omega))
        · exact h3.cells (by rw [pu_sk (by decide), pu_sc (by decide), e1 0 (by decide)]) (fun c hc _ => by rw [pu_sc (by omega), pu_sc (by omega), e1 c (by omega)]) (m1 2 (by decide) (by decide)) (m1 3 (by decide) (by decide))
    refine ⟨by omega, fun h1 => go (fun h => absurd h h1), fun h1 => ?_⟩
    rw [p1]
    by_cases h6 : (n : Int) < 1 ∨ 6 < (n : Int)
    · refine pu_out (by omega) (by decide) (by decide) h6 ⟨by decide, fun h => absurd h (by decide), fun _ => ?_⟩
      exact pm_take_bad (by omega) hn (by omega) (by omega) (fun i hi => by have := p4 i hi; omega) (Or.inl ⟨h1, h6⟩) ⟨rfl, by decide, hR0⟩
    · exact pu_inn (by omega) (by decide) (by decide) (by omega) ⟨by decide, fun _ => go (fun _ => by omega), fun h => absurd rfl h⟩
  · obtain ⟨j, hj⟩ := Classical.not_forall.mp hg
    have hj2 : j < n ∧ (sx 1 j < 97 ∨ 112 < sx 1 j) := by
      by_cases hjn : j < n
      · refine ⟨hjn, ?_⟩
        have : ¬ (97 ≤ sx 1 j ∧ sx 1 j ≤ 112) := fun q => hj (fun _ => q)
        omega
      · exact absurd (fun q => absurd q hjn) hj
    refine px_pho_no p1 (by omega) hrx ⟨j, hj2⟩ ⟨by decide, fun _ => ?_, fun h => absurd rfl h⟩
    have hpj := p4 j (by omega)
    exact pm_take_bad (by omega) hn (by omega) (by omega) (fun i hi => by have := p4 i hi; omega) (Or.inr ⟨j, by omega, by have := hpj.1; omega⟩) ⟨rfl, by decide, hR0⟩
