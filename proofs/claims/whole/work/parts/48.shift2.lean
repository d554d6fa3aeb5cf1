/-! pure part: shift -/
theorem rkN_cong {s s' : Nat → Int} (h : ∀ j : Nat, j < 16 → s j = s' j) {k : Nat} (hk : k < 16) : rkN s k = rkN s' k :=
  su_cong (fun j hj => by unfold rkP; rw [h j hj, h k hk])
theorem px_ahead {k : Nat} {st : sq_S} {Q : Int → sq_S → Prop} (hk : k < 16) (hs : ∀ j : Nat, j < 16 → sq_rg (st 32 j)) (hq : Q (rkN (st 32) k) st) : wX3_shiftsAheadOf k st Q := by
  intro K hK
  have loop : ∀ (m j : Nat), j + m = 16 → K k (su (rkP (st 32) k) j) (j : Int) st := by
    intro m
    induction m with
    | zero =>
      intro j hj
      have e : j = 16 := by omega
      subst e
      exact hK _ _ _ _ ⟨by decide, fun _ => hq, fun h => by omega⟩
    | succ m ih =>
      intro j hj
      have h1 := hs j (by omega)
      have h2 := hs k hk
      have up : (st 32 k < st 32 j ∨ (st 32 j = st 32 k ∧ j < k)) → K k (su (rkP (st 32) k) j + 1) ((j : Int) + 1) st := by
        intro h
        have e : su (rkP (st 32) k) (j + 1) = su (rkP (st 32) k) j + 1 := by rw [su_s]; unfold rkP; rw [if_pos h]
        rw [pu_i, ← e]
        exact ih (j + 1) (by omega)
      have st0 : ¬ (st 32 k < st 32 j ∨ (st 32 j = st 32 k ∧ j < k)) → K k (su (rkP (st 32) k) j) ((j : Int) + 1) st := by
        intro h
        have e : su (rkP (st 32) k) (j + 1) = su (rkP (st 32) k) j := by rw [su_s]; unfold rkP; rw [if_neg h, Int.add_zero]
        rw [pu_i, ← e]
        exact ih (j + 1) (by omega)
      refine hK _ _ _ _ ?_
      unfold bX3_shiftsAheadOf_4
      rw [show (((j : Nat) : Int).toNat) = j from rfl, show (((k : Nat) : Int).toNat) = k from rfl]
      refine ⟨by omega, fun h => by omega, fun _ => ⟨by omega, by omega, ⟨h1, h2⟩, fun h => up (Or.inl h), fun h => ⟨by omega, by omega, ⟨h1, h2⟩, fun hne => st0 (by omega), fun he => ⟨by omega, fun h => st0 (by omega), fun h => up (Or.inr ⟨he, by omega⟩)⟩⟩⟩⟩
  exact loop 16 0 (by omega)
theorem px_ranked {i k0 : Nat} {st : sq_S} {Q : Int → sq_S → Prop} (hi : i < 16) (hs : ∀ j : Nat, j < 16 → sq_rg (st 32 j)) (h1 : k0 < 16) (h2 : rkN (st 32) k0 = i) (h3 : ∀ j : Nat, j < k0 → rkN (st 32) j ≠ i) (hq : Q k0 st) : wX3_shiftRanked i st Q := by
  intro K hK
  have loop : ∀ (m k : Nat), k + m = k0 → K i (k : Int) st := by
    intro m
    induction m with
    | zero =>
      intro k hk
      have e : k = k0 := by omega
      subst e
      refine hK _ _ _ ⟨by omega, fun h => by omega, fun _ => ?_⟩
      refine px_ahead h1 hs ?_
      rw [h2]
      exact ⟨by omega, fun h => absurd rfl h, fun _ => hq⟩
    | succ m ih =>
      intro k hk
      have hb := rkN_bd (st 32) (show k < 16 by omega)
      refine hK _ _ _ ⟨by omega, fun h => by omega, fun _ => ?_⟩
      refine px_ahead (by omega) hs ⟨by omega, fun _ => ?_, fun h => absurd h (h3 k (by omega))⟩
      rw [pu_i]
      exact ih (k + 1) (by omega)
  exact loop k0 0 (by omega)
theorem pm_rank {n f k N : Nat} {st : sq_S} {s : Nat → Int} {Q : Int → sq_S → Prop} (hN : st 1 48 = N) (h48 : N ≤ 48) (hk : k < 16) (hn : 1 ≤ n ∧ n ≤ 8) (hf : f ≤ 8) (ht : ∀ i : Nat, i < N → 0 ≤ st 1 i ∧ st 1 i < 16) (hs : ∀ j : Nat, j < 16 → s j = scF (fun i => st 1 (56 + ((st 1 i - j) % 16).toNat)) N n 48 f ∧ sq_rg (s j)) (hq : Q (rkN s k) st) : wX4_rankOf n f k st Q := by
  intro K hK
  refine pm_score hN h48 (by omega) hn hf ht ?_
  rw [← (hs k hk).1]
  have loop : ∀ (m j : Nat), j + m = 16 → K n f k (s k) (su (rkP s k) j) (j : Int) st := by
    intro m
    induction m with
    | zero =>
      intro j hj
      have e : j = 16 := by omega
      subst e
      exact hK _ _ _ _ _ _ _ ⟨by decide, fun _ => hq, fun h => by omega⟩
    | succ m ih =>
      intro j hj
      have h1 := (hs j (by omega)).2
      have h2 := (hs k hk).2
      have up : (s k < s j ∨ (s j = s k ∧ j < k)) → K n f k (s k) (su (rkP s k) j + 1) ((j : Int) + 1) st := by
        intro h
        have e : su (rkP s k) (j + 1) = su (rkP s k) j + 1 := by rw [su_s]; unfold rkP; rw [if_pos h]
        rw [pu_i, ← e]
        exact ih (j + 1) (by omega)
      have st0 : ¬ (s k < s j ∨ (s j = s k ∧ j < k)) → K n f k (s k) (su (rkP s k) j + 0) ((j : Int) + 1) st := by
        intro h
        have e : su (rkP s k) (j + 1) = su (rkP s k) j + 0 := by rw [su_s]; unfold rkP; rw [if_neg h]
        rw [pu_i, ← e]
        exact ih (j + 1) (by omega)
      refine hK _ _ _ _ _ _ _ ⟨by omega, fun h => by omega, fun _ => ?_⟩
      refine pm_score hN h48 (by omega) hn hf ht ?_
      rw [← (hs j (by omega)).1]
      refine ⟨⟨h1, h2⟩, fun h => ?_, fun h => ⟨⟨h1, h2⟩, fun hne => ?_, fun he => ⟨by omega, fun h => ?_, fun h => ?_⟩⟩⟩
      · rintro _ rfl; exact up (Or.inl h)
      · rintro _ rfl; exact st0 (by omega)
      · rintro _ rfl; exact st0 (by omega)
      · rintro _ rfl; exact up (Or.inr ⟨he, by omega⟩)
  exact loop 16 0 (by omega)
theorem po_shift : sl_o_shift Rel := by
  intro sx sm n f i w hR hn hf hi hw
  have hR0 := hR
  obtain ⟨hp, ⟨⟨⟨t1, t2, t3⟩, t4⟩, d2, d3, d4, d5⟩, h3⟩ := hR
  obtain ⟨N, hN⟩ := pu_nat t2
  rw [hN] at t1 t4
  have t4 : ∀ i : Nat, (i : Int) < N → sx 3 i = sm 1 i ∧ 0 ≤ sm 1 i ∧ sm 1 i < 16 := t4
  intro K hK
  by_cases c1 : n < 1 ∨ 8 < n
  · refine pu_out hn (by decide) (by decide) c1 ⟨by decide, fun _ => ?_, fun h => absurd h (by decide)⟩
    intro K1 hK1
    exact pu_mno hn (by decide) (by decide) c1 ⟨by decide, fun _ => ⟨rfl, by decide, hR0⟩, fun h => absurd rfl h⟩
  refine pu_inn hn (by decide) (by decide) (by omega) ⟨by decide, fun h => absurd rfl h, fun _ => ?_⟩
  by_cases c2 : f < 0 ∨ n - 1 < f
  · refine pu_out hf (by decide) (by omega) c2 ⟨by decide, fun _ => ?_, fun h => absurd h (by decide)⟩
    intro K1 hK1
    exact pu_min hn (by decide) (by decide) (by omega) ⟨by decide, fun h => absurd h (by decide), fun _ => pu_mno hf (by decide) (by omega) c2 ⟨by decide, fun _ => ⟨rfl, by decide, hR0⟩, fun h => absurd rfl h⟩⟩
  refine pu_inn hf (by decide) (by omega) (by omega) ⟨by decide, fun h => absurd rfl h, fun _ => ?_⟩
  by_cases c3 : i < 0 ∨ 15 < i
  · refine pu_out hi (by decide) (by decide) c3 ⟨by decide, fun _ => ?_, fun h => absurd h (by decide)⟩
    intro K1 hK1
    exact pu_min hn (by decide) (by decide) (by omega) ⟨by decide, fun h => absurd h (by decide), fun _ => pu_min hf (by decide) (by omega) (by omega) ⟨by decide, fun h => absurd h (by decide), fun _ => pu_mno hi (by decide) (by decide) c3 ⟨by decide, fun _ => ⟨rfl, by decide, hR0⟩, fun h => absurd rfl h⟩⟩⟩
  refine pu_inn hi (by decide) (by decide) (by omega) ⟨by decide, fun h => absurd rfl h, fun _ => ?_⟩
  by_cases c4 : w < 0 ∨ 1 < w
  · refine pu_out hw (by decide) (by decide) c4 ⟨by decide, fun h => absurd h (by decide), fun _ => ?_⟩
    intro K1 hK1
    exact pu_min hn (by decide) (by decide) (by omega) ⟨by decide, fun h => absurd h (by decide), fun _ => pu_min hf (by decide) (by omega) (by omega) ⟨by decide, fun h => absurd h (by decide), fun _ => pu_min hi (by decide) (by decide) (by omega) ⟨by decide, fun h => absurd h (by decide), fun _ => pu_mno hw (by decide) (by decide) c4 ⟨by decide, fun h => absurd rfl h, fun _ => ⟨rfl, by decide, hR0⟩⟩⟩⟩⟩
  refine pu_inn hw (by decide) (by decide) (by omega) ⟨by decide, fun _ => ?_, fun h => absurd rfl h⟩
  obtain ⟨n, rfl⟩ := pu_nat (show 0 ≤ n by omega)
  obtain ⟨f, rfl⟩ := pu_nat (show 0 ≤ f by omega)
  obtain ⟨i, rfl⟩ := pu_nat (show 0 ≤ i by omega)
  obtain ⟨s, hs⟩ : ∃ s : Nat → Int, s = fun (j : Nat) => scF (fun i => sm 1 (56 + ((sm 1 i - (j : Int)) % 16).toNat)) N n 48 f := ⟨_, rfl⟩
  have hsm : ∀ j : Nat, j < 16 → s j = scF (fun i => sm 1 (56 + ((sm 1 i - j) % 16).toNat)) N n 48 f ∧ sq_rg (s j) := by
    intro j hj
    have e : s j = scF (fun i => sm 1 (56 + ((sm 1 i - j) % 16).toNat)) N n 48 f := by rw [hs]
    refine ⟨e, ?_⟩
    have := scF_bd (g := fun i => sm 1 (56 + ((sm 1 i - j) % 16).toNat)) (N := N) (n := n) (fun i hi => (d3 _ (by omega)).2) 48 f
    omega
  have hsx : ∀ j : Nat, j < 16 → scF (fun i => sx 5 ((sx 3 i - j) % 16).toNat) N n 48 f = s j := by
    intro j hj
    rw [(hsm j hj).1]
    refine scF_cong (fun i hi => ?_) 48 f
    rw [(t4 i (by omega)).1]
    exact (d3 _ (by omega)).1
  have htm : ∀ i : Nat, i < N → 0 ≤ sm 1 i ∧ sm 1 i < 16 := fun i hi => (t4 i (by omega)).2
  obtain ⟨k0, q1, q2, q3⟩ := rk_ex s (show i < 16 by omega)
  -- the reference
  have ref : ∀ (r : Int) (sx' : sq_S), (∀ c : Nat, c ≤ 22 → sx' c = sx c) → (w = 0 → r = k0) → (¬ w = 0 → r = s k0) → wX4_shift n f i w sm (fun r' sm' => r = r' ∧ sq_rg r ∧ Rel sx' sm') := by
    intro r sx' hc hr1 hr2 K1 hK1
    have hR1 : Rel sx' sm := hR0.scr hc (fun c _ => ⟨fun _ => rfl, fun _ => rfl⟩)
    refine pu_min hn (by decide) (by decide) (by omega) ⟨by decide, fun h => absurd h (by decide), fun _ => pu_min hf (by decide) (by omega) (by omega) ⟨by decide, fun h => absurd h (by decide), fun _ => pu_min hi (by decide) (by decide) (by omega) ⟨by decide, fun h => absurd h (by decide), fun _ => pu_min hw (by decide) (by decide) (by omega) ⟨by decide, fun _ => ?_, fun h => absurd h (by decide)⟩⟩⟩⟩
    have loop : ∀ (m k : Nat), k + m = k0 → K1 n f i w (k : Int) sm := by
      intro m
      induction m with
      | zero =>
        intro k hk
        have e : k = k0 := by omega
        subst e
        have hsk := (hsm k q1).2
        refine hK1 _ _ _ _ _ _ (pm_rank hN (by omega) q1 (by omega) (by omega) htm hsm ?_)
        rw [q2]
        refine ⟨by omega, fun _ => ⟨hw, fun hw1 => ?_, fun hw0 => ⟨hr1 hw0, by have := hr1 hw0; omega, hR1⟩⟩, fun h => absurd rfl h⟩
        refine pm_score hN (by omega) (by omega) (by omega) (by omega) htm ?_
        rw [← (hsm k q1).1]
        exact ⟨hr2 hw1, by rw [hr2 hw1]; exact hsk, hR1⟩
      | succ m ih =>
        intro k hk
        have hb := rkN_bd s (show k < 16 by omega)
        refine hK1 _ _ _ _ _ _ (pm_rank hN (by omega) (by omega) (by omega) (by omega) htm hsm ⟨by omega, fun h => absurd h (q3 k (by omega)), fun _ => ?_⟩)
        rw [pu_i]
        exact ih (k + 1) (by omega)
    exact loop k0 0 (by omega)
  have loop : ∀ (m k : Nat) (tm : sq_S), k + m = 16 → (∀ c : Nat, c ≠ 32 → tm c = sx c) → (∀ j : Nat, j < k → tm 32 j = s j) → K n f i w (k : Int) tm := by
    intro m
    induction m with
    | zero =>
      intro k tm hk e1 e2
      have e : k = 16 := by omega
      subst e
      have hrg : ∀ j : Nat, j < 16 → sq_rg (tm 32 j) := fun j hj => by rw [e2 j hj]; exact (hsm j hj).2
      have hc : ∀ j : Nat, j < 16 → tm 32 j = s j := fun j hj => e2 j hj
      refine hK _ _ _ _ _ _ ⟨by decide, fun _ => ?_, fun h => by omega⟩
      refine px_ranked (by omega) hrg q1 (by rw [rkN_cong hc q1]; exact q2) (fun j hj => by rw [rkN_cong hc (by omega)]; exact q3 j hj) ⟨hw, fun hw1 => ⟨by omega, ?_⟩, fun hw0 => ?_⟩
      · rw [show (((k0 : Nat) : Int).toNat) = k0 from rfl]
        exact ref _ _ (fun c hc => e1 c (by omega)) (fun h => absurd h hw1) (fun _ => e2 k0 q1)
      · exact ref _ _ (fun c hc => e1 c (by omega)) (fun _ => rfl) (fun h => absurd hw0 h)
    | succ m ih =>
      intro k tm hk e1 e2
      refine hK _ _ _ _ _ _ ⟨by omega, fun h => by omega, fun _ => ?_⟩
      refine px_score (N := N) (by rw [e1 2 (by decide)]; exact t1) (by omega) (by omega) (by omega) ⟨by omega, ?_⟩
      rintro _ rfl
      rw [e1 5 (by decide), e1 3 (by decide), hsx k (by omega), show (((k : Nat) : Int).toNat) = k from rfl, pu_i]
      refine ih (k + 1) _ (by omega) (fun c hc => by rw [pu_sc hc]; exact e1 c hc) (fun j hj => ?_)
      by_cases h2 : j = k
      · subst h2
        rw [pu_ss]
      · rw [pu_sk h2]
        exact e2 j (by omega)
  exact loop 16 0 sx (by omega) (fun _ _ => rfl) (fun j h => by omega)
