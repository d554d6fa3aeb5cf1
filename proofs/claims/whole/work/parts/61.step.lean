/-! pure part: hide, find -/
theorem px_keep {n C d c : Nat} {st : sq_S} {Q : Int → sq_S → Prop} (hn : st 2 1 = n) (h48 : n ≤ 48) (hC : st 2 8 = C) (hd : (C = 10 ∧ d = 1 ∧ c = 9) ∨ (C < 10 ∧ d = 0 ∧ c = C)) (hq : ∀ st' : sq_S, (∀ q : Nat, q ≠ 2 → q ≠ 7 → q ≠ 8 → st' q = st q) → (∀ j : Nat, j ≠ 8 → st' 2 j = st 2 j) → st' 2 8 = ((c + 1 : Nat) : Int) → (∀ j : Nat, j < c → st' 8 j = st 8 (j + d)) → (∀ j i : Nat, j < c → i < 48 → st' 7 (48 * j + i) = st 7 (48 * (j + d) + i)) → st' 8 c = n → (∀ i : Nat, i < n → st' 7 (48 * c + i) = st 3 i) → Q 0 st') : wX0_keepStep st Q := by
  intro K hK
  have go : ∀ tm : sq_S, (∀ q : Nat, q ≠ 2 → q ≠ 7 → q ≠ 8 → tm q = st q) → (∀ j : Nat, j ≠ 8 → tm 2 j = st 2 j) → tm 2 8 = c → (∀ j : Nat, j < c → tm 8 j = st 8 (j + d)) → (∀ j i : Nat, j < c → i < 48 → tm 7 (48 * j + i) = st 7 (48 * (j + d) + i)) → K tm := by
    intro tm e1 e2 e3 e4 e5
    refine hK _ ?_
    unfold bX0_keepStep_13
    rw [e2 1 (by decide), e3, hn]
    refine ⟨by omega, ?_⟩
    rintro _ rfl
    rw [pu_rc (show (2 : Nat) ≠ 7 by decide), e2 1 (by decide), e3, hn]
    refine ⟨by omega, ?_⟩
    rintro _ rfl
    rw [pu_sc (show (2 : Nat) ≠ 8 by decide), pu_rc (show (2 : Nat) ≠ 7 by decide), e3, show (((c : Nat) : Int).toNat) = c from rfl]
    rintro _ rfl
    refine hq _ (fun q h2 h7 h8 => ?_) (fun j hj => ?_) ?_ (fun j hj => ?_) (fun j i hj hi => ?_) ?_ (fun i hi => ?_)
    · rw [pu_sc h2, pu_sc h8, pu_rc h7]
      exact e1 q h2 h7 h8
    · rw [pu_sk hj, pu_sc (by decide), pu_rc (by decide)]
      exact e2 j hj
    · rw [pu_ss]
      omega
    · rw [pu_sc (by decide), pu_sk (by omega), pu_rc (by decide)]
      exact e4 j hj
    · rw [pu_sc (by decide), pu_sc (by decide), pu_rr]
      unfold sq_cp
      rw [if_neg (by omega)]
      exact e5 j i hj hi
    · rw [pu_sc (by decide), pu_ss]
    · rw [pu_sc (by decide), pu_sc (by decide), pu_rr]
      unfold sq_cp
      rw [if_pos (by omega), e1 3 (by decide) (by decide) (by decide), show 0 + (48 * c + i - ((c : Int) * 48).toNat) = i by omega]
  refine ⟨by omega, fun h => ?_, fun h => ?_⟩
  · have e : d = 0 := by omega
    subst e
    exact go st (fun _ _ _ _ => rfl) (fun _ _ => rfl) (by omega) (fun _ _ => rfl) (fun _ _ _ _ => rfl)
  · have e : d = 1 := by omega
    subst e
    have e : c = 9 := by omega
    subst e
    refine ⟨by decide, ?_⟩
    rintro _ rfl
    refine ⟨by decide, ?_⟩
    rintro _ rfl
    rintro _ rfl
    refine go _ (fun q h2 h7 h8 => ?_) (fun j hj => ?_) ?_ (fun j hj => ?_) (fun j i hj hi => ?_)
    · rw [pu_sc h2, pu_rc h8, pu_rc h7]
    · rw [pu_sk hj, pu_rc (by decide), pu_rc (by decide)]
    · rw [pu_ss]
      rfl
    · rw [pu_sc (by decide), pu_rr]
      unfold sq_cp
      rw [if_pos (by omega), pu_rc (by decide), show 1 + (j - 0) = j + 1 by omega]
    · rw [pu_sc (by decide), pu_rc (by decide), pu_rr]
      unfold sq_cp
      rw [if_pos (by omega), show 48 + (48 * j + i - 0) = 48 * (j + 1) + i by omega]
theorem pm_keep {C d c : Nat} {st : sq_S} {Q : Int → sq_S → Prop} (hC : st 1 328 = C) (hd : (C = 10 ∧ d = 1 ∧ c = 9) ∨ (C < 10 ∧ d = 0 ∧ c = C)) (hq : ∀ st' : sq_S, (∀ q : Nat, q ≠ 1 → st' q = st q) → (∀ i : Nat, i < 328 → st' 1 i = st 1 i) → st' 1 328 = ((c + 1 : Nat) : Int) → (∀ j i : Nat, j < c → i < 49 → st' 1 (329 + 49 * j + i) = st 1 (329 + 49 * (j + d) + i)) → (∀ i : Nat, i < 49 → st' 1 (329 + 49 * c + i) = st 1 i) → Q 0 st') : wX4_keepStep st Q := by
  intro K K2 hK hK2
  have l2 : ∀ (m i : Nat) (tm : sq_S), i + m = 49 → (∀ q : Nat, q ≠ 1 → tm q = st q) → (∀ i : Nat, i < 328 → tm 1 i = st 1 i) → tm 1 328 = (c : Int) → (∀ j i : Nat, j < c → i < 49 → tm 1 (329 + 49 * j + i) = st 1 (329 + 49 * (j + d) + i)) → (∀ x : Nat, x < i → tm 1 (329 + 49 * c + x) = st 1 x) → K2 (i : Int) tm := by
    intro m
    induction m with
    | zero =>
      intro i tm hi e1 e2 e3 e4 e5
      have e : i = 49 := by omega
      subst e
      refine hK2 _ _ ⟨by decide, fun _ => ⟨by decide, by decide, ?_⟩, fun h => by omega⟩
      rintro _ rfl
      refine hq _ (fun q h => ?_) (fun i hi => ?_) ?_ (fun j i hj hi => ?_) (fun i hi => ?_)
      · rw [pu_sc h]
        exact e1 q h
      · rw [pu_sk (by omega)]
        exact e2 i hi
      · rw [pu_ss, e3]
        omega
      · rw [pu_sk (by omega)]
        exact e4 j i hj hi
      · rw [pu_sk (by omega)]
        exact e5 i hi
    | succ m ih =>
      intro i tm hi e1 e2 e3 e4 e5
      refine hK2 _ _ ?_
      unfold bX4_keepStep_62
      rw [e3]
      refine ⟨by omega, fun h => by omega, fun _ => ⟨by decide, by omega, by omega, ?_⟩⟩
      rintro _ rfl
      rw [show (329 + 49 * (c : Int) + (i : Int)).toNat = 329 + 49 * c + i by omega, pu_z, pu_i]
      refine ih (i + 1) _ (by omega) (fun q h => ?_) (fun j hj => ?_) ?_ (fun j x hj hx => ?_) (fun x hx => ?_)
      · rw [pu_sc h]
        exact e1 q h
      · rw [pu_sk (by omega)]
        exact e2 j hj
      · rw [pu_sk (by omega)]
        exact e3
      · rw [pu_sk (by omega)]
        exact e4 j x hj hx
      · by_cases h : x = i
        · subst h
          rw [pu_ss]
          exact e2 x (by omega)
        · rw [pu_sk (by omega)]
          exact e5 x (by omega)
  refine ⟨by decide, by omega, fun h => ?_, fun h => ?_⟩
  · have e : d = 0 := by omega
    subst e
    have e : c = C := by omega
    subst e
    exact l2 49 0 st (by omega) (fun _ _ => rfl) (fun _ _ => rfl) hC (fun _ _ _ _ => rfl) (fun x hx => by omega)
  · have e : d = 1 := by omega
    subst e
    have e : c = 9 := by omega
    subst e
    have l1 : ∀ (m i : Nat) (tm : sq_S), i + m = 441 → (∀ q : Nat, q ≠ 1 → tm q = st q) → (∀ y : Nat, (y < 329 ∨ 329 + i ≤ y) → tm 1 y = st 1 y) → (∀ x : Nat, x < i → tm 1 (329 + x) = st 1 (378 + x)) → K (i : Int) tm := by
      intro m
      induction m with
      | zero =>
        intro i tm hi e1 e2 e3
        have e : i = 441 := by omega
        subst e
        refine hK _ _ ⟨by decide, fun _ => ⟨by decide, by decide, ?_⟩, fun h => by omega⟩
        rintro _ rfl
        refine l2 49 0 _ (by omega) (fun q hq => ?_) (fun y hy => ?_) ?_ (fun j x hj hx => ?_) (fun x hx => by omega)
        · rw [pu_sc hq]
          exact e1 q hq
        · rw [pu_sk (by omega)]
          exact e2 y (by omega)
        · rw [pu_ss, e2 328 (by omega)]
          omega
        · rw [pu_sk (by omega), show 329 + 49 * j + x = 329 + (49 * j + x) by omega, e3 (49 * j + x) (by omega), show 378 + (49 * j + x) = 329 + 49 * (j + 1) + x by omega]
      | succ m ih =>
        intro i tm hi e1 e2 e3
        refine hK _ _ ⟨by omega, fun h => by omega, fun _ => ⟨by omega, by omega, ?_⟩⟩
        rintro _ rfl
        rw [show (329 + (i : Int)).toNat = 329 + i by omega, show (378 + (i : Int)).toNat = 378 + i by omega, pu_i]
        refine ih (i + 1) _ (by omega) (fun q hq => ?_) (fun y hy => ?_) (fun x hx => ?_)
        · rw [pu_sc hq]
          exact e1 q hq
        · rw [pu_sk (by omega)]
          exact e2 y (by omega)
        · by_cases h : x = i
          · subst h
            rw [pu_ss]
            exact e2 _ (by omega)
          · rw [pu_sk (by omega)]
            exact e3 x (by omega)
    exact l1 441 0 st (by omega) (fun _ _ => rfl) (fun _ _ => rfl) (fun x hx => by omega)
theorem Rel.step {sx sx' sm sm' : sq_S} {n C d c : Nat} {W : Nat → Int} (hR : Rel sx sm) (hn : sm 1 48 = n) (hC : sm 1 328 = C) (hd : (C = 10 ∧ d = 1 ∧ c = 9) ∨ (C < 10 ∧ d = 0 ∧ c = C)) (hW : ∀ i : Nat, i < n → 0 ≤ W i ∧ W i < 16) (x1 : ∀ q : Nat, q ≤ 22 → q ≠ 2 → q ≠ 3 → q ≠ 7 → q ≠ 8 → sx' q = sx q) (x2 : ∀ j : Nat, j ≠ 8 → sx' 2 j = sx 2 j) (x3 : sx' 2 8 = ((c + 1 : Nat) : Int)) (x4 : ∀ i : Nat, i < n → sx' 3 i = W i) (x5 : ∀ j : Nat, j < c → sx' 8 j = sx 8 (j + d)) (x6 : ∀ j i : Nat, j < c → i < 48 → sx' 7 (48 * j + i) = sx 7 (48 * (j + d) + i)) (x7 : sx' 8 c = n) (x8 : ∀ i : Nat, i < n → sx' 7 (48 * c + i) = sx 3 i) (m1 : ∀ q : Nat, q ≤ 4 → q ≠ 1 → sm' q = sm q) (m2 : ∀ i : Nat, i < n → sm' 1 i = W i) (m3 : ∀ i : Nat, n ≤ i → i < 328 → sm' 1 i = sm 1 i) (m4 : sm' 1 328 = ((c + 1 : Nat) : Int)) (m5 : ∀ j i : Nat, j < c → i < 49 → sm' 1 (329 + 49 * j + i) = sm 1 (329 + 49 * (j + d) + i)) (m6 : ∀ i : Nat, i < 49 → sm' 1 (329 + 49 * c + i) = sm 1 i) : Rel sx' sm' := by
  obtain ⟨hp, ⟨⟨⟨t1, t2, t3⟩, t4⟩, d2, d3, d4, ⟨⟨s1, s2, s3⟩, s4⟩⟩, h3⟩ := hR
  have m48 : sm' 1 48 = n := by rw [m3 48 (by omega) (by omega)]; exact hn
  refine ⟨?_, ⟨⟨⟨?_, ?_, ?_⟩, ?_⟩, ?_, ?_, ?_, ⟨⟨?_, ?_, ?_⟩, ?_⟩⟩, ?_⟩
  · unfold Rp
    rw [x1 0 (by decide) (by decide) (by decide) (by decide) (by decide), x1 1 (by decide) (by decide) (by decide) (by decide) (by decide), m1 0 (by decide) (by decide), m1 4 (by decide) (by decide)]
    exact hp
  · rw [x2 1 (by decide), m48, ← hn]
    exact t1
  · rw [m48]; omega
  · rw [m48]; omega
  · rw [m48]
    intro i hi
    rw [m2 i (by omega)]
    exact ⟨x4 i (by omega), hW i (by omega)⟩
  · exact d2.to (x2 3 (by decide)) (fun i _ => by rw [x1 (2 + 2) (by decide) (by decide) (by decide) (by decide) (by decide)]) (fun i _ _ => m3 i (by omega) (by omega))
  · exact d3.to (fun i _ => by rw [x1 (2 + 3) (by decide) (by decide) (by decide) (by decide) (by decide)]) (fun i _ _ => m3 i (by omega) (by omega))
  · exact d4.to (fun i _ => by rw [x1 (2 + 4) (by decide) (by decide) (by decide) (by decide) (by decide)]) (fun i _ _ => m3 i (by omega) (by omega))
  · rw [x3, m4]
  · rw [m4]; omega
  · rw [m4]; omega
  · rw [m4]
    intro j hj
    by_cases e : j = c
    · subst e
      have ec : sm' 1 (377 + 49 * j) = n := by
        rw [show 377 + 49 * j = 329 + 49 * j + 48 by omega, m6 48 (by omega)]
        exact hn
      refine ⟨?_, ?_, ?_, ?_⟩
      · rw [ec]; exact x7
      · rw [ec]; omega
      · rw [ec]; omega
      · rw [ec]
        intro i hi
        rw [m6 i (by omega)]
        have h1 := t4 i (by omega)
        have h2 := x8 i (by omega)
        exact ⟨h2.trans h1.1, h1.2⟩
    · exact (s4 (j + d) (by omega)).to (x5 j (by omega)) (fun i hi => x6 j i (by omega) hi) (fun i hi => m5 j i (by omega) hi)
  · exact h3.cells (by rw [x1 0 (by decide) (by decide) (by decide) (by decide) (by decide)]) (fun q _ _ => x1 q (by omega) (by omega) (by omega) (by omega) (by omega)) (m1 2 (by decide) (by decide)) (m1 3 (by decide) (by decide))
def dF (t u : Nat → Int) : Nat → Int := fun i => if t i = u i then 0 else 1
theorem dF_bd (t u : Nat → Int) (n : Nat) : 0 ≤ su (dF t u) n ∧ su (dF t u) n ≤ n := by
  have := su_bd (f := dF t u) (c := 1) (n := n) (fun i _ => by unfold dF; split <;> omega)
  omega
theorem po_step {v by_ : Int} (hv : (v = 0 ∧ by_ = -1) ∨ (v = 1 ∧ by_ = 1)) (sx sm : sq_S) (way : Int) (hR : Rel sx sm) (ha : sq_rg way) : wX3_step way v sx (fun r sx' => wX4_step way by_ sm (fun r' sm' => r = r' ∧ sq_rg r ∧ Rel sx' sm')) := by
  obtain ⟨n, n1, n2, n3, n4⟩ := hR.n
  obtain ⟨k, k1, k2, k3, k4, k5⟩ := hR.k
  intro K1 K2 hK1 hK2
  by_cases c1 : way < 0 ∨ 5 < way
  · refine pu_out ha (by decide) (by decide) c1 ⟨by decide, fun h => absurd h (by decide), fun _ => ?_⟩
    intro J1 J2 hJ1 hJ2
    exact pu_mno ha (by decide) (by decide) c1 ⟨by decide, fun h => absurd rfl h, fun _ => ⟨rfl, by decide, hR⟩⟩
  have hw : 0 ≤ way ∧ way ≤ 5 := by omega
  obtain ⟨C, d, c, q1, q2, hd⟩ : ∃ C d c : Nat, sx 2 8 = C ∧ sm 1 328 = C ∧ ((C = 10 ∧ d = 1 ∧ c = 9) ∨ (C < 10 ∧ d = 0 ∧ c = C)) := by
    obtain ⟨⟨s1, s2, s3⟩, s4⟩ := hR.2.1.2.2.2.2
    obtain ⟨C, hC⟩ := pu_nat s2
    by_cases e : C = 10
    · exact ⟨C, 1, 9, by omega, hC, Or.inl ⟨e, rfl, rfl⟩⟩
    · exact ⟨C, 0, C, by omega, hC, Or.inr ⟨by omega, rfl, rfl⟩⟩
  obtain ⟨W, hW⟩ : ∃ W : Nat → Int, W = wyR way v by_ (kyM sm) k n (sm 1) := ⟨_, rfl⟩
  have main : (way = 2 → n % 2 = 0) → K1 way v sx := by
    intro hev
    have hWb : ∀ i : Nat, i < n → wyR way v by_ (kyM sm) k n (sx 3) i = W i ∧ 0 ≤ W i ∧ W i < 16 := fun i hi => by
      rw [hW]
      exact wyR_eq hw hev k3 k4 (fun j hj => (k5 j hj).2.2) n4 hi
    -- the reference
    have ref : ∀ (sx' : sq_S), (∀ q : Nat, q ≤ 22 → q ≠ 2 → q ≠ 3 → q ≠ 7 → q ≠ 8 → sx' q = sx q) → (∀ j : Nat, j ≠ 8 → sx' 2 j = sx 2 j) → sx' 2 8 = ((c + 1 : Nat) : Int) → (∀ i : Nat, i < n → sx' 3 i = W i) → (∀ j : Nat, j < c → sx' 8 j = sx 8 (j + d)) → (∀ j i : Nat, j < c → i < 48 → sx' 7 (48 * j + i) = sx 7 (48 * (j + d) + i)) → sx' 8 c = n → (∀ i : Nat, i < n → sx' 7 (48 * c + i) = sx 3 i) → wX4_step way by_ sm (fun r' sm' => su (dF (sx 3) W) n = r' ∧ sq_rg (su (dF (sx 3) W) n) ∧ Rel sx' sm') := by
      intro sx' x1 x2 x3 x4 x5 x6 x7 x8 J1 J2 hJ1 hJ2
      have work : wX4_goWay way by_ sm (fun _ st424 => wX4_keepStep st424 (fun _ st429 => J1 0 0 st429)) := by
        refine pm_goWay (n := n) (k := k) (key := kyM sm) hw hv n2 n3 hev k2 k3 k4 (fun i hi => (k5 i hi).2) (fun i hi => (n4 i hi).2) (fun s1 a1 a2 => ?_)
        rw [← hW] at a2
        refine pm_keep (C := C) (d := d) (c := c) (by rw [a1 1 (by decide)]; exact q2) hd (fun s2 b1 b2 b3 b4 b5 => ?_)
        have f6 : ∀ i : Nat, i < n → s2 6 i = W i := fun i hi => by rw [b1 6 (by decide)]; exact a2 i hi
        have loop : ∀ (m i : Nat) (tm : sq_S), i + m = n → (∀ q : Nat, q ≠ 1 → tm q = s2 q) → (∀ j : Nat, i ≤ j → tm 1 j = s2 1 j) → (∀ j : Nat, j < i → tm 1 j = W j) → J1 (su (dF (sm 1) W) i) (i : Int) tm := by
          intro m
          induction m with
          | zero =>
            intro i tm hi e1 e2 e3
            have e : i = n := by omega
            subst e
            refine hJ1 _ _ _ (pu_many ?_)
            rw [e2 48 (by omega), b2 48 (by omega), a1 1 (by decide), n2]
            refine ⟨by omega, fun _ => ⟨?_, ?_, ?_⟩, fun h => by omega⟩
            · exact su_cong (fun j hj => by unfold dF; rw [(n4 j hj).1])
            · have := dF_bd (sx 3) W i
              omega
            · exact hR.step n2 q2 hd (fun j hj => (hWb j hj).2) x1 x2 x3 x4 x5 x6 x7 x8 (fun q h1 h2 => by rw [e1 q h2, b1 q h2, a1 q h1]) e3 (fun j h1 h2 => by rw [e2 j h1, b2 j h2, a1 1 (by decide)]) (by rw [e2 328 (by omega), b3]) (fun j x hj hx => by rw [e2 _ (by omega), b4 j x hj hx, a1 1 (by decide)]) (fun x hx => by rw [e2 _ (by omega), b5 x hx, a1 1 (by decide)])
          | succ m ih =>
            intro i tm hi e1 e2 e3
            have hb := hWb i (by omega)
            have hc := n4 i (by omega)
            have g1 : tm 1 i = sm 1 i := by rw [e2 i (by omega), b2 i (by omega), a1 1 (by decide)]
            have g6 : tm 6 i = W i := by rw [e1 6 (by decide), f6 i (by omega)]
            have nxt : ∀ y : Int, su (dF (sm 1) W) (i + 1) = su (dF (sm 1) W) i + y → J2 (i : Int) y (su (dF (sm 1) W) i) tm := by
              intro y hy
              refine hJ2 _ _ _ _ ?_
              rintro _ rfl
              refine ⟨by omega, by omega, ?_⟩
              rintro _ rfl
              rw [pu_z, show (((i : Nat) : Int).toNat) = i from rfl, g6, pu_i, ← hy]
              refine ih (i + 1) _ (by omega) (fun q hq => by rw [pu_sc hq]; exact e1 q hq) (fun j hj => by rw [pu_sk (by omega)]; exact e2 j (by omega)) (fun j hj => ?_)
              by_cases e : j = i
              · subst e
                rw [pu_ss]
              · rw [pu_sk e]
                exact e3 j (by omega)
            refine hJ1 _ _ _ (pu_many ?_)
            rw [e2 48 (by omega), b2 48 (by omega), a1 1 (by decide), n2, pu_z, show (((i : Nat) : Int).toNat) = i from rfl, g1, g6]
            refine ⟨by omega, fun h => by omega, fun _ => ⟨by omega, by omega, by omega, fun hne => nxt 1 ?_, fun he => nxt 0 ?_⟩⟩
            · rw [su_s]; unfold dF; rw [if_neg hne]
            · rw [su_s]; unfold dF; rw [if_pos he]
        exact loop n 0 s2 (by omega) (fun _ _ => rfl) (fun _ _ => rfl) (fun j h => by omega)
      refine pu_min ha (by decide) (by decide) hw ⟨by decide, fun _ => ⟨by omega, fun _ => work, fun h2 => pu_many ?_⟩, fun h => absurd h (by decide)⟩
      have := hev h2
      rw [n2]
      exact ⟨by omega, by omega, fun _ => work, fun h => by omega⟩
    refine hK1 _ _ _ ?_
    refine px_work (n := n) (k := k) (key := kyM sm) hw hv n1 n3 hev k1 k3 k4 (fun i hi => ⟨(k5 i hi).1, (k5 i hi).2.2⟩) (fun i hi => by rw [(n4 i hi).1]; exact (n4 i hi).2) (fun s1 a1 a2 => ?_)
    refine px_keep (n := n) (C := C) (d := d) (c := c) (by rw [a1 2 (by decide)]; exact n1) n3 (by rw [a1 2 (by decide)]; exact q1) hd (fun s2 b1 b2 b3 b4 b5 b6 b7 => ?_)
    have f25 : ∀ i : Nat, i < n → s2 25 i = W i := fun i hi => by rw [b1 25 (by decide) (by decide) (by decide), a2 i hi]; exact (hWb i hi).1
    have f3 : s2 3 = sx 3 := by rw [b1 3 (by decide) (by decide) (by decide), a1 3 (by decide)]
    have loop : ∀ (m i : Nat) (tm : sq_S), i + m = n → (∀ q : Nat, q ≠ 3 → tm q = s2 q) → (∀ j : Nat, i ≤ j → tm 3 j = sx 3 j) → (∀ j : Nat, j < i → tm 3 j = W j) → K2 (su (dF (sx 3) W) i) (i : Int) tm := by
      intro m
      induction m with
      | zero =>
        intro i tm hi e1 e2 e3
        have e : i = n := by omega
        subst e
        refine hK2 _ _ _ ?_
        unfold bX3_step_52
        rw [e1 2 (by decide), b2 1 (by decide), a1 2 (by decide), n1]
        refine ⟨by omega, fun _ => ref tm (fun q h h2 h3 h7 h8 => ?_) (fun j hj => ?_) ?_ e3 (fun j hj => ?_) (fun j x hj hx => ?_) ?_ (fun x hx => ?_), fun h => by omega⟩
        · rw [e1 q h3, b1 q h2 h7 h8, a1 q (by omega)]
        · rw [e1 2 (by decide), b2 j hj, a1 2 (by decide)]
        · rw [e1 2 (by decide), b3]
        · rw [e1 8 (by decide), b4 j hj, a1 8 (by decide)]
        · rw [e1 7 (by decide), b5 j x hj hx, a1 7 (by decide)]
        · rw [e1 8 (by decide), b6]
        · rw [e1 7 (by decide), b7 x hx, a1 3 (by decide)]
      | succ m ih =>
        intro i tm hi e1 e2 e3
        have hb := hWb i (by omega)
        have hc := n4 i (by omega)
        have g3 : tm 3 i = sx 3 i := e2 i (by omega)
        have g25 : tm 25 i = W i := by rw [e1 25 (by decide)]; exact f25 i (by omega)
        have nxt : ∀ y : Int, su (dF (sx 3) W) (i + 1) = y → K2 y ((i : Int) + 1) (sq_set tm 3 i (W i)) := by
          intro y hy
          rw [pu_i, ← hy]
          refine ih (i + 1) _ (by omega) (fun q hq => by rw [pu_sc hq]; exact e1 q hq) (fun j hj => by rw [pu_sk (by omega)]; exact e2 j (by omega)) (fun j hj => ?_)
          by_cases e : j = i
          · subst e
            rw [pu_ss]
          · rw [pu_sk e]
            exact e3 j (by omega)
        refine hK2 _ _ _ ?_
        unfold bX3_step_52
        rw [e1 2 (by decide), b2 1 (by decide), a1 2 (by decide), n1, show (((i : Nat) : Int).toNat) = i from rfl, g3, g25]
        refine ⟨by omega, fun h => by omega, fun _ => ⟨by omega, by omega, by omega, fun he => ⟨by omega, by omega, ?_⟩, fun hne => ⟨by omega, by omega, ?_⟩⟩⟩
        · rintro _ rfl
          refine nxt _ ?_
          rw [su_s]; unfold dF; rw [if_pos he, Int.add_zero]
        · rintro _ rfl
          refine nxt _ ?_
          rw [su_s]; unfold dF; rw [if_neg hne]
    exact loop n 0 s2 (by omega) (fun _ _ => rfl) (fun _ _ => by rw [f3]) (fun j h => by omega)
  refine pu_inn ha (by decide) (by decide) hw ⟨by decide, fun _ => ⟨by omega, fun h2 => main (fun h => absurd h h2), fun h2 => ?_⟩, fun h => absurd rfl h⟩
  refine pu_odd n1 (fun hodd => ⟨by decide, fun h => absurd h (by decide), fun _ => ?_⟩) (fun hev => ⟨by decide, fun _ => main (fun _ => hev), fun h => absurd rfl h⟩)
  intro J1 J2 hJ1 hJ2
  refine pu_min ha (by decide) (by decide) hw ⟨by decide, fun _ => ⟨by omega, fun h => absurd h2 h, fun _ => pu_many ?_⟩, fun h => absurd h (by decide)⟩
  rw [n2]
  exact ⟨by omega, by omega, fun h => by omega, fun _ => ⟨rfl, by decide, hR⟩⟩
theorem po_hide : sl_o_hide Rel := fun sx sm a hR ha => po_step (v := 1) (by_ := 1) (Or.inr ⟨rfl, rfl⟩) sx sm a hR ha
theorem po_find : sl_o_find Rel := fun sx sm a hR ha => po_step (v := 0) (by_ := -1) (Or.inl ⟨rfl, rfl⟩) sx sm a hR ha
