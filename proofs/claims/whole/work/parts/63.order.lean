/-! pure part: orders, both sides make the same -/
theorem px_swapO {a b : Nat} {st : sq_S} {Q : Int → sq_S → Prop} (ha : a < 6) (hb : b < 6) (hq : ∀ st' : sq_S, (∀ c : Nat, c ≠ 29 → st' c = st c) → (∀ i : Nat, st' 29 i = if i = a then st 29 b else if i = b then st 29 a else st 29 i) → Q 0 st') : wX2_swapInOrder a b st Q := by
  refine ⟨by omega, ?_⟩
  rintro _ rfl
  refine ⟨by omega, by omega, ?_⟩
  rintro _ rfl
  refine ⟨by omega, ?_⟩
  rintro _ rfl
  rw [show (((a : Nat) : Int).toNat) = a from rfl, show (((b : Nat) : Int).toNat) = b from rfl]
  refine hq _ (fun c hc => by rw [pu_sc hc, pu_sc hc]) (fun i => ?_)
  by_cases h1 : i = b
  · subst h1
    rw [pu_ss]
    by_cases h2 : i = a
    · subst h2
      rw [if_pos rfl]
    · rw [if_neg h2, if_pos rfl]
  · rw [pu_sk h1]
    by_cases h2 : i = a
    · subst h2
      rw [pu_ss, if_pos rfl]
    · rw [pu_sk h2, if_neg h2, if_neg h1]
theorem px_next {n : Nat} {O : Nat → Nat} {st : sq_S} {Q : Int → sq_S → Prop} (h2 : 2 ≤ n) (h6 : n ≤ 6) (hO : ∀ i : Nat, i < n → st 29 i = O i ∧ O i < 8) (hq0 : nxO n O = none → Q 0 st) (hq1 : ∀ O' : Nat → Nat, nxO n O = some O' → ∀ st' : sq_S, (∀ c : Nat, c ≠ 29 → st' c = st c) → (∀ i : Nat, i < n → st' 29 i = O' i) → Q 1 st') : wX2_nextOrder n st Q := by
  intro K4 K41 K83 hK4 hK41 hK83
  have l83 : ∀ (f hi lo : Nat) (P : Nat → Nat) (tm : sq_S), hi ≤ lo + 2 * f → hi < n → (∀ c : Nat, c ≠ 29 → tm c = st c) → (∀ i : Nat, i < n → tm 29 i = P i) → nxO n O = some (nx83 f P hi lo) → lo ≤ 12 → K83 (hi : Int) (lo : Int) tm := by
    intro f
    induction f with
    | zero =>
      intro hi lo P tm hf hn e1 e2 e3 hlo
      exact hK83 _ _ _ ⟨by omega, fun _ => ⟨Or.inr rfl, hq1 _ e3 _ e1 e2⟩, fun h => by omega⟩
    | succ f ih =>
      intro hi lo P tm hf hn e1 e2 e3 hlo
      unfold nx83 at e3
      by_cases h : hi ≤ lo
      · rw [if_pos h] at e3
        exact hK83 _ _ _ ⟨by omega, fun _ => ⟨Or.inr rfl, hq1 _ e3 _ e1 e2⟩, fun h => by omega⟩
      · rw [if_neg h] at e3
        refine hK83 _ _ _ ⟨by omega, fun h => by omega, fun _ => ?_⟩
        refine px_swapO (by omega) (by omega) (fun s1 a1 a2 => ?_)
        rw [show (hi : Int) + -1 = ((hi - 1 : Nat) : Int) by omega, pu_i]
        refine ih (hi - 1) (lo + 1) _ s1 (by omega) (by omega) (fun c hc => by rw [a1 c hc]; exact e1 c hc) (fun i hi' => ?_) e3 (by omega)
        rw [a2 i]
        unfold swp
        by_cases g1 : i = lo
        · rw [if_pos g1, if_pos g1]
          exact e2 hi hn
        · rw [if_neg g1, if_neg g1]
          by_cases g2 : i = hi
          · rw [if_pos g2, if_pos g2]
            exact e2 lo (by omega)
          · rw [if_neg g2, if_neg g2]
            exact e2 i hi'
  have sw : ∀ (i j : Nat), i < n → j < n → nxO n O = some (nx83 6 (swp O i j) (n - 1) (i + 1)) → wX2_swapInOrder (i : Int) (j : Int) st (fun _ st219 => ∀ y220 : Int, y220 = ((n : Int) - 1) → (∀ y221 : Int, y221 = ((i : Int) + 1) → (K83 y220 y221 st219))) := by
    intro i j hi hj he
    refine px_swapO (by omega) (by omega) (fun s1 a1 a2 => ?_)
    rintro _ rfl
    rintro _ rfl
    rw [show (n : Int) - 1 = ((n - 1 : Nat) : Int) by omega, pu_i]
    refine l83 6 (n - 1) (i + 1) _ s1 (by omega) (by omega) a1 (fun x hx => ?_) he (by omega)
    rw [a2 x]
    unfold swp
    by_cases g1 : x = i
    · rw [if_pos g1, if_pos g1]
      exact (hO j hj).1
    · rw [if_neg g1, if_neg g1]
      by_cases g2 : x = j
      · rw [if_pos g2, if_pos g2]
        exact (hO i hi).1
      · rw [if_neg g2, if_neg g2]
        exact (hO x hx).1
  have l41 : ∀ (i : Nat), i < n → ∀ j : Nat, j < n → nxO n O = some (nx83 6 (swp O i (nx41 O i j)) (n - 1) (i + 1)) → K41 (n : Int) (i : Int) (j : Int) st := by
    intro i hi j
    induction j with
    | zero =>
      intro hj he
      exact hK41 _ _ _ _ ⟨by omega, fun _ => sw i 0 hi hj he, fun h => by omega⟩
    | succ j ih =>
      intro hj he
      unfold nx41 at he
      have b1 := hO i hi
      have b2 := hO (j + 1) hj
      refine hK41 _ _ _ _ ?_
      unfold bX2_nextOrder_41
      rw [show ((((j + 1 : Nat) : Int)).toNat) = j + 1 from rfl, show (((i : Nat) : Int).toNat) = i from rfl, b1.1, b2.1]
      refine ⟨by omega, fun h => ?_, fun h => ⟨by omega, by omega, by omega, fun h3 => ?_, fun h3 => ?_⟩⟩
      · rw [if_pos (by omega)] at he
        exact sw i (j + 1) hi hj he
      · rw [if_neg (by omega), if_pos (by omega)] at he
        exact sw i (j + 1) hi hj he
      · rw [if_neg (by omega), if_neg (by omega)] at he
        rw [show ((j + 1 : Nat) : Int) + -1 = (j : Int) by omega]
        exact ih (by omega) he
  obtain ⟨r, hr⟩ : ∃ r, r = nx4 O (n - 1) := ⟨_, rfl⟩
  have hn0 : r = none → nxO n O = none := fun h => by unfold nxO; rw [← hr, h]
  have hn1 : ∀ i, r = some i → nxO n O = some (nx83 6 (swp O i (nx41 O i (n - 1))) (n - 1) (i + 1)) := fun i h => by unfold nxO; rw [← hr, h]
  have l4 : ∀ i : Nat, i + 1 ≤ n → r = nx4 O i → K4 (n : Int) ((i : Int) - 1) st := by
    intro i
    induction i with
    | zero =>
      intro _ he
      exact hK4 _ _ _ ⟨by omega, fun _ => ⟨by omega, fun h => by omega, fun _ => ⟨Or.inl rfl, hq0 (hn0 he)⟩⟩, fun h => by omega⟩
    | succ i ih =>
      intro hi he
      unfold nx4 at he
      have b1 := hO i (by omega)
      have b2 := hO (i + 1) (by omega)
      rw [show ((i + 1 : Nat) : Int) - 1 = (i : Int) by omega]
      refine hK4 _ _ _ ?_
      unfold bX2_nextOrder_4
      rw [show (((i : Nat) : Int) + 1).toNat = i + 1 from rfl, show (((i : Nat) : Int).toNat) = i from rfl, b1.1, b2.1]
      refine ⟨by omega, fun h => by omega, fun _ => ⟨by omega, by omega, by omega, fun h => ⟨by omega, fun _ => ?_, fun h => by omega⟩, fun h => ?_⟩⟩
      · rw [if_pos (by omega)] at he
        rintro _ rfl
        rw [show (n : Int) - 1 = ((n - 1 : Nat) : Int) by omega]
        exact l41 i (by omega) (n - 1) (by omega) (hn1 i he)
      · rw [if_neg (by omega)] at he
        rw [show (i : Int) + -1 = (i : Int) - 1 by omega]
        exact ih (by omega) he
  unfold bX2_nextOrder_0
  rintro _ rfl
  rw [show (n : Int) - 2 = ((n - 1 : Nat) : Int) - 1 by omega]
  exact l4 (n - 1) (by omega) hr
theorem px_startO {n : Nat} {st : sq_S} {Q : Int → sq_S → Prop} (h6 : n ≤ 6) (hq : ∀ st' : sq_S, (∀ c : Nat, c ≠ 29 → st' c = st c) → (∀ i : Nat, i < n → st' 29 i = i) → Q 0 st') : wX2_startOrder n st Q := by
  intro K hK
  have loop : ∀ (m k : Nat) (tm : sq_S), k + m = n → (∀ c : Nat, c ≠ 29 → tm c = st c) → (∀ i : Nat, i < k → tm 29 i = i) → K n (k : Int) tm := by
    intro m
    induction m with
    | zero =>
      intro k tm hk e1 e2
      have e : k = n := by omega
      subst e
      exact hK _ _ _ ⟨by omega, fun _ => hq _ e1 e2, fun h => by omega⟩
    | succ m ih =>
      intro k tm hk e1 e2
      refine hK _ _ _ ⟨by omega, fun h => by omega, fun _ => ⟨by omega, ?_⟩⟩
      rintro _ rfl
      rw [show (((k : Nat) : Int).toNat) = k from rfl, pu_i]
      refine ih (k + 1) _ (by omega) (fun c hc => by rw [pu_sc hc]; exact e1 c hc) (fun i hi => ?_)
      by_cases h : i = k
      · subst h
        rw [pu_ss]
      · rw [pu_sk h]
        exact e2 i (by omega)
  exact loop n 0 st (by omega) (fun _ _ => rfl) (fun i h => by omega)
theorem pb_cutO : ∀ m, m < 64 → ∀ b, b < 6 → Nat.testBit m b = true → sq_and (m : Int) (sq_xor (sq_shl 1 (b : Int)) (-1)) = ((m - 2 ^ b : Nat) : Int) := by decide +kernel
theorem pm_layOrder {n x : Nat} {c : Nat → Nat} {st : sq_S} {Q : Int → sq_S → Prop} (h1 : 1 ≤ n) (h6 : n ≤ 6) (hx : x ≤ 720) (hc : loO n x = some c) (hq : ∀ st' : sq_S, (∀ q : Nat, q ≠ 8 → st' q = st q) → (∀ i : Nat, i < n → st' 8 i = c i) → Q 0 st') : wX4_layOrder x n st Q := by
  intro K7 K48 K66 hK7 hK48 hK66
  have l48 : ∀ (m i mask : Nat) (d : Nat → Nat) (tm : sq_S), i + m = n → mask < 64 → (∀ q : Nat, q ≠ 8 → tm q = st q) → (∀ j : Nat, j < n → tm 8 j = d j ∧ d j < 8) → lo48 m mask i d = some c → K48 (n : Int) (mask : Int) (i : Int) tm := by
    intro m
    induction m with
    | zero =>
      intro i mask d tm hi hm e1 e2 e3
      unfold lo48 at e3
      have e3 : d = c := Option.some.inj e3
      subst e3
      exact hK48 _ _ _ _ ⟨by omega, fun _ => hq _ e1 (fun j hj => (e2 j hj).1), fun h => by omega⟩
    | succ m ih =>
      intro i mask d tm hi hm e1 e2 e3
      unfold lo48 at e3
      have hdi := e2 i (by omega)
      refine hK48 _ _ _ _ ⟨by omega, fun h => by omega, fun _ => ⟨by omega, ?_⟩⟩
      rintro _ rfl
      rw [show (((i : Nat) : Int).toNat) = i from rfl, hdi.1]
      obtain ⟨r, hr⟩ : ∃ r, r = lo66 mask 6 (d i) 0 := ⟨_, rfl⟩
      rw [← hr] at e3
      have l66 : ∀ (f v6 v7 : Nat), v7 + f = 6 → v6 < 8 → r = lo66 mask f v6 v7 → K66 (n : Int) (mask : Int) (i : Int) (v6 : Int) (v7 : Int) tm := by
        intro f
        induction f with
        | zero =>
          intro v6 v7 hf hv he
          unfold lo66 at he
          rw [he] at e3
          exact absurd e3 (by simp)
        | succ f ihf =>
          intro v6 v7 hf hv he
          unfold lo66 at he
          refine hK66 _ _ _ _ _ _ ?_
          unfold bX4_layOrder_66
          rw [pb_bit (show mask < 65536 by omega) (show v7 < 16 by omega)]
          by_cases hb : mask.testBit v7 = true
          · rw [if_pos hb] at he ⊢
            refine ⟨by omega, fun h => absurd h (by decide), fun _ => ⟨by omega, fun h0 => ?_, fun h0 => ?_⟩⟩
            · rw [if_pos (by omega)] at he
              rw [he] at e3
              rintro _ rfl
              refine ⟨by omega, ?_⟩
              rintro _ rfl
              rw [pb_cutO mask hm v7 (by omega) hb, show (((i : Nat) : Int).toNat) = i from rfl, pu_i]
              refine ih (i + 1) (mask - 2 ^ v7) (updO d i v7) _ (by omega) (Nat.lt_of_le_of_lt (Nat.sub_le _ _) hm) (fun q hq => by rw [pu_sc hq]; exact e1 q hq) (fun j hj => ?_) e3
              unfold updO
              by_cases g : j = i
              · subst g
                rw [pu_ss, if_pos rfl]
                exact ⟨rfl, by omega⟩
              · rw [pu_sk g, if_neg g]
                exact e2 j hj
            · rw [if_neg (by omega)] at he
              rintro _ rfl
              rw [show (v6 : Int) - 1 = ((v6 - 1 : Nat) : Int) by omega, pu_i]
              exact ihf (v6 - 1) (v7 + 1) (by omega) (by omega) he
          · rw [if_neg hb] at he ⊢
            refine ⟨by omega, fun _ => ?_, fun h => absurd rfl h⟩
            rintro _ rfl
            rw [Int.sub_zero, pu_i]
            exact ihf v6 (v7 + 1) (by omega) hv he
      exact l66 6 (d i) 0 (by omega) hdi.2 hr
  have l7 : ∀ (i y : Nat) (d : Nat → Nat) (tm : sq_S), i ≤ n → y ≤ 720 → (∀ q : Nat, q ≠ 8 → tm q = st q) → (∀ j : Nat, i ≤ j → j < n → tm 8 j = d j ∧ d j < 8) → lo48 n (2 ^ n - 1) 0 (lo7 n i y d) = some c → K7 (n : Int) (y : Int) ((i : Int) - 1) tm := by
    intro i
    induction i with
    | zero =>
      intro y d tm hi hy e1 e2 e3
      unfold lo7 at e3
      refine hK7 _ _ _ _ ⟨by omega, fun _ => ?_, fun h => by omega⟩
      have hp : 2 ^ n ≤ 64 := by
        have := Nat.pow_le_pow_right (show 0 < 2 by decide) h6
        omega
      have hp1 : 1 ≤ 2 ^ n := Nat.one_le_two_pow
      rintro _ rfl
      rw [pb_shl (show n < 31 by omega)]
      rw [show ((2 ^ n : Nat) : Int) - 1 = ((2 ^ n - 1 : Nat) : Int) by omega]
      exact l48 n 0 (2 ^ n - 1) d tm (by omega) (by omega) e1 (fun j hj => e2 j (by omega) hj) e3
    | succ i ih =>
      intro y d tm hi hy e1 e2 e3
      unfold lo7 at e3
      rw [show ((i + 1 : Nat) : Int) - 1 = (i : Int) by omega]
      refine hK7 _ _ _ _ ?_
      unfold bX4_layOrder_7
      rw [show (n : Int) - (i : Int) = ((n - i : Nat) : Int) by omega, show (y : Int) / ((n - i : Nat) : Int) = ((y / (n - i) : Nat) : Int) from rfl, show (y : Int) % ((n - i : Nat) : Int) = ((y % (n - i) : Nat) : Int) from rfl, show (((i : Nat) : Int).toNat) = i from rfl]
      refine ⟨by omega, fun h => by omega, fun _ => ⟨by omega, by omega, ?_⟩⟩
      rintro _ rfl
      refine ⟨by omega, ?_⟩
      rintro _ rfl
      rw [show (i : Int) + -1 = (i : Int) - 1 by omega]
      have hd := Nat.div_le_self y (n - i)
      have hm := Nat.mod_lt y (show 0 < n - i by omega)
      refine ih _ _ _ (by omega) (by omega) (fun q hq => by rw [pu_sc hq]; exact e1 q hq) (fun j h1 h2 => ?_) e3
      unfold updO
      by_cases g : j = i
      · subst g
        rw [pu_ss, if_pos rfl]
        exact ⟨rfl, by omega⟩
      · rw [pu_sk g, if_neg g]
        exact e2 j (by omega) h2
  unfold bX4_layOrder_0
  rintro _ rfl
  exact l7 n x (fun _ => 0) st (by omega) hx (fun _ _ => rfl) (fun j a b => by omega) hc
theorem pm_orders {n : Nat} {st : sq_S} {Q : Int → sq_S → Prop} (h1 : 1 ≤ n) (h6 : n ≤ 6) (hq : Q (fc n) st) : wX4_orders n st Q := by
  intro K hK
  have loop : ∀ (m k : Nat), k + m = n → K n (fc k) ((k : Int) + 1) st := by
    intro m
    induction m with
    | zero =>
      intro k hk
      have e : k = n := by omega
      subst e
      exact hK _ _ _ _ ⟨by omega, fun _ => hq, fun h => by omega⟩
    | succ m ih =>
      intro k hk
      refine hK _ _ _ _ ⟨by omega, fun h => by omega, fun _ => ?_⟩
      rintro _ rfl
      have := ih (k + 1) (by omega)
      rw [show (fc (k + 1) : Int) = (fc k : Int) * ((k : Int) + 1) from rfl, show ((k + 1 : Nat) : Int) = (k : Int) + 1 from rfl] at this
      exact this
  exact loop (n - 1) 1 (by omega)
/-- GOOD by an order -/
def gO (L : Nat → Nat → Int) (t : Nat → Int) (n m : Nat) (O : Nat → Nat) : Int := su (cG L (hfR 0 (fun i => ((colR m n O m i : Nat) : Int)) t (fun _ => 0) n)) (n - 1)
theorem gO_bd {n m : Nat} {O : Nat → Nat} {sx sm : sq_S} (hR : Rel sx sm) (hn : sm 1 48 = n) (h1 : 1 ≤ m) (h6 : m ≤ 6) (hO : PmN m O) : 0 ≤ gO (lM sm) (sm 1) n m O ∧ gO (lM sm) (sm 1) n m O ≤ 48 := by
  obtain ⟨n', n1, n2, n3, n4⟩ := hR.n
  have e : n' = n := by omega
  subst e
  have hF := Col.fr h1 h6 hO (colR_col m n' O) (colR_col m n' O)
  have := cG_eq hR.2.1.2.2.2.1 (t := hfR 0 (fun i => ((colR m n' O m i : Nat) : Int)) (sm 1) (fun _ => 0) n') (u := hfR 0 (fun i => ((colR m n' O m i : Nat) : Int)) (sm 1) (fun _ => 0) n') (n := n') (fun i hi => hfR_eq hF (fun j hj => ⟨rfl, (n4 j hj).2⟩) hi)
  unfold gO
  omega
theorem px_gbo {n m : Nat} {O : Nat → Nat} {sx sm st : sq_S} {Q : Int → sq_S → Prop} (hR : Rel sx sm) (hn : sm 1 48 = n) (h1 : 1 ≤ m) (h6 : m ≤ 6) (hO : PmN m O) (hst : ∀ c : Nat, c ≤ 24 → st c = sx c) (h29 : ∀ i : Nat, i < m → st 29 i = O i) (hq : ∀ st' : sq_S, (∀ c : Nat, c ≠ 25 → c ≠ 30 → st' c = st c) → Q (gO (lM sm) (sm 1) n m O) st') : wX3_goodByOrder m st Q := by
  obtain ⟨n', n1, n2, n3, n4⟩ := hR.n
  have e : n' = n := by omega
  subst e
  unfold wX3_goodByOrder
  rw [hst 2 (by decide), n1]
  refine px_readColumns n3 h1 h6 hO h29 (fun s1 a1 a2 => ?_)
  have hF := Col.fr h1 h6 hO a2 (colR_col m n' O)
  refine px_putInPlace (n := n') (Or.inl rfl) (by rw [a1 2 (by decide), hst 2 (by decide)]; exact n1) n3 (fun i hi => (hF.1 i hi).2) (fun s2 b1 b2 => ?_)
  have hh : ∀ i : Nat, i < n' → s2 25 i = hfR 0 (fun i => ((colR m n' O m i : Nat) : Int)) (sm 1) (fun _ => 0) n' i ∧ 0 ≤ hfR 0 (fun i => ((colR m n' O m i : Nat) : Int)) (sm 1) (fun _ => 0) n' i ∧ hfR 0 (fun i => ((colR m n' O m i : Nat) : Int)) (sm 1) (fun _ => 0) n' i < 16 := by
    intro i hi
    rw [b2 i hi, a1 3 (by decide), hst 3 (by decide)]
    exact hfR_eq hF n4 hi
  refine px_liked_25 (n := n') (by rw [b1 2 (by decide), a1 2 (by decide), hst 2 (by decide)]; exact n1) n3 (fun i hi => by rw [(hh i hi).1]; exact (hh i hi).2) ?_
  have hl : lX s2 = lX sx := by
    unfold lX
    rw [b1 6 (by decide), a1 6 (by decide), hst 6 (by decide)]
  rw [hl, (cG_eq hR.2.1.2.2.2.1 (t := s2 25) (u := hfR 0 (fun i => ((colR m n' O m i : Nat) : Int)) (sm 1) (fun _ => 0) n') (n := n') hh).1]
  exact hq _ (fun c h1 h2 => by rw [b1 c h1, a1 c h2])
theorem pm_gbo {n m x : Nat} {O c : Nat → Nat} {sm st : sq_S} {Q : Int → sq_S → Prop} (hn : sm 1 48 = n) (h48 : n ≤ 48) (ht : ∀ i : Nat, i < n → 0 ≤ sm 1 i ∧ sm 1 i < 16) (h1 : 1 ≤ m) (h6 : m ≤ 6) (hx : x ≤ 720) (hO : PmN m O) (hst : st 1 = sm 1) (hc : loO m x = some c) (hcO : ∀ i : Nat, i < m → c i = O i) (hq : ∀ st' : sq_S, (∀ c : Nat, c ≠ 5 → c ≠ 6 → c ≠ 8 → c ≠ 9 → st' c = st c) → Q (gO (lM sm) (sm 1) n m O) st') : wX4_goodBy x m st Q := by
  refine pm_layOrder h1 h6 hx hc (fun s1 a1 a2 => ?_)
  have f1 : s1 1 = sm 1 := by rw [a1 1 (by decide), hst]
  refine pm_layText (n := n) (by rw [f1]; exact hn) h48 (fun s2 b1 b2 => ?_)
  have f2 : s2 1 = sm 1 := by rw [b1 1 (by decide), f1]
  refine pm_layColumns (n := n) (by rw [f2]; exact hn) h48 h1 h6 hO (fun i hi => by rw [b1 8 (by decide), a2 i hi, hcO i hi]) (fun s3 c1 c2 => ?_)
  have f3 : s3 1 = sm 1 := by rw [c1 1 (by decide), f2]
  have hF := Col.fr h1 h6 hO c2 (colR_col m n O)
  refine pm_readBy (v := 0) (n := n) (Or.inl ⟨rfl, rfl⟩) (by rw [f3]; exact hn) h48 (fun i hi => (hF.1 i hi).2) (fun s4 d1 d2 => ?_)
  have f4 : s4 1 = sm 1 := by rw [d1 1 (by decide), f3]
  have hh : ∀ i : Nat, i < n → s4 6 i = hfR 0 (fun i => ((colR m n O m i : Nat) : Int)) (sm 1) (fun _ => 0) n i ∧ 0 ≤ hfR 0 (fun i => ((colR m n O m i : Nat) : Int)) (sm 1) (fun _ => 0) n i ∧ hfR 0 (fun i => ((colR m n O m i : Nat) : Int)) (sm 1) (fun _ => 0) n i < 16 := by
    intro i hi
    rw [d2 i hi]
    refine hfR_eq hF (fun j hj => ⟨?_, ht j hj⟩) hi
    rw [c1 5 (by decide), b2 j hj, f1]
  refine pm_good_6 (n := n) (by rw [f4]; exact hn) h48 (fun i hi => by rw [(hh i hi).1]; exact (hh i hi).2) ?_
  have hl : lM s4 = lM sm := by
    unfold lM
    rw [f4]
  have hg : su (cG (lM s4) (s4 6)) (n - 1) = gO (lM sm) (sm 1) n m O := by
    rw [hl]
    unfold gO
    refine su_cong (fun i hi => ?_)
    unfold cG
    rw [(hh i (by omega)).1, (hh (i + 1) (by omega)).1]
  rw [hg]
  exact hq _ (fun q h5 h6 h8 h9 => by rw [d1 q h6, c1 q h9, b1 q h5, a1 q h8])
/-- the first best, the best, how many are as good -/
def bst (g : Nat → Int) : Nat → Nat × Int × Int
  | 0 => (0, -1, 0)
  | t + 1 => if (bst g t).2.1 < g t then (t, g t, 1) else if g t = (bst g t).2.1 then ((bst g t).1, (bst g t).2.1, (bst g t).2.2 + 1) else bst g t
theorem bst_s (g : Nat → Int) (t : Nat) : bst g (t + 1) = if (bst g t).2.1 < g t then (t, g t, 1) else if g t = (bst g t).2.1 then ((bst g t).1, (bst g t).2.1, (bst g t).2.2 + 1) else bst g t := rfl
theorem bst_ok {g : Nat → Int} {T : Nat} (hg : ∀ t : Nat, t < T → 0 ≤ g t ∧ g t ≤ 48) : ∀ t : Nat, t ≤ T → -1 ≤ (bst g t).2.1 ∧ (bst g t).2.1 ≤ 48 ∧ 0 ≤ (bst g t).2.2 ∧ (bst g t).2.2 ≤ t ∧ (0 < t → (bst g t).1 < t ∧ 0 ≤ (bst g t).2.1) ∧ (t = 0 → (bst g t).2.1 = -1)
  | 0, _ => ⟨by show (-1 : Int) ≤ -1; decide, by show (-1 : Int) ≤ 48; decide, by show (0 : Int) ≤ 0; decide, by show (0 : Int) ≤ ((0 : Nat) : Int); decide, fun h => by omega, fun _ => rfl⟩
  | t + 1, ht => by
    have ih := bst_ok hg t (by omega)
    have h1 := hg t (by omega)
    rw [bst_s]
    by_cases c1 : (bst g t).2.1 < g t
    · rw [if_pos c1]
      simp only []
      omega
    · rw [if_neg c1]
      by_cases c2 : g t = (bst g t).2.1
      · rw [if_pos c2]
        simp only []
        omega
      · rw [if_neg c2]
        omega
