/-! pure part: letter; pairs in the square -/
def kyM (sm : sq_S) : Nat → Nat := fun i => (sm 1 (49 + i)).toNat
theorem Rel.k {sx sm : sq_S} (h : Rel sx sm) : ∃ k : Nat, sx 2 3 = k ∧ sm 1 55 = k ∧ 1 ≤ k ∧ k ≤ 6 ∧ ∀ i : Nat, i < k → sx 4 i = kyM sm i ∧ sm 1 (49 + i) = kyM sm i ∧ kyM sm i < 16 := by
  obtain ⟨hp, ⟨d1, ⟨⟨k1, k2, k3⟩, k4⟩, d3, d4, d5⟩, h3⟩ := h
  obtain ⟨k, hk⟩ := pu_nat (show 0 ≤ sm 1 55 by omega)
  refine ⟨k, by omega, hk, by omega, by omega, fun i hi => ?_⟩
  have q : sx 4 i = sm 1 (49 + i) ∧ 0 ≤ sm 1 (49 + i) ∧ sm 1 (49 + i) < 16 := k4 i (by omega)
  unfold kyM
  omega
theorem Rel.n {sx sm : sq_S} (h : Rel sx sm) : ∃ n : Nat, sx 2 1 = n ∧ sm 1 48 = n ∧ n ≤ 48 ∧ ∀ i : Nat, i < n → sx 3 i = sm 1 i ∧ 0 ≤ sm 1 i ∧ sm 1 i < 16 := by
  obtain ⟨hp, ⟨⟨⟨t1, t2, t3⟩, t4⟩, d2, d3, d4, d5⟩, h3⟩ := h
  obtain ⟨n, hn⟩ := pu_nat t2
  exact ⟨n, by omega, hn, by omega, fun i hi => t4 i (by omega)⟩
theorem po_letter : sl_o_letter Rel := by
  intro sx sm a i hR ha hi
  obtain ⟨n, n1, n2, n3, n4⟩ := hR.n
  obtain ⟨k, k1, k2, k3, k4, k5⟩ := hR.k
  have key16 : ∀ i : Nat, i < k → kyM sm i < 16 := fun i h => (k5 i h).2.2
  have hpm := (ly_16 key16).2
  -- the reference, behind its first test
  have ref : ∀ (N r : Int) (sx' : sq_S), Rel sx' sm → 0 ≤ N → N ≤ 48 → (i = -1 → r = N) → (i < -1 ∨ N ≤ i → r = -6) → (0 ≤ i → i < N → (a = 0 → N = n ∧ r = sm 1 i.toNat ∧ sq_rg r) ∧ (a = 1 → N = k ∧ r = sm 1 (49 + i.toNat) ∧ sq_rg r) ∧ (a = 2 → N = 16 ∧ r = lySq (kyM sm) k i.toNat)) → 0 ≤ a → a ≤ 2 → ∀ K40 : Int → Int → Int → sq_S → Prop, (∀ (v1 v2 s0 : Int) (st : sq_S), bX4_letter_40 K40 (fun r' sm' => r = r' ∧ sq_rg r ∧ Rel sx' sm') v1 v2 s0 st → K40 v1 v2 s0 st) → K40 a i N sm := by
    intro N r sx' hR' hN0 hN1 hr1 hr2 hr3 ha0 ha2 K40 hK
    refine hK _ _ _ _ ⟨by omega, fun hm1 => ?_, fun hm1 => ⟨hr1 hm1, by have := hr1 hm1; omega, hR'⟩⟩
    by_cases hin : i < 0 ∨ N - 1 < i
    · have := hr2 (by omega)
      exact pu_mno hi (by decide) (by omega) hin ⟨by decide, fun h => absurd rfl h, fun _ => ⟨this, by omega, hR'⟩⟩
    refine pu_min hi (by decide) (by omega) (by omega) ⟨by decide, fun _ => ?_, fun h => absurd h (by decide)⟩
    obtain ⟨q0, q1, q2⟩ := hr3 (by omega) (by omega)
    refine pm_laySquare k2 k4 (fun j hj => ⟨(k5 j hj).2.1, (k5 j hj).2.2⟩) (fun sm' e1 e2 => ?_)
    have hR2 : Rel sx' sm' := hR'.scr (fun _ _ => rfl) (fun c hc => ⟨fun _ => by rw [e1 0 (by decide)], fun _ => e1 c (by omega)⟩)
    refine ⟨ha, fun h0 => ⟨by omega, fun h1 => ⟨by omega, ?_⟩, fun h1 => ⟨by omega, ?_⟩⟩, fun h0 => ⟨by omega, ?_⟩⟩
    · obtain ⟨r1, r2⟩ := q2 (by omega)
      rw [e2 _ (by omega)]
      have := hpm.1 i.toNat (by omega)
      exact ⟨r2, by omega, hR2⟩
    · obtain ⟨r1, r2, r3⟩ := q1 h1
      rw [e1 1 (by decide), show (49 + i).toNat = 49 + i.toNat by omega]
      exact ⟨r2, r3, hR2⟩
    · obtain ⟨r1, r2, r3⟩ := q0 h0
      rw [e1 1 (by decide), show (0 + i).toNat = i.toNat by omega]
      exact ⟨r2, r3, hR2⟩
  have gm : ∀ (N : Int) (Q : Int → sq_S → Prop), 0 ≤ a → a ≤ 2 → (a = 0 → N = n) → (a = 1 → N = k) → (a = 2 → N = 16) → (∀ K40 : Int → Int → Int → sq_S → Prop, (∀ (v1 v2 s0 : Int) (st : sq_S), bX4_letter_40 K40 Q v1 v2 s0 st → K40 v1 v2 s0 st) → K40 a i N sm) → wX4_letter a i sm Q := by
    intro N Q ha0 ha2 h0 h1 h2 hk K40 hK
    have go := hk K40 hK
    refine pu_min ha (by decide) (by decide) (by omega) ⟨by decide, fun _ => ⟨ha, fun hn0 => ⟨by omega, fun hn1 => ?_, fun hn1 => ⟨by decide, ?_⟩⟩, fun hn0 => pu_many ?_⟩, fun h => absurd h (by decide)⟩
    · rw [h2 (by omega)] at go; exact go
    · rw [k2, ← h1 hn1]; exact go
    · rw [n2, ← h0 hn0]; exact go
  refine ⟨ha, fun h0 => ?_, fun h1 => ?_, fun h2 => ?_, fun h => ?_⟩
  · rw [n1]
    refine ⟨by omega, fun hm1 => ?_, fun hm1 => ?_⟩
    · by_cases hin : i < 0 ∨ (n : Int) - 1 < i
      · exact pu_out hi (by decide) (by omega) hin ⟨by decide, fun h => absurd h (by decide), fun _ => gm n _ (by omega) (by omega) (fun _ => rfl) (fun h => by omega) (fun h => by omega) (ref n _ _ hR (by omega) (by omega) (fun h => absurd h hm1) (fun _ => rfl) (fun _ _ => by omega) (by omega) (by omega))⟩
      · have hl := n4 i.toNat (by omega)
        exact pu_inn hi (by decide) (by omega) (by omega) ⟨by decide, fun _ => ⟨by omega, gm n _ (by omega) (by omega) (fun _ => rfl) (fun h => by omega) (fun h => by omega) (ref n _ _ hR (by omega) (by omega) (fun h => absurd h hm1) (fun h => by omega) (fun _ _ => ⟨fun _ => ⟨rfl, hl.1, by omega⟩, fun h => by omega, fun h => by omega⟩) (by omega) (by omega))⟩, fun h => absurd rfl h⟩
    · exact gm n _ (by omega) (by omega) (fun _ => rfl) (fun h => by omega) (fun h => by omega) (ref n _ _ hR (by omega) (by omega) (fun _ => rfl) (fun h => by omega) (fun _ _ => by omega) (by omega) (by omega))
  · rw [k1]
    refine ⟨by omega, fun hm1 => ?_, fun hm1 => ?_⟩
    · by_cases hin : i < 0 ∨ (k : Int) - 1 < i
      · exact pu_out hi (by decide) (by omega) hin ⟨by decide, fun h => absurd h (by decide), fun _ => gm k _ (by omega) (by omega) (fun h => by omega) (fun _ => rfl) (fun h => by omega) (ref k _ _ hR (by omega) (by omega) (fun h => absurd h hm1) (fun _ => rfl) (fun _ _ => by omega) (by omega) (by omega))⟩
      · have hl := k5 i.toNat (by omega)
        exact pu_inn hi (by decide) (by omega) (by omega) ⟨by decide, fun _ => ⟨by omega, gm k _ (by omega) (by omega) (fun h => by omega) (fun _ => rfl) (fun h => by omega) (ref k _ _ hR (by omega) (by omega) (fun h => absurd h hm1) (fun h => by omega) (fun _ _ => ⟨fun h => by omega, fun _ => ⟨rfl, by rw [hl.1, hl.2.1], by omega⟩, fun h => by omega⟩) (by omega) (by omega))⟩, fun h => absurd rfl h⟩
    · exact gm k _ (by omega) (by omega) (fun h => by omega) (fun _ => rfl) (fun h => by omega) (ref k _ _ hR (by omega) (by omega) (fun _ => rfl) (fun h => by omega) (fun _ _ => by omega) (by omega) (by omega))
  · rw [k1]
    refine px_layOut k4 (fun j hj => ⟨(k5 j hj).1, (k5 j hj).2.2⟩) (fun sx' e1 e2 => ?_)
    have hR2 : Rel sx' sm := hR.scr (fun c hc => e1 c (by omega) (by omega)) (fun _ _ => ⟨fun _ => rfl, fun _ => rfl⟩)
    refine ⟨by omega, fun hm1 => ?_, fun hm1 => ?_⟩
    · by_cases hin : i < 0 ∨ (16 : Int) - 1 < i
      · exact pu_out hi (by decide) (by decide) hin ⟨by decide, fun h => absurd h (by decide), fun _ => gm 16 _ (by omega) (by omega) (fun h => by omega) (fun h => by omega) (fun _ => rfl) (ref 16 _ _ hR2 (by omega) (by omega) (fun h => absurd h hm1) (fun _ => rfl) (fun _ _ => by omega) (by omega) (by omega))⟩
      · exact pu_inn hi (by decide) (by decide) (by omega) ⟨by decide, fun _ => ⟨by omega, gm 16 _ (by omega) (by omega) (fun h => by omega) (fun h => by omega) (fun _ => rfl) (ref 16 _ _ hR2 (by omega) (by omega) (fun h => absurd h hm1) (fun h => by omega) (fun _ _ => ⟨fun h => by omega, fun h => by omega, fun _ => ⟨rfl, (e2 i.toNat (by omega)).1⟩⟩) (by omega) (by omega))⟩, fun h => absurd rfl h⟩
    · exact gm 16 _ (by omega) (by omega) (fun h => by omega) (fun h => by omega) (fun _ => rfl) (ref 16 _ _ hR2 (by omega) (by omega) (fun _ => rfl) (fun h => by omega) (fun _ _ => by omega) (by omega) (by omega))
  · intro K40 hK
    exact pu_mno ha (by decide) (by decide) h ⟨by decide, fun h => absurd rfl h, fun _ => ⟨rfl, by decide, hR⟩⟩
-- pairs
def pI (a b mv : Int) : Int := if a = b then 4 * ((a / 4 + mv) % 4) + (a % 4 + mv) % 4 else if a / 4 = b / 4 then 4 * ((a / 4) % 4) + (a % 4 + mv) % 4 else if a % 4 = b % 4 then 4 * ((a / 4 + mv) % 4) + (a % 4) % 4 else 4 * ((a / 4) % 4) + (b % 4) % 4
theorem pI_bd (a b mv : Int) : 0 ≤ pI a b mv ∧ pI a b mv < 16 := by
  unfold pI
  split
  · omega
  split
  · omega
  split <;> omega
/-- the square lies in the class's cells, in the reference's -/
def SqX (st : sq_S) (S : Nat → Nat) : Prop := ∀ i : Nat, i < 16 → st 27 i = S i ∧ st 28 (S i) = i
def SqM (st : sq_S) (S : Nat → Nat) : Prop := ∀ i : Nat, i < 16 → st 7 i = S i
def PmI (S inv : Nat → Nat) : Prop := Pm S ∧ ∀ l : Nat, l < 16 → inv l < 16 ∧ S (inv l) = l
theorem Pm.inv {S : Nat → Nat} (h : Pm S) : ∃ inv : Nat → Nat, PmI S inv := by
  have hex : ∀ l : Nat, l < 16 → ∃ i, i < 16 ∧ S i = l := fun l hl => fb_onto h.1 h.2 hl
  refine ⟨fun l => if h : l < 16 then Classical.choose (hex l h) else 0, h, fun l hl => ?_⟩
  show (if h : l < 16 then Classical.choose (hex l h) else 0) < 16 ∧ S (if h : l < 16 then Classical.choose (hex l h) else 0) = l
  rw [dif_pos hl]
  exact Classical.choose_spec (hex l hl)
theorem Pm.inj {S : Nat → Nat} (h : Pm S) {a b : Nat} (ha : a < 16) (hb : b < 16) (e : S a = S b) : a = b := by
  rcases Nat.lt_trichotomy a b with q | q | q
  · exact absurd e (h.2 a b q hb)
  · exact q
  · exact absurd e.symm (h.2 b a q ha)
theorem px_at {r c : Int} {st : sq_S} {Q : Int → sq_S → Prop} (hq : Q (st 27 (4 * (r % 4) + c % 4).toNat) st) : wX1_at r c st Q := by
  unfold wX1_at
  rw [pb_and3, pb_and3]
  exact ⟨by omega, hq⟩
theorem px_beside {a b : Nat} {mv : Int} {S : Nat → Nat} {st : sq_S} {Q : Int → sq_S → Prop} (hS : SqX st S) (hp : Pm S) (ha : a < 16) (hb : b < 16) (hq : Q (S (pI a b mv).toNat) st) : wX1_beside (S a) (S b) mv st Q := by
  have h1 := hp.1 a ha
  have h2 := hp.1 b hb
  have ra : ∀ (x : Nat) (Q : Int → sq_S → Prop), x < 16 → Q ((x / 4 : Nat) : Int) st → wX1_rowOf (S x) st Q := by
    intro x Q hx hq
    have := hp.1 x hx
    refine ⟨by omega, ?_⟩
    rw [show (((S x : Nat) : Int).toNat) = S x from rfl, (hS x hx).2, show (2 : Int) = ((2 : Nat) : Int) from rfl, pb_shr (by omega) (by decide)]
    exact hq
  have ca : ∀ (x : Nat) (Q : Int → sq_S → Prop), x < 16 → Q ((x : Int) % 4) st → wX1_columnOf (S x) st Q := by
    intro x Q hx hq
    have := hp.1 x hx
    refine ⟨by omega, ?_⟩
    rw [show (((S x : Nat) : Int).toNat) = S x from rfl, (hS x hx).2, pb_and3]
    exact hq
  have fin : ∀ x : Int, x = pI a b mv → Q (st 27 x.toNat) st := by
    intro x hx
    have hb := pI_bd a b mv
    rw [hx, (hS _ (by omega)).1]
    exact hq
  refine ra a _ ha (ca a _ ha ⟨by omega, fun hne => ?_, fun he => ?_⟩)
  · have hab : a ≠ b := fun e => hne (by rw [e])
    refine ra b _ hb ⟨by omega, fun hr => ?_, fun hr => ?_⟩
    · refine ca b _ hb ⟨by omega, fun hc => ?_, fun hc => ?_⟩
      · refine ca b _ hb (px_at (fin _ ?_))
        unfold pI
        rw [if_neg (by omega), if_neg (by omega), if_neg (by omega)]
        omega
      · refine px_at (fin _ ?_)
        unfold pI
        rw [if_neg (by omega), if_neg (by omega), if_pos (by omega)]
        omega
    · refine px_at (fin _ ?_)
      unfold pI
      rw [if_neg (by omega), if_pos (by omega)]
      omega
  · have hab : a = b := hp.inj ha hb (by omega)
    refine px_at (fin _ ?_)
    unfold pI
    rw [if_pos (by omega)]
    omega
theorem pm_placeOf {a : Nat} {S : Nat → Nat} {st : sq_S} {Q : Int → sq_S → Prop} (hS : SqM st S) (hp : Pm S) (ha : a < 16) (hq : Q a st) : wX4_placeOf (S a) st Q := by
  intro K hK
  have hb := hp.1 a ha
  have loop : ∀ (m j : Nat), j + m = a → K (S a) (j : Int) st := by
    intro m
    induction m with
    | zero =>
      intro j hj
      have e : j = a := by omega
      subst e
      refine hK _ _ _ ⟨by omega, ?_⟩
      rw [show (((j : Nat) : Int).toNat) = j from rfl, hS j ha]
      exact ⟨by omega, fun _ => hq, fun h => absurd rfl h⟩
    | succ m ih =>
      intro j hj
      have hjb := hp.1 j (by omega)
      have hne := hp.2 j a (by omega) ha
      refine hK _ _ _ ⟨by omega, ?_⟩
      rw [show (((j : Nat) : Int).toNat) = j from rfl, hS j (by omega)]
      refine ⟨by omega, fun h => by omega, fun _ => ?_⟩
      rw [pu_i]
      exact ih (j + 1) (by omega)
  exact loop a 0 (by omega)
theorem pm_at {r c : Int} {st : sq_S} {Q : Int → sq_S → Prop} (hr : -4 ≤ r ∧ r ≤ 100) (hc : -4 ≤ c ∧ c ≤ 100) (hq : Q (st 7 (4 * (r % 4) + c % 4).toNat) st) : wX4_atSquare r c st Q := by
  refine ⟨by omega, by omega, by omega, ?_⟩
  rw [show 4 * ((r + 4) % 4) + (c + 4) % 4 = 4 * (r % 4) + c % 4 by omega]
  exact hq
theorem pm_pair {i a b : Nat} {mv : Int} {S : Nat → Nat} {st : sq_S} {Q : Int → sq_S → Prop} (hS : SqM st S) (hp : Pm S) (hi : i + 1 < 48) (ha : a < 16) (hb : b < 16) (hta : st 5 i = S a) (htb : st 5 (i + 1) = S b) (hmv : mv = 1 ∨ mv = -1) (hq : Q 0 (sq_set (sq_set st 6 i (S (pI a b mv).toNat)) 6 (i + 1) (S (pI b a mv).toNat))) : wX4_pair i mv st Q := by
  intro K1 K2 K3 hK1 hK2 hK3
  have e1 : ((i : Int) + 1).toNat = i + 1 := by omega
  have hS2 : ∀ x : Int, SqM (sq_set st 6 i x) S := fun x j hj => by rw [pu_sc (by decide)]; exact hS j hj
  have pab := pI_bd a b mv
  have pba := pI_bd b a mv
  have k3 : ∀ v w : Int, -1 ≤ v → v ≤ 1 → -1 ≤ w → w ≤ 1 → 4 * (((a : Int) / 4 + v) % 4) + ((a : Int) % 4 + w) % 4 = pI a b mv → 4 * (((b : Int) / 4 + v) % 4) + ((b : Int) % 4 + w) % 4 = pI b a mv → K3 i a b v w st := by
    intro v w hv1 hv2 hw1 hw2 h1 h2
    refine hK3 _ _ _ _ _ _ ⟨by omega, by omega, pm_at (by omega) (by omega) ?_⟩
    rw [h1, hS _ (by omega)]
    refine ⟨by omega, ?_⟩
    rintro _ rfl
    refine ⟨by omega, by omega, pm_at (by omega) (by omega) ?_⟩
    rw [show (((i : Nat) : Int).toNat) = i from rfl, h2, hS2 _ _ (by omega), e1]
    refine ⟨by omega, ?_⟩
    rintro _ rfl
    exact hq
  have k2 : ∀ v w : Int, -1 ≤ v → v ≤ 1 → -1 ≤ w → w ≤ 1 → ¬ (v = 0 ∧ w = 0) → 4 * (((a : Int) / 4 + v) % 4) + ((a : Int) % 4 + w) % 4 = pI a b mv → 4 * (((b : Int) / 4 + v) % 4) + ((b : Int) % 4 + w) % 4 = pI b a mv → K2 i a b v w st := by
    intro v w hv1 hv2 hw1 hw2 hn h1 h2
    exact hK2 _ _ _ _ _ _ ⟨by omega, fun _ => k3 v w hv1 hv2 hw1 hw2 h1 h2, fun _ => ⟨by omega, fun _ => k3 v w hv1 hv2 hw1 hw2 h1 h2, fun h => by omega⟩⟩
  refine ⟨by omega, ?_⟩
  rw [show (((i : Nat) : Int).toNat) = i from rfl, hta]
  refine pm_placeOf hS hp ha ⟨by omega, ?_⟩
  rw [e1, htb]
  refine pm_placeOf hS hp hb ⟨by omega, fun he => ?_, fun hne => ⟨by omega, by omega, by omega, fun hr => ⟨by omega, by omega, by omega, fun h => absurd hr h, fun _ => ?_⟩, fun hr => ⟨by omega, by omega, by omega, fun hc => ⟨by omega, by omega, by omega, fun _ => ?_, fun h => absurd h hr⟩, fun hc => ?_⟩⟩⟩
  · refine hK1 _ _ _ _ _ ⟨by omega, by omega, by omega, fun h => by omega, fun _ => k2 mv mv (by omega) (by omega) (by omega) (by omega) (by omega) ?_ ?_⟩
    · unfold pI; rw [if_pos he]
    · unfold pI; rw [if_pos he.symm]
  · refine k2 0 mv (by omega) (by omega) (by omega) (by omega) (by omega) ?_ ?_
    · unfold pI; rw [if_neg hne, if_pos hr]; omega
    · unfold pI; rw [if_neg (fun e => hne e.symm), if_pos hr.symm]; omega
  · refine hK2 _ _ _ _ _ _ ⟨by decide, fun h => absurd rfl h, fun _ => ⟨by decide, fun h => absurd rfl h, fun _ => ⟨by omega, by omega, pm_at (by omega) (by omega) ?_⟩⟩⟩
    have h1 : 4 * ((a : Int) / 4 % 4) + (b : Int) % 4 % 4 = pI a b mv := by
      unfold pI; rw [if_neg hne, if_neg hr, if_neg hc]
    have h2 : 4 * ((b : Int) / 4 % 4) + (a : Int) % 4 % 4 = pI b a mv := by
      unfold pI; rw [if_neg (fun e => hne e.symm), if_neg (fun e => hr e.symm), if_neg (fun e => hc e.symm)]
    rw [h1, hS _ (by omega)]
    refine ⟨by omega, ?_⟩
    rintro _ rfl
    refine ⟨by omega, by omega, pm_at (by omega) (by omega) ?_⟩
    rw [show (((i : Nat) : Int).toNat) = i from rfl, h2, hS2 _ _ (by omega), e1]
    refine ⟨by omega, ?_⟩
    rintro _ rfl
    exact hq
  · refine hK1 _ _ _ _ _ ⟨by omega, by omega, by omega, fun _ => k2 mv 0 (by omega) (by omega) (by omega) (by omega) (by omega) ?_ ?_, fun h => absurd h hr⟩
    · unfold pI; rw [if_neg hne, if_neg hr, if_pos hc]; omega
    · unfold pI; rw [if_neg (fun e => hne e.symm), if_neg (fun e => hr e.symm), if_pos hc.symm]; omega
