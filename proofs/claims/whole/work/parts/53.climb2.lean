/-! pure part: climb -/
/-- GOOD by pairs, on both sides -/
theorem px_gbp {n : Nat} {S : Nat → Nat} {sx sm st : sq_S} {Q : Int → sq_S → Prop} (hR : Rel sx sm) (hn : sm 1 48 = n) (hev : n % 2 = 0) (hst : ∀ c : Nat, c ≠ 25 → c ≠ 27 → c ≠ 28 → st c = sx c) (hS : SqX st S) (hp : Pm S) (hq : ∀ st' : sq_S, (∀ c : Nat, c ≠ 25 → st' c = st c) → Q (gP (lM sm) (sm 1) n S) st') : wX3_goodByPairs st Q := by
  obtain ⟨n', n1, n2, n3, n4⟩ := hR.n
  have e : n' = n := by omega
  subst e
  refine px_pairs (n := n') (mv := -1) (inv := invF S) (Or.inl ⟨rfl, rfl⟩) (by rw [hst 2 (by decide) (by decide) (by decide)]; exact n1) n3 hev hS hp.invF (fun i hi => by rw [hst 3 (by decide) (by decide) (by decide)]; have := n4 i hi; omega) (fun st' e1 e2 => ?_)
  have h2 : ∀ i : Nat, i < n' → st' 25 i = prR S (invF S) (sm 1) (-1) i := by
    intro i hi
    rw [e2 i hi, hst 3 (by decide) (by decide) (by decide)]
    exact prR_cong hev (fun j hj => (n4 j hj).1) hi
  refine px_liked_25 (n := n') (by rw [e1 2 (by decide), hst 2 (by decide) (by decide) (by decide)]; exact n1) n3 (fun i hi => by rw [h2 i hi]; exact prR_bd hp _ _ _) ?_
  have hl : lX st' = lX sx := by
    unfold lX
    rw [e1 6 (by decide), hst 6 (by decide) (by decide) (by decide)]
  rw [hl, (cG_eq hR.2.1.2.2.2.1 (t := st' 25) (u := prR S (invF S) (sm 1) (-1)) (n := n') (fun i hi => ⟨h2 i hi, prR_bd hp _ _ _⟩)).1]
  exact hq _ e1
theorem gP_bd {n : Nat} {S : Nat → Nat} {sx sm : sq_S} (hR : Rel sx sm) (hn : n ≤ 48) (hp : Pm S) : 0 ≤ gP (lM sm) (sm 1) n S ∧ gP (lM sm) (sm 1) n S ≤ 48 := by
  have := cG_eq hR.2.1.2.2.2.1 (t := prR S (invF S) (sm 1) (-1)) (u := prR S (invF S) (sm 1) (-1)) (n := n) (fun i hi => ⟨rfl, prR_bd hp _ _ _⟩)
  unfold gP
  omega
theorem pm_gbp {n : Nat} {S : Nat → Nat} {sm st : sq_S} {Q : Int → sq_S → Prop} (hn : sm 1 48 = n) (h48 : n ≤ 48) (hev : n % 2 = 0) (hst : st 1 = sm 1) (ht5 : ∀ i : Nat, i < n → st 5 i = sm 1 i) (ht : ∀ i : Nat, i < n → 0 ≤ sm 1 i ∧ sm 1 i < 16) (hS : SqM st S) (hp : Pm S) (hq : ∀ st' : sq_S, (∀ c : Nat, c ≠ 6 → st' c = st c) → Q (gP (lM sm) (sm 1) n S) st') : wX4_goodByPairs st Q := by
  refine pm_pairs (n := n) (inv := invF S) (Or.inr rfl) (by rw [hst]; exact hn) h48 hev hS hp.invF (fun i hi => by rw [ht5 i hi]; exact ht i hi) (fun st' e1 e2 => ?_)
  have h2 : ∀ i : Nat, i < n → st' 6 i = prR S (invF S) (sm 1) (-1) i := by
    intro i hi
    rw [e2 i hi]
    exact prR_cong hev ht5 hi
  refine pm_good_6 (n := n) (by rw [e1 1 (by decide), hst]; exact hn) h48 (fun i hi => by rw [h2 i hi]; exact prR_bd hp _ _ _) ?_
  have hl : lM st' = lM sm := by
    unfold lM
    rw [e1 1 (by decide), hst]
  have he : su (cG (lM st') (st' 6)) (n - 1) = gP (lM sm) (sm 1) n S := by
    rw [hl]
    unfold gP
    exact su_cong (fun i hi => by unfold cG; rw [h2 i (by omega), h2 (i + 1) (by omega)])
  rw [he]
  exact hq _ e1
/-- k steps: the square, GOOD, how many stayed, z -/
def clm (G : (Nat → Nat) → Int) (S0 : Nat → Nat) (z0 : Nat) : Nat → (Nat → Nat) × Int × Int × Nat
  | 0 => (S0, G S0, 0, z0)
  | k + 1 =>
    let p := clm G S0 z0 k
    let z := (75 * p.2.2.2 + 74) % 65537
    let S := swp p.1 (z % 16) (z / 16 % 16)
    if G S < p.2.1 then (p.1, p.2.1, p.2.2.1, z) else (S, G S, p.2.2.1 + 1, z)
theorem clm_ok {G : (Nat → Nat) → Int} {S0 : Nat → Nat} {z0 : Nat} (h : Pm S0) (hz : z0 ≤ 65536) : ∀ k : Nat, Pm (clm G S0 z0 k).1 ∧ (clm G S0 z0 k).2.1 = G (clm G S0 z0 k).1 ∧ 0 ≤ (clm G S0 z0 k).2.2.1 ∧ (clm G S0 z0 k).2.2.1 ≤ k ∧ (clm G S0 z0 k).2.2.2 ≤ 65536
  | 0 => ⟨h, rfl, by show (0 : Int) ≤ 0; omega, by show (0 : Int) ≤ _; omega, hz⟩
  | k + 1 => by
    obtain ⟨h1, h2, h3, h4, h5⟩ := clm_ok (G := G) h hz k
    unfold clm
    simp only []
    split
    · exact ⟨h1, h2, h3, by show (clm G S0 z0 k).2.2.1 ≤ _; omega, by show _ % 65537 ≤ _; omega⟩
    · exact ⟨Pm_swp h1 (by omega) (by omega), rfl, by show 0 ≤ (clm G S0 z0 k).2.2.1 + 1; omega, by show (clm G S0 z0 k).2.2.1 + 1 ≤ _; omega, by show _ % 65537 ≤ _; omega⟩
theorem pm_goUp {n m z0 : Nat} {sm : sq_S} {S0 : Nat → Nat} {Q : Int → sq_S → Prop} (hn : sm 1 48 = n) (h48 : n ≤ 48) (hev : n % 2 = 0) (hm : m ≤ 60) (hz : z0 ≤ 9999) (ht : ∀ i : Nat, i < n → 0 ≤ sm 1 i ∧ sm 1 i < 16) (hG : ∀ S : Nat → Nat, Pm S → 0 ≤ gP (lM sm) (sm 1) n S ∧ gP (lM sm) (sm 1) n S ≤ 48) {k : Nat} (k2 : sm 1 55 = k) (k4 : k ≤ 6) (k5 : ∀ i : Nat, i < k → sm 1 (49 + i) = kyM sm i ∧ kyM sm i < 16) (hS0 : S0 = lySq (kyM sm) k) (hq : ∀ sm' : sq_S, (∀ c : Nat, c ≠ 0 → c ≠ 5 → c ≠ 6 → c ≠ 7 → sm' c = sm c) → sm' 0 4 = sm 0 4 → SqM sm' (clm (gP (lM sm) (sm 1) n) S0 z0 m).1 → sm' 0 11 = (clm (gP (lM sm) (sm 1) n) S0 z0 m).2.2.1 → Q (clm (gP (lM sm) (sm 1) n) S0 z0 m).2.1 sm') : wX4_goUp z0 m sm Q := by
  intro K hK
  have hp0 : Pm S0 := by rw [hS0]; exact (ly_16 (fun i hi => (k5 i hi).2)).2
  refine pm_laySquare k2 k4 k5 (fun s1 a1 a2 => ?_)
  refine pm_layText (n := n) (by rw [a1 1 (by decide)]; exact hn) h48 (fun s2 b1 b2 => ?_)
  have c1 : s2 1 = sm 1 := by rw [b1 1 (by decide), a1 1 (by decide)]
  refine pm_gbp (S := S0) hn h48 hev c1 (fun i hi => by rw [b2 i hi, a1 1 (by decide)]) ht (fun i hi => by rw [b1 7 (by decide), a2 i hi, hS0]) hp0 (fun s3 d1 => ?_)
  rintro _ rfl
  have loop : ∀ (j i : Nat) (tm : sq_S), i + j = m → (∀ c : Nat, c ≠ 0 → c ≠ 5 → c ≠ 6 → c ≠ 7 → tm c = sm c) → tm 0 4 = sm 0 4 → (∀ x : Nat, x < n → tm 5 x = sm 1 x) → SqM tm (clm (gP (lM sm) (sm 1) n) S0 z0 i).1 → tm 0 11 = (clm (gP (lM sm) (sm 1) n) S0 z0 i).2.2.1 → K m (clm (gP (lM sm) (sm 1) n) S0 z0 i).2.1 (clm (gP (lM sm) (sm 1) n) S0 z0 i).2.2.2 (i : Int) tm := by
    intro j
    induction j with
    | zero =>
      intro i tm hi e1 e2 e3 e4 e5
      have e : i = m := by omega
      subst e
      exact hK _ _ _ _ _ ⟨by omega, fun _ => hq _ e1 e2 e4 e5, fun h => by omega⟩
    | succ j ih =>
      intro i tm hi e1 e2 e3 e4 e5
      obtain ⟨o1, o2, o3, o4, o5⟩ := clm_ok (G := gP (lM sm) (sm 1) n) hp0 (show z0 ≤ 65536 by omega) i
      have hb := hG _ o1
      rw [← o2] at hb
      have hs := fun q => ih (i + 1) q (by omega)
      unfold clm at hs
      simp only [] at hs
      generalize clm (gP (lM sm) (sm 1) n) S0 z0 i = p at *
      obtain ⟨S, g, cc, z⟩ := p
      simp only [] at *
      refine hK _ _ _ _ _ ⟨by omega, fun h => by omega, fun _ => ⟨by omega, ?_⟩⟩
      rintro _ rfl
      rw [show (75 * (z : Int) + 74) % 65537 = (((75 * z + 74) % 65537 : Nat) : Int) by omega]
      have hy : (75 * z + 74) % 65537 ≤ 65536 := by omega
      generalize (75 * z + 74) % 65537 = y at *
      rw [show (y : Int) % 16 = ((y % 16 : Nat) : Int) by omega, show (y : Int) / 16 % 16 = ((y / 16 % 16 : Nat) : Int) by omega]
      refine ⟨by omega, by omega, by omega, ?_⟩
      refine pm_swap e4 (by omega) (by omega) (fun s4 f1 f2 => ?_)
      have hp2 := Pm_swp o1 (a := y % 16) (b := y / 16 % 16) (by omega) (by omega)
      have hb2 := hG _ hp2
      refine pm_gbp (S := swp S (y % 16) (y / 16 % 16)) hn h48 hev (by rw [f1 1 (by decide), e1 1 (by decide) (by decide) (by decide) (by decide)]) (fun x hx => by rw [f1 5 (by decide)]; exact e3 x hx) ht f2 hp2 (fun s5 g1 => ⟨by omega, fun hle => ?_, fun hlt => ⟨by omega, by omega, by omega, ?_⟩⟩)
      · rintro _ rfl
        rw [pu_i]
        have := hs (sq_set s5 0 11 (s5 0 11 + 1))
        rw [if_neg (by omega)] at this
        refine this (fun c h0 h5 h6 h7 => by rw [pu_sc h0, g1 c h6, f1 c h7]; exact e1 c h0 h5 h6 h7) (by rw [pu_sk (by decide), g1 0 (by decide), f1 0 (by decide)]; exact e2) (fun x hx => by rw [pu_sc (by decide), g1 5 (by decide), f1 5 (by decide)]; exact e3 x hx) (fun x hx => by rw [pu_sc (by decide), g1 7 (by decide)]; exact f2 x hx) (by rw [pu_ss, g1 0 (by decide), f1 0 (by decide), e5])
      · refine pm_swap (S := swp S (y % 16) (y / 16 % 16)) (fun x hx => by rw [g1 7 (by decide)]; exact f2 x hx) (by omega) (by omega) (fun s6 i1 i2 => ?_)
        rw [swp_swp] at i2
        rw [pu_i]
        have := hs s6
        rw [if_pos hlt] at this
        exact this (fun c h0 h5 h6 h7 => by rw [i1 c h7, g1 c h6, f1 c h7]; exact e1 c h0 h5 h6 h7) (by rw [i1 0 (by decide), g1 0 (by decide), f1 0 (by decide)]; exact e2) (fun x hx => by rw [i1 5 (by decide), g1 5 (by decide), f1 5 (by decide)]; exact e3 x hx) i2 (by rw [i1 0 (by decide), g1 0 (by decide), f1 0 (by decide), e5])
  refine loop m 0 _ (by omega) (fun c h0 h5 h6 h7 => by rw [pu_sc h0, d1 c h6, b1 c h5, a1 c h7]) (by rw [pu_sk (by decide), d1 0 (by decide), b1 0 (by decide), a1 0 (by decide)]) (fun x hx => by rw [pu_sc (by decide), d1 5 (by decide), b2 x hx, a1 1 (by decide)]) (fun x hx => by rw [pu_sc (by decide), d1 7 (by decide), b1 7 (by decide), a2 x hx]; show _ = ((S0 x : Nat) : Int); rw [hS0]) ?_
  rw [pu_ss]
  rfl
