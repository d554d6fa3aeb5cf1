/-! pure part: climb, the class and both together -/
theorem pu_odd {st : sq_S} {Q : Int → sq_S → Prop} {n : Nat} (hn : st 2 1 = n) (h1 : n % 2 = 1 → Q 1 st) (h0 : n % 2 = 0 → Q 0 st) : wX3_hasOddText st Q := by
  unfold wX3_hasOddText
  rw [hn, pb_and1]
  refine ⟨by omega, fun h => ⟨Or.inl rfl, h0 (by omega)⟩, fun h => ⟨Or.inr rfl, h1 (by omega)⟩⟩
theorem po_climb : sl_o_climb Rel := by
  intro sx sm z0 m w hR hz hm hw
  obtain ⟨n, n1, n2, n3, n4⟩ := hR.n
  obtain ⟨k, k1, k2, k3, k4, k5⟩ := hR.k
  intro K hK
  by_cases c1 : z0 < 0 ∨ 9999 < z0
  · refine pu_out hz (by decide) (by decide) c1 ⟨by decide, fun _ => ?_, fun h => absurd h (by decide)⟩
    exact pu_mno hz (by decide) (by decide) c1 ⟨by decide, fun _ => ⟨rfl, by decide, hR⟩, fun h => absurd rfl h⟩
  refine pu_inn hz (by decide) (by decide) (by omega) ⟨by decide, fun h => absurd rfl h, fun _ => ?_⟩
  by_cases c2 : m < 0 ∨ 60 < m
  · refine pu_out hm (by decide) (by decide) c2 ⟨by decide, fun _ => ?_, fun h => absurd h (by decide)⟩
    exact pu_min hz (by decide) (by decide) (by omega) ⟨by decide, fun h => absurd h (by decide), fun _ => pu_mno hm (by decide) (by decide) c2 ⟨by decide, fun _ => ⟨rfl, by decide, hR⟩, fun h => absurd rfl h⟩⟩
  refine pu_inn hm (by decide) (by decide) (by omega) ⟨by decide, fun h => absurd rfl h, fun _ => ?_⟩
  by_cases c3 : w < -2 ∨ 15 < w
  · refine pu_out hw (by decide) (by decide) c3 ⟨by decide, fun h => absurd h (by decide), fun _ => ?_⟩
    exact pu_min hz (by decide) (by decide) (by omega) ⟨by decide, fun h => absurd h (by decide), fun _ => pu_min hm (by decide) (by decide) (by omega) ⟨by decide, fun h => absurd h (by decide), fun _ => pu_mno hw (by decide) (by decide) c3 ⟨by decide, fun h => absurd rfl h, fun _ => ⟨rfl, by decide, hR⟩⟩⟩⟩
  refine pu_inn hw (by decide) (by decide) (by omega) ⟨by decide, fun _ => ?_, fun h => absurd rfl h⟩
  have gm : ∀ Q : Int → sq_S → Prop, wX4_many sm (fun r537 st538 => ((0 ≤ r537 ∧ r537 ≤ 2147483647) ∧ (0 < (2 : Int) ∧ (2 : Int) ≤ 2147483647)) ∧ ((sq_rg (r537 % 2) ∧ sq_rg 1) ∧ (¬ (r537 % 2) = 1 → wX4_goUp z0 m st538 (fun r556 st557 => (sq_rg w ∧ sq_rg (-1)) ∧ (¬ w = (-1) → (sq_rg w ∧ sq_rg (-2)) ∧ (¬ w = (-2) → sq_ib w 16 ∧ (Q (st557 7 w.toNat) st557)) ∧ (w = (-2) → Q (st557 0 11) st557)) ∧ (w = (-1) → Q r556 st557))) ∧ ((r537 % 2) = 1 → Q (-3) st538))) → wX4_climb z0 m w sm Q := by
    intro Q hq
    exact pu_min hz (by decide) (by decide) (by omega) ⟨by decide, fun h => absurd h (by decide), fun _ => pu_min hm (by decide) (by decide) (by omega) ⟨by decide, fun h => absurd h (by decide), fun _ => pu_min hw (by decide) (by decide) (by omega) ⟨by decide, fun _ => hq, fun h => absurd h (by decide)⟩⟩⟩
  obtain ⟨z0, rfl⟩ := pu_nat (show 0 ≤ z0 by omega)
  obtain ⟨m, rfl⟩ := pu_nat (show 0 ≤ m by omega)
  refine pu_odd n1 (fun hodd => ⟨by decide, fun h => absurd h (by decide), fun _ => ?_⟩) (fun hev => ⟨by decide, fun _ => ?_, fun h => absurd rfl h⟩)
  · refine gm _ (pu_many ?_)
    rw [n2]
    exact ⟨by omega, by omega, fun h => by omega, fun _ => ⟨rfl, by decide, hR⟩⟩
  obtain ⟨S0, hS0⟩ : ∃ S0 : Nat → Nat, S0 = lySq (kyM sm) k := ⟨_, rfl⟩
  have hp0 : Pm S0 := by rw [hS0]; exact (ly_16 (fun i hi => (k5 i hi).2.2)).2
  have hG : ∀ S : Nat → Nat, Pm S → 0 ≤ gP (lM sm) (sm 1) n S ∧ gP (lM sm) (sm 1) n S ≤ 48 := fun S hS => gP_bd hR n3 hS
  -- the reference, whole
  have ref : ∀ (r : Int) (sx' : sq_S), (∀ c : Nat, c ≤ 22 → sx' c = sx c) → (w = -1 → r = (clm (gP (lM sm) (sm 1) n) S0 z0 m).2.1) → (w = -2 → r = (clm (gP (lM sm) (sm 1) n) S0 z0 m).2.2.1) → (0 ≤ w → r = (clm (gP (lM sm) (sm 1) n) S0 z0 m).1 w.toNat) → wX4_climb z0 m w sm (fun r' sm' => r = r' ∧ sq_rg r ∧ Rel sx' sm') := by
    intro r sx' hc r1 r2 r3
    obtain ⟨o1, o2, o3, o4, o5⟩ := clm_ok (G := gP (lM sm) (sm 1) n) hp0 (show z0 ≤ 65536 by omega) m
    have hb := hG _ o1
    rw [← o2] at hb
    refine gm _ (pu_many ?_)
    rw [n2]
    refine ⟨by omega, by omega, fun _ => ?_, fun h => by omega⟩
    refine pm_goUp (S0 := S0) n2 n3 hev (by omega) (by omega) (fun i hi => (n4 i hi).2) hG k2 k4 (fun i hi => (k5 i hi).2) hS0 (fun sm' e1 e2 e3 e4 => ?_)
    have hR2 : Rel sx' sm' := hR.scr hc (fun c hc => ⟨fun _ => e2, fun h0 => e1 c h0 (by omega) (by omega) (by omega)⟩)
    refine ⟨by omega, fun h1 => ⟨by omega, fun h2 => ⟨by omega, ?_⟩, fun h2 => ?_⟩, fun h1 => ?_⟩
    · rw [e3 _ (by omega)]
      have := o1.1 w.toNat (by omega)
      have := r3 (by omega)
      exact ⟨this, by omega, hR2⟩
    · rw [e4]
      have := r2 h2
      exact ⟨this, by omega, hR2⟩
    · have := r1 h1
      exact ⟨this, by omega, hR2⟩
  rw [k1]
  refine px_layOut k4 (fun j hj => ⟨(k5 j hj).1, (k5 j hj).2.2⟩) (fun s1 a1 a2 => ?_)
  refine px_gbp (S := S0) hR n2 hev (fun c h1 h2 h3 => a1 c h2 h3) (fun i hi => by rw [hS0]; exact a2 i hi) hp0 (fun s2 b1 => ?_)
  have loop : ∀ (j i : Nat) (tm : sq_S), i + j = m → (∀ c : Nat, c ≠ 25 → c ≠ 27 → c ≠ 28 → tm c = sx c) → SqX tm (clm (gP (lM sm) (sm 1) n) S0 z0 i).1 → K m w (clm (gP (lM sm) (sm 1) n) S0 z0 i).2.1 (clm (gP (lM sm) (sm 1) n) S0 z0 i).2.2.1 (clm (gP (lM sm) (sm 1) n) S0 z0 i).2.2.2 (i : Int) tm := by
    intro j
    induction j with
    | zero =>
      intro i tm hi e1 e2
      have e : i = m := by omega
      subst e
      refine hK _ _ _ _ _ _ _ ⟨by omega, fun _ => ⟨by omega, fun h1 => ⟨by omega, fun h2 => ⟨by omega, ?_⟩, fun h2 => ?_⟩, fun h1 => ?_⟩, fun h => by omega⟩
      · rw [(e2 _ (by omega)).1]
        exact ref _ _ (fun c hc => e1 c (by omega) (by omega) (by omega)) (fun h => absurd h h1) (fun h => absurd h h2) (fun _ => rfl)
      · exact ref _ _ (fun c hc => e1 c (by omega) (by omega) (by omega)) (fun h => absurd h h1) (fun _ => rfl) (fun h => by omega)
      · exact ref _ _ (fun c hc => e1 c (by omega) (by omega) (by omega)) (fun _ => rfl) (fun h => by omega) (fun h => by omega)
    | succ j ih =>
      intro i tm hi e1 e2
      obtain ⟨o1, o2, o3, o4, o5⟩ := clm_ok (G := gP (lM sm) (sm 1) n) hp0 (show z0 ≤ 65536 by omega) i
      have hb := hG _ o1
      rw [← o2] at hb
      have hs := fun q => ih (i + 1) q (by omega)
      clear ih ref
      unfold clm at hs
      simp only [] at hs
      generalize clm (gP (lM sm) (sm 1) n) S0 z0 i = p at *
      obtain ⟨S, g, cc, z⟩ := p
      simp only [] at *
      refine hK _ _ _ _ _ _ _ ⟨by omega, fun h => by omega, fun _ => ⟨by omega, ?_⟩⟩
      rintro _ rfl
      rw [show (75 * (z : Int) + 74) % 65537 = (((75 * z + 74) % 65537 : Nat) : Int) by omega]
      have hy : (75 * z + 74) % 65537 ≤ 65536 := by omega
      generalize (75 * z + 74) % 65537 = y at *
      refine ⟨by omega, ?_⟩
      rintro _ rfl
      refine ⟨by omega, by omega, ?_⟩
      rintro _ rfl
      rw [show (y : Int) % 16 = ((y % 16 : Nat) : Int) by omega, show (y : Int) / 16 % 16 = ((y / 16 % 16 : Nat) : Int) by omega]
      refine px_exch e2 o1 (by omega) (by omega) (fun s4 f1 f2 => ?_)
      have hp2 := Pm_swp o1 (a := y % 16) (b := y / 16 % 16) (by omega) (by omega)
      have hb2 := hG _ hp2
      refine px_gbp (S := swp S (y % 16) (y / 16 % 16)) hR n2 hev (fun c h1 h2 h3 => by rw [f1 c h2 h3]; exact e1 c h1 h2 h3) f2 hp2 (fun s5 g1 => ⟨by omega, fun hle => ?_, fun hlt => ?_⟩)
      · rw [pu_i]
        have := hs s5
        rw [if_neg (by omega)] at this
        exact this (fun c h1 h2 h3 => by rw [g1 c h1, f1 c h2 h3]; exact e1 c h1 h2 h3) (fun x hx => by rw [g1 27 (by decide), g1 28 (by decide)]; exact f2 x hx)
      · refine px_exch (S := swp S (y % 16) (y / 16 % 16)) (fun x hx => by rw [g1 27 (by decide), g1 28 (by decide)]; exact f2 x hx) hp2 (by omega) (by omega) (fun s6 i1 i2 => ?_)
        rw [swp_swp] at i2
        rw [pu_i]
        have := hs s6
        rw [if_pos hlt] at this
        exact this (fun c h1 h2 h3 => by rw [i1 c h2 h3, g1 c h1, f1 c h2 h3]; exact e1 c h1 h2 h3) i2
  refine loop m 0 s2 (by omega) (fun c h1 h2 h3 => by rw [b1 c h1]; exact a1 c h2 h3) (fun x hx => ?_)
  rw [b1 27 (by decide), b1 28 (by decide)]
  show _ = ((S0 x : Nat) : Int) ∧ s1 28 (S0 x) = x
  rw [hS0]
  exact a2 x hx
