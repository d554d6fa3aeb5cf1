/-! pure part: order -/
theorem po_order : sl_o_order Rel := by
  intro sx sm n w hR hn hw
  obtain ⟨N, n1, n2, n3, n4⟩ := hR.n
  intro K44 K93 K118 hK44 hK93 hK118
  by_cases c1 : n < 2 ∨ 6 < n
  · refine pu_out hn (by decide) (by decide) c1 ⟨by decide, fun _ => ?_, fun h => absurd h (by decide)⟩
    intro J1 J2 J3 hJ1 hJ2 hJ3
    exact pu_mno hn (by decide) (by decide) c1 ⟨by decide, fun _ => ⟨rfl, by decide, hR⟩, fun h => absurd rfl h⟩
  refine pu_inn hn (by decide) (by decide) (by omega) ⟨by decide, fun h => absurd rfl h, fun _ => ?_⟩
  by_cases c2 : w < -2 ∨ n - 1 < w
  · refine pu_out hw (by decide) (by omega) c2 ⟨by decide, fun h => absurd h (by decide), fun _ => ?_⟩
    intro J1 J2 J3 hJ1 hJ2 hJ3
    exact pu_min hn (by decide) (by decide) (by omega) ⟨by decide, fun h => absurd h (by decide), fun _ => pu_mno hw (by decide) (by omega) c2 ⟨by decide, fun h => absurd rfl h, fun _ => ⟨rfl, by decide, hR⟩⟩⟩
  refine pu_inn hw (by decide) (by omega) (by omega) ⟨by decide, fun _ => ?_, fun h => absurd rfl h⟩
  obtain ⟨n, rfl⟩ := pu_nat (show 0 ≤ n by omega)
  have h2 : 2 ≤ n := by omega
  have h6 : n ≤ 6 := by omega
  obtain ⟨hid, hOrd⟩ := Ord_ok h2 h6
  obtain ⟨F, hF⟩ : ∃ F : Nat, F = fc n := ⟨_, rfl⟩
  rw [← hF] at hOrd
  obtain ⟨F1, F2⟩ : 2 ≤ F ∧ F ≤ 720 := by rw [hF]; exact fc_le h2 h6
  obtain ⟨g, hg⟩ : ∃ g : Nat → Int, g = fun t => gO (lM sm) (sm 1) N n (Ord n t) := ⟨_, rfl⟩
  have hgt : ∀ t : Nat, gO (lM sm) (sm 1) N n (Ord n t) = g t := fun t => by rw [hg]
  have hgb : ∀ t : Nat, t < F → 0 ≤ g t ∧ g t ≤ 48 := fun t ht => by rw [← hgt t]; exact gO_bd hR n2 (by omega) h6 (hOrd t ht).1
  have hob : ∀ t : Nat, t < F → ∀ i : Nat, i < n → Ord n t i < 8 := fun t ht i hi => by have := (hOrd t ht).1.1 i hi; omega
  have hbst := bst_ok hgb
  have hend := hbst F (Nat.le_refl F)
  -- the reference
  have ref : ∀ (r : Int) (sx' : sq_S), (∀ c : Nat, c ≤ 22 → sx' c = sx c) → (w = -1 → r = (bst g F).2.1) → (w = -2 → r = (bst g F).2.2) → (0 ≤ w → r = Ord n (bst g F).1 w.toNat) → wX4_order n w sm (fun r' sm' => r = r' ∧ sq_rg r ∧ Rel sx' sm') := by
    intro r sx' hc r1 r2 r3 J1 J2 J3 hJ1 hJ2 hJ3
    have loop : ∀ (m t : Nat) (v3 : Int) (tm : sq_S), t + m = F → (∀ c : Nat, c ≤ 4 → tm c = sm c) → (0 < t → v3 = (bst g t).1) → sq_rg v3 → J1 n w v3 (bst g t).2.1 (bst g t).2.2 (t : Int) tm := by
      intro m
      induction m with
      | zero =>
        intro t v3 tm ht e1 e2 e3
        have e : t = F := by omega
        subst e
        have hb := hend.2.2.2.2.1 (by omega)
        rw [e2 (by omega)]
        obtain ⟨o1, ⟨c, o2, o3⟩, -⟩ := hOrd (bst g t).1 hb.1
        refine hJ1 _ _ _ _ _ _ _ (pm_orders (by omega) h6 ?_)
        rw [← hF]
        refine ⟨by omega, fun _ => ?_, fun h => by omega⟩
        refine pm_layOrder (by omega) h6 (by omega) o2 (fun sm' a1 a2 => ?_)
        have hR2 : Rel sx' sm' := hR.scr hc (fun c hc => ⟨fun _ => by rw [a1 0 (by decide), e1 0 (by decide)], fun _ => by rw [a1 c (by omega), e1 c hc]⟩)
        refine ⟨by omega, fun g1 => ⟨by omega, fun g2 => ⟨by omega, ?_⟩, fun g2 => ?_⟩, fun g1 => ?_⟩
        · have hr := r3 (by omega)
          rw [a2 _ (by omega), o3 _ (by omega)]
          have := hob _ hb.1 w.toNat (by omega)
          exact ⟨hr, by omega, hR2⟩
        · have hr := r2 g2
          exact ⟨hr, by omega, hR2⟩
        · have hr := r1 g1
          exact ⟨hr, by omega, hR2⟩
      | succ m ih =>
        intro t v3 tm ht e1 e2 e3
        have hs := fun v q => ih (t + 1) v q (by omega)
        have hb := hbst t (by omega)
        have hgb1 := hgb t (by omega)
        clear ih
        rw [bst_s] at hs
        obtain ⟨o1, ⟨c, o2, o3⟩, -⟩ := hOrd t (by omega)
        refine hJ1 _ _ _ _ _ _ _ (pm_orders (by omega) h6 ?_)
        rw [← hF]
        refine ⟨by omega, fun h => by omega, fun _ => ?_⟩
        refine pm_gbo (n := N) (sm := sm) n2 n3 (fun i hi => (n4 i hi).2) (by omega) h6 (by omega) o1 (e1 1 (by decide)) o2 o3 (fun s1 a1 => ?_)
        rw [hgt t]
        have e1' : ∀ c : Nat, c ≤ 4 → s1 c = sm c := fun c hc => by rw [a1 c (by omega) (by omega) (by omega) (by omega)]; exact e1 c hc
        have hs := fun v => hs v s1 e1'
        refine ⟨by omega, fun hle => ?_, fun hlt => ?_⟩
        · rw [if_neg (by omega)] at hs
          refine hJ2 _ _ _ _ _ _ _ _ ⟨by omega, fun _ => ⟨by omega, fun hne => ?_, fun heq => ?_⟩, fun h => by omega⟩
          · rw [if_neg hne] at hs
            refine hJ3 _ _ _ _ _ _ _ _ ⟨by omega, fun _ => ?_, fun h => by omega⟩
            rw [pu_i]
            exact hs v3 (fun _ => e2 (by omega)) e3
          · rw [if_pos heq] at hs
            refine hJ3 _ _ _ _ _ _ _ _ ⟨by omega, fun _ => ?_, fun h => by omega⟩
            rw [pu_i]
            exact hs v3 (fun _ => e2 (by omega)) e3
        · rw [if_pos hlt] at hs
          refine hJ2 _ _ _ _ _ _ _ _ ⟨by omega, fun h => by omega, fun _ => ?_⟩
          refine hJ3 _ _ _ _ _ _ _ _ ⟨by omega, fun h => by omega, fun _ => ?_⟩
          rw [pu_i]
          exact hs t (fun _ => rfl) (by omega)
    exact pu_min hn (by decide) (by decide) (by omega) ⟨by decide, fun h => absurd h (by decide), fun _ => pu_min hw (by decide) (by omega) (by omega) ⟨by decide, fun _ => loop F 0 (-6) sm (by omega) (fun _ _ => rfl) (fun h => by omega) (by decide), fun h => absurd h (by decide)⟩⟩
  -- the class, at its end
  have fin : ∀ tm : sq_S, (∀ c : Nat, c ≤ 22 → tm c = sx c) → (∀ i : Nat, i < n → tm 33 i = Ord n (bst g F).1 i) → K118 w (bst g F).2.1 (bst g F).2.2 tm := by
    intro tm e1 e2
    refine hK118 _ _ _ _ ⟨by omega, fun g1 => ⟨by omega, fun g2 => ⟨by omega, ?_⟩, fun g2 => ?_⟩, fun g1 => ?_⟩
    · exact ref _ _ e1 (fun h => absurd h g1) (fun h => absurd h g2) (fun _ => e2 _ (by omega))
    · exact ref _ _ e1 (fun h => absurd h g1) (fun _ => rfl) (fun h => by omega)
    · exact ref _ _ e1 (fun _ => rfl) (fun h => by omega) (fun h => by omega)
  have loop : ∀ (m t : Nat) (tm : sq_S), t + (m + 1) = F → (∀ c : Nat, c ≤ 24 → tm c = sx c) → (∀ i : Nat, i < n → tm 29 i = Ord n t i) → (0 < t → ∀ i : Nat, i < n → tm 33 i = Ord n (bst g t).1 i) → K44 n w (bst g t).2.1 (bst g t).2.2 1 (t : Int) tm := by
    intro m
    induction m with
    | zero =>
      intro t tm ht e1 e2 e3
      have hb := hbst t (by omega)
      have hgb1 := hgb t (by omega)
      obtain ⟨o1, -, -, o4⟩ := hOrd t (by omega)
      have o4 := o4 (by omega)
      have e : t + 1 = F := by omega
      have hs := fin
      rw [← e, bst_s] at hs
      have nxt : ∀ (q1 q2 : Int) (s1 : sq_S), (∀ i : Nat, i < n → s1 29 i = Ord n t i) → K118 w q1 q2 s1 → wX2_nextOrder n s1 (fun r226 st227 => K44 n w q1 q2 r226 ((t : Int) + 1) st227) := by
        intro q1 q2 s1 a2 hk
        refine px_next h2 h6 (fun i hi => ⟨a2 i hi, hob t (by omega) i hi⟩) (fun _ => ?_) (fun O' h => ?_)
        · exact hK44 _ _ _ _ _ _ _ ⟨by decide, fun _ => hk, fun h => absurd rfl h⟩
        · rw [o4] at h
          exact absurd h (by simp)
      refine hK44 _ _ _ _ _ _ _ ⟨by decide, fun h => absurd h (by decide), fun _ => ⟨by omega, fun h => by omega, fun _ => ?_⟩⟩
      refine px_gbo (n := N) hR n2 (by omega) h6 o1 e1 e2 (fun s1 a1 => ?_)
      rw [hgt t]
      have e1' : ∀ c : Nat, c ≤ 24 → s1 c = sx c := fun c hc => by rw [a1 c (by omega) (by omega)]; exact e1 c hc
      have e2' : ∀ i : Nat, i < n → s1 29 i = Ord n t i := fun i hi => by rw [a1 29 (by decide) (by decide)]; exact e2 i hi
      refine ⟨by omega, fun hle => ?_, fun hlt => ⟨by omega, ?_⟩⟩
      · have t0 : 0 < t := by omega
        have e3' : ∀ i : Nat, i < n → s1 33 i = Ord n (bst g t).1 i := fun i hi => by rw [a1 33 (by decide) (by decide)]; exact e3 t0 i hi
        rw [if_neg (by omega)] at hs
        refine hK93 _ _ _ _ _ _ _ ⟨by omega, fun hne => ?_, fun heq => ?_⟩
        · rw [if_neg hne] at hs
          exact nxt _ _ s1 e2' (hs s1 (fun c hc => e1' c (by omega)) e3')
        · rw [if_pos heq] at hs
          exact nxt _ _ s1 e2' (hs s1 (fun c hc => e1' c (by omega)) e3')
      · rintro _ rfl
        rw [if_pos hlt] at hs
        refine hK93 _ _ _ _ _ _ _ ⟨by omega, fun hne => absurd rfl hne, fun _ => ?_⟩
        refine nxt _ _ _ (fun i hi => by rw [pu_rc (by decide)]; exact e2' i hi) (hs _ (fun c hc => by rw [pu_rc (by omega)]; exact e1' c (by omega)) (fun i hi => ?_))
        rw [pu_rr]
        unfold sq_cp
        rw [if_pos (by omega), show 0 + (i - 0) = i by omega]
        exact e2' i hi
    | succ m ih =>
      intro t tm ht e1 e2 e3
      have hb := hbst t (by omega)
      have hgb1 := hgb t (by omega)
      obtain ⟨o1, -, o3, -⟩ := hOrd t (by omega)
      obtain ⟨c, o3, o4⟩ := o3 (by omega)
      have hs := fun q => ih (t + 1) q (by omega)
      clear ih
      rw [bst_s] at hs
      have nxt : ∀ (q0 : Nat) (q1 q2 : Int) (s1 : sq_S), (∀ c : Nat, c ≤ 24 → s1 c = sx c) → (∀ i : Nat, i < n → s1 29 i = Ord n t i) → (∀ i : Nat, i < n → s1 33 i = Ord n q0 i) → (∀ q : sq_S, (∀ c : Nat, c ≤ 24 → q c = sx c) → (∀ i : Nat, i < n → q 29 i = Ord n (t + 1) i) → (0 < t + 1 → ∀ i : Nat, i < n → q 33 i = Ord n q0 i) → K44 n w q1 q2 1 ((t + 1 : Nat) : Int) q) → wX2_nextOrder n s1 (fun r226 st227 => K44 n w q1 q2 r226 ((t : Int) + 1) st227) := by
        intro q0 q1 q2 s1 a1 a2 a3 hk
        refine px_next h2 h6 (fun i hi => ⟨a2 i hi, hob t (by omega) i hi⟩) (fun h => ?_) (fun O' h s2 b1 b2 => ?_)
        · rw [o3] at h
          exact absurd h (by simp)
        · rw [o3] at h
          have h : c = O' := Option.some.inj h
          subst h
          rw [pu_i]
          exact hk s2 (fun c hc => by rw [b1 c (by omega)]; exact a1 c hc) (fun i hi => by rw [b2 i hi, o4 i hi]) (fun _ i hi => by rw [b1 33 (by decide)]; exact a3 i hi)
      refine hK44 _ _ _ _ _ _ _ ⟨by decide, fun h => absurd h (by decide), fun _ => ⟨by omega, fun h => by omega, fun _ => ?_⟩⟩
      refine px_gbo (n := N) hR n2 (by omega) h6 o1 e1 e2 (fun s1 a1 => ?_)
      rw [hgt t]
      have e1' : ∀ c : Nat, c ≤ 24 → s1 c = sx c := fun c hc => by rw [a1 c (by omega) (by omega)]; exact e1 c hc
      have e2' : ∀ i : Nat, i < n → s1 29 i = Ord n t i := fun i hi => by rw [a1 29 (by decide) (by decide)]; exact e2 i hi
      refine ⟨by omega, fun hle => ?_, fun hlt => ⟨by omega, ?_⟩⟩
      · have t0 : 0 < t := by omega
        have e3' : ∀ i : Nat, i < n → s1 33 i = Ord n (bst g t).1 i := fun i hi => by rw [a1 33 (by decide) (by decide)]; exact e3 t0 i hi
        rw [if_neg (by omega)] at hs
        refine hK93 _ _ _ _ _ _ _ ⟨by omega, fun hne => ?_, fun heq => ?_⟩
        · rw [if_neg hne] at hs
          exact nxt _ _ _ s1 e1' e2' e3' hs
        · rw [if_pos heq] at hs
          exact nxt _ _ _ s1 e1' e2' e3' hs
      · rintro _ rfl
        rw [if_pos hlt] at hs
        refine hK93 _ _ _ _ _ _ _ ⟨by omega, fun hne => absurd rfl hne, fun _ => ?_⟩
        refine nxt t _ _ _ (fun c hc => by rw [pu_rc (by omega)]; exact e1' c hc) (fun i hi => by rw [pu_rc (by decide)]; exact e2' i hi) (fun i hi => ?_) hs
        rw [pu_rr]
        unfold sq_cp
        rw [if_pos (by omega), show 0 + (i - 0) = i by omega]
        exact e2' i hi
  refine px_startO h6 (fun s1 a1 a2 => ?_)
  exact loop (F - 1) 0 s1 (by omega) (fun c hc => a1 c (by omega)) (fun i hi => by rw [a2 i hi, hid i hi]) (fun h => by omega)
