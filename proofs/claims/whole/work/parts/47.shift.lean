/-! pure part: length, shift -/
theorem pu_mul {a b : Int} (ha : 0 ≤ a ∧ a ≤ 48) (hb : 0 ≤ b ∧ b ≤ 48) : sq_rg (a * b) := by
  have h1 : 0 ≤ a * b := Int.mul_nonneg ha.1 hb.1
  have h2 : a * b ≤ 48 * 48 := Int.mul_le_mul ha.2 hb.2 hb.1 (by decide)
  omega
/-- which d is best among 1 .. k + 1 -/
def lenB (S : Nat → Int) (n : Nat) : Nat → Nat
  | 0 => 1
  | k + 1 => if S (lenB S n k) * ((n : Int) - ((k + 2 : Nat) : Int)) < S (k + 2) * ((n : Int) - (lenB S n k : Int)) then k + 2 else lenB S n k
theorem lenB_bd (S : Nat → Int) (n : Nat) : ∀ k, 1 ≤ lenB S n k ∧ lenB S n k ≤ k + 1
  | 0 => by simp [lenB]
  | k + 1 => by
    have := lenB_bd S n k
    unfold lenB
    split <;> omega
theorem lenB_cong {S S' : Nat → Int} {n : Nat} : ∀ {k : Nat}, (∀ d, d ≤ k + 1 → S d = S' d) → lenB S n k = lenB S' n k
  | 0, _ => rfl
  | k + 1, h => by
    have h1 := lenB_cong (n := n) (k := k) (fun d hd => h d (by omega))
    have h2 := lenB_bd S n k
    unfold lenB
    rw [h (k + 2) (by omega), h _ (by omega : lenB S n k ≤ k + 1 + 1), h1]
theorem po_length : sl_o_length Rel := by
  intro sx sm a hR ha
  have hR0 := hR
  obtain ⟨hp, ⟨⟨⟨t1, t2, t3⟩, t4⟩, d2, d3, d4, d5⟩, h3⟩ := hR
  obtain ⟨n, hn⟩ := pu_nat t2
  rw [hn] at t1 t4
  have t4 : ∀ i : Nat, (i : Int) < n → sx 3 i = sm 1 i ∧ 0 ≤ sm 1 i ∧ sm 1 i < 16 := t4
  have hn48 : n ≤ 48 := by omega
  have rx : ∀ i : Nat, i < n → sq_rg (sx 3 i) := fun i hi => by have := t4 i (by omega); omega
  have rm : ∀ i : Nat, i < n → sq_rg (sm 1 i) := fun i hi => by have := t4 i (by omega); omega
  intro K hK
  by_cases h : a < 1 ∨ 20 < a
  · refine pu_out ha (by decide) (by decide) h ⟨by decide, fun h => absurd h (by decide), fun _ => ?_⟩
    intro K1 K2 hK1 hK2
    exact pu_mno ha (by decide) (by decide) h ⟨by decide, fun h => absurd rfl h, fun _ => ⟨rfl, by decide, hR0⟩⟩
  obtain ⟨m, rfl⟩ := pu_nat (show 0 ≤ a by omega)
  obtain ⟨S, hS⟩ : ∃ S : Nat → Int, S = fun d => su (cS (sm 1) d) (n - d) := ⟨_, rfl⟩
  have hSx : ∀ d : Nat, su (cS (sx 3) d) (n - d) = S d := fun d => by rw [hS]; exact cS_eq (fun i hi => (t4 i (by omega)).1)
  have hSb : ∀ d : Nat, 0 ≤ S d ∧ S d ≤ 48 := fun d => by
    have := cS_bd (sm 1) d (n - d)
    have e : S d = su (cS (sm 1) d) (n - d) := by rw [hS]
    omega
  -- the reference
  have ref : ∀ r : Int, (n < 2 → r = -6) → (2 ≤ n → r = lenB S n (min m (n - 1) - 1)) → wX4_length m sm (fun r' sm' => r = r' ∧ sq_rg r ∧ Rel sx sm') := by
    intro r hr1 hr2 K1 K2 hK1 hK2
    refine pu_min ha (by decide) (by decide) (by omega) ⟨by decide, fun _ => ?_, fun h => absurd h (by decide)⟩
    by_cases hn2 : n < 2
    · exact hK1 _ _ _ _ ⟨by omega, fun h => by omega, fun _ => pu_many ⟨by omega, fun _ => ⟨hr1 hn2, by have := hr1 hn2; omega, hR0⟩, fun h => by omega⟩⟩
    refine hK1 _ _ _ _ ⟨by omega, fun h => by omega, fun _ => pu_many ⟨by omega, fun h => by omega, fun _ => ⟨by decide, fun _ => ?_, fun h => absurd h (by decide)⟩⟩⟩
    refine hK2 _ _ _ _ ⟨by decide, fun h => absurd h (by decide), fun _ => ?_⟩
    have loop : ∀ (j k : Nat), k + j = min m (n - 1) - 1 → K1 m (lenB S n k) ((k + 2 : Nat) : Int) sm := by
      intro j
      induction j with
      | zero =>
        intro k hk
        have hb := lenB_bd S n k
        have hk : k = min m (n - 1) - 1 := by omega
        have hr := hr2 (by omega)
        rw [← hk] at hr
        refine hK1 _ _ _ _ ⟨by omega, fun _ => ⟨hr, by omega, hR0⟩, fun h => pu_many ⟨by omega, fun _ => ⟨hr, by omega, hR0⟩, fun h => by omega⟩⟩
      | succ j ih =>
        intro k hk
        have hb := lenB_bd S n k
        have hk2 : k + 2 ≤ m ∧ k + 2 < n := by omega
        refine hK1 _ _ _ _ ⟨by omega, fun h => by omega, fun _ => pu_many ⟨by omega, fun h => by omega, fun _ => ⟨by omega, fun h => by omega, fun _ => ?_⟩⟩⟩
        refine pm_same (n := n) (by omega) hn48 (by omega) rm (pu_many ?_)
        refine pm_same (n := n) (by omega) hn48 (by omega) rm (pu_many ?_)
        rw [hn, show su (cS (sm 1) (k + 2)) (n - (k + 2)) = S (k + 2) by rw [hS], show su (cS (sm 1) (lenB S n k)) (n - lenB S n k) = S (lenB S n k) by rw [hS]]
        refine ⟨⟨pu_mul (hSb _) (by omega), pu_mul (hSb _) (by omega)⟩, fun hle => ⟨by decide, fun _ => ?_, fun h => absurd rfl h⟩, fun hlt => ?_⟩
        · have e : lenB S n (k + 1) = lenB S n k := by
            show (if _ then _ else _) = _
            rw [if_neg (by omega)]
          have := ih (k + 1) (by omega)
          rw [e] at this
          rw [pu_i]
          exact this
        · have e : lenB S n (k + 1) = k + 2 := by
            show (if _ then _ else _) = _
            rw [if_pos hlt]
          refine hK2 _ _ _ _ ⟨by decide, fun h => absurd h (by decide), fun _ => ?_⟩
          have := ih (k + 1) (by omega)
          rw [e] at this
          rw [pu_i]
          exact this
    exact loop (min m (n - 1) - 1) 0 (by omega)
  refine pu_inn ha (by decide) (by decide) (by omega) ⟨by decide, fun _ => ⟨by omega, fun h2 => ?_, fun h2 => ?_⟩, fun h => absurd rfl h⟩
  · refine px_same (n := n) (d := 1) t1 hn48 (by omega) rx ?_
    rw [hSx 1]
    have loop : ∀ (j k : Nat), k + j = min m (n - 1) - 1 → K m (lenB S n k) (S (lenB S n k)) ((k + 2 : Nat) : Int) sx := by
      intro j
      induction j with
      | zero =>
        intro k hk
        have hk : k = min m (n - 1) - 1 := by omega
        refine hK _ _ _ _ _ ⟨by omega, fun _ => ref _ (fun h => by omega) (fun _ => by rw [hk]), fun h => ⟨by omega, fun _ => ref _ (fun h => by omega) (fun _ => by rw [hk]), fun h => by omega⟩⟩
      | succ j ih =>
        intro k hk
        have hb := lenB_bd S n k
        refine hK _ _ _ _ _ ⟨by omega, fun h => by omega, fun _ => ⟨by omega, fun h => by omega, fun _ => ?_⟩⟩
        refine px_same (n := n) t1 hn48 (by omega) rx ?_
        rw [hSx (k + 2), t1]
        refine ⟨⟨pu_mul (hSb _) (by omega), pu_mul (hSb _) (by omega)⟩, fun hle => ?_, fun hlt => ?_⟩
        · have e : lenB S n (k + 1) = lenB S n k := by
            show (if _ then _ else _) = _
            rw [if_neg (by omega)]
          have := ih (k + 1) (by omega)
          rw [e] at this
          rw [pu_i]
          exact this
        · have e : lenB S n (k + 1) = k + 2 := by
            show (if _ then _ else _) = _
            rw [if_pos hlt]
          have := ih (k + 1) (by omega)
          rw [e] at this
          rw [pu_i]
          exact this
    exact loop (min m (n - 1) - 1) 0 (by omega)
  · exact ref _ (fun _ => rfl) (fun h => by omega)
/-- every n-th place from i on, up to N: a sum -/
def scF (g : Nat → Int) (N n : Nat) : Nat → Nat → Int
  | 0, _ => 0
  | m + 1, i => if i < N then g i + scF g N n m (i + n) else 0
theorem scF_bd {g : Nat → Int} {N n : Nat} (h : ∀ i, i < N → 0 ≤ g i ∧ g i ≤ 99) : ∀ m i, 0 ≤ scF g N n m i ∧ scF g N n m i ≤ 99 * m
  | 0, _ => by simp [scF]
  | m + 1, i => by
    have := scF_bd (n := n) h m (i + n)
    unfold scF
    split
    · rename_i hi
      have := h i hi
      omega
    · omega
theorem scF_cong {g g' : Nat → Int} {N n : Nat} (h : ∀ i, i < N → g i = g' i) : ∀ m i, scF g N n m i = scF g' N n m i
  | 0, _ => rfl
  | m + 1, i => by
    unfold scF
    split
    · rename_i hi
      rw [h i hi, scF_cong h m (i + n)]
    · rfl
theorem px_score {k : Int} {n f N : Nat} {st : sq_S} {Q : Int → sq_S → Prop} (hN : st 2 1 = N) (h48 : N ≤ 48) (hn : 1 ≤ n ∧ n ≤ 8) (hf : f ≤ 8) (hq : Q (scF (fun i => st 5 ((st 3 i - k) % 16).toNat) N n 48 f) st) : wX3_scoreOf k n f st Q := by
  intro K hK
  have loop : ∀ (m i : Nat) (acc : Int), N ≤ i + m → i ≤ 60 → Q (acc + scF (fun i => st 5 ((st 3 i - k) % 16).toNat) N n m i) st → K k n acc (i : Int) st := by
    intro m
    induction m with
    | zero =>
      intro i acc h1 h2 h3
      refine hK _ _ _ _ _ ⟨by omega, fun _ => ?_, fun h => by omega⟩
      simpa [scF] using h3
    | succ m ih =>
      intro i acc h1 h2 h3
      refine hK _ _ _ _ _ ⟨by omega, fun h => ?_, fun h => ⟨by omega, ?_⟩⟩
      · have e : scF (fun i => st 5 ((st 3 i - k) % 16).toNat) N n (m + 1) i = 0 := by unfold scF; rw [if_neg (by omega)]
        rw [e, Int.add_zero] at h3
        exact h3
      · rw [show (((i : Nat) : Int).toNat) = i from rfl, pb_and15]
        refine ⟨by omega, ?_⟩
        rintro _ rfl _ rfl
        rw [show (i : Int) + (n : Int) = ((i + n : Nat) : Int) by omega]
        have e : scF (fun i => st 5 ((st 3 i - k) % 16).toNat) N n (m + 1) i = st 5 ((st 3 i - k) % 16).toNat + scF (fun i => st 5 ((st 3 i - k) % 16).toNat) N n m (i + n) := by
          rw [scF, if_pos (by omega)]
        refine ih (i + n) _ (by omega) (by omega) ?_
        rw [e, ← Int.add_assoc] at h3
        exact h3
  exact loop 48 f 0 (by omega) (by omega) (by simpa using hq)
theorem pm_score {k n f N : Nat} {st : sq_S} {Q : Int → sq_S → Prop} (hN : st 1 48 = N) (h48 : N ≤ 48) (hk : k ≤ 15) (hn : 1 ≤ n ∧ n ≤ 8) (hf : f ≤ 8) (ht : ∀ i : Nat, i < N → 0 ≤ st 1 i ∧ st 1 i < 16) (hq : Q (scF (fun i => st 1 (56 + ((st 1 i - k) % 16).toNat)) N n 48 f) st) : wX4_score n f k st Q := by
  intro K hK
  have loop : ∀ (m i : Nat) (acc : Int), N ≤ i + m → i ≤ 60 → Q (acc + scF (fun i => st 1 (56 + ((st 1 i - k) % 16).toNat)) N n m i) st → K n k acc (i : Int) st := by
    intro m
    induction m with
    | zero =>
      intro i acc h1 h2 h3
      refine hK _ _ _ _ _ (pu_many ⟨by omega, fun _ => ?_, fun h => by omega⟩)
      simpa [scF] using h3
    | succ m ih =>
      intro i acc h1 h2 h3
      refine hK _ _ _ _ _ (pu_many ⟨by omega, fun h => ?_, fun h => ⟨by omega, ?_⟩⟩)
      · have e : scF (fun i => st 1 (56 + ((st 1 i - k) % 16).toNat)) N n (m + 1) i = 0 := by unfold scF; rw [if_neg (by omega)]
        rw [e, Int.add_zero] at h3
        exact h3
      · rw [pu_z]
        have := ht i (by omega)
        refine ⟨by omega, by omega, ?_⟩
        rintro _ rfl _ rfl
        rw [show (i : Int) + (n : Int) = ((i + n : Nat) : Int) by omega, show (56 + (st 1 i - (k : Int) + 16) % 16).toNat = 56 + ((st 1 i - k) % 16).toNat by omega]
        have e : scF (fun i => st 1 (56 + ((st 1 i - k) % 16).toNat)) N n (m + 1) i = st 1 (56 + ((st 1 i - k) % 16).toNat) + scF (fun i => st 1 (56 + ((st 1 i - k) % 16).toNat)) N n m (i + n) := by
          rw [scF, if_pos (by omega)]
        refine ih (i + n) _ (by omega) (by omega) ?_
        rw [e, ← Int.add_assoc] at h3
        exact h3
  exact loop 48 f 0 (by omega) (by omega) (by simpa using hq)
/-- ranks -/
def rkP (s : Nat → Int) (k : Nat) : Nat → Int := fun j => if s k < s j ∨ (s j = s k ∧ j < k) then 1 else 0
def rkN (s : Nat → Int) (k : Nat) : Int := su (rkP s k) 16
theorem su_le {f g : Nat → Int} : ∀ {n : Nat}, (∀ i, i < n → f i ≤ g i) → su f n ≤ su g n
  | 0, _ => Int.le_refl _
  | n + 1, h => by
    have h1 := su_le (n := n) (fun i hi => h i (by omega))
    have h2 := h n (by omega)
    rw [su_s, su_s]
    omega
theorem su_lt {f g : Nat → Int} {k : Nat} : ∀ {n : Nat}, k < n → (∀ i, i < n → f i ≤ g i) → f k < g k → su f n < su g n
  | 0, hk, _, _ => absurd hk (Nat.not_lt_zero k)
  | n + 1, hk, h, hlt => by
    rw [su_s, su_s]
    have h2 := h n (by omega)
    by_cases e : k = n
    · subst e
      have h1 := su_le (n := k) (fun i hi => h i (by omega))
      omega
    · have h1 := su_lt (n := n) (by omega) (fun i hi => h i (by omega)) hlt
      omega
theorem rkN_lt {s : Nat → Int} {a b : Nat} (ha : a < 16) (h : s b < s a ∨ (s a = s b ∧ a < b)) : rkN s a < rkN s b := by
  refine su_lt (k := a) ha (fun i _ => ?_) ?_
  · unfold rkP
    by_cases h1 : s a < s i ∨ (s i = s a ∧ i < a)
    · rw [if_pos h1, if_pos (by omega)]
      omega
    · rw [if_neg h1]
      split <;> omega
  · unfold rkP
    rw [if_neg (by omega), if_pos h]
    omega
theorem rkN_bd (s : Nat → Int) {a : Nat} (ha : a < 16) : 0 ≤ rkN s a ∧ rkN s a < 16 := by
  have h0 := su_bd (f := rkP s a) (c := 1) (n := 16) (fun i _ => by unfold rkP; split <;> omega)
  have h1 := su_lt (f := rkP s a) (g := fun _ => 1) (k := a) ha (fun i _ => by unfold rkP; split <;> omega) (by unfold rkP; rw [if_neg (by omega)]; omega)
  have h2 : su (fun _ => 1) 16 = 16 := by decide
  unfold rkN
  omega
theorem rk_ex (s : Nat → Int) {i : Nat} (hi : i < 16) : ∃ k : Nat, k < 16 ∧ rkN s k = i ∧ ∀ j : Nat, j < k → rkN s j ≠ i := by
  have := fb_onto (n := 16) (f := fun k => (rkN s k).toNat) (fun k hk => by have := rkN_bd s hk; omega) (fun a b hab hb e => by
    have ha := rkN_bd s (show a < 16 by omega)
    have hb2 := rkN_bd s hb
    have e : (rkN s a).toNat = (rkN s b).toNat := e
    by_cases h : s b < s a ∨ (s a = s b ∧ a < b)
    · have := rkN_lt (show a < 16 by omega) h
      omega
    · have := rkN_lt (s := s) (a := b) (b := a) hb (by omega)
      omega) hi
  obtain ⟨k, hk, e⟩ := this
  have hb := rkN_bd s hk
  obtain ⟨k0, h1, h2, h3⟩ := fb_first (p := fun k => rkN s k = i) (n := 16) ⟨k, hk, by have e : (rkN s k).toNat = i := e; omega⟩
  exact ⟨k0, h1, h2, fun j hj e => h3 j hj e⟩
