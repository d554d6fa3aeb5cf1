/-! pure part: times, same, good, like, count, take -/
theorem pu_i (i : Nat) : (i : Int) + 1 = ((i + 1 : Nat) : Int) := by omega
theorem pu_z (i : Nat) : (0 + (i : Int)).toNat = i := by omega
def cT (t : Nat → Int) (a : Int) : Nat → Int := fun i => if t i = a then 1 else 0
def cS (t : Nat → Int) (d : Nat) : Nat → Int := fun i => if t i = t (i + d) then 1 else 0
theorem po_times : sl_o_times Rel := by
  intro sx sm a hR ha
  have hR0 := hR
  obtain ⟨hp, ⟨⟨⟨t1, t2, t3⟩, t4⟩, d2, d3, d4, d5⟩, h3⟩ := hR
  obtain ⟨n, hn⟩ := pu_nat t2
  rw [hn] at t1 t4
  intro K hK
  by_cases h : a < 0 ∨ 15 < a
  · refine pu_nlo ha h ⟨by decide, fun h => absurd h (by decide), fun _ => ?_⟩
    intro K2 hK2
    exact pu_ilo ha h ⟨by decide, fun h => absurd rfl h, fun _ => ⟨rfl, by decide, hR0⟩⟩
  refine pu_nli ha (by omega) ⟨by decide, fun _ => ?_, fun h => absurd rfl h⟩
  have loop : ∀ (m k : Nat), k + m = n → K a (su (cT (sx 3) a) k) k sx := by
    intro m
    induction m with
    | zero =>
      intro k hk
      have e : k = n := by omega
      subst e
      refine hK _ _ _ _ ⟨by omega, fun _ => ?_, fun h => by omega⟩
      intro K2 hK2
      have loop2 : ∀ (m j : Nat), j + m = k → K2 a (su (cT (sm 1) a) j) j sm := by
        intro m
        induction m with
        | zero =>
          intro j hj
          have e : j = k := by omega
          subst e
          refine hK2 _ _ _ _ (pu_many ⟨by omega, fun _ => ⟨?_, ?_, hR0⟩, fun h => by omega⟩)
          · exact su_cong (fun i hi => by unfold cT; rw [(t4 i (by omega)).1])
          · have := su_bd (f := cT (sx 3) a) (c := 1) (n := j) (fun i _ => by unfold cT; split <;> omega)
            omega
        | succ m ih =>
          intro j hj
          have tj := t4 j (by omega)
          refine hK2 _ _ _ _ (pu_many ⟨by omega, fun h => by omega, fun _ => ⟨by omega, ?_, fun hne => ?_, fun he => ?_⟩⟩)
          · rw [pu_z]; omega
          · rw [pu_z] at hne
            rintro _ rfl
            have e : su (cT (sm 1) a) (j + 1) = su (cT (sm 1) a) j + 0 := by rw [su_s]; unfold cT; rw [if_neg hne]
            rw [pu_i, ← e]
            exact ih (j + 1) (by omega)
          · rw [pu_z] at he
            rintro _ rfl
            have e : su (cT (sm 1) a) (j + 1) = su (cT (sm 1) a) j + 1 := by rw [su_s]; unfold cT; rw [if_pos he]
            rw [pu_i, ← e]
            exact ih (j + 1) (by omega)
      exact pu_ili ha (by omega) ⟨by decide, fun _ => loop2 k 0 (by omega), fun h => absurd h (by decide)⟩
    | succ m ih =>
      intro k hk
      have tk : sx 3 k = sm 1 k ∧ 0 ≤ sm 1 k ∧ sm 1 k < 16 := t4 k (by omega)
      refine hK _ _ _ _ ⟨by omega, fun h => by omega, fun _ => ⟨by omega, ?_, fun hne => ?_, fun he => ?_⟩⟩
      · have e : ((k : Nat) : Int).toNat = k := rfl
        rw [e]; omega
      · have hne : ¬ sx 3 k = a := hne
        have e : su (cT (sx 3) a) (k + 1) = su (cT (sx 3) a) k := by rw [su_s]; unfold cT; rw [if_neg hne, Int.add_zero]
        rw [pu_i, ← e]
        exact ih (k + 1) (by omega)
      · have he : sx 3 k = a := he
        have e : su (cT (sx 3) a) (k + 1) = su (cT (sx 3) a) k + 1 := by rw [su_s]; unfold cT; rw [if_pos he]
        rw [pu_i, ← e]
        exact ih (k + 1) (by omega)
  exact loop n 0 (by omega)
/-- SAME at d, both -/
theorem px_same {d n : Nat} {st : sq_S} {Q : Int → sq_S → Prop} (hn : st 2 1 = n) (h48 : n ≤ 48) (hd : d ≤ 48) (ht : ∀ i : Nat, i < n → sq_rg (st 3 i)) (hq : Q (su (cS (st 3) d) (n - d)) st) : wX3_sameAt d st Q := by
  intro K hK
  have loop : ∀ (m k : Nat), k + m = n - d → K d (su (cS (st 3) d) k) ((d + k : Nat) : Int) st := by
    intro m
    induction m with
    | zero =>
      intro k hk
      have e : k = n - d := by omega
      subst e
      exact hK _ _ _ _ ⟨by omega, fun _ => hq, fun h => by omega⟩
    | succ m ih =>
      intro k hk
      have e1 : (((d + k : Nat) : Int) - (d : Int)).toNat = k := by omega
      have e2 : (((d + k : Nat) : Int)).toNat = k + d := by omega
      refine hK _ _ _ _ ⟨by omega, fun h => by omega, fun _ => ⟨by omega, by omega, ?_, fun hne => ?_, fun he => ?_⟩⟩
      · rw [e1, e2]
        exact ⟨ht k (by omega), ht (k + d) (by omega)⟩
      · rw [e1, e2] at hne
        have e : su (cS (st 3) d) (k + 1) = su (cS (st 3) d) k := by rw [su_s]; unfold cS; rw [if_neg hne, Int.add_zero]
        rw [pu_i, ← e]
        exact ih (k + 1) (by omega)
      · rw [e1, e2] at he
        have e : su (cS (st 3) d) (k + 1) = su (cS (st 3) d) k + 1 := by rw [su_s]; unfold cS; rw [if_pos he]
        rw [pu_i, ← e]
        exact ih (k + 1) (by omega)
  exact loop (n - d) 0 (by omega)
theorem pm_same {d n : Nat} {st : sq_S} {Q : Int → sq_S → Prop} (hn : st 1 48 = n) (h48 : n ≤ 48) (hd : d ≤ 48) (ht : ∀ i : Nat, i < n → sq_rg (st 1 i)) (hq : Q (su (cS (st 1) d) (n - d)) st) : wX4_sameAt d st Q := by
  intro K hK
  have loop : ∀ (m k : Nat), k + m = n - d → K d (su (cS (st 1) d) k) (k : Int) st := by
    intro m
    induction m with
    | zero =>
      intro k hk
      have e : k = n - d := by omega
      subst e
      exact hK _ _ _ _ (pu_many ⟨by omega, fun _ => hq, fun h => by omega⟩)
    | succ m ih =>
      intro k hk
      have e1 : (0 + (k : Int)).toNat = k := by omega
      have e2 : (0 + (k : Int) + (d : Int)).toNat = k + d := by omega
      refine hK _ _ _ _ (pu_many ⟨by omega, fun h => by omega, fun _ => ⟨by omega, by omega, ?_, fun hne => ?_, fun he => ?_⟩⟩)
      · rw [e1, e2]
        exact ⟨ht k (by omega), ht (k + d) (by omega)⟩
      · rw [e1, e2] at hne
        rintro _ rfl
        have e : su (cS (st 1) d) (k + 1) = su (cS (st 1) d) k + 0 := by rw [su_s]; unfold cS; rw [if_neg hne]
        rw [pu_i, ← e]
        exact ih (k + 1) (by omega)
      · rw [e1, e2] at he
        rintro _ rfl
        have e : su (cS (st 1) d) (k + 1) = su (cS (st 1) d) k + 1 := by rw [su_s]; unfold cS; rw [if_pos he]
        rw [pu_i, ← e]
        exact ih (k + 1) (by omega)
  exact loop (n - d) 0 (by omega)
theorem cS_bd (t : Nat → Int) (d : Nat) (n : Nat) : 0 ≤ su (cS t d) n ∧ su (cS t d) n ≤ n := by
  have := su_bd (f := cS t d) (c := 1) (n := n) (fun i _ => by unfold cS; split <;> omega)
  omega
theorem cS_eq {t u : Nat → Int} {d n : Nat} (h : ∀ i : Nat, i < n → t i = u i) : su (cS t d) (n - d) = su (cS u d) (n - d) :=
  su_cong (fun i hi => by unfold cS; rw [h i (by omega), h (i + d) (by omega)])
theorem po_same : sl_o_same Rel := by
  intro sx sm a hR ha
  have hR0 := hR
  obtain ⟨hp, ⟨⟨⟨t1, t2, t3⟩, t4⟩, d2, d3, d4, d5⟩, h3⟩ := hR
  obtain ⟨n, hn⟩ := pu_nat t2
  rw [hn] at t1 t4
  have t4 : ∀ i : Nat, (i : Int) < n → sx 3 i = sm 1 i ∧ 0 ≤ sm 1 i ∧ sm 1 i < 16 := t4
  by_cases h : a < 1 ∨ 47 < a
  · refine pu_out ha (by decide) (by decide) h ⟨by decide, fun h => absurd h (by decide), fun _ => ?_⟩
    exact pu_mno ha (by decide) (by decide) h ⟨by decide, fun _ => ⟨rfl, by decide, hR0⟩, fun h => absurd rfl h⟩
  obtain ⟨d, rfl⟩ := pu_nat (show 0 ≤ a by omega)
  refine pu_inn ha (by decide) (by decide) (by omega) ⟨by decide, fun _ => ?_, fun h => absurd rfl h⟩
  refine px_same (n := n) (by omega) (by omega) (by omega) (fun i hi => by have := t4 i (by omega); omega) ?_
  refine pu_min ha (by decide) (by decide) (by omega) ⟨by decide, fun h => absurd h (by decide), fun _ => ?_⟩
  refine pm_same (n := n) (by omega) (by omega) (by omega) (fun i hi => by have := t4 i (by omega); omega) ⟨?_, ?_, hR0⟩
  · exact cS_eq (fun i hi => (t4 i (by omega)).1)
  · have := cS_bd (sx 3) d (n - d)
    omega
/-- GOOD of a row -/
def cG (L : Nat → Nat → Int) (t : Nat → Int) : Nat → Int := fun i => L (t i).toNat (t (i + 1)).toNat
def lX (st : sq_S) : Nat → Nat → Int := fun a b => sq_and (sq_shr (st 6 a) b) 1
def lM (st : sq_S) : Nat → Nat → Int := fun a b => st 1 (72 + 16 * a + b)
theorem px_liked_3 {n : Nat} {st : sq_S} {Q : Int → sq_S → Prop} (hn : st 2 1 = n) (h48 : n ≤ 48) (ht : ∀ i : Nat, i < n → 0 ≤ st 3 i ∧ st 3 i < 16) (hq : Q (su (cG (lX st) (st 3)) (n - 1)) st) : wX0_likedIn_3 st Q := by
  intro K hK
  have loop : ∀ (m k : Nat), k + m = n - 1 → K (su (cG (lX st) (st 3)) k) ((k + 1 : Nat) : Int) st := by
    intro m
    induction m with
    | zero =>
      intro k hk
      have e : k = n - 1 := by omega
      subst e
      exact hK _ _ _ ⟨by omega, fun _ => hq, fun h => by omega⟩
    | succ m ih =>
      intro k hk
      have e1 : (((k + 1 : Nat) : Int) - 1).toNat = k := by omega
      have h1 := ht k (by omega)
      have h2 := ht (k + 1) (by omega)
      have e3 : ((st 3 (k + 1)).toNat : Int) = st 3 (k + 1) := by omega
      refine hK _ _ _ ⟨by omega, fun h => by omega, fun _ => ⟨by omega, ?_, by omega, ?_⟩⟩
      · rw [e1]; exact h1
      · rintro _ rfl
        rw [e1, show ((((k + 1 : Nat) : Int)).toNat) = k + 1 from rfl]
        have e : su (cG (lX st) (st 3)) (k + 1) = su (cG (lX st) (st 3)) k + sq_and (sq_shr (st 6 (st 3 k).toNat) (st 3 (k + 1))) 1 := by
          rw [su_s]; unfold cG lX; rw [e3]
        rw [pu_i, ← e]
        exact ih (k + 1) (by omega)
  exact loop (n - 1) 0 (by omega)
theorem px_liked_25 {n : Nat} {st : sq_S} {Q : Int → sq_S → Prop} (hn : st 2 1 = n) (h48 : n ≤ 48) (ht : ∀ i : Nat, i < n → 0 ≤ st 25 i ∧ st 25 i < 16) (hq : Q (su (cG (lX st) (st 25)) (n - 1)) st) : wX0_likedIn_25 st Q := by
  intro K hK
  have loop : ∀ (m k : Nat), k + m = n - 1 → K (su (cG (lX st) (st 25)) k) ((k + 1 : Nat) : Int) st := by
    intro m
    induction m with
    | zero =>
      intro k hk
      have e : k = n - 1 := by omega
      subst e
      exact hK _ _ _ ⟨by omega, fun _ => hq, fun h => by omega⟩
    | succ m ih =>
      intro k hk
      have e1 : (((k + 1 : Nat) : Int) - 1).toNat = k := by omega
      have h1 := ht k (by omega)
      have h2 := ht (k + 1) (by omega)
      have e3 : ((st 25 (k + 1)).toNat : Int) = st 25 (k + 1) := by omega
      refine hK _ _ _ ⟨by omega, fun h => by omega, fun _ => ⟨by omega, ?_, by omega, ?_⟩⟩
      · rw [e1]; exact h1
      · rintro _ rfl
        rw [e1, show ((((k + 1 : Nat) : Int)).toNat) = k + 1 from rfl]
        have e : su (cG (lX st) (st 25)) (k + 1) = su (cG (lX st) (st 25)) k + sq_and (sq_shr (st 6 (st 25 k).toNat) (st 25 (k + 1))) 1 := by
          rw [su_s]; unfold cG lX; rw [e3]
        rw [pu_i, ← e]
        exact ih (k + 1) (by omega)
  exact loop (n - 1) 0 (by omega)
theorem pm_good_5 {n : Nat} {st : sq_S} {Q : Int → sq_S → Prop} (hn : st 1 48 = n) (h48 : n ≤ 48) (ht : ∀ i : Nat, i < n → 0 ≤ st 5 i ∧ st 5 i < 16) (hq : Q (su (cG (lM st) (st 5)) (n - 1)) st) : wX4_goodOf_5 st Q := by
  intro K hK
  have loop : ∀ (m k : Nat), k + m = n - 1 → K (su (cG (lM st) (st 5)) k) (k : Int) st := by
    intro m
    induction m with
    | zero =>
      intro k hk
      have e : k = n - 1 := by omega
      subst e
      exact hK _ _ _ (pu_many ⟨by omega, fun _ => hq, fun h => by omega⟩)
    | succ m ih =>
      intro k hk
      have h1 := ht k (by omega)
      have h2 := ht (k + 1) (by omega)
      refine hK _ _ _ (pu_many ⟨by omega, fun h => by omega, fun _ => ⟨by omega, by omega, ?_, ?_⟩⟩)
      · rw [pu_i, show ((((k + 1 : Nat) : Int)).toNat) = k + 1 from rfl, show (((k : Nat) : Int).toNat) = k from rfl]
        omega
      · rintro _ rfl
        rw [pu_i, show ((((k + 1 : Nat) : Int)).toNat) = k + 1 from rfl, show (((k : Nat) : Int).toNat) = k from rfl]
        have e : su (cG (lM st) (st 5)) (k + 1) = su (cG (lM st) (st 5)) k + st 1 (72 + 16 * st 5 k + st 5 (k + 1)).toNat := by
          rw [su_s]; unfold cG lM; rw [show (72 + 16 * st 5 k + st 5 (k + 1)).toNat = 72 + 16 * (st 5 k).toNat + (st 5 (k + 1)).toNat by omega]
        rw [← e]
        exact ih (k + 1) (by omega)
  exact loop (n - 1) 0 (by omega)
theorem pm_good_6 {n : Nat} {st : sq_S} {Q : Int → sq_S → Prop} (hn : st 1 48 = n) (h48 : n ≤ 48) (ht : ∀ i : Nat, i < n → 0 ≤ st 6 i ∧ st 6 i < 16) (hq : Q (su (cG (lM st) (st 6)) (n - 1)) st) : wX4_goodOf_6 st Q := by
  intro K hK
  have loop : ∀ (m k : Nat), k + m = n - 1 → K (su (cG (lM st) (st 6)) k) (k : Int) st := by
    intro m
    induction m with
    | zero =>
      intro k hk
      have e : k = n - 1 := by omega
      subst e
      exact hK _ _ _ (pu_many ⟨by omega, fun _ => hq, fun h => by omega⟩)
    | succ m ih =>
      intro k hk
      have h1 := ht k (by omega)
      have h2 := ht (k + 1) (by omega)
      refine hK _ _ _ (pu_many ⟨by omega, fun h => by omega, fun _ => ⟨by omega, by omega, ?_, ?_⟩⟩)
      · rw [pu_i, show ((((k + 1 : Nat) : Int)).toNat) = k + 1 from rfl, show (((k : Nat) : Int).toNat) = k from rfl]
        omega
      · rintro _ rfl
        rw [pu_i, show ((((k + 1 : Nat) : Int)).toNat) = k + 1 from rfl, show (((k : Nat) : Int).toNat) = k from rfl]
        have e : su (cG (lM st) (st 6)) (k + 1) = su (cG (lM st) (st 6)) k + st 1 (72 + 16 * st 6 k + st 6 (k + 1)).toNat := by
          rw [su_s]; unfold cG lM; rw [show (72 + 16 * st 6 k + st 6 (k + 1)).toNat = 72 + 16 * (st 6 k).toNat + (st 6 (k + 1)).toNat by omega]
        rw [← e]
        exact ih (k + 1) (by omega)
  exact loop (n - 1) 0 (by omega)
theorem pm_layText {n : Nat} {st : sq_S} {Q : Int → sq_S → Prop} (hn : st 1 48 = n) (h48 : n ≤ 48) (hq : ∀ st' : sq_S, (∀ c : Nat, c ≠ 5 → st' c = st c) → (∀ i : Nat, i < n → st' 5 i = st 1 i) → Q 0 st') : wX4_layText st Q := by
  intro K hK
  have loop : ∀ (m k : Nat) (tm : sq_S), k + m = n → (∀ c : Nat, c ≠ 5 → tm c = st c) → (∀ i : Nat, i < k → tm 5 i = st 1 i) → K (k : Int) tm := by
    intro m
    induction m with
    | zero =>
      intro k tm hk e1 e2
      have e : k = n := by omega
      subst e
      refine hK _ _ (pu_many ?_)
      rw [e1 1 (by decide)]
      exact ⟨by omega, fun _ => hq _ e1 e2, fun h => by omega⟩
    | succ m ih =>
      intro k tm hk e1 e2
      refine hK _ _ (pu_many ?_)
      rw [e1 1 (by decide)]
      refine ⟨by omega, fun h => by omega, fun _ => ⟨by omega, by omega, ?_⟩⟩
      rintro _ rfl
      rw [pu_z, pu_i]
      refine ih (k + 1) _ (by omega) (fun c hc => by rw [pu_sc hc]; exact e1 c hc) (fun i hi => ?_)
      by_cases h2 : i = k
      · subst h2
        rw [show (((i : Nat) : Int).toNat) = i from rfl, pu_ss]
      · rw [show (((k : Nat) : Int).toNat) = k from rfl, pu_sk h2]
        exact e2 i (by omega)
  exact loop n 0 st (by omega) (fun _ _ => rfl) (fun i h => by omega)
theorem lXM {sx : sq_S} {F : Nat → Int} (h : Dl sx 2 F) {a b : Nat} (ha : a < 16) (hb : b < 16) : sq_and (sq_shr (sx 6 a) b) 1 = F (72 + 16 * a + b) ∧ 0 ≤ F (72 + 16 * a + b) ∧ F (72 + 16 * a + b) ≤ 1 := by
  obtain ⟨v, e1, e2, e3⟩ := h a ha
  have e2 : sx 6 a = v := e2
  rw [e2, pb_bit e1 hb, e3 b hb]
  refine ⟨rfl, ?_, ?_⟩ <;> split <;> omega
/-- GOOD is the same on both sides -/
theorem cG_eq {sx sm : sq_S} (h : Dl sx 2 (sm 1)) {t u : Nat → Int} {n : Nat} (ht : ∀ i : Nat, i < n → t i = u i ∧ 0 ≤ u i ∧ u i < 16) : su (cG (lX sx) t) (n - 1) = su (cG (lM sm) u) (n - 1) ∧ 0 ≤ su (cG (lM sm) u) (n - 1) ∧ su (cG (lM sm) u) (n - 1) ≤ n := by
  have hh : ∀ i : Nat, i < n - 1 → cG (lX sx) t i = cG (lM sm) u i ∧ 0 ≤ cG (lM sm) u i ∧ cG (lM sm) u i ≤ 1 := by
    intro i hi
    have h1 := ht i (by omega)
    have h2 := ht (i + 1) (by omega)
    unfold cG lX lM
    rw [h1.1, h2.1]
    exact lXM h (by omega) (by omega)
  refine ⟨su_cong (fun i hi => (hh i hi).1), ?_⟩
  have := su_bd (f := cG (lM sm) u) (c := 1) (n := n - 1) (fun i hi => (hh i hi).2)
  omega
theorem po_good : sl_o_good Rel := by
  intro sx sm hR
  have hR0 := hR
  obtain ⟨hp, ⟨⟨⟨t1, t2, t3⟩, t4⟩, d2, d3, d4, d5⟩, h3⟩ := hR
  obtain ⟨n, hn⟩ := pu_nat t2
  rw [hn] at t1 t4
  have t4 : ∀ i : Nat, (i : Int) < n → sx 3 i = sm 1 i ∧ 0 ≤ sm 1 i ∧ sm 1 i < 16 := t4
  refine px_liked_3 (n := n) t1 (by omega) (fun i hi => by have := t4 i (by omega); omega) ?_
  refine pm_layText (n := n) hn (by omega) (fun sm' e1 e2 => ?_)
  refine pm_good_5 (n := n) (by rw [e1 1 (by decide)]; exact hn) (by omega) (fun i hi => by rw [e2 i hi]; have := t4 i (by omega); omega) ?_
  have hl : Dl sx 2 (sm' 1) := by rw [e1 1 (by decide)]; exact d4
  have := cG_eq hl (t := sx 3) (u := sm' 5) (n := n) (fun i hi => by rw [e2 i hi]; exact t4 i (by omega))
  refine ⟨this.1, by omega, hR0.scr (fun _ _ => rfl) (fun c hc => ⟨fun _ => by rw [e1 0 (by decide)], fun _ => e1 c (by omega)⟩)⟩
