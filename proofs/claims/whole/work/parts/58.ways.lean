/-! pure part: by shift and word; apart -/
theorem md_step {kl i : Nat} (h1 : 1 ≤ kl) (h6 : kl ≤ 6) : (i % kl + 1 < kl → (i + 1) % kl = i % kl + 1) ∧ (kl ≤ i % kl + 1 → (i + 1) % kl = 0) ∧ i % kl < kl := by
  rcases (show kl = 1 ∨ kl = 2 ∨ kl = 3 ∨ kl = 4 ∨ kl = 5 ∨ kl = 6 by omega) with e | e | e | e | e | e <;> subst e <;> omega
/-- by shift, by word: by_ is 1 or -1 -/
def adR (by_ : Int) (key : Nat → Nat) (kl : Nat) (t : Nat → Int) : Nat → Int := fun i => (t i + by_ * (key (i % kl) : Int)) % 16
theorem px_addKey {v by_ : Int} {n kl : Nat} {key : Nat → Nat} {st : sq_S} {Q : Int → sq_S → Prop} (hv : (v = 0 ∧ by_ = -1) ∨ (v = 1 ∧ by_ = 1)) (hn : st 2 1 = n) (h48 : n ≤ 48) (h1 : 1 ≤ kl) (h6 : kl ≤ 6) (hkey : ∀ i : Nat, i < kl → st 4 i = key i ∧ key i < 16) (hq : ∀ st' : sq_S, (∀ c : Nat, c ≠ 25 → st' c = st c) → (∀ i : Nat, i < n → st' 25 i = adR by_ key kl (st 3) i) → Q 0 st') : wX2_addKey kl v st Q := by
  intro K K2 hK hK2
  have loop : ∀ (m i : Nat) (tm : sq_S), i + m = n → (∀ c : Nat, c ≠ 25 → tm c = st c) → (∀ j : Nat, j < i → tm 25 j = adR by_ key kl (st 3) j) → K kl v ((i % kl : Nat) : Int) (i : Int) tm := by
    intro m
    induction m with
    | zero =>
      intro i tm hi e1 e2
      have e : i = n := by omega
      subst e
      refine hK _ _ _ _ _ ?_
      unfold bX2_addKey_6
      rw [e1 2 (by decide), hn]
      exact ⟨by omega, fun _ => hq _ e1 e2, fun h => by omega⟩
    | succ m ih =>
      intro i tm hi e1 e2
      obtain ⟨s1, s2, s3⟩ := md_step (i := i) h1 h6
      have go : ∀ x : Int, x = by_ * (key (i % kl) : Int) → K2 kl v ((i % kl : Nat) : Int) (i : Int) x tm := by
        intro x hx
        refine hK2 _ _ _ _ _ _ ⟨by omega, by omega, ?_⟩
        rw [show (((i : Nat) : Int).toNat) = i from rfl, e1 3 (by decide), pb_and15, hx]
        rintro _ rfl
        have step : K kl v (((i + 1) % kl : Nat) : Int) ((i + 1 : Nat) : Int) (sq_set tm 25 i ((st 3 i + by_ * (key (i % kl) : Int)) % 16)) := by
          refine ih (i + 1) _ (by omega) (fun c hc => by rw [pu_sc hc]; exact e1 c hc) (fun j hj => ?_)
          by_cases e : j = i
          · subst e
            rw [pu_ss]
            rfl
          · rw [pu_sk e]
            exact e2 j (by omega)
        refine ⟨by omega, fun h => ?_, fun h => ?_⟩
        · rw [s2 (by omega)] at step
          rw [pu_i]
          exact step
        · rintro _ rfl
          rw [s1 (by omega)] at step
          rw [pu_i, pu_i]
          exact step
      refine hK _ _ _ _ _ ?_
      unfold bX2_addKey_6
      rw [e1 2 (by decide), hn, e1 4 (by decide), show (((i % kl : Nat) : Int).toNat) = i % kl from rfl, (hkey _ s3).1]
      refine ⟨by omega, fun h => by omega, fun _ => ⟨by omega, fun h => ⟨by omega, go _ ?_⟩, fun h => ⟨by omega, go _ ?_⟩⟩⟩
      · rw [show by_ = -1 by omega]; omega
      · rw [show by_ = 1 by omega]; omega
  have := loop n 0 st (by omega) (fun _ _ => rfl) (fun j h => by omega)
  rw [Nat.zero_mod] at this
  exact this
theorem pm_shiftAll {wd by_ : Int} {n k kl : Nat} {key : Nat → Nat} {st : sq_S} {Q : Int → sq_S → Prop} (hby : by_ = 1 ∨ by_ = -1) (hw : (wd = 0 ∧ kl = 1) ∨ (wd = 1 ∧ kl = k)) (hn : st 1 48 = n) (h48 : n ≤ 48) (hk1 : st 1 55 = k) (h1 : 1 ≤ k) (h6 : k ≤ 6) (hkey : ∀ i : Nat, i < k → st 1 (49 + i) = key i ∧ key i < 16) (ht : ∀ i : Nat, i < n → 0 ≤ st 5 i ∧ st 5 i < 16) (hq : ∀ st' : sq_S, (∀ c : Nat, c ≠ 6 → st' c = st c) → (∀ i : Nat, i < n → st' 6 i = adR by_ key kl (st 5) i) → Q 0 st') : wX4_shiftAll by_ wd st Q := by
  intro K K2 hK hK2
  have loop : ∀ (m i : Nat) (tm : sq_S), i + m = n → (∀ c : Nat, c ≠ 6 → tm c = st c) → (∀ j : Nat, j < i → tm 6 j = adR by_ key kl (st 5) j) → K by_ wd (i : Int) tm := by
    intro m
    induction m with
    | zero =>
      intro i tm hi e1 e2
      have e : i = n := by omega
      subst e
      refine hK _ _ _ _ (pu_many ?_)
      rw [e1 1 (by decide), hn]
      exact ⟨by omega, fun _ => hq _ e1 e2, fun h => by omega⟩
    | succ m ih =>
      intro i tm hi e1 e2
      have hti := ht i (by omega)
      have hkl : 1 ≤ kl ∧ kl ≤ k := by omega
      have hmod : i % kl < kl := Nat.mod_lt _ (by omega)
      have hky := hkey (i % kl) (by omega)
      have go : ∀ x : Int, x = ((i % kl : Nat) : Int) → K2 by_ wd (i : Int) x 49 tm := by
        intro x hx
        refine hK2 _ _ _ _ _ _ ?_
        unfold bX4_shiftAll_33
        rw [hx, e1 1 (by decide), e1 5 (by decide), show (49 + ((i % kl : Nat) : Int)).toNat = 49 + i % kl by omega, hky.1, show (((i : Nat) : Int).toNat) = i from rfl]
        refine ⟨by omega, ?_⟩
        rintro _ rfl
        have hpr : -15 ≤ by_ * (key (i % kl) : Int) ∧ by_ * (key (i % kl) : Int) ≤ 15 := by
          rcases hby with q | q <;> rw [q] <;> omega
        refine ⟨by omega, by omega, by omega, ?_⟩
        rintro _ rfl
        rw [pu_i]
        refine ih (i + 1) _ (by omega) (fun c hc => by rw [pu_sc hc]; exact e1 c hc) (fun j hj => ?_)
        by_cases e : j = i
        · subst e
          rw [pu_ss]
          unfold adR
          omega
        · rw [pu_sk e]
          exact e2 j (by omega)
      refine hK _ _ _ _ (pu_many ?_)
      rw [e1 1 (by decide), hn, hk1]
      refine ⟨by omega, fun h => by omega, fun _ => ⟨by omega, fun h => go 0 ?_, fun h => ⟨by decide, by omega, go _ ?_⟩⟩⟩
      · have e : kl = 1 := by omega
        subst e
        omega
      · have e : kl = k := by omega
        rw [e, Int.natCast_emod]
  exact loop n 0 st (by omega) (fun _ _ => rfl) (fun j h => by omega)
-- apart
def lnV (v : Int) (inv : Nat → Nat) (t : Nat → Int) (n x : Nat) : Nat := if v = 0 then (if x % 2 = 0 then inv (t (x / 2)).toNat / 4 else inv (t (x / 2)).toNat % 4) else (if x < n then inv (t x).toNat / 4 else inv (t (x - n)).toNat % 4)
def apR (v : Int) (S inv : Nat → Nat) (t : Nat → Int) (n i : Nat) : Int := ((S (if v = 0 then 4 * lnV v inv t n i + lnV v inv t n (n + i) else 4 * lnV v inv t n (2 * i) + lnV v inv t n (2 * i + 1)) : Nat) : Int)
theorem lnV_le {v : Int} {S inv : Nat → Nat} {t : Nat → Int} {n x : Nat} (hp : PmI S inv) (ht : ∀ i : Nat, i < n → 0 ≤ t i ∧ t i < 16) (hx : x < 2 * n) : lnV v inv t n x ≤ 3 := by
  have hb : ∀ i : Nat, i < n → inv (t i).toNat < 16 := fun i hi => (hp.2 _ (by have := ht i hi; omega)).1
  unfold lnV
  split
  · have := hb (x / 2) (by omega)
    split <;> omega
  · split
    · have := hb x (by omega)
      omega
    · have := hb (x - n) (by omega)
      omega
theorem px_rowOf {a : Nat} {S : Nat → Nat} {st : sq_S} {Q : Int → sq_S → Prop} (hS : SqX st S) (hp : Pm S) (ha : a < 16) (hq : Q ((a / 4 : Nat) : Int) st) : wX1_rowOf (S a) st Q := by
  have := hp.1 a ha
  refine ⟨by omega, ?_⟩
  rw [show (((S a : Nat) : Int).toNat) = S a from rfl, (hS a ha).2, show (2 : Int) = ((2 : Nat) : Int) from rfl, pb_shr (by omega) (by decide)]
  exact hq
theorem px_columnOf {a : Nat} {S : Nat → Nat} {st : sq_S} {Q : Int → sq_S → Prop} (hS : SqX st S) (hp : Pm S) (ha : a < 16) (hq : Q ((a % 4 : Nat) : Int) st) : wX1_columnOf (S a) st Q := by
  have := hp.1 a ha
  refine ⟨by omega, ?_⟩
  rw [show (((S a : Nat) : Int).toNat) = S a from rfl, (hS a ha).2, pb_and3]
  exact hq
theorem px_takeApart {v : Int} {n : Nat} {S inv : Nat → Nat} {st : sq_S} {Q : Int → sq_S → Prop} (hv : v = 0 ∨ v = 1) (hn : st 2 1 = n) (h48 : n ≤ 48) (hS : SqX st S) (hp : PmI S inv) (ht : ∀ i : Nat, i < n → 0 ≤ st 3 i ∧ st 3 i < 16) (hq : ∀ st' : sq_S, (∀ c : Nat, c ≠ 25 → c ≠ 31 → st' c = st c) → (∀ i : Nat, i < n → st' 25 i = apR v S inv (st 3) n i) → Q 0 st') : wX2_takeApart v st Q := by
  intro K K2 K3 hK hK2 hK3
  rintro _ rfl
  rw [hn]
  have hle : ∀ x : Nat, x < 2 * n → lnV v inv (st 3) n x ≤ 3 := fun x hx => lnV_le hp ht hx
  have l2 : ∀ (m i : Nat) (tm : sq_S), i + m = n → (∀ c : Nat, c ≠ 25 → c ≠ 31 → tm c = st c) → (∀ x : Nat, x < 2 * n → tm 31 x = lnV v inv (st 3) n x) → (∀ j : Nat, j < i → tm 25 j = apR v S inv (st 3) n j) → K2 v n (i : Int) tm := by
    intro m
    induction m with
    | zero =>
      intro i tm hi e1 e2 e3
      have e : i = n := by omega
      subst e
      exact hK2 _ _ _ _ ⟨by omega, fun _ => hq _ e1 e3, fun h => by omega⟩
    | succ m ih =>
      intro i tm hi e1 e2 e3
      have hS1 : ∀ j : Nat, j < 16 → tm 27 j = S j := fun j hj => by rw [e1 27 (by decide) (by decide)]; exact (hS j hj).1
      have fin : ∀ x y : Nat, x < 2 * n → y < 2 * n → apR v S inv (st 3) n i = ((S (4 * lnV v inv (st 3) n x + lnV v inv (st 3) n y) : Nat) : Int) → wX1_at (tm 31 x) (tm 31 y) tm (fun r139 st140 => sq_ib (i : Int) 48 ∧ (∀ st141 : sq_S, st141 = sq_set st140 25 ((i : Int)).toNat r139 → (K2 v n ((i : Int) + 1) st141))) := by
        intro x y hx hy he
        have a1 := hle x hx
        have a2 := hle y hy
        refine px_at ⟨by omega, ?_⟩
        rintro _ rfl
        rw [e2 x hx, e2 y hy, show (4 * ((lnV v inv (st 3) n x : Int) % 4) + (lnV v inv (st 3) n y : Int) % 4).toNat = 4 * lnV v inv (st 3) n x + lnV v inv (st 3) n y by omega, hS1 _ (by omega), ← he, pu_i, show (((i : Nat) : Int).toNat) = i from rfl]
        refine ih (i + 1) _ (by omega) (fun c h1 h2 => by rw [pu_sc h1]; exact e1 c h1 h2) (fun z hz => by rw [pu_sc (by decide)]; exact e2 z hz) (fun j hj => ?_)
        by_cases e : j = i
        · subst e
          rw [pu_ss]
        · rw [pu_sk e]
          exact e3 j (by omega)
      refine hK2 _ _ _ _ ⟨by omega, fun h => by omega, fun _ => ⟨by omega, fun hv1 => ?_, fun hv0 => ?_⟩⟩
      · refine hK3 _ _ _ _ _ _ _ ⟨by decide, fun _ => ⟨by omega, by omega, fun _ => ⟨by decide, fun _ => ⟨by omega, ?_⟩, fun h => absurd rfl h⟩, fun h => absurd h hv1⟩, fun h => absurd rfl h⟩
        rw [show (2 * (i : Int)).toNat = 2 * i by omega, show (2 * (i : Int) + 1).toNat = 2 * i + 1 by omega]
        exact fin (2 * i) (2 * i + 1) (by omega) (by omega) (by unfold apR; rw [if_neg hv1])
      · refine hK3 _ _ _ _ _ _ _ ⟨by decide, fun h => absurd h (by decide), fun _ => ⟨by omega, by omega, fun h => absurd hv0 h, fun _ => ⟨by decide, fun h => absurd h (by decide), fun _ => ⟨by omega, ?_⟩⟩⟩⟩
        rw [show ((i : Int)).toNat = i from rfl, show ((n : Int) + (i : Int)).toNat = n + i by omega]
        exact fin i (n + i) (by omega) (by omega) (by unfold apR; rw [if_pos hv0])
  have l1 : ∀ (m i : Nat) (tm : sq_S), i + m = n → (∀ c : Nat, c ≠ 31 → tm c = st c) → (∀ x : Nat, (v = 0 → x < 2 * i) → (¬ v = 0 → x < i ∨ (n ≤ x ∧ x < n + i)) → tm 31 x = lnV v inv (st 3) n x) → K v n (i : Int) tm := by
    intro m
    induction m with
    | zero =>
      intro i tm hi e1 e2
      have e : i = n := by omega
      subst e
      exact hK _ _ _ _ ⟨by omega, fun _ => l2 i 0 tm (by omega) (fun c h1 h2 => e1 c h2) (fun x hx => e2 x (fun _ => by omega) (fun _ => by omega)) (fun j h => by omega), fun h => by omega⟩
    | succ m ih =>
      intro i tm hi e1 e2
      have hti := ht i (by omega)
      obtain ⟨a1, a2⟩ := hp.2 (st 3 i).toNat (by omega)
      have ea : st 3 i = ((S (inv (st 3 i).toNat) : Nat) : Int) := by omega
      have hS1 : SqX tm S := fun j hj => by rw [e1 27 (by decide), e1 28 (by decide)]; exact hS j hj
      -- both places
      have go : ∀ x y : Nat, x < 96 → y < 96 → x ≠ y → (v = 0 → x = 2 * i ∧ y = 2 * i + 1) → (¬ v = 0 → x = i ∧ y = n + i) → K v n ((i : Int) + 1) (sq_set (sq_set tm 31 x ((inv (st 3 i).toNat / 4 : Nat) : Int)) 31 y ((inv (st 3 i).toNat % 4 : Nat) : Int)) := by
        intro x y hx hy hxy h0 h1
        rw [pu_i]
        refine ih (i + 1) _ (by omega) (fun c hc => by rw [pu_sc hc, pu_sc hc]; exact e1 c hc) (fun z hz0 hz1 => ?_)
        by_cases ey : z = y
        · subst ey
          rw [pu_ss]
          unfold lnV
          by_cases hv0 : v = 0
          · obtain ⟨q1, q2⟩ := h0 hv0
            rw [if_pos hv0, if_neg (by omega), show z / 2 = i by omega]
          · obtain ⟨q1, q2⟩ := h1 hv0
            rw [if_neg hv0, if_neg (by omega), show z - n = i by omega]
        · rw [pu_sk ey]
          by_cases ex : z = x
          · subst ex
            rw [pu_ss]
            unfold lnV
            by_cases hv0 : v = 0
            · obtain ⟨q1, q2⟩ := h0 hv0
              rw [if_pos hv0, if_pos (by omega), show z / 2 = i by omega]
            · obtain ⟨q1, q2⟩ := h1 hv0
              rw [if_neg hv0, if_pos (by omega), q1]
          · rw [pu_sk ex]
            exact e2 z (fun hv0 => by have := h0 hv0; have := hz0 hv0; omega) (fun hv0 => by have := h1 hv0; have := hz1 hv0; omega)
      have body : ∀ x y : Nat, x < 96 → y < 96 → x ≠ y → (v = 0 → x = 2 * i ∧ y = 2 * i + 1) → (¬ v = 0 → x = i ∧ y = n + i) → ∀ yy : Int, yy = y → (sq_ib (i : Int) 48 ∧ (wX1_rowOf (tm 3 ((i : Int)).toNat) tm (fun r127 st128 => sq_ib (x : Int) 96 ∧ (∀ st129 : sq_S, st129 = sq_set st128 31 ((x : Int)).toNat r127 → (wX2_columnPlace (i : Int) n v st129 (fun r130 st131 => sq_ib (i : Int) 48 ∧ (wX1_columnOf (st131 3 ((i : Int)).toNat) st131 (fun r132 st133 => sq_ib r130 96 ∧ (∀ st134 : sq_S, st134 = sq_set st133 31 r130.toNat r132 → (K v n ((i : Int) + 1) st134)))))))))) := by
        intro x y hx hy hxy h0 h1 yy hyy
        refine ⟨by omega, ?_⟩
        rw [show (((i : Nat) : Int).toNat) = i from rfl, e1 3 (by decide), ea]
        refine px_rowOf hS1 hp.1 a1 ⟨by omega, ?_⟩
        rintro _ rfl
        have cont : ∀ r130 : Int, r130 = y → (sq_ib (i : Int) 48 ∧ (wX1_columnOf ((sq_set tm 31 ((x : Int)).toNat ((inv (st 3 i).toNat / 4 : Nat) : Int)) 3 i) (sq_set tm 31 ((x : Int)).toNat ((inv (st 3 i).toNat / 4 : Nat) : Int)) (fun r132 st133 => sq_ib r130 96 ∧ (∀ st134 : sq_S, st134 = sq_set st133 31 r130.toNat r132 → (K v n ((i : Int) + 1) st134))))) := by
          intro r130 hr
          refine ⟨by omega, ?_⟩
          rw [pu_sc (show (3 : Nat) ≠ 31 by decide), e1 3 (by decide), ea]
          refine px_columnOf (fun j hj => by rw [pu_sc (by decide), pu_sc (by decide)]; exact hS1 j hj) hp.1 a1 ⟨by omega, ?_⟩
          rintro _ rfl
          rw [hr]
          have := go x y hx hy hxy h0 h1
          rw [← ea]
          exact this
        refine ⟨by omega, fun hv0 => ?_, fun hv0 => ?_⟩
        · have q := h0 hv0
          have := cont (2 * (i : Int) + 1) (by omega)
          exact this
        · have q := h1 hv0
          have := cont ((n : Int) + (i : Int)) (by omega)
          exact this
      refine hK _ _ _ _ ⟨by omega, fun h => by omega, fun _ => ⟨by omega, fun hv0 => ?_, fun hv0 => ?_⟩⟩
      · have := body (2 * i) (2 * i + 1) (by omega) (by omega) (by omega) (fun _ => ⟨rfl, rfl⟩) (fun h => absurd hv0 h) _ rfl
        rw [show ((2 * i : Nat) : Int) = 2 * (i : Int) by omega] at this
        exact this
      · exact body i (n + i) (by omega) (by omega) (by omega) (fun h => absurd h hv0) (fun _ => ⟨rfl, rfl⟩) _ rfl
  exact l1 n 0 st (by omega) (fun _ _ => rfl) (fun x h0 h1 => by
    by_cases hv0 : v = 0
    · have := h0 hv0; omega
    · have := h1 hv0; omega)
