/-! pure part: apart, the reference -/
theorem pm_apart {v by_ : Int} {n : Nat} {S inv : Nat → Nat} {st : sq_S} {Q : Int → sq_S → Prop} (hv : (v = 0 ∧ by_ = -1) ∨ (v = 1 ∧ by_ = 1)) (hn : st 1 48 = n) (h48 : n ≤ 48) (hS : SqM st S) (hp : PmI S inv) (ht : ∀ i : Nat, i < n → 0 ≤ st 5 i ∧ st 5 i < 16) (hq : ∀ st' : sq_S, (∀ c : Nat, c ≠ 6 → c ≠ 10 → st' c = st c) → (∀ i : Nat, i < n → st' 6 i = apR v S inv (st 5) n i) → Q 0 st') : wX4_apart by_ st Q := by
  intro K K2 K3 hK hK2 hK3
  refine pu_many ?_
  rw [hn]
  have hle : ∀ x : Nat, x < 2 * n → lnV v inv (st 5) n x ≤ 3 := fun x hx => lnV_le hp ht hx
  have l2 : ∀ (m i : Nat) (tm : sq_S), i + m = n → (∀ c : Nat, c ≠ 6 → c ≠ 10 → tm c = st c) → (∀ x : Nat, x < 2 * n → tm 10 x = lnV v inv (st 5) n x) → (∀ j : Nat, j < i → tm 6 j = apR v S inv (st 5) n j) → K3 by_ n (i : Int) tm := by
    intro m
    induction m with
    | zero =>
      intro i tm hi e1 e2 e3
      have e : i = n := by omega
      subst e
      exact hK3 _ _ _ _ ⟨by omega, fun _ => hq _ e1 e3, fun h => by omega⟩
    | succ m ih =>
      intro i tm hi e1 e2 e3
      have hS1 : ∀ j : Nat, j < 16 → tm 7 j = S j := fun j hj => by rw [e1 7 (by decide) (by decide)]; exact hS j hj
      have fin : ∀ x y : Nat, x < 2 * n → y < 2 * n → apR v S inv (st 5) n i = ((S (4 * lnV v inv (st 5) n x + lnV v inv (st 5) n y) : Nat) : Int) → sq_ib ((4 * (tm 10 x)) + (tm 10 y)) 16 ∧ (sq_ib (i : Int) 48 ∧ (∀ st417 : sq_S, st417 = sq_set tm 6 ((i : Int)).toNat (tm 7 (((4 * (tm 10 x)) + (tm 10 y))).toNat) → (K3 by_ n ((i : Int) + 1) st417))) := by
        intro x y hx hy he
        have a1 := hle x hx
        have a2 := hle y hy
        rw [e2 x hx, e2 y hy]
        refine ⟨by omega, by omega, ?_⟩
        rintro _ rfl
        rw [show (4 * (lnV v inv (st 5) n x : Int) + (lnV v inv (st 5) n y : Int)).toNat = 4 * lnV v inv (st 5) n x + lnV v inv (st 5) n y by omega, hS1 _ (by omega), ← he, pu_i, show (((i : Nat) : Int).toNat) = i from rfl]
        refine ih (i + 1) _ (by omega) (fun c h1 h2 => by rw [pu_sc h1]; exact e1 c h1 h2) (fun z hz => by rw [pu_sc (by decide)]; exact e2 z hz) (fun j hj => ?_)
        by_cases e : j = i
        · subst e
          rw [pu_ss]
        · rw [pu_sk e]
          exact e3 j (by omega)
      refine hK3 _ _ _ _ ⟨by omega, fun h => by omega, fun _ => ⟨by omega, fun hb0 => ⟨by omega, by omega, ?_⟩, fun hb1 => ⟨by omega, by omega, ?_⟩⟩⟩
      · have hv0 : v = 0 := by omega
        rw [show ((n : Int) + (i : Int)).toNat = n + i by omega]
        exact fin i (n + i) (by omega) (by omega) (by unfold apR; rw [if_pos hv0])
      · have hv1 : ¬ v = 0 := by omega
        rw [show (2 * (i : Int)).toNat = 2 * i by omega, show (2 * (i : Int) + 1).toNat = 2 * i + 1 by omega]
        exact fin (2 * i) (2 * i + 1) (by omega) (by omega) (by unfold apR; rw [if_neg hv1])
  have l1 : ∀ (m i : Nat) (tm : sq_S), i + m = n → (∀ c : Nat, c ≠ 10 → tm c = st c) → (∀ x : Nat, (v = 0 → x < 2 * i) → (¬ v = 0 → x < i ∨ (n ≤ x ∧ x < n + i)) → tm 10 x = lnV v inv (st 5) n x) → K by_ n (i : Int) tm := by
    intro m
    induction m with
    | zero =>
      intro i tm hi e1 e2
      have e : i = n := by omega
      subst e
      exact hK _ _ _ _ ⟨by omega, fun _ => l2 i 0 tm (by omega) (fun c h1 h2 => e1 c h2) (fun x hx => e2 x (fun _ => by omega) (fun _ => by omega)) (fun j h => by omega), fun h => by omega⟩
    | succ m ih =>
      intro i tm hi e1 e2
      have hti := ht i (by omega)
      obtain ⟨a1, a2⟩ := hp.2 (st 5 i).toNat (by omega)
      have ea : st 5 i = ((S (inv (st 5 i).toNat) : Nat) : Int) := by omega
      have hS1 : SqM tm S := fun j hj => by rw [e1 7 (by decide)]; exact hS j hj
      have go : ∀ x y : Nat, x < 96 → y < 96 → x ≠ y → (v = 0 → x = 2 * i ∧ y = 2 * i + 1) → (¬ v = 0 → x = i ∧ y = n + i) → K by_ n ((i : Int) + 1) (sq_set (sq_set tm 10 x ((inv (st 5 i).toNat : Int) / 4)) 10 y ((inv (st 5 i).toNat : Int) % 4)) := by
        intro x y hx hy hxy h0 h1
        rw [pu_i]
        refine ih (i + 1) _ (by omega) (fun c hc => by rw [pu_sc hc, pu_sc hc]; exact e1 c hc) (fun z hz0 hz1 => ?_)
        by_cases ey : z = y
        · subst ey
          rw [pu_ss]
          unfold lnV
          by_cases hv0 : v = 0
          · obtain ⟨q1, q2⟩ := h0 hv0
            rw [if_pos hv0, if_neg (by omega), show z / 2 = i by omega]
            omega
          · obtain ⟨q1, q2⟩ := h1 hv0
            rw [if_neg hv0, if_neg (by omega), show z - n = i by omega]
            omega
        · rw [pu_sk ey]
          by_cases ex : z = x
          · subst ex
            rw [pu_ss]
            unfold lnV
            by_cases hv0 : v = 0
            · obtain ⟨q1, q2⟩ := h0 hv0
              rw [if_pos hv0, if_pos (by omega), show z / 2 = i by omega]
              omega
            · obtain ⟨q1, q2⟩ := h1 hv0
              rw [if_neg hv0, if_pos (by omega), q1]
              omega
          · rw [pu_sk ex]
            exact e2 z (fun hv0 => by have := h0 hv0; have := hz0 hv0; omega) (fun hv0 => by have := h1 hv0; have := hz1 hv0; omega)
      refine hK _ _ _ _ ⟨by omega, fun h => by omega, fun _ => ⟨by omega, ?_⟩⟩
      rw [show (((i : Nat) : Int).toNat) = i from rfl, e1 5 (by decide), ea]
      refine pm_placeOf hS1 hp.1 a1 ⟨by omega, fun hb0 => ?_, fun hb1 => ?_⟩
      · have hv0 : v = 0 := by omega
        refine hK2 _ _ _ _ _ _ ⟨by omega, by omega, ?_⟩
        rintro _ rfl
        refine ⟨by omega, fun _ => ⟨by omega, by omega, ?_⟩, fun h => by omega⟩
        rintro _ rfl
        rw [show (2 * (i : Int)).toNat = 2 * i by omega, show (2 * (i : Int) + 1).toNat = 2 * i + 1 by omega]
        exact go (2 * i) (2 * i + 1) (by omega) (by omega) (by omega) (fun _ => ⟨rfl, rfl⟩) (fun h => absurd hv0 h)
      · have hv1 : ¬ v = 0 := by omega
        refine hK2 _ _ _ _ _ _ ⟨by omega, by omega, ?_⟩
        rintro _ rfl
        refine ⟨by omega, fun h => by omega, fun _ => ⟨by omega, by omega, ?_⟩⟩
        rintro _ rfl
        rw [show ((i : Int)).toNat = i from rfl, show ((n : Int) + (i : Int)).toNat = n + i by omega]
        exact go i (n + i) (by omega) (by omega) (by omega) (fun h => absurd h hv1) (fun _ => ⟨rfl, rfl⟩)
  exact l1 n 0 st (by omega) (fun _ _ => rfl) (fun x h0 h1 => by
    by_cases hv0 : v = 0
    · have := h0 hv0; omega
    · have := h1 hv0; omega)
theorem apR_bd {v : Int} {S inv : Nat → Nat} {t : Nat → Int} {n i : Nat} (hp : PmI S inv) (ht : ∀ i : Nat, i < n → 0 ≤ t i ∧ t i < 16) (hi : i < n) : 0 ≤ apR v S inv t n i ∧ apR v S inv t n i < 16 := by
  have a1 := lnV_le (v := v) hp ht (show i < 2 * n by omega)
  have a2 := lnV_le (v := v) hp ht (show n + i < 2 * n by omega)
  have a3 := lnV_le (v := v) hp ht (show 2 * i < 2 * n by omega)
  have a4 := lnV_le (v := v) hp ht (show 2 * i + 1 < 2 * n by omega)
  unfold apR
  have := hp.1.1 (if v = 0 then 4 * lnV v inv t n i + lnV v inv t n (n + i) else 4 * lnV v inv t n (2 * i) + lnV v inv t n (2 * i + 1)) (by split <;> omega)
  omega
theorem lnV_cong {v : Int} {inv : Nat → Nat} {t u : Nat → Int} {n x : Nat} (h : ∀ i : Nat, i < n → t i = u i) (hx : x < 2 * n) : lnV v inv t n x = lnV v inv u n x := by
  unfold lnV
  by_cases hv : v = 0
  · rw [if_pos hv, if_pos hv, h (x / 2) (by omega)]
  · rw [if_neg hv, if_neg hv]
    by_cases hxn : x < n
    · rw [if_pos hxn, if_pos hxn, h x hxn]
    · rw [if_neg hxn, if_neg hxn, h (x - n) (by omega)]
theorem apR_cong {v : Int} {S inv : Nat → Nat} {t u : Nat → Int} {n i : Nat} (h : ∀ i : Nat, i < n → t i = u i) (hi : i < n) : apR v S inv t n i = apR v S inv u n i := by
  unfold apR
  rw [lnV_cong h (show i < 2 * n by omega), lnV_cong h (show n + i < 2 * n by omega), lnV_cong h (show 2 * i < 2 * n by omega), lnV_cong h (show 2 * i + 1 < 2 * n by omega)]
