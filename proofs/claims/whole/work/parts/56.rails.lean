/-! pure part: the order of columns by the key; rails -/
theorem posw_inj {cls : Nat → Nat} {N p q : Nat} (hp : p < N) (hq : q < N) (e2 : posw cls N p = posw cls N q) : p = q := by
  unfold posw at e2
  by_cases hcl : cls p = cls q
  · rw [hcl] at e2
    have e3 : ctw cls (cls q) p = ctw cls (cls q) q := by omega
    exact fb_ct_kth_one (p := fun x => cls x == cls q) (by simp [hcl]) (by simp) e3
  · rcases Nat.lt_or_ge (cls p) (cls q) with h1 | h1
    · have a1 := ctw_lt (cls := cls) hp rfl
      have a2 := offw_le cls N (show cls p + 1 ≤ cls q from h1)
      rw [offw_s] at a2
      omega
    · have a1 := ctw_lt (cls := cls) hq rfl
      have a2 := offw_le cls N (show cls q + 1 ≤ cls p by omega)
      rw [offw_s] at a2
      omega
theorem ctw_no {cls : Nat → Nat} {w i : Nat} (h : cls i ≠ w) : ctw cls w (i + 1) = ctw cls w i := by rw [ctw_s, if_neg h, Nat.add_zero]
theorem ctw_yes {cls : Nat → Nat} {w i : Nat} (h : cls i = w) : ctw cls w (i + 1) = ctw cls w i + 1 := by rw [ctw_s, if_pos h]
theorem ctw_0 (cls : Nat → Nat) (w : Nat) : ctw cls w 0 = 0 := rfl
theorem px_orderByKey {k : Nat} {key : Nat → Nat} {st : sq_S} {Q : Int → sq_S → Prop} (hk1 : st 2 3 = k) (hk : k ≤ 6) (hkey : ∀ i : Nat, i < k → st 4 i = key i ∧ key i < 16) (hq : ∀ st' : sq_S, (∀ c : Nat, c ≠ 29 → st' c = st c) → Flw key k (st' 29) → Q 0 st') : wX2_orderByKey st Q := by
  intro K K2 hK hK2
  have hw : ∀ q, q < k → key q < 16 := fun q h => (hkey q h).2
  have inner : ∀ (w : Nat), w < 16 → (∀ tm : sq_S, (∀ c : Nat, c ≠ 29 → tm c = st c) → Flp key k (w + 1) 0 (tm 29) → K (offw key k (w + 1) : Nat) ((w + 1 : Nat) : Int) tm) → ∀ (m i : Nat) (tm : sq_S), i + m = k → (∀ c : Nat, c ≠ 29 → tm c = st c) → Flp key k w i (tm 29) → K2 ((offw key k w + ctw key w i : Nat) : Int) (w : Int) (i : Int) tm := by
    intro w hw16 next m
    induction m with
    | zero =>
      intro i tm hi e1 e2
      have e : i = k := by omega
      subst e
      refine hK2 _ _ _ _ ?_
      unfold bX2_orderByKey_13
      rw [e1 2 (by decide), hk1]
      refine ⟨by omega, fun _ => ?_, fun h => by omega⟩
      rw [pu_i, ← offw_s]
      exact next tm e1 e2.next
    | succ m ih =>
      intro i tm hi e1 e2
      obtain ⟨hy1, hy2⟩ := hkey i (by omega)
      refine hK2 _ _ _ _ ?_
      unfold bX2_orderByKey_13
      rw [e1 2 (by decide), hk1, e1 4 (by decide), show (((i : Nat) : Int).toNat) = i from rfl, hy1]
      refine ⟨by omega, fun h => by omega, fun _ => ⟨by omega, by omega, fun hne => ?_, fun he => ?_⟩⟩
      · have hne : key i ≠ w := by omega
        have := ih (i + 1) tm (by omega) e1 (e2.skip hne)
        rw [ctw_no hne] at this
        rw [pu_i]
        exact this
      · have he : key i = w := by omega
        have hlt : offw key k w + ctw key w i < k := by
          have := posw_lt hw (show i < k by omega)
          unfold posw at this
          rw [he] at this
          exact this
        refine ⟨by omega, ?_⟩
        rintro _ rfl
        rw [show (((offw key k w + ctw key w i : Nat) : Int)).toNat = offw key k w + ctw key w i from rfl]
        have := ih (i + 1) _ (by omega) (fun c hc => by rw [pu_sc hc]; exact e1 c hc) (e2.put (show i < k by omega) he)
        rw [ctw_yes he, ← Nat.add_assoc] at this
        rw [pu_i, pu_i]
        exact this
  have outer : ∀ (m w : Nat) (tm : sq_S), w + m = 16 → (∀ c : Nat, c ≠ 29 → tm c = st c) → Flp key k w 0 (tm 29) → K (offw key k w : Nat) (w : Int) tm := by
    intro m
    induction m with
    | zero =>
      intro w tm hw2 e1 e2
      have e : w = 16 := by omega
      subst e
      exact hK _ _ _ ⟨by decide, fun _ => hq _ e1 (e2.all hw), fun h => by omega⟩
    | succ m ih =>
      intro w tm hw2 e1 e2
      refine hK _ _ _ ⟨by omega, fun h => by omega, fun _ => ?_⟩
      have := inner w (by omega) (fun tm' a1 a2 => ih (w + 1) tm' (by omega) a1 a2) k 0 tm (by omega) e1 e2
      rw [ctw_0, Nat.add_zero] at this
      exact this
  exact outer 16 0 st (by omega) (fun _ _ => rfl) (fun q _ h => by omega)
theorem pm_layKeyOrder {k : Nat} {key : Nat → Nat} {st : sq_S} {Q : Int → sq_S → Prop} (hk1 : st 1 55 = k) (hk : k ≤ 6) (hkey : ∀ i : Nat, i < k → st 1 (49 + i) = key i ∧ key i < 16) (hq : ∀ st' : sq_S, (∀ c : Nat, c ≠ 8 → st' c = st c) → Flw key k (st' 8) → Q 0 st') : wX4_layKeyOrder st Q := by
  intro K K2 hK hK2
  have hw : ∀ q, q < k → key q < 16 := fun q h => (hkey q h).2
  have inner : ∀ (q : Nat) (tm : sq_S), q < k → (∀ c : Nat, c ≠ 8 → tm c = st c) → K ((q + 1 : Nat) : Int) (sq_set tm 8 (posw key k q) q) → ∀ (m j : Nat), j + m = k → K2 (q : Int) ((fb_ct (fun j => decide (key j < key q) || (decide (key j = key q) && decide (j < q))) j : Nat) : Int) (j : Int) tm := by
    intro q tm hqk e1 next m
    induction m with
    | zero =>
      intro j hj
      have e : j = k := by omega
      subst e
      refine hK2 _ _ _ _ ?_
      unfold bX4_layKeyOrder_17
      rw [e1 1 (by decide), hk1, posw_cnt (show q ≤ j by omega)]
      have hlt := posw_lt hw hqk
      refine ⟨by decide, by omega, fun _ => ⟨by omega, ?_⟩, fun h => by omega⟩
      rintro _ rfl
      rw [pu_i]
      exact next
    | succ m ih =>
      intro j hj
      obtain ⟨hy1, hy2⟩ := hkey j (by omega)
      obtain ⟨hz1, hz2⟩ := hkey q hqk
      have hs := ih (j + 1) (by omega)
      rw [fb_ct_succ] at hs
      refine hK2 _ _ _ _ ?_
      unfold bX4_layKeyOrder_17
      rw [e1 1 (by decide), hk1, show (49 + (j : Int)).toNat = 49 + j by omega, show (49 + (q : Int)).toNat = 49 + q by omega, hy1, hz1]
      refine ⟨by decide, by omega, fun h => by omega, fun _ => ⟨by omega, by omega, by omega, fun h => ?_, fun h => ⟨by omega, by omega, by omega, fun hne => ?_, fun he => ⟨by omega, fun h => ?_, fun h => ?_⟩⟩⟩⟩
      · rintro _ rfl
        rw [if_pos (by simp; omega)] at hs
        rw [pu_i, pu_i]
        exact hs
      · rintro _ rfl
        rw [if_neg (by simp; omega)] at hs
        rw [pu_i, Int.add_zero]
        exact hs
      · rintro _ rfl
        rw [if_neg (by simp; omega)] at hs
        rw [pu_i, Int.add_zero]
        exact hs
      · rintro _ rfl
        rw [if_pos (by simp; omega)] at hs
        rw [pu_i, pu_i]
        exact hs
  have outer : ∀ (m q : Nat) (tm : sq_S), q + m = k → (∀ c : Nat, c ≠ 8 → tm c = st c) → (∀ p : Nat, p < q → tm 8 (posw key k p) = p) → K (q : Int) tm := by
    intro m
    induction m with
    | zero =>
      intro q tm hqm e1 e2
      have e : q = k := by omega
      subst e
      refine hK _ _ ?_
      unfold bX4_layKeyOrder_2
      rw [e1 1 (by decide), hk1]
      exact ⟨by decide, by omega, fun _ => hq _ e1 e2, fun h => by omega⟩
    | succ m ih =>
      intro q tm hqm e1 e2
      refine hK _ _ ?_
      unfold bX4_layKeyOrder_2
      rw [e1 1 (by decide), hk1]
      refine ⟨by decide, by omega, fun h => by omega, fun _ => ?_⟩
      refine inner q tm (by omega) e1 ?_ k 0 (by omega)
      refine ih (q + 1) _ (by omega) (fun c hc => by rw [pu_sc hc]; exact e1 c hc) (fun p hp => ?_)
      by_cases e : p = q
      · subst e
        rw [pu_ss]
      · rw [pu_sk (fun e3 => e (posw_inj (show p < k by omega) (show q < k by omega) e3))]
        exact e2 p (by omega)
  exact outer k 0 st (by omega) (fun _ _ => rfl) (fun p h => by omega)
-- rails
def zg (L i : Nat) : Nat := if i % (2 * L) ≤ L then i % (2 * L) else 2 * L - i % (2 * L)
def mvz (L i : Nat) : Int := if i % (2 * L) < L then 1 else -1
theorem zg_step {L i : Nat} (h1 : 1 ≤ L) (h2 : L ≤ 6) : (zg L i : Int) + mvz L i = zg L (i + 1) ∧ ((zg L (i + 1) = 0 ∨ zg L (i + 1) = L) → mvz L (i + 1) = - mvz L i) ∧ (zg L (i + 1) ≠ 0 → zg L (i + 1) ≠ L → mvz L (i + 1) = mvz L i) ∧ zg L i ≤ L ∧ -1 ≤ mvz L i ∧ mvz L i ≤ 1 := by
  rcases (show L = 1 ∨ L = 2 ∨ L = 3 ∨ L = 4 ∨ L = 5 ∨ L = 6 by omega) with e | e | e | e | e | e <;> subst e <;> simp only [zg, mvz, Nat.reduceMul] <;> (refine ⟨?_, ?_, ?_, ?_, ?_, ?_⟩) <;> (repeat' split) <;> omega
theorem px_readRails {n L : Nat} {st : sq_S} {Q : Int → sq_S → Prop} (h48 : n ≤ 48) (h1 : 1 ≤ L) (h6 : L ≤ 6) (hq : ∀ st' : sq_S, (∀ c : Nat, c ≠ 30 → st' c = st c) → Flw (zg L) n (st' 30) → Q 0 st') : wX2_readRails n L st Q := by
  intro K K2 K3 hK hK2 hK3
  have hw : ∀ q, q < n → zg L q < L + 1 := fun q _ => by have := (zg_step (i := q) h1 h6).2.2.2.1; omega
  have inner : ∀ (w : Nat), w ≤ L → (∀ tm : sq_S, (∀ c : Nat, c ≠ 30 → tm c = st c) → Flp (zg L) n (w + 1) 0 (tm 30) → K n L (offw (zg L) n (w + 1) : Nat) ((w + 1 : Nat) : Int) tm) → ∀ (m i : Nat) (tm : sq_S), i + m = n → (∀ c : Nat, c ≠ 30 → tm c = st c) → Flp (zg L) n w i (tm 30) → K2 n L ((offw (zg L) n w + ctw (zg L) w i : Nat) : Int) (w : Int) (zg L i : Nat) (mvz L i) (i : Int) tm := by
    intro w hwL next m
    induction m with
    | zero =>
      intro i tm hi e1 e2
      have e : i = n := by omega
      subst e
      refine hK2 _ _ _ _ _ _ _ _ ⟨by omega, fun _ => ?_, fun h => by omega⟩
      rw [pu_i, ← offw_s]
      exact next tm e1 e2.next
    | succ m ih =>
      intro i tm hi e1 e2
      obtain ⟨s1, s2, s3, s4, s5, s6⟩ := zg_step (i := i) h1 h6
      have s7 := (zg_step (i := i + 1) h1 h6).2.2.2.1
      have go : ∀ (r : Nat) (tm' : sq_S), K2 n L (r : Int) (w : Int) (zg L (i + 1) : Nat) (mvz L (i + 1)) ((i + 1 : Nat) : Int) tm' → K3 n L (r : Int) (w : Int) (zg L i : Nat) (mvz L i) (i : Int) tm' := by
        intro r tm' hk
        refine hK3 _ _ _ _ _ _ _ _ ?_
        rintro _ rfl
        rw [s1, pu_i]
        refine ⟨by omega, fun h0 => ?_, fun h0 => ⟨by omega, fun hL => ?_, fun hL => ?_⟩⟩
        · rintro _ rfl
          rw [← s2 (Or.inl (by omega))]
          exact hk
        · rw [← s3 (by omega) (by omega)]
          exact hk
        · rintro _ rfl
          rw [← s2 (Or.inr (by omega))]
          exact hk
      refine hK2 _ _ _ _ _ _ _ _ ⟨by omega, fun h => by omega, fun _ => ⟨by omega, fun hne => ?_, fun he => ?_⟩⟩
      · have hne : zg L i ≠ w := by omega
        have := ih (i + 1) tm (by omega) e1 (e2.skip hne)
        rw [ctw_no hne] at this
        exact go _ _ this
      · have he : zg L i = w := by omega
        have hlt : offw (zg L) n w + ctw (zg L) w i < n := by
          have := posw_lt hw (show i < n by omega)
          unfold posw at this
          rw [he] at this
          exact this
        refine ⟨by omega, ?_⟩
        rintro _ rfl
        rw [show (((offw (zg L) n w + ctw (zg L) w i : Nat) : Int)).toNat = offw (zg L) n w + ctw (zg L) w i from rfl]
        have := ih (i + 1) _ (by omega) (fun c hc => by rw [pu_sc hc]; exact e1 c hc) (e2.put (show i < n by omega) he)
        rw [ctw_yes he, ← Nat.add_assoc] at this
        rw [pu_i]
        exact go _ _ this
  have outer : ∀ (m w : Nat) (tm : sq_S), w + m = L + 1 → (∀ c : Nat, c ≠ 30 → tm c = st c) → Flp (zg L) n w 0 (tm 30) → K n L (offw (zg L) n w : Nat) (w : Int) tm := by
    intro m
    induction m with
    | zero =>
      intro w tm hw2 e1 e2
      have e : w = L + 1 := by omega
      subst e
      exact hK _ _ _ _ _ ⟨by omega, fun _ => hq _ e1 (e2.all hw), fun h => by omega⟩
    | succ m ih =>
      intro w tm hw2 e1 e2
      refine hK _ _ _ _ _ ⟨by omega, fun h => by omega, fun _ => ?_⟩
      have := inner w (by omega) (fun tm' a1 a2 => ih (w + 1) tm' (by omega) a1 a2) n 0 tm (by omega) e1 e2
      rw [ctw_0, Nat.add_zero] at this
      have z0 : zg L 0 = 0 := by unfold zg; simp
      have m0 : mvz L 0 = 1 := by unfold mvz; rw [if_pos (by simp; omega)]
      rw [z0, m0] at this
      exact this
  exact outer (L + 1) 0 st (by omega) (fun _ _ => rfl) (fun q _ h => by omega)
theorem pm_layRails {n L : Nat} {st : sq_S} {Q : Int → sq_S → Prop} (hn : st 1 48 = n) (h48 : n ≤ 48) (h1 : 1 ≤ L) (h6 : L ≤ 6) (hq : ∀ st' : sq_S, (∀ c : Nat, c ≠ 9 → st' c = st c) → Flw (zg L) n (st' 9) → Q 0 st') : wX4_layRails ((L : Int) + 1) st Q := by
  intro K K2 hK hK2
  rintro _ rfl
  rw [show 2 * ((L : Int) + 1 - 1) = ((2 * L : Nat) : Int) by omega, pu_i]
  have hw : ∀ q, q < n → zg L q < L + 1 := fun q _ => by have := (zg_step (i := q) h1 h6).2.2.2.1; omega
  have inner : ∀ (w : Nat), w ≤ L → (∀ tm : sq_S, (∀ c : Nat, c ≠ 9 → tm c = st c) → Flp (zg L) n (w + 1) 0 (tm 9) → K ((L + 1 : Nat) : Int) (offw (zg L) n (w + 1) : Nat) ((2 * L : Nat) : Int) ((w + 1 : Nat) : Int) tm) → ∀ (m i : Nat) (tm : sq_S), i + m = n → (∀ c : Nat, c ≠ 9 → tm c = st c) → Flp (zg L) n w i (tm 9) → K2 ((L + 1 : Nat) : Int) ((offw (zg L) n w + ctw (zg L) w i : Nat) : Int) ((2 * L : Nat) : Int) (w : Int) (i : Int) tm := by
    intro w hwL next m
    induction m with
    | zero =>
      intro i tm hi e1 e2
      have e : i = n := by omega
      subst e
      refine hK2 _ _ _ _ _ _ (pu_many ?_)
      rw [e1 1 (by decide), hn]
      refine ⟨by omega, fun _ => ?_, fun h => by omega⟩
      rw [pu_i, ← offw_s]
      exact next tm e1 e2.next
    | succ m ih =>
      intro i tm hi e1 e2
      have hm : i % (2 * L) < 2 * L := Nat.mod_lt _ (by omega)
      have no : zg L i ≠ w → K2 ((L + 1 : Nat) : Int) ((offw (zg L) n w + ctw (zg L) w i : Nat) : Int) ((2 * L : Nat) : Int) (w : Int) ((i : Int) + 1) tm := by
        intro hne
        have := ih (i + 1) tm (by omega) e1 (e2.skip hne)
        rw [ctw_no hne] at this
        rw [pu_i]
        exact this
      have yes : zg L i = w → (sq_ib ((offw (zg L) n w + ctw (zg L) w i : Nat) : Int) 48 ∧ ∀ st2 : sq_S, st2 = sq_set tm 9 (((offw (zg L) n w + ctw (zg L) w i : Nat) : Int)).toNat (i : Int) → K2 ((L + 1 : Nat) : Int) (((offw (zg L) n w + ctw (zg L) w i : Nat) : Int) + 1) ((2 * L : Nat) : Int) (w : Int) ((i : Int) + 1) st2) := by
        intro he
        have hlt : offw (zg L) n w + ctw (zg L) w i < n := by
          have := posw_lt hw (show i < n by omega)
          unfold posw at this
          rw [he] at this
          exact this
        refine ⟨by omega, ?_⟩
        rintro _ rfl
        rw [show (((offw (zg L) n w + ctw (zg L) w i : Nat) : Int)).toNat = offw (zg L) n w + ctw (zg L) w i from rfl]
        have := ih (i + 1) _ (by omega) (fun c hc => by rw [pu_sc hc]; exact e1 c hc) (e2.put (show i < n by omega) he)
        rw [ctw_yes he, ← Nat.add_assoc] at this
        rw [pu_i, pu_i]
        exact this
      refine hK2 _ _ _ _ _ _ (pu_many ?_)
      rw [e1 1 (by decide), hn]
      refine ⟨by omega, fun h => by omega, fun _ => ⟨by omega, ?_⟩⟩
      rw [← Int.natCast_emod]
      rintro _ rfl
      have hz : zg L i = if i % (2 * L) ≤ L then i % (2 * L) else 2 * L - i % (2 * L) := rfl
      refine ⟨by omega, fun hge => ⟨by omega, fun hne => no ?_, fun he => yes ?_⟩, fun hlt => ⟨by omega, fun hne => no ?_, fun he => yes ?_⟩⟩
      · rw [hz, if_neg (by omega)]; omega
      · rw [hz, if_neg (by omega)]; omega
      · rw [hz, if_pos (by omega)]; omega
      · rw [hz, if_pos (by omega)]; omega
  have outer : ∀ (m w : Nat) (tm : sq_S), w + m = L + 1 → (∀ c : Nat, c ≠ 9 → tm c = st c) → Flp (zg L) n w 0 (tm 9) → K ((L + 1 : Nat) : Int) (offw (zg L) n w : Nat) ((2 * L : Nat) : Int) (w : Int) tm := by
    intro m
    induction m with
    | zero =>
      intro w tm hw2 e1 e2
      have e : w = L + 1 := by omega
      subst e
      exact hK _ _ _ _ _ ⟨by omega, fun _ => hq _ e1 (e2.all hw), fun h => by omega⟩
    | succ m ih =>
      intro w tm hw2 e1 e2
      refine hK _ _ _ _ _ ⟨by omega, fun h => by omega, fun _ => ?_⟩
      have := inner w (by omega) (fun tm' a1 a2 => ih (w + 1) tm' (by omega) a1 a2) n 0 tm (by omega) e1 e2
      rw [ctw_0, Nat.add_zero] at this
      exact this
  exact outer (L + 1) 0 st (by omega) (fun _ _ => rfl) (fun q _ h => by omega)
