/-! pure part: all pairs of a text; climb -/
def prR (S inv : Nat → Nat) (t : Nat → Int) (mv : Int) (i : Nat) : Int := ((S (pI (inv (t i).toNat) (inv (t (if i % 2 = 0 then i + 1 else i - 1)).toNat) mv).toNat : Nat) : Int)
theorem prR_bd {S inv : Nat → Nat} (h : Pm S) (t : Nat → Int) (mv : Int) (i : Nat) : 0 ≤ prR S inv t mv i ∧ prR S inv t mv i < 16 := by
  unfold prR
  have hb := pI_bd (inv (t i).toNat) (inv (t (if i % 2 = 0 then i + 1 else i - 1)).toNat) mv
  have := h.1 (pI (inv (t i).toNat) (inv (t (if i % 2 = 0 then i + 1 else i - 1)).toNat) mv).toNat (by omega)
  omega
theorem prR_cong {S inv : Nat → Nat} {t u : Nat → Int} {mv : Int} {n i : Nat} (hev : n % 2 = 0) (h : ∀ i : Nat, i < n → t i = u i) (hi : i < n) : prR S inv t mv i = prR S inv u mv i := by
  unfold prR
  rw [h i hi, h _ (by split <;> omega)]
theorem px_pairs {v mv : Int} {n : Nat} {S inv : Nat → Nat} {st : sq_S} {Q : Int → sq_S → Prop} (hv : (v = 0 ∧ mv = -1) ∨ (v = 1 ∧ mv = 1)) (hn : st 2 1 = n) (h48 : n ≤ 48) (hev : n % 2 = 0) (hS : SqX st S) (hp : PmI S inv) (ht : ∀ i : Nat, i < n → 0 ≤ st 3 i ∧ st 3 i < 16) (hq : ∀ st' : sq_S, (∀ c : Nat, c ≠ 25 → st' c = st c) → (∀ i : Nat, i < n → st' 25 i = prR S inv (st 3) mv i) → Q 0 st') : wX2_changePairs v st Q := by
  intro K hK
  have loop : ∀ (m j : Nat) (tm : sq_S), j + m = n / 2 → (∀ c : Nat, c ≠ 25 → tm c = st c) → (∀ i : Nat, i < 2 * j → tm 25 i = prR S inv (st 3) mv i) → K mv ((2 * j + 1 : Nat) : Int) tm := by
    intro m
    induction m with
    | zero =>
      intro j tm hj e1 e2
      refine hK _ _ _ ?_
      unfold bX2_changePairs_13
      rw [e1 2 (by decide), hn]
      exact ⟨by omega, fun _ => hq _ e1 (fun i hi => e2 i (by omega)), fun h => by omega⟩
    | succ m ih =>
      intro j tm hj e1 e2
      have t0 := ht (2 * j) (by omega)
      have t1 := ht (2 * j + 1) (by omega)
      obtain ⟨a1, a2⟩ := hp.2 (st 3 (2 * j)).toNat (by omega)
      obtain ⟨b1, b2⟩ := hp.2 (st 3 (2 * j + 1)).toNat (by omega)
      have ea : st 3 (2 * j) = ((S (inv (st 3 (2 * j)).toNat) : Nat) : Int) := by omega
      have eb : st 3 (2 * j + 1) = ((S (inv (st 3 (2 * j + 1)).toNat) : Nat) : Int) := by omega
      have x0 : (((2 * j + 1 : Nat) : Int) - 1).toNat = 2 * j := by omega
      have x1 : (((2 * j + 1 : Nat) : Int)).toNat = 2 * j + 1 := rfl
      have hS1 : SqX tm S := fun i hi => by rw [e1 27 (by decide), e1 28 (by decide)]; exact hS i hi
      refine hK _ _ _ ?_
      unfold bX2_changePairs_13
      rw [e1 2 (by decide), hn, x0, x1, e1 3 (by decide)]
      refine ⟨by omega, fun h => by omega, fun _ => ⟨by omega, ?_⟩⟩
      rintro _ rfl
      refine ⟨by omega, ?_⟩
      rintro _ rfl
      rw [ea, eb]
      refine px_beside hS1 hp.1 a1 b1 ⟨by omega, ?_⟩
      rintro _ rfl
      refine px_beside (fun i hi => by rw [pu_sc (by decide), pu_sc (by decide)]; exact hS1 i hi) hp.1 b1 a1 ⟨by omega, ?_⟩
      rintro _ rfl
      rw [show ((2 * j + 1 : Nat) : Int) + 2 = ((2 * (j + 1) + 1 : Nat) : Int) by omega]
      refine ih (j + 1) _ (by omega) (fun c hc => by rw [pu_sc hc, pu_sc hc]; exact e1 c hc) (fun i hi => ?_)
      by_cases h1 : i = 2 * j + 1
      · subst h1
        rw [pu_ss]
        unfold prR
        rw [if_neg (by omega), show 2 * j + 1 - 1 = 2 * j by omega]
      · rw [pu_sk h1]
        by_cases h0 : i = 2 * j
        · subst h0
          rw [pu_ss]
          unfold prR
          rw [if_pos (by omega)]
        · rw [pu_sk h0]
          exact e2 i (by omega)
  refine ⟨by omega, fun h => ?_, fun h => ?_⟩
  · have := loop (n / 2) 0 st (by omega) (fun _ _ => rfl) (fun i h => by omega)
    rw [show mv = -1 by omega] at this
    exact this
  · have := loop (n / 2) 0 st (by omega) (fun _ _ => rfl) (fun i h => by omega)
    rw [show mv = 1 by omega] at this
    exact this
theorem pm_pairs {mv : Int} {n : Nat} {S inv : Nat → Nat} {st : sq_S} {Q : Int → sq_S → Prop} (hmv : mv = 1 ∨ mv = -1) (hn : st 1 48 = n) (h48 : n ≤ 48) (hev : n % 2 = 0) (hS : SqM st S) (hp : PmI S inv) (ht : ∀ i : Nat, i < n → 0 ≤ st 5 i ∧ st 5 i < 16) (hq : ∀ st' : sq_S, (∀ c : Nat, c ≠ 6 → st' c = st c) → (∀ i : Nat, i < n → st' 6 i = prR S inv (st 5) mv i) → Q 0 st') : wX4_pairs mv st Q := by
  intro K hK
  have loop : ∀ (m j : Nat) (tm : sq_S), j + m = n / 2 → (∀ c : Nat, c ≠ 6 → tm c = st c) → (∀ i : Nat, i < 2 * j → tm 6 i = prR S inv (st 5) mv i) → K mv ((2 * j : Nat) : Int) tm := by
    intro m
    induction m with
    | zero =>
      intro j tm hj e1 e2
      refine hK _ _ _ (pu_many ?_)
      rw [e1 1 (by decide), hn]
      exact ⟨by omega, fun _ => hq _ e1 (fun i hi => e2 i (by omega)), fun h => by omega⟩
    | succ m ih =>
      intro j tm hj e1 e2
      have t0 := ht (2 * j) (by omega)
      have t1 := ht (2 * j + 1) (by omega)
      obtain ⟨a1, a2⟩ := hp.2 (st 5 (2 * j)).toNat (by omega)
      obtain ⟨b1, b2⟩ := hp.2 (st 5 (2 * j + 1)).toNat (by omega)
      have hS1 : SqM tm S := fun i hi => by rw [e1 7 (by decide)]; exact hS i hi
      refine hK _ _ _ (pu_many ?_)
      rw [e1 1 (by decide), hn]
      refine ⟨by omega, fun h => by omega, fun _ => ?_⟩
      refine pm_pair (a := inv (st 5 (2 * j)).toNat) (b := inv (st 5 (2 * j + 1)).toNat) hS1 hp.1 (by omega) a1 b1 (by rw [e1 5 (by decide)]; omega) (by rw [e1 5 (by decide)]; omega) hmv ?_
      rw [show ((2 * j : Nat) : Int) + 2 = ((2 * (j + 1) : Nat) : Int) by omega]
      refine ih (j + 1) _ (by omega) (fun c hc => by rw [pu_sc hc, pu_sc hc]; exact e1 c hc) (fun i hi => ?_)
      by_cases h1 : i = 2 * j + 1
      · subst h1
        rw [pu_ss]
        unfold prR
        rw [if_neg (by omega), show 2 * j + 1 - 1 = 2 * j by omega]
      · rw [pu_sk h1]
        by_cases h0 : i = 2 * j
        · subst h0
          rw [pu_ss]
          unfold prR
          rw [if_pos (by omega)]
        · rw [pu_sk h0]
          exact e2 i (by omega)
  exact loop (n / 2) 0 st (by omega) (fun _ _ => rfl) (fun i h => by omega)
-- climb
def fnd (S : Nat → Nat) (l : Nat) : Nat → Nat
  | 0 => 0
  | n + 1 => if S n = l then n else fnd S l n
theorem fnd_ok {S : Nat → Nat} {l : Nat} : ∀ {n : Nat}, (∃ i, i < n ∧ S i = l) → fnd S l n < n ∧ S (fnd S l n) = l
  | 0, h => by obtain ⟨i, hi, -⟩ := h; omega
  | n + 1, h => by
    unfold fnd
    by_cases e : S n = l
    · rw [if_pos e]
      exact ⟨Nat.lt_succ_self n, e⟩
    · rw [if_neg e]
      have := fnd_ok (n := n) (by
        obtain ⟨i, h1, h2⟩ := h
        refine ⟨i, ?_, h2⟩
        have : i ≠ n := fun q => e (by rw [← q]; exact h2)
        omega)
      exact ⟨by omega, this.2⟩
def invF (S : Nat → Nat) : Nat → Nat := fun l => fnd S l 16
theorem Pm.invF {S : Nat → Nat} (h : Pm S) : PmI S (invF S) := ⟨h, fun l hl => fnd_ok (fb_onto h.1 h.2 hl)⟩
def gP (L : Nat → Nat → Int) (t : Nat → Int) (n : Nat) (S : Nat → Nat) : Int := su (cG L (prR S (invF S) t (-1))) (n - 1)
def swp (S : Nat → Nat) (a b : Nat) : Nat → Nat := fun i => if i = a then S b else if i = b then S a else S i
theorem swp_swp (S : Nat → Nat) (a b : Nat) : swp (swp S a b) a b = S := by
  funext i
  unfold swp
  by_cases h1 : i = a
  · subst h1
    by_cases h2 : b = i <;> simp [h2]
  · by_cases h2 : i = b
    · subst h2
      simp [h1]
    · simp [h1, h2]
theorem Pm_swp {S : Nat → Nat} (h : Pm S) {a b : Nat} (ha : a < 16) (hb : b < 16) : Pm (swp S a b) := by
  refine ⟨fun i hi => ?_, fun i j hij hj e => ?_⟩
  · unfold swp
    split
    · exact h.1 b hb
    split
    · exact h.1 a ha
    · exact h.1 i hi
  · unfold swp at e
    by_cases i1 : i = a
    · rw [if_pos i1, if_neg (by omega)] at e
      by_cases j2 : j = b
      · rw [if_pos j2] at e
        have := h.inj hb ha e
        omega
      · rw [if_neg j2] at e
        have := h.inj hb hj e
        omega
    · rw [if_neg i1] at e
      by_cases i2 : i = b
      · rw [if_pos i2] at e
        by_cases j1 : j = a
        · rw [if_pos j1] at e
          have := h.inj ha hb e
          omega
        · rw [if_neg j1, if_neg (by omega)] at e
          have := h.inj ha hj e
          omega
      · rw [if_neg i2] at e
        by_cases j1 : j = a
        · rw [if_pos j1] at e
          have := h.inj (by omega) hb e
          omega
        · rw [if_neg j1] at e
          by_cases j2 : j = b
          · rw [if_pos j2] at e
            have := h.inj (by omega) ha e
            omega
          · rw [if_neg j2] at e
            have := h.inj (by omega) hj e
            omega
theorem px_exch {a b : Nat} {S : Nat → Nat} {st : sq_S} {Q : Int → sq_S → Prop} (hS : SqX st S) (hp : Pm S) (ha : a < 16) (hb : b < 16) (hq : ∀ st' : sq_S, (∀ c : Nat, c ≠ 27 → c ≠ 28 → st' c = st c) → SqX st' (swp S a b) → Q 0 st') : wX1_exchange a b st Q := by
  refine ⟨by omega, ?_⟩
  rintro _ rfl
  refine ⟨by omega, ?_⟩
  rw [show (((a : Nat) : Int).toNat) = a from rfl, show (((b : Nat) : Int).toNat) = b from rfl, (hS a ha).1, (hS b hb).1]
  refine px_put (hp.1 b hb) ha (px_put (hp.1 a ha) hb (hq _ (fun c h1 h2 => by rw [pu_sc h2, pu_sc h1, pu_sc h2, pu_sc h1]) (fun i hi => ?_)))
  have hne : ∀ x y : Nat, x < 16 → y < 16 → x ≠ y → S x ≠ S y := fun x y hx hy n e => n (hp.inj hx hy e)
  unfold swp
  by_cases i1 : i = a
  · subst i1
    rw [if_pos rfl, pu_sc (show (27 : Nat) ≠ 28 by decide)]
    by_cases hab : i = b
    · subst hab
      rw [pu_ss, pu_ss]
      exact ⟨rfl, rfl⟩
    · rw [pu_sk hab, pu_sc (show (27 : Nat) ≠ 28 by decide), pu_ss, pu_sk (hne b i hb hi (fun e => hab e.symm)), pu_sc (show (28 : Nat) ≠ 27 by decide), pu_ss]
      exact ⟨rfl, rfl⟩
  · rw [if_neg i1]
    by_cases i2 : i = b
    · subst i2
      rw [if_pos rfl, pu_ss, pu_sc (show (27 : Nat) ≠ 28 by decide), pu_ss]
      exact ⟨rfl, rfl⟩
    · rw [if_neg i2, pu_sc (show (27 : Nat) ≠ 28 by decide), pu_sk i2, pu_sc (show (27 : Nat) ≠ 28 by decide), pu_sk i1, pu_sk (hne i a hi ha i1), pu_sc (show (28 : Nat) ≠ 27 by decide), pu_sk (hne i b hi hb i2), pu_sc (show (28 : Nat) ≠ 27 by decide)]
      exact hS i hi
theorem pm_swap {a b : Nat} {S : Nat → Nat} {st : sq_S} {Q : Int → sq_S → Prop} (hS : SqM st S) (ha : a < 16) (hb : b < 16) (hq : ∀ st' : sq_S, (∀ c : Nat, c ≠ 7 → st' c = st c) → SqM st' (swp S a b) → Q 0 st') : wX4_swap a b st Q := by
  refine ⟨by omega, ?_⟩
  rintro _ rfl
  refine ⟨by omega, by omega, ?_⟩
  rintro _ rfl
  refine ⟨by omega, ?_⟩
  rintro _ rfl
  rw [show (((a : Nat) : Int).toNat) = a from rfl, show (((b : Nat) : Int).toNat) = b from rfl, hS a ha, hS b hb]
  refine hq _ (fun c h => by rw [pu_sc h, pu_sc h]) (fun i hi => ?_)
  unfold swp
  by_cases i1 : i = a
  · subst i1
    rw [if_pos rfl]
    by_cases hab : i = b
    · subst hab
      rw [pu_ss]
    · rw [pu_sk hab, pu_ss]
  · rw [if_neg i1]
    by_cases i2 : i = b
    · subst i2
      rw [if_pos rfl, pu_ss]
    · rw [if_neg i2, pu_sk i2, pu_sk i1]
      exact hS i hi
