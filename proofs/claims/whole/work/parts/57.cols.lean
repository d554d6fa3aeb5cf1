/-! pure part: columns; letters put by places -/
theorem sm_swap (F : Nat → Nat → Nat) (m : Nat) : ∀ n, fb_sm (fun a => fb_sm (fun b => F a b) m) n = fb_sm (fun b => fb_sm (fun a => F a b) n) m
  | 0 => by
    have e : fb_sm (fun b => fb_sm (fun a => F a b) 0) m = fb_sm (fun _ => 0) m := fb_sm_cong (fun _ _ => rfl)
    rw [e, fb_sm_const, Nat.mul_zero]
    rfl
  | n + 1 => by
    rw [fb_sm_succ, sm_swap F m n, ← fb_sm_add]
    exact fb_sm_cong (fun b _ => rfl)
def PmN (m : Nat) (O : Nat → Nat) : Prop := (∀ i, i < m → O i < m) ∧ ∀ i j, i < j → j < m → O i ≠ O j
theorem sm_perm {m : Nat} {O : Nat → Nat} (f : Nat → Nat) (h : PmN m O) : fb_sm (fun k => f (O k)) m = fb_sm f m := by
  have e1 : fb_sm (fun k => f (O k)) m = fb_sm (fun k => fb_sm (fun c => if O k = c then f c else 0) m) m := fb_sm_cong (fun k hk => (sm_one f (h.1 k hk)).symm)
  rw [e1, sm_swap]
  refine fb_sm_cong (fun c hc => ?_)
  obtain ⟨k0, h1, h2⟩ := fb_onto h.1 h.2 hc
  have e2 : fb_sm (fun k => if O k = c then f c else 0) m = fb_sm (fun k => if k0 = k then f c else 0) m := by
    refine fb_sm_cong (fun k hk => ?_)
    by_cases e : k0 = k
    · subst e
      rw [if_pos h2, if_pos rfl]
    · rw [if_neg e, if_neg]
      intro e3
      rcases Nat.lt_trichotomy k0 k with q | q | q
      · exact h.2 k0 k q hk (by rw [h2, e3])
      · exact e q
      · exact h.2 k k0 q h1 (by rw [h2, e3])
  rw [e2, sm_one (fun _ => f c) h1]
def cntc (m N c : Nat) : Nat := (N + m - 1 - c) / m
theorem cnt_iff {m N c j : Nat} (h1 : 1 ≤ m) (h6 : m ≤ 6) (hc : c < m) : c + m * j < N ↔ j < cntc m N c := by
  unfold cntc
  rcases (show m = 1 ∨ m = 2 ∨ m = 3 ∨ m = 4 ∨ m = 5 ∨ m = 6 by omega) with e | e | e | e | e | e <;> subst e <;> omega
theorem cnt_sum {m N : Nat} (h1 : 1 ≤ m) (h6 : m ≤ 6) : fb_sm (cntc m N) m = N := by
  rcases (show m = 1 ∨ m = 2 ∨ m = 3 ∨ m = 4 ∨ m = 5 ∨ m = 6 by omega) with e | e | e | e | e | e <;> subst e <;> simp only [fb_sm, cntc] <;> omega
def offc (m N : Nat) (O : Nat → Nat) (k : Nat) : Nat := fb_sm (fun k' => cntc m N (O k')) k
theorem offc_all {m N : Nat} {O : Nat → Nat} (h1 : 1 ≤ m) (h6 : m ≤ 6) (h : PmN m O) : offc m N O m = N := by
  unfold offc
  rw [sm_perm (cntc m N) h, cnt_sum h1 h6]
theorem offc_s (m N : Nat) (O : Nat → Nat) (k : Nat) : offc m N O (k + 1) = offc m N O k + cntc m N (O k) := rfl
theorem offc_le (m N : Nat) (O : Nat → Nat) {a b : Nat} (h : a ≤ b) : offc m N O a ≤ offc m N O b := by
  unfold offc
  have := fb_sm_mono (fun k' => cntc m N (O k')) a (b - a)
  rw [show a + (b - a) = b by omega] at this
  exact this
theorem offc_lt {m N k j : Nat} {O : Nat → Nat} (h1 : 1 ≤ m) (h6 : m ≤ 6) (h : PmN m O) (hk : k < m) (hj : j < cntc m N (O k)) : offc m N O k + j < N := by
  have := offc_le m N O (show k + 1 ≤ m from hk)
  rw [offc_s, offc_all h1 h6 h] at this
  omega
/-- the row of places, column by column -/
def Col (m N : Nat) (O : Nat → Nat) (R : Nat → Int) : Prop := ∀ k j : Nat, k < m → j < cntc m N (O k) → R (offc m N O k + j) = ((O k + m * j : Nat) : Int)
theorem Col.fr {m N : Nat} {O : Nat → Nat} {R1 R2 : Nat → Int} (h1 : 1 ≤ m) (h6 : m ≤ 6) (h : PmN m O) (c1 : Col m N O R1) (c2 : Col m N O R2) : Fr R1 R2 N := by
  have cov : ∀ (i w : Nat), w ≤ m → i < offc m N O w → ∃ k j, k < m ∧ j < cntc m N (O k) ∧ i = offc m N O k + j := by
    intro i w
    induction w with
    | zero => intro _ h; exact absurd h (Nat.not_lt_zero i)
    | succ w ih =>
      intro hw hi
      rw [offc_s] at hi
      by_cases hlt : i < offc m N O w
      · exact ih (by omega) hlt
      · exact ⟨w, i - offc m N O w, by omega, by omega, by omega⟩
  refine ⟨fun i hi => ?_, fun p hp => ?_⟩
  · obtain ⟨k, j, hk, hj, e⟩ := cov i m (Nat.le_refl m) (by rw [offc_all h1 h6 h]; exact hi)
    have hlt := (cnt_iff h1 h6 (h.1 k hk)).mpr hj
    rw [e, c1 k j hk hj, c2 k j hk hj]
    omega
  · have hm := Nat.mod_lt p (show m > 0 by omega)
    obtain ⟨k, hk, e⟩ := fb_onto h.1 h.2 hm
    have hd := Nat.div_add_mod p m
    have hj : p / m < cntc m N (O k) := (cnt_iff h1 h6 (h.1 k hk)).mp (by omega)
    refine ⟨offc m N O k + p / m, offc_lt h1 h6 h hk hj, ?_⟩
    rw [c1 k _ hk hj]
    omega
theorem px_readColumns {n m : Nat} {O : Nat → Nat} {st : sq_S} {Q : Int → sq_S → Prop} (h48 : n ≤ 48) (h1 : 1 ≤ m) (h6 : m ≤ 6) (hO : PmN m O) (ho : ∀ i : Nat, i < m → st 29 i = O i) (hq : ∀ st' : sq_S, (∀ c : Nat, c ≠ 30 → st' c = st c) → Col m n O (st' 30) → Q 0 st') : wX2_readColumns n m st Q := by
  intro K K2 hK hK2
  have inner : ∀ (k : Nat), k < m → (∀ tm : sq_S, (∀ c : Nat, c ≠ 30 → tm c = st c) → (∀ k' j : Nat, k' < k + 1 → j < cntc m n (O k') → tm 30 (offc m n O k' + j) = ((O k' + m * j : Nat) : Int)) → K n m (offc m n O (k + 1) : Nat) ((k + 1 : Nat) : Int) tm) → ∀ (r j : Nat) (tm : sq_S), j + r = cntc m n (O k) → (∀ c : Nat, c ≠ 30 → tm c = st c) → (∀ k' j' : Nat, (k' < k ∧ j' < cntc m n (O k')) ∨ (k' = k ∧ j' < j) → tm 30 (offc m n O k' + j') = ((O k' + m * j' : Nat) : Int)) → K2 n m ((offc m n O k + j : Nat) : Int) (k : Int) ((O k + m * j : Nat) : Int) tm := by
    intro k hk next r
    induction r with
    | zero =>
      intro j tm hj e1 e2
      have e : j = cntc m n (O k) := by omega
      have hiff := cnt_iff (N := n) (j := j) h1 h6 (hO.1 k hk)
      have hpl : O k + m * j ≤ 1000 ∨ 1000 < O k + m * j := by omega
      have hb : O k + m * j < n + m := by
        by_cases hj0 : j = 0
        · subst hj0
          have := hO.1 k hk
          omega
        · have := (cnt_iff (N := n) (j := j - 1) h1 h6 (hO.1 k hk)).mpr (by omega)
          have e3 : m * j = m * (j - 1) + m := by
            rw [← Nat.mul_succ]
            congr 1
            omega
          omega
      refine hK2 _ _ _ _ _ _ ⟨by omega, fun _ => ?_, fun h => by omega⟩
      rw [pu_i, e, ← offc_s]
      refine next tm e1 (fun k' j' hk' hj' => e2 k' j' ?_)
      by_cases hkk : k' = k
      · subst hkk
        exact Or.inr ⟨rfl, by omega⟩
      · exact Or.inl ⟨by omega, hj'⟩
    | succ r ih =>
      intro j tm hj e1 e2
      have hlt := (cnt_iff (N := n) (j := j) h1 h6 (hO.1 k hk)).mpr (by omega)
      have hix := offc_lt h1 h6 hO hk (show j < cntc m n (O k) by omega)
      refine hK2 _ _ _ _ _ _ ⟨by omega, fun h => by omega, fun _ => ⟨by omega, ?_⟩⟩
      rintro _ rfl _ rfl
      rw [show (((offc m n O k + j : Nat) : Int)).toNat = offc m n O k + j from rfl, pu_i, show ((O k + m * j : Nat) : Int) + (m : Int) = ((O k + m * (j + 1) : Nat) : Int) by rw [Nat.mul_succ]; omega]
      refine ih (j + 1) _ (by omega) (fun c hc => by rw [pu_sc hc]; exact e1 c hc) (fun k' j' hkj => ?_)
      by_cases hsame : k' = k ∧ j' = j
      · obtain ⟨a1, a2⟩ := hsame
        subst a1
        subst a2
        rw [pu_ss]
      · have hne : offc m n O k' + j' ≠ offc m n O k + j := by
          rcases hkj with ⟨b1, b2⟩ | ⟨b1, b2⟩
          · have := offc_le m n O (show k' + 1 ≤ k from b1)
            rw [offc_s] at this
            omega
          · subst b1
            omega
        rw [pu_sk hne]
        refine e2 k' j' ?_
        rcases hkj with q | ⟨b1, b2⟩
        · exact Or.inl q
        · exact Or.inr ⟨b1, by omega⟩
  have outer : ∀ (r k : Nat) (tm : sq_S), k + r = m → (∀ c : Nat, c ≠ 30 → tm c = st c) → (∀ k' j : Nat, k' < k → j < cntc m n (O k') → tm 30 (offc m n O k' + j) = ((O k' + m * j : Nat) : Int)) → K n m (offc m n O k : Nat) (k : Int) tm := by
    intro r
    induction r with
    | zero =>
      intro k tm hk e1 e2
      have e : k = m := by omega
      subst e
      exact hK _ _ _ _ _ ⟨by omega, fun _ => hq _ e1 e2, fun h => by omega⟩
    | succ r ih =>
      intro k tm hk e1 e2
      refine hK _ _ _ _ _ ⟨by omega, fun h => by omega, fun _ => ⟨by omega, ?_⟩⟩
      rintro _ rfl
      rw [show (((k : Nat) : Int).toNat) = k from rfl, e1 29 (by decide), ho k (by omega)]
      have := inner k (by omega) (fun tm' a1 a2 => ih (k + 1) tm' (by omega) a1 a2) (cntc m n (O k)) 0 tm (by omega) e1 (fun k' j' hkj => e2 k' j' (by omega) (by
        rcases hkj with ⟨_, q⟩ | ⟨_, q⟩
        · exact q
        · omega))
      simpa using this
  exact outer m 0 st (by omega) (fun _ _ => rfl) (fun k' j h => by omega)
theorem pm_layColumns {n m : Nat} {O : Nat → Nat} {st : sq_S} {Q : Int → sq_S → Prop} (hn : st 1 48 = n) (h48 : n ≤ 48) (h1 : 1 ≤ m) (h6 : m ≤ 6) (hO : PmN m O) (ho : ∀ i : Nat, i < m → st 8 i = O i) (hq : ∀ st' : sq_S, (∀ c : Nat, c ≠ 9 → st' c = st c) → Col m n O (st' 9) → Q 0 st') : wX4_layColumns m st Q := by
  intro K K2 hK hK2
  have inner : ∀ (k : Nat), k < m → (∀ tm : sq_S, (∀ c : Nat, c ≠ 9 → tm c = st c) → (∀ k' j : Nat, k' < k + 1 → j < cntc m n (O k') → tm 9 (offc m n O k' + j) = ((O k' + m * j : Nat) : Int)) → K m (offc m n O (k + 1) : Nat) ((k + 1 : Nat) : Int) tm) → ∀ (r j : Nat) (tm : sq_S), j + r = cntc m n (O k) → (∀ c : Nat, c ≠ 9 → tm c = st c) → (∀ k' j' : Nat, (k' < k ∧ j' < cntc m n (O k')) ∨ (k' = k ∧ j' < j) → tm 9 (offc m n O k' + j') = ((O k' + m * j' : Nat) : Int)) → K2 m ((offc m n O k + j : Nat) : Int) (k : Int) ((O k + m * j : Nat) : Int) tm := by
    intro k hk next r
    induction r with
    | zero =>
      intro j tm hj e1 e2
      have e : j = cntc m n (O k) := by omega
      have hiff := cnt_iff (N := n) (j := j) h1 h6 (hO.1 k hk)
      have hpl : O k + m * j ≤ 1000 ∨ 1000 < O k + m * j := by omega
      have hb : O k + m * j < n + m := by
        by_cases hj0 : j = 0
        · subst hj0
          have := hO.1 k hk
          omega
        · have := (cnt_iff (N := n) (j := j - 1) h1 h6 (hO.1 k hk)).mpr (by omega)
          have e3 : m * j = m * (j - 1) + m := by
            rw [← Nat.mul_succ]
            congr 1
            omega
          omega
      refine hK2 _ _ _ _ _ (pu_many ?_)
      rw [e1 1 (by decide), hn]
      refine ⟨by omega, fun _ => ?_, fun h => by omega⟩
      rw [pu_i, e, ← offc_s]
      refine next tm e1 (fun k' j' hk' hj' => e2 k' j' ?_)
      by_cases hkk : k' = k
      · subst hkk
        exact Or.inr ⟨rfl, by omega⟩
      · exact Or.inl ⟨by omega, hj'⟩
    | succ r ih =>
      intro j tm hj e1 e2
      have hlt := (cnt_iff (N := n) (j := j) h1 h6 (hO.1 k hk)).mpr (by omega)
      have hix := offc_lt h1 h6 hO hk (show j < cntc m n (O k) by omega)
      refine hK2 _ _ _ _ _ (pu_many ?_)
      rw [e1 1 (by decide), hn]
      refine ⟨by omega, fun h => by omega, fun _ => ⟨by omega, ?_⟩⟩
      rintro _ rfl _ rfl
      rw [show (((offc m n O k + j : Nat) : Int)).toNat = offc m n O k + j from rfl, pu_i, show ((O k + m * j : Nat) : Int) + (m : Int) = ((O k + m * (j + 1) : Nat) : Int) by rw [Nat.mul_succ]; omega]
      refine ih (j + 1) _ (by omega) (fun c hc => by rw [pu_sc hc]; exact e1 c hc) (fun k' j' hkj => ?_)
      by_cases hsame : k' = k ∧ j' = j
      · obtain ⟨a1, a2⟩ := hsame
        subst a1
        subst a2
        rw [pu_ss]
      · have hne : offc m n O k' + j' ≠ offc m n O k + j := by
          rcases hkj with ⟨b1, b2⟩ | ⟨b1, b2⟩
          · have := offc_le m n O (show k' + 1 ≤ k from b1)
            rw [offc_s] at this
            omega
          · subst b1
            omega
        rw [pu_sk hne]
        refine e2 k' j' ?_
        rcases hkj with q | ⟨b1, b2⟩
        · exact Or.inl q
        · exact Or.inr ⟨b1, by omega⟩
  have outer : ∀ (r k : Nat) (tm : sq_S), k + r = m → (∀ c : Nat, c ≠ 9 → tm c = st c) → (∀ k' j : Nat, k' < k → j < cntc m n (O k') → tm 9 (offc m n O k' + j) = ((O k' + m * j : Nat) : Int)) → K m (offc m n O k : Nat) (k : Int) tm := by
    intro r
    induction r with
    | zero =>
      intro k tm hk e1 e2
      have e : k = m := by omega
      subst e
      exact hK _ _ _ _ ⟨by omega, fun _ => hq _ e1 e2, fun h => by omega⟩
    | succ r ih =>
      intro k tm hk e1 e2
      refine hK _ _ _ _ ⟨by omega, fun h => by omega, fun _ => ⟨by omega, ?_⟩⟩
      rintro _ rfl
      rw [show (((k : Nat) : Int).toNat) = k from rfl, e1 8 (by decide), ho k (by omega)]
      have := inner k (by omega) (fun tm' a1 a2 => ih (k + 1) tm' (by omega) a1 a2) (cntc m n (O k)) 0 tm (by omega) e1 (fun k' j' hkj => e2 k' j' (by omega) (by
        rcases hkj with ⟨_, q⟩ | ⟨_, q⟩
        · exact q
        · omega))
      simpa using this
  exact outer m 0 st (by omega) (fun _ _ => rfl) (fun k' j h => by omega)
/-- letters put by places, one after the other -/
def putF (R : Nat → Nat) (t : Nat → Int) (b : Nat → Int) : Nat → Nat → Int
  | 0 => b
  | i + 1 => fun p => if p = R i then t i else putF R t b i p
theorem putF_eq {R R' : Nat → Nat} {t t' b b' : Nat → Int} : ∀ {N : Nat}, (∀ i, i < N → R i = R' i ∧ t i = t' i) → ∀ {p : Nat}, (∃ i, i < N ∧ R i = p) → putF R t b N p = putF R' t' b' N p ∧ ∃ i, i < N ∧ putF R t b N p = t i
  | 0, _, _, h => by obtain ⟨i, hi, -⟩ := h; omega
  | N + 1, h, p, hp => by
    obtain ⟨h1, h2⟩ := h N (by omega)
    show (if p = R N then t N else putF R t b N p) = (if p = R' N then t' N else putF R' t' b' N p) ∧ ∃ i, i < N + 1 ∧ (if p = R N then t N else putF R t b N p) = t i
    rw [← h1, ← h2]
    by_cases e : p = R N
    · rw [if_pos e, if_pos e]
      exact ⟨rfl, N, by omega, rfl⟩
    · rw [if_neg e, if_neg e]
      have := putF_eq (N := N) (b := b) (b' := b') (fun i hi => h i (by omega)) (p := p) (by
        obtain ⟨i, a1, a2⟩ := hp
        refine ⟨i, ?_, a2⟩
        have : i ≠ N := fun q => e (by rw [← q]; exact a2.symm)
        omega)
      obtain ⟨i, a1, a2⟩ := this.2
      exact ⟨this.1, i, by omega, a2⟩
/-- what a text becomes: hidden by places, found by places -/
def hfR (v : Int) (R t b : Nat → Int) (N : Nat) : Nat → Int := fun p => if v = 0 then putF (fun i => (R i).toNat) t b N p else t (R p).toNat
theorem px_putInPlace {v : Int} {n : Nat} {st : sq_S} {Q : Int → sq_S → Prop} (hv : v = 0 ∨ v = 1) (hn : st 2 1 = n) (h48 : n ≤ 48) (hR : ∀ i : Nat, i < n → 0 ≤ st 30 i ∧ st 30 i < n) (hq : ∀ st' : sq_S, (∀ c : Nat, c ≠ 25 → st' c = st c) → (∀ p : Nat, p < n → st' 25 p = hfR v (st 30) (st 3) (st 25) n p) → Q 0 st') : wX2_putInPlace v st Q := by
  intro K hK
  have loop : ∀ (m i : Nat) (tm : sq_S), i + m = n → (∀ c : Nat, c ≠ 25 → tm c = st c) → (v = 0 → tm 25 = putF (fun i => (st 30 i).toNat) (st 3) (st 25) i) → (v = 1 → ∀ p : Nat, p < i → tm 25 p = st 3 (st 30 p).toNat) → K v (i : Int) tm := by
    intro m
    induction m with
    | zero =>
      intro i tm hi e1 e2 e3
      have e : i = n := by omega
      subst e
      refine hK _ _ _ ?_
      unfold bX2_putInPlace_2
      rw [e1 2 (by decide), hn]
      refine ⟨by omega, fun _ => hq _ e1 (fun p hp => ?_), fun h => by omega⟩
      unfold hfR
      by_cases hv0 : v = 0
      · rw [if_pos hv0, e2 hv0]
      · rw [if_neg hv0]
        exact e3 (by omega) p hp
    | succ m ih =>
      intro i tm hi e1 e2 e3
      have hr := hR i (by omega)
      refine hK _ _ _ ?_
      unfold bX2_putInPlace_2
      rw [e1 2 (by decide), hn, e1 30 (by decide), e1 3 (by decide), show (((i : Nat) : Int).toNat) = i from rfl, pu_i]
      refine ⟨by omega, fun h => by omega, fun _ => ⟨by omega, fun hv0 => ⟨by omega, by omega, by omega, ?_⟩, fun hv0 => ⟨by omega, by omega, by omega, ?_⟩⟩⟩
      · rintro _ rfl
        refine ih (i + 1) _ (by omega) (fun c hc => by rw [pu_sc hc]; exact e1 c hc) (fun _ => ?_) (fun h => by omega)
        funext p
        show _ = if p = (st 30 i).toNat then st 3 i else putF (fun i => (st 30 i).toNat) (st 3) (st 25) i p
        rw [pu_s, ← e2 hv0]
        by_cases e : p = (st 30 i).toNat <;> simp [e]
      · rintro _ rfl
        refine ih (i + 1) _ (by omega) (fun c hc => by rw [pu_sc hc]; exact e1 c hc) (fun h => by omega) (fun h p hp => ?_)
        by_cases e : p = i
        · subst e
          rw [pu_ss]
        · rw [pu_sk e]
          exact e3 h p (by omega)
  exact loop n 0 st (by omega) (fun _ _ => rfl) (fun _ => rfl) (fun _ p h => by omega)
theorem pm_readBy {v by_ : Int} {n : Nat} {st : sq_S} {Q : Int → sq_S → Prop} (hv : (v = 0 ∧ by_ = -1) ∨ (v = 1 ∧ by_ = 1)) (hn : st 1 48 = n) (h48 : n ≤ 48) (hR : ∀ i : Nat, i < n → 0 ≤ st 9 i ∧ st 9 i < n) (hq : ∀ st' : sq_S, (∀ c : Nat, c ≠ 6 → st' c = st c) → (∀ p : Nat, p < n → st' 6 p = hfR v (st 9) (st 5) (st 6) n p) → Q 0 st') : wX4_readBy by_ st Q := by
  intro K hK
  have loop : ∀ (m i : Nat) (tm : sq_S), i + m = n → (∀ c : Nat, c ≠ 6 → tm c = st c) → (v = 0 → tm 6 = putF (fun i => (st 9 i).toNat) (st 5) (st 6) i) → (v = 1 → ∀ p : Nat, p < i → tm 6 p = st 5 (st 9 p).toNat) → K by_ (i : Int) tm := by
    intro m
    induction m with
    | zero =>
      intro i tm hi e1 e2 e3
      have e : i = n := by omega
      subst e
      refine hK _ _ _ (pu_many ?_)
      rw [e1 1 (by decide), hn]
      refine ⟨by omega, fun _ => hq _ e1 (fun p hp => ?_), fun h => by omega⟩
      unfold hfR
      by_cases hv0 : v = 0
      · rw [if_pos hv0, e2 hv0]
      · rw [if_neg hv0]
        exact e3 (by omega) p hp
    | succ m ih =>
      intro i tm hi e1 e2 e3
      have hr := hR i (by omega)
      refine hK _ _ _ (pu_many ?_)
      rw [e1 1 (by decide), hn, e1 9 (by decide), e1 5 (by decide), show (((i : Nat) : Int).toNat) = i from rfl, pu_i]
      refine ⟨by omega, fun h => by omega, fun _ => ⟨by omega, fun hv0 => ⟨by omega, by omega, by omega, ?_⟩, fun hv0 => ⟨by omega, by omega, by omega, ?_⟩⟩⟩
      · have hv0 : v = 0 := by omega
        rintro _ rfl
        refine ih (i + 1) _ (by omega) (fun c hc => by rw [pu_sc hc]; exact e1 c hc) (fun _ => ?_) (fun h => by omega)
        funext p
        show _ = if p = (st 9 i).toNat then st 5 i else putF (fun i => (st 9 i).toNat) (st 5) (st 6) i p
        rw [pu_s, ← e2 hv0]
        by_cases e : p = (st 9 i).toNat <;> simp [e]
      · rintro _ rfl
        refine ih (i + 1) _ (by omega) (fun c hc => by rw [pu_sc hc]; exact e1 c hc) (fun h => by omega) (fun h p hp => ?_)
        by_cases e : p = i
        · subst e
          rw [pu_ss]
        · rw [pu_sk e]
          exact e3 h p (by omega)
  exact loop n 0 st (by omega) (fun _ _ => rfl) (fun _ => rfl) (fun _ p h => by omega)
theorem hfR_eq {v : Int} {n : Nat} {R1 R2 t1 t2 b1 b2 : Nat → Int} (hF : Fr R1 R2 n) (ht : ∀ i : Nat, i < n → t1 i = t2 i ∧ 0 ≤ t2 i ∧ t2 i < 16) {p : Nat} (hp : p < n) : hfR v R1 t1 b1 n p = hfR v R2 t2 b2 n p ∧ 0 ≤ hfR v R2 t2 b2 n p ∧ hfR v R2 t2 b2 n p < 16 := by
  unfold hfR
  by_cases hv : v = 0
  · rw [if_pos hv, if_pos hv]
    obtain ⟨i, hi, e⟩ := hF.2 p hp
    have hr := hF.1 i hi
    have := putF_eq (R := fun i => (R1 i).toNat) (R' := fun i => (R2 i).toNat) (t := t1) (t' := t2) (b := b1) (b' := b2) (N := n) (fun i hi => ⟨by show (R1 i).toNat = (R2 i).toNat; rw [(hF.1 i hi).1], (ht i hi).1⟩) (p := p) ⟨i, hi, by show (R1 i).toNat = p; omega⟩
    obtain ⟨e1, j, hj, e2⟩ := this
    have := ht j hj
    rw [← e1, e2]
    exact ⟨rfl, by omega, by omega⟩
  · rw [if_neg hv, if_neg hv]
    have hr := hF.1 p hp
    have := ht (R1 p).toNat (by omega)
    rw [← hr.1]
    exact this
