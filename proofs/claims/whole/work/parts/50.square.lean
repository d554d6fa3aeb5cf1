/-! pure part: the square -/
def hasL (S : Nat → Nat) (n l : Nat) : Bool := (List.range n).any (fun i => S i == l)
theorem hasL_iff {S : Nat → Nat} {n l : Nat} : hasL S n l = true ↔ ∃ i, i < n ∧ S i = l := by
  unfold hasL
  rw [List.any_eq_true]
  constructor
  · rintro ⟨i, h1, h2⟩
    exact ⟨i, List.mem_range.mp h1, eq_of_beq h2⟩
  · rintro ⟨i, h1, h2⟩
    exact ⟨i, List.mem_range.mpr h1, by rw [h2]; exact beq_self_eq_true l⟩
theorem hasL_no {S : Nat → Nat} {n l : Nat} (h : hasL S n l = false) : ∀ i, i < n → S i ≠ l := fun i hi e => by
  have := hasL_iff.mpr ⟨i, hi, e⟩
  rw [h] at this
  cases this
def lyI (p : Nat × (Nat → Nat)) (l : Nat) : Nat × (Nat → Nat) := if hasL p.2 p.1 l = true then p else (p.1 + 1, fun j => if j = p.1 then l else p.2 j)
def lyS (key : Nat → Nat) : Nat → Nat × (Nat → Nat)
  | 0 => (0, fun _ => 0)
  | i + 1 => lyI (lyS key i) (key i)
def lyR (p : Nat × (Nat → Nat)) : Nat → Nat × (Nat → Nat)
  | 0 => p
  | j + 1 => lyI (lyR p j) j
def LyOk (p : Nat × (Nat → Nat)) : Prop := (∀ i, i < p.1 → p.2 i < 16) ∧ ∀ i j, i < j → j < p.1 → p.2 i ≠ p.2 j
theorem LyOk.le {p : Nat × (Nat → Nat)} (h : LyOk p) : p.1 ≤ 16 := fb_holes 16 p.1 p.2 h.1 h.2
theorem LyOk.step {p : Nat × (Nat → Nat)} (h : LyOk p) {l : Nat} (hl : l < 16) : LyOk (lyI p l) := by
  unfold lyI
  cases hh : hasL p.2 p.1 l with
  | true => simpa using h
  | false =>
    have hn := hasL_no hh
    simp only [Bool.false_eq_true, if_false]
    refine ⟨fun i hi => ?_, fun i j hij hj => ?_⟩
    · show (if i = p.1 then l else p.2 i) < 16
      split
      · exact hl
      · exact h.1 i (by have : i < p.1 + 1 := hi; omega)
    · have hj : j < p.1 + 1 := hj
      show (if i = p.1 then l else p.2 i) ≠ (if j = p.1 then l else p.2 j)
      rw [if_neg (by omega)]
      split
      · exact hn i (by omega)
      · exact h.2 i j hij (by omega)
theorem lyI_fst {p : Nat × (Nat → Nat)} {l : Nat} (hn : hasL p.2 p.1 l = false) : (lyI p l).1 = p.1 + 1 := by
  unfold lyI
  rw [hn]
  simp
theorem lyI_id {p : Nat × (Nat → Nat)} {l : Nat} (hn : hasL p.2 p.1 l = true) : lyI p l = p := by
  unfold lyI
  rw [hn]
  simp
theorem LyOk.lt {p : Nat × (Nat → Nat)} (h : LyOk p) {l : Nat} (hl : l < 16) (hn : hasL p.2 p.1 l = false) : p.1 < 16 := by
  have h1 := (h.step hl).le
  rw [lyI_fst hn] at h1
  omega
theorem lyI_has (p : Nat × (Nat → Nat)) (l l' : Nat) : hasL (lyI p l).2 (lyI p l).1 l' = true ↔ hasL p.2 p.1 l' = true ∨ l = l' := by
  unfold lyI
  cases hh : hasL p.2 p.1 l with
  | true =>
    simp only [if_true]
    constructor
    · exact Or.inl
    · rintro (h | rfl)
      · exact h
      · exact hh
  | false =>
    simp only [Bool.false_eq_true, if_false]
    rw [hasL_iff, hasL_iff]
    constructor
    · rintro ⟨i, h1, h2⟩
      have h1 : i < p.1 + 1 := h1
      have h2 : (if i = p.1 then l else p.2 i) = l' := h2
      by_cases e : i = p.1
      · rw [if_pos e] at h2
        exact Or.inr h2
      · rw [if_neg e] at h2
        exact Or.inl ⟨i, by omega, h2⟩
    · rintro (⟨i, h1, h2⟩ | rfl)
      · refine ⟨i, Nat.lt_succ_of_lt h1, ?_⟩
        show (if i = p.1 then l else p.2 i) = l'
        rw [if_neg (by omega)]
        exact h2
      · refine ⟨p.1, Nat.lt_succ_self _, ?_⟩
        show (if p.1 = p.1 then l else p.2 p.1) = l
        rw [if_pos rfl]
theorem lyS_ok {key : Nat → Nat} : ∀ {k : Nat}, (∀ i, i < k → key i < 16) → LyOk (lyS key k)
  | 0, _ => ⟨fun i h => absurd h (Nat.not_lt_zero i), fun i j _ h => absurd h (Nat.not_lt_zero j)⟩
  | k + 1, h => (lyS_ok (fun i hi => h i (by omega))).step (h k (by omega))
theorem lyR_ok {p : Nat × (Nat → Nat)} (h : LyOk p) : ∀ {j : Nat}, j ≤ 16 → LyOk (lyR p j)
  | 0, _ => h
  | j + 1, hj => (lyR_ok h (by omega)).step (by omega)
theorem lyR_has {p : Nat × (Nat → Nat)} : ∀ (j l : Nat), hasL (lyR p j).2 (lyR p j).1 l = true ↔ hasL p.2 p.1 l = true ∨ l < j
  | 0, l => by
    show hasL p.2 p.1 l = true ↔ _
    constructor
    · exact Or.inl
    · rintro (h | h)
      · exact h
      · omega
  | j + 1, l => by
    show hasL (lyI (lyR p j) j).2 (lyI (lyR p j) j).1 l = true ↔ _
    rw [lyI_has, lyR_has j l]
    constructor
    · rintro ((h | h) | h)
      · exact Or.inl h
      · exact Or.inr (by omega)
      · exact Or.inr (by omega)
    · rintro (h | h)
      · exact Or.inl (Or.inl h)
      · by_cases e : j = l
        · exact Or.inr e
        · exact Or.inl (Or.inr (by omega))
theorem lyS_cong {key key' : Nat → Nat} : ∀ {k : Nat}, (∀ i, i < k → key i = key' i) → lyS key k = lyS key' k
  | 0, _ => rfl
  | k + 1, h => by
    show lyI (lyS key k) (key k) = lyI (lyS key' k) (key' k)
    rw [lyS_cong (fun i hi => h i (by omega)), h k (by omega)]
def lyF (key : Nat → Nat) (k : Nat) : Nat × (Nat → Nat) := lyR (lyS key k) 16
def lySq (key : Nat → Nat) (k : Nat) : Nat → Nat := (lyF key k).2
/-- sixteen different letters -/
def Pm (S : Nat → Nat) : Prop := (∀ i, i < 16 → S i < 16) ∧ ∀ i j, i < j → j < 16 → S i ≠ S j
theorem ly_all {p : Nat × (Nat → Nat)} (hok : LyOk p) (hex : ∀ l : Nat, l < 16 → ∃ i, i < p.1 ∧ p.2 i = l) : p.1 = 16 ∧ Pm p.2 := by
  have hge : 16 ≤ p.1 := by
    obtain ⟨f, hf⟩ : ∃ f : Nat → Nat, ∀ l : Nat, l < 16 → f l < p.1 ∧ p.2 (f l) = l := by
      refine ⟨fun l => if h : l < 16 then Classical.choose (hex l h) else 0, fun l hl => ?_⟩
      show (if h : l < 16 then Classical.choose (hex l h) else 0) < _ ∧ p.2 (if h : l < 16 then Classical.choose (hex l h) else 0) = l
      rw [dif_pos hl]
      exact Classical.choose_spec (hex l hl)
    refine fb_holes _ 16 f (fun l hl => (hf l hl).1) (fun a b hab hb e => ?_)
    have h1 := (hf a (by omega)).2
    have h2 := (hf b hb).2
    rw [e] at h1
    omega
  have he : p.1 = 16 := Nat.le_antisymm hok.le hge
  refine ⟨he, fun i hi => hok.1 i (by rw [he]; exact hi), fun i j hij hj => hok.2 i j hij (by rw [he]; exact hj)⟩
theorem ly_16 {key : Nat → Nat} {k : Nat} (h : ∀ i, i < k → key i < 16) : (lyF key k).1 = 16 ∧ Pm (lySq key k) := by
  obtain ⟨j, hj⟩ : ∃ j : Nat, j = 16 := ⟨_, rfl⟩
  have e : lyF key k = lyR (lyS key k) j := by rw [hj]; rfl
  unfold lySq
  rw [e]
  exact ly_all (lyR_ok (lyS_ok h) (by omega)) (fun l hl => hasL_iff.mp ((lyR_has j l).mpr (Or.inr (by omega))))
theorem lyR_16 {key : Nat → Nat} {k j : Nat} (h : j = 16) : lyR (lyS key k) j = lyF key k := by rw [h]; rfl
theorem px_put {l n : Nat} {st : sq_S} {Q : Int → sq_S → Prop} (hl : l < 16) (hn : n < 16) (hq : Q 0 (sq_set (sq_set st 27 n l) 28 l n)) : wX1_put l n st Q := by
  refine ⟨by omega, ?_⟩
  rintro _ rfl
  refine ⟨by omega, ?_⟩
  rintro _ rfl
  exact hq
def SqR (tm : sq_S) (p : Nat × (Nat → Nat)) : Prop := ∀ i, i < p.1 → tm 27 i = p.2 i ∧ tm 28 (p.2 i) = i
theorem SqR.put {tm : sq_S} {p : Nat × (Nat → Nat)} (h : SqR tm p) {l : Nat} (hn : hasL p.2 p.1 l = false) : SqR (sq_set (sq_set tm 27 p.1 l) 28 l p.1) (lyI p l) := by
  have hno := hasL_no hn
  unfold lyI
  rw [hn]
  simp only [Bool.false_eq_true, if_false]
  intro i hi
  have hi : i < p.1 + 1 := hi
  show _ = ((if i = p.1 then l else p.2 i : Nat) : Int) ∧ sq_set (sq_set tm 27 p.1 l) 28 l p.1 28 (if i = p.1 then l else p.2 i) = i
  by_cases e : i = p.1
  · subst e
    rw [if_pos rfl, pu_ss, pu_sc (by decide), pu_ss]
    exact ⟨rfl, rfl⟩
  · have h1 := h i (by omega)
    rw [if_neg e, pu_sk (hno i (by omega)), pu_sc (by decide), pu_sk e, pu_sc (by decide)]
    exact h1
theorem b_ff {a : Bool} (h : ¬ a = true) : a = false := by cases a <;> simp_all
/-- the class lays the square out -/
theorem px_layOut {k : Nat} {key : Nat → Nat} {st : sq_S} {Q : Int → sq_S → Prop} (hk : k ≤ 6) (hkey : ∀ i : Nat, i < k → st 4 i = key i ∧ key i < 16) (hq : ∀ st' : sq_S, (∀ c : Nat, c ≠ 27 → c ≠ 28 → st' c = st c) → (∀ i : Nat, i < 16 → st' 27 i = lySq key k i ∧ st' 28 (lySq key k i) = i) → Q 0 st') : wX1_layOut k st Q := by
  intro K K2 hK hK2
  have hkl : ∀ i : Nat, i < k → key i < 16 := fun i hi => (hkey i hi).2
  -- all others
  have l2 : ∀ (m j mask : Nat) (tm : sq_S), j + m = 16 → mask < 65536 → (∀ l : Nat, l < 16 → (mask.testBit l = true ↔ hasL (lyS key k).2 (lyS key k).1 l = true)) → (∀ c : Nat, c ≠ 27 → c ≠ 28 → tm c = st c) → SqR tm (lyR (lyS key k) j) → K2 ((lyR (lyS key k) j).1 : Int) (mask : Int) (j : Int) tm := by
    intro m
    induction m with
    | zero =>
      intro j mask tm hj hm hb e1 e2
      have e : j = 16 := by omega
      rw [lyR_16 e] at e2
      have fin : ∀ i : Nat, i < 16 → tm 27 i = lySq key k i ∧ tm 28 (lySq key k i) = i := by
        intro i hi
        unfold lySq
        exact e2 i (by rw [(ly_16 hkl).1]; exact hi)
      exact hK2 _ _ _ _ ⟨by omega, fun _ => hq _ e1 fin, fun h => by omega⟩
    | succ m ih =>
      intro j mask tm hj hm hb e1 e2
      have hok : LyOk (lyR (lyS key k) j) := lyR_ok (lyS_ok hkl) (by omega)
      have hbj : hasL (lyR (lyS key k) j).2 (lyR (lyS key k) j).1 j = true ↔ mask.testBit j = true := by
        rw [lyR_has j j, hb j (by omega)]
        constructor
        · rintro (h | h)
          · exact h
          · omega
        · exact Or.inl
      refine hK2 _ _ _ _ ⟨by omega, fun h => by omega, fun _ => ?_⟩
      rw [pb_bit hm (by omega)]
      by_cases hbit : mask.testBit j = true
      · rw [if_pos hbit]
        refine ⟨by decide, fun _ => ?_, fun h => absurd h (by decide)⟩
        have hid : lyR (lyS key k) (j + 1) = lyR (lyS key k) j := lyI_id (hbj.mpr hbit)
        have := ih (j + 1) mask tm (by omega) hm hb e1 (by rw [hid]; exact e2)
        rw [hid] at this
        rw [pu_i]
        exact this
      · rw [if_neg hbit]
        refine ⟨by decide, fun h => absurd rfl h, fun _ => ?_⟩
        have hno : hasL (lyR (lyS key k) j).2 (lyR (lyS key k) j).1 j = false := b_ff (fun h => hbit (hbj.mp h))
        have hlt := hok.lt (show j < 16 by omega) hno
        refine px_put (by omega) hlt ?_
        have := ih (j + 1) mask _ (by omega) hm hb (fun c h1 h2 => by rw [pu_sc h2, pu_sc h1]; exact e1 c h1 h2) (e2.put hno)
        have hf : (lyR (lyS key k) (j + 1)).1 = (lyR (lyS key k) j).1 + 1 := lyI_fst hno
        rw [hf] at this
        rw [pu_i, pu_i]
        exact this
  -- the key
  have l1 : ∀ (m i mask : Nat) (tm : sq_S), i + m = k → mask < 65536 → (∀ l : Nat, l < 16 → (mask.testBit l = true ↔ hasL (lyS key i).2 (lyS key i).1 l = true)) → (∀ c : Nat, c ≠ 27 → c ≠ 28 → tm c = st c) → SqR tm (lyS key i) → K k ((lyS key i).1 : Int) (mask : Int) (i : Int) tm := by
    intro m
    induction m with
    | zero =>
      intro i mask tm hi hm hb e1 e2
      have e : i = k := by omega
      subst e
      exact hK _ _ _ _ _ ⟨by omega, fun _ => l2 16 0 mask tm (by omega) hm hb e1 e2, fun h => by omega⟩
    | succ m ih =>
      intro i mask tm hi hm hb e1 e2
      have hok : LyOk (lyS key i) := lyS_ok (fun j hj => hkl j (by omega))
      obtain ⟨hk1, hk2⟩ := hkey i (by omega)
      refine hK _ _ _ _ _ ?_
      unfold bX1_layOut_8
      rw [show (((i : Nat) : Int).toNat) = i from rfl, e1 4 (by decide) (by decide), hk1]
      refine ⟨by omega, fun h => by omega, fun _ => ⟨by omega, ?_⟩⟩
      rw [pb_bit hm hk2]
      by_cases hbit : mask.testBit (key i) = true
      · rw [if_pos hbit]
        refine ⟨by decide, fun _ => ?_, fun h => absurd h (by decide)⟩
        have hid : lyS key (i + 1) = lyS key i := lyI_id ((hb _ hk2).mp hbit)
        have := ih (i + 1) mask tm (by omega) hm (by rw [hid]; exact hb) e1 (by rw [hid]; exact e2)
        rw [hid] at this
        rw [pu_i]
        exact this
      · rw [if_neg hbit]
        refine ⟨by decide, fun h => absurd rfl h, fun _ => ⟨by omega, ?_⟩⟩
        obtain ⟨w, w1, w2, w3⟩ := pb_put (b := key i) hm hk2
        rw [w2]
        rintro _ rfl
        refine ⟨by omega, ?_⟩
        have hno : hasL (lyS key i).2 (lyS key i).1 (key i) = false := b_ff (fun h => hbit ((hb _ hk2).mpr h))
        have hlt := hok.lt hk2 hno
        refine px_put hk2 hlt ?_
        have := ih (i + 1) w _ (by omega) w1 (fun l hl => by
          show _ ↔ hasL (lyI (lyS key i) (key i)).2 (lyI (lyS key i) (key i)).1 l = true
          rw [lyI_has, w3 l, ← hb l hl]
          simp
          constructor
          · rintro (h | h)
            · exact Or.inl h
            · exact Or.inr h.symm
          · rintro (h | h)
            · exact Or.inl h
            · exact Or.inr h.symm) (fun c h1 h2 => by rw [pu_sc h2, pu_sc h1]; exact e1 c h1 h2) (e2.put hno)
        have hf : (lyS key (i + 1)).1 = (lyS key i).1 + 1 := lyI_fst hno
        rw [hf] at this
        rw [pu_i, pu_i]
        exact this
  exact l1 k 0 0 st (by omega) (by decide) (fun l hl => by simp [lyS, hasL]) (fun _ _ _ => rfl) (fun i h => absurd h (Nat.not_lt_zero i))
/-- the reference lays the square -/
theorem pm_laySquare {k : Nat} {key : Nat → Nat} {st : sq_S} {Q : Int → sq_S → Prop} (hk1 : st 1 55 = k) (hk : k ≤ 6) (hkey : ∀ i : Nat, i < k → st 1 (49 + i) = key i ∧ key i < 16) (hq : ∀ st' : sq_S, (∀ c : Nat, c ≠ 7 → st' c = st c) → (∀ i : Nat, i < 16 → st' 7 i = lySq key k i) → Q 0 st') : wX4_laySquare st Q := by
  intro K K2 hK hK2
  have hkl : ∀ i : Nat, i < k → key i < 16 := fun i hi => (hkey i hi).2
  -- one letter
  have one : ∀ (p : Nat × (Nat → Nat)) (l mask x : Nat) (tm : sq_S), LyOk p → l < 16 → mask < 65536 → (∀ l : Nat, l < 16 → (mask.testBit l = true ↔ hasL p.2 p.1 l = true)) → (∀ c : Nat, c ≠ 7 → tm c = st c) → (∀ i : Nat, i < p.1 → tm 7 i = p.2 i) → (∀ (mask' : Nat) (tm' : sq_S), mask' < 65536 → (∀ l' : Nat, l' < 16 → (mask'.testBit l' = true ↔ hasL (lyI p l).2 (lyI p l).1 l' = true)) → (∀ c : Nat, c ≠ 7 → tm' c = st c) → (∀ i : Nat, i < (lyI p l).1 → tm' 7 i = (lyI p l).2 i) → K ((lyI p l).1 : Int) (mask' : Int) ((x + 1 : Nat) : Int) tm') → K2 (p.1 : Int) (mask : Int) (x : Int) (l : Int) tm := by
    intro p l mask x tm hok hl hm hb e1 e2 kk
    refine hK2 _ _ _ _ _ ?_
    unfold bX4_laySquare_52
    rw [pb_bit hm hl]
    by_cases hbit : mask.testBit l = true
    · rw [if_pos hbit]
      refine ⟨by decide, fun _ => ?_, fun h => absurd h (by decide)⟩
      have hid : lyI p l = p := lyI_id ((hb l hl).mp hbit)
      have := kk mask tm hm (by rw [hid]; exact hb) e1 (by rw [hid]; exact e2)
      rw [hid] at this
      rw [pu_i]
      exact this
    · rw [if_neg hbit]
      have hno : hasL p.2 p.1 l = false := b_ff (fun h => hbit ((hb l hl).mpr h))
      have hlt := hok.lt hl hno
      refine ⟨by decide, fun h => absurd rfl h, fun _ => ⟨by omega, ?_⟩⟩
      rintro _ rfl
      obtain ⟨w, w1, w2, w3⟩ := pb_put (b := l) hm hl
      rw [w2]
      rintro _ rfl
      have := kk w (sq_set tm 7 p.1 l) w1 (fun l' hl' => by
        rw [lyI_has, w3 l', ← hb l' hl']
        simp
        constructor
        · rintro (h | h)
          · exact Or.inl h
          · exact Or.inr h.symm
        · rintro (h | h)
          · exact Or.inl h
          · exact Or.inr h.symm) (fun c h1 => by rw [pu_sc h1]; exact e1 c h1) (fun i hi => by
        rw [lyI_fst hno] at hi
        unfold lyI
        rw [hno]
        simp only [Bool.false_eq_true, if_false]
        by_cases e : i = p.1
        · subst e
          rw [pu_ss, if_pos rfl]
        · rw [pu_sk e, if_neg e]
          exact e2 i (by omega))
      rw [lyI_fst hno] at this
      rw [pu_i, pu_i]
      exact this
  have l2 : ∀ (m j mask : Nat) (tm : sq_S), j + m = 16 → mask < 65536 → (∀ l : Nat, l < 16 → (mask.testBit l = true ↔ hasL (lyR (lyS key k) j).2 (lyR (lyS key k) j).1 l = true)) → (∀ c : Nat, c ≠ 7 → tm c = st c) → (∀ i : Nat, i < (lyR (lyS key k) j).1 → tm 7 i = (lyR (lyS key k) j).2 i) → K ((lyR (lyS key k) j).1 : Int) (mask : Int) ((k + j : Nat) : Int) tm := by
    intro m
    induction m with
    | zero =>
      intro j mask tm hj hm hb e1 e2
      have e : j = 16 := by omega
      rw [lyR_16 e] at e2
      have fin : ∀ i : Nat, i < 16 → tm 7 i = lySq key k i := by
        intro i hi
        unfold lySq
        exact e2 i (by rw [(ly_16 hkl).1]; exact hi)
      refine hK _ _ _ _ ?_
      unfold bX4_laySquare_6
      rw [e1 1 (by decide), hk1]
      exact ⟨by decide, by omega, fun _ => hq _ e1 fin, fun h => by omega⟩
    | succ m ih =>
      intro j mask tm hj hm hb e1 e2
      refine hK _ _ _ _ ?_
      unfold bX4_laySquare_6
      rw [e1 1 (by decide), hk1]
      refine ⟨by decide, by omega, fun h => by omega, fun _ => ⟨by decide, by omega, fun _ => ⟨by decide, ?_⟩, fun h => by omega⟩⟩
      rw [show ((k + j : Nat) : Int) - (k : Int) = (j : Int) by omega]
      exact one _ j mask (k + j) tm (lyR_ok (lyS_ok hkl) (by omega)) (by omega) hm hb e1 e2 (fun mask' tm' a1 a2 a3 a4 => ih (j + 1) mask' tm' (by omega) a1 a2 a3 a4)
  have l1 : ∀ (m i mask : Nat) (tm : sq_S), i + m = k → mask < 65536 → (∀ l : Nat, l < 16 → (mask.testBit l = true ↔ hasL (lyS key i).2 (lyS key i).1 l = true)) → (∀ c : Nat, c ≠ 7 → tm c = st c) → (∀ j : Nat, j < (lyS key i).1 → tm 7 j = (lyS key i).2 j) → K ((lyS key i).1 : Int) (mask : Int) (i : Int) tm := by
    intro m
    induction m with
    | zero =>
      intro i mask tm hi hm hb e1 e2
      have e : i = k := by omega
      subst e
      exact l2 16 0 mask tm (by omega) hm hb e1 e2
    | succ m ih =>
      intro i mask tm hi hm hb e1 e2
      obtain ⟨hy1, hy2⟩ := hkey i (by omega)
      refine hK _ _ _ _ ?_
      unfold bX4_laySquare_6
      rw [e1 1 (by decide), hk1]
      refine ⟨by decide, by omega, fun h => by omega, fun _ => ⟨by decide, by omega, fun h => by omega, fun _ => ⟨by omega, ?_⟩⟩⟩
      rw [show (49 + (i : Int)).toNat = 49 + i by omega, hy1]
      exact one _ (key i) mask i tm (lyS_ok (fun j hj => hkl j (by omega))) hy2 hm hb e1 e2 (fun mask' tm' a1 a2 a3 a4 => ih (i + 1) mask' tm' (by omega) a1 a2 a3 a4)
  exact l1 k 0 0 st (by omega) (by decide) (fun l hl => by simp [lyS, hasL]) (fun _ _ => rfl) (fun i h => absurd h (Nat.not_lt_zero i))
