/-! pure part: things sorted by kinds, by counting -/
def ctw (cls : Nat → Nat) (w i : Nat) : Nat := fb_ct (fun q => cls q == w) i
def offw (cls : Nat → Nat) (N w : Nat) : Nat := fb_sm (fun w' => ctw cls w' N) w
def posw (cls : Nat → Nat) (N q : Nat) : Nat := offw cls N (cls q) + ctw cls (cls q) q
theorem sm_one {a m : Nat} (g : Nat → Nat) (ha : a < m) : fb_sm (fun c => if a = c then g c else 0) m = g a := by
  have h0 : ∀ n, n ≤ a → fb_sm (fun c => if a = c then g c else 0) n = 0 := by
    intro n
    induction n with
    | zero => intro _; rfl
    | succ n ih =>
      intro hn
      rw [fb_sm_succ, ih (by omega), if_neg (by omega)]
  have h1 : ∀ n, a < n → fb_sm (fun c => if a = c then g c else 0) n = g a := by
    intro n
    induction n with
    | zero => intro h; omega
    | succ n ih =>
      intro hn
      rw [fb_sm_succ]
      by_cases e : a = n
      · subst e
        rw [h0 a (Nat.le_refl a), if_pos rfl, Nat.zero_add]
      · rw [ih (by omega), if_neg e, Nat.add_zero]
  exact h1 m ha
theorem ctw_s (cls : Nat → Nat) (w i : Nat) : ctw cls w (i + 1) = ctw cls w i + if cls i = w then 1 else 0 := by
  unfold ctw
  rw [fb_ct_succ]
  by_cases h : cls i = w
  · simp [h]
  · simp [h]
theorem offw_all {cls : Nat → Nat} {W : Nat} : ∀ {N : Nat}, (∀ q, q < N → cls q < W) → offw cls N W = N
  | 0, _ => by
    unfold offw
    have e : fb_sm (fun w' => ctw cls w' 0) W = fb_sm (fun _ => 0) W := fb_sm_cong (fun k _ => rfl)
    rw [e, fb_sm_const, Nat.mul_zero]
  | N + 1, h => by
    have ih := offw_all (N := N) (fun q hq => h q (by omega))
    unfold offw at ih ⊢
    rw [fb_sm_cong (g := fun w => ctw cls w N + if cls N = w then 1 else 0) (fun w _ => ctw_s cls w N), fb_sm_add, ih, sm_one (fun _ => 1) (h N (by omega))]
theorem offw_le (cls : Nat → Nat) (N : Nat) {a b : Nat} (h : a ≤ b) : offw cls N a ≤ offw cls N b := by
  unfold offw
  have := fb_sm_mono (fun w' => ctw cls w' N) a (b - a)
  rw [show a + (b - a) = b by omega] at this
  exact this
theorem offw_s (cls : Nat → Nat) (N w : Nat) : offw cls N (w + 1) = offw cls N w + ctw cls w N := rfl
theorem ctw_lt {cls : Nat → Nat} {w q N : Nat} (hq : q < N) (h : cls q = w) : ctw cls w q < ctw cls w N := by
  have h1 : ctw cls w (q + 1) ≤ ctw cls w N := fb_ct_mono _ hq
  rw [ctw_s, if_pos h] at h1
  omega
theorem posw_lt {cls : Nat → Nat} {W N q : Nat} (h : ∀ q, q < N → cls q < W) (hq : q < N) : posw cls N q < N := by
  have h1 := ctw_lt (cls := cls) hq rfl
  have h2 := offw_le cls N (show cls q + 1 ≤ W from h q hq)
  rw [offw_s, offw_all h] at h2
  unfold posw
  omega
theorem posw_cov {cls : Nat → Nat} {W N : Nat} (h : ∀ q, q < N → cls q < W) {i : Nat} (hi : i < N) : ∃ q, q < N ∧ posw cls N q = i := by
  have key : ∀ w, i < offw cls N w → ∃ q, q < N ∧ posw cls N q = i := by
    intro w
    induction w with
    | zero => intro h; exact absurd h (Nat.not_lt_zero i)
    | succ w ih =>
      intro hw
      rw [offw_s] at hw
      by_cases hlt : i < offw cls N w
      · exact ih hlt
      · obtain ⟨q, h1, h2, h3⟩ := fb_ct_kth (p := fun q => cls q == w) (k := i - offw cls N w) (n := N) (by unfold ctw at hw; omega)
        have h2 : cls q = w := eq_of_beq h2
        have h3 : ctw cls w q = i - offw cls N w := h3
        refine ⟨q, h1, ?_⟩
        unfold posw
        rw [h2, h3]
        omega
  exact key W (by rw [offw_all h]; exact hi)
/-- a row that holds each thing at its place -/
def Flw (cls : Nat → Nat) (N : Nat) (R : Nat → Int) : Prop := ∀ q : Nat, q < N → R (posw cls N q) = q
/-- two rows of places: the same, in range, and every place is there -/
def Fr (R1 R2 : Nat → Int) (N : Nat) : Prop := (∀ i : Nat, i < N → R1 i = R2 i ∧ 0 ≤ R1 i ∧ R1 i < N) ∧ ∀ p : Nat, p < N → ∃ i : Nat, i < N ∧ R1 i = p
theorem Flw.fr {cls : Nat → Nat} {W N : Nat} {R1 R2 : Nat → Int} (h : ∀ q, q < N → cls q < W) (h1 : Flw cls N R1) (h2 : Flw cls N R2) : Fr R1 R2 N := by
  refine ⟨fun i hi => ?_, fun p hp => ⟨posw cls N p, posw_lt h hp, h1 p hp⟩⟩
  obtain ⟨q, hq, e⟩ := posw_cov h hi
  rw [← e, h1 q hq, h2 q hq]
  omega
/-- the walk over kinds and things: what is filled before (w, i) -/
def Flp (cls : Nat → Nat) (N w i : Nat) (R : Nat → Int) : Prop := ∀ q : Nat, q < N → (cls q < w ∨ (cls q = w ∧ q < i)) → R (posw cls N q) = q
theorem Flp.skip {cls : Nat → Nat} {N w i : Nat} {R : Nat → Int} (h : Flp cls N w i R) (hne : cls i ≠ w) : Flp cls N w (i + 1) R := fun q hq hc => h q hq (by
  rcases hc with hc | ⟨h1, h2⟩
  · exact Or.inl hc
  · have : q ≠ i := fun e => hne (by rw [← e]; exact h1)
    exact Or.inr ⟨h1, by omega⟩)
theorem Flp.put {cls : Nat → Nat} {N w i : Nat} {st : sq_S} {c : Nat} (h : Flp cls N w i (st c)) (hi : i < N) (he : cls i = w) : Flp cls N w (i + 1) (sq_set st c (offw cls N w + ctw cls w i) i c) := by
  intro q hq hc
  have hp : posw cls N i = offw cls N w + ctw cls w i := by unfold posw; rw [he]
  by_cases e : q = i
  · subst e
    rw [hp, pu_ss]
  · have hne : posw cls N q ≠ offw cls N w + ctw cls w i := by
      rw [← hp]
      intro e2
      unfold posw at e2
      by_cases hcl : cls q = cls i
      · rw [hcl] at e2
        have e3 : ctw cls (cls i) q = ctw cls (cls i) i := by omega
        exact e (fb_ct_kth_one (p := fun q => cls q == cls i) (by simp [hcl]) (by simp) e3)
      · rcases Nat.lt_or_ge (cls q) (cls i) with h1 | h1
        · have a1 := ctw_lt (cls := cls) hq rfl
          have a2 := offw_le cls N (show cls q + 1 ≤ cls i from h1)
          rw [offw_s] at a2
          omega
        · have a1 := ctw_lt (cls := cls) hi rfl
          have a2 := offw_le cls N (show cls i + 1 ≤ cls q by omega)
          rw [offw_s] at a2
          omega
    rw [pu_sk hne]
    refine h q hq ?_
    rcases hc with hc | ⟨h1, h2⟩
    · exact Or.inl hc
    · exact Or.inr ⟨h1, by omega⟩
theorem Flp.next {cls : Nat → Nat} {N w : Nat} {R : Nat → Int} (h : Flp cls N w N R) : Flp cls N (w + 1) 0 R := fun q hq hc => h q hq (by
  rcases hc with hc | ⟨h1, h2⟩
  · by_cases e : cls q = w
    · exact Or.inr ⟨e, hq⟩
    · exact Or.inl (by omega)
  · omega)
theorem Flp.all {cls : Nat → Nat} {W N : Nat} {R : Nat → Int} (hw : ∀ q, q < N → cls q < W) (h : Flp cls N W 0 R) : Flw cls N R := fun q hq => h q hq (Or.inl (hw q hq))
/-- how many come before a thing: by kind, or of its kind and earlier -/
theorem posw_cnt {cls : Nat → Nat} {N q : Nat} (hq : q ≤ N) : fb_ct (fun j => decide (cls j < cls q) || (decide (cls j = cls q) && decide (j < q))) N = posw cls N q := by
  have h1 : ∀ w, fb_ct (fun j => decide (cls j < w)) N = offw cls N w := by
    intro w
    induction w with
    | zero =>
      rw [fb_ct_zero.mpr (fun k _ => by simp)]
      rfl
    | succ w ih =>
      rw [offw_s, ← ih]
      unfold ctw
      rw [← fb_ct_or (fun k _ => by simp; omega)]
      refine fb_ct_cong (fun k _ => ?_)
      rw [Bool.eq_iff_iff]
      simp
      omega
  have h2 : fb_ct (fun j => decide (cls j = cls q) && decide (j < q)) N = ctw cls (cls q) q := by
    have e := fb_ct_split (fun j => decide (cls j = cls q) && decide (j < q)) q (N - q)
    rw [show q + (N - q) = N by omega] at e
    have z : fb_ct (fun k => decide (cls (q + k) = cls q) && decide (q + k < q)) (N - q) = 0 := fb_ct_zero.mpr (fun k _ => by simp)
    rw [e, z, Nat.add_zero]
    unfold ctw
    exact fb_ct_cong (fun k hk => by by_cases h : cls k = cls q <;> simp [h, hk])
  rw [fb_ct_or (fun k _ => by simp; omega), h1, h2]
  rfl
