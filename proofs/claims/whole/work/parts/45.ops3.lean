/-! pure part: like, count, take -/
theorem px_likedPairs {st : sq_S} {Q : Int → sq_S → Prop} (h : ∀ a : Nat, a < 16 → ∃ v : Nat, v < 65536 ∧ st 6 a = v) (hq : Q (su (fun a => su (fun c => lX st a c) 16) 16) st) : wX0_likedPairs st Q := by
  intro K hK
  have loop : ∀ (m k : Nat), k + m = 16 → K (su (fun a => su (fun c => lX st a c) 16) k) (k : Int) st := by
    intro m
    induction m with
    | zero =>
      intro k hk
      have e : k = 16 := by omega
      subst e
      exact hK _ _ _ ⟨by decide, fun _ => hq, fun h => by omega⟩
    | succ m ih =>
      intro k hk
      obtain ⟨v, e1, e2⟩ := h k (by omega)
      refine hK _ _ _ ⟨by omega, fun h => by omega, fun _ => ⟨by omega, ?_⟩⟩
      rw [show (((k : Nat) : Int).toNat) = k from rfl, e2]
      refine pb_count e1 ?_
      rintro _ rfl
      have e : su (fun a => su (fun c => lX st a c) 16) (k + 1) = su (fun a => su (fun c => lX st a c) 16) k + su (fun c => if v.testBit c then 1 else 0) 16 := by
        rw [su_s]
        congr 1
        exact su_cong (fun c hc => by unfold lX; rw [e2]; exact pb_bit e1 hc)
      rw [pu_i, ← e]
      exact ih (k + 1) (by omega)
  exact loop 16 0 (by omega)
theorem pm_liked {st : sq_S} {Q : Int → sq_S → Prop} (hq : Q (su (fun k => st 1 (72 + k)) 256) st) : wX4_liked st Q := by
  intro K hK
  have loop : ∀ (m k : Nat), k + m = 256 → K (su (fun k => st 1 (72 + k)) k) (k : Int) st := by
    intro m
    induction m with
    | zero =>
      intro k hk
      have e : k = 256 := by omega
      subst e
      exact hK _ _ _ ⟨by decide, fun _ => hq, fun h => by omega⟩
    | succ m ih =>
      intro k hk
      refine hK _ _ _ ⟨by omega, fun h => by omega, fun _ => ⟨by omega, ?_⟩⟩
      rintro _ rfl
      rw [show (72 + (k : Int)).toNat = 72 + k by omega]
      have e : su (fun k => st 1 (72 + k)) (k + 1) = su (fun k => st 1 (72 + k)) k + st 1 (72 + k) := su_s _ _
      rw [pu_i, ← e]
      exact ih (k + 1) (by omega)
  exact loop 256 0 (by omega)
/-- how many are LIKED is the same on both sides -/
theorem pl_eq {sx sm : sq_S} (h : Dl sx 2 (sm 1)) : su (fun a => su (fun c => lX sx a c) 16) 16 = su (fun k => sm 1 (72 + k)) 256 ∧ 0 ≤ su (fun k => sm 1 (72 + k)) 256 ∧ su (fun k => sm 1 (72 + k)) 256 ≤ 256 := by
  have hb : su (fun k => sm 1 (72 + k)) 256 = su (fun a => su (fun c => sm 1 (72 + (16 * a + c))) 16) 16 := su_blk (fun k => sm 1 (72 + k)) 16
  have hx : ∀ a : Nat, a < 16 → ∀ c : Nat, c < 16 → lX sx a c = sm 1 (72 + (16 * a + c)) ∧ 0 ≤ sm 1 (72 + (16 * a + c)) ∧ sm 1 (72 + (16 * a + c)) ≤ 1 := by
    intro a ha c hc
    have := lXM h ha hc
    rw [show 72 + (16 * a + c) = 72 + 16 * a + c by omega]
    exact this
  rw [hb]
  refine ⟨su_cong (fun a ha => su_cong (fun c hc => (hx a ha c hc).1)), ?_⟩
  have := su_bd (f := fun a => su (fun c => sm 1 (72 + (16 * a + c))) 16) (c := 16) (n := 16) (fun a ha => by
    have := su_bd (f := fun c => sm 1 (72 + (16 * a + c))) (c := 1) (n := 16) (fun c hc => (hx a ha c hc).2)
    exact ⟨this.1, by have := this.2; omega⟩)
  exact ⟨this.1, by have := this.2; omega⟩
theorem Rel.like {sx sm : sq_S} (hR : Rel sx sm) {a b w : Nat} {x : Int} (ha : a < 16) (hb : b < 16) (hw : w < 65536) (hv : ∀ c : Nat, c < 16 → (if c = b then x else sm 1 (72 + 16 * a + c)) = if w.testBit c then 1 else 0) : Rel (sq_set sx 6 a w) (sq_set sm 1 (72 + 16 * a + b) x) := by
  obtain ⟨hp, ⟨d1, d2, d3, d4, d5⟩, h3⟩ := hR
  refine ⟨?_, ⟨?_, ?_, ?_, ?_, ?_⟩, ?_⟩
  · unfold Rp
    rw [pu_sc (show (0 : Nat) ≠ 6 by decide), pu_sc (show (0 : Nat) ≠ 1 by decide), pu_sc (show (1 : Nat) ≠ 6 by decide), pu_sc (show (4 : Nat) ≠ 1 by decide)]
    exact hp
  · exact d1.to (by rw [pu_sc (by decide)]) (fun i _ => by rw [pu_sc (by decide)]) (fun i _ => by rw [pu_sk (by omega)])
  · exact d2.to (by rw [pu_sc (by decide)]) (fun i _ => by rw [pu_sc (by decide)]) (fun i _ _ => by rw [pu_sk (by omega)])
  · exact d3.to (fun i _ => by rw [pu_sc (by decide)]) (fun i _ _ => by rw [pu_sk (by omega)])
  · intro a' ha'
    by_cases h2 : a' = a
    · subst h2
      refine ⟨w, hw, by rw [show 2 + 4 = 6 from rfl, pu_ss], fun c hc => ?_⟩
      rw [← hv c hc, pu_s]
      by_cases h : c = b
      · subst h
        rw [if_pos ⟨rfl, rfl⟩, if_pos rfl]
      · rw [if_neg (by omega), if_neg h]
    · obtain ⟨v, e1, e2, e3⟩ := d4 a' ha'
      refine ⟨v, e1, by rw [show 2 + 4 = 6 from rfl, pu_sk h2]; exact e2, fun c hc => ?_⟩
      rw [pu_sk (by omega)]
      exact e3 c hc
  · exact d5.to (by rw [pu_sc (by decide)]) (fun i _ => by rw [pu_sc (by decide)]) (fun i _ => by rw [pu_sc (by decide)]) (fun i _ _ => by rw [pu_sk (by omega)])
  · exact h3.cells (by rw [pu_sc (by decide)]) (fun c hc _ => by rw [pu_sc (by omega)]) (by rw [pu_sc (by decide)]) (by rw [pu_sc (by decide)])
theorem Rel.lv {sx sm : sq_S} (hR : Rel sx sm) : ∀ a : Nat, a < 16 → ∃ v : Nat, v < 65536 ∧ sx 6 a = v := fun a ha => by
  obtain ⟨v, e1, e2, -⟩ := hR.2.1.2.2.2.1 a ha
  exact ⟨v, e1, e2⟩
theorem po_like : sl_o_like Rel := by
  intro sx sm a b x hR ha hb hx
  have hR0 := hR
  obtain ⟨hp, ⟨d1, d2, d3, d4, d5⟩, h3⟩ := hR
  by_cases h : a < 0 ∨ 15 < a
  · refine pu_nlo ha h ⟨by decide, fun _ => ?_, fun h => absurd h (by decide)⟩
    exact pu_ilo ha h ⟨by decide, fun _ => ⟨rfl, by decide, hR0⟩, fun h => absurd rfl h⟩
  refine pu_nli ha (by omega) ⟨by decide, fun h => absurd rfl h, fun _ => ?_⟩
  by_cases h2 : b < 0 ∨ 15 < b
  · refine pu_nlo hb h2 ⟨by decide, fun _ => ?_, fun h => absurd h (by decide)⟩
    exact pu_ili ha (by omega) ⟨by decide, fun h => absurd h (by decide), fun _ => pu_ilo hb h2 ⟨by decide, fun _ => ⟨rfl, by decide, hR0⟩, fun h => absurd rfl h⟩⟩
  refine pu_nli hb (by omega) ⟨by decide, fun h => absurd rfl h, fun _ => ?_⟩
  by_cases h4 : x < 0 ∨ 1 < x
  · refine pu_out hx (by decide) (by decide) h4 ⟨by decide, fun h => absurd h (by decide), fun _ => ?_⟩
    exact pu_ili ha (by omega) ⟨by decide, fun h => absurd h (by decide), fun _ => pu_ili hb (by omega) ⟨by decide, fun h => absurd h (by decide), fun _ => pu_mno hx (by decide) (by decide) h4 ⟨by decide, fun h => absurd rfl h, fun _ => ⟨rfl, by decide, hR0⟩⟩⟩⟩
  obtain ⟨a, rfl⟩ := pu_nat (show 0 ≤ a by omega)
  obtain ⟨b, rfl⟩ := pu_nat (show 0 ≤ b by omega)
  obtain ⟨v, e1, e2, e3⟩ := d4 a (by omega)
  have e2 : sx 6 a = v := e2
  have fin : ∀ w : Nat, w < 65536 → (∀ c : Nat, c < 16 → (if c = b then x else sm 1 (72 + 16 * a + c)) = if w.testBit c then 1 else 0) → wX0_likedPairs (sq_set sx 6 a w) (fun r sx' => wX4_like a b x sm (fun r' sm' => r = r' ∧ sq_rg r ∧ Rel sx' sm')) := by
    intro w hw hv
    have hR2 := hR0.like (a := a) (b := b) (by omega) (by omega) hw hv
    refine px_likedPairs hR2.lv ?_
    refine pu_ili ha (by omega) ⟨by decide, fun h => absurd h (by decide), fun _ => pu_ili hb (by omega) ⟨by decide, fun h => absurd h (by decide), fun _ => pu_min hx (by decide) (by decide) (by omega) ⟨by decide, fun _ => ⟨by omega, ?_⟩, fun h => absurd h (by decide)⟩⟩⟩
    rintro _ rfl
    rw [show (72 + 16 * (a : Int) + (b : Int)).toNat = 72 + 16 * a + b by omega]
    refine pm_liked ?_
    have := pl_eq hR2.2.1.2.2.2.1
    exact ⟨this.1, by omega, hR2⟩
  refine pu_inn hx (by decide) (by decide) (by omega) ⟨by decide, fun _ => ?_, fun h => absurd rfl h⟩
  rintro _ rfl
  refine ⟨by omega, fun hx1 => ⟨by omega, by omega, ?_⟩, fun hx1 => ⟨by omega, by omega, ?_⟩⟩
  · rintro _ rfl
    rw [show (((a : Nat) : Int).toNat) = a from rfl, e2]
    obtain ⟨w, w1, w2, w3⟩ := pb_cut (b := b) e1 (by omega)
    rw [w2]
    refine fin w w1 (fun c hc => ?_)
    rw [w3 c, e3 c hc]
    by_cases hcb : c = b
    · simp [hcb]
      omega
    · simp [hcb]
  · rintro _ rfl
    rw [show (((a : Nat) : Int).toNat) = a from rfl, e2]
    obtain ⟨w, w1, w2, w3⟩ := pb_put (b := b) e1 (by omega)
    rw [w2]
    refine fin w w1 (fun c hc => ?_)
    rw [w3 c, e3 c hc]
    by_cases hcb : c = b
    · simp [hcb]
      omega
    · simp [hcb]
theorem po_count : sl_o_count Rel := by
  intro sx sm a hR ha
  have hR0 := hR
  obtain ⟨⟨⟨p1, p2, p3⟩, p4⟩, ⟨⟨⟨t1, t2, t3⟩, t4⟩, ⟨⟨k1, k2, k3⟩, k4⟩, d3, d4, ⟨⟨s1, s2, s3⟩, s4⟩⟩, h3⟩ := hR
  by_cases hw : 10 ≤ a ∧ a ≤ 25
  · refine ⟨ha, fun h => by omega, fun h => by omega, fun h => by omega, fun h => by omega, fun h => by omega, fun h => by omega, fun _ => ?_⟩
    refine pu_inn ha (by decide) (by decide) hw ⟨by decide, fun _ => ⟨by omega, ?_⟩, fun h => absurd rfl h⟩
    refine pu_min ha (by decide) (by decide) hw ⟨by decide, fun h => absurd h (by decide), fun _ => ⟨by omega, ?_⟩⟩
    have hd : sx 5 (a - 10).toNat = sm 1 (56 + (a - 10).toNat) ∧ 0 ≤ sm 1 (56 + (a - 10).toNat) ∧ sm 1 (56 + (a - 10).toNat) ≤ 99 := d3 (a - 10).toNat (by omega)
    rw [show (56 + a - 10).toNat = 56 + (a - 10).toNat by omega]
    exact ⟨hd.1, by omega, hR0⟩
  have mm : ∀ Q : Int → sq_S → Prop, (sq_rg a ∧ (a = 0 → wX4_many sm (fun r567 st568 => Q r567 st568)) ∧ (a = 1 → sq_ib 55 819 ∧ (Q (sm 1 55) sm)) ∧ (a = 2 → Q (sm 0 4) sm) ∧ (a = 3 → sq_ib 328 819 ∧ (Q (sm 1 328) sm)) ∧ (a = 4 → wX4_liked sm (fun r569 st570 => Q r569 st570)) ∧ (a = 5 → sq_ib 0 2 ∧ (sq_rg (sm 3 0) ∧ ((sm 3 0) = 0 → sq_ib 1 2 ∧ (sq_rg (sm 3 1) ∧ ((sm 3 1) = 0 → Q (0 + 0) sm) ∧ (¬ (sm 3 1) = 0 → Q (0 + 2) sm))) ∧ (¬ (sm 3 0) = 0 → sq_ib 1 2 ∧ (sq_rg (sm 3 1) ∧ ((sm 3 1) = 0 → Q (1 + 0) sm) ∧ (¬ (sm 3 1) = 0 → Q (1 + 2) sm))))) ∧ ((a < 0 ∨ 5 < a) → Q (-2) sm)) → wX4_count a sm Q := by
    intro Q hq
    exact pu_mno ha (by decide) (by decide) (by omega) ⟨by decide, fun _ => hq, fun h => absurd rfl h⟩
  refine ⟨ha, fun h => ?_, fun h => ?_, fun h => ?_, fun h => ?_, fun h => ?_, fun h => ?_, fun h => ?_⟩
  · refine mm _ ⟨ha, fun _ => pu_many ⟨t1, by omega, hR0⟩, fun h => by omega, fun h => by omega, fun h => by omega, fun h => by omega, fun h => by omega, fun h => by omega⟩
  · refine mm _ ⟨ha, fun h => by omega, fun _ => ⟨by decide, k1, by omega, hR0⟩, fun h => by omega, fun h => by omega, fun h => by omega, fun h => by omega, fun h => by omega⟩
  · refine mm _ ⟨ha, fun h => by omega, fun h => by omega, fun _ => ⟨p1, by omega, hR0⟩, fun h => by omega, fun h => by omega, fun h => by omega, fun h => by omega⟩
  · refine mm _ ⟨ha, fun h => by omega, fun h => by omega, fun h => by omega, fun _ => ⟨by decide, s1, by omega, hR0⟩, fun h => by omega, fun h => by omega, fun h => by omega⟩
  · refine px_likedPairs hR0.lv ?_
    refine mm _ ⟨ha, fun h => by omega, fun h => by omega, fun h => by omega, fun h => by omega, fun _ => pm_liked ?_, fun h => by omega, fun h => by omega⟩
    have := pl_eq d4
    exact ⟨this.1, by omega, hR0⟩
  · obtain ⟨q1, q2, q3, q4, q5⟩ := h3
    refine mm _ ⟨ha, fun h => by omega, fun h => by omega, fun h => by omega, fun h => by omega, fun h => by omega, fun _ => ⟨by decide, by omega, fun h0 => ⟨by decide, by omega, fun h1 => ⟨by omega, by omega, hR0⟩, fun h1 => ⟨by omega, by omega, hR0⟩⟩, fun h0 => ⟨by decide, by omega, fun h1 => ⟨by omega, by omega, hR0⟩, fun h1 => ⟨by omega, by omega, hR0⟩⟩⟩, fun h => by omega⟩
  · refine pu_out ha (by decide) (by decide) (by omega) ⟨by decide, fun h => absurd h (by decide), fun _ => ?_⟩
    exact mm _ ⟨ha, fun h => by omega, fun h => by omega, fun h => by omega, fun h => by omega, fun h => by omega, fun h => by omega, fun _ => ⟨rfl, by decide, hR0⟩⟩
