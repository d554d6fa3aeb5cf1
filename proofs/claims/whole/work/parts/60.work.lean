/-! pure part: all ways, both sides -/
def ordO (cls : Nat → Nat) (N : Nat) : Nat → Nat := fun i => fnd (posw cls N) i N
theorem ordO_pos {cls : Nat → Nat} {N q : Nat} (hq : q < N) : ordO cls N (posw cls N q) = q := by
  have := fnd_ok (S := posw cls N) (l := posw cls N q) (n := N) ⟨q, hq, rfl⟩
  exact posw_inj this.1 hq this.2
theorem ordO_fl (cls : Nat → Nat) (N : Nat) : Flw cls N (fun i => ((ordO cls N i : Nat) : Int)) := fun q hq => by
  show ((ordO cls N (posw cls N q) : Nat) : Int) = q
  rw [ordO_pos hq]
theorem Flw.row {cls : Nat → Nat} {W N : Nat} {R : Nat → Int} (hw : ∀ q, q < N → cls q < W) (h : Flw cls N R) {i : Nat} (hi : i < N) : R i = ordO cls N i := by
  obtain ⟨q, hq, e⟩ := posw_cov hw hi
  rw [← e, h q hq, ordO_pos hq]
theorem ordO_pm {cls : Nat → Nat} {W N : Nat} (hw : ∀ q, q < N → cls q < W) : PmN N (ordO cls N) := by
  refine ⟨fun i hi => ?_, fun i j hij hj e => ?_⟩
  · obtain ⟨q, hq, e⟩ := posw_cov hw hi
    rw [← e, ordO_pos hq]
    exact hq
  · obtain ⟨q, hq, e1⟩ := posw_cov hw (show i < N by omega)
    obtain ⟨q', hq', e2⟩ := posw_cov hw hj
    rw [← e1, ← e2, ordO_pos hq, ordO_pos hq'] at e
    subst e
    omega
def colR (m N : Nat) (O : Nat → Nat) : Nat → Nat → Nat
  | 0, _ => 0
  | k + 1, i => if offc m N O k ≤ i then O k + m * (i - offc m N O k) else colR m N O k i
theorem colR_at {m N : Nat} {O : Nat → Nat} {k j : Nat} (hj : j < cntc m N (O k)) : ∀ {w : Nat}, k < w → colR m N O w (offc m N O k + j) = O k + m * j
  | 0, h => absurd h (Nat.not_lt_zero k)
  | w + 1, h => by
    unfold colR
    by_cases e : k = w
    · subst e
      rw [if_pos (by omega), show offc m N O k + j - offc m N O k = j by omega]
    · have := offc_le m N O (show k + 1 ≤ w by omega)
      rw [offc_s] at this
      rw [if_neg (by omega)]
      exact colR_at hj (by omega)
theorem colR_col (m N : Nat) (O : Nat → Nat) : Col m N O (fun i => ((colR m N O m i : Nat) : Int)) := fun k j hk hj => by
  show ((colR m N O m (offc m N O k + j) : Nat) : Int) = _
  rw [colR_at hj hk]
/-- what a text becomes, by a way: v is 1 to hide, 0 to find -/
def wyR (way v by_ : Int) (key : Nat → Nat) (k n : Nat) (t : Nat → Int) : Nat → Int :=
  if way = 0 then adR by_ key 1 t
  else if way = 1 then adR by_ key k t
  else if way = 2 then prR (lySq key k) (invF (lySq key k)) t by_
  else if way = 3 then hfR v (fun i => ((colR k n (ordO key k) k i : Nat) : Int)) t (fun _ => 0) n
  else if way = 4 then hfR v (fun i => ((ordO (zg k) n i : Nat) : Int)) t (fun _ => 0) n
  else apR v (lySq key k) (invF (lySq key k)) t n
theorem px_work {way v by_ : Int} {n k : Nat} {key : Nat → Nat} {st : sq_S} {Q : Int → sq_S → Prop} (hw : 0 ≤ way ∧ way ≤ 5) (hv : (v = 0 ∧ by_ = -1) ∨ (v = 1 ∧ by_ = 1)) (hn : st 2 1 = n) (h48 : n ≤ 48) (hev : way = 2 → n % 2 = 0) (hk1 : st 2 3 = k) (h1 : 1 ≤ k) (h6 : k ≤ 6) (hkey : ∀ i : Nat, i < k → st 4 i = key i ∧ key i < 16) (ht : ∀ i : Nat, i < n → 0 ≤ st 3 i ∧ st 3 i < 16) (hq : ∀ st' : sq_S, (∀ c : Nat, c ≤ 24 → st' c = st c) → (∀ i : Nat, i < n → st' 25 i = wyR way v by_ key k n (st 3) i) → Q 0 st') : wX2_work way v st Q := by
  have hkl : ∀ i : Nat, i < k → key i < 16 := fun i hi => (hkey i hi).2
  have hpm := (ly_16 hkl).2
  refine ⟨by omega, fun h0 => ?_, fun h0 => ?_, fun h0 => ?_, fun h0 => ?_, fun h0 => ?_, fun h0 => ?_⟩
  · refine px_addKey (kl := 1) (key := key) hv hn h48 (by omega) (by omega) (fun i hi => hkey i (by omega)) (fun st' e1 e2 => hq _ (fun c hc => e1 c (by omega)) (fun i hi => ?_))
    unfold wyR
    rw [if_pos h0]
    exact e2 i hi
  · rw [hk1]
    refine px_addKey (kl := k) (key := key) hv hn h48 h1 h6 hkey (fun st' e1 e2 => hq _ (fun c hc => e1 c (by omega)) (fun i hi => ?_))
    unfold wyR
    rw [if_neg (by omega), if_pos h0]
    exact e2 i hi
  · rw [hk1]
    refine px_layOut h6 hkey (fun s1 a1 a2 => ?_)
    refine px_pairs (mv := by_) (n := n) (S := lySq key k) (inv := invF (lySq key k)) hv (by rw [a1 2 (by decide) (by decide)]; exact hn) h48 (hev h0) a2 hpm.invF (fun i hi => by rw [a1 3 (by decide) (by decide)]; exact ht i hi) (fun st' e1 e2 => hq _ (fun c hc => by rw [e1 c (by omega), a1 c (by omega) (by omega)]) (fun i hi => ?_))
    unfold wyR
    rw [if_neg (by omega), if_neg (by omega), if_pos h0, e2 i hi, a1 3 (by decide) (by decide)]
  · refine px_orderByKey hk1 h6 hkey (fun s1 a1 a2 => ?_)
    rw [a1 2 (by decide), hn, hk1]
    have hO := ordO_pm hkl
    refine px_readColumns h48 h1 h6 hO (fun i hi => a2.row hkl hi) (fun s2 b1 b2 => ?_)
    have hF := Col.fr h1 h6 hO b2 (colR_col k n (ordO key k))
    refine px_putInPlace (n := n) (by omega) (by rw [b1 2 (by decide), a1 2 (by decide)]; exact hn) h48 (fun i hi => (hF.1 i hi).2) (fun st' e1 e2 => hq _ (fun c hc => by rw [e1 c (by omega), b1 c (by omega), a1 c (by omega)]) (fun i hi => ?_))
    unfold wyR
    rw [if_neg (by omega), if_neg (by omega), if_neg (by omega), if_pos h0, e2 i hi, b1 3 (by decide), a1 3 (by decide)]
    exact (hfR_eq hF (fun i hi => ⟨rfl, ht i hi⟩) hi).1
  · rw [hn, hk1]
    refine px_readRails h48 h1 h6 (fun s2 b1 b2 => ?_)
    have hw : ∀ q, q < n → zg k q < k + 1 := fun q _ => by have := (zg_step (i := q) h1 h6).2.2.2.1; omega
    have hF := Flw.fr hw b2 (ordO_fl (zg k) n)
    refine px_putInPlace (n := n) (by omega) (by rw [b1 2 (by decide)]; exact hn) h48 (fun i hi => (hF.1 i hi).2) (fun st' e1 e2 => hq _ (fun c hc => by rw [e1 c (by omega), b1 c (by omega)]) (fun i hi => ?_))
    unfold wyR
    rw [if_neg (by omega), if_neg (by omega), if_neg (by omega), if_neg (by omega), if_pos h0, e2 i hi, b1 3 (by decide)]
    exact (hfR_eq hF (fun i hi => ⟨rfl, ht i hi⟩) hi).1
  · rw [hk1]
    refine px_layOut h6 hkey (fun s1 a1 a2 => ?_)
    refine px_takeApart (n := n) (S := lySq key k) (inv := invF (lySq key k)) (by omega) (by rw [a1 2 (by decide) (by decide)]; exact hn) h48 a2 hpm.invF (fun i hi => by rw [a1 3 (by decide) (by decide)]; exact ht i hi) (fun st' e1 e2 => hq _ (fun c hc => by rw [e1 c (by omega) (by omega), a1 c (by omega) (by omega)]) (fun i hi => ?_))
    unfold wyR
    rw [if_neg (by omega), if_neg (by omega), if_neg (by omega), if_neg (by omega), if_neg (by omega), e2 i hi, a1 3 (by decide) (by decide)]
theorem wyR_eq {way v by_ : Int} {n k : Nat} {key : Nat → Nat} {t u : Nat → Int} (hw : 0 ≤ way ∧ way ≤ 5) (hev : way = 2 → n % 2 = 0) (h1 : 1 ≤ k) (h6 : k ≤ 6) (hkl : ∀ i : Nat, i < k → key i < 16) (ht : ∀ i : Nat, i < n → t i = u i ∧ 0 ≤ u i ∧ u i < 16) {i : Nat} (hi : i < n) : wyR way v by_ key k n t i = wyR way v by_ key k n u i ∧ 0 ≤ wyR way v by_ key k n u i ∧ wyR way v by_ key k n u i < 16 := by
  have hpm := (ly_16 hkl).2
  unfold wyR
  by_cases w0 : way = 0
  · rw [if_pos w0, if_pos w0]
    unfold adR
    rw [(ht i hi).1]
    omega
  rw [if_neg w0, if_neg w0]
  by_cases w1 : way = 1
  · rw [if_pos w1, if_pos w1]
    unfold adR
    rw [(ht i hi).1]
    omega
  rw [if_neg w1, if_neg w1]
  by_cases w2 : way = 2
  · rw [if_pos w2, if_pos w2]
    exact ⟨prR_cong (hev w2) (fun j hj => (ht j hj).1) hi, prR_bd hpm _ _ _⟩
  rw [if_neg w2, if_neg w2]
  by_cases w3 : way = 3
  · rw [if_pos w3, if_pos w3]
    have hO := ordO_pm hkl
    exact hfR_eq (Col.fr h1 h6 hO (colR_col k n (ordO key k)) (colR_col k n (ordO key k))) ht hi
  rw [if_neg w3, if_neg w3]
  by_cases w4 : way = 4
  · rw [if_pos w4, if_pos w4]
    have hw : ∀ q, q < n → zg k q < k + 1 := fun q _ => by have := (zg_step (i := q) h1 h6).2.2.2.1; omega
    exact hfR_eq (Flw.fr hw (ordO_fl (zg k) n) (ordO_fl (zg k) n)) ht hi
  rw [if_neg w4, if_neg w4]
  exact ⟨apR_cong (fun j hj => (ht j hj).1) hi, apR_bd hpm.invF (fun j hj => (ht j hj).2) hi⟩
theorem pm_goWay {way v by_ : Int} {n k : Nat} {key : Nat → Nat} {st : sq_S} {Q : Int → sq_S → Prop} (hw : 0 ≤ way ∧ way ≤ 5) (hv : (v = 0 ∧ by_ = -1) ∨ (v = 1 ∧ by_ = 1)) (hn : st 1 48 = n) (h48 : n ≤ 48) (hev : way = 2 → n % 2 = 0) (hk1 : st 1 55 = k) (h1 : 1 ≤ k) (h6 : k ≤ 6) (hkey : ∀ i : Nat, i < k → st 1 (49 + i) = key i ∧ key i < 16) (ht : ∀ i : Nat, i < n → 0 ≤ st 1 i ∧ st 1 i < 16) (hq : ∀ st' : sq_S, (∀ c : Nat, c ≤ 4 → st' c = st c) → (∀ i : Nat, i < n → st' 6 i = wyR way v by_ key k n (st 1) i) → Q 0 st') : wX4_goWay way by_ st Q := by
  intro K hK
  have hkl : ∀ i : Nat, i < k → key i < 16 := fun i hi => (hkey i hi).2
  have hpm := (ly_16 hkl).2
  have hby : by_ = 1 ∨ by_ = -1 := by omega
  refine pm_laySquare hk1 h6 hkey (fun s1 a1 a2 => ?_)
  have loop : ∀ (m i : Nat) (tm : sq_S), i + m = n → (∀ c : Nat, c ≠ 5 → tm c = s1 c) → (∀ j : Nat, j < i → tm 5 j = st 1 j) → K way by_ (i : Int) tm := by
    intro m
    induction m with
    | zero =>
      intro i tm hi e1 e2
      have e : i = n := by omega
      subst e
      have f1 : tm 1 = st 1 := by rw [e1 1 (by decide), a1 1 (by decide)]
      have fc : ∀ c : Nat, c ≤ 4 → tm c = st c := fun c hc => by rw [e1 c (by omega), a1 c (by omega)]
      have hS : SqM tm (lySq key k) := fun j hj => by rw [e1 7 (by decide)]; exact a2 j hj
      have t5 : ∀ j : Nat, j < i → 0 ≤ tm 5 j ∧ tm 5 j < 16 := fun j hj => by rw [e2 j hj]; exact ht j hj
      have heq : ∀ j : Nat, j < i → wyR way v by_ key k i (tm 5) j = wyR way v by_ key k i (st 1) j := fun j hj => (wyR_eq hw hev h1 h6 hkl (fun x hx => ⟨e2 x hx, ht x hx⟩) hj).1
      have kk : ∀ j : Nat, j < k → tm 1 (49 + j) = key j ∧ key j < 16 := fun j hj => by rw [f1]; exact hkey j hj
      have sh : ∀ (wd : Int) (kl : Nat), ((wd = 0 ∧ kl = 1) ∨ (wd = 1 ∧ kl = k)) → (∀ j : Nat, wyR way v by_ key k i (tm 5) j = adR by_ key kl (tm 5) j) → wX4_shiftAll by_ wd tm (fun _ st360 => Q 0 st360) := by
        intro wd kl hwd hwy
        refine pm_shiftAll (kl := kl) (key := key) hby hwd (by rw [f1]; exact hn) h48 (by rw [f1]; exact hk1) h1 h6 kk t5 (fun st' g1 g2 => hq _ (fun c hc => by rw [g1 c (by omega)]; exact fc c hc) (fun j hj => ?_))
        rw [g2 j hj, ← hwy j]
        exact heq j hj
      refine hK _ _ _ _ (pu_many ?_)
      rw [f1, hn, hk1]
      refine ⟨by omega, fun _ => ⟨by omega, fun h0 => ⟨by omega, fun _ => ?_, fun h => by omega⟩, fun h0 => ⟨by omega, fun h => absurd h0 h, fun _ => ?_⟩, fun h0 => ?_, fun h0 => ?_, fun h0 => ?_, fun h0 => ?_⟩, fun h => by omega⟩
      · exact sh 0 1 (Or.inl ⟨rfl, rfl⟩) (fun j => by unfold wyR; rw [if_pos h0])
      · exact sh 1 k (Or.inr ⟨rfl, rfl⟩) (fun j => by unfold wyR; rw [if_neg (by omega), if_pos h0])
      · refine pm_pairs (n := i) (S := lySq key k) (inv := invF (lySq key k)) hby (by rw [f1]; exact hn) h48 (hev h0) hS hpm.invF t5 (fun st' g1 g2 => hq _ (fun c hc => by rw [g1 c (by omega)]; exact fc c hc) (fun j hj => ?_))
        rw [← heq j hj, g2 j hj]
        unfold wyR
        rw [if_neg (by omega), if_neg (by omega), if_pos h0]
      · refine pm_layKeyOrder (by rw [f1]; exact hk1) h6 kk (fun s2 b1 b2 => ⟨by decide, ?_⟩)
        rw [b1 1 (by decide), f1, hk1]
        have hO := ordO_pm hkl
        refine pm_layColumns (n := i) (by rw [b1 1 (by decide), f1]; exact hn) h48 h1 h6 hO (fun j hj => b2.row hkl hj) (fun s3 c1 c2 => ?_)
        have hF := Col.fr h1 h6 hO c2 (colR_col k i (ordO key k))
        refine pm_readBy (n := i) hv (by rw [c1 1 (by decide), b1 1 (by decide), f1]; exact hn) h48 (fun j hj => (hF.1 j hj).2) (fun st' g1 g2 => hq _ (fun c hc => by rw [g1 c (by omega), c1 c (by omega), b1 c (by omega)]; exact fc c hc) (fun j hj => ?_))
        rw [← heq j hj, g2 j hj, c1 5 (by decide), b1 5 (by decide)]
        unfold wyR
        rw [if_neg (by omega), if_neg (by omega), if_neg (by omega), if_pos h0]
        exact (hfR_eq hF (fun x hx => ⟨rfl, t5 x hx⟩) hj).1
      · refine ⟨by decide, pm_layRails (n := i) (by rw [f1]; exact hn) h48 h1 h6 (fun s3 c1 c2 => ?_)⟩
        have hw2 : ∀ q, q < i → zg k q < k + 1 := fun q _ => by have := (zg_step (i := q) h1 h6).2.2.2.1; omega
        have hF := Flw.fr hw2 c2 (ordO_fl (zg k) i)
        refine pm_readBy (n := i) hv (by rw [c1 1 (by decide), f1]; exact hn) h48 (fun j hj => (hF.1 j hj).2) (fun st' g1 g2 => hq _ (fun c hc => by rw [g1 c (by omega), c1 c (by omega)]; exact fc c hc) (fun j hj => ?_))
        rw [← heq j hj, g2 j hj, c1 5 (by decide)]
        unfold wyR
        rw [if_neg (by omega), if_neg (by omega), if_neg (by omega), if_neg (by omega), if_pos h0]
        exact (hfR_eq hF (fun x hx => ⟨rfl, t5 x hx⟩) hj).1
      · refine pm_apart (n := i) (S := lySq key k) (inv := invF (lySq key k)) hv (by rw [f1]; exact hn) h48 hS hpm.invF t5 (fun st' g1 g2 => hq _ (fun c hc => by rw [g1 c (by omega) (by omega)]; exact fc c hc) (fun j hj => ?_))
        rw [← heq j hj, g2 j hj]
        unfold wyR
        rw [if_neg (by omega), if_neg (by omega), if_neg (by omega), if_neg (by omega), if_neg (by omega)]
    | succ m ih =>
      intro i tm hi e1 e2
      refine hK _ _ _ _ (pu_many ?_)
      rw [e1 1 (by decide), a1 1 (by decide), hn]
      refine ⟨by omega, fun h => by omega, fun _ => ⟨by omega, by omega, ?_⟩⟩
      rintro _ rfl
      rw [pu_z, pu_i, show (((i : Nat) : Int).toNat) = i from rfl]
      refine ih (i + 1) _ (by omega) (fun c hc => by rw [pu_sc hc]; exact e1 c hc) (fun j hj => ?_)
      by_cases e : j = i
      · subst e
        rw [pu_ss]
      · rw [pu_sk e]
        exact e2 j (by omega)
  exact loop n 0 s1 (by omega) (fun _ _ => rfl) (fun j h => by omega)
