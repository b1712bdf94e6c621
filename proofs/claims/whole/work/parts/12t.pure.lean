/-! THE TEXT'S TOKENS -/
abbrev dg (x : Int32) : Prop := ¬ x < 48 ∧ ¬ 57 < x
/-- behind spaces; behind digits; what the digits tell -/
def sk (X : Nat → Int32) : Nat → Nat → Nat
  | 0, p => p
  | d + 1, p => if X p = 32 then sk X d (p + 1) else p
def en (X : Nat → Int32) : Nat → Nat → Nat
  | 0, p => p
  | d + 1, p => if dg (X p) then en X d (p + 1) else p
def cv (X : Nat → Int32) : Nat → Nat → Int32 → Int32
  | 0, _, v => v
  | d + 1, p, v => if dg (X p) then cv X d (p + 1) (if v * 10 + X p - 48 < 100 then v * 10 + X p - 48 else 100) else v
def mv (X : Nat → Int32) : Nat → Nat → Int32 → Int32
  | 0, _, v => v
  | d + 1, p, v => if dg (X p) then mv X d (p + 1) (if v ≤ 99 then 10 * v + X p - 48 else v) else v
theorem sk_le {X : Nat → Int32} : ∀ d p, p ≤ sk X d p ∧ sk X d p ≤ p + d
  | 0, p => ⟨Nat.le_refl p, Nat.le_refl p⟩
  | d + 1, p => by
    simp only [sk]
    split
    · have := sk_le (X := X) d (p + 1)
      omega
    · omega
theorem en_le {X : Nat → Int32} : ∀ d p, p ≤ en X d p ∧ en X d p ≤ p + d
  | 0, p => ⟨Nat.le_refl p, Nat.le_refl p⟩
  | d + 1, p => by
    simp only [en]
    split
    · have := en_le (X := X) d (p + 1)
      omega
    · omega
theorem dg_of {x : Int32} (h : dg x) : ∃ δ, δ ≤ 9 ∧ x = nI (48 + δ) := by
  rcases pu_rng x 48 57 (by decide) (by decide) with ⟨j, h1, h2, rfl⟩ | hb
  · exact ⟨j - 48, by omega, by rw [show 48 + (j - 48) = j by omega]⟩
  · rcases hb with z | z
    · exact absurd z h.1
    · exact absurd z h.2
/-- the two ways of counting tell the same -/
theorem cv_mv {X : Nat → Int32} : ∀ (d p c : Nat), c ≤ 999 → ∃ m, m ≤ 999 ∧ mv X d p (nI c) = nI m ∧ cv X d p (nI (min 100 c)) = nI (min 100 m)
  | 0, p, c, hc => ⟨c, hc, rfl, rfl⟩
  | d + 1, p, c, hc => by
    simp only [mv, cv]
    by_cases h : dg (X p)
    · rw [if_pos h, if_pos h]
      obtain ⟨δ, h1, h2⟩ := dg_of h
      have e1 : (if nI c ≤ 99 then 10 * nI c + X p - 48 else nI c) = nI (if c ≤ 99 then 10 * c + δ else c) := by
        rcases Nat.lt_or_ge c 100 with q | q
        · rw [if_pos (show nI c ≤ 99 from nI_le (b := 99) (by omega) (by decide)), if_pos (by omega), h2, show (10 : Int32) * nI c = nI (10 * c) from nI_mul 10 c, nI_add, show (48 : Int32) = nI 48 from rfl, pk_sub (by omega)]
          congr 1
          omega
        · rw [if_neg (show ¬ nI c ≤ 99 from nI_ge (a := 99) (by omega) (by omega)), if_neg (by omega)]
      have e2 : (if nI (min 100 c) * 10 + X p - 48 < 100 then nI (min 100 c) * 10 + X p - 48 else 100) = nI (min 100 (if c ≤ 99 then 10 * c + δ else c)) := by
        have e3 : nI (min 100 c) * 10 + X p - 48 = nI (min 100 c * 10 + δ) := by
          rw [h2, show nI (min 100 c) * 10 = nI (min 100 c * 10) from nI_mul _ 10, nI_add, show (48 : Int32) = nI 48 from rfl, pk_sub (by omega)]
          congr 1
          omega
        rw [e3]
        rcases Nat.lt_or_ge (min 100 c * 10 + δ) 100 with q | q
        · rw [if_pos (show nI (min 100 c * 10 + δ) < 100 from nI_lt (b := 100) q (by decide)), if_pos (by omega)]
          congr 1
          omega
        · rw [if_neg (show ¬ nI (min 100 c * 10 + δ) < 100 from nI_nlt (b := 100) q (by omega)), show (100 : Int32) = nI 100 from rfl]
          congr 1
          split <;> omega
      rw [e1, e2]
      exact cv_mv d (p + 1) (if c ≤ 99 then 10 * c + δ else c) (by split <;> omega)
    · rw [if_neg h, if_neg h]
      exact ⟨c, hc, rfl, rfl⟩
/-- a token: its start, its kind, what it tells, where the next begins -/
def tS (X : Nat → Int32) (L p : Nat) : Nat := sk X (L - p) p
def tE (X : Nat → Int32) (L p : Nat) : Nat := en X (L - tS X L p) (tS X L p)
def tV (X : Nat → Int32) (L p : Nat) : Int32 := mv X (L - tS X L p) (tS X L p) 0
abbrev kn5 (x : Int32) : Prop := x = 99 ∨ x = 97 ∨ x = 119 ∨ x = 114 ∨ x = 59
def tK (X : Nat → Int32) (L p : Nat) : Int32 := if tS X L p < L then (if dg (X (tS X L p)) then (if (X (tS X L p) = 48 ∧ 1 < tE X L p - tS X L p) ∨ 99 < tV X L p then 2 else 1) else if kn5 (X (tS X L p)) then X (tS X L p) else 2) else 0
def tN (X : Nat → Int32) (L p : Nat) : Nat := if tS X L p < L then (if dg (X (tS X L p)) then tE X L p else tS X L p + 1) else tS X L p
theorem en_pos {X : Nat → Int32} {d p : Nat} (hd : 0 < d) (h : dg (X p)) : p < en X d p := by
  obtain ⟨d, rfl⟩ : ∃ q, d = q + 1 := ⟨d - 1, by omega⟩
  simp only [en]
  rw [if_pos h]
  have := en_le (X := X) d (p + 1)
  omega
theorem tS_le {X : Nat → Int32} {L p : Nat} (h : p ≤ L) : p ≤ tS X L p ∧ tS X L p ≤ L := by
  have := sk_le (X := X) (L - p) p
  unfold tS
  omega
theorem tN_le {X : Nat → Int32} {L p : Nat} (h : p ≤ L) : p ≤ tN X L p ∧ tN X L p ≤ L ∧ (¬ tK X L p = 0 → p < tN X L p) := by
  have h1 := tS_le (X := X) h
  have h2 := en_le (X := X) (L - tS X L p) (tS X L p)
  unfold tN
  by_cases hs : tS X L p < L
  · rw [if_pos hs]
    by_cases hd : dg (X (tS X L p))
    · rw [if_pos hd]
      have h3 := en_pos (X := X) (d := L - tS X L p) (p := tS X L p) (by omega) hd
      unfold tE
      refine ⟨by omega, by omega, fun _ => by omega⟩
    · rw [if_neg hd]
      refine ⟨by omega, by omega, fun _ => by omega⟩
  · rw [if_neg hs]
    refine ⟨by omega, by omega, fun z => absurd ?_ z⟩
    unfold tK
    rw [if_neg hs]
/-! the class reads a token -/
theorem q3_letterAt {k L p : Nat} {w : ra_W} (hk : 1 ≤ k) (hL : L ≤ 80) (h0 : w 1 0 = nI L) (hp : p < L) : FX3_letterAt k (nI p) w = some (w 2 p, w) := by
  obtain ⟨k, rfl⟩ : ∃ q, k = q + 1 := ⟨k - 1, by omega⟩
  unfold FX3_letterAt
  rw [fX3_letterAt_0, if_neg (nI_pos (by omega)), h0, if_neg (nI_ge hp (by omega)), if_neg (show ¬ (80 : Int32) ≤ nI p from nI_ge (b := 80) (by omega) (by decide)), if_pos (pu_in (by omega) (by decide)), pu_ix (by omega)]
theorem q3_isDigit {k : Nat} {x : Int32} {w : ra_W} (hk : 1 ≤ k) : FX3_isDigit k x w = some (if dg x then 1 else 0, w) := by
  obtain ⟨k, rfl⟩ : ∃ q, k = q + 1 := ⟨k - 1, by omega⟩
  unfold FX3_isDigit
  rw [fX3_isDigit_0]
  by_cases h1 : x < 48
  · rw [if_pos h1, if_neg (fun z => z.1 h1)]
  · rw [if_neg h1]
    by_cases h2 : 57 < x
    · rw [if_pos h2, if_neg (fun z => z.2 h2)]
    · rw [if_neg h2, if_pos ⟨h1, h2⟩]
theorem st_same {w : ra_W} {c i : Nat} {x : Int32} (h : w c i = x) : ra_st w c i x = w := by
  funext a b
  rw [pu_st]
  split
  · rename_i z
    rw [z.1, z.2, h]
  · rfl
theorem q3_skip {k L : Nat} {X : Nat → Int32} (hk : 1 ≤ k) (hL : L ≤ 80) : ∀ (d p m : Nat) (w : ra_W), p + d = L → d + 1 ≤ m → w 1 0 = nI L → w 1 2 = nI p → w 2 = X → ∃ m', m ≤ m' + d + 1 ∧ fX3_readToken k m 0 0 0 w = fX3_readToken k m' 1 0 0 (ra_st w 1 2 (nI (sk X d p))) := by
  intro d
  induction d with
  | zero =>
    intro p m w hp hm h0 h2 hX
    obtain ⟨m, rfl⟩ : ∃ q, m = q + 1 := ⟨m - 1, by omega⟩
    rw [fX3_readToken_0, h0, h2, if_pos (nI_le (by omega) (by omega)), show sk X 0 p = p from rfl, st_same h2]
    exact ⟨m, by omega, rfl⟩
  | succ d ih =>
    intro p m w hp hm h0 h2 hX
    obtain ⟨m, rfl⟩ : ∃ q, m = q + 1 := ⟨m - 1, by omega⟩
    rw [fX3_readToken_0, h0, h2, if_neg (nI_ge (by omega) (by omega)), q3_letterAt hk hL h0 (by omega), hX]
    simp only [ra_bind, sk]
    by_cases hs : X p = 32
    · rw [if_pos hs, if_pos hs, h2, nI_1]
      obtain ⟨m', e, g⟩ := ih (p + 1) m (ra_st w 1 2 (nI (p + 1))) (by omega) (by omega) (by rw [pu_st, if_neg (by decide)]; exact h0) (by rw [pu_st_eq]) (by rw [pu_st_ne (by decide)]; exact hX)
      refine ⟨m', by omega, ?_⟩
      rw [g]
      congr 1
      funext a b
      simp only [pu_st]
      split <;> rfl
    · rw [if_neg hs, if_neg hs, st_same h2]
      exact ⟨m, by omega, rfl⟩
theorem q3_digits {k L : Nat} {X : Nat → Int32} (hk : 1 ≤ k) (hL : L ≤ 80) : ∀ (d p m : Nat) (v : Int32) (w : ra_W), p + d = L → d + 1 ≤ m → w 1 0 = nI L → w 1 2 = nI p → w 1 5 = v → w 2 = X → ∃ m', m ≤ m' + d + 1 ∧ fX3_readNumber k m 1 0 w = fX3_readNumber k m' 2 0 (ra_st (ra_st w 1 5 (cv X d p v)) 1 2 (nI (en X d p))) := by
  intro d
  induction d with
  | zero =>
    intro p m v w hp hm h0 h2 h5 hX
    obtain ⟨m, rfl⟩ : ∃ q, m = q + 1 := ⟨m - 1, by omega⟩
    rw [fX3_readNumber_1, h0, h2, if_pos (nI_le (by omega) (by omega)), show en X 0 p = p from rfl, show cv X 0 p v = v from rfl, st_same h5, st_same h2]
    exact ⟨m, by omega, rfl⟩
  | succ d ih =>
    intro p m v w hp hm h0 h2 h5 hX
    obtain ⟨m, rfl⟩ : ∃ q, m = q + 1 := ⟨m - 1, by omega⟩
    rw [fX3_readNumber_1, h0, h2, if_neg (nI_ge (by omega) (by omega)), q3_letterAt hk hL h0 (by omega), hX]
    simp only [ra_bind]
    rw [q3_isDigit hk]
    simp only [cv, en]
    by_cases hs : dg (X p)
    · rw [if_pos hs, if_neg (by decide), if_pos hs, if_pos hs, h2, q3_letterAt hk hL h0 (by omega), hX]
      simp only []
      have a2 : ∀ z, ra_st w 1 5 z 1 2 = nI p := fun z => by rw [pu_st, if_neg (by decide)]; exact h2
      rw [h5, a2, nI_1]
      obtain ⟨m', e, g⟩ := ih (p + 1) m (if v * 10 + X p - 48 < 100 then v * 10 + X p - 48 else 100) (ra_st (ra_st w 1 5 (if v * 10 + X p - 48 < 100 then v * 10 + X p - 48 else 100)) 1 2 (nI (p + 1))) (by omega) (by omega) (by rw [pu_st, if_neg (by decide), pu_st, if_neg (by decide)]; exact h0) (by rw [pu_st_eq]) (by rw [pu_st, if_neg (by decide), pu_st_eq]) (by rw [pu_st_ne (by decide), pu_st_ne (by decide)]; exact hX)
      refine ⟨m', by omega, ?_⟩
      rw [g]
      congr 1
      funext a b
      simp only [pu_st]
      grind
    · rw [if_neg hs, if_pos rfl, if_neg hs, if_neg hs, st_same h5, st_same h2]
      exact ⟨m, by omega, rfl⟩
theorem q3_number {k L s : Nat} {X : Nat → Int32} {w : ra_W} (hk : 200 ≤ k) (hL : L ≤ 80) (hs : s < L) (h0 : w 1 0 = nI L) (h2 : w 1 2 = nI s) (h3 : w 1 3 = nI s) (hX : w 2 = X) : ∃ w', FX3_readNumber k w = some (0, w') ∧ w' 1 2 = nI (en X (L - s) s) ∧ w' 1 3 = nI s ∧ w' 1 5 = cv X (L - s) s 0 ∧ w' 1 4 = (if (X s = 48 ∧ 1 < en X (L - s) s - s) ∨ 99 < mv X (L - s) s 0 then 2 else 1) ∧ (∀ c, c ≠ 1 → w' c = w c) ∧ (∀ i, i ≠ 2 → i ≠ 3 → i ≠ 4 → i ≠ 5 → w' 1 i = w 1 i) := by
  obtain ⟨k, rfl⟩ : ∃ q, k = q + 1 := ⟨k - 1, by omega⟩
  unfold FX3_readNumber
  rw [fX3_readNumber_0]
  obtain ⟨m, e, g⟩ := q3_digits (k := k + 1) (X := X) (by omega) hL (L - s) s k 0 (ra_st w 1 5 0) (by omega) (by omega) (by rw [pu_st, if_neg (by decide)]; exact h0) (by rw [pu_st, if_neg (by decide)]; exact h2) (by rw [pu_st_eq]) (by rw [pu_st_ne (by decide)]; exact hX)
  rw [g]
  have hen := en_le (X := X) (L - s) s
  obtain ⟨mm, m1, m2, m3⟩ := cv_mv (X := X) (L - s) s 0 (by omega)
  have m2 : mv X (L - s) s 0 = nI mm := m2
  have m3 : cv X (L - s) s 0 = nI (min 100 mm) := m3
  generalize hu : ra_st (ra_st (ra_st w 1 5 0) 1 5 (cv X (L - s) s 0)) 1 2 (nI (en X (L - s) s)) = u
  have u0 : u 1 0 = nI L := by rw [← hu]; simp only [pu_st]; simpa using h0
  have u2 : u 1 2 = nI (en X (L - s) s) := by rw [← hu, pu_st_eq]
  have u3 : u 1 3 = nI s := by rw [← hu]; simp only [pu_st]; simpa using h3
  have u5 : u 1 5 = nI (min 100 mm) := by rw [← hu, ← m3]; simp [pu_st]
  have uc : ∀ c, c ≠ 1 → u c = w c := fun c a => by rw [← hu, pu_st_ne a, pu_st_ne a, pu_st_ne a]
  have ui : ∀ i, i ≠ 2 → i ≠ 5 → u 1 i = w 1 i := fun i a b => by rw [← hu]; simp [pu_st, a, b]
  obtain ⟨m, rfl⟩ : ∃ q, m = q + 1 + 1 + 1 + 1 + 1 := ⟨m - 5, by omega⟩
  have fin : ∀ z : Int32, ∃ w', some ((0 : Int32), ra_st u 1 4 z) = some (0, w') ∧ w' 1 2 = nI (en X (L - s) s) ∧ w' 1 3 = nI s ∧ w' 1 5 = cv X (L - s) s 0 ∧ w' 1 4 = z ∧ (∀ c, c ≠ 1 → w' c = w c) ∧ (∀ i, i ≠ 2 → i ≠ 3 → i ≠ 4 → i ≠ 5 → w' 1 i = w 1 i) := by
    intro z
    exact ⟨_, rfl, by rw [pu_st, if_neg (by decide)]; exact u2, by rw [pu_st, if_neg (by decide)]; exact u3, by rw [pu_st, if_neg (by decide), m3]; exact u5, by rw [pu_st_eq], fun c a => by rw [pu_st_ne a]; exact uc c a, fun i a _ b d => by rw [pu_st, if_neg (fun q => b q.2)]; exact ui i a d⟩
  have e99 : (nI (min 100 mm) ≤ 99) ↔ ¬ 99 < mv X (L - s) s 0 := by
    rw [m2]
    rcases Nat.lt_or_ge mm 100 with q | q
    · exact ⟨fun _ => nI_nlt (a := 99) (by omega) (by decide), fun _ => nI_le (b := 99) (by omega) (by decide)⟩
    · exact ⟨fun z => absurd z (nI_ge (a := 99) (by omega) (by omega)), fun z => absurd (nI_lt (a := 99) (by omega) (by omega)) z⟩
  have four : ∀ m, fX3_readNumber (k + 1) (m + 1 + 1 + 1) 4 0 u = some (0, ra_st u 1 4 (if 99 < mv X (L - s) s 0 then 2 else 1)) := by
    intro m
    rw [fX3_readNumber_4, if_pos rfl, u5]
    by_cases q : 99 < mv X (L - s) s 0
    · rw [if_neg (fun z => (e99.mp z) q), if_pos q, fX3_readNumber_5, fX3_readNumber_6]
    · rw [if_pos (e99.mpr q), if_neg q, fX3_readNumber_6]
  rw [fX3_readNumber_2, u3, q3_letterAt (by omega) hL u0 hs, uc 2 (by decide), hX]
  simp only [ra_bind]
  rw [u2, u3, pk_sub hen.1]
  by_cases h48 : X s = 48
  · rw [if_pos h48]
    by_cases h1 : 1 < en X (L - s) s - s
    · rw [if_neg (show ¬ nI (en X (L - s) s - s) ≤ 1 from nI_ge (a := 1) h1 (by omega)), fX3_readNumber_4, if_neg (by decide), fX3_readNumber_5, fX3_readNumber_6, if_pos (Or.inl ⟨h48, h1⟩)]
      exact fin 2
    · rw [if_pos (show nI (en X (L - s) s - s) ≤ 1 from nI_le (b := 1) (by omega) (by decide)), fX3_readNumber_3, four]
      have ec : (if (X s = 48 ∧ 1 < en X (L - s) s - s) ∨ 99 < mv X (L - s) s 0 then (2 : Int32) else 1) = if 99 < mv X (L - s) s 0 then 2 else 1 := by simp [h1]
      rw [ec]
      exact fin _
  · rw [if_neg h48, fX3_readNumber_3, four]
    have ec : (if (X s = 48 ∧ 1 < en X (L - s) s - s) ∨ 99 < mv X (L - s) s 0 then (2 : Int32) else 1) = if 99 < mv X (L - s) s 0 then 2 else 1 := by simp [h48]
    rw [ec]
    exact fin _
theorem q3_token {k L p : Nat} {X : Nat → Int32} {w : ra_W} (hk : 300 ≤ k) (hL : L ≤ 80) (hp : p ≤ L) (h0 : w 1 0 = nI L) (h2 : w 1 2 = nI p) (hX : w 2 = X) : ∃ w', FX3_readToken k w = some (0, w') ∧ w' 1 2 = nI (tN X L p) ∧ w' 1 3 = nI (tS X L p) ∧ w' 1 4 = tK X L p ∧ (tK X L p = 1 → w' 1 5 = tV X L p) ∧ (∀ c, c ≠ 1 → w' c = w c) ∧ (∀ i, i ≠ 2 → i ≠ 3 → i ≠ 4 → i ≠ 5 → w' 1 i = w 1 i) := by
  unfold FX3_readToken
  obtain ⟨m, e, g⟩ := q3_skip (k := k) (X := X) (by omega) hL (L - p) p k w (by omega) (by omega) h0 h2 hX
  rw [g]
  have hs := tS_le (X := X) hp
  obtain ⟨m, rfl⟩ : ∃ q, m = q + 1 + 1 + 1 + 1 := ⟨m - 4, by omega⟩
  have g2 : ra_st w 1 2 (nI (sk X (L - p) p)) = ra_st w 1 2 (nI (tS X L p)) := rfl
  rw [g2]
  generalize hu : ra_st (ra_st w 1 2 (nI (tS X L p))) 1 3 (nI (tS X L p)) = u
  have u0 : u 1 0 = nI L := by rw [← hu]; simp only [pu_st]; simpa using h0
  have u2 : u 1 2 = nI (tS X L p) := by rw [← hu]; simp [pu_st]
  have u3 : u 1 3 = nI (tS X L p) := by rw [← hu, pu_st_eq]
  have uc : ∀ c, c ≠ 1 → u c = w c := fun c a => by rw [← hu, pu_st_ne a, pu_st_ne a]
  have ui : ∀ i, i ≠ 2 → i ≠ 3 → u 1 i = w 1 i := fun i a b => by rw [← hu]; simp [pu_st, a, b]
  rw [fX3_readToken_1, pu_st_eq, hu, u2, u0]
  by_cases hlt : tS X L p < L
  · rw [if_pos (nI_lt hlt (by omega)), q3_letterAt (by omega) hL u0 hlt, uc 2 (by decide), hX]
    simp only [ra_bind]
    rw [q3_isDigit (by omega)]
    simp only []
    by_cases hd : dg (X (tS X L p))
    · rw [if_pos hd, if_neg (by decide)]
      obtain ⟨w', a1, a2, a3, a4, a5, a6, a7⟩ := q3_number (k := k) (X := X) (by omega) hL hlt u0 u2 u3 ((uc 2 (by decide)).trans hX)
      rw [a1]
      simp only []
      have eN : tN X L p = en X (L - tS X L p) (tS X L p) := by
        unfold tN
        rw [if_pos hlt, if_pos hd]
        rfl
      have eK : tK X L p = (if (X (tS X L p) = 48 ∧ 1 < en X (L - tS X L p) (tS X L p) - tS X L p) ∨ 99 < mv X (L - tS X L p) (tS X L p) 0 then 2 else 1) := by
        unfold tK
        rw [if_pos hlt, if_pos hd]
        rfl
      refine ⟨w', rfl, by rw [eN]; exact a2, a3, by rw [eK]; exact a5, fun z => ?_, fun c a => (a6 c a).trans (uc c a), fun i b c d e => (a7 i b c d e).trans (ui i b c)⟩
      rw [a4]
      rw [eK] at z
      have hle : ¬ 99 < mv X (L - tS X L p) (tS X L p) 0 := fun q => by
        rw [if_pos (Or.inr q)] at z
        exact absurd z (by decide)
      obtain ⟨mm, m1, m2, m3⟩ := cv_mv (X := X) (L - tS X L p) (tS X L p) 0 (by omega)
      have m2 : mv X (L - tS X L p) (tS X L p) 0 = nI mm := m2
      have m3 : cv X (L - tS X L p) (tS X L p) 0 = nI (min 100 mm) := m3
      unfold tV
      rw [m2] at hle
      rw [m2, m3]
      have : mm ≤ 99 := by
        rcases Nat.lt_or_ge 99 mm with q | q
        · exact absurd (nI_lt (a := 99) q (by omega)) hle
        · exact q
      rw [Nat.min_eq_right (by omega)]
    · rw [if_neg hd, if_pos rfl, u2, nI_1]
      have eN : tN X L p = tS X L p + 1 := by
        unfold tN
        rw [if_pos hlt, if_neg hd]
      have fin : ∀ z : Int32, z = tK X L p → ¬ z = 1 → ∃ w', some ((0 : Int32), ra_st (ra_st u 1 2 (nI (tS X L p + 1))) 1 4 z) = some (0, w') ∧ w' 1 2 = nI (tN X L p) ∧ w' 1 3 = nI (tS X L p) ∧ w' 1 4 = tK X L p ∧ (tK X L p = 1 → w' 1 5 = tV X L p) ∧ (∀ c, c ≠ 1 → w' c = w c) ∧ (∀ i, i ≠ 2 → i ≠ 3 → i ≠ 4 → i ≠ 5 → w' 1 i = w 1 i) := by
        intro z hz hz1
        refine ⟨_, rfl, by rw [eN]; simp [pu_st], by simp only [pu_st]; simpa using u3, by rw [pu_st_eq]; exact hz, fun q => absurd (hz.trans q) hz1, fun c a => by rw [pu_st_ne a, pu_st_ne a]; exact uc c a, fun i a b c d => ?_⟩
        simp only [pu_st]
        simp [a, c]
        exact ui i a b
      by_cases hk5 : kn5 (X (tS X L p))
      · have eK : X (tS X L p) = tK X L p := by
          unfold tK
          rw [if_pos hlt, if_neg hd, if_pos hk5]
        have hne : ¬ X (tS X L p) = 1 := by
          rcases hk5 with z | z | z | z | z <;> rw [z] <;> decide
        have go : fX3_readToken k (m + 1 + 1 + 1) 2 (X (tS X L p)) 0 (ra_st u 1 2 (nI (tS X L p + 1))) = some (0, ra_st (ra_st u 1 2 (nI (tS X L p + 1))) 1 4 (X (tS X L p))) := by
          rw [fX3_readToken_2, fX3_readToken_3, if_neg (by decide), fX3_readToken_4]
        rw [go]
        have hc : ∀ (q y : Option (Int32 × ra_W)), (if X (tS X L p) = 99 then q else if X (tS X L p) = 97 then q else if X (tS X L p) = 119 then q else if X (tS X L p) = 114 then q else if X (tS X L p) = 59 then q else y) = q := by
          intro q y
          rcases hk5 with z | z | z | z | z <;> rw [z] <;> simp
        rw [hc]
        exact fin _ eK hne
      · have eK : (2 : Int32) = tK X L p := by
          unfold tK
          rw [if_pos hlt, if_neg hd, if_neg hk5]
        have go : fX3_readToken k (m + 1 + 1 + 1) 3 (X (tS X L p)) 0 (ra_st u 1 2 (nI (tS X L p + 1))) = some (0, ra_st (ra_st u 1 2 (nI (tS X L p + 1))) 1 4 2) := by
          rw [fX3_readToken_3, if_pos rfl, fX3_readToken_4]
        rw [go, if_neg (fun z => hk5 (Or.inl z)), if_neg (fun z => hk5 (Or.inr (Or.inl z))), if_neg (fun z => hk5 (Or.inr (Or.inr (Or.inl z)))), if_neg (fun z => hk5 (Or.inr (Or.inr (Or.inr (Or.inl z))))), if_neg (fun z => hk5 (Or.inr (Or.inr (Or.inr (Or.inr z)))))]
        exact fin _ eK (by decide)
  · rw [if_neg (nI_nlt (by omega) (by omega))]
    have eK : tK X L p = 0 := by
      unfold tK
      rw [if_neg hlt]
    have eN : tN X L p = tS X L p := by
      unfold tN
      rw [if_neg hlt]
    refine ⟨_, rfl, by rw [eN, pu_st, if_neg (by decide)]; exact u2, by rw [pu_st, if_neg (by decide)]; exact u3, by rw [pu_st_eq, eK], fun z => by rw [eK] at z; exact absurd z (by decide), fun c a => by rw [pu_st_ne a]; exact uc c a, fun i a b c d => ?_⟩
    rw [pu_st, if_neg (fun q => c q.2)]
    exact ui i a b
