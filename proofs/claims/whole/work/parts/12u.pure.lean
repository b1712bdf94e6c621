/-! THE MODEL READS A TOKEN -/
def mk (x : Int32) : Int32 := if x = 0 then 0 else if x = 1 then 2 else if x = 2 then 4 else if x = 59 then 3 else 1
theorem m6_letterAt {k L p : Nat} {w : ra_W} (hk : 1 ≤ k) (hL : L ≤ 80) (h0 : w 134 2 = nI L) (hp : p ≤ L) : FX6_letterAt k (nI p) w = some (if p < L then w 135 p else -1, w) := by
  obtain ⟨k, rfl⟩ : ∃ q, k = q + 1 := ⟨k - 1, by omega⟩
  unfold FX6_letterAt
  rw [fX6_letterAt_0, h0]
  by_cases h : p < L
  · rw [if_neg (nI_ge h (by omega)), if_pos (pu_in (by omega) (by decide)), pu_ix (by omega), if_pos h]
  · rw [if_pos (nI_le (by omega) (by omega)), if_neg h]
theorem m6_indg {k : Nat} {x : Int32} {w : ra_W} (hk : 1 ≤ k) : FX6_in k x 48 57 w = some (if dg x then 1 else 0, w) := by
  rw [m6_in hk]
  by_cases h1 : x < 48
  · rw [if_pos h1, if_neg (fun z => z.1 h1)]
  · rw [if_neg h1]
    by_cases h2 : 57 < x
    · rw [if_pos h2, if_neg (fun z => z.2 h2)]
    · rw [if_neg h2, if_pos ⟨h1, h2⟩]
/-- the letters are letters -/
def tx (X : Nat → Int32) (L : Nat) : Prop := ∀ j, j < L → ∃ c, c < 256 ∧ X j = nI c
theorem m6_skip {k L : Nat} {X : Nat → Int32} (hk : 1 ≤ k) (hL : L ≤ 80) : ∀ (d p m : Nat) (w : ra_W), p + d = L → d + 1 ≤ m → w 134 2 = nI L → w 134 3 = nI p → (∀ j, j < L → w 135 j = X j) → ∃ m' , m ≤ m' + d ∧ d ≤ d ∧ fX6_advances k m 0 0 0 w = fX6_advances k m' 0 0 0 (ra_st w 134 3 (nI (sk X d p))) ∧ (sk X d p < L → ¬ X (sk X d p) = 32) := by
  intro d
  induction d with
  | zero =>
    intro p m w hp hm h0 h3 hX
    rw [show sk X 0 p = p from rfl, st_same h3]
    exact ⟨m, by omega, Nat.le_refl _, rfl, fun z => absurd z (by omega)⟩
  | succ d ih =>
    intro p m w hp hm h0 h3 hX
    simp only [sk]
    by_cases hs : X p = 32
    · obtain ⟨m, rfl⟩ : ∃ q, m = q + 1 := ⟨m - 1, by omega⟩
      rw [if_pos hs, fX6_advances_0, h3, m6_letterAt hk hL h0 (by omega), if_pos (by omega), hX p (by omega)]
      simp only [ra_bind]
      rw [if_pos hs, h3, nI_1]
      obtain ⟨m', e, -, g, g2⟩ := ih (p + 1) m (ra_st w 134 3 (nI (p + 1))) (by omega) (by omega) (by rw [pu_st, if_neg (by decide)]; exact h0) (by rw [pu_st_eq]) (fun j hj => by rw [pu_st_ne (by decide)]; exact hX j hj)
      refine ⟨m', by omega, Nat.le_refl _, ?_, g2⟩
      rw [g]
      congr 1
      funext a b
      simp only [pu_st]
      split <;> rfl
    · rw [if_neg hs, st_same h3]
      exact ⟨m, by omega, Nat.le_refl _, rfl, fun _ => hs⟩
theorem m6_digits {k L : Nat} {X : Nat → Int32} {c : Int32} (hk : 1 ≤ k) (hL : L ≤ 80) : ∀ (d p m : Nat) (v : Int32) (w : ra_W), p + d = L → 2 * d + 1 ≤ m → w 134 2 = nI L → w 134 3 = nI p → w 134 6 = v → (∀ j, j < L → w 135 j = X j) → ∃ m', m ≤ m' + 2 * d ∧ fX6_advances k m 1 c 0 w = fX6_advances k m' 1 c 0 (ra_st (ra_st w 134 6 (mv X d p v)) 134 3 (nI (en X d p))) ∧ (en X d p < L → ¬ dg (X (en X d p))) := by
  intro d
  induction d with
  | zero =>
    intro p m v w hp hm h0 h3 h6 hX
    rw [show en X 0 p = p from rfl, show mv X 0 p v = v from rfl, st_same h6, st_same h3]
    exact ⟨m, by omega, rfl, fun z => absurd z (by omega)⟩
  | succ d ih =>
    intro p m v w hp hm h0 h3 h6 hX
    simp only [en, mv]
    by_cases hs : dg (X p)
    · obtain ⟨m, rfl⟩ : ∃ q, m = q + 1 + 1 := ⟨m - 2, by omega⟩
      rw [if_pos hs, if_pos hs, fX6_advances_1, h3, m6_letterAt hk hL h0 (by omega), if_pos (by omega), hX p (by omega)]
      simp only [ra_bind]
      rw [m6_indg hk, if_pos hs]
      simp only []
      rw [if_neg (by decide), h6, h3, m6_letterAt hk hL h0 (by omega), if_pos (show p < L by omega), hX p (by omega)]
      simp only []
      have hgo : (if v ≤ 99 then fX6_advances k (m + 1) 2 c (10 * v + X p - 48) w else fX6_advances k (m + 1) 2 c v w) = fX6_advances k (m + 1) 2 c (if v ≤ 99 then 10 * v + X p - 48 else v) w := by
        by_cases q : v ≤ 99
        · rw [if_pos q, if_pos q]
        · rw [if_neg q, if_neg q]
      have a3 : ∀ z, ra_st w 134 6 z 134 3 = nI p := fun z => by rw [pu_st, if_neg (by decide)]; exact h3
      rw [hgo, fX6_advances_2, a3, nI_1]
      generalize (if v ≤ 99 then 10 * v + X p - 48 else v) = v'
      obtain ⟨m', e, g, g2⟩ := ih (p + 1) m v' (ra_st (ra_st w 134 6 v') 134 3 (nI (p + 1))) (by omega) (by omega) (by rw [pu_st, if_neg (by decide), pu_st, if_neg (by decide)]; exact h0) (by rw [pu_st_eq]) (by rw [pu_st, if_neg (by decide), pu_st_eq]) (fun j hj => by rw [pu_st_ne (by decide), pu_st_ne (by decide)]; exact hX j hj)
      refine ⟨m', by omega, ?_, g2⟩
      rw [g]
      congr 1
      funext a b
      simp only [pu_st]
      grind
    · rw [if_neg hs, if_neg hs, st_same h6, st_same h3]
      exact ⟨m, by omega, rfl, fun _ => hs⟩
/-- where the model stands: it has read the token at p -/
def cur (X : Nat → Int32) (L p : Nat) (w : ra_W) : Prop := w 134 3 = nI (tN X L p) ∧ w 134 5 = nI (tS X L p) ∧ w 134 4 = mk (tK X L p) ∧ (tK X L p = 1 → w 134 6 = tV X L p) ∧ (kn5 (tK X L p) → w 134 6 = tK X L p)
/-- what reading changes -/
def fr4 (w w' : ra_W) : Prop := (∀ c, c ≠ 134 → w' c = w c) ∧ (∀ i, i ≠ 3 → i ≠ 4 → i ≠ 5 → i ≠ 6 → w' 134 i = w 134 i)
theorem fr4_tr {w w1 w2 : ra_W} (h1 : fr4 w w1) (h2 : fr4 w1 w2) : fr4 w w2 := ⟨fun c a => (h2.1 c a).trans (h1.1 c a), fun i a b d e => (h2.2 i a b d e).trans (h1.2 i a b d e)⟩
theorem m6_advances {k L p : Nat} {X : Nat → Int32} {w : ra_W} (hk : 300 ≤ k) (hL : L ≤ 80) (hx : tx X L) (hp : p ≤ L) (h0 : w 134 2 = nI L) (h3 : w 134 3 = nI p) (hX : ∀ j, j < L → w 135 j = X j) : ∃ w', FX6_advances k w = some (0, w') ∧ cur X L p w' ∧ fr4 w w' := by
  unfold FX6_advances
  obtain ⟨m, e, -, g, hn32⟩ := m6_skip (k := k) (X := X) (by omega) hL (L - p) p k w (by omega) (by omega) h0 h3 hX
  rw [g]
  have hs := tS_le (X := X) hp
  obtain ⟨m, rfl⟩ : ∃ q, m = q + 1 := ⟨m - 1, by omega⟩
  have g2 : ra_st w 134 3 (nI (sk X (L - p) p)) = ra_st w 134 3 (nI (tS X L p)) := rfl
  have hn32 : tS X L p < L → ¬ X (tS X L p) = 32 := hn32
  rw [g2]
  have y0 : ra_st w 134 3 (nI (tS X L p)) 134 2 = nI L := by rw [pu_st, if_neg (by decide)]; exact h0
  rw [fX6_advances_0, pu_st_eq, m6_letterAt (by omega) hL y0 hs.2, pu_st_ne (by decide)]
  simp only [ra_bind]
  have hne : ¬ (if tS X L p < L then w 135 (tS X L p) else -1) = 32 := by
    by_cases hlt : tS X L p < L
    · rw [if_pos hlt, hX _ hlt]
      exact hn32 hlt
    · rw [if_neg hlt]
      decide
  rw [if_neg hne]
  generalize hu : ra_st (ra_st w 134 3 (nI (tS X L p))) 134 5 (ra_st w 134 3 (nI (tS X L p)) 134 3) = u
  have u0 : u 134 2 = nI L := by rw [← hu]; simp only [pu_st]; simpa using h0
  have u3 : u 134 3 = nI (tS X L p) := by rw [← hu]; simp [pu_st]
  have u5 : u 134 5 = nI (tS X L p) := by rw [← hu]; simp [pu_st]
  have uc : ∀ c, c ≠ 134 → u c = w c := fun c a => by rw [← hu, pu_st_ne a, pu_st_ne a]
  have ui : ∀ i, i ≠ 3 → i ≠ 5 → u 134 i = w 134 i := fun i a b => by rw [← hu]; simp [pu_st, a, b]
  have uX : ∀ j, j < L → u 135 j = X j := fun j hj => by rw [uc 135 (by decide)]; exact hX j hj
  rw [u3, m6_letterAt (by omega) hL u0 hs.2]
  simp only []
  by_cases hlt : tS X L p < L
  · rw [if_pos hlt, uX _ hlt]
    obtain ⟨c, hc1, hc2⟩ := hx _ hlt
    rw [if_pos (show 0 ≤ X (tS X L p) by rw [hc2]; exact nI_pos' (by omega)), m6_indg (by omega)]
    simp only []
    by_cases hd : dg (X (tS X L p))
    · rw [if_pos hd, if_neg (by decide)]
      obtain ⟨m', e2, g3, hnd⟩ := m6_digits (k := k) (X := X) (c := X (tS X L p)) (by omega) hL (L - tS X L p) (tS X L p) m 0 (ra_st u 134 6 0) (by omega) (by omega) (by rw [pu_st, if_neg (by decide)]; exact u0) (by rw [pu_st, if_neg (by decide)]; exact u3) (by rw [pu_st_eq]) (fun j hj => by rw [pu_st_ne (by decide)]; exact uX j hj)
      rw [g3]
      have hen := en_le (X := X) (L - tS X L p) (tS X L p)
      have eN : tN X L p = en X (L - tS X L p) (tS X L p) := by
        unfold tN
        rw [if_pos hlt, if_pos hd]
        rfl
      have eK : tK X L p = (if (X (tS X L p) = 48 ∧ 1 < en X (L - tS X L p) (tS X L p) - tS X L p) ∨ 99 < mv X (L - tS X L p) (tS X L p) 0 then 2 else 1) := by
        unfold tK
        rw [if_pos hlt, if_pos hd]
        rfl
      have eV : tV X L p = mv X (L - tS X L p) (tS X L p) 0 := rfl
      generalize hE : en X (L - tS X L p) (tS X L p) = E at hen eN eK hnd
      generalize hV : mv X (L - tS X L p) (tS X L p) 0 = V at eK eV
      generalize hz : ra_st (ra_st (ra_st u 134 6 0) 134 6 V) 134 3 (nI E) = z
      have z0 : z 134 2 = nI L := by rw [← hz]; simp only [pu_st]; simpa using u0
      have z3 : z 134 3 = nI E := by rw [← hz, pu_st_eq]
      have z5 : z 134 5 = nI (tS X L p) := by rw [← hz]; simp only [pu_st]; simpa using u5
      have z6 : z 134 6 = V := by rw [← hz]; simp [pu_st]
      have zc : ∀ c, c ≠ 134 → z c = w c := fun c a => by rw [← hz, pu_st_ne a, pu_st_ne a, pu_st_ne a]; exact uc c a
      have zi : ∀ i, i ≠ 3 → i ≠ 5 → i ≠ 6 → z 134 i = w 134 i := fun i a b d => by rw [← hz]; simp [pu_st, a, d]; exact ui i a b
      have zX : ∀ j, j < L → z 135 j = X j := fun j hj => by rw [zc 135 (by decide)]; exact hX j hj
      obtain ⟨m', rfl⟩ : ∃ q, m' = q + 1 + 1 + 1 := ⟨m' - 3, by omega⟩
      rw [fX6_advances_1, z3, m6_letterAt (by omega) hL z0 (by omega)]
      simp only [ra_bind]
      rw [m6_indg (by omega)]
      simp only []
      have hnd2 : ¬ dg (if E < L then z 135 E else -1) := by
        by_cases q : E < L
        · rw [if_pos q, zX _ q]
          exact hnd q
        · rw [if_neg q]
          decide
      rw [if_neg hnd2, if_pos rfl, z6, z3, z5, pk_sub hen.1]
      have fin : ∀ y : Int32, y = mk (tK X L p) → ∃ w', some ((0 : Int32), ra_st z 134 4 y) = some (0, w') ∧ cur X L p w' ∧ fr4 w w' := by
        intro y hy
        refine ⟨_, rfl, ⟨by rw [pu_st, if_neg (by decide), eN]; exact z3, by rw [pu_st, if_neg (by decide)]; exact z5, by rw [pu_st_eq]; exact hy, fun _ => by rw [pu_st, if_neg (by decide), eV]; exact z6, fun q => ?_⟩, fun c a => by rw [pu_st_ne a]; exact zc c a, fun i a b c d => by rw [pu_st, if_neg (fun q => b q.2)]; exact zi i a c d⟩
        exfalso
        rw [eK] at q
        split at q <;> revert q <;> decide
      by_cases h99 : 99 < V
      · rw [if_pos h99, fX6_advances_3, fX6_advances_5]
        exact fin 4 (by rw [eK, if_pos (Or.inr h99)]; rfl)
      · rw [if_neg h99]
        by_cases h48 : X (tS X L p) = 48
        · rw [if_pos h48]
          by_cases h1 : 1 < E - tS X L p
          · rw [if_neg (show ¬ nI (E - tS X L p) ≤ 1 from nI_ge (a := 1) h1 (by omega)), fX6_advances_3, fX6_advances_5]
            exact fin 4 (by rw [eK, if_pos (Or.inl ⟨h48, h1⟩)]; rfl)
          · rw [if_pos (show nI (E - tS X L p) ≤ 1 from nI_le (b := 1) (by omega) (by decide)), fX6_advances_4, fX6_advances_5]
            exact fin 2 (by rw [eK, if_neg (by rintro (q | q); exact h1 q.2; exact h99 q)]; rfl)
        · rw [if_neg h48, fX6_advances_4, fX6_advances_5]
          exact fin 2 (by rw [eK, if_neg (by rintro (q | q); exact h48 q.1; exact h99 q)]; rfl)
    · rw [if_neg hd, if_pos rfl, u3, nI_1]
      have eN : tN X L p = tS X L p + 1 := by
        unfold tN
        rw [if_pos hlt, if_neg hd]
      have eK : tK X L p = if kn5 (X (tS X L p)) then X (tS X L p) else 2 := by
        unfold tK
        rw [if_pos hlt, if_neg hd]
      obtain ⟨m, rfl⟩ : ∃ q, m = q + 1 + 1 := ⟨m - 2, by omega⟩
      have fin : ∀ y : Int32, y = mk (tK X L p) → ∃ w', some ((0 : Int32), ra_st (ra_st (ra_st u 134 3 (nI (tS X L p + 1))) 134 6 (X (tS X L p))) 134 4 y) = some (0, w') ∧ cur X L p w' ∧ fr4 w w' := by
        intro y hy
        refine ⟨_, rfl, ⟨by rw [eN]; simp [pu_st], by simp only [pu_st]; simpa using u5, by rw [pu_st_eq]; exact hy, fun q => ?_, fun q => ?_⟩, fun c a => by rw [pu_st_ne a, pu_st_ne a, pu_st_ne a]; exact uc c a, fun i a b c d => ?_⟩
        · exfalso
          rw [eK] at q
          split at q
          · rename_i q5
            rw [q] at q5
            revert q5
            decide
          · exact absurd q (by decide)
        · rw [eK] at q ⊢
          by_cases q5 : kn5 (X (tS X L p))
          · rw [if_pos q5]
            simp [pu_st]
          · rw [if_neg q5] at q
            exact absurd q (by decide)
        · simp only [pu_st]
          simp [a, b, d]
          exact ui i a c
      have six : ∀ m, fX6_advances k (m + 1 + 1) 6 0 0 (ra_st (ra_st u 134 3 (nI (tS X L p + 1))) 134 6 (X (tS X L p))) = some (0, ra_st (ra_st (ra_st u 134 3 (nI (tS X L p + 1))) 134 6 (X (tS X L p))) 134 4 1) := by
        intro m
        rw [fX6_advances_6, fX6_advances_7]
      rw [fX6_advances_7, fX6_advances_7, six]
      by_cases k59 : X (tS X L p) = 59
      · rw [if_pos k59]
        exact fin 3 (by rw [eK, if_pos (Or.inr (Or.inr (Or.inr (Or.inr k59)))), k59]; rfl)
      · rw [if_neg k59]
        by_cases hk5 : kn5 (X (tS X L p))
        · have hc : ∀ (q y : Option (Int32 × ra_W)), (if X (tS X L p) = 99 then q else if X (tS X L p) = 97 then q else if X (tS X L p) = 119 then q else if X (tS X L p) = 114 then q else y) = q := by
            intro q y
            rcases hk5 with z | z | z | z | z
            · rw [z]; simp
            · rw [z]; simp
            · rw [z]; simp
            · rw [z]; simp
            · exact absurd z k59
          rw [hc]
          refine fin 1 ?_
          rw [eK, if_pos hk5]
          rcases hk5 with z | z | z | z | z
          · rw [z]; rfl
          · rw [z]; rfl
          · rw [z]; rfl
          · rw [z]; rfl
          · exact absurd z k59
        · rw [if_neg (fun z => hk5 (Or.inl z)), if_neg (fun z => hk5 (Or.inr (Or.inl z))), if_neg (fun z => hk5 (Or.inr (Or.inr (Or.inl z)))), if_neg (fun z => hk5 (Or.inr (Or.inr (Or.inr (Or.inl z)))))]
          exact fin 4 (by rw [eK, if_neg hk5]; rfl)
  · rw [if_neg hlt, if_neg (by decide)]
    have eK : tK X L p = 0 := by
      unfold tK
      rw [if_neg hlt]
    have eN : tN X L p = tS X L p := by
      unfold tN
      rw [if_neg hlt]
    refine ⟨_, rfl, ⟨by rw [eN, pu_st, if_neg (by decide)]; exact u3, by rw [pu_st, if_neg (by decide)]; exact u5, by rw [pu_st_eq, eK]; rfl, fun z => by rw [eK] at z; exact absurd z (by decide), fun z => by rw [eK] at z; exact absurd z (by decide)⟩, fun c a => by rw [pu_st_ne a]; exact uc c a, fun i a b c d => ?_⟩
    rw [pu_st, if_neg (fun q => b q.2)]
    exact ui i a c
