/-! THE MODEL'S NET -/
theorem m6_bad {k m f : Nat} {w : ra_W} {v : Int32} (hk : 10 ≤ k) (hf : f < 2 ^ 31) (h7 : w 134 7 = nI f) : fX6_net k (m + 1 + 1 + 1 + 1) 4 v 0 w = some (-10 - nI f, w) := by
  have six : ∀ m v, fX6_net k (m + 1) 6 v 0 w = some (-10 - nI f, w) := by
    intro m v
    rw [fX6_net_6, (m6_well (by omega)).2 f hf h7]
    simp only [ra_bind]
    rw [if_pos trivial, h7]
  have one : ∀ m v, fX6_net k (m + 1 + 1) 1 v 0 w = some (-10 - nI f, w) := by
    intro m v
    rw [fX6_net_1, (m6_well (by omega)).2 f hf h7]
    simp only [ra_bind]
    rw [if_pos trivial, six]
  have five : ∀ m v x, fX6_net k (m + 1 + 1 + 1) 5 v x w = some (-10 - nI f, w) := by
    intro m v x
    rw [fX6_net_5, m6_takeb (by omega) hf h7]
    simp only [ra_bind]
    rw [one]
  rw [fX6_net_4, five, five]
  split <;> rfl
theorem m6_fin {k L m : Nat} {X : Nat → Int32} {w : ra_W} {K v : Int32} {r : Sum Nat (Nat × Nat × ra_W)} (hk : 600 ≤ k) (hL : L ≤ 80) (hx : tx X L) (hm : mX X L w) (h : simM X L w (FX6_readsItem k K w) r) : (match sb r (ite_ X L) with
    | .inl f => ∃ w', ra_bind (FX6_readsItem k K w) (fun _ w9 => fX6_net k (m + 1 + 1 + 1 + 1) 4 v 0 w9) = some (-10 - nI f, w') ∧ frM w w'
    | .inr s => ∃ w', ra_bind (FX6_readsItem k K w) (fun _ w9 => fX6_net k (m + 1 + 1 + 1 + 1) 4 v 0 w9) = fX6_net k (m + 1 + 1) 1 (v + 1) 0 w' ∧ (cur X L s.1 w' ∧ s.1 ≤ L) ∧ w' 134 7 = -1 ∧ mP w' s.2.1 s.2.2 ∧ frM w w') := by
  cases r with
  | inl e =>
    obtain ⟨w2, c1, ⟨c2, c3⟩, c4⟩ := h
    rw [c1]
    exact ⟨w2, m6_bad (by omega) (by omega) c2, c4⟩
  | inr s =>
    obtain ⟨w2, c1, ⟨c2, c3⟩, c4, c5, c6⟩ := h
    rw [c1]
    simp only [ra_bind]
    show (match sb (stp X L s.1) (fun q => Sum.inr (q, s.2.1, s.2.2)) with
      | .inl f => ∃ w', fX6_net k (m + 1 + 1 + 1 + 1) 4 v 0 w2 = some (-10 - nI f, w') ∧ frM w w'
      | .inr s => ∃ w', fX6_net k (m + 1 + 1 + 1 + 1) 4 v 0 w2 = fX6_net k (m + 1 + 1) 1 (v + 1) 0 w' ∧ (cur X L s.1 w' ∧ s.1 ≤ L) ∧ w' 134 7 = -1 ∧ mP w' s.2.1 s.2.2 ∧ frM w w')
    rw [fX6_net_4, c2.2.2.1]
    unfold stp
    by_cases h59 : tK X L s.1 = 59
    · rw [if_pos h59, if_pos (mk_3.mpr h59), fX6_net_5]
      obtain ⟨w3, d1, d2, d3⟩ := m6_take1 (k := k) (by omega) hL hx c3 (mX_M hm c6) c2 c4
      rw [d1]
      exact ⟨w3, rfl, ⟨d2, (tN_le (X := X) c3).2.1⟩, by rw [d3.2 7 (by decide) (by decide) (by decide) (by decide)]; exact c4, mP_4 c5 d3, frM_tr c6 (frM_4 d3)⟩
    · rw [if_neg h59, if_neg (fun z => h59 (mk_3.mp z)), fX6_net_5, m6_take0 (by omega) c4, c2.2.1]
      have hS := tS_le (X := X) c3
      refine ⟨ra_st w2 134 7 (nI (tS X L s.1)), ?_, frM_tr c6 (frM_st (by omega))⟩
      have h7 : ra_st w2 134 7 (nI (tS X L s.1)) 134 7 = nI (tS X L s.1) := pu_st_eq
      simp only [ra_bind]
      rw [fX6_net_1, (m6_well (by omega)).2 _ (by omega) h7]
      simp only [ra_bind]
      rw [if_pos trivial, fX6_net_6, (m6_well (by omega)).2 _ (by omega) h7]
      simp only [ra_bind]
      rw [if_pos trivial, h7]
theorem m6_met {k n : Nat} {w T : ra_W} {K : Int32} (hk : 2 ≤ k) (hv : vP n T) (hP : mP w n T) (h6 : w 134 6 = K) (hK : K = 97 ∨ K = 99 ∨ K = 114 ∨ K = 119) : FX6_mayBegin k w = some (if (K = 97 ∧ T 6 1 = 0) ∨ (K = 99 ∧ T 6 0 = 0) ∨ (K = 114 ∧ n < 7) ∨ (K = 119 ∧ T 6 2 = 0) then 1 else 0, w) := by
  obtain ⟨k, rfl⟩ : ∃ q, k = q + 1 := ⟨k - 1, by omega⟩
  obtain ⟨v1, -, -, -, v5⟩ := hv
  have hb : ∀ x : Int32, FX6_bitOf (k + 1) x w = some (if x = 99 then 1 else if x = 97 then 2 else 4, w) := by
    intro x
    unfold FX6_bitOf
    rw [fX6_bitOf_0]
    split
    · rfl
    · split <;> rfl
  have h0 : w 137 0 = nI n := hP.1.1
  have h8 : w 134 8 = T 6 0 + 2 * T 6 1 + 4 * T 6 2 := hP.2.2.1
  unfold FX6_mayBegin
  rw [fX6_mayBegin_0, h6, hb, h0, h8]
  simp only [ra_bind]
  have a0 := v5 0 (by omega)
  have a1 := v5 1 (by omega)
  have a2 := v5 2 (by omega)
  rcases hK with rfl | rfl | rfl | rfl
  · rcases a0 with z0 | z0 <;> rcases a1 with z1 | z1 <;> rcases a2 with z2 | z2 <;> rw [z0, z1, z2] <;> rfl
  · rcases a0 with z0 | z0 <;> rcases a1 with z1 | z1 <;> rcases a2 with z2 | z2 <;> rw [z0, z1, z2] <;> rfl
  · rw [if_pos rfl]
    by_cases hn : n < 7
    · rw [if_neg (pu_ge7 hn), if_pos (Or.inr (Or.inr (Or.inl ⟨rfl, hn⟩)))]
    · rw [if_pos (show (7 : Int32) ≤ nI n from nI_le (a := 7) (by omega) (by omega)), if_neg]
      rintro (z | z | z | z)
      · exact absurd z.1 (by decide)
      · exact absurd z.1 (by decide)
      · exact hn z.2
      · exact absurd z.1 (by decide)
  · rcases a0 with z0 | z0 <;> rcases a1 with z1 | z1 <;> rcases a2 with z2 | z2 <;> rw [z0, z1, z2] <;> rfl
theorem m6_bits {k : Nat} {x : Int32} {w : ra_W} (hk : 1 ≤ k) : FX6_bitOf k x w = some (if x = 99 then 1 else if x = 97 then 2 else 4, w) := by
  obtain ⟨k, rfl⟩ : ∃ q, k = q + 1 := ⟨k - 1, by omega⟩
  unfold FX6_bitOf
  rw [fX6_bitOf_0]
  split
  · rfl
  · split <;> rfl
theorem m6_read97 {k L p n : Nat} {X : Nat → Int32} {w T : ra_W} (hk : 700 ≤ k) (hL : L ≤ 80) (hx : tx X L) (hp : p ≤ L) (hv : vP n T) (hm : mX X L w) (hc : cur X L p w) (h7 : w 134 7 = -1) (hP : mP w n T) (h0 : T 6 1 = 0) : simM X L w (FX6_readsItem k 97 w) (itA X L p n T) := by
  obtain ⟨k, rfl⟩ : ∃ q, k = q + 1 := ⟨k - 1, by omega⟩
  have ha := m6_air (k := k + 1) (by omega) hL hx hp hm hc h7 hP rfl
  obtain ⟨-, -, -, -, v5⟩ := hv
  have e : w 134 8 ||| 2 = T 6 0 + 2 * 1 + 4 * T 6 2 := by
    rw [hP.2.2.1, h0]
    rcases v5 0 (by omega) with z0 | z0 <;> rcases v5 2 (by omega) with z2 | z2 <;> rw [z0, z2] <;> rfl
  unfold FX6_readsItem
  rw [fX6_readsItem_0, if_neg (by decide), m6_bits (by omega), if_neg (by decide), if_pos rfl]
  simp only [ra_bind]
  rw [if_neg (by decide), if_pos rfl, e]
  exact ha
theorem m6_read119 {k L p n : Nat} {X : Nat → Int32} {w T : ra_W} (hk : 700 ≤ k) (hL : L ≤ 80) (hx : tx X L) (hp : p ≤ L) (hv : vP n T) (hm : mX X L w) (hc : cur X L p w) (h7 : w 134 7 = -1) (hP : mP w n T) (h0 : T 6 2 = 0) : simM X L w (FX6_readsItem k 119 w) (itW X L p n T) := by
  obtain ⟨k, rfl⟩ : ∃ q, k = q + 1 := ⟨k - 1, by omega⟩
  have ha := m6_pat (k := k + 1) (by omega) hL hx hp hm hc h7 hP rfl
  obtain ⟨-, -, -, -, v5⟩ := hv
  have e : w 134 8 ||| 4 = T 6 0 + 2 * T 6 1 + 4 * 1 := by
    rw [hP.2.2.1, h0]
    rcases v5 0 (by omega) with z0 | z0 <;> rcases v5 1 (by omega) with z2 | z2 <;> rw [z0, z2] <;> rfl
  unfold FX6_readsItem
  rw [fX6_readsItem_0, if_neg (by decide), m6_bits (by omega), if_neg (by decide), if_neg (by decide)]
  simp only [ra_bind]
  rw [if_neg (by decide), if_neg (by decide), e]
  exact ha
theorem m6_read99 {k L p n : Nat} {X : Nat → Int32} {w T : ra_W} (hk : 700 ≤ k) (hL : L ≤ 80) (hx : tx X L) (hp : p ≤ L) (hv : vP n T) (hm : mX X L w) (hc : cur X L p w) (h7 : w 134 7 = -1) (hP : mP w n T) (h0 : T 6 0 = 0) : simM X L w (FX6_readsItem k 99 w) (itC X L p n T) := by
  obtain ⟨k, rfl⟩ : ∃ q, k = q + 1 := ⟨k - 1, by omega⟩
  have ha := m6_chan (k := k + 1) (by omega) hL hx hp hm hc h7 hP rfl
  obtain ⟨-, -, -, -, v5⟩ := hv
  have e : w 134 8 ||| 1 = 1 + 2 * T 6 1 + 4 * T 6 2 := by
    rw [hP.2.2.1, h0]
    rcases v5 1 (by omega) with z0 | z0 <;> rcases v5 2 (by omega) with z2 | z2 <;> rw [z0, z2] <;> rfl
  unfold FX6_readsItem
  rw [fX6_readsItem_0, if_neg (by decide), m6_bits (by omega), if_pos rfl]
  simp only [ra_bind]
  rw [if_pos rfl, e]
  exact ha
theorem tK_r {X : Nat → Int32} {L p : Nat} : tK X L p = 0 ∨ tK X L p = 1 ∨ tK X L p = 2 ∨ kn5 (tK X L p) := by
  unfold tK
  split
  · split
    · split
      · exact Or.inr (Or.inr (Or.inl rfl))
      · exact Or.inr (Or.inl rfl)
    · split
      · rename_i h
        exact Or.inr (Or.inr (Or.inr h))
      · exact Or.inr (Or.inr (Or.inl rfl))
  · exact Or.inl rfl
