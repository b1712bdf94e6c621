/-! THE MODEL'S NET -/
theorem m6_bad {k m f : Nat} {w : ra_W} {v : Int32} (hk : 10 ≤ k) (hf : f < 2 ^ 31) (h7 : w 134 7 = nI f) : fX6_net k (m + 1 + 1 + 1 + 1) 4 v 0 w = some (-10 - nI f, w) := by
  have six : ∀ m v, fX6_net k (m + 1) 6 v 0 w = some (-10 - nI f, w) := by
    intro m v
    rw [fX6_net_6, (m6_well (by omega)).2 f hf h7]
    simp only [ra_bind]
    rw [if_pos trivial, h7]
  have one : ∀ m v, fX6_net k (m + 1 + 1) 1 v 0 w = some (-10 - nI f, w) := by
    intro m v
    rw [fX6_net_1, (m6_well (by omega)).2 f hf h7]
    simp only [ra_bind]
    rw [if_pos trivial, six]
  have five : ∀ m v x, fX6_net k (m + 1 + 1 + 1) 5 v x w = some (-10 - nI f, w) := by
    intro m v x
    rw [fX6_net_5, m6_takeb (by omega) hf h7]
    simp only [ra_bind]
    rw [one]
  rw [fX6_net_4, five, five]
  split <;> rfl
theorem m6_fin {k L m : Nat} {X : Nat → Int32} {w : ra_W} {K v : Int32} {r : Sum Nat (Nat × Nat × ra_W)} (hk : 600 ≤ k) (hL : L ≤ 80) (hx : tx X L) (hm : mX X L w) (h : simM X L w (FX6_readsItem k K w) r) : (match sb r (ite_ X L) with
    | .inl f => ∃ w', ra_bind (FX6_readsItem k K w) (fun _ w9 => fX6_net k (m + 1 + 1 + 1 + 1) 4 v 0 w9) = some (-10 - nI f, w') ∧ frM w w'
    | .inr s => ∃ w', ra_bind (FX6_readsItem k K w) (fun _ w9 => fX6_net k (m + 1 + 1 + 1 + 1) 4 v 0 w9) = fX6_net k (m + 1 + 1) 1 (v + 1) 0 w' ∧ (cur X L s.1 w' ∧ s.1 ≤ L) ∧ w' 134 7 = -1 ∧ mP w' s.2.1 s.2.2 ∧ frM w w') := by
  cases r with
  | inl e =>
    obtain ⟨w2, c1, ⟨c2, c3⟩, c4⟩ := h
    rw [c1]
    exact ⟨w2, m6_bad (by omega) (by omega) c2, c4⟩
  | inr s =>
    obtain ⟨w2, c1, ⟨c2, c3⟩, c4, c5, c6⟩ := h
    rw [c1]
    simp only [ra_bind]
    show (match sb (stp X L s.1) (fun q => Sum.inr (q, s.2.1, s.2.2)) with
      | .inl f => ∃ w', fX6_net k (m + 1 + 1 + 1 + 1) 4 v 0 w2 = some (-10 - nI f, w') ∧ frM w w'
      | .inr s => ∃ w', fX6_net k (m + 1 + 1 + 1 + 1) 4 v 0 w2 = fX6_net k (m + 1 + 1) 1 (v + 1) 0 w' ∧ (cur X L s.1 w' ∧ s.1 ≤ L) ∧ w' 134 7 = -1 ∧ mP w' s.2.1 s.2.2 ∧ frM w w')
    rw [fX6_net_4, c2.2.2.1]
    unfold stp
    by_cases h59 : tK X L s.1 = 59
    · rw [if_pos h59, if_pos (mk_3.mpr h59), fX6_net_5]
      obtain ⟨w3, d1, d2, d3⟩ := m6_take1 (k := k) (by omega) hL hx c3 (mX_M hm c6) c2 c4
      rw [d1]
      exact ⟨w3, rfl, ⟨d2, (tN_le (X := X) c3).2.1⟩, by rw [d3.2 7 (by decide) (by decide) (by decide) (by decide)]; exact c4, mP_4 c5 d3, frM_tr c6 (frM_4 d3)⟩
    · rw [if_neg h59, if_neg (fun z => h59 (mk_3.mp z)), fX6_net_5, m6_take0 (by omega) c4, c2.2.1]
      have hS := tS_le (X := X) c3
      refine ⟨ra_st w2 134 7 (nI (tS X L s.1)), ?_, frM_tr c6 (frM_st (by omega))⟩
      have h7 : ra_st w2 134 7 (nI (tS X L s.1)) 134 7 = nI (tS X L s.1) := pu_st_eq
      simp only [ra_bind]
      rw [fX6_net_1, (m6_well (by omega)).2 _ (by omega) h7]
      simp only [ra_bind]
      rw [if_pos trivial, fX6_net_6, (m6_well (by omega)).2 _ (by omega) h7]
      simp only [ra_bind]
      rw [if_pos trivial, h7]
theorem m6_met {k n : Nat} {w T : ra_W} {K : Int32} (hk : 2 ≤ k) (hv : vP n T) (hP : mP w n T) (h6 : w 134 6 = K) (hK : K = 97 ∨ K = 99 ∨ K = 114 ∨ K = 119) : FX6_mayBegin k w = some (if (K = 97 ∧ T 6 1 = 0) ∨ (K = 99 ∧ T 6 0 = 0) ∨ (K = 114 ∧ n < 7) ∨ (K = 119 ∧ T 6 2 = 0) then 1 else 0, w) := by
  obtain ⟨k, rfl⟩ : ∃ q, k = q + 1 := ⟨k - 1, by omega⟩
  obtain ⟨v1, -, -, -, v5⟩ := hv
  have hb : ∀ x : Int32, FX6_bitOf (k + 1) x w = some (if x = 99 then 1 else if x = 97 then 2 else 4, w) := by
    intro x
    unfold FX6_bitOf
    rw [fX6_bitOf_0]
    split
    · rfl
    · split <;> rfl
  have h0 : w 137 0 = nI n := hP.1.1
  have h8 : w 134 8 = T 6 0 + 2 * T 6 1 + 4 * T 6 2 := hP.2.2.1
  unfold FX6_mayBegin
  rw [fX6_mayBegin_0, h6, hb, h0, h8]
  simp only [ra_bind]
  have a0 := v5 0 (by omega)
  have a1 := v5 1 (by omega)
  have a2 := v5 2 (by omega)
  rcases hK with rfl | rfl | rfl | rfl
  · rcases a0 with z0 | z0 <;> rcases a1 with z1 | z1 <;> rcases a2 with z2 | z2 <;> rw [z0, z1, z2] <;> rfl
  · rcases a0 with z0 | z0 <;> rcases a1 with z1 | z1 <;> rcases a2 with z2 | z2 <;> rw [z0, z1, z2] <;> rfl
  · rw [if_pos rfl]
    by_cases hn : n < 7
    · rw [if_neg (pu_ge7 hn), if_pos (Or.inr (Or.inr (Or.inl ⟨rfl, hn⟩)))]
    · rw [if_pos (show (7 : Int32) ≤ nI n from nI_le (a := 7) (by omega) (by omega)), if_neg]
      rintro (z | z | z | z)
      · exact absurd z.1 (by decide)
      · exact absurd z.1 (by decide)
      · exact hn z.2
      · exact absurd z.1 (by decide)
  · rcases a0 with z0 | z0 <;> rcases a1 with z1 | z1 <;> rcases a2 with z2 | z2 <;> rw [z0, z1, z2] <;> rfl
theorem m6_bits {k : Nat} {x : Int32} {w : ra_W} (hk : 1 ≤ k) : FX6_bitOf k x w = some (if x = 99 then 1 else if x = 97 then 2 else 4, w) := by
  obtain ⟨k, rfl⟩ : ∃ q, k = q + 1 := ⟨k - 1, by omega⟩
  unfold FX6_bitOf
  rw [fX6_bitOf_0]
  split
  · rfl
  · split <;> rfl
theorem m6_read97 {k L p n : Nat} {X : Nat → Int32} {w T : ra_W} (hk : 700 ≤ k) (hL : L ≤ 80) (hx : tx X L) (hp : p ≤ L) (hv : vP n T) (hm : mX X L w) (hc : cur X L p w) (h7 : w 134 7 = -1) (hP : mP w n T) (h0 : T 6 1 = 0) : simM X L w (FX6_readsItem k 97 w) (itA X L p n T) := by
  obtain ⟨k, rfl⟩ : ∃ q, k = q + 1 := ⟨k - 1, by omega⟩
  have ha := m6_air (k := k + 1) (by omega) hL hx hp hm hc h7 hP rfl
  obtain ⟨-, -, -, -, v5⟩ := hv
  have e : w 134 8 ||| 2 = T 6 0 + 2 * 1 + 4 * T 6 2 := by
    rw [hP.2.2.1, h0]
    rcases v5 0 (by omega) with z0 | z0 <;> rcases v5 2 (by omega) with z2 | z2 <;> rw [z0, z2] <;> rfl
  unfold FX6_readsItem
  rw [fX6_readsItem_0, if_neg (by decide), m6_bits (by omega), if_neg (by decide), if_pos rfl]
  simp only [ra_bind]
  rw [if_neg (by decide), if_pos trivial, e]
  exact ha
theorem m6_read119 {k L p n : Nat} {X : Nat → Int32} {w T : ra_W} (hk : 700 ≤ k) (hL : L ≤ 80) (hx : tx X L) (hp : p ≤ L) (hv : vP n T) (hm : mX X L w) (hc : cur X L p w) (h7 : w 134 7 = -1) (hP : mP w n T) (h0 : T 6 2 = 0) : simM X L w (FX6_readsItem k 119 w) (itW X L p n T) := by
  obtain ⟨k, rfl⟩ : ∃ q, k = q + 1 := ⟨k - 1, by omega⟩
  have ha := m6_pat (k := k + 1) (by omega) hL hx hp hm hc h7 hP rfl
  obtain ⟨-, -, -, -, v5⟩ := hv
  have e : w 134 8 ||| 4 = T 6 0 + 2 * T 6 1 + 4 * 1 := by
    rw [hP.2.2.1, h0]
    rcases v5 0 (by omega) with z0 | z0 <;> rcases v5 1 (by omega) with z2 | z2 <;> rw [z0, z2] <;> rfl
  unfold FX6_readsItem
  rw [fX6_readsItem_0, if_neg (by decide), m6_bits (by omega), if_neg (by decide), if_neg (by decide)]
  simp only [ra_bind]
  rw [if_neg (by decide), if_neg (by decide), e]
  exact ha
theorem m6_read99 {k L p n : Nat} {X : Nat → Int32} {w T : ra_W} (hk : 700 ≤ k) (hL : L ≤ 80) (hx : tx X L) (hp : p ≤ L) (hv : vP n T) (hm : mX X L w) (hc : cur X L p w) (h7 : w 134 7 = -1) (hP : mP w n T) (h0 : T 6 0 = 0) : simM X L w (FX6_readsItem k 99 w) (itC X L p n T) := by
  obtain ⟨k, rfl⟩ : ∃ q, k = q + 1 := ⟨k - 1, by omega⟩
  have ha := m6_chan (k := k + 1) (by omega) hL hx hp hm hc h7 hP rfl
  obtain ⟨-, -, -, -, v5⟩ := hv
  have e : w 134 8 ||| 1 = 1 + 2 * T 6 1 + 4 * T 6 2 := by
    rw [hP.2.2.1, h0]
    rcases v5 1 (by omega) with z0 | z0 <;> rcases v5 2 (by omega) with z2 | z2 <;> rw [z0, z2] <;> rfl
  unfold FX6_readsItem
  rw [fX6_readsItem_0, if_neg (by decide), m6_bits (by omega), if_pos rfl]
  simp only [ra_bind]
  rw [if_pos trivial, e]
  exact ha
theorem tK_r {X : Nat → Int32} {L p : Nat} : tK X L p = 0 ∨ tK X L p = 1 ∨ tK X L p = 2 ∨ kn5 (tK X L p) := by
  unfold tK
  split
  · split
    · split
      · exact Or.inr (Or.inr (Or.inl rfl))
      · exact Or.inr (Or.inl rfl)
    · split
      · rename_i h
        exact Or.inr (Or.inr (Or.inr h))
      · exact Or.inr (Or.inr (Or.inl rfl))
  · exact Or.inl rfl
theorem m6_net_loop {k L : Nat} {X : Nat → Int32} (hk : 800 ≤ k) (hL : L ≤ 80) (hx : tx X L) : ∀ (d i p n : Nat) (T w : ra_W) (m : Nat), i + d = 81 → i ≤ p → p ≤ L → vP n T → mX X L w → cur X L p w → w 134 7 = -1 → mP w n T → 8 * d + 20 ≤ m → (match prs X L d p n T i with
    | .inl f => ∃ w', fX6_net k m 1 (nI i) 0 w = some (-10 - nI f, w') ∧ frM w w'
    | .inr s => ∃ (m' : Nat) (w' : ra_W), 2 ≤ m' ∧ fX6_net k m 1 (nI i) 0 w = fX6_net k m' 6 (nI s.1) 0 w' ∧ w' 134 7 = -1 ∧ mP w' s.2.1 s.2.2 ∧ frM w w') := by
  intro d
  induction d with
  | zero =>
    intro i p n T w m hi hip hp
    omega
  | succ d ih =>
    intro i p n T w m hi hip hp hv hm hc h7 hP hmm
    obtain ⟨m, rfl⟩ : ∃ q, m = (q + 1 + 1 + 1 + 1) + 1 + 1 + 1 := ⟨m - 7, by omega⟩
    have hN := tN_le (X := X) hp
    have hS := tS_le (X := X) hp
    rw [fX6_net_1, (m6_well (by omega)).1 h7]
    simp only [ra_bind]
    rw [if_neg (by decide), hc.2.2.1]
    simp only [prs]
    by_cases h0 : tK X L p = 0
    · rw [if_pos h0, if_pos (mk_0.mpr h0)]
      exact ⟨_, w, by omega, rfl, h7, hP, frM_rf w⟩
    · rw [if_neg h0, if_neg (fun z => h0 (mk_0.mp z))]
      have hlt := hN.2.2 h0
      -- what may not begin
      have nob : itm X L (tK X L p) (tS X L p) (tN X L p) n T = .inl (tS X L p) → ∀ m, fX6_net k (m + 1 + 1 + 1 + 1 + 1) 3 (nI i) 0 w = some (-10 - nI (tS X L p), ra_st w 134 7 (nI (tS X L p))) := by
        intro _ m
        have e7 : ra_st w 134 7 (nI (tS X L p)) 134 7 = nI (tS X L p) := pu_st_eq
        rw [fX6_net_3, m6_take0 (by omega) h7, hc.2.1]
        simp only [ra_bind]
        rw [(m6_well (by omega)).2 _ (by omega) e7]
        simp only [ra_bind]
        rw [if_pos trivial]
        exact m6_bad (by omega) (by omega) e7
      -- an item
      have item : ∀ (r : Sum Nat (Nat × Nat × ra_W)), itm X L (tK X L p) (tS X L p) (tN X L p) n T = sb r (ite_ X L) → w 134 6 = tK X L p → (∀ u : ra_W, mX X L u → cur X L (tN X L p) u → u 134 7 = -1 → mP u n T → simM X L u (FX6_readsItem k (tK X L p) u) r) → (match sb (itm X L (tK X L p) (tS X L p) (tN X L p) n T) (fun a => prs X L d a.1 a.2.1 a.2.2 (i + 1)) with
          | .inl f => ∃ w', fX6_net k ((m + 1 + 1 + 1 + 1) + 1 + 1) 3 (nI i) 1 w = some (-10 - nI f, w') ∧ frM w w'
          | .inr s => ∃ (m' : Nat) (w' : ra_W), 2 ≤ m' ∧ fX6_net k ((m + 1 + 1 + 1 + 1) + 1 + 1) 3 (nI i) 1 w = fX6_net k m' 6 (nI s.1) 0 w' ∧ w' 134 7 = -1 ∧ mP w' s.2.1 s.2.2 ∧ frM w w') := by
        intro r hr h6 hs
        obtain ⟨w1, g1, g2, g3⟩ := m6_take1 (k := k) (by omega) hL hx hp hm hc h7
        have g7 : w1 134 7 = -1 := by rw [g3.2 7 (by decide) (by decide) (by decide) (by decide)]; exact h7
        rw [h6] at g1
        have hf := m6_fin (k := k) (m := m + 1) (v := nI i) (by omega) hL hx (mX_4 hm g3) (hs w1 (mX_4 hm g3) g2 g7 (mP_4 hP g3))
        rw [← hr] at hf
        have e3 : fX6_net k ((m + 1 + 1 + 1 + 1) + 1 + 1) 3 (nI i) 1 w = ra_bind (FX6_readsItem k (tK X L p) w1) (fun _ w9 => fX6_net k (m + 1 + 1 + 1 + 1 + 1) 4 (nI i) 0 w9) := by
          rw [fX6_net_3, g1]
          simp only [ra_bind]
          rw [(m6_well (by omega)).1 g7]
          simp only [ra_bind]
          rw [if_neg (by decide)]
        rw [e3]
        cases hz : itm X L (tK X L p) (tS X L p) (tN X L p) n T with
        | inl f =>
          rw [hz] at hf
          obtain ⟨w2, c1, c2⟩ := hf
          exact ⟨w2, c1, frM_tr (frM_4 g3) c2⟩
        | inr s =>
          rw [hz] at hf
          obtain ⟨w2, c1, ⟨c2, c3⟩, c4, c5, c6⟩ := hf
          obtain ⟨o1, o2⟩ := itm_ok hN.2.1 hz
          rw [nI_1] at c1
          have hfr := frM_tr (frM_4 g3) c6
          have := ih (i + 1) s.1 s.2.1 s.2.2 w2 (m + 1 + 1 + 1) (by omega) (by omega) c3 (o2 hv) (mX_M hm hfr) c2 c4 c5 (by omega)
          show (match prs X L d s.1 s.2.1 s.2.2 (i + 1) with
            | .inl f => ∃ w', ra_bind (FX6_readsItem k (tK X L p) w1) (fun _ w9 => fX6_net k (m + 1 + 1 + 1 + 1 + 1) 4 (nI i) 0 w9) = some (-10 - nI f, w') ∧ frM w w'
            | .inr s => ∃ (m' : Nat) (w' : ra_W), 2 ≤ m' ∧ ra_bind (FX6_readsItem k (tK X L p) w1) (fun _ w9 => fX6_net k (m + 1 + 1 + 1 + 1 + 1) 4 (nI i) 0 w9) = fX6_net k m' 6 (nI s.1) 0 w' ∧ w' 134 7 = -1 ∧ mP w' s.2.1 s.2.2 ∧ frM w w')
          rw [c1]
          cases hy : prs X L d s.1 s.2.1 s.2.2 (i + 1) with
          | inl f =>
            rw [hy] at this
            obtain ⟨w3, e1, e2⟩ := this
            exact ⟨w3, e1, frM_tr hfr e2⟩
          | inr s' =>
            rw [hy] at this
            obtain ⟨m', w3, e0, e1, e2, e3, e4⟩ := this
            exact ⟨m', w3, e0, e1, e2, e3, frM_tr hfr e4⟩
      -- the kinds
      by_cases hk1 : mk (tK X L p) = 1
      · rw [if_pos hk1]
        have hK : tK X L p = 97 ∨ tK X L p = 99 ∨ tK X L p = 114 ∨ tK X L p = 119 := by
          rcases tK_r (X := X) (L := L) (p := p) with z | z | z | z
          · exact absurd z h0
          · rw [z] at hk1; exact absurd hk1 (by decide)
          · rw [z] at hk1; exact absurd hk1 (by decide)
          · rcases z with y | y | y | y | y
            · exact Or.inr (Or.inl y)
            · exact Or.inl y
            · exact Or.inr (Or.inr (Or.inr y))
            · exact Or.inr (Or.inr (Or.inl y))
            · rw [y] at hk1; exact absurd hk1 (by decide)
        have h5 : kn5 (tK X L p) := by rcases hK with z | z | z | z <;> rw [z] <;> decide
        have h6 := hc.2.2.2.2 h5
        rw [m6_met (by omega) hv hP h6 hK]
        simp only []
        by_cases hall : (tK X L p = 97 ∧ T 6 1 = 0) ∨ (tK X L p = 99 ∧ T 6 0 = 0) ∨ (tK X L p = 114 ∧ n < 7) ∨ (tK X L p = 119 ∧ T 6 2 = 0)
        · rw [if_pos hall, if_neg (by decide)]
          rcases hall with ⟨z, y⟩ | ⟨z, y⟩ | ⟨z, y⟩ | ⟨z, y⟩
          · exact item (itA X L (tN X L p) n T) (by unfold itm; rw [if_pos z, if_pos y]) h6 (fun u a b c e => by rw [z]; exact m6_read97 (by omega) hL hx hN.2.1 hv a b c e y)
          · exact item (itC X L (tN X L p) n T) (by unfold itm; rw [if_neg (by rw [z]; decide), if_pos z, if_pos y]) h6 (fun u a b c e => by rw [z]; exact m6_read99 (by omega) hL hx hN.2.1 hv a b c e y)
          · exact item (itR X L (tN X L p) n T) (by unfold itm; rw [if_neg (by rw [z]; decide), if_neg (by rw [z]; decide), if_pos z, if_pos y]) h6 (fun u a b c e => by rw [z]; exact m6_rad (by omega) hL hx hN.2.1 y a b c e)
          · exact item (itW X L (tN X L p) n T) (by unfold itm; rw [if_neg (by rw [z]; decide), if_neg (by rw [z]; decide), if_neg (by rw [z]; decide), if_pos z, if_pos y]) h6 (fun u a b c e => by rw [z]; exact m6_read119 (by omega) hL hx hN.2.1 hv a b c e y)
        · rw [if_neg hall, if_pos rfl]
          have hno : itm X L (tK X L p) (tS X L p) (tN X L p) n T = .inl (tS X L p) := by
            unfold itm
            rcases hK with z | z | z | z
            · rw [if_pos z, if_neg (fun y => hall (Or.inl ⟨z, y⟩))]
            · rw [if_neg (by rw [z]; decide), if_pos z, if_neg (fun y => hall (Or.inr (Or.inl ⟨z, y⟩)))]
            · rw [if_neg (by rw [z]; decide), if_neg (by rw [z]; decide), if_pos z, if_neg (fun y => hall (Or.inr (Or.inr (Or.inl ⟨z, y⟩))))]
            · rw [if_neg (by rw [z]; decide), if_neg (by rw [z]; decide), if_neg (by rw [z]; decide), if_pos z, if_neg (fun y => hall (Or.inr (Or.inr (Or.inr ⟨z, y⟩))))]
          rw [fX6_net_2, nob hno, hno]
          exact ⟨_, rfl, frM_st (by omega)⟩
      · rw [if_neg hk1]
        have hno : itm X L (tK X L p) (tS X L p) (tN X L p) n T = .inl (tS X L p) := by
          have hne : ∀ z : Int32, mk z = 1 → ¬ tK X L p = z := fun z hz e => hk1 (by rw [e]; exact hz)
          unfold itm
          rw [if_neg (hne 97 (by decide)), if_neg (hne 99 (by decide)), if_neg (hne 114 (by decide)), if_neg (hne 119 (by decide))]
        rw [fX6_net_2, nob hno, hno]
        exact ⟨_, rfl, frM_st (by omega)⟩
