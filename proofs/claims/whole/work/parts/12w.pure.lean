/-! WHAT AN ITEM LEAVES -/
def okI (L p n : Nat) (T : ra_W) (s : Nat × Nat × ra_W) : Prop := (p ≤ s.1 ∧ s.1 ≤ L) ∧ (vP n T → vP s.2.1 s.2.2)
theorem itA_ok {X : Nat → Int32} {L p n : Nat} {T : ra_W} {s : Nat × Nat × ra_W} (hp : p ≤ L) (h : itA X L p n T = .inr s) : okI L p n T s := by
  unfold itA at h
  cases hx : num X L 1 9 p with
  | inl f => rw [hx] at h; cases h
  | inr a =>
    rw [hx] at h
    cases h
    obtain ⟨⟨j, j1, j2, j3⟩, h2⟩ := num_r (lo := 1) (hi := 9) (by decide) (by decide) hp hx
    refine ⟨h2, fun ⟨v1, v2, v3, v4, v5⟩ => ⟨v1, ⟨j, j1, j2, ?_⟩, fun i hi => ?_, fun r hr => ?_, fun i hi => ?_⟩⟩
    · simp only [pu_st]; simpa using j3
    · have := v3 i hi; simp only [pu_st]; simpa using this
    · have := v4 r hr; simp only [pu_st]; simpa using this
    · have := v5 i hi; simp only [pu_st]; grind
theorem itW_ok {X : Nat → Int32} {L p n : Nat} {T : ra_W} {s : Nat × Nat × ra_W} (hp : p ≤ L) (h : itW X L p n T = .inr s) : okI L p n T s := by
  unfold itW at h
  cases hx : num X L 1 20 p with
  | inl f => rw [hx] at h; cases h
  | inr a =>
    rw [hx] at h
    cases h
    obtain ⟨⟨j, j1, j2, j3⟩, h2⟩ := num_r (lo := 1) (hi := 20) (by decide) (by decide) hp hx
    refine ⟨h2, fun ⟨v1, ⟨A, a1, a2, a3⟩, v3, v4, v5⟩ => ⟨v1, ⟨A, a1, a2, ?_⟩, fun i hi => ?_, fun r hr => ?_, fun i hi => ?_⟩⟩
    · simp only [pu_st]; simpa using a3
    · have := v3 i hi; simp only [pu_st]; simpa using this
    · have := v4 r hr; simp only [pu_st]; simpa using this
    · have := v5 i hi; simp only [pu_st]; grind
theorem itC_ok {X : Nat → Int32} {L p n : Nat} {T : ra_W} {s : Nat × Nat × ra_W} (hp : p ≤ L) (h : itC X L p n T = .inr s) : okI L p n T s := by
  unfold itC at h
  cases hx : num X L 1 3 p with
  | inl f => rw [hx] at h; cases h
  | inr a =>
    rw [hx] at h
    obtain ⟨⟨j, j1, j2, j3⟩, h2⟩ := num_r (lo := 1) (hi := 3) (by decide) (by decide) hp hx
    cases hy : num X L 1 3 a.2 with
    | inl f =>
      have h : sb (num X L 1 3 a.2) _ = _ := h
      rw [hy] at h
      cases h
    | inr b =>
      have h : sb (num X L 1 3 a.2) _ = _ := h
      rw [hy] at h
      cases h
      obtain ⟨⟨i2, i3, i4, i5⟩, h3⟩ := num_r (lo := 1) (hi := 3) (by decide) (by decide) h2.2 hy
      refine ⟨⟨by show p ≤ b.2; omega, h3.2⟩, fun ⟨v1, ⟨A, a1, a2, a3⟩, v3, v4, v5⟩ => ⟨v1, ⟨A, a1, a2, ?_⟩, fun i hi => ?_, fun r hr => ?_, fun i hi => ?_⟩⟩
      · simp only [pu_st]; simpa using a3
      · rcases (show i = 0 ∨ i = 1 by omega) with rfl | rfl
        · exact ⟨j, j1, j2, by simp only [pu_st]; simpa using j3⟩
        · exact ⟨i2, i3, i4, by simp only [pu_st]; simpa using i5⟩
      · have := v4 r hr; simp only [pu_st]; simpa using this
      · have := v5 i hi; simp only [pu_st]; grind
theorem itR_ok {X : Nat → Int32} {L p n : Nat} {T : ra_W} {s : Nat × Nat × ra_W} (hp : p ≤ L) (hn : n < 7) (h : itR X L p n T = .inr s) : okI L p n T s := by
  unfold itR at h
  cases hx : num X L 0 1 p with
  | inl f => rw [hx] at h; cases h
  | inr a =>
    rw [hx] at h
    obtain ⟨⟨j, j1, j2, j3⟩, h2⟩ := num_r (lo := 0) (hi := 1) (by decide) (by decide) hp hx
    have h : sb (num X L 0 5 a.2) _ = _ := h
    cases hy : num X L 0 5 a.2 with
    | inl f => rw [hy] at h; cases h
    | inr b =>
      rw [hy] at h
      have h3 := (num_r (lo := 0) (hi := 5) (by decide) (by decide) h2.2 hy).2
      have h : sb (num X L 0 3 b.2) _ = _ := h
      cases hz : num X L 0 3 b.2 with
      | inl f => rw [hz] at h; cases h
      | inr c =>
        rw [hz] at h
        cases h
        have h4 := (num_r (lo := 0) (hi := 3) (by decide) (by decide) h3.2 hz).2
        refine ⟨⟨by show p ≤ c.2; omega, h4.2⟩, fun ⟨v1, ⟨A, a1, a2, a3⟩, v3, v4, v5⟩ => ⟨hn, ⟨A, a1, a2, ?_⟩, fun i hi => ?_, fun r hr => ?_, fun i hi => ?_⟩⟩
        · simp only [pu_st]; simpa using a3
        · have := v3 i hi; simp only [pu_st]; simpa using this
        · simp only [pu_st]
          by_cases e : r = n
          · exact ⟨j, by omega, by simp [e]; exact j3⟩
          · have hr : r < n + 1 := hr
            have := v4 r (by omega)
            simpa [e] using this
        · have := v5 i hi; simp only [pu_st]; simpa using this
theorem ite_ok {X : Nat → Int32} {L p n : Nat} {T : ra_W} {r : Sum Nat (Nat × Nat × ra_W)} {s : Nat × Nat × ra_W} (h : ∀ t, r = .inr t → okI L p n T t) (e : sb r (ite_ X L) = .inr s) : okI L p n T s := by
  cases r with
  | inl f => cases e
  | inr t =>
    obtain ⟨h1, h2⟩ := h t rfl
    have e : sb (stp X L t.1) _ = _ := e
    cases hs : stp X L t.1 with
    | inl f => rw [hs] at e; cases e
    | inr q =>
      rw [hs] at e
      cases e
      have := stp_r h1.2 hs
      exact ⟨⟨by show p ≤ q; omega, this.2⟩, h2⟩
theorem itm_ok {X : Nat → Int32} {L p n s0 : Nat} {K : Int32} {T : ra_W} {s : Nat × Nat × ra_W} (hp : p ≤ L) (h : itm X L K s0 p n T = .inr s) : okI L p n T s := by
  unfold itm at h
  split at h
  · split at h
    · exact ite_ok (fun t => itA_ok hp) h
    · cases h
  · split at h
    · split at h
      · exact ite_ok (fun t => itC_ok hp) h
      · cases h
    · split at h
      · split at h
        · rename_i hn
          exact ite_ok (fun t => itR_ok hp hn) h
        · cases h
      · split at h
        · split at h
          · exact ite_ok (fun t => itW_ok hp) h
          · cases h
        · cases h
/-- the class reads the whole text -/
theorem q3_into_loop {k L : Nat} {X : Nat → Int32} (hk : 700 ≤ k) (hL : L ≤ 80) : ∀ (d i p n : Nat) (T w : ra_W) (m : Nat), i + d = 81 → i ≤ p → p ≤ L → vP n T → cT X L p w → cP w n T → d + 2 ≤ m → (match prs X L d p n T i with
    | .inl f => ∃ w', fX3_readInto k 8 m 1 (nI i) w = some (-10 - nI f, w') ∧ fr8 w w'
    | .inr s => s.1 ≤ 80 ∧ vP s.2.1 s.2.2 ∧ ∃ w', fX3_readInto k 8 m 1 (nI i) w = some (nI s.1, w') ∧ cP w' s.2.1 s.2.2 ∧ fr8 w w') := by
  intro d
  induction d with
  | zero =>
    intro i p n T w m hi hip hp
    omega
  | succ d ih =>
    intro i p n T w m hi hip hp hv hT hP hm
    obtain ⟨m, rfl⟩ : ∃ q, m = q + 1 + 1 := ⟨m - 2, by omega⟩
    obtain ⟨w1, g1, g2, g3, g4, g5, g6, g7⟩ := q3_token (k := k) (X := X) (by omega) hL hp hT.1 hT.2.1 hT.2.2
    have f1 : fr1 w w1 := ⟨g6, g7⟩
    have hT1 : cT X L (tN X L p) w1 := ⟨by rw [g7 0 (by decide) (by decide) (by decide) (by decide)]; exact hT.1, g2, by rw [g6 2 (by decide)]; exact hT.2.2⟩
    have hN := tN_le (X := X) hp
    rw [fX3_readInto_1, if_neg (show ¬ (80 : Int32) < nI i from nI_nlt (a := 80) (by omega) (by decide)), g1]
    simp only [ra_bind]
    rw [g4]
    simp only [prs]
    by_cases h0 : tK X L p = 0
    · rw [if_pos h0, if_pos h0]
      exact ⟨by show i ≤ 80; omega, hv, w1, rfl, cP_1 hP f1, fr8_1 f1⟩
    · rw [if_neg h0, if_neg h0]
      have hit := q3_item (k := k) (K := tK X L p) (s0 := tS X L p) (by omega) hL hN.2.1 hv.1 hT1 (cP_1 hP f1) g3 g4
      cases hx : itm X L (tK X L p) (tS X L p) (tN X L p) n T with
      | inl f =>
        rw [hx] at hit
        obtain ⟨w2, c1, c2, c3⟩ := hit
        rw [c1]
        simp only []
        rw [if_pos trivial, fX3_readInto_2, c2]
        exact ⟨w2, rfl, fr8_tr (fr8_1 f1) c3⟩
      | inr s =>
        rw [hx] at hit
        obtain ⟨w2, c1, ⟨c2, c3⟩, c4, c5⟩ := hit
        obtain ⟨o1, o2⟩ := itm_ok hN.2.1 hx
        rw [c1]
        simp only []
        rw [if_neg (by decide), nI_1]
        have hlt := hN.2.2 h0
        have := ih (i + 1) s.1 s.2.1 s.2.2 w2 (m + 1) (by omega) (by omega) c3 (o2 hv) c2 c4 (by omega)
        show (match prs X L d s.1 s.2.1 s.2.2 (i + 1) with
          | .inl f => ∃ w', fX3_readInto k 8 (m + 1) 1 (nI (i + 1)) w2 = some (-10 - nI f, w') ∧ fr8 w w'
          | .inr s => s.1 ≤ 80 ∧ vP s.2.1 s.2.2 ∧ ∃ w', fX3_readInto k 8 (m + 1) 1 (nI (i + 1)) w2 = some (nI s.1, w') ∧ cP w' s.2.1 s.2.2 ∧ fr8 w w')
        cases hy : prs X L d s.1 s.2.1 s.2.2 (i + 1) with
        | inl f =>
          rw [hy] at this
          obtain ⟨w3, e1, e2⟩ := this
          exact ⟨w3, e1, fr8_tr (fr8_1 f1) (fr8_tr c5 e2)⟩
        | inr s' =>
          rw [hy] at this
          obtain ⟨e0, e1, w3, e2, e3, e4⟩ := this
          exact ⟨e0, e1, w3, e2, e3, fr8_tr (fr8_1 f1) (fr8_tr c5 e4)⟩
/-- the net as it begins -/
def T0 : ra_W := fun j i => if j = 0 then (if i = 1 then 4 else 8) else if j = 1 then 2 else 0
theorem vP_0 : vP 0 T0 := ⟨by omega, ⟨4, by omega, by omega, rfl⟩, fun i hi => ⟨2, by omega, by omega, rfl⟩, fun r hr => absurd hr (by omega), fun i hi => Or.inl rfl⟩
theorem q3_into {k L : Nat} {X : Nat → Int32} {w : ra_W} (hk : 800 ≤ k) (hL : L ≤ 80) (h0 : w 1 0 = nI L) (hX : w 2 = X) : (match prs X L 81 0 0 T0 0 with
    | .inl f => ∃ w', FX3_readInto k 8 w = some (-10 - nI f, w') ∧ fr8 w w'
    | .inr s => s.1 ≤ 80 ∧ vP s.2.1 s.2.2 ∧ ∃ w', FX3_readInto k 8 w = some (nI s.1, w') ∧ cP w' s.2.1 s.2.2 ∧ fr8 w w') := by
  obtain ⟨k, rfl⟩ : ∃ q, k = q + 1 := ⟨k - 1, by omega⟩
  have e1 : ∀ m, fX3_readInto (k + 1) 8 (m + 1) 0 0 w = fX3_readInto (k + 1) 8 m 1 0 (ra_st (ra_st (ra_st (ra_st (ra_st (ra_st (ra_st (ra_st (ra_st w 8 0 0) 8 1 4) 8 2 8) (8 + 1) 0 2) (8 + 1) 1 2) 1 2 0) 1 6 0) 1 7 0) 1 8 0) := by
    intro m
    rw [fX3_readInto_0]
    unfold FX2_beginAnew
    rw [fX2_beginAnew_0]
    rfl
  unfold FX3_readInto
  rw [e1]
  have hf : fr8 w (ra_st (ra_st (ra_st (ra_st (ra_st (ra_st (ra_st (ra_st (ra_st w 8 0 0) 8 1 4) 8 2 8) (8 + 1) 0 2) (8 + 1) 1 2) 1 2 0) 1 6 0) 1 7 0) 1 8 0) := fr8_tr (fr8_tr (fr8_tr (fr8_tr (fr8_tr (fr8_tr (fr8_tr (fr8_tr (fr8_st (by omega)) (fr8_st (by omega))) (fr8_st (by omega))) (fr8_st (by omega))) (fr8_st (by omega))) (fr8_st (by omega))) (fr8_st (by omega))) (fr8_st (by omega))) (fr8_st (by omega))
  have hT : cT X L 0 (ra_st (ra_st (ra_st (ra_st (ra_st (ra_st (ra_st (ra_st (ra_st w 8 0 0) 8 1 4) 8 2 8) (8 + 1) 0 2) (8 + 1) 1 2) 1 2 0) 1 6 0) 1 7 0) 1 8 0) := ⟨hf.2.trans h0, by simp [pu_st]; rfl, (hf.1 2 (by decide) (by decide)).trans hX⟩
  have hP : cP (ra_st (ra_st (ra_st (ra_st (ra_st (ra_st (ra_st (ra_st (ra_st w 8 0 0) 8 1 4) 8 2 8) (8 + 1) 0 2) (8 + 1) 1 2) 1 2 0) 1 6 0) 1 7 0) 1 8 0) 0 T0 := by
    refine ⟨⟨by simp [pu_st]; rfl, by simp [pu_st]; rfl, by simp [pu_st]; rfl, fun i hi => ?_, fun r hr => absurd hr (by omega), fun r hr => absurd hr (by omega)⟩, fun r hr => absurd hr (by omega), by simp [pu_st]; rfl, by simp [pu_st]; rfl, by simp [pu_st]; rfl⟩
    rcases (show i = 0 ∨ i = 1 by omega) with rfl | rfl <;> simp [pu_st] <;> rfl
  generalize ra_st (ra_st (ra_st (ra_st (ra_st (ra_st (ra_st (ra_st (ra_st w 8 0 0) 8 1 4) 8 2 8) (8 + 1) 0 2) (8 + 1) 1 2) 1 2 0) 1 6 0) 1 7 0) 1 8 0 = u at hf hT hP
  have := q3_into_loop (k := k + 1) (X := X) (by omega) hL 81 0 0 0 T0 u k (by omega) (by omega) (by omega) vP_0 hT hP (by omega)
  cases hy : prs X L 81 0 0 T0 0 with
  | inl f =>
    rw [hy] at this
    obtain ⟨w3, e1, e2⟩ := this
    exact ⟨w3, e1, fr8_tr hf e2⟩
  | inr s =>
    rw [hy] at this
    obtain ⟨e0, e1, w3, e2, e3, e4⟩ := this
    exact ⟨e0, e1, w3, e2, e3, fr8_tr hf e4⟩
