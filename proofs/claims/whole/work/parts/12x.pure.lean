/-! THE MODEL READS THE TEXT -/
def mX (X : Nat → Int32) (L : Nat) (w : ra_W) : Prop := w 134 2 = nI L ∧ ∀ j, j < L → w 135 j = X j
theorem mX_4 {X : Nat → Int32} {L : Nat} {w w' : ra_W} (h : mX X L w) (hf : fr4 w w') : mX X L w' := ⟨by rw [hf.2 2 (by decide) (by decide) (by decide) (by decide)]; exact h.1, fun j hj => by rw [hf.1 135 (by decide)]; exact h.2 j hj⟩
theorem m6_well {k : Nat} {w : ra_W} (hk : 1 ≤ k) : (w 134 7 = -1 → FX6_isWell k w = some (1, w)) ∧ (∀ f, f < 2 ^ 31 → w 134 7 = nI f → FX6_isWell k w = some (0, w)) := by
  obtain ⟨k, rfl⟩ : ∃ q, k = q + 1 := ⟨k - 1, by omega⟩
  unfold FX6_isWell
  rw [fX6_isWell_0]
  exact ⟨fun h => by rw [h, if_neg (by decide)], fun f hf h => by rw [h, if_pos (nI_pos' hf)]⟩
theorem m6_take1 {k L p : Nat} {X : Nat → Int32} {w : ra_W} (hk : 400 ≤ k) (hL : L ≤ 80) (hx : tx X L) (hp : p ≤ L) (hm : mX X L w) (hc : cur X L p w) (h7 : w 134 7 = -1) : ∃ w', FX6_takes k 1 w = some (w 134 6, w') ∧ cur X L (tN X L p) w' ∧ fr4 w w' := by
  obtain ⟨k, rfl⟩ : ∃ q, k = q + 1 := ⟨k - 1, by omega⟩
  obtain ⟨w', g1, g2, g3⟩ := m6_advances (k := k + 1) (X := X) (by omega) hL hx (tN_le (X := X) hp).2.1 hm.1 hc.1 hm.2
  refine ⟨w', ?_, g2, g3⟩
  unfold FX6_takes
  rw [fX6_takes_0, (m6_well (by omega)).1 h7]
  simp only [ra_bind]
  rw [if_neg (by decide), if_neg (by decide), g1]
theorem m6_take0 {k : Nat} {w : ra_W} (hk : 2 ≤ k) (h7 : w 134 7 = -1) : FX6_takes k 0 w = some (0, ra_st w 134 7 (w 134 5)) := by
  obtain ⟨k, rfl⟩ : ∃ q, k = q + 1 := ⟨k - 1, by omega⟩
  unfold FX6_takes
  rw [fX6_takes_0, (m6_well (by omega)).1 h7]
  simp only [ra_bind]
  rw [if_neg (by decide), if_pos trivial]
theorem m6_takeb {k f : Nat} {w : ra_W} {v : Int32} (hk : 2 ≤ k) (hf : f < 2 ^ 31) (h7 : w 134 7 = nI f) : FX6_takes k v w = some (0, w) := by
  obtain ⟨k, rfl⟩ : ∃ q, k = q + 1 := ⟨k - 1, by omega⟩
  unfold FX6_takes
  rw [fX6_takes_0, (m6_well (by omega)).2 f hf h7]
  simp only [ra_bind]
  rw [if_pos trivial]
theorem mk_2 {x : Int32} : mk x = 2 ↔ x = 1 := by
  unfold mk
  constructor
  · intro h
    split at h
    · exact absurd h (by decide)
    · split at h
      · assumption
      · split at h
        · exact absurd h (by decide)
        · split at h
          · exact absurd h (by decide)
          · exact absurd h (by decide)
  · rintro rfl
    decide
theorem mk_3 {x : Int32} : mk x = 3 ↔ x = 59 := by
  unfold mk
  constructor
  · intro h
    split at h
    · exact absurd h (by decide)
    · split at h
      · exact absurd h (by decide)
      · split at h
        · exact absurd h (by decide)
        · split at h
          · assumption
          · exact absurd h (by decide)
  · rintro rfl
    decide
theorem mk_0 {x : Int32} : mk x = 0 ↔ x = 0 := by
  unfold mk
  constructor
  · intro h
    split at h
    · assumption
    · split at h
      · exact absurd h (by decide)
      · split at h
        · exact absurd h (by decide)
        · split at h
          · exact absurd h (by decide)
          · exact absurd h (by decide)
  · rintro rfl
    decide
theorem m6_num {k L p : Nat} {X : Nat → Int32} {w : ra_W} {lo hi : Int32} (hk : 500 ≤ k) (hL : L ≤ 80) (hx : tx X L) (hp : p ≤ L) (hm : mX X L w) (hc : cur X L p w) (h7 : w 134 7 = -1) : (∀ v q, num X L lo hi p = .inr (v, q) → ∃ w', FX6_number k lo hi w = some (v, w') ∧ cur X L q w' ∧ fr4 w w') ∧ (∀ f, num X L lo hi p = .inl f → FX6_number k lo hi w = some (0, ra_st w 134 7 (nI f)) ∧ f ≤ L) := by
  obtain ⟨k, rfl⟩ : ∃ q, k = q + 1 + 1 + 1 := ⟨k - 3, by omega⟩
  unfold FX6_number
  rw [fX6_number_0, hc.2.2.1]
  have bad : ∀ m, fX6_number (k + 1 + 1 + 1) (m + 1) 2 0 0 0 w = some (0, ra_st w 134 7 (nI (tS X L p))) := by
    intro m
    rw [fX6_number_2, m6_take0 (by omega) h7, hc.2.1]
    rfl
  unfold num
  by_cases hcd : tK X L p = 1 ∧ ¬ tV X L p < lo ∧ ¬ hi < tV X L p
  · rw [if_pos hcd, if_pos (mk_2.mpr hcd.1), m6_in (by omega), hc.2.2.2.1 hcd.1, if_neg hcd.2.1, if_neg hcd.2.2]
    simp only [ra_bind]
    rw [if_neg (by decide), fX6_number_2]
    obtain ⟨w', g1, g2, g3⟩ := m6_take1 (k := k + 1 + 1 + 1) (by omega) hL hx hp hm hc h7
    rw [hc.2.2.2.1 hcd.1] at g1
    rw [g1]
    refine ⟨fun v q e => ?_, fun f e => (by cases e)⟩
    cases e
    exact ⟨w', rfl, g2, g3⟩
  · rw [if_neg hcd]
    refine ⟨fun v q e => (by cases e), fun f e => ?_⟩
    cases e
    refine ⟨?_, (tS_le (X := X) hp).2⟩
    by_cases h1 : tK X L p = 1
    · rw [if_pos (mk_2.mpr h1), m6_in (by omega), hc.2.2.2.1 h1]
      simp only [ra_bind]
      have e0 : (if tV X L p < lo then (0 : Int32) else if hi < tV X L p then 0 else 1) = 0 := by
        by_cases h2 : tV X L p < lo
        · rw [if_pos h2]
        · rw [if_neg h2, if_pos (Decidable.byContradiction (fun z => hcd ⟨h1, h2, z⟩))]
      rw [e0, if_pos rfl, fX6_number_1]
      exact bad k
    · rw [if_neg (fun z => h1 (mk_2.mp z)), fX6_number_1]
      exact bad k
theorem m6_numb {k f : Nat} {w : ra_W} {lo hi : Int32} (hk : 10 ≤ k) (hf : f < 2 ^ 31) (h7 : w 134 7 = nI f) : FX6_number k lo hi w = some (0, w) := by
  obtain ⟨k, rfl⟩ : ∃ q, k = q + 1 + 1 + 1 := ⟨k - 3, by omega⟩
  unfold FX6_number
  have two : ∀ m x, fX6_number (k + 1 + 1 + 1) (m + 1) 2 0 0 x w = some (0, w) := by
    intro m x
    rw [fX6_number_2, m6_takeb (by omega) hf h7]
    rfl
  rw [fX6_number_0, fX6_number_1, two, m6_in (by omega)]
  simp only [ra_bind]
  rw [fX6_number_1, two, two]
  simp only [ite_self]
/-- the model's partial net -/
def mP (w : ra_W) (n : Nat) (T : ra_W) : Prop := mNet (fun _ => w 137) n T ∧ (∀ r, r < n → w 138 (6 + r) = T 4 r) ∧ w 134 8 = T 6 0 + 2 * T 6 1 + 4 * T 6 2 ∧ (w 138 0 = -1 ∧ w 138 1 = -1) ∧ (∀ i, 2 ≤ i → i < 6 → w 138 i = 0) ∧ (∀ i, 13 ≤ i → i < 41 → w 138 i = 0)
theorem mP_4 {w w' : ra_W} {n : Nat} {T : ra_W} (h : mP w n T) (hf : fr4 w w') : mP w' n T := by
  unfold mP at h ⊢
  rw [hf.1 137 (by decide), hf.1 138 (by decide), hf.2 8 (by decide) (by decide) (by decide) (by decide)]
  exact h
def frM (w w' : ra_W) : Prop := (∀ c, c ≠ 134 → c ≠ 137 → c ≠ 138 → w' c = w c) ∧ (∀ i, (i < 3 ∨ 8 < i) → w' 134 i = w 134 i)
theorem frM_rf (w : ra_W) : frM w w := ⟨fun _ _ _ _ => rfl, fun _ _ => rfl⟩
theorem frM_tr {w w1 w2 : ra_W} (h1 : frM w w1) (h2 : frM w1 w2) : frM w w2 := ⟨fun c a b d => (h2.1 c a b d).trans (h1.1 c a b d), fun i a => (h2.2 i a).trans (h1.2 i a)⟩
theorem frM_4 {w w' : ra_W} (h : fr4 w w') : frM w w' := ⟨fun c a _ _ => h.1 c a, fun i a => h.2 i (by omega) (by omega) (by omega) (by omega)⟩
theorem frM_st {w : ra_W} {c i : Nat} {x : Int32} (h : (c = 134 ∧ 3 ≤ i ∧ i ≤ 8) ∨ c = 137 ∨ c = 138) : frM w (ra_st w c i x) := ⟨fun a b d e => pu_st_ne (by omega), fun j a => by rw [pu_st, if_neg (by omega)]⟩
theorem mX_M {X : Nat → Int32} {L : Nat} {w w' : ra_W} (h : mX X L w) (hf : frM w w') : mX X L w' := ⟨by rw [hf.2 2 (by decide)]; exact h.1, fun j hj => by rw [hf.1 135 (by decide) (by decide) (by decide)]; exact h.2 j hj⟩
def simM (X : Nat → Int32) (L : Nat) (w : ra_W) (f : Option (Int32 × ra_W)) (r : Sum Nat (Nat × Nat × ra_W)) : Prop := match r with
  | .inl e => ∃ w', f = some (0, w') ∧ (w' 134 7 = nI e ∧ e ≤ L) ∧ frM w w'
  | .inr s => ∃ w', f = some (0, w') ∧ (cur X L s.1 w' ∧ s.1 ≤ L) ∧ w' 134 7 = -1 ∧ mP w' s.2.1 s.2.2 ∧ frM w w'
theorem cur_st {X : Nat → Int32} {L p : Nat} {w : ra_W} {c i : Nat} {x : Int32} (h : cur X L p w) (hc : c ≠ 134 ∨ i < 3 ∨ 6 < i) : cur X L p (ra_st w c i x) := by
  unfold cur at h ⊢
  have e : ∀ j, 3 ≤ j → j ≤ 6 → ra_st w c i x 134 j = w 134 j := fun j a b => by rw [pu_st, if_neg (by omega)]
  rw [e 3 (by omega) (by omega), e 4 (by omega) (by omega), e 5 (by omega) (by omega), e 6 (by omega) (by omega)]
  exact h
theorem m6_air {k L p n : Nat} {X : Nat → Int32} {w T : ra_W} {y : Int32} (hk : 600 ≤ k) (hL : L ≤ 80) (hx : tx X L) (hp : p ≤ L) (hm : mX X L w) (hc : cur X L p w) (h7 : w 134 7 = -1) (hP : mP w n T) (hy : T 6 0 + 2 * 1 + 4 * T 6 2 = y) : simM X L w (ra_bind (FX6_number k 1 9 (ra_st w 134 8 y)) (fun r10 w11 => some (0, ra_st w11 137 1 r10))) (itA X L p n T) := by
  have hf1 : frM w (ra_st w 134 8 y) := frM_st (by omega)
  have h71 : ra_st w 134 8 y 134 7 = -1 := by rw [pu_st, if_neg (by decide)]; exact h7
  obtain ⟨a, b⟩ := m6_num (k := k) (lo := 1) (hi := 9) (by omega) hL hx hp (mX_M hm hf1) (cur_st (x := y) hc (c := 134) (i := 8) (by omega)) h71
  unfold itA
  cases hz : num X L 1 9 p with
  | inl f =>
    obtain ⟨g1, g2⟩ := b f hz
    rw [g1]
    exact ⟨_, rfl, ⟨by rw [pu_st_ne (by decide), pu_st_eq], g2⟩, frM_tr hf1 (frM_tr (frM_st (by omega)) (frM_st (by omega)))⟩
  | inr vq =>
    obtain ⟨v, q⟩ := vq
    obtain ⟨w', g1, g2, g3⟩ := a v q hz
    have hq := (num_r (lo := 1) (hi := 9) (by decide) (by decide) hp hz).2.2
    rw [g1]
    refine ⟨_, rfl, ⟨cur_st g2 (by omega), hq⟩, by rw [pu_st_ne (by decide), g3.2 7 (by decide) (by decide) (by decide) (by decide)]; exact h71, ?_, frM_tr hf1 (frM_tr (frM_4 g3) (frM_st (by omega)))⟩
    have hP1 : mP (ra_st w 134 8 y) n (ra_st T 6 1 1) := by
      unfold mP mNet at hP ⊢
      simp only [pu_st]
      grind
    have hP2 := mP_4 hP1 g3
    show mP (ra_st w' 137 1 v) n (ra_st (ra_st T 6 1 1) 0 1 v)
    generalize ra_st T 6 1 1 = T1 at hP2
    unfold mP mNet at hP2 ⊢
    simp only [pu_st]
    grind
theorem m6_pat {k L p n : Nat} {X : Nat → Int32} {w T : ra_W} {y : Int32} (hk : 600 ≤ k) (hL : L ≤ 80) (hx : tx X L) (hp : p ≤ L) (hm : mX X L w) (hc : cur X L p w) (h7 : w 134 7 = -1) (hP : mP w n T) (hy : T 6 0 + 2 * T 6 1 + 4 * 1 = y) : simM X L w (ra_bind (FX6_number k 1 20 (ra_st w 134 8 y)) (fun r7 w8 => some (0, ra_st w8 137 2 r7))) (itW X L p n T) := by
  have hf1 : frM w (ra_st w 134 8 y) := frM_st (by omega)
  have h71 : ra_st w 134 8 y 134 7 = -1 := by rw [pu_st, if_neg (by decide)]; exact h7
  obtain ⟨a, b⟩ := m6_num (k := k) (lo := 1) (hi := 20) (by omega) hL hx hp (mX_M hm hf1) (cur_st (x := y) hc (c := 134) (i := 8) (by omega)) h71
  unfold itW
  cases hz : num X L 1 20 p with
  | inl f =>
    obtain ⟨g1, g2⟩ := b f hz
    rw [g1]
    exact ⟨_, rfl, ⟨by rw [pu_st_ne (by decide), pu_st_eq], g2⟩, frM_tr hf1 (frM_tr (frM_st (by omega)) (frM_st (by omega)))⟩
  | inr vq =>
    obtain ⟨v, q⟩ := vq
    obtain ⟨w', g1, g2, g3⟩ := a v q hz
    have hq := (num_r (lo := 1) (hi := 20) (by decide) (by decide) hp hz).2.2
    rw [g1]
    refine ⟨_, rfl, ⟨cur_st g2 (by omega), hq⟩, by rw [pu_st_ne (by decide), g3.2 7 (by decide) (by decide) (by decide) (by decide)]; exact h71, ?_, frM_tr hf1 (frM_tr (frM_4 g3) (frM_st (by omega)))⟩
    have hP1 : mP (ra_st w 134 8 y) n (ra_st T 6 2 1) := by
      unfold mP mNet at hP ⊢
      simp only [pu_st]
      grind
    have hP2 := mP_4 hP1 g3
    show mP (ra_st w' 137 2 v) n (ra_st (ra_st T 6 2 1) 0 2 v)
    generalize ra_st T 6 2 1 = T1 at hP2
    unfold mP mNet at hP2 ⊢
    simp only [pu_st]
    grind
theorem m6_chan {k L p n : Nat} {X : Nat → Int32} {w T : ra_W} {y : Int32} (hk : 600 ≤ k) (hL : L ≤ 80) (hx : tx X L) (hp : p ≤ L) (hm : mX X L w) (hc : cur X L p w) (h7 : w 134 7 = -1) (hP : mP w n T) (hy : 1 + 2 * T 6 1 + 4 * T 6 2 = y) : simM X L w (ra_bind (FX6_number k 1 3 (ra_st w 134 8 y)) (fun r13 w14 => ra_bind (FX6_number k 1 3 (ra_st w14 137 3 r13)) (fun r16 w17 => some (0, ra_st w17 137 4 r16)))) (itC X L p n T) := by
  have hf1 : frM w (ra_st w 134 8 y) := frM_st (by omega)
  have h71 : ra_st w 134 8 y 134 7 = -1 := by rw [pu_st, if_neg (by decide)]; exact h7
  obtain ⟨a, b⟩ := m6_num (k := k) (lo := 1) (hi := 3) (by omega) hL hx hp (mX_M hm hf1) (cur_st (x := y) hc (c := 134) (i := 8) (by omega)) h71
  unfold itC
  cases hz : num X L 1 3 p with
  | inl f =>
    obtain ⟨g1, g2⟩ := b f hz
    rw [g1]
    simp only [ra_bind]
    rw [m6_numb (f := f) (by omega) (by omega) (by rw [pu_st_ne (by decide), pu_st_eq])]
    exact ⟨_, rfl, ⟨by rw [pu_st_ne (by decide), pu_st_ne (by decide), pu_st_eq], g2⟩, frM_tr hf1 (frM_tr (frM_st (by omega)) (frM_tr (frM_st (by omega)) (frM_st (by omega))))⟩
  | inr vq =>
    obtain ⟨v, q⟩ := vq
    obtain ⟨w', g1, g2, g3⟩ := a v q hz
    have hq := (num_r (lo := 1) (hi := 3) (by decide) (by decide) hp hz).2.2
    rw [g1]
    simp only [ra_bind]
    have hP1 : mP (ra_st w 134 8 y) n (ra_st T 6 0 1) := by
      unfold mP mNet at hP ⊢
      simp only [pu_st]
      grind
    have hP2 := mP_4 hP1 g3
    have hP3 : mP (ra_st w' 137 3 v) n (ra_st (ra_st T 6 0 1) 1 0 v) := by
      generalize ra_st T 6 0 1 = T1 at hP2
      unfold mP mNet at hP2 ⊢
      simp only [pu_st]
      grind
    have hf2 : frM w (ra_st w' 137 3 v) := frM_tr hf1 (frM_tr (frM_4 g3) (frM_st (by omega)))
    have h72 : ra_st w' 137 3 v 134 7 = -1 := by rw [pu_st_ne (by decide), g3.2 7 (by decide) (by decide) (by decide) (by decide)]; exact h71
    obtain ⟨a2, b2⟩ := m6_num (k := k) (lo := 1) (hi := 3) (by omega) hL hx hq (mX_M hm hf2) (cur_st (x := v) g2 (c := 137) (i := 3) (by omega)) h72
    show simM X L w _ (sb (num X L 1 3 q) (fun b => .inr (b.2, n, ra_st (ra_st (ra_st T 6 0 1) 1 0 v) 1 1 b.1)))
    cases hy2 : num X L 1 3 q with
    | inl f =>
      obtain ⟨c1, c2⟩ := b2 f hy2
      rw [c1]
      exact ⟨_, rfl, ⟨by rw [pu_st_ne (by decide), pu_st_eq], c2⟩, frM_tr hf2 (frM_tr (frM_st (by omega)) (frM_st (by omega)))⟩
    | inr vq2 =>
      obtain ⟨v2, q2⟩ := vq2
      obtain ⟨w2, c1, c2, c3⟩ := a2 v2 q2 hy2
      have hq2 := (num_r (lo := 1) (hi := 3) (by decide) (by decide) hq hy2).2.2
      rw [c1]
      refine ⟨_, rfl, ⟨cur_st c2 (by omega), hq2⟩, by rw [pu_st_ne (by decide), c3.2 7 (by decide) (by decide) (by decide) (by decide)]; exact h72, ?_, frM_tr hf2 (frM_tr (frM_4 c3) (frM_st (by omega)))⟩
      have hP4 := mP_4 hP3 c3
      show mP (ra_st w2 137 4 v2) n (ra_st (ra_st (ra_st T 6 0 1) 1 0 v) 1 1 v2)
      generalize ra_st (ra_st T 6 0 1) 1 0 v = T1 at hP4
      unfold mP mNet at hP4 ⊢
      simp only [pu_st]
      grind
theorem m6_rad {k L p n : Nat} {X : Nat → Int32} {w T : ra_W} (hk : 600 ≤ k) (hL : L ≤ 80) (hx : tx X L) (hp : p ≤ L) (hn : n < 7) (hm : mX X L w) (hc : cur X L p w) (h7 : w 134 7 = -1) (hP : mP w n T) : simM X L w (FX6_readsItem k 114 w) (itR X L p n T) := by
  obtain ⟨k, rfl⟩ : ∃ q, k = q + 1 := ⟨k - 1, by omega⟩
  have h0 : w 137 0 = nI n := hP.1.1
  unfold FX6_readsItem itR
  rw [fX6_readsItem_0, if_pos rfl, h0, pl_6, pl_5, pl_12]
  have i6 : ra_ix (nI (6 + n)) = 6 + n := pu_ix (by omega)
  have i5 : ra_ix (nI (5 + n)) = 5 + n := pu_ix (by omega)
  have i12 : ra_ix (nI (12 + n)) = 12 + n := pu_ix (by omega)
  have g6 : ra_in (nI (6 + n)) 41 := pu_in (by omega) (by decide)
  have g5 : ra_in (nI (5 + n)) 19 := pu_in (by omega) (by decide)
  have g12 : ra_in (nI (12 + n)) 19 := pu_in (by omega) (by decide)
  simp only [i6, i5, i12, if_pos g6, if_pos g5, if_pos g12]
  obtain ⟨a, b⟩ := m6_num (k := k + 1) (lo := 0) (hi := 1) (by omega) hL hx hp hm hc h7
  cases hz : num X L 0 1 p with
  | inl f =>
    obtain ⟨c1, c2⟩ := b f hz
    rw [c1]
    simp only [ra_bind]
    rw [m6_numb (f := f) (by omega) (by omega) (by rw [pu_st_ne (by decide), pu_st_eq])]
    simp only []
    rw [m6_numb (f := f) (by omega) (by omega) (by rw [pu_st_ne (by decide), pu_st_ne (by decide), pu_st_eq])]
    exact ⟨_, rfl, ⟨by rw [pu_st_ne (by decide), pu_st_ne (by decide), pu_st_ne (by decide), pu_st_ne (by decide), pu_st_eq], c2⟩, frM_tr (frM_st (by omega)) (frM_tr (frM_st (by omega)) (frM_tr (frM_st (by omega)) (frM_tr (frM_st (by omega)) (frM_st (by omega)))))⟩
  | inr vq =>
    obtain ⟨v, q⟩ := vq
    obtain ⟨w', d1, d2, d3⟩ := a v q hz
    have hq := (num_r (lo := 0) (hi := 1) (by decide) (by decide) hp hz).2.2
    rw [d1]
    simp only [ra_bind]
    have hf2 : frM w (ra_st w' 138 (6 + n) v) := frM_tr (frM_4 d3) (frM_st (by omega))
    have h72 : ra_st w' 138 (6 + n) v 134 7 = -1 := by rw [pu_st_ne (by decide), d3.2 7 (by decide) (by decide) (by decide) (by decide)]; exact h7
    obtain ⟨a2, b2⟩ := m6_num (k := k + 1) (lo := 0) (hi := 5) (by omega) hL hx hq (mX_M hm hf2) (cur_st (x := v) d2 (c := 138) (i := 6 + n) (by omega)) h72
    show simM X L w _ (sb (num X L 0 5 q) (fun b => sb (num X L 0 3 b.2) (fun c => .inr (c.2, n + 1, ra_st (ra_st (ra_st T 4 n v) 2 n b.1) 3 n c.1))))
    cases hy2 : num X L 0 5 q with
    | inl f =>
      obtain ⟨c1, c2⟩ := b2 f hy2
      rw [c1]
      simp only []
      rw [m6_numb (f := f) (by omega) (by omega) (by rw [pu_st_ne (by decide), pu_st_eq])]
      exact ⟨_, rfl, ⟨by rw [pu_st_ne (by decide), pu_st_ne (by decide), pu_st_ne (by decide), pu_st_eq], c2⟩, frM_tr hf2 (frM_tr (frM_st (by omega)) (frM_tr (frM_st (by omega)) (frM_tr (frM_st (by omega)) (frM_st (by omega)))))⟩
    | inr vq2 =>
      obtain ⟨v2, q2⟩ := vq2
      obtain ⟨w2, c1, c2, c3⟩ := a2 v2 q2 hy2
      have hq2 := (num_r (lo := 0) (hi := 5) (by decide) (by decide) hq hy2).2.2
      rw [c1]
      simp only []
      have hf3 : frM w (ra_st w2 137 (5 + n) v2) := frM_tr hf2 (frM_tr (frM_4 c3) (frM_st (by omega)))
      have h73 : ra_st w2 137 (5 + n) v2 134 7 = -1 := by rw [pu_st_ne (by decide), c3.2 7 (by decide) (by decide) (by decide) (by decide)]; exact h72
      obtain ⟨a3, b3⟩ := m6_num (k := k + 1) (lo := 0) (hi := 3) (by omega) hL hx hq2 (mX_M hm hf3) (cur_st (x := v2) c2 (c := 137) (i := 5 + n) (by omega)) h73
      show simM X L w _ (sb (num X L 0 3 q2) (fun c => .inr (c.2, n + 1, ra_st (ra_st (ra_st T 4 n v) 2 n v2) 3 n c.1)))
      cases hz3 : num X L 0 3 q2 with
      | inl f =>
        obtain ⟨e1, e2⟩ := b3 f hz3
        rw [e1]
        exact ⟨_, rfl, ⟨by rw [pu_st_ne (by decide), pu_st_ne (by decide), pu_st_eq], e2⟩, frM_tr hf3 (frM_tr (frM_st (by omega)) (frM_tr (frM_st (by omega)) (frM_st (by omega))))⟩
      | inr vq3 =>
        obtain ⟨v3, q3⟩ := vq3
        obtain ⟨w3, e1, e2, e3⟩ := a3 v3 q3 hz3
        have hq3 := (num_r (lo := 0) (hi := 3) (by decide) (by decide) hq2 hz3).2.2
        rw [e1]
        have x137 : ∀ i, w3 137 i = if i = 5 + n then v2 else w 137 i := fun i => by
          rw [e3.1 137 (by decide), pu_st, c3.1 137 (by decide), pu_st_ne (by decide), d3.1 137 (by decide)]
          by_cases e : i = 5 + n
          · rw [if_pos ⟨rfl, e⟩, if_pos e]
          · rw [if_neg (fun z => e z.2), if_neg e]
        have x138 : ∀ i, w3 138 i = if i = 6 + n then v else w 138 i := fun i => by
          rw [e3.1 138 (by decide), pu_st_ne (by decide), c3.1 138 (by decide), pu_st, d3.1 138 (by decide)]
          by_cases e : i = 6 + n
          · rw [if_pos ⟨rfl, e⟩, if_pos e]
          · rw [if_neg (fun z => e z.2), if_neg e]
        have x8 : w3 134 8 = w 134 8 := by rw [e3.2 8 (by decide) (by decide) (by decide) (by decide), pu_st_ne (by decide), c3.2 8 (by decide) (by decide) (by decide) (by decide), pu_st_ne (by decide), d3.2 8 (by decide) (by decide) (by decide) (by decide)]
        have er : ra_st w3 137 (12 + n) v3 137 0 = nI n := by
          rw [pu_st, if_neg (by omega), x137, if_neg (by omega)]
          exact h0
        simp only []
        rw [er, nI_1]
        refine ⟨_, rfl, ⟨cur_st (cur_st e2 (by omega)) (by omega), hq3⟩, by rw [pu_st_ne (by decide), pu_st_ne (by decide), e3.2 7 (by decide) (by decide) (by decide) (by decide)]; exact h73, ?_, frM_tr hf3 (frM_tr (frM_4 e3) (frM_tr (frM_st (by omega)) (frM_st (by omega))))⟩
        show mP (ra_st (ra_st w3 137 (12 + n) v3) 137 0 (nI (n + 1))) (n + 1) (ra_st (ra_st (ra_st T 4 n v) 2 n v2) 3 n v3)
        have y137 : ∀ i, i ≠ 0 → i ≠ 5 + n → i ≠ 12 + n → ra_st (ra_st w3 137 (12 + n) v3) 137 0 (nI (n + 1)) 137 i = w 137 i := fun i a b c => by rw [pu_st, if_neg (by omega), pu_st, if_neg (by omega), x137, if_neg b]
        have y138 : ∀ i, ra_st (ra_st w3 137 (12 + n) v3) 137 0 (nI (n + 1)) 138 i = if i = 6 + n then v else w 138 i := fun i => by rw [pu_st_ne (by decide), pu_st_ne (by decide), x138]
        obtain ⟨⟨p1, p2, p3, p4, p5, p6⟩, p7, p8, ⟨p9, p10⟩, p11, p12⟩ := hP
        refine ⟨⟨by show ra_st _ 137 0 _ 137 0 = _; rw [pu_st_eq], ?_, ?_, fun i hi => ?_, fun r hr => ?_, fun r hr => ?_⟩, fun r hr => ?_, ?_, ⟨?_, ?_⟩, fun i a b => ?_, fun i a b => ?_⟩
        · show ra_st _ 137 0 _ 137 1 = _
          rw [y137 1 (by omega) (by omega) (by omega)]
          simp only [pu_st]
          simpa using p2
        · show ra_st _ 137 0 _ 137 2 = _
          rw [y137 2 (by omega) (by omega) (by omega)]
          simp only [pu_st]
          simpa using p3
        · show ra_st _ 137 0 _ 137 (3 + i) = _
          rw [y137 (3 + i) (by omega) (by omega) (by omega)]
          have := p4 i hi
          simp only [pu_st]
          simpa using this
        · show ra_st _ 137 0 _ 137 (5 + r) = _
          by_cases e : r = n
          · subst e
            rw [pu_st, if_neg (by omega), pu_st, if_neg (by omega), x137, if_pos rfl]
            simp [pu_st]
          · rw [y137 (5 + r) (by omega) (by omega) (by omega)]
            have := p5 r (by omega)
            simp only [pu_st]
            simp [e]
            exact this
        · show ra_st _ 137 0 _ 137 (12 + r) = _
          by_cases e : r = n
          · subst e
            rw [pu_st, if_neg (by omega), pu_st_eq]
            simp [pu_st]
          · rw [y137 (12 + r) (by omega) (by omega) (by omega)]
            have := p6 r (by omega)
            simp only [pu_st]
            simp [e]
            exact this
        · rw [y138]
          by_cases e : r = n
          · subst e
            rw [if_pos rfl]
            simp [pu_st]
          · rw [if_neg (by omega)]
            have := p7 r (by omega)
            simp only [pu_st]
            simp [e]
            exact this
        · rw [pu_st_ne (by decide), pu_st_ne (by decide), x8, p8]
          simp [pu_st]
        · rw [y138, if_neg (by omega)]
          exact p9
        · rw [y138, if_neg (by omega)]
          exact p10
        · rw [y138, if_neg (by omega)]
          exact p11 i a b
        · rw [y138, if_neg (by omega)]
          exact p12 i a b
