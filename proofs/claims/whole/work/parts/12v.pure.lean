/-! THE TEXT'S ITEMS -/
def sb {α β : Type} (x : Sum Nat α) (f : α → Sum Nat β) : Sum Nat β := match x with
  | .inl e => .inl e
  | .inr a => f a
def num (X : Nat → Int32) (L : Nat) (lo hi : Int32) (p : Nat) : Sum Nat (Int32 × Nat) := if tK X L p = 1 ∧ ¬ tV X L p < lo ∧ ¬ hi < tV X L p then .inr (tV X L p, tN X L p) else .inl (tS X L p)
def stp (X : Nat → Int32) (L p : Nat) : Sum Nat Nat := if tK X L p = 59 then .inr (tN X L p) else .inl (tS X L p)
/-- an item behind its first letter, up to its end: T 4 the sites, T 6 what was told -/
def itA (X : Nat → Int32) (L p n : Nat) (T : ra_W) : Sum Nat (Nat × Nat × ra_W) := sb (num X L 1 9 p) (fun a => .inr (a.2, n, ra_st (ra_st T 6 1 1) 0 1 a.1))
def itW (X : Nat → Int32) (L p n : Nat) (T : ra_W) : Sum Nat (Nat × Nat × ra_W) := sb (num X L 1 20 p) (fun a => .inr (a.2, n, ra_st (ra_st T 6 2 1) 0 2 a.1))
def itC (X : Nat → Int32) (L p n : Nat) (T : ra_W) : Sum Nat (Nat × Nat × ra_W) := sb (num X L 1 3 p) (fun a => sb (num X L 1 3 a.2) (fun b => .inr (b.2, n, ra_st (ra_st (ra_st T 6 0 1) 1 0 a.1) 1 1 b.1)))
def itR (X : Nat → Int32) (L p n : Nat) (T : ra_W) : Sum Nat (Nat × Nat × ra_W) := sb (num X L 0 1 p) (fun a => sb (num X L 0 5 a.2) (fun b => sb (num X L 0 3 b.2) (fun c => .inr (c.2, n + 1, ra_st (ra_st (ra_st T 4 n a.1) 2 n b.1) 3 n c.1))))
def ite_ (X : Nat → Int32) (L : Nat) (s : Nat × Nat × ra_W) : Sum Nat (Nat × Nat × ra_W) := sb (stp X L s.1) (fun q => .inr (q, s.2.1, s.2.2))
def itm (X : Nat → Int32) (L : Nat) (K : Int32) (s0 p n : Nat) (T : ra_W) : Sum Nat (Nat × Nat × ra_W) :=
  if K = 97 then (if T 6 1 = 0 then sb (itA X L p n T) (ite_ X L) else .inl s0)
  else if K = 99 then (if T 6 0 = 0 then sb (itC X L p n T) (ite_ X L) else .inl s0)
  else if K = 114 then (if n < 7 then sb (itR X L p n T) (ite_ X L) else .inl s0)
  else if K = 119 then (if T 6 2 = 0 then sb (itW X L p n T) (ite_ X L) else .inl s0)
  else .inl s0
def prs (X : Nat → Int32) (L : Nat) : Nat → Nat → Nat → ra_W → Nat → Sum Nat (Nat × Nat × ra_W)
  | 0, _, _, _, _ => .inl 0
  | d + 1, p, n, T, i => if tK X L p = 0 then .inr (i, n, T) else sb (itm X L (tK X L p) (tS X L p) (tN X L p) n T) (fun a => prs X L d a.1 a.2.1 a.2.2 (i + 1))
def vP (n : Nat) (T : ra_W) : Prop := n ≤ 7 ∧ (∃ A, 1 ≤ A ∧ A ≤ 9 ∧ T 0 1 = nI A) ∧ (∀ i, i < 2 → ∃ c, 1 ≤ c ∧ c ≤ 3 ∧ T 1 i = nI c) ∧ (∀ r, r < n → ∃ s, s < 2 ∧ T 4 r = nI s) ∧ (∀ i, i < 3 → T 6 i = 0 ∨ T 6 i = 1)
theorem num_r {X : Nat → Int32} {L p lo hi : Nat} {v : Int32} {q : Nat} (hl : lo < 2 ^ 31) (hh : hi < 2 ^ 31) (hp : p ≤ L) (h : num X L (nI lo) (nI hi) p = .inr (v, q)) : (∃ j, lo ≤ j ∧ j ≤ hi ∧ v = nI j) ∧ p ≤ q ∧ q ≤ L := by
  unfold num at h
  split at h
  · rename_i hc
    cases h
    refine ⟨?_, (tN_le (X := X) hp).1, (tN_le (X := X) hp).2.1⟩
    rcases pu_rng (tV X L p) lo hi hl hh with z | z | z
    · exact z
    · exact absurd z hc.2.1
    · exact absurd z hc.2.2
  · cases h
theorem stp_r {X : Nat → Int32} {L p q : Nat} (hp : p ≤ L) (h : stp X L p = .inr q) : p ≤ q ∧ q ≤ L := by
  unfold stp at h
  split at h
  · cases h
    exact ⟨(tN_le (X := X) hp).1, (tN_le (X := X) hp).2.1⟩
  · cases h
/-! the class's side -/
def cT (X : Nat → Int32) (L p : Nat) (w : ra_W) : Prop := w 1 0 = nI L ∧ w 1 2 = nI p ∧ w 2 = X
def fr1 (w w' : ra_W) : Prop := (∀ c, c ≠ 1 → w' c = w c) ∧ (∀ i, i ≠ 2 → i ≠ 3 → i ≠ 4 → i ≠ 5 → w' 1 i = w 1 i)
theorem q3_num {k L p : Nat} {X : Nat → Int32} {w : ra_W} {lo hi : Int32} (hk : 400 ≤ k) (hL : L ≤ 80) (hp : p ≤ L) (h : cT X L p w) : (∀ v q, num X L lo hi p = .inr (v, q) → ∃ w', FX3_isNumberFrom k lo hi w = some (1, w') ∧ w' 1 5 = v ∧ cT X L q w' ∧ fr1 w w') ∧ (∀ f, num X L lo hi p = .inl f → ∃ w', FX3_isNumberFrom k lo hi w = some (0, w') ∧ w' 1 3 = nI f ∧ fr1 w w') := by
  obtain ⟨k, rfl⟩ : ∃ q, k = q + 1 := ⟨k - 1, by omega⟩
  obtain ⟨w', g1, g2, g3, g4, g5, g6, g7⟩ := q3_token (k := k + 1) (X := X) (by omega) hL hp h.1 h.2.1 h.2.2
  have hT : cT X L (tN X L p) w' := ⟨by rw [g7 0 (by decide) (by decide) (by decide) (by decide)]; exact h.1, g2, by rw [g6 2 (by decide)]; exact h.2.2⟩
  unfold FX3_isNumberFrom
  rw [fX3_isNumberFrom_0, g1]
  simp only [ra_bind]
  rw [g4]
  unfold num
  by_cases hc : tK X L p = 1 ∧ ¬ tV X L p < lo ∧ ¬ hi < tV X L p
  · rw [if_pos hc, if_pos hc.1, g5 hc.1, if_neg hc.2.1, if_neg hc.2.2]
    exact ⟨fun v q e => by cases e; exact ⟨w', rfl, g5 hc.1, hT, g6, g7⟩, fun f e => by cases e⟩
  · rw [if_neg hc]
    refine ⟨fun v q e => (by cases e), fun f e => ?_⟩
    cases e
    refine ⟨w', ?_, g3, g6, g7⟩
    by_cases h1 : tK X L p = 1
    · rw [if_pos h1, g5 h1]
      by_cases h2 : tV X L p < lo
      · rw [if_pos h2]
      · rw [if_neg h2, if_pos (Decidable.byContradiction (fun z => hc ⟨h1, h2, z⟩))]
    · rw [if_neg h1]
theorem q3_stp {k L p : Nat} {X : Nat → Int32} {w : ra_W} (hk : 400 ≤ k) (hL : L ≤ 80) (hp : p ≤ L) (h : cT X L p w) : (∀ q, stp X L p = .inr q → ∃ w', FX3_isEnded k w = some (1, w') ∧ cT X L q w' ∧ fr1 w w') ∧ (∀ f, stp X L p = .inl f → ∃ w', FX3_isEnded k w = some (0, w') ∧ w' 1 3 = nI f ∧ fr1 w w') := by
  obtain ⟨k, rfl⟩ : ∃ q, k = q + 1 := ⟨k - 1, by omega⟩
  obtain ⟨w', g1, g2, g3, g4, g5, g6, g7⟩ := q3_token (k := k + 1) (X := X) (by omega) hL hp h.1 h.2.1 h.2.2
  have hT : cT X L (tN X L p) w' := ⟨by rw [g7 0 (by decide) (by decide) (by decide) (by decide)]; exact h.1, g2, by rw [g6 2 (by decide)]; exact h.2.2⟩
  unfold FX3_isEnded
  rw [fX3_isEnded_0, g1]
  simp only [ra_bind]
  rw [g4]
  unfold stp
  by_cases hc : tK X L p = 59
  · rw [if_pos hc, if_pos hc]
    exact ⟨fun q e => by cases e; exact ⟨w', rfl, hT, g6, g7⟩, fun f e => by cases e⟩
  · rw [if_neg hc, if_neg hc]
    refine ⟨fun q e => (by cases e), fun f e => ?_⟩
    cases e
    exact ⟨w', rfl, g3, g6, g7⟩
/-- the class's partial net -/
def cP (w : ra_W) (n : Nat) (T : ra_W) : Prop := cNet w 8 n T ∧ (∀ r, r < n → w 10 r = T 4 r) ∧ w 1 6 = T 6 0 ∧ w 1 7 = T 6 1 ∧ w 1 8 = T 6 2
def fr8 (w w' : ra_W) : Prop := (∀ c, c ≠ 1 → (c < 8 ∨ 12 < c) → w' c = w c) ∧ w' 1 0 = w 1 0
theorem fr8_rf (w : ra_W) : fr8 w w := ⟨fun _ _ _ => rfl, rfl⟩
theorem fr8_tr {w w1 w2 : ra_W} (h1 : fr8 w w1) (h2 : fr8 w1 w2) : fr8 w w2 := ⟨fun c a b => (h2.1 c a b).trans (h1.1 c a b), h2.2.trans h1.2⟩
theorem fr8_1 {w w' : ra_W} (h : fr1 w w') : fr8 w w' := ⟨fun c a _ => h.1 c a, h.2 0 (by decide) (by decide) (by decide) (by decide)⟩
theorem fr8_st {w : ra_W} {c i : Nat} {x : Int32} (h : (c = 1 ∧ i ≠ 0) ∨ (8 ≤ c ∧ c ≤ 12)) : fr8 w (ra_st w c i x) := ⟨fun a b d => pu_st_ne (by omega), by rw [pu_st, if_neg (by omega)]⟩
theorem cP_1 {w w' : ra_W} {n : Nat} {T : ra_W} (h : cP w n T) (hf : fr1 w w') : cP w' n T := by
  obtain ⟨h1, h2, h3, h4, h5⟩ := h
  refine ⟨cNet_x h1 (fun x a b => hf.1 x (by omega)), fun r hr => by rw [hf.1 10 (by decide)]; exact h2 r hr, ?_, ?_, ?_⟩
  · rw [hf.2 6 (by decide) (by decide) (by decide) (by decide)]; exact h3
  · rw [hf.2 7 (by decide) (by decide) (by decide) (by decide)]; exact h4
  · rw [hf.2 8 (by decide) (by decide) (by decide) (by decide)]; exact h5
theorem cT_st {X : Nat → Int32} {L p : Nat} {w : ra_W} {c i : Nat} {x : Int32} (h : cT X L p w) (hc : (c = 1 ∧ i ≠ 0 ∧ i ≠ 2) ∨ 8 ≤ c) : cT X L p (ra_st w c i x) := ⟨by rw [pu_st, if_neg (by omega)]; exact h.1, by rw [pu_st, if_neg (by omega)]; exact h.2.1, by rw [pu_st_ne (by omega)]; exact h.2.2⟩
/-- how the class's reading goes with what is meant -/
def simC (X : Nat → Int32) (L : Nat) (w : ra_W) (f : Option (Int32 × ra_W)) (r : Sum Nat (Nat × Nat × ra_W)) : Prop := match r with
  | .inl e => ∃ w', f = some (0, w') ∧ w' 1 3 = nI e ∧ fr8 w w'
  | .inr s => ∃ w', f = some (1, w') ∧ (cT X L s.1 w' ∧ s.1 ≤ L) ∧ cP w' s.2.1 s.2.2 ∧ fr8 w w'
theorem q3_air {k L p n : Nat} {X : Nat → Int32} {w T : ra_W} (hk : 500 ≤ k) (hL : L ≤ 80) (hp : p ≤ L) (h : cT X L p w) (hP : cP w n T) : simC X L w (FX3_readAir k 8 w) (itA X L p n T) := by
  obtain ⟨k, rfl⟩ : ∃ q, k = q + 1 := ⟨k - 1, by omega⟩
  unfold FX3_readAir itA
  rw [fX3_readAir_0]
  obtain ⟨a, b⟩ := q3_num (k := k + 1) (lo := 1) (hi := 9) (by omega) hL hp (cT_st (x := 1) h (c := 1) (i := 7) (by omega))
  have hw1 : fr8 w (ra_st w 1 7 1) := fr8_st (by omega)
  cases hx : num X L 1 9 p with
  | inl f =>
    obtain ⟨w', g1, g2, g3⟩ := b f hx
    rw [g1]
    exact ⟨ra_st w' 8 1 (w' 1 5), by simp [ra_bind], by rw [pu_st_ne (by decide)]; exact g2, fr8_tr hw1 (fr8_tr (fr8_1 g3) (fr8_st (by omega)))⟩
  | inr vq =>
    obtain ⟨v, q⟩ := vq
    obtain ⟨w', g1, g2, g3, g4⟩ := a v q hx
    have hq := (num_r (lo := 1) (hi := 9) (by decide) (by decide) hp hx).2.2
    rw [g1]
    refine ⟨ra_st w' 8 1 (w' 1 5), by simp [ra_bind], ⟨cT_st g3 (by omega), hq⟩, ?_, fr8_tr hw1 (fr8_tr (fr8_1 g4) (fr8_st (by omega)))⟩
    rw [g2]
    have hP1 : cP (ra_st w 1 7 1) n (ra_st T 6 1 1) := by
      unfold cP cNet at hP ⊢
      simp only [pu_st]
      grind
    have hP2 := cP_1 hP1 g4
    show cP (ra_st w' 8 1 v) n (ra_st (ra_st T 6 1 1) 0 1 v)
    generalize ra_st T 6 1 1 = T1 at hP2
    unfold cP cNet at hP2 ⊢
    simp only [pu_st]
    grind
theorem q3_pat {k L p n : Nat} {X : Nat → Int32} {w T : ra_W} (hk : 500 ≤ k) (hL : L ≤ 80) (hp : p ≤ L) (h : cT X L p w) (hP : cP w n T) : simC X L w (FX3_readPatience k 8 w) (itW X L p n T) := by
  obtain ⟨k, rfl⟩ : ∃ q, k = q + 1 := ⟨k - 1, by omega⟩
  unfold FX3_readPatience itW
  rw [fX3_readPatience_0]
  obtain ⟨a, b⟩ := q3_num (k := k + 1) (lo := 1) (hi := 20) (by omega) hL hp (cT_st (x := 1) h (c := 1) (i := 8) (by omega))
  have hw1 : fr8 w (ra_st w 1 8 1) := fr8_st (by omega)
  cases hx : num X L 1 20 p with
  | inl f =>
    obtain ⟨w', g1, g2, g3⟩ := b f hx
    rw [g1]
    exact ⟨ra_st w' 8 2 (w' 1 5), by simp [ra_bind], by rw [pu_st_ne (by decide)]; exact g2, fr8_tr hw1 (fr8_tr (fr8_1 g3) (fr8_st (by omega)))⟩
  | inr vq =>
    obtain ⟨v, q⟩ := vq
    obtain ⟨w', g1, g2, g3, g4⟩ := a v q hx
    have hq := (num_r (lo := 1) (hi := 20) (by decide) (by decide) hp hx).2.2
    rw [g1]
    refine ⟨ra_st w' 8 2 (w' 1 5), by simp [ra_bind], ⟨cT_st g3 (by omega), hq⟩, ?_, fr8_tr hw1 (fr8_tr (fr8_1 g4) (fr8_st (by omega)))⟩
    rw [g2]
    have hP1 : cP (ra_st w 1 8 1) n (ra_st T 6 2 1) := by
      unfold cP cNet at hP ⊢
      simp only [pu_st]
      grind
    have hP2 := cP_1 hP1 g4
    show cP (ra_st w' 8 2 v) n (ra_st (ra_st T 6 2 1) 0 2 v)
    generalize ra_st T 6 2 1 = T1 at hP2
    unfold cP cNet at hP2 ⊢
    simp only [pu_st]
    grind
theorem q3_chan {k L p n : Nat} {X : Nat → Int32} {w T : ra_W} (hk : 500 ≤ k) (hL : L ≤ 80) (hp : p ≤ L) (h : cT X L p w) (hP : cP w n T) : simC X L w (FX3_readChannels k 8 w) (itC X L p n T) := by
  obtain ⟨k, rfl⟩ : ∃ q, k = q + 1 + 1 + 1 + 1 := ⟨k - 4, by omega⟩
  unfold FX3_readChannels itC
  rw [fX3_readChannels_0, fX3_readChannels_1, if_neg (by decide)]
  obtain ⟨a, b⟩ := q3_num (k := k + 1 + 1 + 1 + 1) (lo := 1) (hi := 3) (by omega) hL hp (cT_st (x := 1) h (c := 1) (i := 6) (by omega))
  have hw1 : fr8 w (ra_st w 1 6 1) := fr8_st (by omega)
  have hP1 : cP (ra_st w 1 6 1) n (ra_st T 6 0 1) := by
    unfold cP cNet at hP ⊢
    simp only [pu_st]
    grind
  cases hx : num X L 1 3 p with
  | inl f =>
    obtain ⟨w', g1, g2, g3⟩ := b f hx
    rw [g1]
    exact ⟨w', by simp [ra_bind], g2, fr8_tr hw1 (fr8_1 g3)⟩
  | inr vq =>
    obtain ⟨v, q⟩ := vq
    obtain ⟨w', g1, g2, g3, g4⟩ := a v q hx
    have hq := (num_r (lo := 1) (hi := 3) (by decide) (by decide) hp hx).2.2
    rw [g1]
    simp only [ra_bind]
    rw [if_neg (by decide), if_pos (show ra_in (0 : Int32) 2 from pu_in (r := 0) (by decide) (by decide)), show ra_ix (0 : Int32) = 0 from pu_ix (r := 0) (by decide), g2, show (0 : Int32) + 1 = 1 from rfl, fX3_readChannels_1, if_neg (by decide)]
    have hP2 := cP_1 hP1 g4
    have hP3 : cP (ra_st w' (8 + 1) 0 v) n (ra_st (ra_st T 6 0 1) 1 0 v) := by
      generalize ra_st T 6 0 1 = T1 at hP2
      unfold cP cNet at hP2 ⊢
      simp only [pu_st]
      grind
    have hw2 : fr8 w (ra_st w' (8 + 1) 0 v) := fr8_tr hw1 (fr8_tr (fr8_1 g4) (fr8_st (by omega)))
    obtain ⟨a2, b2⟩ := q3_num (k := k + 1 + 1 + 1 + 1) (lo := 1) (hi := 3) (by omega) hL hq (cT_st (x := v) g3 (c := 8 + 1) (i := 0) (by omega))
    show simC X L w _ (sb (num X L 1 3 q) (fun b => .inr (b.2, n, ra_st (ra_st (ra_st T 6 0 1) 1 0 v) 1 1 b.1)))
    cases hy : num X L 1 3 q with
    | inl f =>
      obtain ⟨w2, c1, c2, c3⟩ := b2 f hy
      rw [c1]
      exact ⟨w2, by simp [ra_bind], c2, fr8_tr hw2 (fr8_1 c3)⟩
    | inr vq2 =>
      obtain ⟨v2, q2⟩ := vq2
      obtain ⟨w2, c1, c2, c3, c4⟩ := a2 v2 q2 hy
      have hq2 := (num_r (lo := 1) (hi := 3) (by decide) (by decide) hq hy).2.2
      rw [c1]
      simp only [ra_bind]
      rw [if_neg (by decide), if_pos (show ra_in (1 : Int32) 2 from pu_in (r := 1) (by decide) (by decide)), show ra_ix (1 : Int32) = 1 from pu_ix (r := 1) (by decide), c2, show (1 : Int32) + 1 = 2 from rfl, fX3_readChannels_1, if_pos (by decide)]
      have hP4 := cP_1 hP3 c4
      refine ⟨_, rfl, ⟨cT_st c3 (by omega), hq2⟩, ?_, fr8_tr hw2 (fr8_tr (fr8_1 c4) (fr8_st (by omega)))⟩
      show cP (ra_st w2 (8 + 1) 1 v2) n (ra_st (ra_st (ra_st T 6 0 1) 1 0 v) 1 1 v2)
      generalize ra_st (ra_st T 6 0 1) 1 0 v = T1 at hP4
      unfold cP cNet at hP4 ⊢
      simp only [pu_st]
      grind
theorem q3_rad {k L p n : Nat} {X : Nat → Int32} {w T : ra_W} (hk : 500 ≤ k) (hL : L ≤ 80) (hp : p ≤ L) (hn : n < 7) (h : cT X L p w) (hP : cP w n T) : simC X L w (FX3_readRadio k 8 w) (itR X L p n T) := by
  obtain ⟨k, rfl⟩ : ∃ q, k = q + 1 := ⟨k - 1, by omega⟩
  unfold FX3_readRadio itR
  rw [fX3_readRadio_0, hP.1.1, if_neg (nI_pos (by omega)), if_neg (pu_ge7 hn)]
  simp only [pu_ix (show n < 2 ^ 31 by omega)]
  obtain ⟨a, b⟩ := q3_num (k := k + 1) (lo := 0) (hi := 1) (by omega) hL hp h
  cases hx : num X L 0 1 p with
  | inl f =>
    obtain ⟨w', g1, g2, g3⟩ := b f hx
    rw [g1]
    exact ⟨w', by simp [ra_bind], g2, fr8_1 g3⟩
  | inr vq =>
    obtain ⟨v, q⟩ := vq
    obtain ⟨w', g1, g2, g3, g4⟩ := a v q hx
    have hq := (num_r (lo := 0) (hi := 1) (by decide) (by decide) hp hx).2.2
    rw [g1]
    simp only [ra_bind]
    rw [if_neg (by decide), if_pos (pu_in hn (by decide)), g2]
    have hw2 : fr8 w (ra_st w' (8 + 2) n v) := fr8_tr (fr8_1 g4) (fr8_st (by omega))
    have hP2 := cP_1 hP g4
    obtain ⟨a2, b2⟩ := q3_num (k := k + 1) (lo := 0) (hi := 5) (by omega) hL hq (cT_st (x := v) g3 (c := 8 + 2) (i := n) (by omega))
    show simC X L w _ (sb (num X L 0 5 q) (fun b => sb (num X L 0 3 b.2) (fun c => .inr (c.2, n + 1, ra_st (ra_st (ra_st T 4 n v) 2 n b.1) 3 n c.1))))
    cases hy : num X L 0 5 q with
    | inl f =>
      obtain ⟨w2, c1, c2, c3⟩ := b2 f hy
      rw [c1]
      exact ⟨w2, by simp [ra_bind], c2, fr8_tr hw2 (fr8_1 c3)⟩
    | inr vq2 =>
      obtain ⟨v2, q2⟩ := vq2
      obtain ⟨w2, c1, c2, c3, c4⟩ := a2 v2 q2 hy
      have hq2 := (num_r (lo := 0) (hi := 5) (by decide) (by decide) hq hy).2.2
      rw [c1]
      simp only [ra_bind]
      rw [if_neg (by decide), c2]
      have hw3 : fr8 w (ra_st w2 (8 + 3) n v2) := fr8_tr hw2 (fr8_tr (fr8_1 c4) (fr8_st (by omega)))
      obtain ⟨a3, b3⟩ := q3_num (k := k + 1) (lo := 0) (hi := 3) (by omega) hL hq2 (cT_st (x := v2) c3 (c := 8 + 3) (i := n) (by omega))
      show simC X L w _ (sb (num X L 0 3 q2) (fun c => .inr (c.2, n + 1, ra_st (ra_st (ra_st T 4 n v) 2 n v2) 3 n c.1)))
      cases hz : num X L 0 3 q2 with
      | inl f =>
        obtain ⟨w3, d1, d2, d3⟩ := b3 f hz
        rw [d1]
        exact ⟨w3, by simp [ra_bind], d2, fr8_tr hw3 (fr8_1 d3)⟩
      | inr vq3 =>
        obtain ⟨v3, q3⟩ := vq3
        obtain ⟨w3, d1, d2, d3, d4⟩ := a3 v3 q3 hz
        have hq3 := (num_r (lo := 0) (hi := 3) (by decide) (by decide) hq2 hz).2.2
        rw [d1]
        simp only [ra_bind]
        rw [if_neg (by decide), d2]
        have r0 : w3 8 0 = nI n := by rw [d4.1 8 (by decide), pu_st_ne (by decide), c4.1 8 (by decide), pu_st_ne (by decide), g4.1 8 (by decide)]; exact hP.1.1
        have er : ra_st w3 (8 + 4) n v3 8 0 = nI n := by rw [pu_st_ne (by decide)]; exact r0
        rw [er, nI_1]
        refine ⟨_, rfl, ⟨cT_st (cT_st d3 (by omega)) (by omega), hq3⟩, ?_, fr8_tr hw3 (fr8_tr (fr8_1 d4) (fr8_tr (fr8_st (by omega)) (fr8_st (by omega))))⟩
        show cP (ra_st (ra_st w3 (8 + 4) n v3) 8 0 (nI (n + 1))) (n + 1) (ra_st (ra_st (ra_st T 4 n v) 2 n v2) 3 n v3)
        have x3 : ∀ c, c ≠ 1 → c ≠ 10 → c ≠ 11 → w3 c = w' c := fun c x y z => by rw [d4.1 c x, pu_st_ne (show c ≠ 8 + 3 by omega), c4.1 c x, pu_st_ne (show c ≠ 8 + 2 by omega)]
        have x10 : ∀ i, w3 10 i = if i = n then v else w' 10 i := fun i => by
          rw [d4.1 10 (by decide), pu_st_ne (by decide), c4.1 10 (by decide), pu_st]
          by_cases e : i = n
          · rw [if_pos ⟨rfl, e⟩, if_pos e]
          · rw [if_neg (fun z => e z.2), if_neg e]
        have x11 : ∀ i, w3 11 i = if i = n then v2 else w' 11 i := fun i => by
          rw [d4.1 11 (by decide), pu_st, c4.1 11 (by decide), pu_st_ne (by decide)]
          by_cases e : i = n
          · rw [if_pos ⟨rfl, e⟩, if_pos e]
          · rw [if_neg (fun z => e z.2), if_neg e]
        have x1 : ∀ i, i ≠ 2 → i ≠ 3 → i ≠ 4 → i ≠ 5 → w3 1 i = w' 1 i := fun i x y z t => by rw [d4.2 i x y z t, pu_st_ne (by decide), c4.2 i x y z t, pu_st_ne (by decide)]
        have e8 := x3 8 (by decide) (by decide) (by decide)
        have e9 := x3 9 (by decide) (by decide) (by decide)
        have e12 := x3 12 (by decide) (by decide) (by decide)
        have e6 := x1 6 (by decide) (by decide) (by decide) (by decide)
        have e7 := x1 7 (by decide) (by decide) (by decide) (by decide)
        have e18 := x1 8 (by decide) (by decide) (by decide) (by decide)
        unfold cP cNet at hP2 ⊢
        simp only [pu_st, Nat.reduceAdd, e8, e9, e12, e6, e7, e18, x10, x11]
        simp only [Nat.reduceAdd] at hP2
        obtain ⟨⟨p1, p2, p3, p4, p5, p6⟩, p7, p8, p9, p10⟩ := hP2
        refine ⟨⟨by simp, by simpa using p2, by simpa using p3, fun i hi => by simpa using p4 i hi, fun r hr => ?_, fun r hr => ?_⟩, fun r hr => ?_, by simpa using p8, by simpa using p9, by simpa using p10⟩
        · by_cases e : r = n
          · simp [e]
          · have := p5 r (by omega)
            simp [e, this]
        · by_cases e : r = n
          · simp [e]
          · have := p6 r (by omega)
            simp [e, this]
        · by_cases e : r = n
          · simp [e]
          · have := p7 r (by omega)
            simp [e, this]
theorem q3_ends {k L : Nat} {X : Nat → Int32} {w : ra_W} {f : Option (Int32 × ra_W)} {r : Sum Nat (Nat × Nat × ra_W)} (hk : 500 ≤ k) (hL : L ≤ 80) (h : simC X L w f r) : simC X L w (ra_bind f (fun r3 w4 => if r3 = 0 then some (0, w4) else ra_bind (FX3_isEnded k w4) (fun r7 w8 => if r7 = 0 then some (0, w8) else some (1, w8)))) (sb r (ite_ X L)) := by
  cases r with
  | inl e =>
    obtain ⟨w', g1, g2, g3⟩ := h
    rw [g1]
    exact ⟨w', by simp [ra_bind], g2, g3⟩
  | inr s =>
    obtain ⟨w', g1, ⟨g2, g3⟩, g4, g5⟩ := h
    rw [g1]
    simp only [ra_bind]
    rw [if_neg (by decide)]
    show simC X L w _ (sb (stp X L s.1) (fun q => .inr (q, s.2.1, s.2.2)))
    obtain ⟨a, b⟩ := q3_stp (k := k) (by omega) hL g3 g2
    cases hs : stp X L s.1 with
    | inl e =>
      obtain ⟨w2, c1, c2, c3⟩ := b e hs
      rw [c1]
      exact ⟨w2, by simp [ra_bind], c2, fr8_tr g5 (fr8_1 c3)⟩
    | inr q =>
      obtain ⟨w2, c1, c2, c3⟩ := a q hs
      rw [c1]
      exact ⟨w2, by simp [ra_bind], ⟨c2, (stp_r g3 hs).2⟩, cP_1 g4 c3, fr8_tr g5 (fr8_1 c3)⟩
theorem q3_item {k L p n s0 : Nat} {X : Nat → Int32} {K : Int32} {w T : ra_W} (hk : 600 ≤ k) (hL : L ≤ 80) (hp : p ≤ L) (hn : n ≤ 7) (h : cT X L p w) (hP : cP w n T) (h3 : w 1 3 = nI s0) (h4 : w 1 4 = K) : simC X L w (FX3_readItem k 8 w) (itm X L K s0 p n T) := by
  obtain ⟨k, rfl⟩ : ∃ q, k = q + 1 := ⟨k - 1, by omega⟩
  unfold FX3_readItem itm
  rw [fX3_readItem_0, h4, hP.2.2.1, hP.2.2.2.1, hP.2.2.2.2, hP.1.1]
  have same : simC X L w (some ((0 : Int32), w)) (.inl s0) := ⟨w, rfl, h3, fr8_rf w⟩
  by_cases k97 : K = 97
  · rw [if_pos k97, if_pos k97]
    by_cases t0 : T 6 1 = 0
    · rw [if_pos t0, if_pos t0]
      exact q3_ends (by omega) hL (q3_air (by omega) hL hp h hP)
    · rw [if_neg t0, if_neg t0]
      exact same
  · rw [if_neg k97, if_neg k97]
    by_cases k99 : K = 99
    · rw [if_pos k99, if_pos k99]
      by_cases t0 : T 6 0 = 0
      · rw [if_pos t0, if_pos t0]
        exact q3_ends (by omega) hL (q3_chan (by omega) hL hp h hP)
      · rw [if_neg t0, if_neg t0]
        exact same
    · rw [if_neg k99, if_neg k99]
      by_cases k114 : K = 114
      · rw [if_pos k114, if_pos k114]
        by_cases t0 : n < 7
        · rw [if_neg (pu_ge7 t0), if_pos t0]
          exact q3_ends (by omega) hL (q3_rad (by omega) hL hp t0 h hP)
        · rw [if_pos (show (7 : Int32) ≤ nI n from nI_le (a := 7) (by omega) (by omega)), if_neg t0]
          exact same
      · rw [if_neg k114, if_neg k114]
        by_cases k119 : K = 119
        · rw [if_pos k119, if_pos k119]
          by_cases t0 : T 6 2 = 0
          · rw [if_pos t0, if_pos t0]
            exact q3_ends (by omega) hL (q3_pat (by omega) hL hp h hP)
          · rw [if_neg t0, if_neg t0]
            exact same
        · rw [if_neg k119, if_neg k119]
          exact same
