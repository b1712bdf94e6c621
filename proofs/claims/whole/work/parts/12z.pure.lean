/-! NET -/
theorem m6_z137 {k : Nat} {w0 : ra_W} : ∀ (d i m : Nat) (w : ra_W), i + d = 19 → d + 1 ≤ m → (∀ j, j < i → w 137 j = 0) → (∀ c, c ≠ 137 → w c = w0 c) → ∃ (m' : Nat) (w' : ra_W), m = m' + d + 1 ∧ fX6_begins k m 1 (nI i) w = fX6_begins k m' 2 0 w' ∧ (∀ j, j < 19 → w' 137 j = 0) ∧ (∀ c, c ≠ 137 → w' c = w0 c) := by
  intro d
  induction d with
  | zero =>
    intro i m w hi hm h1 h2
    obtain ⟨m, rfl⟩ : ∃ q, m = q + 1 := ⟨m - 1, by omega⟩
    have hin : i = 19 := by omega
    subst hin
    rw [fX6_begins_1, if_pos (by decide)]
    exact ⟨m, w, by omega, rfl, h1, h2⟩
  | succ d ih =>
    intro i m w hi hm h1 h2
    obtain ⟨m, rfl⟩ : ∃ q, m = q + 1 := ⟨m - 1, by omega⟩
    rw [fX6_begins_1, if_neg (show ¬ (19 : Int32) ≤ nI i from nI_ge (b := 19) (by omega) (by decide)), if_pos (pu_in (by omega) (by decide)), pu_ix (by omega), nI_1]
    obtain ⟨m', w', e, g⟩ := ih (i + 1) m (ra_st w 137 i 0) (by omega) (by omega) (fun j hj => by
      rw [pu_st]
      by_cases e : j = i
      · rw [if_pos ⟨rfl, e⟩]
      · rw [if_neg (fun z => e z.2)]
        exact h1 j (by omega)) (fun c a => by rw [pu_st_ne a]; exact h2 c a)
    exact ⟨m', w', by omega, g⟩
theorem m6_z138 {k : Nat} {w0 : ra_W} : ∀ (d i m : Nat) (w : ra_W), i + d = 41 → d + 1 ≤ m → (∀ j, j < i → w 138 j = 0) → (∀ c, c ≠ 138 → w c = w0 c) → ∃ w' : ra_W, fX6_begins k m 2 (nI i) w = some (0, ra_st (ra_st (ra_st (ra_st (ra_st (ra_st (ra_st w' 137 1 4) 137 2 8) 137 3 2) 137 4 2) 138 0 (-1)) 138 1 (-1)) 134 8 0) ∧ (∀ j, j < 41 → w' 138 j = 0) ∧ (∀ c, c ≠ 138 → w' c = w0 c) := by
  intro d
  induction d with
  | zero =>
    intro i m w hi hm h1 h2
    obtain ⟨m, rfl⟩ : ∃ q, m = q + 1 := ⟨m - 1, by omega⟩
    have hin : i = 41 := by omega
    subst hin
    rw [fX6_begins_2, if_pos (by decide)]
    exact ⟨w, rfl, h1, h2⟩
  | succ d ih =>
    intro i m w hi hm h1 h2
    obtain ⟨m, rfl⟩ : ∃ q, m = q + 1 := ⟨m - 1, by omega⟩
    rw [fX6_begins_2, if_neg (show ¬ (41 : Int32) ≤ nI i from nI_ge (b := 41) (by omega) (by decide)), if_pos (pu_in (by omega) (by decide)), pu_ix (by omega), nI_1]
    exact ih (i + 1) m (ra_st w 138 i 0) (by omega) (by omega) (fun j hj => by
      rw [pu_st]
      by_cases e : j = i
      · rw [if_pos ⟨rfl, e⟩]
      · rw [if_neg (fun z => e z.2)]
        exact h1 j (by omega)) (fun c a => by rw [pu_st_ne a]; exact h2 c a)
theorem m6_begins {k : Nat} {w : ra_W} (hk : 100 ≤ k) : ∃ w', FX6_begins k w = some (0, w') ∧ mP w' 0 T0 ∧ (∀ c, c ≠ 134 → c ≠ 137 → c ≠ 138 → w' c = w c) ∧ (∀ i, i ≠ 8 → w' 134 i = w 134 i) := by
  obtain ⟨k, rfl⟩ : ∃ q, k = q + 1 := ⟨k - 1, by omega⟩
  unfold FX6_begins
  rw [fX6_begins_0]
  obtain ⟨m', w1, e, g1, g2, g3⟩ := m6_z137 (k := k + 1) (w0 := w) 19 0 k w (by omega) (by omega) (fun j hj => absurd hj (by omega)) (fun _ _ => rfl)
  obtain ⟨w2, p1, p2, p3⟩ := m6_z138 (k := k + 1) (w0 := w1) 41 0 m' w1 (by omega) (by omega) (fun j hj => absurd hj (by omega)) (fun _ _ => rfl)
  refine ⟨_, g1.trans p1, ?_, fun c a b d => ?_, fun i a => ?_⟩
  · have q137 : ∀ j, j < 19 → w2 137 j = 0 := fun j hj => by rw [p3 137 (by decide)]; exact g2 j hj
    refine ⟨⟨?_, ?_, ?_, fun i hi => ?_, fun r hr => absurd hr (by omega), fun r hr => absurd hr (by omega)⟩, fun r hr => absurd hr (by omega), ?_, ⟨?_, ?_⟩, fun i a b => ?_, fun i a b => ?_⟩
    · simp only [pu_st]
      rw [nI_0]
      simpa using q137 0 (by omega)
    · simp only [pu_st]
      simp
      rfl
    · simp only [pu_st]
      simp
      rfl
    · rcases (show i = 0 ∨ i = 1 by omega) with rfl | rfl <;> simp only [pu_st] <;> simp <;> rfl
    · rw [pu_st_eq]
      rfl
    · simp only [pu_st]
      simp
    · simp only [pu_st]
      simp
    · simp only [pu_st]
      simp [show i ≠ 0 by omega, show i ≠ 1 by omega]
      exact p2 i (by omega)
    · simp only [pu_st]
      simp [show i ≠ 0 by omega, show i ≠ 1 by omega]
      exact p2 i b
  · rw [pu_st_ne a, pu_st_ne d, pu_st_ne d, pu_st_ne b, pu_st_ne b, pu_st_ne b, pu_st_ne b, p3 c d, g3 c b]
  · rw [pu_st, if_neg (fun z => a z.2), pu_st_ne (by decide), pu_st_ne (by decide), pu_st_ne (by decide), pu_st_ne (by decide), pu_st_ne (by decide), pu_st_ne (by decide), p3 134 (by decide), g3 134 (by decide)]
theorem m6_set_loop {k : Nat} {w0 : ra_W} : ∀ (d i m : Nat) (w : ra_W), i + d = 19 → d + 1 ≤ m → (∀ j, j < i → w 136 j = w0 137 j) → (∀ c, c ≠ 136 → w c = w0 c) → ∃ (m' : Nat) (w' : ra_W), m = m' + d + 1 ∧ fX6_settles k m 1 (nI i) w = ra_bind (FX6_copies k 138 139 w') (fun _ w3 => some (0, (ra_st (ra_st (ra_st (ra_st (ra_st w3 134 2 0) 134 20 0) 134 15 0) 143 0 0) 143 1 0))) ∧ (∀ j, j < 19 → w' 136 j = w0 137 j) ∧ (∀ c, c ≠ 136 → w' c = w0 c) := by
  intro d
  induction d with
  | zero =>
    intro i m w hi hm h1 h2
    obtain ⟨m, rfl⟩ : ∃ q, m = q + 1 := ⟨m - 1, by omega⟩
    have hin : i = 19 := by omega
    subst hin
    rw [fX6_settles_1, if_pos (by decide)]
    exact ⟨m, w, by omega, rfl, h1, h2⟩
  | succ d ih =>
    intro i m w hi hm h1 h2
    obtain ⟨m, rfl⟩ : ∃ q, m = q + 1 := ⟨m - 1, by omega⟩
    rw [fX6_settles_1, if_neg (show ¬ (19 : Int32) ≤ nI i from nI_ge (b := 19) (by omega) (by decide)), if_pos (pu_in (by omega) (by decide)), pu_ix (by omega), nI_1, h2 137 (by decide)]
    obtain ⟨m', w', e, g⟩ := ih (i + 1) m (ra_st w 136 i (w0 137 i)) (by omega) (by omega) (fun j hj => by
      rw [pu_st]
      by_cases e : j = i
      · rw [if_pos ⟨rfl, e⟩, e]
      · rw [if_neg (fun z => e z.2)]
        exact h1 j (by omega)) (fun c a => by rw [pu_st_ne a]; exact h2 c a)
    exact ⟨m', w', by omega, g⟩
theorem m6_settles {k : Nat} {w : ra_W} (hk : 100 ≤ k) : ∃ w', FX6_settles k w = some (0, w') ∧ (∀ i, i < 19 → w' 136 i = w 137 i) ∧ (∀ i, i < 41 → w' 139 i = w 138 i) ∧ (w' 134 2 = 0 ∧ w' 134 15 = 0 ∧ w' 134 20 = 0) ∧ (w' 143 0 = 0 ∧ w' 143 1 = 0) ∧ (∀ c, c ≠ 134 → c ≠ 136 → c ≠ 139 → c ≠ 143 → w' c = w c) := by
  obtain ⟨k, rfl⟩ : ∃ q, k = q + 1 := ⟨k - 1, by omega⟩
  unfold FX6_settles
  rw [fX6_settles_0]
  obtain ⟨m', w1, e, g1, g2, g3⟩ := m6_set_loop (k := k + 1) (w0 := w) 19 0 k w (by omega) (by omega) (fun j hj => absurd hj (by omega)) (fun _ _ => rfl)
  obtain ⟨w2, p1, p2, p3⟩ := m6_copies (k := k + 1) (b0 := 138) (b1 := 139) (w := w1) (by omega) (by decide)
  rw [p1] at g1
  refine ⟨_, g1, fun i hi => ?_, fun i hi => ?_, ⟨?_, ?_, ?_⟩, ⟨?_, ?_⟩, fun c a b d e => ?_⟩
  · rw [pu_st_ne (by decide), pu_st_ne (by decide), pu_st_ne (by decide), pu_st_ne (by decide), pu_st_ne (by decide), p3 136 (by decide)]
    exact g2 i hi
  · rw [pu_st_ne (by decide), pu_st_ne (by decide), pu_st_ne (by decide), pu_st_ne (by decide), pu_st_ne (by decide), p2 i hi, g3 138 (by decide)]
  · simp [pu_st]
  · simp [pu_st]
  · simp [pu_st]
  · simp [pu_st]
  · simp [pu_st]
  · rw [pu_st_ne e, pu_st_ne e, pu_st_ne a, pu_st_ne a, pu_st_ne a, p3 c d, g3 c b]
/-- the state as it begins -/
def S0 (T : ra_W) : ra_W := fun j r => if j = 0 then T 4 r else if j = 5 then -1 else 0
theorem iv_0 {n A : Nat} {T : ra_W} (hn : n ≤ 7) (h1 : 1 ≤ A) (h9 : A ≤ 9) (hA : T 0 1 = nI A) (hc : ∀ i, i < 2 → ∃ c, 1 ≤ c ∧ c ≤ 3 ∧ T 1 i = nI c) (hs : ∀ r, r < n → ∃ s, s < 2 ∧ T 4 r = nI s) : iv n A T (S0 T) := by
  refine ⟨⟨h1, by omega, hA, hn⟩, fun r hr => ?_, fun r q a b c => ?_, fun i hi => ?_, fun i hi => Or.inl rfl⟩
  · refine ⟨hs r hr, Or.inl rfl, Or.inl rfl, fun _ => ⟨rfl, rfl, rfl⟩, fun z => absurd rfl z, fun z => absurd (show (0 : Int32) = 2 from z) (by decide), fun z => ?_⟩
    rcases z with z | z
    · exact absurd (show (0 : Int32) = 4 from z) (by decide)
    · exact absurd (show (0 : Int32) = 5 from z) (by decide)
  · exact absurd (show (0 : Int32) = 4 from c) (by decide)
  · obtain ⟨c, c1, c2, c3⟩ := hc i hi
    refine ⟨c, c1, by omega, c3, ?_⟩
    have : pu_cnt (sp_hb (S0 T) i) n = 0 := by
      rw [pu_cnt_zero]
      intro j hj
      show pu_bit 0 i = false
      unfold pu_bit
      split <;> decide
    omega
theorem q4_begin_loop {k : Nat} {w0 : ra_W} (hk : 2 ≤ k) : ∀ (d i m : Nat) (w : ra_W), i + d = 7 → d + 1 ≤ m → (∀ r, r < i → w 17 r = w0 5 r ∧ w 18 r = 0 ∧ w 19 r = 0 ∧ w 20 r = 0 ∧ w 21 r = 0) → (∀ c, (c < 16 ∨ 22 < c) → w c = w0 c) → ∃ w', fX4_begin k 16 3 m 1 (nI i) w = some (0, ra_st (ra_st (ra_st (ra_st (ra_st (ra_st w' 22 0 (-1)) 22 1 (-1)) 16 6 0) 16 7 0) 16 8 0) 16 9 0) ∧ (∀ r, r < 7 → w' 17 r = w0 5 r ∧ w' 18 r = 0 ∧ w' 19 r = 0 ∧ w' 20 r = 0 ∧ w' 21 r = 0) ∧ (∀ c, (c < 16 ∨ 22 < c) → w' c = w0 c) := by
  intro d
  induction d with
  | zero =>
    intro i m w hi hm h1 h2
    obtain ⟨m, rfl⟩ : ∃ q, m = q + 1 := ⟨m - 1, by omega⟩
    have hin : i = 7 := by omega
    subst hin
    rw [fX4_begin_1, if_pos (by decide)]
    exact ⟨w, rfl, h1, h2⟩
  | succ d ih =>
    intro i m w hi hm h1 h2
    obtain ⟨m, rfl⟩ : ∃ q, m = q + 1 := ⟨m - 1, by omega⟩
    rw [fX4_begin_1, if_neg (pu_ge7 (by omega)), if_pos (pu_in (by omega) (by decide)), pu_ix (by omega), q4_rest (b := 16) (by omega) (by omega)]
    simp only [ra_bind, nI_1]
    refine ih (i + 1) m _ (by omega) (by omega) (fun r hr => ?_) (fun c a => by rw [pu_st_ne (by omega), pu_st_ne (by omega), pu_st_ne (by omega), pu_st_ne (by omega), pu_st_ne (by omega)]; exact h2 c a)
    have e5 : w (3 + 2) i = w0 5 i := by rw [h2 (3 + 2) (by omega)]
    rw [e5]
    simp only [pu_st]
    by_cases e : r = i
    · subst e
      simp
    · have := h1 r (by omega)
      simp [e]
      exact this
theorem q4_begin {k n : Nat} {w T : ra_W} (hk : 20 ≤ k) (hn : n ≤ 7) (h5 : ∀ r, r < n → w 5 r = T 4 r) : ∃ w', FX4_begin k 16 3 w = some (0, w') ∧ cSt w' 16 n (S0 T) ∧ w' 16 6 = 0 ∧ (∀ c, (c < 16 ∨ 22 < c) → w' c = w c) := by
  obtain ⟨k, rfl⟩ : ∃ q, k = q + 1 := ⟨k - 1, by omega⟩
  unfold FX4_begin
  rw [fX4_begin_0]
  obtain ⟨w1, g1, g2, g3⟩ := q4_begin_loop (k := k + 1) (w0 := w) (by omega) 7 0 k w (by omega) (by omega) (fun r hr => absurd hr (by omega)) (fun _ _ => rfl)
  refine ⟨_, g1, ?_, ?_, fun c a => by rw [pu_st_ne (by omega), pu_st_ne (by omega), pu_st_ne (by omega), pu_st_ne (by omega), pu_st_ne (by omega), pu_st_ne (by omega)]; exact g3 c a⟩
  · have e : ∀ c, 17 ≤ c → c ≤ 21 → ∀ i, ra_st (ra_st (ra_st (ra_st (ra_st (ra_st w1 22 0 (-1)) 22 1 (-1)) 16 6 0) 16 7 0) 16 8 0) 16 9 0 c i = w1 c i := fun c a b i => by rw [pu_st_ne (by omega), pu_st_ne (by omega), pu_st_ne (by omega), pu_st_ne (by omega), pu_st_ne (by omega), pu_st_ne (by omega)]
    refine ⟨fun r hr => ?_, fun r hr => ?_, fun r hr => ?_, fun r hr => ?_, fun r hr => ?_, fun i hi => ?_, ?_, ?_, ?_⟩
    · rw [e 17 (by omega) (by omega), (g2 r (by omega)).1]
      exact h5 r hr
    · rw [e 18 (by omega) (by omega), (g2 r (by omega)).2.1]
      rfl
    · rw [e 19 (by omega) (by omega), (g2 r (by omega)).2.2.1]
      rfl
    · rw [e 20 (by omega) (by omega), (g2 r (by omega)).2.2.2.1]
      rfl
    · rw [e 21 (by omega) (by omega), (g2 r (by omega)).2.2.2.2]
      rfl
    · rcases (show i = 0 ∨ i = 1 by omega) with rfl | rfl <;> simp [pu_st] <;> rfl
    · simp [pu_st]
      rfl
    · simp [pu_st]
      rfl
    · simp [pu_st]
      rfl
  · simp [pu_st]
theorem pu_neg (f : Nat) (h : f ≤ 80) : ¬ (0 : Int32) ≤ -10 - nI f := by
  have : ∀ f : Fin 81, ¬ (0 : Int32) ≤ -10 - nI f.val := by decide +kernel
  exact this ⟨f, by omega⟩
theorem num_f {X : Nat → Int32} {L q : Nat} {lo hi : Int32} {f : Nat} (hq : q ≤ L) (e : num X L lo hi q = .inl f) : f ≤ L := by
  unfold num at e
  split at e
  · cases e
  · cases e
    exact (tS_le (X := X) hq).2
theorem num_q {X : Nat → Int32} {L q : Nat} {lo hi : Int32} {a : Int32 × Nat} (hq : q ≤ L) (e : num X L lo hi q = .inr a) : a.2 ≤ L := by
  unfold num at e
  split at e
  · cases e
    exact (tN_le (X := X) hq).2.1
  · cases e
theorem stp_f {X : Nat → Int32} {L q f : Nat} (hq : q ≤ L) (e : stp X L q = .inl f) : f ≤ L := by
  unfold stp at e
  split at e
  · cases e
  · cases e
    exact (tS_le (X := X) hq).2
theorem sb_f {α β : Type} {x : Sum Nat α} {g : α → Sum Nat β} {L f : Nat} (e : sb x g = .inl f) (h1 : ∀ f, x = .inl f → f ≤ L) (h2 : ∀ a, x = .inr a → ∀ f, g a = .inl f → f ≤ L) : f ≤ L := by
  cases x with
  | inl y =>
    cases e
    exact h1 _ rfl
  | inr a => exact h2 a rfl f e
theorem itm_f {X : Nat → Int32} {L p n s0 : Nat} {K : Int32} {T : ra_W} {f : Nat} (hp : p ≤ L) (hs : s0 ≤ L) (h : itm X L K s0 p n T = .inl f) : f ≤ L := by
  have fin : ∀ (r : Sum Nat (Nat × Nat × ra_W)), (∀ f, r = .inl f → f ≤ L) → (∀ t, r = .inr t → t.1 ≤ L) → sb r (ite_ X L) = .inl f → f ≤ L := by
    intro r h1 h2 e
    exact sb_f e h1 (fun a ha f e => sb_f e (fun f e => stp_f (h2 a ha) e) (fun q _ f e => (by cases e)))
  have bad : ∀ {x : Nat}, Sum.inl (β := Nat × Nat × ra_W) s0 = .inl x → x ≤ L := fun e => by cases e; exact hs
  unfold itm at h
  split at h
  · split at h
    · refine fin _ (fun f e => ?_) (fun t e => (itA_ok hp e).1.2) h
      exact sb_f e (fun f e => num_f hp e) (fun a _ f e => (by cases e))
    · exact bad h
  · split at h
    · split at h
      · refine fin _ (fun f e => ?_) (fun t e => (itC_ok hp e).1.2) h
        exact sb_f e (fun f e => num_f hp e) (fun a ha f e => sb_f e (fun f e => num_f (num_q hp ha) e) (fun b _ f e => (by cases e)))
      · exact bad h
    · split at h
      · split at h
        · rename_i hn
          refine fin _ (fun f e => ?_) (fun t e => (itR_ok hp hn e).1.2) h
          exact sb_f e (fun f e => num_f hp e) (fun a ha f e => sb_f e (fun f e => num_f (num_q hp ha) e) (fun b hb f e => sb_f e (fun f e => num_f (num_q (num_q hp ha) hb) e) (fun c _ f e => (by cases e))))
        · exact bad h
      · split at h
        · split at h
          · refine fin _ (fun f e => ?_) (fun t e => (itW_ok hp e).1.2) h
            exact sb_f e (fun f e => num_f hp e) (fun a _ f e => (by cases e))
          · exact bad h
        · exact bad h
theorem prs_f {X : Nat → Int32} {L : Nat} (hL : L ≤ 80) : ∀ (d i p n : Nat) (T : ra_W), i + d = 81 → i ≤ p → p ≤ L → ∀ f, prs X L d p n T i = .inl f → f ≤ L
  | 0, i, p, n, T, hi, hip, hp, f, h => by omega
  | d + 1, i, p, n, T, hi, hip, hp, f, h => by
    have hN := tN_le (X := X) hp
    have hS := tS_le (X := X) hp
    simp only [prs] at h
    split at h
    · cases h
    · rename_i h0
      have hlt := hN.2.2 h0
      exact sb_f h (fun f e => itm_f hN.2.1 hS.2 e) (fun a ha f e => prs_f hL d (i + 1) a.1 a.2.1 a.2.2 (by omega) (by have := (itm_ok hN.2.1 ha).1; omega) (itm_ok hN.2.1 ha).1.2 f e)
