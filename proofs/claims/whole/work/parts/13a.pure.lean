/-! A NEW NET -/
theorem Rel_new {w : ra_W} {n : Nat} {T : ra_W} (hv : vP n T) (c1 : cNet w 3 n T) (c2 : cSt w 16 n (S0 T)) (c3 : w 16 6 = 0) (c4 : w 30 0 = 0) (c5 : ∃ nx, nx < 12 ∧ w 30 2 = nI nx) (d1 : mNet w n T) (d2 : mSt w 139 n (S0 T)) (d3 : w 139 2 = 0) (d4 : w 134 15 = 0) (t1 : w 1 0 = 0) (t2 : w 134 2 = 0) (i1 : w 0 8 = 0) (i2 : w 143 0 = 0) (i3 : w 143 1 = 0) (z1 : w 0 11 = 0) (z2 : w 134 20 = 0) : Rel w := by
  obtain ⟨v1, ⟨A, a1, a2, a3⟩, v3, v4, v5⟩ := id hv
  obtain ⟨nx, n1, n2⟩ := c5
  refine ⟨n, A, T, S0 T, 0, 0, fun _ => S0 T, fun _ => 0, ⟨iv_0 v1 a1 a2 a3 v3 v4, by omega, by omega, fun j hj => absurd hj (by omega)⟩, ⟨c1, c2, c3, ⟨nx, n1, c4, n2, fun j hj => absurd hj (by omega)⟩⟩, ⟨d1, d2, d3, ⟨d4, fun j hj => absurd hj (by omega)⟩⟩, ⟨0, by omega, t1, t2, fun j hj => absurd hj (by omega)⟩, ⟨by rw [i1]; exact Or.inl rfl, fun j hj => ?_⟩, ⟨0, by omega, z1, z2, fun j hj => absurd hj (by omega)⟩⟩
  have hb : pu_bit (w 0 8) j = false := by
    rw [i1]
    rcases (show j = 0 ∨ j = 1 by omega) with rfl | rfl <;> decide
  rw [hb]
  refine ⟨?_, fun z => absurd z (by decide)⟩
  rcases (show j = 0 ∨ j = 1 by omega) with rfl | rfl
  · rw [i2]; rfl
  · rw [i3]; rfl
theorem mNet_set {w w' : ra_W} {n : Nat} {T : ra_W} (hn : n ≤ 7) (h : mNet (fun _ => w 137) n T) (e : ∀ i, i < 19 → w' 136 i = w 137 i) : mNet w' n T := by
  unfold mNet at h ⊢
  simp only [] at h
  refine ⟨by rw [e 0 (by omega)]; exact h.1, by rw [e 1 (by omega)]; exact h.2.1, by rw [e 2 (by omega)]; exact h.2.2.1, fun i hi => by rw [e (3 + i) (by omega)]; exact h.2.2.2.1 i hi, fun r hr => by rw [e (5 + r) (by omega)]; exact h.2.2.2.2.1 r hr, fun r hr => by rw [e (12 + r) (by omega)]; exact h.2.2.2.2.2 r hr⟩
theorem mSt_set {w w' : ra_W} {n : Nat} {T : ra_W} (hn : n ≤ 7) (h : mP w n T) (e : ∀ i, i < 41 → w' 139 i = w 138 i) : mSt w' 139 n (S0 T) ∧ w' 139 2 = 0 := by
  obtain ⟨h1, h2, h3, ⟨h4, h5⟩, h6, h7⟩ := h
  refine ⟨⟨fun r hr => by rw [e _ (by omega)]; exact h2 r hr, fun r hr => by rw [e _ (by omega)]; exact h7 _ (by omega) (by omega), fun r hr => by rw [e _ (by omega)]; exact h7 _ (by omega) (by omega), fun r hr => by rw [e _ (by omega)]; exact h7 _ (by omega) (by omega), fun r hr => by rw [e _ (by omega)]; exact h7 _ (by omega) (by omega), fun i hi => ?_, by rw [e _ (by omega)]; exact h6 3 (by omega) (by omega), by rw [e _ (by omega)]; exact h6 4 (by omega) (by omega), by rw [e _ (by omega)]; exact h6 5 (by omega) (by omega)⟩, by rw [e _ (by omega)]; exact h6 2 (by omega) (by omega)⟩
  rw [e _ (by omega)]
  rcases (show i = 0 ∨ i = 1 by omega) with rfl | rfl
  · exact h4
  · exact h5
theorem fz_8 {w w' : ra_W} (h : fr8 w w') : fz w w' := ⟨fun c a b _ _ _ _ _ _ _ _ _ => h.1 c a (by omega), h.2, by rw [h.1 134 (by decide) (by decide)], by rw [h.1 134 (by decide) (by decide)], by rw [h.1 134 (by decide) (by decide)]⟩
theorem fz_M {w w' : ra_W} (h : frM w w') : fz w w' := ⟨fun c _ _ _ _ a b d _ _ _ _ => h.1 c a b d, by rw [h.1 1 (by decide) (by decide) (by decide)], h.2 2 (by decide), h.2 15 (by decide), h.2 20 (by decide)⟩
/-- the model's net, up to its end -/
theorem m6_netgo {k L : Nat} {X : Nat → Int32} {w : ra_W} (hk : 1000 ≤ k) (hL : L ≤ 80) (hx : tx X L) (hm : mX X L w) : (match prs X L 81 0 0 T0 0 with
    | .inl f => ∃ w', FX6_net k w = some (-10 - nI f, w') ∧ fz w w'
    | .inr s => ∃ w1 w', FX6_net k w = some (nI s.1, w') ∧ mP w1 s.2.1 s.2.2 ∧ FX6_settles k w1 = some (0, w') ∧ fz w w1) := by
  obtain ⟨k, rfl⟩ : ∃ q, k = q + 1 := ⟨k - 1, by omega⟩
  generalize hu : ra_st (ra_st (ra_st w 134 0 0) 134 7 (-1)) 134 3 0 = u
  have u3 : u 134 3 = nI 0 := by rw [← hu, pu_st_eq]; rfl
  have u7 : u 134 7 = -1 := by rw [← hu]; simp [pu_st]
  have uc : ∀ c, c ≠ 134 → u c = w c := fun c a => by rw [← hu, pu_st_ne a, pu_st_ne a, pu_st_ne a]
  have ui : ∀ i, i ≠ 0 → i ≠ 3 → i ≠ 7 → u 134 i = w 134 i := fun i a b c => by rw [← hu]; simp [pu_st, a, b, c]
  obtain ⟨w2, g1, g2, g3, g4⟩ := m6_begins (k := k + 1) (w := u) (by omega)
  have fw2 : fz w w2 := ⟨fun c _ _ _ _ a b d _ _ _ _ => by rw [g3 c a b d, uc c a], by rw [g3 1 (by decide) (by decide) (by decide), uc 1 (by decide)], by rw [g4 2 (by decide), ui 2 (by decide) (by decide) (by decide)], by rw [g4 15 (by decide), ui 15 (by decide) (by decide) (by decide)], by rw [g4 20 (by decide), ui 20 (by decide) (by decide) (by decide)]⟩
  have hm2 : mX X L w2 := ⟨by rw [fw2.2.2.1]; exact hm.1, fun j hj => by rw [g3 135 (by decide) (by decide) (by decide), uc 135 (by decide)]; exact hm.2 j hj⟩
  obtain ⟨w5, p1, p2, p3⟩ := m6_advances (k := k + 1) (X := X) (p := 0) (by omega) hL hx (by omega) hm2.1 (by rw [g4 3 (by decide)]; exact u3) hm2.2
  have h7 : w5 134 7 = -1 := by rw [p3.2 7 (by decide) (by decide) (by decide) (by decide), g4 7 (by decide)]; exact u7
  have fw5 : fz w w5 := fz_tr fw2 (fz_M (frM_4 p3))
  have hl := m6_net_loop (k := k + 1) (X := X) (by omega) hL hx 81 0 0 0 T0 w5 k (by omega) (by omega) (by omega) vP_0 (mX_4 hm2 p3) p2 h7 (mP_4 g2 p3) (by omega)
  have e : FX6_net (k + 1) w = fX6_net (k + 1) k 1 0 0 w5 := by
    unfold FX6_net
    rw [fX6_net_0, hu, g1]
    simp only [ra_bind]
    rw [p1]
  cases hy : prs X L 81 0 0 T0 0 with
  | inl f =>
    rw [hy] at hl
    obtain ⟨w6, c1, c2⟩ := hl
    exact ⟨w6, e.trans c1, fz_tr fw5 (fz_M c2)⟩
  | inr s =>
    rw [hy] at hl
    obtain ⟨m', w6, c0, c1, c2, c3, c4⟩ := hl
    obtain ⟨m', rfl⟩ : ∃ q, m' = q + 1 := ⟨m' - 1, by omega⟩
    obtain ⟨w7, s1, s2⟩ := m6_settles (k := k + 1) (w := w6) (by omega)
    refine ⟨w6, w7, e.trans (c1.trans ?_), c3, s1, fz_tr fw5 (fz_M c4)⟩
    rw [fX6_net_6, (m6_well (by omega)).1 c2]
    simp only [ra_bind]
    rw [if_neg (by decide), s1]
theorem op_net {k : Nat} {w : ra_W} (hk : 1100 ≤ k) (h : Rel w) : op2 (FX5_net k) (FX6_net k) w := by
  obtain ⟨k, rfl⟩ : ∃ q, k = q + 1 := ⟨k - 1, by omega⟩
  obtain ⟨n, A, T, S, t, kn, H, Ht, hc, h1, h2, hX, hI, hZ⟩ := id h
  obtain ⟨L, l1, l2, l3, l4⟩ := hX
  have hin := q3_into (k := k + 1) (X := w 2) (w := w) (by omega) l1 l2 rfl
  have hx : tx (w 2) L := fun j hj => (l4 j hj).2
  have hpf := prs_f (X := w 2) l1 81 0 0 0 T0 (by omega) (by omega) (by omega)
  have mgo : ∀ u : ra_W, fz w u → mX (w 2) L u := fun u fu => ⟨by rw [fu.2.2.1]; exact l3, fun j hj => by rw [fz_e fu (by omega)]; exact (l4 j hj).1.symm⟩
  cases hy : prs (w 2) L 81 0 0 T0 0 with
  | inl f =>
    rw [hy] at hin
    obtain ⟨w1, g1, g2⟩ := hin
    have hf := hpf f hy
    have e1 : FX5_net (k + 1) w = some (-10 - nI f, w1) := by
      unfold FX5_net
      rw [fX5_net_0, g1]
      simp only [ra_bind]
      rw [if_neg (pu_neg f (by omega))]
    have hgo := m6_netgo (k := k + 1) (by omega) l1 hx (mgo w1 (fz_8 g2))
    rw [hy] at hgo
    obtain ⟨w2, c1, c2⟩ := hgo
    exact op_ask h e1 c1 (fz_8 g2) c2
  | inr s =>
    rw [hy] at hin
    obtain ⟨b1, b2, w1, g1, g2, g3⟩ := hin
    obtain ⟨i, n', T'⟩ := s
    have b1 : i ≤ 80 := b1
    have b2 : vP n' T' := b2
    have g2 : cP w1 n' T' := g2
    have hn' : n' ≤ 7 := b2.1
    obtain ⟨w6, q1, q2, q3, q4, q5⟩ := q2_copy (k := k + 1) (b0 := 3) (b1 := 8) (w := w1) (by omega) (by omega)
    have cn6 : cNet w6 3 n' T' := ⟨by rw [q2 0 (by omega)]; exact g2.1.1, by rw [q2 1 (by omega)]; exact g2.1.2.1, by rw [q2 2 (by omega)]; exact g2.1.2.2.1, fun i hi => by rw [q3 i hi]; exact g2.1.2.2.2.1 i hi, fun r hr => by rw [q4 3 r (by omega) (by omega) (by omega)]; exact g2.1.2.2.2.2.1 r hr, fun r hr => by rw [q4 4 r (by omega) (by omega) (by omega)]; exact g2.1.2.2.2.2.2 r hr⟩
    obtain ⟨w9, r1, r2, r3, r4⟩ := q4_begin (k := k + 1) (w := w6) (T := T') (by omega) hn' (fun r hr => by rw [show (5 : Nat) = 3 + 2 from rfl, q4 2 r (by omega) (by omega) (by omega)]; exact g2.2.1 r hr)
    have e1 : FX5_net (k + 1) w = some (nI i, ra_st (ra_st (ra_st (ra_st w9 1 0 0) 30 0 0) 0 11 0) 0 8 0) := by
      unfold FX5_net
      rw [fX5_net_0, g1]
      simp only [ra_bind]
      rw [if_pos (nI_pos' (show i < 2 ^ 31 by omega)), q1]
      simp only []
      rw [r1]
      simp only []
      unfold FX3_empty
      rw [fX3_empty_0]
      simp only []
      unfold FX1_lose
      rw [fX1_lose_0]
    generalize hwa : ra_st (ra_st (ra_st (ra_st w9 1 0 0) 30 0 0) 0 11 0) 0 8 0 = wa at e1
    have xa : ∀ c, c ≠ 0 → c ≠ 1 → c ≠ 30 → wa c = w9 c := fun c a b d => by rw [← hwa, pu_st_ne a, pu_st_ne a, pu_st_ne d, pu_st_ne b]
    have x133 : ∀ c, 133 < c → wa c = w c := fun c a => by rw [xa c (by omega) (by omega) (by omega), r4 c (by omega), q5 c (by omega), g3.1 c (by omega) (by omega)]
    have hma : mX (w 2) L wa := ⟨by rw [x133 134 (by omega)]; exact l3, fun j hj => by rw [x133 135 (by omega)]; exact (l4 j hj).1.symm⟩
    have hgo := m6_netgo (k := k + 1) (by omega) l1 hx hma
    rw [hy] at hgo
    obtain ⟨wb, wc, c1, c2, c3, c4⟩ := hgo
    obtain ⟨wc', s1, s2, s3, ⟨s4, s5, s6⟩, ⟨s7, s8⟩, s9⟩ := m6_settles (k := k + 1) (w := wb) (by omega)
    rw [s1] at c3
    cases c3
    have c2 : mP wb n' T' := c2
    have e2 : FX6_net (k + 1) wa = some (nI i, wc) := c1
    have xc : ∀ c, c ≠ 134 → c ≠ 136 → c ≠ 139 → c ≠ 143 → wc c = wb c := s9
    have xb : ∀ c, (c < 1 ∨ 1 < c) → (c < 8 ∨ 15 < c) → (c < 23 ∨ 29 < c) → c < 35 → wc c = wa c := fun c a b d e => by rw [xc c (by omega) (by omega) (by omega) (by omega), fz_e c4 (by omega)]
    refine ⟨_, _, _, e1, e2, Rel_new b2 (cNet_x cn6 (fun x a b => ?_)) (cSt_x r2 (fun x a b => ?_)) ?_ ?_ ?_ (mNet_set hn' c2.1 s2) (mSt_set hn' c2 s3).1 (mSt_set hn' c2 s3).2 s5 ?_ s4 ?_ s7 s8 ?_ s6⟩
    · rw [xb x (by omega) (by omega) (by omega) (by omega), xa x (by omega) (by omega) (by omega), r4 x (by omega)]
    · rw [xb x (by omega) (by omega) (by omega) (by omega), xa x (by omega) (by omega) (by omega)]
    · rw [xb 16 (by omega) (by omega) (by omega) (by omega), xa 16 (by omega) (by omega) (by omega)]
      exact r3
    · rw [xb 30 (by omega) (by omega) (by omega) (by omega), ← hwa]
      simp [pu_st]
    · obtain ⟨nx, n1, n2, n3, n4⟩ := h1.2.2.2
      refine ⟨nx, n1, ?_⟩
      rw [xb 30 (by omega) (by omega) (by omega) (by omega), ← hwa, pu_st_ne (by decide), pu_st_ne (by decide), pu_st, if_neg (by decide), pu_st_ne (by decide), r4 30 (by omega), q5 30 (by omega), g3.1 30 (by omega) (by omega)]
      exact n3
    · rw [xc 1 (by omega) (by omega) (by omega) (by omega), c4.2.1, ← hwa]
      simp [pu_st]
    · rw [xb 0 (by omega) (by omega) (by omega) (by omega), ← hwa, pu_st_eq]
    · rw [xb 0 (by omega) (by omega) (by omega) (by omega), ← hwa]
      simp [pu_st]
