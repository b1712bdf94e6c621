/-! A NEW NET -/
theorem Rel_new {w : ra_W} {n : Nat} {T : ra_W} (hv : vP n T) (c1 : cNet w 3 n T) (c2 : cSt w 16 n (S0 T)) (c3 : w 16 6 = 0) (c4 : w 30 0 = 0) (c5 : ∃ nx, nx < 12 ∧ w 30 2 = nI nx) (d1 : mNet w n T) (d2 : mSt w 139 n (S0 T)) (d3 : w 139 2 = 0) (d4 : w 134 15 = 0) (t1 : w 1 0 = 0) (t2 : w 134 2 = 0) (i1 : w 0 8 = 0) (i2 : w 143 0 = 0) (i3 : w 143 1 = 0) (z1 : w 0 11 = 0) (z2 : w 134 20 = 0) : Rel w := by
  obtain ⟨v1, ⟨A, a1, a2, a3⟩, v3, v4, v5⟩ := id hv
  obtain ⟨nx, n1, n2⟩ := c5
  refine ⟨n, A, T, S0 T, 0, 0, fun _ => S0 T, fun _ => 0, ⟨iv_0 v1 a1 a2 a3 v3 v4, by omega, by omega, fun j hj => absurd hj (by omega)⟩, ⟨c1, c2, c3, ⟨nx, n1, c4, n2, fun j hj => absurd hj (by omega)⟩⟩, ⟨d1, d2, d3, ⟨d4, fun j hj => absurd hj (by omega)⟩⟩, ⟨0, by omega, t1, t2, fun j hj => absurd hj (by omega)⟩, ⟨by rw [i1]; exact Or.inl rfl, fun j hj => ?_⟩, ⟨0, by omega, z1, z2, fun j hj => absurd hj (by omega)⟩⟩
  have hb : pu_bit (w 0 8) j = false := by
    rw [i1]
    rcases (show j = 0 ∨ j = 1 by omega) with rfl | rfl <;> decide
  rw [hb]
  refine ⟨?_, fun z => absurd z (by decide)⟩
  rcases (show j = 0 ∨ j = 1 by omega) with rfl | rfl
  · rw [i2]; rfl
  · rw [i3]; rfl
theorem mNet_set {w w' : ra_W} {n : Nat} {T : ra_W} (hn : n ≤ 7) (h : mNet (fun _ => w 137) n T) (e : ∀ i, i < 19 → w' 136 i = w 137 i) : mNet w' n T := by
  unfold mNet at h ⊢
  simp only [] at h
  refine ⟨by rw [e 0 (by omega)]; exact h.1, by rw [e 1 (by omega)]; exact h.2.1, by rw [e 2 (by omega)]; exact h.2.2.1, fun i hi => by rw [e (3 + i) (by omega)]; exact h.2.2.2.1 i hi, fun r hr => by rw [e (5 + r) (by omega)]; exact h.2.2.2.2.1 r hr, fun r hr => by rw [e (12 + r) (by omega)]; exact h.2.2.2.2.2 r hr⟩
theorem mSt_set {w w' : ra_W} {n : Nat} {T : ra_W} (hn : n ≤ 7) (h : mP w n T) (e : ∀ i, i < 41 → w' 139 i = w 138 i) : mSt w' 139 n (S0 T) ∧ w' 139 2 = 0 := by
  obtain ⟨h1, h2, h3, ⟨h4, h5⟩, h6, h7⟩ := h
  refine ⟨⟨fun r hr => by rw [e _ (by omega)]; exact h2 r hr, fun r hr => by rw [e _ (by omega)]; exact h7 _ (by omega) (by omega), fun r hr => by rw [e _ (by omega)]; exact h7 _ (by omega) (by omega), fun r hr => by rw [e _ (by omega)]; exact h7 _ (by omega) (by omega), fun r hr => by rw [e _ (by omega)]; exact h7 _ (by omega) (by omega), fun i hi => ?_, by rw [e _ (by omega)]; exact h6 3 (by omega) (by omega), by rw [e _ (by omega)]; exact h6 4 (by omega) (by omega), by rw [e _ (by omega)]; exact h6 5 (by omega) (by omega)⟩, by rw [e _ (by omega)]; exact h6 2 (by omega) (by omega)⟩
  rw [e _ (by omega)]
  rcases (show i = 0 ∨ i = 1 by omega) with rfl | rfl
  · exact h4
  · exact h5
theorem fz_8 {w w' : ra_W} (h : fr8 w w') : fz w w' := ⟨fun c a b _ _ _ _ _ _ _ _ _ => h.1 c a (by omega), h.2, by rw [h.1 134 (by decide) (by decide)], by rw [h.1 134 (by decide) (by decide)], by rw [h.1 134 (by decide) (by decide)]⟩
theorem fz_M {w w' : ra_W} (h : frM w w') : fz w w' := ⟨fun c _ _ _ _ a b d _ _ _ _ => h.1 c a b d, by rw [h.1 1 (by decide) (by decide) (by decide)], h.2 2 (by decide), h.2 15 (by decide), h.2 20 (by decide)⟩
/-- the model's net, up to its end -/
theorem m6_netgo {k L : Nat} {X : Nat → Int32} {w : ra_W} (hk : 1000 ≤ k) (hL : L ≤ 80) (hx : tx X L) (hm : mX X L w) : (match prs X L 81 0 0 T0 0 with
    | .inl f => ∃ w', FX6_net k w = some (-10 - nI f, w') ∧ fz w w'
    | .inr s => ∃ w1 w', FX6_net k w = some (nI s.1, w') ∧ mP w1 s.2.1 s.2.2 ∧ FX6_settles k w1 = some (0, w') ∧ fz w w1) := by
  obtain ⟨k, rfl⟩ : ∃ q, k = q + 1 := ⟨k - 1, by omega⟩
  generalize hu : ra_st (ra_st (ra_st w 134 0 0) 134 7 (-1)) 134 3 0 = u
  have u3 : u 134 3 = nI 0 := by rw [← hu, pu_st_eq]; rfl
  have u7 : u 134 7 = -1 := by rw [← hu]; simp [pu_st]
  have uc : ∀ c, c ≠ 134 → u c = w c := fun c a => by rw [← hu, pu_st_ne a, pu_st_ne a, pu_st_ne a]
  have ui : ∀ i, i ≠ 0 → i ≠ 3 → i ≠ 7 → u 134 i = w 134 i := fun i a b c => by rw [← hu]; simp [pu_st, a, b, c]
  obtain ⟨w2, g1, g2, g3, g4⟩ := m6_begins (k := k + 1) (w := u) (by omega)
  have fw2 : fz w w2 := ⟨fun c _ _ _ _ a b d _ _ _ _ => by rw [g3 c a b d, uc c a], by rw [g3 1 (by decide) (by decide) (by decide), uc 1 (by decide)], by rw [g4 2 (by decide), ui 2 (by decide) (by decide) (by decide)], by rw [g4 15 (by decide), ui 15 (by decide) (by decide) (by decide)], by rw [g4 20 (by decide), ui 20 (by decide) (by decide) (by decide)]⟩
  have hm2 : mX X L w2 := ⟨by rw [fw2.2.2.1]; exact hm.1, fun j hj => by rw [g3 135 (by decide) (by decide) (by decide), uc 135 (by decide)]; exact hm.2 j hj⟩
  obtain ⟨w5, p1, p2, p3⟩ := m6_advances (k := k + 1) (X := X) (p := 0) (by omega) hL hx (by omega) hm2.1 (by rw [g4 3 (by decide)]; exact u3) hm2.2
  have h7 : w5 134 7 = -1 := by rw [p3.2 7 (by decide) (by decide) (by decide) (by decide), g4 7 (by decide)]; exact u7
  have fw5 : fz w w5 := fz_tr fw2 (fz_M (frM_4 p3))
  have hl := m6_net_loop (k := k + 1) (X := X) (by omega) hL hx 81 0 0 0 T0 w5 k (by omega) (by omega) (by omega) vP_0 (mX_4 hm2 p3) p2 h7 (mP_4 g2 p3) (by omega)
  have e : FX6_net (k + 1) w = fX6_net (k + 1) k 1 0 0 w5 := by
    unfold FX6_net
    rw [fX6_net_0, hu, g1]
    simp only [ra_bind]
    rw [p1]
  cases hy : prs X L 81 0 0 T0 0 with
  | inl f =>
    rw [hy] at hl
    obtain ⟨w6, c1, c2⟩ := hl
    exact ⟨w6, e.trans c1, fz_tr fw5 (fz_M c2)⟩
  | inr s =>
    rw [hy] at hl
    obtain ⟨m', w6, c0, c1, c2, c3, c4⟩ := hl
    obtain ⟨m', rfl⟩ : ∃ q, m' = q + 1 := ⟨m' - 1, by omega⟩
    obtain ⟨w7, s1, s2⟩ := m6_settles (k := k + 1) (w := w6) (by omega)
    refine ⟨w6, w7, e.trans (c1.trans ?_), c3, s1, fz_tr fw5 (fz_M c4)⟩
    rw [fX6_net_6, (m6_well (by omega)).1 c2]
    simp only [ra_bind]
    rw [if_neg (by decide), s1]
/-- the class's side of a new net that is well told -/
theorem q5_net_e {k i n' : Nat} {w w1 w6 w9 : ra_W} (hi : i ≤ 80) (g1 : FX3_readInto (k + 1) 8 w = some (nI i, w1)) (q1 : FX2_copy (k + 1) 3 8 w1 = some (0, w6)) (r1 : FX4_begin (k + 1) 16 3 w6 = some (0, w9)) : FX5_net (k + 1) w = some (nI i, ra_st (ra_st (ra_st (ra_st w9 1 0 0) 30 0 0) 0 11 0) 0 8 0) := by
  unfold FX5_net
  rw [fX5_net_0, g1]
  simp only [ra_bind]
  rw [if_pos (nI_pos' (show i < 2 ^ 31 by omega)), q1]
  simp only []
  rw [r1]
  simp only []
  unfold FX3_empty
  rw [fX3_empty_0]
  simp only []
  unfold FX1_lose
  rw [fX1_lose_0]
theorem q5_net_r {k : Nat} {r : Int32} {w w1 : ra_W} (hr : ¬ 0 ≤ r) (g1 : FX3_readInto (k + 1) 8 w = some (r, w1)) : FX5_net (k + 1) w = some (r, w1) := by
  unfold FX5_net
  rw [fX5_net_0, g1]
  simp only [ra_bind]
  rw [if_neg hr]
theorem q5_net_n {k f : Nat} {w w1 : ra_W} (hf : f ≤ 80) (g1 : FX3_readInto (k + 1) 8 w = some (-10 - nI f, w1)) : FX5_net (k + 1) w = some (-10 - nI f, w1) := q5_net_r (pu_neg f hf) g1
theorem q5_net {k n' i : Nat} {w w1 T' : ra_W} (hk : 1000 ≤ k) (hi : i ≤ 80) (hn' : n' ≤ 7) (g1 : FX3_readInto (k + 1) 8 w = some (nI i, w1)) (g2 : cP w1 n' T') (g3 : fr8 w w1) : ∃ wa, FX5_net (k + 1) w = some (nI i, wa) ∧ cNet wa 3 n' T' ∧ cSt wa 16 n' (S0 T') ∧ wa 16 6 = 0 ∧ wa 30 0 = 0 ∧ wa 30 2 = w 30 2 ∧ wa 1 0 = 0 ∧ wa 0 8 = 0 ∧ wa 0 11 = 0 ∧ (∀ c, 133 < c → wa c = w c) := by
  obtain ⟨w6, q1, q2, q3, q4, q5⟩ := q2_copy (k := k + 1) (b0 := 3) (b1 := 8) (w := w1) (by omega) (by omega)
  have cn6 : cNet w6 3 n' T' := ⟨by rw [q2 0 (by omega)]; exact g2.1.1, by rw [q2 1 (by omega)]; exact g2.1.2.1, by rw [q2 2 (by omega)]; exact g2.1.2.2.1, fun i hi => by rw [q3 i hi]; exact g2.1.2.2.2.1 i hi, fun r hr => by rw [q4 3 r (by omega) (by omega) (by omega)]; exact g2.1.2.2.2.2.1 r hr, fun r hr => by rw [q4 4 r (by omega) (by omega) (by omega)]; exact g2.1.2.2.2.2.2 r hr⟩
  obtain ⟨w9, r1, r2, r3, r4⟩ := q4_begin (k := k + 1) (w := w6) (T := T') (by omega) hn' (fun r hr => (q4 2 r (by omega) (by omega) (by omega)).trans (g2.2.1 r hr))
  have e1 := q5_net_e (n' := n') hi g1 q1 r1
  generalize hwa : ra_st (ra_st (ra_st (ra_st w9 1 0 0) 30 0 0) 0 11 0) 0 8 0 = wa at e1
  have xa : ∀ c, c ≠ 0 → c ≠ 1 → c ≠ 30 → wa c = w9 c := fun c a b d => by rw [← hwa, pu_st_ne a, pu_st_ne a, pu_st_ne d, pu_st_ne b]
  refine ⟨wa, e1, cNet_x cn6 (fun x a b => ?_), cSt_x r2 (fun x a b => ?_), ?_, ?_, ?_, ?_, ?_, ?_, fun c a => ?_⟩
  · rw [xa x (by omega) (by omega) (by omega), r4 x (by omega)]
  · rw [xa x (by omega) (by omega) (by omega)]
  · rw [xa 16 (by omega) (by omega) (by omega)]
    exact r3
  · rw [← hwa]
    simp [pu_st]
  · rw [← hwa, pu_st_ne (by decide), pu_st_ne (by decide), pu_st, if_neg (by decide), pu_st_ne (by decide), r4 30 (by omega), q5 30 (by omega), g3.1 30 (by omega) (by omega)]
  · rw [← hwa]
    simp [pu_st]
  · rw [← hwa, pu_st_eq]
  · rw [← hwa]
    simp [pu_st]
  · rw [xa c (by omega) (by omega) (by omega), r4 c (by omega), q5 c (by omega), g3.1 c (by omega) (by omega)]
theorem op_net_f {k L f : Nat} {w : ra_W} (hk : 1000 ≤ k) (h : Rel w) (l1 : L ≤ 80) (l2 : w 1 0 = nI L) (hx : tx (w 2) L) (mgo : ∀ u : ra_W, fz w u → mX (w 2) L u) (hf : f ≤ 80) (hin : ∃ w1, FX3_readInto (k + 1) 8 w = some (-10 - nI f, w1) ∧ fr8 w w1) (hgo : ∀ w1, mX (w 2) L w1 → ∃ w', FX6_net (k + 1) w1 = some (-10 - nI f, w') ∧ fz w1 w') : op2 (FX5_net (k + 1)) (FX6_net (k + 1)) w := by
  obtain ⟨w1, g1, g2⟩ := hin
  obtain ⟨w2, c1, c2⟩ := hgo w1 (mgo w1 (fz_8 g2))
  exact op_ask h (q5_net_n hf g1) c1 (fz_8 g2) c2
theorem op_net_t {k L i n' : Nat} {w T' : ra_W} (hk : 1000 ≤ k) (h : Rel w) (mgo : ∀ u : ra_W, (∀ c, 133 < c → u c = w c) → mX (w 2) L u) (hi : i ≤ 80) (b2 : vP n' T') (hin : ∃ w1, FX3_readInto (k + 1) 8 w = some (nI i, w1) ∧ cP w1 n' T' ∧ fr8 w w1) (hgo : ∀ w0, mX (w 2) L w0 → ∃ w1 w', FX6_net (k + 1) w0 = some (nI i, w') ∧ mP w1 n' T' ∧ FX6_settles (k + 1) w1 = some (0, w') ∧ fz w0 w1) : op2 (FX5_net (k + 1)) (FX6_net (k + 1)) w := by
  obtain ⟨n, A, T, S, t, kn, H, Ht, hc, h1, h2, hX, hI, hZ⟩ := h
  obtain ⟨w1, g1, g2, g3⟩ := hin
  have hn' : n' ≤ 7 := b2.1
  obtain ⟨wa, e1, a1, a2, a3, a4, a5, a6, a7, a8, a9⟩ := q5_net hk hi hn' g1 g2 g3
  obtain ⟨wb, wc, c1, c2, c3, c4⟩ := hgo wa (mgo wa a9)
  obtain ⟨wd, s1, s2, s3, ⟨s4, s5, s6⟩, ⟨s7, s8⟩, s9⟩ := m6_settles (k := k + 1) (w := wb) (by omega)
  have hcd : wd = wc := by
    have := s1.symm.trans c3
    exact (Prod.mk.inj (Option.some.inj this)).2
  subst hcd
  have xb : ∀ c, (c < 1 ∨ 1 < c) → (c < 8 ∨ 15 < c) → (c < 23 ∨ 29 < c) → c < 35 → wd c = wa c := fun c a b d e => by rw [s9 c (by omega) (by omega) (by omega) (by omega), fz_e c4 (by omega)]
  refine ⟨_, _, _, e1, c1, Rel_new b2 (cNet_x a1 (fun x a b => xb x (by omega) (by omega) (by omega) (by omega))) (cSt_x a2 (fun x a b => xb x (by omega) (by omega) (by omega) (by omega))) ?_ ?_ ?_ (mNet_set hn' c2.1 s2) (mSt_set hn' c2 s3).1 (mSt_set hn' c2 s3).2 s5 ?_ s4 ?_ s7 s8 ?_ s6⟩
  · rw [xb 16 (by omega) (by omega) (by omega) (by omega)]
    exact a3
  · rw [xb 30 (by omega) (by omega) (by omega) (by omega)]
    exact a4
  · obtain ⟨nx, n1, n2, n3, n4⟩ := h1.2.2.2
    refine ⟨nx, n1, ?_⟩
    rw [xb 30 (by omega) (by omega) (by omega) (by omega), a5]
    exact n3
  · rw [s9 1 (by omega) (by omega) (by omega) (by omega), c4.2.1]
    exact a6
  · rw [xb 0 (by omega) (by omega) (by omega) (by omega)]
    exact a7
  · rw [xb 0 (by omega) (by omega) (by omega) (by omega)]
    exact a8
theorem op_net {k : Nat} {w : ra_W} (hk : 1100 ≤ k) (h : Rel w) : op2 (FX5_net k) (FX6_net k) w := by
  obtain ⟨k, rfl⟩ : ∃ q, k = q + 1 := ⟨k - 1, by omega⟩
  obtain ⟨n, A, T, S, t, kn, H, Ht, hc, h1, h2, hX, hI, hZ⟩ := id h
  obtain ⟨L, l1, l2, l3, l4⟩ := hX
  have hin := q3_into (k := k + 1) (X := w 2) (w := w) (by omega) l1 l2 rfl
  have hx : tx (w 2) L := fun j hj => (l4 j hj).2
  have hpf := prs_f (X := w 2) l1 81 0 0 0 T0 (by omega) (by omega) (by omega)
  have hgo := fun (u : ra_W) (hm : mX (w 2) L u) => m6_netgo (k := k + 1) (by omega) l1 hx hm
  generalize prs (w 2) L 81 0 0 T0 0 = y at hin hpf hgo
  cases y with
  | inl f => exact op_net_f (by omega) h l1 l2 hx (fun u fu => ⟨by rw [fu.2.2.1]; exact l3, fun j hj => by rw [fz_e fu (by omega)]; exact (l4 j hj).1.symm⟩) (Nat.le_trans (hpf f rfl) l1) hin hgo
  | inr s => exact op_net_t (by omega) h (fun u fu => ⟨by rw [fu 134 (by omega)]; exact l3, fun j hj => by rw [fu 135 (by omega)]; exact (l4 j hj).1.symm⟩) hin.1 hin.2.1 hin.2.2 hgo
