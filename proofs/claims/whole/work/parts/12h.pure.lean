/-! QUESTIONS -/
theorem op_ask {f g : ra_W → Option (Int32 × ra_W)} {w w1 w2 : ra_W} {r : Int32} (h : Rel w) (h1 : f w = some (r, w1)) (h2 : g w1 = some (r, w2)) (f1 : fz w w1) (f2 : fz w1 w2) : op2 f g w := ⟨r, w1, w2, h1, h2, Rel_fz h (fz_tr f1 f2)⟩
theorem fz_14 {w w' : ra_W} (h : ∀ x, x ≠ 14 → w' x = w x) : fz w w' := ⟨fun c _ a _ _ _ _ _ _ _ _ _ => h c (by omega), by rw [h 1 (by decide)], by rw [h 134 (by decide)], by rw [h 134 (by decide)], by rw [h 134 (by decide)]⟩
theorem fz_lines {w w' : ra_W} (h : ∀ x, x ≠ 146 → x ≠ 134 → w' x = w x) (h2 : ∀ i, i ≠ 22 → w' 134 i = w 134 i) : fz w w' := ⟨fun c _ _ _ _ a _ _ _ b _ _ => h c b a, by rw [h 1 (by decide) (by decide)], h2 2 (by decide), h2 15 (by decide), h2 20 (by decide)⟩
theorem pu_lts {i : Nat} {v : Int32} (hv : v = nI i) : v = nI i := hv
theorem op_radio {k : Nat} {w : ra_W} (v u : Int32) (hk : 10 ≤ k) (h : Rel w) : op2 (FX5_radio k v u) (FX6_radio k v u) w := by
  obtain ⟨k, rfl⟩ : ∃ q, k = q + 1 := ⟨k - 1, by omega⟩
  obtain ⟨n, A, T, S, t, kn, H, Ht, hc, h1, h2, hX, hI, hZ⟩ := id h
  have hn : n ≤ 7 := hc.1.1.2.2.2
  have h20 := mC_0 h2
  rcases q2_has (v := v) (k := k + 1) (by omega) h1.1 hn with ⟨r, hr, rfl, e⟩ | ⟨hno, e⟩
  · have i1 := (m6_isRadio (v := nI r) (k := k + 1) (by omega) h20.1 hn).1 r hr rfl
    have c0 : FX5_radio (k + 1) (nI r) u w = if u = 0 then some (S 0 r, w) else if u = 1 then some (T 2 r, w) else if u = 2 then some (T 3 r, w) else if u = 3 then some (S 1 r, w) else if u = 4 then some (S 2 r, w) else if u = 5 then some (S 3 r, w) else if u = 6 then some (S 4 r, w) else some (-1, w) := by
      unfold FX5_radio
      rw [fX5_radio_0, e]
      simp only [ra_bind]
      rw [if_neg (by decide), pu_ix (by omega), if_pos (pu_in (by omega) (by decide)), if_pos (pu_in (by omega) (by decide)), if_pos (pu_in (by omega) (by decide)), if_pos (pu_in (by omega) (by decide)), if_pos (pu_in (by omega) (by decide)), if_pos (pu_in (by omega) (by decide)), if_pos (pu_in (by omega) (by decide)), h1.2.1.1 r hr, h1.2.1.2.1 r hr, h1.2.1.2.2.1 r hr, h1.2.1.2.2.2.1 r hr, h1.2.1.2.2.2.2.1 r hr, h1.1.2.2.2.2.1 r hr, h1.1.2.2.2.2.2 r hr]
    rcases pu_rng u 0 6 (by decide) (by decide) with ⟨y, -, hy, rfl⟩ | hb2
    · have i2 : ∀ x : ra_W, FX6_in (k + 1) (nI y) 0 6 x = some (1, x) := fun x => m6_in1 (lo := 0) (hi := 6) (by omega) (by omega) hy (by decide)
      have m0 : FX6_radio (k + 1) (nI r) (nI y) w = if 3 ≤ nI y then (if nI y = 3 then some (S 1 r, ra_st w 134 0 0) else if nI y = 4 then some (S 2 r, ra_st w 134 0 0) else if nI y = 5 then some (S 3 r, ra_st w 134 0 0) else some (S 4 r, ra_st w 134 0 0)) else (if nI y = 0 then some (S 0 r, ra_st w 134 0 0) else if nI y = 1 then some (T 2 r, ra_st w 134 0 0) else some (T 3 r, ra_st w 134 0 0)) := by
        unfold FX6_radio
        rw [fX6_radio_0, i1]
        simp only [ra_bind]
        rw [if_neg (by decide), i2]
        simp only []
        rw [if_neg (by decide), pl_13, pl_20, pl_27, pl_34, pl_6, pl_5, pl_12, if_pos (pu_in (by omega) (by decide)), if_pos (pu_in (by omega) (by decide)), if_pos (pu_in (by omega) (by decide)), if_pos (pu_in (by omega) (by decide)), if_pos (pu_in (by omega) (by decide)), if_pos (pu_in (by omega) (by decide)), if_pos (pu_in (by omega) (by decide)), pu_ix (by omega), pu_ix (by omega), pu_ix (by omega), pu_ix (by omega), pu_ix (by omega), pu_ix (by omega), pu_ix (by omega), h20.2.1.1 r hr, h20.2.1.2.1 r hr, h20.2.1.2.2.1 r hr, h20.2.1.2.2.2.1 r hr, h20.2.1.2.2.2.2.1 r hr, h20.1.2.2.2.2.1 r hr, h20.1.2.2.2.2.2 r hr]
      rcases (show y = 0 ∨ y = 1 ∨ y = 2 ∨ y = 3 ∨ y = 4 ∨ y = 5 ∨ y = 6 by omega) with rfl | rfl | rfl | rfl | rfl | rfl | rfl
      · exact op_bad h c0 m0
      · exact op_bad h c0 m0
      · exact op_bad h c0 m0
      · exact op_bad h c0 m0
      · exact op_bad h c0 m0
      · exact op_bad h c0 m0
      · exact op_bad h c0 m0
    · replace hb2 : u < (0 : Int32) ∨ (6 : Int32) < u := hb2
      refine op_bad (r := -1) h ?_ ?_
      · have hne : ∀ j : Int32, (0 ≤ j ∧ j ≤ 6) → ¬ u = j := fun j hj e => by
          rw [e] at hb2
          rcases hb2 with z | z
          · exact absurd hj.1 (Int32.not_le.mpr z)
          · exact absurd hj.2 (Int32.not_le.mpr z)
        rw [c0, if_neg (hne 0 (by decide)), if_neg (hne 1 (by decide)), if_neg (hne 2 (by decide)), if_neg (hne 3 (by decide)), if_neg (hne 4 (by decide)), if_neg (hne 5 (by decide)), if_neg (hne 6 (by decide))]
      · unfold FX6_radio
        rw [fX6_radio_0, i1]
        simp only [ra_bind]
        rw [if_neg (by decide), m6_in0 (by omega) hb2]
        rfl
  · refine op_bad (r := -1) h ?_ ?_
    · unfold FX5_radio
      rw [fX5_radio_0, e]
      rfl
    · unfold FX6_radio
      rw [fX6_radio_0, (m6_isRadio (k := k + 1) (by omega) h20.1 hn).2 hno]
      rfl
theorem op_site {k : Nat} {w : ra_W} (v u : Int32) (hk : 50 ≤ k) (h : Rel w) : op2 (FX5_site k v u) (FX6_site k v u) w := by
  obtain ⟨k, rfl⟩ : ∃ q, k = q + 1 := ⟨k - 1, by omega⟩
  obtain ⟨n, A, T, S, t, kn, H, Ht, hc, h1, h2, hX, hI, hZ⟩ := id h
  have hn : n ≤ 7 := hc.1.1.2.2.2
  have h20 := mC_0 h2
  rcases pu_rng v 0 1 (by decide) (by decide) with ⟨i, -, hi, rfl⟩ | hb
  · have hi2 : i < 2 := by omega
    have i1 : ∀ x : ra_W, FX6_in (k + 1) (nI i) 0 1 x = some (1, x) := fun x => m6_in1 (lo := 0) (hi := 1) (by omega) (by omega) hi (by decide)
    have c0 : FX5_site (k + 1) (nI i) u w = if u = 0 then some (T 1 i, w) else if u = 1 then some (sp_fr n T S i, w) else if u = 2 then some (if S 5 i = -1 then 1 else 0, w) else if u = 3 then some (if S 5 i = -1 then 0 else S 5 i, w) else some (-1, w) := by
      unfold FX5_site
      rw [fX5_site_0, (q5_isSite (by omega)).1 i hi2 rfl]
      simp only [ra_bind]
      rw [if_neg (by decide), pu_ix (by omega), if_pos (pu_in hi2 (by decide)), q4_free (by omega) hi2 (iv_hq hc.1) h1.1 h1.2.1 hn, q4_hasControl (by omega) h1.2.1 hi2, h1.1.2.2.2.1 i hi2]
      simp only []
      rw [if_pos (pu_in hi2 (by decide)), h1.2.1.2.2.2.2.2.1 i hi2]
      by_cases z : S 5 i = -1
      · simp [z]
      · simp [z]
    rcases pu_rng u 0 3 (by decide) (by decide) with ⟨y, -, hy, rfl⟩ | hb2
    · have i2 : ∀ x : ra_W, FX6_in (k + 1) (nI y) 0 3 x = some (1, x) := fun x => m6_in1 (lo := 0) (hi := 3) (by omega) (by omega) hy (by decide)
      have m0 : FX6_site (k + 1) (nI i) (nI y) w = if nI y = 0 then some (T 1 i, ra_st w 134 0 0) else if nI y = 1 then some (sp_fr n T S i, ra_st w 134 0 0) else if nI y = 2 then some (if S 5 i = -1 then 1 else 0, ra_st w 134 0 0) else some (if S 5 i = -1 then 0 else S 5 i, ra_st w 134 0 0) := by
        unfold FX6_site
        rw [fX6_site_0, i1]
        simp only [ra_bind]
        rw [if_neg (by decide), i2]
        simp only []
        rw [if_neg (by decide), pl_0, pl_3, if_pos (pu_in (by omega) (by decide)), if_pos (pu_in (by omega) (by decide)), pu_ix (by omega), pu_ix (by omega), m6_free (by omega) hi2 (iv_hq hc.1) h20.1 h20.2.1 hn, h20.1.2.2.2.1 i hi2, h20.2.1.2.2.2.2.2.1 i hi2]
        simp only []
        rcases hc.1.2.2.2.2 i hi2 with z | ⟨d, hd, z⟩
        · simp only [if_pos z]
          rw [z, if_neg (show ¬ (0 : Int32) ≤ -1 by decide), if_neg (show ¬ (0 : Int32) ≤ -1 by decide)]
        · have hne : ¬ S 5 i = -1 := by rw [z]; exact pu_nm1 (by omega)
          simp only [if_neg hne]
          rw [z, if_pos (nI_pos' (by omega)), if_pos (nI_pos' (by omega))]
      rcases (show y = 0 ∨ y = 1 ∨ y = 2 ∨ y = 3 by omega) with rfl | rfl | rfl | rfl
      · exact op_bad h c0 m0
      · exact op_bad h c0 m0
      · exact op_bad h c0 m0
      · exact op_bad h c0 m0
    · replace hb2 : u < (0 : Int32) ∨ (3 : Int32) < u := hb2
      refine op_bad (r := -1) h ?_ ?_
      · have hne : ∀ j : Int32, (0 ≤ j ∧ j ≤ 3) → ¬ u = j := fun j hj e => by
          rw [e] at hb2
          rcases hb2 with z | z
          · exact absurd hj.1 (Int32.not_le.mpr z)
          · exact absurd hj.2 (Int32.not_le.mpr z)
        rw [c0, if_neg (hne 0 (by decide)), if_neg (hne 1 (by decide)), if_neg (hne 2 (by decide)), if_neg (hne 3 (by decide))]
      · unfold FX6_site
        rw [fX6_site_0, i1]
        simp only [ra_bind]
        rw [if_neg (by decide), m6_in0 (by omega) hb2]
        rfl
  · replace hb : v < (0 : Int32) ∨ (1 : Int32) < v := hb
    refine op_bad (r := -1) h ?_ ?_
    · unfold FX5_site
      rw [fX5_site_0, (q5_isSite (by omega)).2 hb]
      rfl
    · unfold FX6_site
      rw [fX6_site_0, m6_in0 (by omega) hb]
      rfl
theorem op_talker {k : Nat} {w : ra_W} (v : Int32) (hk : 50 ≤ k) (h : Rel w) : op2 (FX5_talker k v) (FX6_talker k v) w := by
  obtain ⟨k, rfl⟩ : ∃ q, k = q + 1 := ⟨k - 1, by omega⟩
  obtain ⟨n, A, T, S, t, kn, H, Ht, hc, h1, h2, hX, hI, hZ⟩ := id h
  have hn : n ≤ 7 := hc.1.1.2.2.2
  have h20 := mC_0 h2
  rcases pu_rng v 0 5 (by decide) (by decide) with ⟨i, -, hi, rfl⟩ | hb
  · have i1 : ∀ x : ra_W, FX6_in (k + 1) (nI i) 0 5 x = some (1, x) := fun x => m6_in1 (lo := 0) (hi := 5) (by omega) (by omega) hi (by decide)
    refine op_bad (r := pu_enc (pu_lst (sp_talk T S (nI i)) n)) h ?_ ?_
    · unfold FX5_talker
      rw [fX5_talker_0, if_neg (nI_pos (by omega)), if_pos (show nI i < 6 from nI_lt (b := 6) (by omega) (by decide)), q4_talkerOf _ (by omega) h1.1 h1.2.1 hn]
      rfl
    · unfold FX6_talker
      rw [fX6_talker_0, i1]
      simp only [ra_bind]
      rw [if_neg (by decide), m6_talkerOf _ (by omega) h20.1 h20.2.1 hc.1.2.2.1 hn]
  · replace hb : v < (0 : Int32) ∨ (5 : Int32) < v := hb
    refine op_bad (r := -1) h ?_ ?_
    · unfold FX5_talker
      rw [fX5_talker_0]
      by_cases z0 : v < 0
      · rw [if_pos z0]
      · rw [if_neg z0, if_neg]
        obtain ⟨j, hj, rfl⟩ := nI_of z0
        have h1 : (5 : Int32) < nI j := by rcases hb with z | z; exact absurd z z0; exact z
        have : 5 < j := (nI_ltI (a := 5) (by decide) hj).mp h1
        exact nI_nlt (b := 6) (by omega) hj
    · unfold FX6_talker
      rw [fX6_talker_0, m6_in0 (by omega) hb]
      rfl
theorem op_queue {k : Nat} {w : ra_W} (v : Int32) (hk : 150 ≤ k) (h : Rel w) : op2 (FX5_queue k v) (FX6_queue k v) w := by
  obtain ⟨k, rfl⟩ : ∃ q, k = q + 1 := ⟨k - 1, by omega⟩
  obtain ⟨n, A, T, S, t, kn, H, Ht, hc, h1, h2, hX, hI, hZ⟩ := id h
  have hn : n ≤ 7 := hc.1.1.2.2.2
  have hle := sp_line_le T S n
  by_cases h0 : v < 0
  · have hn0 : ¬ 0 ≤ v := Int32.not_le.mpr h0
    refine op_bad (r := -1) h ?_ ?_
    · unfold FX5_queue
      rw [fX5_queue_0, if_neg hn0]
    · unfold FX6_queue
      rw [fX6_queue_0, if_neg hn0]
  · obtain ⟨j, hj, rfl⟩ := nI_of h0
    obtain ⟨w1, g1, g2, g3⟩ := q0_lineUp (k := k + 1) (by omega) hn (by omega) (by omega) (by omega) h1.1 h1.2.1
    have f1 := fz_14 g3
    have h2c := mC_0 (mC_fz h2 f1)
    obtain ⟨w2, p1, p2, p3, p4, p5⟩ := m6_lines (k := k + 1) (by omega) hn (Or.inl rfl) h2c.1 h2c.2.1
    have f2 := fz_tr (fz_0 w1 0) (fz_lines p4 p5)
    have e1 : FX5_queue (k + 1) (nI j) w = some (if j < (sp_line T S n).2 then nI ((sp_line T S n).1 j) else -9, w1) := by
      unfold FX5_queue
      rw [fX5_queue_0, if_pos (nI_pos' hj), g1]
      simp only [ra_bind]
      by_cases hq : j < (sp_line T S n).2
      · rw [if_neg (nI_ge hq (by omega)), if_neg (pu_ge7 (by omega)), if_pos (pu_in (by omega) (by decide)), pu_ix hj, g2 j hq, if_pos hq]
      · rw [if_pos (nI_le (by omega) hj), if_neg hq]
    have e2 : FX6_queue (k + 1) (nI j) w1 = some (if j < (sp_line T S n).2 then nI ((sp_line T S n).1 j) else -9, w2) := by
      unfold FX6_queue
      rw [fX6_queue_0, if_pos (nI_pos' hj), p1]
      simp only [ra_bind]
      rw [p2]
      by_cases hq : j < (sp_line T S n).2
      · rw [if_neg (nI_ge hq (by omega)), if_pos (pu_in (by omega) (by decide)), pu_ix hj, p3 j hq, if_pos hq]
      · rw [if_pos (nI_le (by omega) hj), if_neg hq]
    exact op_ask h e1 e2 f1 f2
theorem op_count {k : Nat} {w : ra_W} (v : Int32) (hk : 150 ≤ k) (h : Rel w) : op2 (FX5_count k v) (FX6_count k v) w := by
  obtain ⟨k, rfl⟩ : ∃ q, k = q + 1 := ⟨k - 1, by omega⟩
  obtain ⟨n, A, T, S, t, kn, H, Ht, hc, h1, h2, hX, hI, hZ⟩ := id h
  have hn : n ≤ 7 := hc.1.1.2.2.2
  have h20 := mC_0 h2
  obtain ⟨L, l1, l2, l3, l4⟩ := hX
  obtain ⟨m, m1, m2, m3, m4⟩ := hZ
  obtain ⟨nx, n1, n2, n3, n4⟩ := id h1.2.2.2
  obtain ⟨w1, g1, g2, g3⟩ := q0_lineUp (k := k + 1) (by omega) hn (by omega) (by omega) (by omega) h1.1 h1.2.1
  have c0 : FX5_count (k + 1) v w = if v = 0 then some (nI n, w) else if v = 1 then some (T 0 1, w) else if v = 2 then some (T 0 2, w) else if v = 3 then some (nI t, w) else if v = 4 then some (S 6 0, w) else if v = 5 then some (S 6 1, w) else if v = 6 then some (S 6 2, w) else if v = 7 then some (nI (sp_line T S n).2, w1) else if v = 8 then some (nI m, w) else if v = 9 then some (nI L, w) else if v = 10 then some (nI kn, w) else some (-1, w) := by
    unfold FX5_count
    rw [fX5_count_0, h1.1.1, h1.1.2.1, h1.1.2.2.1, h1.2.2.1, h1.2.1.2.2.2.2.2.2.1, h1.2.1.2.2.2.2.2.2.2.1, h1.2.1.2.2.2.2.2.2.2.2, m2, l2, n2, g1]
    rfl
  rcases pu_rng v 0 10 (by decide) (by decide) with ⟨y, -, hy, rfl⟩ | hb
  · have i1 : ∀ x : ra_W, FX6_in (k + 1) (nI y) 0 10 x = some (1, x) := fun x => m6_in1 (lo := 0) (hi := 10) (by omega) (by omega) hy (by decide)
    have f1 := fz_14 g3
    have m0 : ∀ x : ra_W, fz w x → ∃ x2, fz x x2 ∧ FX6_count (k + 1) (nI y) x = if 3 ≤ nI y then (if 7 ≤ nI y then (if nI y = 7 then some (nI (sp_line T S n).2, x2) else if nI y = 8 then some (nI m, x2) else if nI y = 9 then some (nI L, x2) else some (nI kn, x2)) else (if ra_in (2 + nI y - 3) 41 then some (ra_st x 134 0 0 139 (ra_ix (2 + nI y - 3)), ra_st x 134 0 0) else none)) else (if ra_in (nI y) 19 then some (ra_st x 134 0 0 136 (ra_ix (nI y)), ra_st x 134 0 0) else none) := by
      intro x fx
      have h2x := mC_0 (mC_fz h2 fx)
      obtain ⟨x2, p1, p2, p3, p4, p5⟩ := m6_lines (k := k + 1) (by omega) hn (Or.inl rfl) h2x.1 h2x.2.1
      refine ⟨x2, fz_tr (fz_0 x 0) (fz_lines p4 p5), ?_⟩
      unfold FX6_count
      rw [fX6_count_0, i1]
      simp only [ra_bind]
      rw [if_neg (by decide), p1]
      simp only []
      have a2 : ra_st x 134 0 0 134 2 = nI L := by rw [pu_st, if_neg (by decide), fx.2.2.1, l3]
      have a20 : ra_st x 134 0 0 134 20 = nI m := by rw [pu_st, if_neg (by decide), fx.2.2.2.2, m3]
      rw [p2, p5 20 (by decide), p5 2 (by decide), p5 15 (by decide), a2, a20, h2x.2.2.2.1]
    obtain ⟨x2, fx2, mx⟩ := m0 w (fz_rf w)
    have s9 : ∀ i, ra_st w 134 0 0 139 i = w 139 i := fun i => by rw [pu_st_ne (by decide)]
    have s6 : ∀ i, ra_st w 134 0 0 136 i = w 136 i := fun i => by rw [pu_st_ne (by decide)]
    rcases (show y = 0 ∨ y = 1 ∨ y = 2 ∨ y = 3 ∨ y = 4 ∨ y = 5 ∨ y = 6 ∨ y = 7 ∨ y = 8 ∨ y = 9 ∨ y = 10 by omega) with rfl | rfl | rfl | rfl | rfl | rfl | rfl | rfl | rfl | rfl | rfl
    · have mx : FX6_count (k + 1) (nI 0) w = some (ra_st w 134 0 0 136 0, ra_st w 134 0 0) := mx
      rw [s6, h2.1.1] at mx
      exact op_bad h c0 mx
    · have mx : FX6_count (k + 1) (nI 1) w = some (ra_st w 134 0 0 136 1, ra_st w 134 0 0) := mx
      rw [s6, h2.1.2.1] at mx
      exact op_bad h c0 mx
    · have mx : FX6_count (k + 1) (nI 2) w = some (ra_st w 134 0 0 136 2, ra_st w 134 0 0) := mx
      rw [s6, h2.1.2.2.1] at mx
      exact op_bad h c0 mx
    · have mx : FX6_count (k + 1) (nI 3) w = some (ra_st w 134 0 0 139 2, ra_st w 134 0 0) := mx
      rw [s9, h2.2.2.1] at mx
      exact op_bad h c0 mx
    · have mx : FX6_count (k + 1) (nI 4) w = some (ra_st w 134 0 0 139 3, ra_st w 134 0 0) := mx
      rw [s9, h2.2.1.2.2.2.2.2.2.1] at mx
      exact op_bad h c0 mx
    · have mx : FX6_count (k + 1) (nI 5) w = some (ra_st w 134 0 0 139 4, ra_st w 134 0 0) := mx
      rw [s9, h2.2.1.2.2.2.2.2.2.2.1] at mx
      exact op_bad h c0 mx
    · have mx : FX6_count (k + 1) (nI 6) w = some (ra_st w 134 0 0 139 5, ra_st w 134 0 0) := mx
      rw [s9, h2.2.1.2.2.2.2.2.2.2.2] at mx
      exact op_bad h c0 mx
    · obtain ⟨x2, fx2, mx⟩ := m0 w1 f1
      exact op_ask h c0 mx f1 fx2
    · exact op_ask h c0 mx (fz_rf w) fx2
    · exact op_ask h c0 mx (fz_rf w) fx2
    · exact op_ask h c0 mx (fz_rf w) fx2
  · replace hb : v < (0 : Int32) ∨ (10 : Int32) < v := hb
    refine op_bad (r := -1) h ?_ ?_
    · have hne : ∀ j : Int32, (0 ≤ j ∧ j ≤ 10) → ¬ v = j := fun j hj e => by
        rw [e] at hb
        rcases hb with z | z
        · exact absurd hj.1 (Int32.not_le.mpr z)
        · exact absurd hj.2 (Int32.not_le.mpr z)
      rw [c0, if_neg (hne 0 (by decide)), if_neg (hne 1 (by decide)), if_neg (hne 2 (by decide)), if_neg (hne 3 (by decide)), if_neg (hne 4 (by decide)), if_neg (hne 5 (by decide)), if_neg (hne 6 (by decide)), if_neg (hne 7 (by decide)), if_neg (hne 8 (by decide)), if_neg (hne 9 (by decide)), if_neg (hne 10 (by decide))]
    · unfold FX6_count
      rw [fX6_count_0, m6_in0 (by omega) hb]
      rfl
