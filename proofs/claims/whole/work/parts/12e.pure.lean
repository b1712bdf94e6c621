/-! THE ACTS -/
theorem cC_S {w w' : ra_W} {n : Nat} {T S S' : ra_W} {t t' kn : Nat} {H : Nat → ra_W} {Ht : Nat → Nat} (h : cC w n T S t kn H Ht) (hS : cSt w' 16 n S') (ht : w' 16 6 = nI t') (hx : ∀ c, (c < 14 ∨ 22 < c) → w' c = w c) : cC w' n T S' t' kn H Ht := ⟨cNet_x h.1 (fun x a b => hx x (by omega)), hS, ht, cH_x h.2.2.2 (hx 30 (by omega)) (fun c a b => hx c (by omega))⟩
theorem mC_S {w w' : ra_W} {n : Nat} {T S S' : ra_W} {t t' kn : Nat} {H : Nat → ra_W} {Ht : Nat → Nat} (h : mC w n T S t kn H Ht) (hS : mSt w' 139 n S') (ht : w' 139 2 = nI t') (h6 : w' 136 = w 136) (h1 : w' 141 = w 141) (h15 : w' 134 15 = w 134 15) : mC w' n T S' t' kn H Ht := ⟨mNet_x h.1 h6, hS, ht, mH_x h.2.2.2 h15 h1⟩
theorem act_rec {k n t kn : Nat} {w T S : ra_W} {H : Nat → ra_W} {Ht : Nat → Nat} (hk : 2 ≤ k) (hn : n ≤ 7) (hkn : kn ≤ 12) (h : cC w n T S t kn H Ht) : ∃ w', FX1_record k 16 w = some (0, w') ∧ cC w' n T S t (min 12 (kn + 1)) (pu_push S H) (pu_push t Ht) ∧ (∀ c, c ≠ 30 → (c < 50 ∨ 133 < c) → w' c = w c) := by
  obtain ⟨w', g1, g2, g3⟩ := q1_record hk hn hkn h.2.1 h.2.2.1 h.2.2.2
  exact ⟨w', g1, ⟨cNet_x h.1 (fun x a b => g3 x (by omega) (by omega)), cSt_x h.2.1 (fun x a b => g3 x (by omega) (by omega)), by rw [g3 16 (by omega) (by omega)]; exact h.2.2.1, g2⟩, g3⟩
theorem act_note {k n t kn : Nat} {w T S : ra_W} {H : Nat → ra_W} {Ht : Nat → Nat} (hk : 600 ≤ k) (hn : n ≤ 7) (hkn : kn ≤ 12) (h : mC w n T S t kn H Ht) : ∃ w', FX6_notes k w = some (0, w') ∧ mC w' n T S t (min 12 (kn + 1)) (pu_push S H) (pu_push t Ht) ∧ (∀ c, c ≠ 141 → c ≠ 134 → w' c = w c) ∧ (∀ i, i ≠ 15 → w' 134 i = w 134 i) := by
  obtain ⟨w', g1, g2, g3, g4⟩ := m6_notes hk hn hkn h.2.1 h.2.2.1 h.2.2.2
  exact ⟨w', g1, ⟨mNet_x h.1 (g3 136 (by omega) (by omega)), mSt_x h.2.1 (g3 139 (by omega) (by omega)), by rw [g3 139 (by omega) (by omega)]; exact h.2.2.1, g2⟩, g3, g4⟩
theorem fc_rec {w w' : ra_W} (h : ∀ c, c ≠ 30 → (c < 50 ∨ 133 < c) → w' c = w c) : fc w w' := fun c _ _ _ a b => h c a b
theorem fm_note {w w' : ra_W} (h : ∀ c, c ≠ 141 → c ≠ 134 → w' c = w c) (h2 : ∀ i, i ≠ 15 → w' 134 i = w 134 i) : fm w w' := ⟨fun c a _ b _ _ => h c b a, fun i _ a _ => h2 i a⟩
theorem fc_S {w w' : ra_W} (hx : ∀ c, (c < 14 ∨ 22 < c) → w' c = w c) : fc w w' := fun c a b d _ _ => hx c (by omega)
theorem rC_push {n A : Nat} {T S S' : ra_W} {t t' kn : Nat} {H : Nat → ra_W} {Ht : Nat → Nat} (h : rC n A T S t kn H Ht) (hv : iv n A T S') (ht : t' ≤ 999) : rC n A T S' t' (min 12 (kn + 1)) (pu_push S H) (pu_push t Ht) := by
  refine ⟨hv, ht, by omega, fun j hj => ?_⟩
  cases j with
  | zero => exact ⟨h.1, h.2.1⟩
  | succ j => exact h.2.2.2 j (by omega)
theorem iv_upd {n A : Nat} {T S S' : ra_W} {r : Nat} (h : iv n A T S) (hr : iv_r A S' r) (h4 : ¬ S' 1 r = 4) (h40 : S' 4 r = S 4 r ∨ S' 4 r = 0) (hs : ∀ q j, q ≠ r → j < 5 → S' j q = S j q) (h5 : ∀ i, S' 5 i = S 5 i) : iv n A T S' := by
  obtain ⟨ht, hrr, hg, hc, hl⟩ := h
  refine ⟨ht, fun q hq => ?_, fun p q a b c d e => ?_, iv_c_of hc (fun q hq => ?_), fun i hi => by rw [h5]; exact hl i hi⟩
  · by_cases e : q = r
    · subst e
      exact hr
    · have := hrr q hq
      unfold iv_r at this ⊢
      rw [hs q 0 e (by omega), hs q 1 e (by omega), hs q 2 e (by omega), hs q 3 e (by omega), hs q 4 e (by omega)]
      exact this
  · have ep : p ≠ r := fun z => h4 (by rw [← z]; exact c)
    have eq : q ≠ r := fun z => h4 (by rw [← z]; exact d)
    rw [hs p 1 ep (by omega)] at c
    rw [hs q 1 eq (by omega)] at d
    exact hg p q a b c d e
  · by_cases e : q = r
    · subst e
      exact h40
    · exact Or.inl (hs q 4 e (by omega))
theorem op_presses {k : Nat} {w : ra_W} (v u : Int32) (hk : 700 ≤ k) (h : Rel w) : op2 (FX5_presses k v u) (FX6_presses k v u) w := by
  obtain ⟨k, rfl⟩ : ∃ q, k = q + 1 := ⟨k - 1, by omega⟩
  obtain ⟨n, A, T, S, t, kn, H, Ht, hc, h1, h2, hX, hI, hZ⟩ := id h
  have hn : n ≤ 7 := hc.1.1.2.2.2
  have h20 := mC_0 h2
  rcases q2_has (v := v) (k := k + 1) (by omega) h1.1 hn with ⟨r, hr, rfl, e⟩ | ⟨hno, e⟩
  · have i1 := (m6_isRadio (v := nI r) (k := k + 1) (by omega) h20.1 hn).1 r hr rfl
    rcases pu_rng u 0 1 (by decide) (by decide) with ⟨y, -, hy, rfl⟩ | hb2
    · have i2 : ∀ x : ra_W, FX6_in (k + 1) (nI y) 0 1 x = some (1, x) := fun x => m6_in1 (lo := 0) (hi := 1) (by omega) (by omega) hy (by decide)
      by_cases hi : S 1 r = 0
      · obtain ⟨w1, g1, g2, g3⟩ := act_rec (k := k + 1) (by omega) hn hc.2.2.1 h1
        have eS : ra_st (ra_st S 1 r 1) 2 r 0 = ra_st S 1 r 1 := by
          have := ((hc.1.2.1 r hr).2.2.2.1 hi).1
          funext a b
          simp only [pu_st]
          grind
        have S1 : cSt (ra_st (ra_st (ra_st w1 (16 + 2) r 1) (16 + 3) r 0) (16 + 4) r (nI y)) 16 n (ra_st (ra_st S 1 r 1) 3 r (nI y)) := by
          have := cSt_3 r (nI y) (cSt_2 r 0 (cSt_1 r 1 g2.2.1))
          rw [eS] at this
          exact this
        have e1 : FX5_presses (k + 1) (nI r) (nI y) w = some (S 0 r, ra_st (ra_st (ra_st w1 18 r 1) 19 r 0) 20 r (nI y)) := by
          unfold FX5_presses
          rw [fX5_presses_0, e]
          simp only [ra_bind]
          rw [if_neg (by decide), (q5_isBit (by omega)).1 ⟨y, by omega, rfl⟩]
          simp only []
          rw [if_neg (by decide), if_pos (pu_in (by omega) (by decide)), pu_ix (by omega), h1.2.1.2.1 r hr, if_pos hi, g1]
          simp only []
          rw [q4_enter (b := 16) 1 (by omega) (by omega)]
          simp only []
          rw [pu_st_ne (by decide), pu_st_ne (by decide), pu_st_ne (by decide), g2.2.1.1 r hr]
        have x1 : ∀ c, (c < 14 ∨ 22 < c) → ra_st (ra_st (ra_st w1 18 r 1) 19 r 0) 20 r (nI y) c = w1 c := fun c a => by rw [pu_st_ne (by omega), pu_st_ne (by omega), pu_st_ne (by omega)]
        have C1 := cC_S g2 S1 (t' := t) (by rw [pu_st_ne (by decide), pu_st_ne (by decide), pu_st_ne (by decide)]; exact g2.2.2.1) x1
        have f1 : fc w (ra_st (ra_st (ra_st w1 18 r 1) 19 r 0) 20 r (nI y)) := fc_tr (fc_rec g3) (fc_S x1)
        generalize ra_st (ra_st (ra_st w1 18 r 1) 19 r 0) 20 r (nI y) = wc at e1 C1 f1
        have h2c := mC_0 (mC_fc h2 f1)
        have i1 := (m6_isRadio (v := nI r) (k := k + 1) (by omega) h2c.1 hn).1 r hr rfl
        obtain ⟨w2, p1, p2, p3, p4⟩ := act_note (k := k + 1) (by omega) hn hc.2.2.1 h2c
        have e2 : FX6_presses (k + 1) (nI r) (nI y) wc = some (S 0 r, ra_st (ra_st w2 139 (13 + r) 1) 139 (27 + r) (nI y)) := by
          unfold FX6_presses
          rw [fX6_presses_0, i1]
          simp only [ra_bind]
          rw [if_neg (by decide), i2]
          simp only []
          rw [if_neg (by decide), pl_13, pl_27, pl_6, if_pos (pu_in (by omega) (by decide)), pu_ix (by omega), h2c.2.1.2.1 r hr, if_pos hi, p1]
          simp only []
          rw [if_pos (pu_in (by omega) (by decide)), if_pos (pu_in (by omega) (by decide)), pu_ix (by omega), pu_ix (by omega), pu_st, if_neg (by omega), pu_st, if_neg (by omega), p2.2.1.1 r hr]
        have x2 : ∀ c, c ≠ 139 → ra_st (ra_st w2 139 (13 + r) 1) 139 (27 + r) (nI y) c = w2 c := fun c a => by rw [pu_st_ne a, pu_st_ne a]
        have hv : iv n A T (ra_st (ra_st S 1 r 1) 3 r (nI y)) := by
          have hir := hc.1.2.1 r hr
          have hy2 : nI y = 0 ∨ nI y = 1 := by rcases (show y = 0 ∨ y = 1 by omega) with rfl | rfl <;> decide
          refine iv_upd (r := r) hc.1 ?_ ?_ (Or.inl (by simp [pu_st])) (fun q j a b => ?_) (fun i => by simp [pu_st])
          · unfold iv_r at hir ⊢
            simp only [pu_st]
            grind
          · simp [pu_st]
          · simp only [pu_st]
            grind
        exact ⟨_, _, _, e1, e2, Rel_act (rC_push hc hv hc.2.1) C1 (mC_S p2 (mSt_3 _ hn (by omega) (mSt_1 _ hn (by omega) p2.2.1)) (t' := t) (by rw [pu_st, if_neg (by omega), pu_st, if_neg (by omega)]; exact p2.2.2.1) (x2 136 (by decide)) (x2 141 (by decide)) (by rw [x2 134 (by decide)])) f1 (fm_tr (fm_0 wc 0) (fm_tr (fm_note p3 p4) (fm_tr (fm_139 w2 _ _) (fm_139 _ _ _)))) hX hI hZ⟩
      · refine op_bad (r := -2) h ?_ ?_
        · unfold FX5_presses
          rw [fX5_presses_0, e]
          simp only [ra_bind]
          rw [if_neg (by decide), (q5_isBit (by omega)).1 ⟨y, by omega, rfl⟩]
          simp only []
          rw [if_neg (by decide), if_pos (pu_in (by omega) (by decide)), pu_ix (by omega), h1.2.1.2.1 r hr, if_neg hi]
        · unfold FX6_presses
          rw [fX6_presses_0, i1]
          simp only [ra_bind]
          rw [if_neg (by decide), i2]
          simp only []
          rw [if_neg (by decide), pl_13, if_pos (pu_in (by omega) (by decide)), pu_ix (by omega), h20.2.1.2.1 r hr, if_neg hi]
    · replace hb2 : u < (0 : Int32) ∨ (1 : Int32) < u := hb2
      refine op_bad (r := -1) h ?_ ?_
      · unfold FX5_presses
        rw [fX5_presses_0, e]
        simp only [ra_bind]
        rw [if_neg (by decide), (q5_isBit (by omega)).2 hb2]
        rfl
      · unfold FX6_presses
        rw [fX6_presses_0, i1]
        simp only [ra_bind]
        rw [if_neg (by decide), m6_in0 (by omega) hb2]
        rfl
  · refine op_bad (r := -1) h ?_ ?_
    · unfold FX5_presses
      rw [fX5_presses_0, e]
      rfl
    · unfold FX6_presses
      rw [fX6_presses_0, (m6_isRadio (k := k + 1) (by omega) h20.1 hn).2 hno]
      rfl
theorem op_releases {k : Nat} {w : ra_W} (v : Int32) (hk : 700 ≤ k) (h : Rel w) : op2 (FX5_releases k v) (FX6_releases k v) w := by
  obtain ⟨k, rfl⟩ : ∃ q, k = q + 1 := ⟨k - 1, by omega⟩
  obtain ⟨n, A, T, S, t, kn, H, Ht, hc, h1, h2, hX, hI, hZ⟩ := id h
  have hn : n ≤ 7 := hc.1.1.2.2.2
  have h20 := mC_0 h2
  rcases q2_has (v := v) (k := k + 1) (by omega) h1.1 hn with ⟨r, hr, rfl, e⟩ | ⟨hno, e⟩
  · have i1 := (m6_isRadio (v := nI r) (k := k + 1) (by omega) h20.1 hn).1 r hr rfl
    by_cases hi : S 1 r = 0
    · refine op_bad (r := -2) h ?_ ?_
      · unfold FX5_releases
        rw [fX5_releases_0, e]
        simp only [ra_bind]
        rw [if_neg (by decide), if_pos (pu_in (by omega) (by decide)), pu_ix (by omega), h1.2.1.2.1 r hr, if_pos hi]
      · unfold FX6_releases
        rw [fX6_releases_0, i1]
        simp only [ra_bind]
        rw [if_neg (by decide), pl_13, if_pos (pu_in (by omega) (by decide)), pu_ix (by omega), h20.2.1.2.1 r hr, if_pos hi]
    · obtain ⟨w1, g1, g2, g3⟩ := act_rec (k := k + 1) (by omega) hn hc.2.2.1 h1
      have S1 := cSt_rest r g2.2.1
      have e1 : FX5_releases (k + 1) (nI r) w = some (S 1 r, ra_st (ra_st (ra_st (ra_st w1 (16 + 2) r 0) (16 + 3) r 0) (16 + 4) r 0) (16 + 5) r 0) := by
        unfold FX5_releases
        rw [fX5_releases_0, e]
        simp only [ra_bind]
        rw [if_neg (by decide), if_pos (pu_in (by omega) (by decide)), pu_ix (by omega), h1.2.1.2.1 r hr, if_neg hi, g1]
        simp only []
        rw [q4_rest (b := 16) (by omega) (by omega)]
      have x1 : ∀ c, (c < 14 ∨ 22 < c) → ra_st (ra_st (ra_st (ra_st w1 (16 + 2) r 0) (16 + 3) r 0) (16 + 4) r 0) (16 + 5) r 0 c = w1 c := fun c a => by rw [pu_st_ne (by omega), pu_st_ne (by omega), pu_st_ne (by omega), pu_st_ne (by omega)]
      have C1 := cC_S g2 S1 (t' := t) (by rw [pu_st_ne (by decide), pu_st_ne (by decide), pu_st_ne (by decide), pu_st_ne (by decide)]; exact g2.2.2.1) x1
      have f1 : fc w (ra_st (ra_st (ra_st (ra_st w1 (16 + 2) r 0) (16 + 3) r 0) (16 + 4) r 0) (16 + 5) r 0) := fc_tr (fc_rec g3) (fc_S x1)
      generalize ra_st (ra_st (ra_st (ra_st w1 (16 + 2) r 0) (16 + 3) r 0) (16 + 4) r 0) (16 + 5) r 0 = wc at e1 C1 f1
      have h2c := mC_0 (mC_fc h2 f1)
      have i1 := (m6_isRadio (v := nI r) (k := k + 1) (by omega) h2c.1 hn).1 r hr rfl
      obtain ⟨w2, p1, p2, p3, p4⟩ := act_note (k := k + 1) (by omega) hn hc.2.2.1 h2c
      have e2 : FX6_releases (k + 1) (nI r) wc = some (S 1 r, ra_st (ra_st (ra_st (ra_st w2 139 (13 + r) 0) 139 (20 + r) 0) 139 (27 + r) 0) 139 (34 + r) 0) := by
        unfold FX6_releases
        rw [fX6_releases_0, i1]
        simp only [ra_bind]
        rw [if_neg (by decide), pl_13, if_pos (pu_in (by omega) (by decide)), pu_ix (by omega), h2c.2.1.2.1 r hr, if_neg hi, p1]
        simp only []
        rw [m6_rests (by omega) (by omega)]
      have hm := pu_mf_rest (c := 139) w2 r
      exact ⟨_, _, _, e1, e2, Rel_act (rC_push hc (iv_rest r hc.1) hc.2.1) C1 (mC_S p2 (mSt_rest hn (by omega) p2.2.1) (t' := t) (by rw [hm.2]; exact p2.2.2.1) (hm.1 136 (by decide)) (hm.1 141 (by decide)) (by rw [hm.1 134 (by decide)])) f1 (fm_tr (fm_0 wc 0) (fm_tr (fm_note p3 p4) ⟨fun c _ a _ _ _ => hm.1 c a, fun i _ _ _ => by rw [hm.1 134 (by decide)]⟩)) hX hI hZ⟩
  · refine op_bad (r := -1) h ?_ ?_
    · unfold FX5_releases
      rw [fX5_releases_0, e]
      rfl
    · unfold FX6_releases
      rw [fX6_releases_0, (m6_isRadio (k := k + 1) (by omega) h20.1 hn).2 hno]
      rfl
theorem op_moves {k : Nat} {w : ra_W} (v : Int32) (hk : 700 ≤ k) (h : Rel w) : op2 (FX5_moves k v) (FX6_moves k v) w := by
  obtain ⟨k, rfl⟩ : ∃ q, k = q + 1 := ⟨k - 1, by omega⟩
  obtain ⟨n, A, T, S, t, kn, H, Ht, hc, h1, h2, hX, hI, hZ⟩ := id h
  have hn : n ≤ 7 := hc.1.1.2.2.2
  have h20 := mC_0 h2
  rcases q2_has (v := v) (k := k + 1) (by omega) h1.1 hn with ⟨r, hr, rfl, e⟩ | ⟨hno, e⟩
  · have i1 := (m6_isRadio (v := nI r) (k := k + 1) (by omega) h20.1 hn).1 r hr rfl
    by_cases hi : S 1 r = 0
    · obtain ⟨w1, g1, g2, g3⟩ := act_rec (k := k + 1) (by omega) hn hc.2.2.1 h1
      have e1 : FX5_moves (k + 1) (nI r) w = some (1 - S 0 r, ra_st w1 (16 + 1) r (1 - S 0 r)) := by
        unfold FX5_moves
        rw [fX5_moves_0, e]
        simp only [ra_bind]
        rw [if_neg (by decide), if_pos (pu_in (by omega) (by decide)), pu_ix (by omega), h1.2.1.2.1 r hr, if_pos hi, g1]
        simp only []
        rw [pu_st_eq, g2.2.1.1 r hr]
      have x1 : ∀ c, (c < 14 ∨ 22 < c) → ra_st w1 (16 + 1) r (1 - S 0 r) c = w1 c := fun c a => by rw [pu_st_ne (by omega)]
      have C1 := cC_S g2 (cSt_0 r (1 - S 0 r) g2.2.1) (t' := t) (by rw [pu_st_ne (by decide)]; exact g2.2.2.1) x1
      have f1 : fc w (ra_st w1 (16 + 1) r (1 - S 0 r)) := fc_tr (fc_rec g3) (fc_S x1)
      generalize ra_st w1 (16 + 1) r (1 - S 0 r) = wc at e1 C1 f1
      have h2c := mC_0 (mC_fc h2 f1)
      have i1 := (m6_isRadio (v := nI r) (k := k + 1) (by omega) h2c.1 hn).1 r hr rfl
      obtain ⟨w2, p1, p2, p3, p4⟩ := act_note (k := k + 1) (by omega) hn hc.2.2.1 h2c
      have e2 : FX6_moves (k + 1) (nI r) wc = some (1 - S 0 r, ra_st w2 139 (6 + r) (1 - S 0 r)) := by
        unfold FX6_moves
        rw [fX6_moves_0, i1]
        simp only [ra_bind]
        rw [if_neg (by decide), pl_13, pl_6, if_pos (pu_in (by omega) (by decide)), pu_ix (by omega), h2c.2.1.2.1 r hr, if_pos hi, p1]
        simp only []
        rw [if_pos (pu_in (by omega) (by decide)), pu_ix (by omega), pu_st_eq, p2.2.1.1 r hr]
      have x2 : ∀ c, c ≠ 139 → ra_st w2 139 (6 + r) (1 - S 0 r) c = w2 c := fun c a => by rw [pu_st_ne a]
      have hv : iv n A T (ra_st S 0 r (1 - S 0 r)) := by
        have hir := hc.1.2.1 r hr
        obtain ⟨⟨s, hs, hs2⟩, hir'⟩ := id hir
        have hs3 : ∃ s', s' < 2 ∧ 1 - S 0 r = nI s' := ⟨1 - s, by omega, by rw [hs2, pu_one_sub hs]⟩
        refine iv_upd (r := r) hc.1 ?_ ?_ (Or.inl (by simp [pu_st])) (fun q j a b => ?_) (fun i => by simp [pu_st])
        · unfold iv_r at hir ⊢
          simp only [pu_st]
          grind
        · simp [pu_st, hi]
        · simp only [pu_st]
          grind
      exact ⟨_, _, _, e1, e2, Rel_act (rC_push hc hv hc.2.1) C1 (mC_S p2 (mSt_0 _ hn (by omega) p2.2.1) (t' := t) (by rw [pu_st, if_neg (by omega)]; exact p2.2.2.1) (x2 136 (by decide)) (x2 141 (by decide)) (by rw [x2 134 (by decide)])) f1 (fm_tr (fm_0 wc 0) (fm_tr (fm_note p3 p4) (fm_139 w2 _ _))) hX hI hZ⟩
    · refine op_bad (r := -2) h ?_ ?_
      · unfold FX5_moves
        rw [fX5_moves_0, e]
        simp only [ra_bind]
        rw [if_neg (by decide), if_pos (pu_in (by omega) (by decide)), pu_ix (by omega), h1.2.1.2.1 r hr, if_neg hi]
      · unfold FX6_moves
        rw [fX6_moves_0, i1]
        simp only [ra_bind]
        rw [if_neg (by decide), pl_13, if_pos (pu_in (by omega) (by decide)), pu_ix (by omega), h20.2.1.2.1 r hr, if_neg hi]
  · refine op_bad (r := -1) h ?_ ?_
    · unfold FX5_moves
      rw [fX5_moves_0, e]
      rfl
    · unfold FX6_moves
      rw [fX6_moves_0, (m6_isRadio (k := k + 1) (by omega) h20.1 hn).2 hno]
      rfl
