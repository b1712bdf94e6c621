/-! MORE CALLS -/
theorem iv_lost {n A : Nat} {T S : ra_W} {i : Nat} {x : Int32} (h : iv n A T S) (hx : x = -1 ∨ x = 0) : iv n A T (ra_st S 5 i x) := by
  have e : ∀ j q, j < 5 → ra_st S 5 i x j q = S j q := fun j q hj => by rw [pu_st, if_neg (by omega)]
  obtain ⟨ht, hrr, hg, hc, hl⟩ := h
  refine ⟨ht, fun q hq => ?_, fun p q a b c d => ?_, iv_c_of hc (fun q hq => Or.inl (e 4 q (by omega))), fun j hj => ?_⟩
  · have := hrr q hq
    unfold iv_r at this ⊢
    rw [e 0 q (by omega), e 1 q (by omega), e 2 q (by omega), e 3 q (by omega), e 4 q (by omega)]
    exact this
  · rw [e 1 p (by omega)] at c
    rw [e 1 q (by omega)] at d
    exact hg p q a b c d
  · rw [pu_st]
    split
    · rcases hx with z | z
      · exact Or.inl z
      · exact Or.inr ⟨0, by omega, z⟩
    · exact hl j hj
theorem op_controls {k : Nat} {w : ra_W} (v u : Int32) (hk : 700 ≤ k) (h : Rel w) : op2 (FX5_controls k v u) (FX6_controls k v u) w := by
  obtain ⟨k, rfl⟩ : ∃ q, k = q + 1 + 1 + 1 + 1 := ⟨k - 4, by omega⟩
  obtain ⟨n, A, T, S, t, kn, H, Ht, hc, h1, h2, hX, hI, hZ⟩ := id h
  have hn : n ≤ 7 := hc.1.1.2.2.2
  have h20 := mC_0 h2
  generalize hK : k + 1 + 1 + 1 + 1 = K at hk
  rcases pu_rng v 0 1 (by decide) (by decide) with ⟨i, -, hi, rfl⟩ | hb
  · have hi2 : i < 2 := by omega
    have i1 : ∀ x : ra_W, FX6_in K (nI i) 0 1 x = some (1, x) := fun x => m6_in1 (lo := 0) (hi := 1) (by omega) (by omega) hi (by decide)
    rcases pu_rng u 0 1 (by decide) (by decide) with ⟨y, -, hy, rfl⟩ | hb2
    · have i2 : ∀ x : ra_W, FX6_in K (nI y) 0 1 x = some (1, x) := fun x => m6_in1 (lo := 0) (hi := 1) (by omega) (by omega) hy (by decide)
      -- the class, the model up to the comparison
      have c0 : FX5_controls K (nI i) (nI y) w = fX5_controls K (k + 1 + 1 + 1) 1 (nI i) 0 (if S 5 i = -1 then 1 else 0) 0 (nI y) (if S 5 i = -1 then 1 else 0) w := by
        unfold FX5_controls
        rw [← hK, fX5_controls_0, hK, (q5_isSite (by omega)).1 i hi2 rfl]
        simp only [ra_bind]
        rw [if_neg (by decide), (q5_isBit (by omega)).1 ⟨y, by omega, rfl⟩]
        simp only []
        rw [if_neg (by decide), q4_hasControl (by omega) h1.2.1 hi2]
        simp only []
        rcases (show y = 0 ∨ y = 1 by omega) with rfl | rfl
        · rw [if_neg (by decide)]
          rfl
        · rw [if_pos (by decide)]
          rfl
      have m0 : ∀ x : ra_W, mC x n T S t kn H Ht → FX6_controls K (nI i) (nI y) x = fX6_controls K (k + 1 + 1) 2 (nI i) (nI y) (S 5 i) (nI y) (if S 5 i = -1 then 1 else 0) (ra_st x 134 0 0) := by
        intro x hx
        have hx0 := mC_0 hx
        unfold FX6_controls
        rw [← hK, fX6_controls_0, hK, i1]
        simp only [ra_bind]
        rw [if_neg (by decide), i2]
        simp only []
        rw [if_neg (by decide), pl_0, if_pos (pu_in (by omega) (by decide)), pu_ix (by omega), hx0.2.1.2.2.2.2.2.1 i hi2, fX6_controls_1, fX6_controls_1]
        rcases hc.1.2.2.2.2 i hi2 with z | ⟨d, hd, z⟩
        · rw [z, if_neg (by decide), if_pos rfl]
          rcases (show y = 0 ∨ y = 1 by omega) with rfl | rfl
          · rw [if_neg (by decide)]
            rfl
          · rw [if_pos (by decide)]
            rfl
        · rw [z, if_pos (nI_pos' (by omega)), if_neg (pu_nm1 (by omega))]
          rcases (show y = 0 ∨ y = 1 by omega) with rfl | rfl
          · rw [if_neg (by decide)]
            rfl
          · rw [if_pos (by decide)]
            rfl
      by_cases hq : (if S 5 i = -1 then (1 : Int32) else 0) = nI y
      · refine op_bad (r := -2) h ?_ ?_
        · rw [c0, fX5_controls_1, if_pos hq]
        · rw [m0 w h2, fX6_controls_2, if_pos hq]
      · obtain ⟨w1, g1, g2, g3⟩ := act_rec (k := K) (by omega) hn hc.2.2.1 h1
        -- what is stored, what is answered
        have main : ∀ a x : Int32, (x = -1 ∨ x = 0) → FX5_controls K (nI i) (nI y) w = some (a, ra_st w1 22 i x) → (∀ z u : ra_W, mC z n T S t kn H Ht → FX6_notes K (ra_st z 134 0 0) = some (0, u) → FX6_controls K (nI i) (nI y) z = some (a, ra_st u 139 i x)) → op2 (FX5_controls K (nI i) (nI y)) (FX6_controls K (nI i) (nI y)) w := by
          intro a x hx e1 e2
          have x1 : ∀ c, (c < 14 ∨ 22 < c) → ra_st w1 22 i x c = w1 c := fun c a => by rw [pu_st_ne (by omega)]
          have C1 := cC_S g2 (cSt_5 i x g2.2.1) (t' := t) (by rw [pu_st_ne (by decide)]; exact g2.2.2.1) x1
          have f1 : fc w (ra_st w1 22 i x) := fc_tr (fc_rec g3) (fc_S x1)
          have C1 : cC (ra_st w1 22 i x) n T (ra_st S 5 i x) t (min 12 (kn + 1)) (pu_push S H) (pu_push t Ht) := C1
          generalize ra_st w1 22 i x = wc at e1 C1 f1
          have h2c := mC_0 (mC_fc h2 f1)
          obtain ⟨w2, p1, p2, p3, p4⟩ := act_note (k := K) (by omega) hn hc.2.2.1 h2c
          have x2 : ∀ c, c ≠ 139 → ra_st w2 139 i x c = w2 c := fun c a => by rw [pu_st_ne a]
          exact ⟨_, _, _, e1, e2 wc w2 (mC_fc h2 f1) p1, Rel_act (rC_push hc (iv_lost hc.1 hx) hc.2.1) C1 (mC_S p2 (mSt_5 _ hn hi2 p2.2.1) (t' := t) (by rw [pu_st, if_neg (by omega)]; exact p2.2.2.1) (x2 136 (by decide)) (x2 141 (by decide)) (by rw [x2 134 (by decide)])) f1 (fm_tr (fm_0 wc 0) (fm_tr (fm_note p3 p4) (fm_139 w2 _ _))) hX hI hZ⟩
        rcases hc.1.2.2.2.2 i hi2 with z | ⟨d, hd, z⟩
        · have hy0 : y = 0 := by
            rcases (show y = 0 ∨ y = 1 by omega) with q | q
            · exact q
            · exact absurd (by rw [if_pos z, q]; rfl) hq
          refine main 0 0 (Or.inr rfl) ?_ (fun x u hx hu => ?_)
          · rw [c0, fX5_controls_1, if_neg hq, if_pos z, if_neg (by decide), fX5_controls_2, g1]
            simp only [ra_bind]
            rw [if_neg (by decide), fX5_controls_3, if_pos (pu_in hi2 (by decide)), pu_ix (by omega)]
          · rw [m0 x hx, fX6_controls_2, if_neg hq, hu]
            simp only [ra_bind]
            rw [hy0, if_neg (by decide), fX6_controls_3, pl_0, if_pos (pu_in (by omega) (by decide)), pu_ix (by omega), z, if_neg (by decide)]
        · have hne : ¬ S 5 i = -1 := by rw [z]; exact pu_nm1 (by omega)
          have hy1 : y = 1 := by
            rcases (show y = 0 ∨ y = 1 by omega) with q | q
            · exact absurd (by rw [if_neg hne, q]; rfl) hq
            · exact q
          refine main (S 5 i) (-1) (Or.inl rfl) ?_ (fun x u hx hu => ?_)
          · rw [c0, fX5_controls_1, if_neg hq, if_neg hne, if_pos rfl, if_pos (pu_in hi2 (by decide)), pu_ix (by omega), h1.2.1.2.2.2.2.2.1 i hi2, fX5_controls_2, g1]
            simp only [ra_bind]
            rw [if_pos trivial, fX5_controls_3, if_pos (pu_in hi2 (by decide)), pu_ix (by omega)]
          · rw [m0 x hx, fX6_controls_2, if_neg hq, hu]
            simp only [ra_bind]
            rw [hy1, if_pos (by decide), fX6_controls_3, pl_0, if_pos (pu_in (by omega) (by decide)), pu_ix (by omega), z, if_pos (nI_pos' (by omega))]
    · replace hb2 : u < (0 : Int32) ∨ (1 : Int32) < u := hb2
      refine op_bad (r := -1) h ?_ ?_
      · unfold FX5_controls
        rw [← hK, fX5_controls_0, hK, (q5_isSite (by omega)).1 i hi2 rfl]
        simp only [ra_bind]
        rw [if_neg (by decide), (q5_isBit (by omega)).2 hb2]
        rfl
      · unfold FX6_controls
        rw [← hK, fX6_controls_0, hK, i1]
        simp only [ra_bind]
        rw [if_neg (by decide), m6_in0 (by omega) hb2]
        rfl
  · replace hb : v < (0 : Int32) ∨ (1 : Int32) < v := hb
    refine op_bad (r := -1) h ?_ ?_
    · unfold FX5_controls
      rw [← hK, fX5_controls_0, hK, (q5_isSite (by omega)).2 hb]
      rfl
    · unfold FX6_controls
      rw [← hK, fX6_controls_0, hK, m6_in0 (by omega) hb]
      rfl
/-- rows copied back -/
theorem m6_undo_loop {k q : Nat} {w0 : ra_W} (hq : q < 12) : ∀ (d i m : Nat) (w : ra_W), i + d = 41 → d + 1 ≤ m → w 134 15 = nI q → (∀ j, w 139 j = if j < i then w0 141 (41 * q + j) else w0 139 j) → (∀ c, c ≠ 139 → w c = w0 c) → ∃ w', fX6_undo k m 1 (nI i) w = some (nI q, w') ∧ (∀ j, j < 41 → w' 139 j = w0 141 (41 * q + j)) ∧ (∀ c, c ≠ 139 → w' c = w0 c) := by
  intro d
  induction d with
  | zero =>
    intro i m w hi hm h15 h1 h2
    obtain ⟨m, rfl⟩ : ∃ q, m = q + 1 := ⟨m - 1, by omega⟩
    have hin : i = 41 := by omega
    subst hin
    rw [fX6_undo_1, if_pos (by decide), h15]
    exact ⟨w, rfl, fun j hj => by rw [h1, if_pos hj], h2⟩
  | succ d ih =>
    intro i m w hi hm h15 h1 h2
    obtain ⟨m, rfl⟩ : ∃ q, m = q + 1 := ⟨m - 1, by omega⟩
    have e41 : (41 : Int32) * nI q + nI i = nI (41 * q + i) := by
      rw [show (41 : Int32) * nI q = nI (41 * q) from (Int32.ofNat_mul 41 q).symm, nI_add]
    rw [fX6_undo_1, if_neg (show ¬ (41 : Int32) ≤ nI i from nI_ge (b := 41) (by omega) (by decide)), h15, e41, if_pos (pu_in (by omega) (by decide)), if_pos (pu_in (by omega) (by decide)), pu_ix (by omega), pu_ix (by omega), nI_1, h2 141 (by decide)]
    refine ih (i + 1) m _ (by omega) (by omega) (by rw [pu_st_ne (by decide)]; exact h15) (fun j => ?_) (fun c a => by rw [pu_st_ne a]; exact h2 c a)
    rw [pu_st, h1 j]
    by_cases e : j = i
    · subst e
      rw [if_pos ⟨rfl, rfl⟩, if_pos (by omega)]
    · rw [if_neg (fun z => e z.2)]
      by_cases z : j < i
      · rw [if_pos z, if_pos (by omega)]
      · rw [if_neg z, if_neg (by omega)]
theorem op_undo {k : Nat} {w : ra_W} (hk : 100 ≤ k) (h : Rel w) : op2 (FX5_undo k) (FX6_undo k) w := by
  obtain ⟨k, rfl⟩ : ∃ q, k = q + 1 := ⟨k - 1, by omega⟩
  obtain ⟨n, A, T, S, t, kn, H, Ht, hc, h1, h2, hX, hI, hZ⟩ := id h
  have hn : n ≤ 7 := hc.1.1.2.2.2
  have h20 := mC_0 h2
  cases kn with
  | zero =>
    refine op_bad (r := -2) h ?_ ?_
    · unfold FX5_undo
      rw [fX5_undo_0, q1_bringBack0 (by omega) h1.2.2.2]
      rfl
    · unfold FX6_undo
      rw [fX6_undo_0, h20.2.2.2.1, if_pos (by decide)]
  | succ kn =>
    have hkn : kn < 12 := by have := hc.2.2.1; omega
    obtain ⟨w1, g1, g2, g3, g4, g5, g6⟩ := q1_bringBack (k := k + 1) (by omega) hn hkn h1.2.2.2
    have e1 : FX5_undo (k + 1) w = some (nI kn, w1) := by
      unfold FX5_undo
      rw [fX5_undo_0, g1]
      simp only [ra_bind]
      rw [if_neg (by decide), g5]
    have f1 : fc w w1 := fun c _ _ a b _ => g6 c b a
    have h2c := mC_0 (mC_fc h2 f1)
    obtain ⟨w2, p1, p2, p3⟩ := m6_undo_loop (k := k + 1) (q := kn) (w0 := ra_st (ra_st w1 134 0 0) 134 15 (nI kn)) hkn 41 0 k (ra_st (ra_st w1 134 0 0) 134 15 (nI kn)) (by omega) (by omega) (by rw [pu_st_eq]) (fun j => by rw [if_neg (by omega)]) (fun _ _ => rfl)
    have e2 : FX6_undo (k + 1) w1 = some (nI kn, w2) := by
      unfold FX6_undo
      rw [fX6_undo_0, h2c.2.2.2.1, if_neg (nI_ne0 (by omega) (by omega)), nI_pred]
      exact p1
    have x2 : ∀ c, c ≠ 139 → c ≠ 134 → w2 c = w1 c := fun c a b => by rw [p3 c a, pu_st_ne b, pu_st_ne b]
    have x4 : ∀ i, i ≠ 0 → i ≠ 15 → w2 134 i = w1 134 i := fun i a b => by rw [p3 134 (by decide), pu_st, if_neg (fun z => b z.2), pu_st, if_neg (fun z => a z.2)]
    have row0 := h2c.2.2.2.2 0 (by omega)
    rw [Nat.sub_zero, Nat.add_sub_cancel] at row0
    have e141 : ra_st (ra_st w1 134 0 0) 134 15 (nI kn) 141 = ra_st w1 134 0 0 141 := by rw [pu_st_ne (by decide)]
    rw [e141] at p2
    have hc' : rC n A T (H 0) (Ht 0) kn (fun j => H (j + 1)) (fun j => Ht (j + 1)) := ⟨(hc.2.2.2 0 (by omega)).1, (hc.2.2.2 0 (by omega)).2, by omega, fun j hj => hc.2.2.2 (j + 1) (by omega)⟩
    refine ⟨_, _, _, e1, e2, Rel_act hc' ⟨cNet_x h1.1 (fun x a b => g6 x (by omega) (by omega)), g2, g3, g4⟩ ⟨mNet_x h2c.1 ((x2 136 (by decide) (by decide)).trans (by rw [pu_st_ne (by decide)])), mRow_c (g := w2 139) hn row0.1 p2, by rw [p2 2 (by omega)]; exact row0.2, ⟨by rw [p3 134 (by decide), pu_st_eq], fun j hj => ?_⟩⟩ f1 ⟨fun c a b _ _ _ => x2 c b a, fun i a b _ => x4 i a b⟩ hX hI hZ⟩
    have := h2c.2.2.2.2 (j + 1) (by omega)
    rw [p3 141 (by decide), e141, show kn - 1 - j = kn + 1 - 1 - (j + 1) by omega]
    exact this
