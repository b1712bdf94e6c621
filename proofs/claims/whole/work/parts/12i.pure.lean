/-! IMAGES -/
theorem pu_bit_or {h : Int32} {i : Nat} (hq : pu_q h) (hi : i < 2) : pu_q (h ||| nI (i + 1)) ∧ ∀ j, j < 2 → pu_bit (h ||| nI (i + 1)) j = (pu_bit h j || decide (j = i)) := by
  rcases (show i = 0 ∨ i = 1 by omega) with rfl | rfl
  · rcases hq with rfl | rfl | rfl | rfl
    · exact ⟨by unfold pu_q; decide, fun j hj => by rcases (show j = 0 ∨ j = 1 by omega) with rfl | rfl <;> decide⟩
    · exact ⟨by unfold pu_q; decide, fun j hj => by rcases (show j = 0 ∨ j = 1 by omega) with rfl | rfl <;> decide⟩
    · exact ⟨by unfold pu_q; decide, fun j hj => by rcases (show j = 0 ∨ j = 1 by omega) with rfl | rfl <;> decide⟩
    · exact ⟨by unfold pu_q; decide, fun j hj => by rcases (show j = 0 ∨ j = 1 by omega) with rfl | rfl <;> decide⟩
  · rcases hq with rfl | rfl | rfl | rfl
    · exact ⟨by unfold pu_q; decide, fun j hj => by rcases (show j = 0 ∨ j = 1 by omega) with rfl | rfl <;> decide⟩
    · exact ⟨by unfold pu_q; decide, fun j hj => by rcases (show j = 0 ∨ j = 1 by omega) with rfl | rfl <;> decide⟩
    · exact ⟨by unfold pu_q; decide, fun j hj => by rcases (show j = 0 ∨ j = 1 by omega) with rfl | rfl <;> decide⟩
    · exact ⟨by unfold pu_q; decide, fun j hj => by rcases (show j = 0 ∨ j = 1 by omega) with rfl | rfl <;> decide⟩
theorem pu_41 (q i : Nat) : (41 : Int32) * nI q + nI i = nI (41 * q + i) := by
  rw [show (41 : Int32) * nI q = nI (41 * q) from (Int32.ofNat_mul 41 q).symm, nI_add]
theorem m6_keep_loop {k q : Nat} {w0 : ra_W} (hq : q < 2) : ∀ (d i m : Nat) (w : ra_W), i + d = 41 → d + 1 ≤ m → (∀ j, w 142 j = if 41 * q ≤ j ∧ j < 41 * q + i then w0 139 (j - 41 * q) else w0 142 j) → (∀ c, c ≠ 142 → w c = w0 c) → ∃ w', fX6_keep k m 1 (nI q) (nI i) w = some (w0 139 2, w') ∧ (∀ j, w' 142 j = if 41 * q ≤ j ∧ j < 41 * q + 41 then w0 139 (j - 41 * q) else w0 142 j) ∧ (∀ j, w' 143 j = if j = q then 1 else w0 143 j) ∧ (∀ c, c ≠ 142 → c ≠ 143 → w' c = w0 c) := by
  intro d
  induction d with
  | zero =>
    intro i m w hi hm h1 h2
    obtain ⟨m, rfl⟩ : ∃ q, m = q + 1 := ⟨m - 1, by omega⟩
    have hin : i = 41 := by omega
    subst hin
    rw [fX6_keep_1, if_pos (by decide), if_pos (pu_in hq (by decide)), pu_ix (by omega), pu_st_ne (by decide), h2 139 (by decide)]
    refine ⟨_, rfl, fun j => by rw [pu_st_ne (by decide)]; exact h1 j, fun j => ?_, fun c a b => by rw [pu_st_ne b]; exact h2 c a⟩
    rw [pu_st, h2 143 (by decide)]
    by_cases e : j = q
    · rw [if_pos ⟨rfl, e⟩, if_pos e]
    · rw [if_neg (fun z => e z.2), if_neg e]
  | succ d ih =>
    intro i m w hi hm h1 h2
    obtain ⟨m, rfl⟩ : ∃ q, m = q + 1 := ⟨m - 1, by omega⟩
    rw [fX6_keep_1, if_neg (show ¬ (41 : Int32) ≤ nI i from nI_ge (b := 41) (by omega) (by decide)), if_pos (pu_in (by omega) (by decide)), pu_41, if_pos (pu_in (by omega) (by decide)), pu_ix (by omega), pu_ix (by omega), nI_1, h2 139 (by decide)]
    refine ih (i + 1) m _ (by omega) (by omega) (fun j => ?_) (fun c a => by rw [pu_st_ne a]; exact h2 c a)
    rw [pu_st, h1 j]
    by_cases e : j = 41 * q + i
    · subst e
      rw [if_pos ⟨rfl, rfl⟩, if_pos (by omega), Nat.add_sub_cancel_left]
    · rw [if_neg (fun z => e z.2)]
      by_cases z : 41 * q ≤ j ∧ j < 41 * q + i
      · rw [if_pos z, if_pos (by omega)]
      · rw [if_neg z, if_neg (by omega)]
theorem m6_back_loop {k q : Nat} {w0 : ra_W} (hq : q < 2) : ∀ (d i m : Nat) (w : ra_W), i + d = 41 → d + 1 ≤ m → (∀ j, w 139 j = if j < i then w0 142 (41 * q + j) else w0 139 j) → (∀ c, c ≠ 139 → w c = w0 c) → ∃ w', fX6_back k m 1 (nI q) (nI i) w = some (w0 142 (41 * q + 2), w') ∧ (∀ j, j < 41 → w' 139 j = w0 142 (41 * q + j)) ∧ (∀ c, c ≠ 139 → c ≠ 134 → w' c = w0 c) ∧ w' 134 15 = 0 ∧ (∀ i, i ≠ 15 → w' 134 i = w0 134 i) := by
  intro d
  induction d with
  | zero =>
    intro i m w hi hm h1 h2
    obtain ⟨m, rfl⟩ : ∃ q, m = q + 1 := ⟨m - 1, by omega⟩
    have hin : i = 41 := by omega
    subst hin
    rw [fX6_back_1, if_pos (by decide), pu_st_ne (by decide), h1 2, if_pos (by decide)]
    exact ⟨_, rfl, fun j hj => by rw [pu_st_ne (by decide), h1, if_pos hj], fun c a b => by rw [pu_st_ne b]; exact h2 c a, by rw [pu_st_eq], fun i a => by rw [pu_st, if_neg (fun z => a z.2), h2 134 (by decide)]⟩
  | succ d ih =>
    intro i m w hi hm h1 h2
    obtain ⟨m, rfl⟩ : ∃ q, m = q + 1 := ⟨m - 1, by omega⟩
    rw [fX6_back_1, if_neg (show ¬ (41 : Int32) ≤ nI i from nI_ge (b := 41) (by omega) (by decide)), pu_41, if_pos (pu_in (by omega) (by decide)), if_pos (pu_in (by omega) (by decide)), pu_ix (by omega), pu_ix (by omega), nI_1, h2 142 (by decide)]
    refine ih (i + 1) m _ (by omega) (by omega) (fun j => ?_) (fun c a => by rw [pu_st_ne a]; exact h2 c a)
    rw [pu_st, h1 j]
    by_cases e : j = i
    · subst e
      rw [if_pos ⟨rfl, rfl⟩, if_pos (by omega)]
    · rw [if_neg (fun z => e z.2)]
      by_cases z : j < i
      · rw [if_pos z, if_pos (by omega)]
      · rw [if_neg z, if_neg (by omega)]
theorem pu_img_bad {v : Int32} {α : Type} {x y : α} (hb : v < (0 : Int32) ∨ (1 : Int32) < v) : (if v < 0 then x else if v < 2 then y else x) = x := by
  by_cases z0 : v < 0
  · rw [if_pos z0]
  · rw [if_neg z0, if_neg]
    obtain ⟨j, hj, rfl⟩ := nI_of z0
    have h1 : (1 : Int32) < nI j := by rcases hb with z | z; exact absurd z z0; exact z
    have : 1 < j := (nI_ltI (a := 1) (by decide) hj).mp h1
    exact nI_nlt (b := 2) (by omega) hj
theorem op_keep {k : Nat} {w : ra_W} (v : Int32) (hk : 100 ≤ k) (h : Rel w) : op2 (FX5_keep k v) (FX6_keep k v) w := by
  obtain ⟨k, rfl⟩ : ∃ q, k = q + 1 := ⟨k - 1, by omega⟩
  obtain ⟨n, A, T, S, t, kn, H, Ht, hc, h1, h2, hX, hI, hZ⟩ := id h
  have hn : n ≤ 7 := hc.1.1.2.2.2
  rcases pu_rng v 0 1 (by decide) (by decide) with ⟨i, -, hi, rfl⟩ | hb
  · have hi2 : i < 2 := by omega
    have i1 : ∀ x : ra_W, FX6_in (k + 1) (nI i) 0 1 x = some (1, x) := fun x => m6_in1 (lo := 0) (hi := 1) (by omega) (by omega) hi (by decide)
    obtain ⟨w5, g1, g2⟩ := q4_copy (k := k + 1) (b0 := 36 + 7 * i) (b1 := 16) (w := w) (by omega) (by omega)
    have g0 : w5 0 8 = w 0 8 := by rw [g2.2.2.2 0 (by omega)]
    have e1 : FX5_keep (k + 1) (nI i) w = some (nI t, ra_st w5 0 8 (w 0 8 ||| nI (i + 1))) := by
      unfold FX5_keep
      rw [fX5_keep_0, if_neg (nI_pos (by omega)), if_pos (show nI i < 2 from nI_lt (b := 2) hi2 (by decide)), if_pos (pu_in hi2 (by decide)), pu_ix (by omega), show ra_rs 32 i = 36 + 7 * i from if_neg (by decide), g1]
      simp only [ra_bind]
      rw [pu_shl hi2, pu_st_ne (by decide), g0, g2.2.2.2 16 (by omega), h1.2.2.1]
    have x1 : ∀ c, c ≠ 0 → (c < 36 ∨ 49 < c) → ra_st w5 0 8 (w 0 8 ||| nI (i + 1)) c = w c := fun c a b => by rw [pu_st_ne a, g2.2.2.2 c (by omega)]
    have y1 : ∀ j, j < 2 → j ≠ i → ∀ c, 36 + 7 * j ≤ c → c ≤ 36 + 7 * j + 6 → ra_st w5 0 8 (w 0 8 ||| nI (i + 1)) c = w c := fun j a b c d e => by rw [pu_st_ne (by omega), g2.2.2.2 c (by omega)]
    have z1 : ∀ c, c ≠ 0 → ra_st w5 0 8 (w 0 8 ||| nI (i + 1)) c = w5 c := fun c a => by rw [pu_st_ne a]
    have u8 : ra_st w5 0 8 (w 0 8 ||| nI (i + 1)) 0 8 = w 0 8 ||| nI (i + 1) := pu_st_eq
    have u11 : ra_st w5 0 8 (w 0 8 ||| nI (i + 1)) 0 11 = w 0 11 := by rw [pu_st, if_neg (by decide), g2.2.2.2 0 (by omega)]
    generalize ra_st w5 0 8 (w 0 8 ||| nI (i + 1)) = w1 at e1 x1 y1 z1 u8 u11
    have x0 : ∀ c, 133 < c → c ≠ 134 → ra_st w1 134 0 0 c = w c := fun c a b => by rw [pu_st_ne b, x1 c (by omega) (by omega)]
    obtain ⟨w2, p1, p2, p3, p4⟩ := m6_keep_loop (k := k + 1) (q := i) (w0 := ra_st w1 134 0 0) hi2 41 0 k (ra_st w1 134 0 0) (by omega) (by omega) (fun j => by rw [if_neg (by omega)]) (fun _ _ => rfl)
    rw [x0 139 (by decide) (by decide), h2.2.2.1] at p1
    have e2 : FX6_keep (k + 1) (nI i) w1 = some (nI t, w2) := by
      unfold FX6_keep
      rw [fX6_keep_0, i1]
      simp only [ra_bind]
      rw [if_neg (by decide)]
      exact p1
    have x2 : ∀ c, c ≠ 134 → c ≠ 142 → c ≠ 143 → w2 c = w1 c := fun c a b d => by rw [p4 c b d, pu_st_ne a]
    have x4 : ∀ i, i ≠ 0 → w2 134 i = w 134 i := fun i a => by rw [p4 134 (by decide) (by decide), pu_st, if_neg (fun z => a z.2), x1 134 (by omega) (by omega)]
    have xx : ∀ c, c ≠ 0 → (c < 36 ∨ 49 < c) → c ≠ 134 → c ≠ 142 → c ≠ 143 → w2 c = w c := fun c a b d e f => (x2 c d e f).trans (x1 c a b)
    have w20 : w2 0 = w1 0 := x2 0 (by decide) (by decide) (by decide)
    have ho := pu_bit_or (i := i) hI.1 hi2
    refine ⟨_, _, _, e1, e2, n, A, T, S, t, kn, H, Ht, hc, cC_x h1 (fun c a => xx c (by omega) (by omega) (by omega) (by omega) (by omega)), mC_x h2 (xx 136 (by omega) (by omega) (by omega) (by omega) (by omega)) (xx 139 (by omega) (by omega) (by omega) (by omega) (by omega)) (xx 141 (by omega) (by omega) (by omega) (by omega) (by omega)) (x4 15 (by decide)), rX_x hX (by rw [xx 1 (by omega) (by omega) (by omega) (by omega) (by omega)]) (xx 2 (by omega) (by omega) (by omega) (by omega) (by omega)) (x4 2 (by decide)) (xx 135 (by omega) (by omega) (by omega) (by omega) (by omega)), ⟨by rw [w20, u8]; exact ho.1, fun j hj => ?_⟩, rZ_x hZ (by rw [w20, u11]) (x4 20 (by decide)) (xx 33 (by omega) (by omega) (by omega) (by omega) (by omega)) (xx 34 (by omega) (by omega) (by omega) (by omega) (by omega)) (xx 144 (by omega) (by omega) (by omega) (by omega) (by omega)) (xx 145 (by omega) (by omega) (by omega) (by omega) (by omega))⟩
    rw [w20, u8, ho.2 j hj, p3 j, x0 143 (by decide) (by decide), (hI.2 j hj).1]
    by_cases e : j = i
    · subst e
      refine ⟨by simp, fun _ => ⟨S, t, ?_, ?_, ?_, ?_, hc.1, hc.2.1⟩⟩
      · exact cSt_x (cSt_cq hn h1.2.1 g2) (fun c a b => (x2 c (by omega) (by omega) (by omega)).trans (z1 c (by omega)))
      · rw [x2 _ (by omega) (by omega) (by omega), z1 _ (by omega), g2.2.2.1 6 (by omega) (by omega)]
        exact h1.2.2.1
      · refine mRow_c (f := w 139) hn h2.2.1 (fun q hq => ?_)
        rw [p2, if_pos (by omega), x0 139 (by decide) (by decide), Nat.add_sub_cancel_left]
      · show w2 142 (41 * j + 2) = nI t
        rw [p2, if_pos (by omega), x0 139 (by decide) (by decide), Nat.add_sub_cancel_left]
        exact h2.2.2.1
    · refine ⟨by simp [e], fun z => ?_⟩
      have z : pu_bit (w 0 8) j = true := by simpa [e] using z
      refine pOK_x hn ((hI.2 j hj).2 z) (fun c a b => (x2 c (by omega) (by omega) (by omega)).trans (y1 j hj e c a b)) (fun q hq => ?_)
      rw [p2, if_neg (by omega), x0 142 (by decide) (by decide)]
  · replace hb : v < (0 : Int32) ∨ (1 : Int32) < v := hb
    refine op_bad (r := -1) h ?_ ?_
    · unfold FX5_keep
      rw [fX5_keep_0]
      exact pu_img_bad hb
    · unfold FX6_keep
      rw [fX6_keep_0, m6_in0 (by omega) hb]
      rfl
theorem op_back {k : Nat} {w : ra_W} (v : Int32) (hk : 100 ≤ k) (h : Rel w) : op2 (FX5_back k v) (FX6_back k v) w := by
  obtain ⟨k, rfl⟩ : ∃ q, k = q + 1 := ⟨k - 1, by omega⟩
  obtain ⟨n, A, T, S, t, kn, H, Ht, hc, h1, h2, hX, hI, hZ⟩ := id h
  have hn : n ≤ 7 := hc.1.1.2.2.2
  rcases pu_rng v 0 1 (by decide) (by decide) with ⟨i, -, hi, rfl⟩ | hb
  · have hi2 : i < 2 := by omega
    have i1 : ∀ x : ra_W, FX6_in (k + 1) (nI i) 0 1 x = some (1, x) := fun x => m6_in1 (lo := 0) (hi := 1) (by omega) (by omega) hi (by decide)
    have hk3 := (hI.2 i hi2).1
    by_cases hb : pu_bit (w 0 8) i = true
    · obtain ⟨S', t', q1, q2, q3, q4, q5, q6⟩ := (hI.2 i hi2).2 hb
      obtain ⟨w6, g1, g2⟩ := q4_copy (k := k + 1) (b0 := 16) (b1 := 36 + 7 * i) (w := w) (by omega) (by omega)
      have e1 : FX5_back (k + 1) (nI i) w = some (nI t', ra_st w6 30 0 0) := by
        unfold FX5_back
        rw [fX5_back_0, if_neg (nI_pos (by omega)), if_pos (show nI i < 2 from nI_lt (b := 2) hi2 (by decide)), pu_bit_sh hI.1 hi2, if_pos hb, if_neg (by decide), if_pos (pu_in hi2 (by decide)), pu_ix (by omega), show ra_rs 32 i = 36 + 7 * i from if_neg (by decide), g1]
        simp only [ra_bind]
        unfold FX1_lose
        rw [fX1_lose_0]
        simp only []
        rw [pu_st_ne (by decide), g2.2.2.1 6 (by omega) (by omega), q2]
      have x1 : ∀ c, c ≠ 30 → (c < 16 ∨ 22 < c) → ra_st w6 30 0 0 c = w c := fun c a b => by rw [pu_st_ne a, g2.2.2.2 c (by omega)]
      have f1 : fc w (ra_st w6 30 0 0) := fun c _ _ a b _ => x1 c b a
      obtain ⟨nx, n1, n2, n3, n4⟩ := h1.2.2.2
      have C1 : cC (ra_st w6 30 0 0) n T S' t' 0 H Ht := ⟨cNet_x h1.1 (fun x a b => x1 x (by omega) (by omega)), cSt_x (cSt_cq hn q1 g2) (fun c a b => pu_st_ne (by omega)), by rw [pu_st_ne (by decide), g2.2.2.1 6 (by omega) (by omega), q2], ⟨nx, n1, by rw [pu_st_eq]; rfl, by rw [pu_st, if_neg (by decide), g2.2.2.2 30 (by omega)]; exact n3, fun j hj => absurd hj (by omega)⟩⟩
      generalize ra_st w6 30 0 0 = w1 at e1 x1 f1 C1
      have h2c := mC_0 (mC_fc h2 f1)
      have x0 : ∀ c, 133 < c → c ≠ 134 → ra_st w1 134 0 0 c = w c := fun c a b => by rw [pu_st_ne b, x1 c (by omega) (by omega)]
      obtain ⟨w2, p1, p2, p3, p4, p5⟩ := m6_back_loop (k := k + 1) (q := i) (w0 := ra_st w1 134 0 0) hi2 41 0 k (ra_st w1 134 0 0) (by omega) (by omega) (fun j => by rw [if_neg (by omega)]) (fun _ _ => rfl)
      rw [x0 142 (by decide) (by decide)] at p1 p2
      have e2 : FX6_back (k + 1) (nI i) w1 = some (nI t', w2) := by
        unfold FX6_back
        rw [fX6_back_0, i1]
        simp only [ra_bind]
        rw [if_neg (by decide), if_pos (pu_in hi2 (by decide)), pu_ix (by omega), x0 143 (by decide) (by decide), hk3, if_pos hb, if_neg (by decide)]
        rw [← q4]
        exact p1
      refine ⟨_, _, _, e1, e2, Rel_act (S := S') (t := t') (kn := 0) (H := H) (Ht := Ht) ⟨q5, q6, by omega, fun j hj => absurd hj (by omega)⟩ C1 ⟨mNet_x h2c.1 (p3 136 (by decide) (by decide)), mRow_c (g := w2 139) hn q3 p2, by rw [p2 2 (by decide)]; exact q4, ⟨by rw [p4]; rfl, fun j hj => absurd hj (by omega)⟩⟩ f1 (fm_tr (fm_0 w1 0) ⟨fun c a b _ _ _ => p3 c b a, fun i _ a _ => p5 i a⟩) hX hI hZ⟩
    · refine op_bad (r := -2) h ?_ ?_
      · unfold FX5_back
        rw [fX5_back_0, if_neg (nI_pos (by omega)), if_pos (show nI i < 2 from nI_lt (b := 2) hi2 (by decide)), pu_bit_sh hI.1 hi2, if_neg hb, if_pos rfl]
      · unfold FX6_back
        rw [fX6_back_0, i1]
        simp only [ra_bind]
        rw [if_neg (by decide), if_pos (pu_in hi2 (by decide)), pu_ix (by omega), pu_st_ne (by decide), hk3, if_neg hb, if_pos rfl]
  · replace hb : v < (0 : Int32) ∨ (1 : Int32) < v := hb
    refine op_bad (r := -1) h ?_ ?_
    · unfold FX5_back
      rw [fX5_back_0]
      exact pu_img_bad hb
    · unfold FX6_back
      rw [fX6_back_0, m6_in0 (by omega) hb]
      rfl
