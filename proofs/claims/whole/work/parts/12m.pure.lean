/-- the model's trial: told's channels change on the way -/
def fe (w w' : ra_W) : Prop := (∀ c, c ≠ 134 → c ≠ 136 → c ≠ 140 → c ≠ 146 → c ≠ 147 → w' c = w c) ∧ (∀ i, i ≠ 0 → i ≠ 22 → w' 134 i = w 134 i) ∧ (∀ i, i ≠ 3 → i ≠ 4 → w' 136 i = w 136 i)
theorem fe_rf (w : ra_W) : fe w w := ⟨fun _ _ _ _ _ _ => rfl, fun _ _ _ => rfl, fun _ _ _ => rfl⟩
theorem fe_tr {w w1 w2 : ra_W} (h1 : fe w w1) (h2 : fe w1 w2) : fe w w2 := ⟨fun c a b d e f => (h2.1 c a b d e f).trans (h1.1 c a b d e f), fun i a b => (h2.2.1 i a b).trans (h1.2.1 i a b), fun i a b => (h2.2.2 i a b).trans (h1.2.2 i a b)⟩
theorem fe_fg {w w' : ra_W} (h : fg w w') : fe w w' := ⟨fun c a _ b d e => h.1 c a b d e, h.2, fun i _ _ => by rw [h.1 136 (by decide) (by decide) (by decide) (by decide)]⟩
theorem fe_136 (w : ra_W) {i : Nat} (x : Int32) (hi : i = 3 ∨ i = 4) : fe w (ra_st w 136 i x) := ⟨fun c _ a _ _ _ => pu_st_ne a, fun j _ _ => by rw [pu_st_ne (by decide)], fun j a b => by rw [pu_st, if_neg (by omega)]⟩
theorem m6_60_loop {k n A : Nat} {T S : ra_W} {v a b e f g h : Int32} (hk : 400 ≤ k) (hv : iv n A T S) : ∀ (d i m : Nat) (w : ra_W), i + d = 60 → d ≤ m → mNet w n T → mSt w 140 n (tkS n T S i) → ∃ (m' : Nat) (w' : ra_W), m = m' + d ∧ fX6_enough k m 4 v a b e f g h (nI i) 0 0 w = fX6_enough k m' 4 v a b e f g h (nI 60) 0 0 w' ∧ mSt w' 140 n (tkS n T S 60) ∧ fg w w' := by
  intro d
  induction d with
  | zero =>
    intro i m w hi hm hT hw
    have hin : i = 60 := by omega
    subst hin
    exact ⟨m, w, rfl, rfl, hw, fg_rf w⟩
  | succ d ih =>
    intro i m w hi hm hT hw
    obtain ⟨m, rfl⟩ : ∃ q, m = q + 1 := ⟨m - 1, by omega⟩
    rw [fX6_enough_4, if_neg (show ¬ (60 : Int32) ≤ nI i from nI_ge (b := 60) (by omega) (by decide))]
    obtain ⟨w1, g1, g2, g3, g4⟩ := m6_go (k := k) hk hT hw (iv_tk hv i)
    rw [g1]
    simp only [ra_bind, nI_1]
    obtain ⟨m', w2, e, f1, f2, f3⟩ := ih (i + 1) m w1 (by omega) (by omega) g3 g2
    exact ⟨m', w2, by omega, f1, f2, fg_tr g4 f3⟩
theorem sp_mx_le {n : Nat} {T S : ra_W} {c i : Nat} : (if T 1 i - sp_fr n T S i ≤ nI c then nI c else T 1 i - sp_fr n T S i) = sp_mx n T S c i := by
  unfold sp_mx
  by_cases h : T 1 i - sp_fr n T S i ≤ nI c
  · rw [if_pos h, if_neg (Int32.not_lt.mpr h)]
  · rw [if_neg h, if_pos (Int32.not_le.mp h)]
theorem m6_enough_step {k n A c m : Nat} {u w T S : ra_W} {v a b its : Int32} (hk : 400 ≤ k) (h1 : 1 ≤ c) (h3 : c ≤ 3) (hv : iv n A T S) (hT : mNet u n T) (hS : mSt u 139 n S) (hf : fe u w) (hm : 66 ≤ m) : ∃ (m' : Nat) (w' : ra_W), m = m' + 65 ∧ fX6_enough k m 1 v a b its (T 1 0 - sp_fr n T S 0) (T 1 1 - sp_fr n T S 1) (nI c) 0 0 0 w = fX6_enough k m' 1 v a b (if sp_en n T S v c then nI c else its) (T 1 0 - sp_fr n T S 0) (T 1 1 - sp_fr n T S 1) (nI (c - 1)) 0 0 0 w' ∧ fe u w' := by
  have hn : n ≤ 7 := hv.1.2.2.2
  have hv' := iv_tc hv h1 h3
  have hx0 := sp_mx_le (n := n) (T := T) (S := S) (c := c) (i := 0)
  have hx1 := sp_mx_le (n := n) (T := T) (S := S) (c := c) (i := 1)
  generalize T 1 0 - sp_fr n T S 0 = t0 at hx0
  generalize T 1 1 - sp_fr n T S 1 = t1 at hx1
  obtain ⟨m, rfl⟩ : ∃ q, m = q + 1 + 1 + 1 := ⟨m - 3, by omega⟩
  rw [fX6_enough_1, if_neg (show ¬ nI c ≤ 0 from nI_nle (by omega) (by omega))]
  have e1 : (if t0 ≤ nI c then fX6_enough k (m + 1 + 1) 2 v a b its t0 t1 (nI c) 0 (nI c) 3 w else fX6_enough k (m + 1 + 1) 2 v a b its t0 t1 (nI c) 0 t0 3 w) = fX6_enough k (m + 1 + 1) 2 v a b its t0 t1 (nI c) 0 (sp_mx n T S c 0) 3 w := by
    rw [← hx0]
    by_cases q : t0 ≤ nI c
    · rw [if_pos q, if_pos q]
    · rw [if_neg q, if_neg q]
  rw [e1, fX6_enough_2, if_pos (show ra_in (3 : Int32) 19 from pu_in (r := 3) (by omega) (by decide)), show ra_ix (3 : Int32) = 3 from pu_ix (r := 3) (by omega)]
  have e2 : (if t1 ≤ nI c then fX6_enough k (m + 1) 3 v a b its t0 t1 (nI c) 0 (nI c) 4 (ra_st w 136 3 (sp_mx n T S c 0)) else fX6_enough k (m + 1) 3 v a b its t0 t1 (nI c) 0 t1 4 (ra_st w 136 3 (sp_mx n T S c 0))) = fX6_enough k (m + 1) 3 v a b its t0 t1 (nI c) 0 (sp_mx n T S c 1) 4 (ra_st w 136 3 (sp_mx n T S c 0)) := by
    rw [← hx1]
    by_cases q : t1 ≤ nI c
    · rw [if_pos q, if_pos q]
    · rw [if_neg q, if_neg q]
  rw [e2, fX6_enough_3, if_pos (show ra_in (4 : Int32) 19 from pu_in (r := 4) (by omega) (by decide)), show ra_ix (4 : Int32) = 4 from pu_ix (r := 4) (by omega)]
  have hf2 : fe u (ra_st (ra_st w 136 3 (sp_mx n T S c 0)) 136 4 (sp_mx n T S c 1)) := fe_tr hf (fe_tr (fe_136 w _ (Or.inl rfl)) (fe_136 _ _ (Or.inr rfl)))
  have hT2 : mNet (ra_st (ra_st w 136 3 (sp_mx n T S c 0)) 136 4 (sp_mx n T S c 1)) n (sp_tc n T S c) := by
    have e := fun i (q : i ≠ 3 ∧ i ≠ 4) => hf2.2.2 i q.1 q.2
    unfold mNet
    rw [e 0 (by omega), e 1 (by omega), e 2 (by omega), sp_tc_ne (by decide), sp_tc_ne (by decide)]
    refine ⟨hT.1, hT.2.1, hT.2.2.1, fun i hi => ?_, fun r hr => ?_, fun r hr => ?_⟩
    · rw [sp_tc_1 hi]
      rcases (show i = 0 ∨ i = 1 by omega) with rfl | rfl <;> simp [pu_st]
    · rw [e (5 + r) (by omega), sp_tc_ne (by decide)]
      exact hT.2.2.2.2.1 r hr
    · rw [e (12 + r) (by omega), sp_tc_ne (by decide)]
      exact hT.2.2.2.2.2 r hr
  have hS2 := mSt_x hS (hf2.1 139 (by decide) (by decide) (by decide) (by decide) (by decide))
  generalize ra_st (ra_st w 136 3 (sp_mx n T S c 0)) 136 4 (sp_mx n T S c 1) = w2 at hf2 hT2 hS2
  obtain ⟨w3, p1, p2, p3, p4⟩ := m6_press (k := k) (v := v) (by omega) hv' hT2 hS2
  rw [p1]
  simp only [ra_bind]
  have f3 : fe u w3 := fe_tr hf2 (fe_fg (fg_140 p4))
  obtain ⟨m', w4, hm', q1, q2, q3⟩ := m6_60_loop (k := k) (v := v) (a := a) (b := b) (e := its) (f := t0) (g := t1) (h := nI c) hk (iv_press (v := v) hv' n) 60 0 m w3 (by omega) (by omega) p3 p2
  have f4 : fe u w4 := fe_tr f3 (fe_fg q3)
  have hS4 := mSt_x hS (f4.1 139 (by decide) (by decide) (by decide) (by decide) (by decide))
  rw [nI_0] at q1
  obtain ⟨m', rfl⟩ : ∃ q, m' = q + 1 + 1 := ⟨m' - 2, by omega⟩
  have em : nI c + (-1) = nI (c - 1) := by
    obtain ⟨q, rfl⟩ : ∃ q, c = q + 1 := ⟨c - 1, by omega⟩
    rw [Nat.add_sub_cancel, nI_succ]
    grind
  rw [q1, fX6_enough_4, if_pos (show (60 : Int32) ≤ nI 60 by decide), q2.2.2.2.2.2.2.2.2, hS4.2.2.2.2.2.2.2.2, fX6_enough_5, fX6_enough_5, em]
  by_cases he : sp_en n T S v c
  · rw [if_pos he, if_pos he]
    exact ⟨m', w4, by omega, rfl, f4⟩
  · rw [if_neg he, if_neg he]
    exact ⟨m', w4, by omega, rfl, f4⟩
theorem m6_enough {k n A : Nat} {w T S : ra_W} {v : Int32} (hk : 600 ≤ k) (hv : iv n A T S) (hT : mNet w n T) (hS : mSt w 139 n S) : ∃ w', FX6_enough k v w = some (sp_wv n T S v 3 1, w') ∧ fg w w' := by
  have hn : n ≤ 7 := hv.1.2.2.2
  obtain ⟨k, rfl⟩ : ∃ q, k = q + 1 := ⟨k - 1, by omega⟩
  unfold FX6_enough
  have g0 := m6_free (k := k + 1) (i := 0) (by omega) (by decide) (iv_hq hv) hT hS hn
  have g1 := m6_free (k := k + 1) (i := 1) (by omega) (by decide) (iv_hq hv) hT hS hn
  rw [show nI 0 = (0 : Int32) from rfl] at g0
  rw [show nI 1 = (1 : Int32) from rfl] at g1
  rw [fX6_enough_0, g0]
  simp only [ra_bind]
  rw [g1]
  simp only []
  have t0 : w 136 3 = T 1 0 := hT.2.2.2.1 0 (by decide)
  have t1 : w 136 4 = T 1 1 := hT.2.2.2.1 1 (by decide)
  rw [t0, t1]
  obtain ⟨m1, w1, c1, a1, b1⟩ := m6_enough_step (k := k + 1) (c := 3) (m := k) (u := w) (w := w) (v := v) (a := T 1 0) (b := T 1 1) (its := -9) (by omega) (by omega) (by omega) hv hT hS (fe_rf w) (by omega)
  obtain ⟨m2, w2, c2, a2, b2⟩ := m6_enough_step (k := k + 1) (c := 2) (m := m1) (u := w) (w := w1) (v := v) (a := T 1 0) (b := T 1 1) (its := if sp_en n T S v 3 then nI 3 else -9) (by omega) (by omega) (by omega) hv hT hS b1 (by omega)
  obtain ⟨m3, w3, c3, a3, b3⟩ := m6_enough_step (k := k + 1) (c := 1) (m := m2) (u := w) (w := w2) (v := v) (a := T 1 0) (b := T 1 1) (its := if sp_en n T S v 2 then nI 2 else if sp_en n T S v 3 then nI 3 else -9) (by omega) (by omega) (by omega) hv hT hS b2 (by omega)
  obtain ⟨m4, rfl⟩ : ∃ q, m3 = q + 1 := ⟨m3 - 1, by omega⟩
  rw [show nI 3 = (3 : Int32) from rfl, show (3 - 1 : Nat) = 2 from rfl] at a1
  rw [show nI 3 = (3 : Int32) from rfl, show (2 - 1 : Nat) = 1 from rfl] at a2
  rw [show nI 3 = (3 : Int32) from rfl, show (1 - 1 : Nat) = 0 from rfl, fX6_enough_1, if_pos (show nI 0 ≤ (0 : Int32) by decide)] at a3
  refine ⟨ra_st (ra_st w3 136 3 (T 1 0)) 136 4 (T 1 1), ?_, ?_⟩
  · rw [a1, a2, a3]
    rfl
  · refine ⟨fun c a b d e => ?_, fun i a b => ?_⟩
    · by_cases hc : c = 136
      · subst hc
        funext i
        simp only [pu_st]
        by_cases i4 : i = 4
        · subst i4
          simp [t1]
        · by_cases i3 : i = 3
          · subst i3
            simp [t0]
          · simp [i3, i4]
            exact b3.2.2 i i3 i4
      · rw [pu_st_ne hc, pu_st_ne hc]
        exact b3.1 c a hc b d e
    · rw [pu_st_ne (by decide), pu_st_ne (by decide)]
      exact b3.2.1 i a b
theorem op_wave {k : Nat} {w : ra_W} (v u : Int32) (hk : 3000 ≤ k) (h : Rel w) : op2 (FX5_wave k v u) (FX6_wave k v u) w := by
  obtain ⟨k, rfl⟩ : ∃ q, k = q + 1 := ⟨k - 1, by omega⟩
  obtain ⟨n, A, T, S, t, kn, H, Ht, hc, h1, h2, hX, hI, hZ⟩ := id h
  have hn : n ≤ 7 := hc.1.1.2.2.2
  have e6 : ∀ x : ra_W, ra_st x 134 0 0 136 0 = x 136 0 := fun x => by rw [pu_st_ne (by decide)]
  by_cases h0 : v < 0
  · refine op_bad (r := -1) h ?_ ?_
    · unfold FX5_wave
      rw [fX5_wave_0, if_pos h0]
    · unfold FX6_wave
      rw [fX6_wave_0, if_pos h0]
  · by_cases hb : (1 <<< (nI n &&& 31)) ≤ v
    · refine op_bad (r := -1) h ?_ ?_
      · unfold FX5_wave
        rw [fX5_wave_0, if_neg h0, h1.1.1, if_pos hb]
      · unfold FX6_wave
        rw [fX6_wave_0, if_neg h0, e6, h2.1.1, if_pos hb]
    · rcases pu_rng u 0 1 (by decide) (by decide) with ⟨y, -, hy, rfl⟩ | hb2
      · have i2 : ∀ x : ra_W, FX6_in (k + 1) (nI y) 0 1 x = some (1, x) := fun x => m6_in1 (lo := 0) (hi := 1) (by omega) (by omega) hy (by decide)
        rcases (show y = 0 ∨ y = 1 by omega) with rfl | rfl
        · obtain ⟨w1, g1, g2, g3⟩ := q5_fut (k := k + 1) (by omega) hn h1.2.1
          obtain ⟨w2, p1, p2, p3, p4⟩ := q4_press (k := k + 1) (v := v) (by omega) (Or.inl rfl) hc.1 (cNet_ff h1.1 g3) g2
          obtain ⟨w3, f1, f2⟩ := q5_lasts_loop (k := k + 1) (S := sp_press n v S) (by omega) (iv_press hc.1 n) 61 0 k w2 (by omega) (by omega) p3 p2
          have e1 : FX5_wave (k + 1) v (nI 0) w = some (sp_lasts n T (sp_press n v S) 61 0, w3) := by
            unfold FX5_wave
            rw [fX5_wave_0, if_neg h0, h1.1.1, if_neg hb, (q5_isBit (by omega)).1 ⟨0, by omega, rfl⟩]
            simp only [ra_bind]
            rw [if_neg (by decide), if_pos (by decide)]
            unfold FX5_waveLasts
            rw [fX5_waveLasts_0, g1]
            simp only [ra_bind]
            rw [p1]
            simp only []
            have f1 : fX5_waveLasts (k + 1) k 1 0 0 w2 = some (sp_lasts n T (sp_press n v S) 61 0, w3) := f1
            rw [f1]
          have ffz := ff_fz (ff_tr g3 (ff_tr p4 f2))
          have h2c := mC_0 (mC_fz h2 ffz)
          obtain ⟨w4, a1, a2, a3, a4⟩ := m6_press (k := k + 1) (v := v) (by omega) hc.1 h2c.1 h2c.2.1
          obtain ⟨w5, b1, b2⟩ := m6_lasts_loop (k := k + 1) (S := sp_press n v S) (by omega) (iv_press hc.1 n) 61 0 k w4 (by omega) (by omega) a3 a2
          have e2 : FX6_wave (k + 1) v (nI 0) w3 = some (sp_lasts n T (sp_press n v S) 61 0, w5) := by
            unfold FX6_wave
            rw [fX6_wave_0, if_neg h0, h2c.1.1, if_neg hb, i2]
            simp only [ra_bind]
            rw [if_neg (by decide), if_neg (by decide), a1]
            simp only []
            unfold FX6_lasts
            have b1 : fX6_lasts (k + 1) k 1 0 0 0 0 w4 = some (sp_lasts n T (sp_press n v S) 61 0, w5) := b1
            rw [fX6_lasts_0, b1]
          exact op_ask h e1 e2 ffz (fg_fz (fg_tr (fg_0 w3 0) (fg_tr (fg_140 a4) b2)))
        · obtain ⟨w1, f1, f2⟩ := q5_wave_loop (k := k + 1) (v := v) (by omega) hc.1 3 1 k w (by omega) (by omega) (by omega) h1.1 h1.2.1
          have e1 : FX5_wave (k + 1) v (nI 1) w = some (sp_wv n T S v 3 1, w1) := by
            unfold FX5_wave
            rw [fX5_wave_0, if_neg h0, h1.1.1, if_neg hb, (q5_isBit (by omega)).1 ⟨1, by omega, rfl⟩]
            simp only [ra_bind]
            rw [if_neg (by decide), if_neg (by decide)]
            exact f1
          have ffz := ff_fz f2
          have h2c := mC_0 (mC_fz h2 ffz)
          obtain ⟨w2, a1, a2⟩ := m6_enough (k := k + 1) (v := v) (by omega) hc.1 h2c.1 h2c.2.1
          have e2 : FX6_wave (k + 1) v (nI 1) w1 = some (sp_wv n T S v 3 1, w2) := by
            unfold FX6_wave
            rw [fX6_wave_0, if_neg h0, h2c.1.1, if_neg hb, i2]
            simp only [ra_bind]
            rw [if_neg (by decide), if_pos (by decide), a1]
          exact op_ask h e1 e2 ffz (fg_fz (fg_tr (fg_0 w1 0) a2))
      · replace hb2 : u < (0 : Int32) ∨ (1 : Int32) < u := hb2
        refine op_bad (r := -1) h ?_ ?_
        · unfold FX5_wave
          rw [fX5_wave_0, if_neg h0, h1.1.1, if_neg hb, (q5_isBit (by omega)).2 hb2]
          rfl
        · unfold FX6_wave
          rw [fX6_wave_0, if_neg h0, e6, h2.1.1, if_neg hb, m6_in0 (by omega) hb2]
          rfl
