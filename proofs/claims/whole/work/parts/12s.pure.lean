/-! ODDS, THE MODEL -/
theorem m6_has2 {k a i : Nat} {w : ra_W} (hk : 1 ≤ k) (ha : a < 128) (hi : i < 7) : FX6_has k (nI a) (nI i) w = some (if a.testBit i = true then 1 else 0, w) := by
  obtain ⟨k, rfl⟩ : ∃ q, k = q + 1 := ⟨k - 1, by omega⟩
  unfold FX6_has
  rw [fX6_has_0]
  by_cases h : a.testBit i = true
  · rw [if_pos ((pu_has ha hi).mpr h), if_pos h]
  · rw [if_neg (fun z => h ((pu_has ha hi).mp z)), if_neg h]
theorem m6_od1 {k n : Nat} {w T S : ra_W} {x N y : Int32} {r : Nat} (hn : n ≤ 7) (hr : r < n) (hT : mNet w n T) (hS : mSt w 139 n S) : ∀ (d i m : Nat), i + d = n → 2 * d + 1 ≤ m → ∃ m', m = m' + 2 * d + 1 ∧ fX6_odds k m 1 x (nI r) N y (nI (bn (sp_ot S r) i)) (ipw 10 (pu_cnt (sp_ot S r) i)) (nI i) 0 0 0 0 0 0 w = fX6_odds k m' 3 x (nI r) N y (nI (bn (sp_ot S r) n)) (ipw 10 (pu_cnt (sp_ot S r) n)) 0 0 0 0 0 0 0 w := by
  intro d
  induction d with
  | zero =>
    intro i m hi hm
    obtain ⟨m, rfl⟩ : ∃ q, m = q + 1 := ⟨m - 1, by omega⟩
    have hin : i = n := by omega
    subst hin
    rw [fX6_odds_1, hT.1, if_pos (nI_le (Nat.le_refl i) (by omega))]
    exact ⟨m, by omega, rfl⟩
  | succ d ih =>
    intro i m hi hm
    obtain ⟨m, rfl⟩ : ∃ q, m = q + 1 + 1 := ⟨m - 2, by omega⟩
    obtain ⟨m', e, ihh⟩ := ih (i + 1) m (by omega) (by omega)
    refine ⟨m', by omega, ?_⟩
    rw [← ihh, pu_bns (by omega), fX6_odds_1, hT.1, if_neg (nI_ge (by omega) (by omega)), pl_13, if_pos (pu_in (by omega) (by decide)), pu_ix (by omega), hS.2.1 i (by omega), fX6_odds_2, fX6_odds_2, nI_1]
    have ec : pu_cnt (sp_ot S r) (i + 1) = pu_cnt (sp_ot S r) i + (if sp_ot S r i = true then 1 else 0) := rfl
    rw [ec]
    by_cases e1 : i = r
    · have hp : ¬ sp_ot S r i = true := by simp [sp_ot, e1]
      rw [if_pos (by rw [e1]), if_neg hp, if_neg hp]
      rfl
    · have hne : ¬ nI i = nI r := fun z => e1 ((nI_eq (by omega) (by omega)).mp z)
      rw [if_neg hne]
      by_cases h0 : S 1 i = 0
      · have hp : sp_ot S r i = true := by simp [sp_ot, h0, e1]
        rw [if_pos h0, if_pos hp, if_pos hp]
        rfl
      · have hp : ¬ sp_ot S r i = true := by simp [sp_ot, h0]
        rw [if_neg h0, if_neg hp, if_neg hp]
        rfl
theorem m6_od4 {k n : Nat} {w T S : ra_W} {x N y al up : Int32} {r q : Nat} (hk : 1 ≤ k) (hn : n ≤ 7) (hq : q < 128) (hT : mNet w n T) : ∀ (d i m : Nat), i + d = n → 2 * d ≤ m → ∃ m', m = m' + 2 * d ∧ fX6_odds k m 4 x (nI r) N y (nI (bn (sp_ot S r) n)) al up (nI q) (wt x (sp_ot S r) (fun j => q.testBit j) i) (nI i) 0 0 0 w = fX6_odds k m' 4 x (nI r) N y (nI (bn (sp_ot S r) n)) al up (nI q) (wt x (sp_ot S r) (fun j => q.testBit j) n) (nI n) 0 0 0 w := by
  intro d
  induction d with
  | zero =>
    intro i m hi hm
    have hin : i = n := by omega
    subst hin
    exact ⟨m, by omega, rfl⟩
  | succ d ih =>
    intro i m hi hm
    obtain ⟨m, rfl⟩ : ∃ q, m = q + 1 + 1 := ⟨m - 2, by omega⟩
    obtain ⟨m', e, ihh⟩ := ih (i + 1) m (by omega) (by omega)
    refine ⟨m', by omega, ?_⟩
    rw [← ihh, wt_s, fX6_odds_4, hT.1, if_neg (nI_ge (by omega) (by omega)), m6_has2 hk (bn_128 hn) (by omega)]
    simp only [ra_bind]
    rw [m6_has2 hk hq (by omega)]
    simp only [fX6_odds_5, nI_1]
    have hb : (bn (sp_ot S r) n).testBit i = sp_ot S r i := by
      rw [bn_t]
      have : decide (i < n) = true := by simp; omega
      rw [this, Bool.true_and]
    rw [hb]
    by_cases hp : sp_ot S r i = true
    · rw [if_pos hp, if_neg (by decide), if_pos hp]
      by_cases hq2 : q.testBit i = true
      · rw [if_pos hq2, if_neg (by decide), if_pos hq2]
      · rw [if_neg hq2, if_pos rfl, if_neg hq2]
    · rw [if_neg hp, if_pos rfl, if_neg hp]
theorem m6_od6 {k n A : Nat} {T S : ra_W} {x y o al up st pt : Int32} {r N : Nat} (hk : 400 ≤ k) (hr : r < n) (hN : N ≤ 20) (hv : iv n A T S) : ∀ (d i m : Nat) (w : ra_W) (b : Bool), i + d = N → 3 * d + 1 ≤ m → mNet w n T → mSt w 140 n (tkS n T S i) → ∃ (m' : Nat) (w' : ra_W), m ≤ m' + 3 * d + 1 ∧ fX6_odds k m 6 x (nI r) (nI N) y o al up st pt (if b = true then 1 else 0) (nI i) 0 0 w = fX6_odds k m' 9 x (nI r) (nI N) y o al 0 st 0 0 0 (if (b || sp_tl n T S r d i) = true then pt else 0) up w' ∧ fg w w' := by
  have hn : n ≤ 7 := hv.1.2.2.2
  intro d
  induction d with
  | zero =>
    intro i m w b hi hm hT h
    obtain ⟨m, rfl⟩ : ∃ q, m = q + 1 := ⟨m - 1, by omega⟩
    rw [fX6_odds_6, if_pos (nI_le (by omega) (by omega))]
    refine ⟨m, w, by omega, ?_, fg_rf w⟩
    have e : (b || sp_tl n T S r 0 i) = b := by rw [show sp_tl n T S r 0 i = false from rfl, Bool.or_false]
    rw [e]
    cases b with
    | true => rw [if_neg (by decide), if_pos rfl]
    | false => rw [if_pos (by decide), if_neg (by decide)]
  | succ d ih =>
    intro i m w b hi hm hT h
    obtain ⟨m, rfl⟩ : ∃ q, m = q + 1 + 1 + 1 := ⟨m - 3, by omega⟩
    rw [fX6_odds_6, if_neg (nI_ge (by omega) (by omega))]
    obtain ⟨w1, g1, g2, g3, g4⟩ := m6_go (k := k) hk hT h (iv_tk hv i)
    have g2 : mSt w1 140 n (tkS n T S (i + 1)) := g2
    have step : sp_tl n T S r (d + 1) i = (sp_onb (tkS n T S (i + 1)) r || sp_tl n T S r d (i + 1)) := rfl
    rw [g1]
    simp only [ra_bind]
    rw [m6_isOn (by omega) g2 hr hn]
    simp only [fX6_odds_7, fX6_odds_8, nI_1]
    cases b with
    | true =>
      rw [if_neg (by decide)]
      obtain ⟨m', w2, f0, f1, f2⟩ := ih (i + 1) m w1 true (by omega) (by omega) g3 g2
      refine ⟨m', w2, by omega, ?_, fg_tr g4 f2⟩
      rw [Bool.true_or] at f1 ⊢
      exact f1
    | false =>
      rw [if_pos (by decide)]
      by_cases ho : tkS n T S (i + 1) 1 r = 4 ∨ tkS n T S (i + 1) 1 r = 5
      · have ho2 : sp_onb (tkS n T S (i + 1)) r = true := by simpa [sp_onb] using ho
        have ho3 : sp_tl n T S r (d + 1) i = true := by rw [step, ho2, Bool.true_or]
        rw [if_pos ho, if_neg (by decide)]
        obtain ⟨m', w2, f0, f1, f2⟩ := ih (i + 1) m w1 true (by omega) (by omega) g3 g2
        refine ⟨m', w2, by omega, ?_, fg_tr g4 f2⟩
        rw [ho3]
        rw [Bool.true_or] at f1
        exact f1
      · have ho2 : sp_onb (tkS n T S (i + 1)) r = false := by simpa [sp_onb] using ho
        rw [ho2, Bool.false_or] at step
        rw [if_neg ho, if_pos rfl, step]
        obtain ⟨m', w2, f0, f1, f2⟩ := ih (i + 1) (m + 1) w1 false (by omega) (by omega) g3 g2
        exact ⟨m', w2, by omega, f1, fg_tr g4 f2⟩
theorem m6_sets_loop {k n A : Nat} {T S : ra_W} {r N x y : Nat} (hk : 500 ≤ k) (hr : r < n) (hN : N ≤ 20) (hx : x ≤ 10) (hy : y ≤ 1) (hv : iv n A T S) : ∀ (d q m : Nat) (w : ra_W), q + d = 2 ^ n → 100 * d + 2 ≤ m → mNet w n T → mSt w 139 n S → ∃ w', fX6_odds k m 3 (nI x) (nI r) (nI N) (nI y) (nI (bn (sp_ot S r) n)) (ipw 10 (pu_cnt (sp_ot S r) n)) (sp_up n T S r N (nI x) q) (nI q) 0 0 0 0 0 w = some (sp_od n T S r N (nI x) y, w') ∧ fg w w' := by
  have hn : n ≤ 7 := hv.1.2.2.2
  have h2 := pu_2n hn
  have hc7 : pu_cnt (sp_ot S r) n ≤ 7 := Nat.le_trans (pu_cnt_le _ n) hn
  intro d
  induction d with
  | zero =>
    intro q m w hi hm hT hS
    obtain ⟨m, rfl⟩ : ∃ q, m = q + 1 := ⟨m - 1, by omega⟩
    have hin : q = 2 ^ n := by omega
    subst hin
    obtain ⟨U, u1, u2⟩ := sp_up_n (T := T) (S := S) (r := r) (N := N) hx hn (2 ^ n)
    have u3 : U < 2 ^ 31 := by omega
    rw [fX6_odds_3, hT.1, pu_shln (by omega), if_pos (nI_le (Nat.le_refl _) (by omega)), u2, show ipw 10 (pu_cnt (sp_ot S r) n) = nI (10 ^ pu_cnt (sp_ot S r) n) from ipw_n (x := 10) _, m6_gcd (by omega) u3 (pu_lt24 hc7)]
    simp only [ra_bind]
    unfold sp_od
    rw [u2, pu_ix u3, show ipw 10 (pu_cnt (sp_ot S r) n) = nI (10 ^ pu_cnt (sp_ot S r) n) from ipw_n (x := 10) _]
    have hg0 : 0 < Nat.gcd U (10 ^ pu_cnt (sp_ot S r) n) := Nat.gcd_pos_of_pos_right _ (Nat.pow_pos (by decide))
    have hg1 : Nat.gcd U (10 ^ pu_cnt (sp_ot S r) n) < 2 ^ 31 := Nat.lt_of_le_of_lt (Nat.gcd_le_right _ (Nat.pow_pos (by decide))) (Nat.lt_trans (pu_lt24 hc7) (by decide))
    generalize Nat.gcd U (10 ^ pu_cnt (sp_ot S r) n) = g at hg0 hg1
    rw [if_pos (nI_ne0 hg0 hg1), if_pos (nI_ne0 hg0 hg1)]
    refine ⟨w, ?_, fg_rf w⟩
    rcases (show y = 0 ∨ y = 1 by omega) with rfl | rfl
    · rw [if_pos (by decide), if_pos rfl]
    · rw [if_neg (by decide), if_neg (by decide)]
  | succ d ih =>
    intro q m w hi hm hT hS
    obtain ⟨m, rfl⟩ : ∃ q, m = q + 1 := ⟨m - 1, by omega⟩
    have hq : q < 2 ^ n := by omega
    have hstep : sp_up n T S r N (nI x) (q + 1) = if sp_sb (sp_ot S r) n q ∧ sp_tq n T S r N q = true then sp_up n T S r N (nI x) q + wt (nI x) (sp_ot S r) (fun i => q.testBit i) n else sp_up n T S r N (nI x) q := rfl
    rw [fX6_odds_3, hT.1, pu_shln (by omega), if_neg (nI_ge hq (by omega))]
    by_cases hs : sp_sb (sp_ot S r) n q
    · rw [if_pos hs]
      obtain ⟨m1, e1, g1⟩ := m6_od4 (k := k) (w := w) (T := T) (S := S) (x := nI x) (N := nI N) (y := nI y) (al := ipw 10 (pu_cnt (sp_ot S r) n)) (up := sp_up n T S r N (nI x) q) (r := r) (q := q) (by omega) hn (by omega) hT n 0 m (by omega) (by omega)
      have g1 : fX6_odds k m 4 (nI x) (nI r) (nI N) (nI y) (nI (bn (sp_ot S r) n)) (ipw 10 (pu_cnt (sp_ot S r) n)) (sp_up n T S r N (nI x) q) (nI q) 1 0 0 0 0 w = _ := g1
      obtain ⟨m1, rfl⟩ : ∃ q, m1 = q + 1 := ⟨m1 - 1, by omega⟩
      rw [g1, fX6_odds_4, hT.1, if_pos (nI_le (Nat.le_refl n) (by omega))]
      obtain ⟨w1, p1, p2, p3, p4⟩ := m6_press (k := k) (v := nI q ||| (1 <<< (nI r &&& 31))) (by omega) hv hT hS
      rw [p1]
      simp only [ra_bind]
      obtain ⟨m2, w2, e2, f1, f2⟩ := m6_od6 (k := k) (x := nI x) (y := nI y) (o := nI (bn (sp_ot S r) n)) (al := ipw 10 (pu_cnt (sp_ot S r) n)) (up := sp_up n T S r N (nI x) q) (st := nI q) (pt := wt (nI x) (sp_ot S r) (fun j => q.testBit j) n) (by omega) hr hN (iv_press (v := nI q ||| (1 <<< (nI r &&& 31))) hv n) N 0 m1 w1 false (by omega) (by omega) p3 p2
      have f1 : fX6_odds k m1 6 (nI x) (nI r) (nI N) (nI y) (nI (bn (sp_ot S r) n)) (ipw 10 (pu_cnt (sp_ot S r) n)) (sp_up n T S r N (nI x) q) (nI q) (wt (nI x) (sp_ot S r) (fun j => q.testBit j) n) 0 0 0 0 w1 = _ := f1
      obtain ⟨m2, rfl⟩ : ∃ q, m2 = q + 1 + 1 := ⟨m2 - 2, by omega⟩
      rw [f1, fX6_odds_9, fX6_odds_10, nI_1, Bool.false_or]
      have fgw := fg_tr (fg_140 p4) f2
      obtain ⟨w3, h3, h4⟩ := ih (q + 1) m2 w2 (by omega) (by omega) (mNet_fg hT fgw) (mSt_fg hS fgw)
      refine ⟨w3, ?_, fg_tr fgw h4⟩
      rw [← h3, hstep]
      by_cases ht : sp_tq n T S r N q = true
      · rw [if_pos ht, if_pos ⟨hs, ht⟩]
      · rw [if_neg ht, if_neg (fun z => ht z.2), show sp_up n T S r N (nI x) q + 0 = sp_up n T S r N (nI x) q by grind]
    · obtain ⟨m, rfl⟩ : ∃ q, m = q + 1 := ⟨m - 1, by omega⟩
      rw [if_neg hs, fX6_odds_10, nI_1]
      obtain ⟨w2, f1, f2⟩ := ih (q + 1) m w (by omega) (by omega) hT hS
      rw [hstep, if_neg (fun z => hs z.1)] at f1
      exact ⟨w2, f1, f2⟩
theorem op_odds {k : Nat} {w : ra_W} (v u z y : Int32) (hk : 15000 ≤ k) (h : Rel w) : op2 (FX5_odds k v u z y) (FX6_odds k v u z y) w := by
  obtain ⟨k, rfl⟩ : ∃ q, k = q + 1 := ⟨k - 1, by omega⟩
  obtain ⟨n, A, T, S, t, kn, H, Ht, hc, h1, h2, hX, hI, hZ⟩ := id h
  have hn : n ≤ 7 := hc.1.1.2.2.2
  have h20 := mC_0 h2
  have hp2 := pu_2n hn
  rcases pu_rng v 0 10 (by decide) (by decide) with ⟨x, -, hx, rfl⟩ | hb
  · have i1 : ∀ a : ra_W, FX6_in (k + 1) (nI x) 0 10 a = some (1, a) := fun a => m6_in1 (lo := 0) (hi := 10) (by omega) (by omega) hx (by decide)
    have c1 : ¬ nI x < (0 : Int32) := nI_pos (by omega)
    have c2 : ¬ (10 : Int32) < nI x := nI_nlt (a := 10) hx (by decide)
    rcases q2_has (v := u) (k := k + 1) (by omega) h1.1 hn with ⟨r, hr, rfl, e⟩ | ⟨hno, e⟩
    · have i2 : ∀ a : ra_W, mNet a n T → FX6_isRadio (k + 1) (nI r) a = some (1, a) := fun a ha => (m6_isRadio (k := k + 1) (by omega) ha hn).1 r hr rfl
      rcases pu_rng z 1 20 (by decide) (by decide) with ⟨N, hN1, hN, rfl⟩ | hb2
      · have i3 : ∀ a : ra_W, FX6_in (k + 1) (nI N) 1 20 a = some (1, a) := fun a => m6_in1 (lo := 1) (hi := 20) (by omega) hN1 hN (by decide)
        have c3 : ¬ nI N < (1 : Int32) := nI_nlt (b := 1) hN1 (by omega)
        have c4 : ¬ (20 : Int32) < nI N := nI_nlt (a := 20) hN (by decide)
        rcases pu_rng y 0 1 (by decide) (by decide) with ⟨y, -, hy, rfl⟩ | hb3
        · have i4 : ∀ a : ra_W, FX6_in (k + 1) (nI y) 0 1 a = some (1, a) := fun a => m6_in1 (lo := 0) (hi := 1) (by omega) (by omega) hy (by decide)
          obtain ⟨w1, f1, f2⟩ := q5_sets_loop (k := k + 1) (x := x) (y := y) (by omega) hr hN hx hy hc.1 (2 ^ n) 0 k w (by omega) (by omega) h1.1 h1.2.1
          have e1 : FX5_odds (k + 1) (nI x) (nI r) (nI N) (nI y) w = some (sp_od n T S r N (nI x) y, w1) := by
            unfold FX5_odds
            rw [fX5_odds_0, if_neg c1, if_neg c2, e]
            simp only [ra_bind]
            rw [if_neg (by decide), if_neg c3, if_neg c4, (q5_isBit (by omega)).1 ⟨y, by omega, rfl⟩]
            simp only []
            rw [if_neg (by decide), q4_idle (by omega) hn h1.1 h1.2.1]
            simp only []
            rw [sp_ot_bn hn hr]
            exact f1
          have ffz := ff_fz f2
          have h2c := mC_0 (mC_fz h2 ffz)
          obtain ⟨m', em, g1⟩ := m6_od1 (k := k + 1) (x := nI x) (N := nI N) (y := nI y) hn hr h2c.1 h2c.2.1 n 0 k (by omega) (by omega)
          obtain ⟨w2, p1, p2⟩ := m6_sets_loop (k := k + 1) (x := x) (y := y) (by omega) hr hN hx hy hc.1 (2 ^ n) 0 m' (ra_st w1 134 0 0) (by omega) (by omega) h2c.1 h2c.2.1
          have e2 : FX6_odds (k + 1) (nI x) (nI r) (nI N) (nI y) w1 = some (sp_od n T S r N (nI x) y, w2) := by
            unfold FX6_odds
            rw [fX6_odds_0, i1]
            simp only [ra_bind]
            rw [if_neg (by decide), i2 _ h2c.1]
            simp only []
            rw [if_neg (by decide), i3]
            simp only []
            rw [if_neg (by decide), i4]
            simp only []
            rw [if_neg (by decide)]
            exact g1.trans p1
          exact op_ask h e1 e2 ffz (fg_fz (fg_tr (fg_0 w1 0) p2))
        · replace hb3 : y < (0 : Int32) ∨ (1 : Int32) < y := hb3
          refine op_bad (r := -1) h ?_ ?_
          · unfold FX5_odds
            rw [fX5_odds_0, if_neg c1, if_neg c2, e]
            simp only [ra_bind]
            rw [if_neg (by decide), if_neg c3, if_neg c4, (q5_isBit (by omega)).2 hb3]
            rfl
          · unfold FX6_odds
            rw [fX6_odds_0, i1]
            simp only [ra_bind]
            rw [if_neg (by decide), i2 _ h20.1]
            simp only []
            rw [if_neg (by decide), i3]
            simp only []
            rw [if_neg (by decide), m6_in0 (by omega) hb3]
            rfl
      · replace hb2 : z < (1 : Int32) ∨ (20 : Int32) < z := hb2
        refine op_bad (r := -1) h ?_ ?_
        · unfold FX5_odds
          rw [fX5_odds_0, if_neg c1, if_neg c2, e]
          simp only [ra_bind]
          rw [if_neg (by decide)]
          rcases hb2 with q | q
          · rw [if_pos q]
          · by_cases q0 : z < 1
            · rw [if_pos q0]
            · rw [if_neg q0, if_pos q]
        · unfold FX6_odds
          rw [fX6_odds_0, i1]
          simp only [ra_bind]
          rw [if_neg (by decide), i2 _ h20.1]
          simp only []
          rw [if_neg (by decide), m6_in0 (by omega) hb2]
          rfl
    · refine op_bad (r := -1) h ?_ ?_
      · unfold FX5_odds
        rw [fX5_odds_0, if_neg c1, if_neg c2, e]
        rfl
      · unfold FX6_odds
        rw [fX6_odds_0, i1]
        simp only [ra_bind]
        rw [if_neg (by decide), (m6_isRadio (k := k + 1) (by omega) h20.1 hn).2 hno]
        rfl
  · replace hb : v < (0 : Int32) ∨ (10 : Int32) < v := hb
    refine op_bad (r := -1) h ?_ ?_
    · unfold FX5_odds
      rw [fX5_odds_0]
      rcases hb with q | q
      · rw [if_pos q]
      · by_cases q0 : v < 0
        · rw [if_pos q0]
        · rw [if_neg q0, if_pos q]
    · unfold FX6_odds
      rw [fX6_odds_0, m6_in0 (by omega) hb]
      rfl
