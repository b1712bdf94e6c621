/-! TICKS -/
abbrev sp_onb (S : ra_W) (r : Nat) : Bool := decide (S 1 r = 4 ∨ S 1 r = 5)
def tkS (n : Nat) (T S : ra_W) : Nat → ra_W
  | 0 => S
  | i + 1 => sp_tick n T (tkS n T S i)
def tkK (kn : Nat) : Nat → Nat
  | 0 => kn
  | i + 1 => min 12 (tkK kn i + 1)
def tkH (n : Nat) (T S : ra_W) (H : Nat → ra_W) : Nat → Nat → ra_W
  | 0 => H
  | i + 1 => pu_push (tkS n T S i) (tkH n T S H i)
def tkT (t : Nat) (Ht : Nat → Nat) : Nat → Nat → Nat
  | 0 => Ht
  | i + 1 => pu_push (t + i) (tkT t Ht i)
theorem rC_tk {n A : Nat} {T S : ra_W} {t kn : Nat} {H : Nat → ra_W} {Ht : Nat → Nat} (h : rC n A T S t kn H Ht) : ∀ i, t + i ≤ 999 → rC n A T (tkS n T S i) (t + i) (tkK kn i) (tkH n T S H i) (tkT t Ht i)
  | 0, _ => h
  | i + 1, hi => by
    have ih := rC_tk h i (by omega)
    exact rC_push ih (iv_tick ih.1) hi
theorem q5_tick_loop {k n A : Nat} {T S : ra_W} {t kn N : Nat} {H : Nat → ra_W} {Ht : Nat → Nat} (hk : 300 ≤ k) (hN : N ≤ 12) (ht : t + N ≤ 999) (hc : rC n A T S t kn H Ht) : ∀ (d i m : Nat) (w : ra_W), i + d = N → cC w n T (tkS n T S i) (t + i) (tkK kn i) (tkH n T S H i) (tkT t Ht i) → ∃ w', fX5_ticks k (m + d) 1 (nI N) (nI i) 0 0 0 w = fX5_ticks k m 1 (nI N) (nI N) 0 0 0 w' ∧ cC w' n T (tkS n T S N) (t + N) (tkK kn N) (tkH n T S H N) (tkT t Ht N) ∧ fc w w' := by
  intro d
  induction d with
  | zero =>
    intro i m w hi h
    have hin : i = N := by omega
    subst hin
    exact ⟨w, rfl, h, fc_rf w⟩
  | succ d ih =>
    intro i m w hi h
    have hci := rC_tk hc i (by omega)
    have hn : n ≤ 7 := hci.1.1.2.2.2
    rw [show m + (d + 1) = m + d + 1 by omega, fX5_ticks_1, if_neg (nI_ge (by omega) (by omega))]
    obtain ⟨w1, g1, g2, g3⟩ := act_rec (k := k) (by omega) hn hci.2.2.1 h
    rw [g1]
    simp only [ra_bind]
    obtain ⟨w2, p1, p2, p3, p4⟩ := q0_pass (k := k) (a := 3) (b := 16) (by omega) (by omega) (by omega) (by omega) g2.1 g2.2.1 hci.1
    rw [p1]
    simp only [nI_1]
    have x2 : ∀ c, (c < 14 ∨ 22 < c) → w2 c = w1 c := fun c a => p3 c (by omega) (by omega) (by omega)
    have ht2 : w2 16 6 = nI (t + i + 1) := by
      rw [p4, g2.2.2.1, nI_1]
      rcases Nat.lt_or_ge (t + i + 1) 999 with q | q
      · rw [if_pos (show nI (t + i + 1) < 999 from nI_lt (b := 999) q (by decide))]
      · rw [if_neg (show ¬ nI (t + i + 1) < 999 from nI_nlt (b := 999) q (by omega)), show t + i + 1 = 999 by omega]
        rfl
    obtain ⟨w3, f1, f2, f3⟩ := ih (i + 1) m w2 (by omega) (cC_S g2 p2 ht2 x2)
    exact ⟨w3, f1, f2, fc_tr (fc_rec g3) (fc_tr (fc_S x2) f3)⟩
theorem fm_gf {w w' : ra_W} (h1 : ∀ x, x ≠ 139 → x ≠ 134 → x ≠ 146 → x ≠ 147 → w' x = w x) (h2 : ∀ i, i ≠ 22 → w' 134 i = w 134 i) : fm w w' := ⟨fun c a b _ d e => h1 c b a d e, fun i _ _ a => h2 i a⟩
theorem m6_tick_loop {k n A : Nat} {T S : ra_W} {t kn N : Nat} {H : Nat → ra_W} {Ht : Nat → Nat} (hk : 700 ≤ k) (hN : N ≤ 12) (ht : t + N ≤ 999) (hc : rC n A T S t kn H Ht) : ∀ (d i m : Nat) (w : ra_W), i + d = N → mC w n T (tkS n T S i) (t + i) (tkK kn i) (tkH n T S H i) (tkT t Ht i) → ∃ w', fX6_ticks k (m + d) 1 (nI N) (nI i) 0 0 0 w = fX6_ticks k m 1 (nI N) (nI N) 0 0 0 w' ∧ mC w' n T (tkS n T S N) (t + N) (tkK kn N) (tkH n T S H N) (tkT t Ht N) ∧ fm w w' := by
  intro d
  induction d with
  | zero =>
    intro i m w hi h
    have hin : i = N := by omega
    subst hin
    exact ⟨w, rfl, h, fm_rf w⟩
  | succ d ih =>
    intro i m w hi h
    have hci := rC_tk hc i (by omega)
    have hn : n ≤ 7 := hci.1.1.2.2.2
    rw [show m + (d + 1) = m + d + 1 by omega, fX6_ticks_1, if_neg (nI_ge (by omega) (by omega))]
    obtain ⟨w1, g1, g2, g3, g4⟩ := act_note (k := k) (by omega) hn hci.2.2.1 h
    rw [g1]
    simp only [ra_bind]
    obtain ⟨w2, p1, p2, p3, p4, p5⟩ := m6_goes (k := k) (c := 139) (by omega) (Or.inl rfl) g2.1 g2.2.1 hci.1
    rw [p1]
    simp only [nI_1]
    obtain ⟨w3, f1, f2, f3⟩ := ih (i + 1) m w2 (by omega) (mC_S g2 p2 (by rw [p5, g2.2.2.1, nI_1]; rfl) (p3 136 (by decide) (by decide) (by decide) (by decide)) (p3 141 (by decide) (by decide) (by decide) (by decide)) (p4 15 (by decide)))
    exact ⟨w3, f1, f2, fm_tr (fm_note g3 g4) (fm_tr (fm_gf p3 p4) f3)⟩
theorem q5_on_loop {k n : Nat} {T S w : ra_W} (hk : 1 ≤ k) (hn : n ≤ 7) (hT : cNet w 3 n T) (h : cSt w 16 n S) : ∀ (d i m : Nat), i + d = n → 2 * d + 1 ≤ m → fX5_ticks k m 2 0 (nI (pu_cnt (sp_onb S) i)) (nI i) 0 0 w = some (nI (pu_cnt (sp_onb S) n), w) := by
  intro d
  induction d with
  | zero =>
    intro i m hi hm
    obtain ⟨m, rfl⟩ : ∃ q, m = q + 1 := ⟨m - 1, by omega⟩
    have hin : i = n := by omega
    subst hin
    rw [fX5_ticks_2, hT.1, if_pos (nI_le (Nat.le_refl i) (by omega))]
  | succ d ih =>
    intro i m hi hm
    obtain ⟨m, rfl⟩ : ∃ q, m = q + 1 + 1 := ⟨m - 2, by omega⟩
    have ihh := ih (i + 1) m (by omega) (by omega)
    rw [fX5_ticks_2, hT.1, if_neg (nI_ge (by omega) (by omega)), q4_isOnAir hk h (by omega) hn]
    simp only [ra_bind, fX5_ticks_3, nI_1]
    simp only [pu_cnt] at ihh
    by_cases hb : S 1 i = 4 ∨ S 1 i = 5
    · rw [if_pos hb, if_neg (by decide)]
      rw [if_pos (by simpa [sp_onb] using hb)] at ihh
      exact ihh
    · rw [if_neg hb, if_pos rfl]
      rw [if_neg (by simpa [sp_onb] using hb), Nat.add_zero] at ihh
      rw [show nI (pu_cnt (sp_onb S) i) + 0 = nI (pu_cnt (sp_onb S) i) by grind]
      exact ihh
theorem m6_on_loop {k n : Nat} {T S w : ra_W} (hk : 1 ≤ k) (hn : n ≤ 7) (hT : mNet w n T) (h : mSt w 139 n S) : ∀ (d i m : Nat), i + d = n → 2 * d + 1 ≤ m → fX6_ticks k m 2 0 (nI (pu_cnt (sp_onb S) i)) (nI i) 0 0 w = some (nI (pu_cnt (sp_onb S) n), w) := by
  intro d
  induction d with
  | zero =>
    intro i m hi hm
    obtain ⟨m, rfl⟩ : ∃ q, m = q + 1 := ⟨m - 1, by omega⟩
    have hin : i = n := by omega
    subst hin
    rw [fX6_ticks_2, hT.1, if_pos (nI_le (Nat.le_refl i) (by omega))]
  | succ d ih =>
    intro i m hi hm
    obtain ⟨m, rfl⟩ : ∃ q, m = q + 1 + 1 := ⟨m - 2, by omega⟩
    have ihh := ih (i + 1) m (by omega) (by omega)
    rw [fX6_ticks_2, hT.1, if_neg (nI_ge (by omega) (by omega)), m6_isOn hk h (by omega) hn]
    simp only [ra_bind, fX6_ticks_3, nI_1]
    simp only [pu_cnt] at ihh
    by_cases hb : S 1 i = 4 ∨ S 1 i = 5
    · rw [if_pos hb, if_neg (by decide)]
      rw [if_pos (by simpa [sp_onb] using hb)] at ihh
      exact ihh
    · rw [if_neg hb, if_pos rfl]
      rw [if_neg (by simpa [sp_onb] using hb), Nat.add_zero] at ihh
      rw [show nI (pu_cnt (sp_onb S) i) + 0 = nI (pu_cnt (sp_onb S) i) by grind]
      exact ihh
theorem op_ticks {k : Nat} {w : ra_W} (v : Int32) (hk : 800 ≤ k) (h : Rel w) : op2 (FX5_ticks k v) (FX6_ticks k v) w := by
  obtain ⟨k, rfl⟩ : ∃ q, k = q + 1 := ⟨k - 1, by omega⟩
  obtain ⟨n, A, T, S, t, kn, H, Ht, hc, h1, h2, hX, hI, hZ⟩ := id h
  have hn : n ≤ 7 := hc.1.1.2.2.2
  have h20 := mC_0 h2
  have ht9 := hc.2.1
  rcases pu_rng v 1 12 (by decide) (by decide) with ⟨N, hN1, hN, rfl⟩ | hb
  · have i1 : ∀ x : ra_W, FX6_in (k + 1) (nI N) 1 12 x = some (1, x) := fun x => m6_in1 (lo := 1) (hi := 12) (by omega) hN1 hN (by decide)
    have c1 : ¬ nI N < (1 : Int32) := nI_nlt (b := 1) hN1 (by omega)
    have c2 : nI N ≤ (12 : Int32) := nI_le (b := 12) hN (by decide)
    by_cases hf : t + N ≤ 999
    · obtain ⟨m, rfl⟩ : ∃ q, k = q + 1 + N := ⟨k - 1 - N, by omega⟩
      obtain ⟨w1, g1, g2, g3⟩ := q5_tick_loop (k := m + 1 + N + 1) (by omega) hN hf hc N 0 (m + 1) w (by omega) h1
      have e1 : FX5_ticks (m + 1 + N + 1) (nI N) w = some (nI (pu_cnt (sp_onb (tkS n T S N)) n), w1) := by
        unfold FX5_ticks
        rw [fX5_ticks_0, if_neg c1, if_pos c2, h1.2.2.1, nI_add, if_pos (show nI (t + N) ≤ 999 from nI_le (b := 999) hf (by decide))]
        refine g1.trans ?_
        rw [fX5_ticks_1, if_pos (nI_le (Nat.le_refl N) (by omega))]
        exact q5_on_loop (by omega) hn g2.1 g2.2.1 n 0 m (by omega) (by omega)
      have h2c := mC_0 (mC_fc h2 g3)
      obtain ⟨w2, p1, p2, p3⟩ := m6_tick_loop (k := m + 1 + N + 1) (by omega) hN hf hc N 0 (m + 1) (ra_st w1 134 0 0) (by omega) h2c
      have e2 : FX6_ticks (m + 1 + N + 1) (nI N) w1 = some (nI (pu_cnt (sp_onb (tkS n T S N)) n), w2) := by
        unfold FX6_ticks
        rw [fX6_ticks_0, i1]
        simp only [ra_bind]
        rw [if_neg (by decide), h2c.2.2.1, nI_add, if_pos (show nI (t + N) ≤ 999 from nI_le (b := 999) hf (by decide))]
        refine p1.trans ?_
        rw [fX6_ticks_1, if_pos (nI_le (Nat.le_refl N) (by omega))]
        exact m6_on_loop (by omega) hn p2.1 p2.2.1 n 0 m (by omega) (by omega)
      exact ⟨_, _, _, e1, e2, Rel_act (rC_tk hc N hf) g2 p2 g3 (fm_tr (fm_0 w1 0) p3) hX hI hZ⟩
    · have c3 : ¬ nI (t + N) ≤ (999 : Int32) := nI_ge (a := 999) (by omega) (by omega)
      refine op_bad (r := -3) h ?_ ?_
      · unfold FX5_ticks
        rw [fX5_ticks_0, if_neg c1, if_pos c2, h1.2.2.1, nI_add, if_neg c3]
      · unfold FX6_ticks
        rw [fX6_ticks_0, i1]
        simp only [ra_bind]
        rw [if_neg (by decide), h20.2.2.1, nI_add, if_neg c3]
  · replace hb : v < (1 : Int32) ∨ (12 : Int32) < v := hb
    refine op_bad (r := -1) h ?_ ?_
    · unfold FX5_ticks
      rw [fX5_ticks_0]
      rcases hb with z | z
      · rw [if_pos z]
      · by_cases z0 : v < 1
        · rw [if_pos z0]
        · rw [if_neg z0, if_neg (Int32.not_le.mpr z)]
    · unfold FX6_ticks
      rw [fX6_ticks_0, m6_in0 (by omega) hb]
      rfl
