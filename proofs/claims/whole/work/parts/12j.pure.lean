/-! WHAT COMES -/
/-- what the class may change as it looks ahead -/
def ff (w w' : ra_W) : Prop := ∀ c, (c < 8 ∨ 15 < c) → (c < 23 ∨ 29 < c) → c ≠ 35 → w' c = w c
theorem ff_rf (w : ra_W) : ff w w := fun _ _ _ _ => rfl
theorem ff_tr {w w1 w2 : ra_W} (h1 : ff w w1) (h2 : ff w1 w2) : ff w w2 := fun c a b d => (h2 c a b d).trans (h1 c a b d)
theorem ff_fz {w w' : ra_W} (h : ff w w') : fz w w' := ⟨fun c _ a b d _ _ _ _ _ _ _ => h c a b d, by rw [h 1 (by omega) (by omega) (by omega)], by rw [h 134 (by omega) (by omega) (by omega)], by rw [h 134 (by omega) (by omega) (by omega)], by rw [h 134 (by omega) (by omega) (by omega)]⟩
theorem ff_pass {w w' : ra_W} (h : ∀ c, (c < 23 ∨ 23 + 6 < c) → c ≠ 14 → c ≠ 15 → w' c = w c) : ff w w' := fun c a b d => h c (by omega) (by omega) (by omega)
theorem ff_copy {w w' : ra_W} (h : pu_cq 23 16 w w') : ff w w' := fun c a b d => h.2.2.2 c (by omega)
theorem ff_fs {w w' : ra_W} (h : pu_fs 23 w w') : ff w w' := fun c a b d => h.1 c (by omega)
theorem cNet_ff {w w' : ra_W} {n : Nat} {T : ra_W} (h : cNet w 3 n T) (hf : ff w w') : cNet w' 3 n T := cNet_x h (fun x a b => hf x (by omega) (by omega) (by omega))
theorem cSt_ff {w w' : ra_W} {n : Nat} {S : ra_W} (h : cSt w 16 n S) (hf : ff w w') : cSt w' 16 n S := cSt_x h (fun x a b => hf x (by omega) (by omega) (by omega))
/-- what the model may change as it looks ahead -/
def fg (w w' : ra_W) : Prop := (∀ c, c ≠ 134 → c ≠ 140 → c ≠ 146 → c ≠ 147 → w' c = w c) ∧ ∀ i, i ≠ 0 → i ≠ 22 → w' 134 i = w 134 i
theorem fg_rf (w : ra_W) : fg w w := ⟨fun _ _ _ _ _ => rfl, fun _ _ _ => rfl⟩
theorem fg_tr {w w1 w2 : ra_W} (h1 : fg w w1) (h2 : fg w1 w2) : fg w w2 := ⟨fun c a b d e => (h2.1 c a b d e).trans (h1.1 c a b d e), fun i a b => (h2.2 i a b).trans (h1.2 i a b)⟩
theorem fg_fz {w w' : ra_W} (h : fg w w') : fz w w' := ⟨fun c _ _ _ _ a _ _ b d e _ => h.1 c a b d e, by rw [h.1 1 (by decide) (by decide) (by decide) (by decide)], h.2 2 (by decide) (by decide), h.2 15 (by decide) (by decide), h.2 20 (by decide) (by decide)⟩
theorem fg_0 (w : ra_W) (x : Int32) : fg w (ra_st w 134 0 x) := ⟨fun c a _ _ _ => pu_st_ne a, fun i a _ => by rw [pu_st, if_neg (by omega)]⟩
theorem fg_140 {w w' : ra_W} (h : ∀ c, c ≠ 140 → w' c = w c) : fg w w' := ⟨fun c _ a _ _ => h c a, fun i _ _ => by rw [h 134 (by decide)]⟩
theorem fg_goes {w w' : ra_W} (h1 : ∀ x, x ≠ 140 → x ≠ 134 → x ≠ 146 → x ≠ 147 → w' x = w x) (h2 : ∀ i, i ≠ 22 → w' 134 i = w 134 i) : fg w w' := ⟨fun c a b d e => h1 c b a d e, fun i _ a => h2 i a⟩
theorem mNet_fg {w w' : ra_W} {n : Nat} {T : ra_W} (h : mNet w n T) (hf : fg w w') : mNet w' n T := mNet_x h (hf.1 136 (by decide) (by decide) (by decide) (by decide))
theorem mSt_fg {w w' : ra_W} {n : Nat} {S : ra_W} (h : mSt w 139 n S) (hf : fg w w') : mSt w' 139 n S := mSt_x h (hf.1 139 (by decide) (by decide) (by decide) (by decide))
theorem iv_tk {n A : Nat} {T S : ra_W} (h : iv n A T S) : ∀ i, iv n A T (tkS n T S i)
  | 0 => h
  | i + 1 => iv_tick (iv_tk h i)
/-- one tick ahead -/
theorem q5_go {k a n A : Nat} {w T S : ra_W} (hk : 200 ≤ k) (ha : a = 3 ∨ a = 8) (hT : cNet w a n T) (h : cSt w 23 n S) (hv : iv n A T S) : ∃ w', FX0_pass k a 23 w = some (0, w') ∧ cSt w' 23 n (sp_tick n T S) ∧ cNet w' a n T ∧ ff w w' := by
  obtain ⟨w', g1, g2, g3, g4⟩ := q0_pass (k := k) (a := a) (b := 23) hk (by omega) (by omega) (by omega) hT h hv
  exact ⟨w', g1, g2, cNet_x hT (fun x p q => g3 x (by omega) (by omega) (by omega)), ff_pass g3⟩
theorem m6_go {k n A : Nat} {w T S : ra_W} (hk : 400 ≤ k) (hT : mNet w n T) (h : mSt w 140 n S) (hv : iv n A T S) : ∃ w', FX6_goes k 140 w = some (0, w') ∧ mSt w' 140 n (sp_tick n T S) ∧ mNet w' n T ∧ fg w w' := by
  obtain ⟨w', g1, g2, g3, g4, g5⟩ := m6_goes (k := k) (c := 140) hk (Or.inr rfl) hT h hv
  exact ⟨w', g1, g2, mNet_x hT (g3 136 (by decide) (by decide) (by decide) (by decide)), fg_goes g3 g4⟩
/-- soon -/
def sp_soon (n : Nat) (T S : ra_W) (r : Nat) : Nat → Nat → Int32
  | 0, _ => -9
  | d + 1, i => if sp_onb (tkS n T S i) r = true then nI i else sp_soon n T S r d (i + 1)
theorem sp_soon_idle {n A : Nat} {T S : ra_W} {r : Nat} (hv : iv n A T S) (hr : r < n) : ∀ d i, tkS n T S i 1 r = 0 → sp_soon n T S r d i = -9
  | 0, _, _ => rfl
  | d + 1, i, h => by
    simp only [sp_soon]
    rw [if_neg (by simp [sp_onb, h])]
    exact sp_soon_idle hv hr d (i + 1) (sp_tick_idle (iv_tk hv i) hr h)
theorem q5_soon_loop {k n A : Nat} {T S : ra_W} {r : Nat} (hk : 200 ≤ k) (hr : r < n) (hv : iv n A T S) : ∀ (d i m : Nat) (w : ra_W), i + d = 61 → d + 1 ≤ m → cNet w 3 n T → cSt w 23 n (tkS n T S i) → ∃ w', fX5_soon k m 1 (nI r) (nI i) w = some (sp_soon n T S r d i, w') ∧ ff w w' := by
  have hn : n ≤ 7 := hv.1.2.2.2
  intro d
  induction d with
  | zero =>
    intro i m w hi hm hT h
    obtain ⟨m, rfl⟩ : ∃ q, m = q + 1 := ⟨m - 1, by omega⟩
    rw [fX5_soon_1, if_pos (show (60 : Int32) < nI i from nI_lt (a := 60) (by omega) (by omega))]
    exact ⟨w, rfl, ff_rf w⟩
  | succ d ih =>
    intro i m w hi hm hT h
    obtain ⟨m, rfl⟩ : ∃ q, m = q + 1 := ⟨m - 1, by omega⟩
    rw [fX5_soon_1, if_neg (show ¬ (60 : Int32) < nI i from nI_nlt (a := 60) (by omega) (by decide)), q4_isOnAir (by omega) h hr hn]
    simp only [ra_bind, sp_soon]
    by_cases ho : tkS n T S i 1 r = 4 ∨ tkS n T S i 1 r = 5
    · rw [if_pos ho, if_neg (by decide), if_pos (by simpa [sp_onb] using ho)]
      exact ⟨w, rfl, ff_rf w⟩
    · have ho2 : ¬ sp_onb (tkS n T S i) r = true := by simpa [sp_onb] using ho
      rw [if_neg ho, if_pos rfl, if_neg ho2, if_pos (pu_in (by omega) (by decide)), pu_ix (by omega), h.2.1 r hr]
      by_cases h0 : tkS n T S i 1 r = 0
      · rw [if_pos h0, sp_soon_idle hv hr d (i + 1) (sp_tick_idle (iv_tk hv i) hr h0)]
        exact ⟨w, rfl, ff_rf w⟩
      · rw [if_neg h0]
        obtain ⟨w1, g1, g2, g3, g4⟩ := q5_go (k := k) hk (Or.inl rfl) hT h (iv_tk hv i)
        rw [g1]
        simp only [nI_1]
        obtain ⟨w2, f1, f2⟩ := ih (i + 1) m w1 (by omega) (by omega) g3 g2
        exact ⟨w2, f1, ff_tr g4 f2⟩
theorem m6_soon_loop {k n A : Nat} {T S : ra_W} {r : Nat} (hk : 400 ≤ k) (hr : r < n) (hv : iv n A T S) : ∀ (d i m : Nat) (w : ra_W), i + d = 61 → d + 1 ≤ m → mNet w n T → mSt w 140 n (tkS n T S i) → ∃ w', fX6_soon k m 1 (nI r) (nI i) w = some (sp_soon n T S r d i, w') ∧ fg w w' := by
  have hn : n ≤ 7 := hv.1.2.2.2
  intro d
  induction d with
  | zero =>
    intro i m w hi hm hT h
    obtain ⟨m, rfl⟩ : ∃ q, m = q + 1 := ⟨m - 1, by omega⟩
    rw [fX6_soon_1, if_pos (show (60 : Int32) < nI i from nI_lt (a := 60) (by omega) (by omega))]
    exact ⟨w, rfl, fg_rf w⟩
  | succ d ih =>
    intro i m w hi hm hT h
    obtain ⟨m, rfl⟩ : ∃ q, m = q + 1 := ⟨m - 1, by omega⟩
    rw [fX6_soon_1, if_neg (show ¬ (60 : Int32) < nI i from nI_nlt (a := 60) (by omega) (by decide)), m6_isOn (by omega) h hr hn]
    simp only [ra_bind, sp_soon]
    by_cases ho : tkS n T S i 1 r = 4 ∨ tkS n T S i 1 r = 5
    · rw [if_pos ho, if_neg (by decide), if_pos (by simpa [sp_onb] using ho)]
      exact ⟨w, rfl, fg_rf w⟩
    · rw [if_neg ho, if_pos rfl, if_neg (by simpa [sp_onb] using ho)]
      obtain ⟨w1, g1, g2, g3, g4⟩ := m6_go (k := k) hk hT h (iv_tk hv i)
      rw [g1]
      simp only [nI_1]
      obtain ⟨w2, f1, f2⟩ := ih (i + 1) m w1 (by omega) (by omega) g3 g2
      exact ⟨w2, f1, fg_tr g4 f2⟩
/-- the copies ahead -/
theorem q5_fut {k n : Nat} {w S : ra_W} (hk : 1 ≤ k) (hn : n ≤ 7) (h : cSt w 16 n S) : ∃ w', FX4_copy k 23 16 w = some (0, w') ∧ cSt w' 23 n S ∧ ff w w' := by
  obtain ⟨w', g1, g2⟩ := q4_copy (k := k) (b0 := 23) (b1 := 16) (w := w) hk (by omega)
  exact ⟨w', g1, cSt_cq hn h g2, ff_copy g2⟩
theorem m6_fut {k n : Nat} {w S : ra_W} (hk : 50 ≤ k) (hn : n ≤ 7) (h : mSt w 139 n S) : ∃ w', FX6_copies k 139 140 w = some (0, w') ∧ mSt w' 140 n S ∧ fg w w' := by
  obtain ⟨w', g1, g2, g3⟩ := m6_copies (k := k) (b0 := 139) (b1 := 140) (w := w) hk (by decide)
  exact ⟨w', g1, mRow_c (g := w' 140) hn h g2, fg_140 g3⟩
theorem op_soon {k : Nat} {w : ra_W} (v : Int32) (hk : 500 ≤ k) (h : Rel w) : op2 (FX5_soon k v) (FX6_soon k v) w := by
  obtain ⟨k, rfl⟩ : ∃ q, k = q + 1 := ⟨k - 1, by omega⟩
  obtain ⟨n, A, T, S, t, kn, H, Ht, hc, h1, h2, hX, hI, hZ⟩ := id h
  have hn : n ≤ 7 := hc.1.1.2.2.2
  rcases q2_has (v := v) (k := k + 1) (by omega) h1.1 hn with ⟨r, hr, rfl, e⟩ | ⟨hno, e⟩
  · obtain ⟨w1, g1, g2, g3⟩ := q5_fut (k := k + 1) (by omega) hn h1.2.1
    obtain ⟨w2, f1, f2⟩ := q5_soon_loop (k := k + 1) (by omega) hr hc.1 61 0 k w1 (by omega) (by omega) (cNet_ff h1.1 g3) g2
    have e1 : FX5_soon (k + 1) (nI r) w = some (sp_soon n T S r 61 0, w2) := by
      unfold FX5_soon
      rw [fX5_soon_0, e]
      simp only [ra_bind]
      rw [if_neg (by decide), g1]
      exact f1
    have ffz := ff_fz (ff_tr g3 f2)
    have h2c := mC_0 (mC_fz h2 ffz)
    obtain ⟨w3, p1, p2, p3⟩ := m6_fut (k := k + 1) (by omega) hn h2c.2.1
    obtain ⟨w4, q1, q2⟩ := m6_soon_loop (k := k + 1) (by omega) hr hc.1 61 0 k w3 (by omega) (by omega) (mNet_fg h2c.1 p3) p2
    have e2 : FX6_soon (k + 1) (nI r) w2 = some (sp_soon n T S r 61 0, w4) := by
      unfold FX6_soon
      rw [fX6_soon_0, (m6_isRadio (k := k + 1) (by omega) h2c.1 hn).1 r hr rfl]
      simp only [ra_bind]
      rw [if_neg (by decide), p1]
      exact q1
    exact op_ask h e1 e2 ffz (fg_fz (fg_tr (fg_0 w2 0) (fg_tr p3 q2)))
  · refine op_bad (r := -1) h ?_ ?_
    · unfold FX5_soon
      rw [fX5_soon_0, e]
      rfl
    · unfold FX6_soon
      rw [fX6_soon_0, (m6_isRadio (k := k + 1) (by omega) (mC_0 h2).1 hn).2 hno]
      rfl
/-- within -/
def sp_wi (n : Nat) (T S : ra_W) (i : Nat) : Nat → Int32
  | 0 => 0
  | j + 1 => sp_wi n T S i j + (if 1 ≤ sp_fr n T (tkS n T S (j + 1)) i then 0 else 1)
def sp_wi2 (n : Nat) (T S : ra_W) (y j : Nat) : Int32 := if y < 2 then sp_wi n T S y j else 0
def sp_within (n : Nat) (T S : ra_W) (N y : Nat) : Int32 := if y < 2 then sp_wi n T S y N else if y = 2 then tkS n T S N 6 0 - S 6 0 else tkS n T S N 6 2 - S 6 2
theorem pu_bitfull {n : Nat} {T S : ra_W} {i : Nat} (hi : i < 2) : (sp_full n T S >>> (nI i &&& 31)) &&& 1 = if 1 ≤ sp_fr n T S i then 0 else 1 := by
  rw [pu_bit_sh (sp_full_q n T S) hi, sp_full_bit n T S hi]
  by_cases h : 1 ≤ sp_fr n T S i <;> simp [h]
theorem q5_within_loop {k n A : Nat} {T S : ra_W} {N y : Nat} (hk : 200 ≤ k) (hy : y ≤ 3) (hN : N ≤ 60) (hv : iv n A T S) : ∀ (d i m : Nat) (w : ra_W), i + d = N → 2 * d + 1 ≤ m → cNet w 3 n T → cSt w 16 n S → cSt w 23 n (tkS n T S i) → ∃ w', fX5_within k m 1 (nI N) (nI y) (sp_wi2 n T S y i) (nI i) w = some (sp_within n T S N y, w') ∧ ff w w' := by
  have hn : n ≤ 7 := hv.1.2.2.2
  intro d
  induction d with
  | zero =>
    intro i m w hi hm hT hS h
    obtain ⟨m, rfl⟩ : ∃ q, m = q + 1 := ⟨m - 1, by omega⟩
    have hin : i = N := by omega
    subst hin
    rw [fX5_within_1, if_pos (nI_le (Nat.le_refl i) (by omega))]
    refine ⟨w, ?_, ff_rf w⟩
    unfold sp_within sp_wi2
    by_cases hy2 : y < 2
    · rw [(q5_isSite (by omega)).1 y hy2 rfl]
      simp only [ra_bind]
      rw [if_neg (by decide), if_pos hy2, if_pos hy2]
    · rw [(q5_isSite (by omega)).2 (Or.inr (show (1 : Int32) < nI y from nI_lt (a := 1) (by omega) (by omega)))]
      simp only [ra_bind]
      rw [if_pos trivial, if_neg hy2, h.2.2.2.2.2.2.1, h.2.2.2.2.2.2.2.2, hS.2.2.2.2.2.2.1, hS.2.2.2.2.2.2.2.2]
      rcases (show y = 2 ∨ y = 3 by omega) with rfl | rfl
      · rw [if_pos (by decide), if_pos rfl]
      · rw [if_neg (by decide), if_neg (by decide)]
  | succ d ih =>
    intro i m w hi hm hT hS h
    obtain ⟨m, rfl⟩ : ∃ q, m = q + 1 + 1 := ⟨m - 2, by omega⟩
    rw [fX5_within_1, if_neg (nI_ge (by omega) (by omega))]
    obtain ⟨w1, g1, g2, g3, g4⟩ := q5_go (k := k) hk (Or.inl rfl) hT h (iv_tk hv i)
    rw [g1]
    simp only [ra_bind]
    obtain ⟨w2, f1, f2⟩ := ih (i + 1) m w1 (by omega) (by omega) g3 (cSt_ff hS g4) g2
    refine ⟨w2, ?_, ff_tr g4 f2⟩
    rw [← f1]
    unfold sp_wi2
    by_cases hy2 : y < 2
    · rw [(q5_isSite (by omega)).1 y hy2 rfl]
      simp only []
      rw [if_neg (by decide), q4_full (by omega) (iv_hq (iv_tk hv (i + 1))) g3 g2 hn]
      simp only [fX5_within_2, nI_1]
      rw [pu_bitfull hy2, if_pos hy2, if_pos hy2]
      rfl
    · rw [(q5_isSite (by omega)).2 (Or.inr (show (1 : Int32) < nI y from nI_lt (a := 1) (by omega) (by omega)))]
      simp only [fX5_within_2, nI_1]
      rw [if_pos trivial, if_neg hy2, if_neg hy2]
theorem m6_within_loop {k n A : Nat} {T S : ra_W} {N y : Nat} (hk : 400 ≤ k) (hy : y ≤ 3) (hN : N ≤ 60) (hv : iv n A T S) : ∀ (d i m : Nat) (w : ra_W), i + d = N → 3 * d + 1 ≤ m → mNet w n T → mSt w 139 n S → mSt w 140 n (tkS n T S i) → ∃ w', fX6_within k m 1 (nI N) (nI y) (sp_wi2 n T S y i) (nI i) 0 0 w = some (sp_within n T S N y, w') ∧ fg w w' := by
  have hn : n ≤ 7 := hv.1.2.2.2
  intro d
  induction d with
  | zero =>
    intro i m w hi hm hT hS h
    obtain ⟨m, rfl⟩ : ∃ q, m = q + 1 := ⟨m - 1, by omega⟩
    have hin : i = N := by omega
    subst hin
    rw [fX6_within_1, if_pos (nI_le (Nat.le_refl i) (by omega))]
    refine ⟨w, ?_, fg_rf w⟩
    unfold sp_within sp_wi2
    by_cases hy2 : y < 2
    · rw [if_neg (pu_ge2 hy2), if_pos hy2, if_pos hy2]
    · rw [if_pos (show (2 : Int32) ≤ nI y from nI_le (a := 2) (by omega) (by omega)), if_neg hy2, h.2.2.2.2.2.2.1, h.2.2.2.2.2.2.2.2, hS.2.2.2.2.2.2.1, hS.2.2.2.2.2.2.2.2]
      rcases (show y = 2 ∨ y = 3 by omega) with rfl | rfl
      · rw [if_pos (by decide), if_pos rfl]
      · rw [if_neg (by decide), if_neg (by decide)]
  | succ d ih =>
    intro i m w hi hm hT hS h
    obtain ⟨m, rfl⟩ : ∃ q, m = q + 1 + 1 + 1 := ⟨m - 3, by omega⟩
    rw [fX6_within_1, if_neg (nI_ge (by omega) (by omega))]
    obtain ⟨w1, g1, g2, g3, g4⟩ := m6_go (k := k) hk hT h (iv_tk hv i)
    rw [g1]
    simp only [ra_bind]
    have zz : ∀ x : Int32, x + 0 = x := fun x => by grind
    by_cases hy2 : y < 2
    · rw [if_neg (pu_ge2 hy2), m6_free (by omega) hy2 (iv_hq (iv_tk hv (i + 1))) g3 g2 hn]
      simp only [fX6_within_2, fX6_within_3, nI_1, pu_lt0]
      have e : sp_wi2 n T S y (i + 1) = sp_wi2 n T S y i + (if 1 ≤ sp_fr n T (tkS n T S (i + 1)) y then 0 else 1) := by
        unfold sp_wi2
        rw [if_pos hy2, if_pos hy2]
        rfl
      by_cases hf : 1 ≤ sp_fr n T (tkS n T S (i + 1)) y
      · rw [if_pos hf] at e ⊢
        rw [← e]
        obtain ⟨w2, f1, f2⟩ := ih (i + 1) m w1 (by omega) (by omega) g3 (mSt_fg hS g4) g2
        exact ⟨w2, f1, fg_tr g4 f2⟩
      · rw [if_neg hf] at e ⊢
        rw [← e]
        obtain ⟨w2, f1, f2⟩ := ih (i + 1) (m + 1) w1 (by omega) (by omega) g3 (mSt_fg hS g4) g2
        exact ⟨w2, f1, fg_tr g4 f2⟩
    · rw [if_pos (show (2 : Int32) ≤ nI y from nI_le (a := 2) (by omega) (by omega)), fX6_within_2, fX6_within_3, nI_1, zz]
      obtain ⟨w2, f1, f2⟩ := ih (i + 1) m w1 (by omega) (by omega) g3 (mSt_fg hS g4) g2
      refine ⟨w2, ?_, fg_tr g4 f2⟩
      rw [← f1]
      unfold sp_wi2
      rw [if_neg hy2, if_neg hy2]
theorem op_within {k : Nat} {w : ra_W} (v u : Int32) (hk : 500 ≤ k) (h : Rel w) : op2 (FX5_within k v u) (FX6_within k v u) w := by
  obtain ⟨k, rfl⟩ : ∃ q, k = q + 1 := ⟨k - 1, by omega⟩
  obtain ⟨n, A, T, S, t, kn, H, Ht, hc, h1, h2, hX, hI, hZ⟩ := id h
  have hn : n ≤ 7 := hc.1.1.2.2.2
  rcases pu_rng v 1 60 (by decide) (by decide) with ⟨N, hN1, hN, rfl⟩ | hb
  · have i1 : ∀ x : ra_W, FX6_in (k + 1) (nI N) 1 60 x = some (1, x) := fun x => m6_in1 (lo := 1) (hi := 60) (by omega) hN1 hN (by decide)
    have c1 : ¬ nI N < (1 : Int32) := nI_nlt (b := 1) hN1 (by omega)
    have c2 : ¬ (60 : Int32) < nI N := nI_nlt (a := 60) hN (by decide)
    rcases pu_rng u 0 3 (by decide) (by decide) with ⟨y, -, hy, rfl⟩ | hb2
    · have i2 : ∀ x : ra_W, FX6_in (k + 1) (nI y) 0 3 x = some (1, x) := fun x => m6_in1 (lo := 0) (hi := 3) (by omega) (by omega) hy (by decide)
      have z0 : sp_wi2 n T S y 0 = 0 := by
        unfold sp_wi2
        split <;> rfl
      obtain ⟨w1, g1, g2, g3⟩ := q5_fut (k := k + 1) (by omega) hn h1.2.1
      obtain ⟨w2, f1, f2⟩ := q5_within_loop (k := k + 1) (by omega) hy hN hc.1 N 0 k w1 (by omega) (by omega) (cNet_ff h1.1 g3) (cSt_ff h1.2.1 g3) g2
      rw [z0] at f1
      have e1 : FX5_within (k + 1) (nI N) (nI y) w = some (sp_within n T S N y, w2) := by
        unfold FX5_within
        rw [fX5_within_0, if_neg c1, if_neg c2, if_neg (nI_pos (by omega)), if_pos (show nI y ≤ 3 from nI_le (b := 3) hy (by decide)), g1]
        exact f1
      have ffz := ff_fz (ff_tr g3 f2)
      have h2c := mC_0 (mC_fz h2 ffz)
      obtain ⟨w3, p1, p2, p3⟩ := m6_fut (k := k + 1) (by omega) hn h2c.2.1
      obtain ⟨w4, q1, q2⟩ := m6_within_loop (k := k + 1) (by omega) hy hN hc.1 N 0 k w3 (by omega) (by omega) (mNet_fg h2c.1 p3) (mSt_fg h2c.2.1 p3) p2
      rw [z0] at q1
      have e2 : FX6_within (k + 1) (nI N) (nI y) w2 = some (sp_within n T S N y, w4) := by
        unfold FX6_within
        rw [fX6_within_0, i1]
        simp only [ra_bind]
        rw [if_neg (by decide), i2]
        simp only []
        rw [if_neg (by decide), p1]
        exact q1
      exact op_ask h e1 e2 ffz (fg_fz (fg_tr (fg_0 w2 0) (fg_tr p3 q2)))
    · replace hb2 : u < (0 : Int32) ∨ (3 : Int32) < u := hb2
      refine op_bad (r := -1) h ?_ ?_
      · unfold FX5_within
        rw [fX5_within_0, if_neg c1, if_neg c2]
        rcases hb2 with z | z
        · rw [if_pos z]
        · by_cases z0 : u < 0
          · rw [if_pos z0]
          · rw [if_neg z0, if_neg (Int32.not_le.mpr z)]
      · unfold FX6_within
        rw [fX6_within_0, i1]
        simp only [ra_bind]
        rw [if_neg (by decide), m6_in0 (by omega) hb2]
        rfl
  · replace hb : v < (1 : Int32) ∨ (60 : Int32) < v := hb
    refine op_bad (r := -1) h ?_ ?_
    · unfold FX5_within
      rw [fX5_within_0]
      rcases hb with z | z
      · rw [if_pos z]
      · by_cases z0 : v < 1
        · rw [if_pos z0]
        · rw [if_neg z0, if_pos z]
    · unfold FX6_within
      rw [fX6_within_0, m6_in0 (by omega) hb]
      rfl
