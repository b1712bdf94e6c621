/-! WAVES -/
abbrev pv (v : Int32) (r : Nat) : Bool := decide (((v >>> (nI r &&& 31)) &&& 1) = 1)
def sp_press (m : Nat) (v : Int32) (S : ra_W) : ra_W := fun j r => if j = 1 ∧ r < m ∧ pv v r = true ∧ S 1 r = 0 then 1 else S j r
theorem sp_press_s {v : Int32} {S : ra_W} {m : Nat} : sp_press (m + 1) v S = if pv v m = true ∧ S 1 m = 0 then ra_st (sp_press m v S) 1 m 1 else sp_press m v S := by
  funext j r
  by_cases h : pv v m = true ∧ S 1 m = 0
  · rw [if_pos h, pu_st]
    simp only [sp_press]
    by_cases e : j = 1 ∧ r = m
    · rw [if_pos e, if_pos (by rw [e.2]; exact ⟨e.1, by omega, h⟩)]
    · rw [if_neg e]
      have : (j = 1 ∧ r < m + 1 ∧ pv v r = true ∧ S 1 r = 0) ↔ (j = 1 ∧ r < m ∧ pv v r = true ∧ S 1 r = 0) := by
        constructor
        · intro ⟨a, b, c⟩
          refine ⟨a, ?_, c⟩
          rcases Nat.lt_or_ge r m with q | q
          · exact q
          · exact absurd ⟨a, by omega⟩ e
        · intro ⟨a, b, c⟩
          exact ⟨a, by omega, c⟩
      simp only [this]
  · rw [if_neg h]
    simp only [sp_press]
    have : (j = 1 ∧ r < m + 1 ∧ pv v r = true ∧ S 1 r = 0) ↔ (j = 1 ∧ r < m ∧ pv v r = true ∧ S 1 r = 0) := by
      constructor
      · intro ⟨a, b, c⟩
        refine ⟨a, ?_, c⟩
        rcases Nat.lt_or_ge r m with q | q
        · exact q
        · have : r = m := by omega
          subst this
          exact absurd c h
      · intro ⟨a, b, c⟩
        exact ⟨a, by omega, c⟩
    simp only [this]
theorem sp_press_0 {v : Int32} {S : ra_W} : sp_press 0 v S = S := by
  funext j r
  simp [sp_press]
theorem sp_press_i {v : Int32} {S : ra_W} {m : Nat} {j : Nat} : sp_press m v S j m = S j m := by
  simp [sp_press]
theorem sp_press_6 {v : Int32} {S : ra_W} {m i : Nat} : sp_press m v S 6 i = S 6 i := by
  simp [sp_press]
theorem iv_press {n A : Nat} {T S : ra_W} {v : Int32} (h : iv n A T S) : ∀ m, iv n A T (sp_press m v S)
  | 0 => by rw [sp_press_0]; exact h
  | m + 1 => by
    have ih := iv_press (v := v) h m
    rw [sp_press_s]
    split
    · rename_i hc
      by_cases hm : m < n
      · have hir := ih.2.1 m hm
        have hi : sp_press m v S 1 m = 0 := by rw [sp_press_i]; exact hc.2
        generalize sp_press m v S = Q at ih hir hi
        refine iv_upd (r := m) ih ?_ (by simp [pu_st]) (Or.inl (by simp [pu_st])) (fun q j a b => ?_) (fun i => by simp [pu_st])
        · unfold iv_r at hir ⊢
          simp only [pu_st]
          grind
        · simp only [pu_st]
          grind
      · -- beyond the radios nothing matters
        have e : ∀ j q, q < n → ra_st (sp_press m v S) 1 m 1 j q = sp_press m v S j q := fun j q hq => by rw [pu_st, if_neg (by omega)]
        obtain ⟨ht, hrr, hg, hcc, hl⟩ := ih
        refine ⟨ht, fun q hq => ?_, fun p q a b c d z => ?_, iv_c_of hcc (fun q hq => Or.inl (e 4 q hq)), fun i hi => by rw [pu_st, if_neg (by omega)]; exact hl i hi⟩
        · have := hrr q hq
          unfold iv_r at this ⊢
          rw [e 0 q hq, e 1 q hq, e 2 q hq, e 3 q hq, e 4 q hq]
          exact this
        · rw [e 1 p a] at c
          rw [e 1 q b] at d
          exact hg p q a b c d z
    · exact ih
theorem q4_press_loop {k a n A : Nat} {T S : ra_W} {v : Int32} (hk : 1 ≤ k) (ha : a = 3 ∨ a = 8) (hv : iv n A T S) : ∀ (d i m : Nat) (w : ra_W), i + d = n → 2 * d + 1 ≤ m → cNet w a n T → cSt w 23 n (sp_press i v S) → ∃ w', fX4_pressIdle k 23 a m 1 v (nI i) w = some (0, w') ∧ cSt w' 23 n (sp_press n v S) ∧ cNet w' a n T ∧ ff w w' := by
  have hn : n ≤ 7 := hv.1.2.2.2
  intro d
  induction d with
  | zero =>
    intro i m w hi hm hT h
    obtain ⟨m, rfl⟩ : ∃ q, m = q + 1 := ⟨m - 1, by omega⟩
    have hin : i = n := by omega
    subst hin
    rw [fX4_pressIdle_1, hT.1, if_pos (nI_le (Nat.le_refl i) (by omega))]
    exact ⟨w, rfl, h, hT, ff_rf w⟩
  | succ d ih =>
    intro i m w hi hm hT h
    obtain ⟨m, rfl⟩ : ∃ q, m = q + 1 + 1 := ⟨m - 2, by omega⟩
    rw [fX4_pressIdle_1, hT.1, if_neg (nI_ge (by omega) (by omega)), if_pos (pu_in (by omega) (by decide)), pu_ix (by omega), h.2.1 i (by omega), sp_press_i, q4_enter (b := 23) 1 hk (by omega)]
    simp only [ra_bind, fX4_pressIdle_2, nI_1]
    have hs := sp_press_s (v := v) (S := S) (m := i)
    by_cases hc : pv v i = true ∧ S 1 i = 0
    · rw [if_pos hc] at hs
      have hb : ((v >>> (nI i &&& 31)) &&& 1) = 1 := by simpa [pv] using hc.1
      rw [if_pos hb, if_pos hc.2]
      have h2 : sp_press i v S 2 i = 0 := by rw [sp_press_i]; exact ((hv.2.1 i (by omega)).2.2.2.1 hc.2).1
      have e2 : ra_st (ra_st (sp_press i v S) 1 i 1) 2 i 0 = sp_press (i + 1) v S := by
        rw [hs]
        funext a b
        simp only [pu_st]
        grind
      have hf : pu_fs 23 w (ra_st (ra_st w (23 + 2) i 1) (23 + 3) i 0) := pu_fs_tr (pu_fs_st _ _ _ (by omega)) (pu_fs_st _ _ _ (by omega))
      obtain ⟨w', g1, g2, g3, g4⟩ := ih (i + 1) m _ (by omega) (by omega) (cNet_x hT (fun x p q => hf.1 x (by omega))) (by rw [← e2]; exact cSt_2 _ _ (cSt_1 _ _ h))
      exact ⟨w', g1, g2, g3, ff_tr (ff_fs hf) g4⟩
    · rw [if_neg hc] at hs
      have hgo : (if ((v >>> (nI i &&& 31)) &&& 1) = 1 then (if S 1 i = 0 then fX4_pressIdle k 23 a m 1 v (nI (i + 1)) (ra_st (ra_st w (23 + 2) i 1) (23 + 3) i 0) else fX4_pressIdle k 23 a m 1 v (nI (i + 1)) w) else fX4_pressIdle k 23 a m 1 v (nI (i + 1)) w) = fX4_pressIdle k 23 a m 1 v (nI (i + 1)) w := by
        by_cases hb : ((v >>> (nI i &&& 31)) &&& 1) = 1
        · rw [if_pos hb, if_neg (fun z => hc ⟨by simpa [pv] using hb, z⟩)]
        · rw [if_neg hb]
      rw [hgo]
      exact ih (i + 1) m w (by omega) (by omega) hT (by rw [hs]; exact h)
theorem q4_press {k a n A : Nat} {w T S : ra_W} {v : Int32} (hk : 20 ≤ k) (ha : a = 3 ∨ a = 8) (hv : iv n A T S) (hT : cNet w a n T) (h : cSt w 23 n S) : ∃ w', FX4_pressIdle k 23 a v w = some (0, w') ∧ cSt w' 23 n (sp_press n v S) ∧ cNet w' a n T ∧ ff w w' := by
  have hn : n ≤ 7 := hv.1.2.2.2
  obtain ⟨k, rfl⟩ : ∃ q, k = q + 1 := ⟨k - 1, by omega⟩
  unfold FX4_pressIdle
  rw [fX4_pressIdle_0]
  exact q4_press_loop (by omega) ha hv n 0 k w (by omega) (by omega) hT (by rw [sp_press_0]; exact h)
theorem m6_press_loop {k n A : Nat} {T S : ra_W} {v : Int32} (hk : 1 ≤ k) (hv : iv n A T S) : ∀ (d i m : Nat) (w : ra_W), i + d = n → 2 * d + 1 ≤ m → mNet w n T → mSt w 140 n (sp_press i v S) → ∃ w', fX6_presses2 k m 1 v (nI i) w = some (0, w') ∧ mSt w' 140 n (sp_press n v S) ∧ mNet w' n T ∧ (∀ c, c ≠ 140 → w' c = w c) := by
  have hn : n ≤ 7 := hv.1.2.2.2
  intro d
  induction d with
  | zero =>
    intro i m w hi hm hT h
    obtain ⟨m, rfl⟩ : ∃ q, m = q + 1 := ⟨m - 1, by omega⟩
    have hin : i = n := by omega
    subst hin
    rw [fX6_presses2_1, hT.1, if_pos (nI_le (Nat.le_refl i) (by omega))]
    exact ⟨w, rfl, h, hT, fun _ _ => rfl⟩
  | succ d ih =>
    intro i m w hi hm hT h
    obtain ⟨m, rfl⟩ : ∃ q, m = q + 1 + 1 := ⟨m - 2, by omega⟩
    have hhas : FX6_has k v (nI i) w = some (if ((v >>> (nI i &&& 31)) &&& 1) = 1 then 1 else 0, w) := by
      obtain ⟨k, rfl⟩ : ∃ q, k = q + 1 := ⟨k - 1, by omega⟩
      unfold FX6_has
      rw [fX6_has_0]
      split <;> rfl
    rw [fX6_presses2_1, hT.1, if_neg (nI_ge (by omega) (by omega)), hhas]
    simp only [ra_bind, fX6_presses2_2, nI_1]
    rw [pl_13, if_pos (pu_in (by omega) (by decide)), pu_ix (by omega), h.2.1 i (by omega), sp_press_i]
    have hs := sp_press_s (v := v) (S := S) (m := i)
    by_cases hc : pv v i = true ∧ S 1 i = 0
    · rw [if_pos hc] at hs
      have hb : ((v >>> (nI i &&& 31)) &&& 1) = 1 := by simpa [pv] using hc.1
      rw [if_pos hb, if_neg (by decide), if_pos hc.2]
      obtain ⟨w', g1, g2, g3, g4⟩ := ih (i + 1) m (ra_st w 140 (13 + i) 1) (by omega) (by omega) (mNet_x hT (pu_st_ne (by decide))) (by rw [hs]; exact mSt_1 _ hn (by omega) h)
      exact ⟨w', g1, g2, g3, fun c a => (g4 c a).trans (pu_st_ne a)⟩
    · rw [if_neg hc] at hs
      have ihh := ih (i + 1) m w (by omega) (by omega) hT (by rw [hs]; exact h)
      by_cases hb : ((v >>> (nI i &&& 31)) &&& 1) = 1
      · rw [if_pos hb, if_neg (by decide), if_neg (fun z => hc ⟨by simpa [pv] using hb, z⟩)]
        exact ihh
      · rw [if_neg hb, if_pos rfl]
        exact ihh
theorem m6_press {k n A : Nat} {w T S : ra_W} {v : Int32} (hk : 60 ≤ k) (hv : iv n A T S) (hT : mNet w n T) (h : mSt w 139 n S) : ∃ w', FX6_presses2 k v w = some (0, w') ∧ mSt w' 140 n (sp_press n v S) ∧ mNet w' n T ∧ (∀ c, c ≠ 140 → w' c = w c) := by
  have hn : n ≤ 7 := hv.1.2.2.2
  obtain ⟨k, rfl⟩ : ∃ q, k = q + 1 := ⟨k - 1, by omega⟩
  unfold FX6_presses2
  obtain ⟨w1, g1, g2, g3⟩ := m6_copies (k := k + 1) (b0 := 139) (b1 := 140) (w := w) (by omega) (by decide)
  rw [fX6_presses2_0, g1]
  simp only [ra_bind]
  obtain ⟨w', p1, p2, p3, p4⟩ := m6_press_loop (k := k + 1) (T := T) (S := S) (v := v) (by omega) hv n 0 k w1 (by omega) (by omega) (mNet_x hT (g3 136 (by decide))) (by rw [sp_press_0]; exact mRow_c (g := w1 140) hn h g2)
  exact ⟨w', p1, p2, p3, fun c a => (p4 c a).trans (g3 c a)⟩
/-- who waits -/
abbrev sp_wtb (S : ra_W) (r : Nat) : Bool := decide (S 1 r = 1 ∨ S 1 r = 2 ∨ S 1 r = 3)
theorem q4_wait_loop {k a n : Nat} {w T S : ra_W} (hn : n ≤ 7) (hT : cNet w a n T) (h : cSt w 23 n S) : ∀ (d i m : Nat), i + d = n → d + 1 ≤ m → (∀ j, j < i → sp_wtb S j = false) → fX4_isAnyWaiting k 23 a m 1 (nI i) w = some (if pu_lst (sp_wtb S) n = none then 0 else 1, w) := by
  intro d
  induction d with
  | zero =>
    intro i m hi hm hu
    obtain ⟨m, rfl⟩ : ∃ q, m = q + 1 := ⟨m - 1, by omega⟩
    have hin : i = n := by omega
    subst hin
    rw [fX4_isAnyWaiting_1, hT.1, if_pos (nI_le (Nat.le_refl i) (by omega)), if_pos (pu_lst_none.mpr hu)]
  | succ d ih =>
    intro i m hi hm hu
    obtain ⟨m, rfl⟩ : ∃ q, m = q + 1 := ⟨m - 1, by omega⟩
    rw [fX4_isAnyWaiting_1, hT.1, if_neg (nI_ge (by omega) (by omega)), if_pos (pu_in (by omega) (by decide)), pu_ix (by omega), h.2.1 i (by omega), nI_1]
    by_cases hp : sp_wtb S i = true
    · have h1 : pu_lst (sp_wtb S) n = some i := pu_lst_stay hu hp (by omega)
      have hne : ¬ pu_lst (sp_wtb S) n = none := by rw [h1]; simp
      rw [if_neg hne]
      simp only [sp_wtb, decide_eq_true_eq] at hp
      grind
    · have ihh := ih (i + 1) m (by omega) (by omega) (lt_s hu (by simpa using hp))
      simp only [sp_wtb, decide_eq_true_eq] at hp
      rw [if_neg (fun z => hp (Or.inl z)), if_neg (fun z => hp (Or.inr (Or.inl z))), if_neg (fun z => hp (Or.inr (Or.inr z)))]
      exact ihh
theorem q4_wait {k a n : Nat} {w T S : ra_W} (hk : 10 ≤ k) (hn : n ≤ 7) (hT : cNet w a n T) (h : cSt w 23 n S) : FX4_isAnyWaiting k 23 a w = some (if pu_lst (sp_wtb S) n = none then 0 else 1, w) := by
  obtain ⟨k, rfl⟩ : ∃ q, k = q + 1 := ⟨k - 1, by omega⟩
  unfold FX4_isAnyWaiting
  rw [fX4_isAnyWaiting_0]
  exact q4_wait_loop hn hT h n 0 k (by omega) (by omega) (fun j hj => absurd hj (by omega))
def sp_lasts (n : Nat) (T S : ra_W) : Nat → Nat → Int32
  | 0, _ => -9
  | d + 1, i => if pu_lst (sp_wtb (tkS n T S i)) n = none then nI i else sp_lasts n T S d (i + 1)
theorem q5_lasts_loop {k n A : Nat} {T S : ra_W} (hk : 200 ≤ k) (hv : iv n A T S) : ∀ (d i m : Nat) (w : ra_W), i + d = 61 → d + 1 ≤ m → cNet w 3 n T → cSt w 23 n (tkS n T S i) → ∃ w', fX5_waveLasts k m 1 0 (nI i) w = some (sp_lasts n T S d i, w') ∧ ff w w' := by
  have hn : n ≤ 7 := hv.1.2.2.2
  intro d
  induction d with
  | zero =>
    intro i m w hi hm hT h
    obtain ⟨m, rfl⟩ : ∃ q, m = q + 1 := ⟨m - 1, by omega⟩
    rw [fX5_waveLasts_1, if_pos (show (60 : Int32) < nI i from nI_lt (a := 60) (by omega) (by omega))]
    exact ⟨w, rfl, ff_rf w⟩
  | succ d ih =>
    intro i m w hi hm hT h
    obtain ⟨m, rfl⟩ : ∃ q, m = q + 1 := ⟨m - 1, by omega⟩
    rw [fX5_waveLasts_1, if_neg (show ¬ (60 : Int32) < nI i from nI_nlt (a := 60) (by omega) (by decide)), q4_wait (by omega) hn hT h]
    simp only [ra_bind, sp_lasts]
    by_cases ho : pu_lst (sp_wtb (tkS n T S i)) n = none
    · rw [if_pos ho, if_pos rfl, if_pos ho]
      exact ⟨w, rfl, ff_rf w⟩
    · rw [if_neg ho, if_neg (by decide), if_neg ho]
      obtain ⟨w1, g1, g2, g3, g4⟩ := q5_go (k := k) hk (Or.inl rfl) hT h (iv_tk hv i)
      rw [g1]
      simp only [nI_1]
      obtain ⟨w2, f1, f2⟩ := ih (i + 1) m w1 (by omega) (by omega) g3 g2
      exact ⟨w2, f1, ff_tr g4 f2⟩
theorem m6_in13 {k : Nat} {x : Int32} {w : ra_W} (hk : 1 ≤ k) : FX6_in k x 1 3 w = some (if x = 1 ∨ x = 2 ∨ x = 3 then 1 else 0, w) := by
  rcases pu_rng x 1 3 (by decide) (by decide) with ⟨j, h1, h2, rfl⟩ | hb
  · rw [show FX6_in k (nI j) 1 3 w = _ from m6_in1 (lo := 1) (hi := 3) hk h1 h2 (by decide), if_pos]
    rcases (show j = 1 ∨ j = 2 ∨ j = 3 by omega) with rfl | rfl | rfl <;> decide
  · replace hb : x < (1 : Int32) ∨ (3 : Int32) < x := hb
    rw [m6_in0 hk hb, if_neg]
    rintro (z | z | z) <;> rw [z] at hb <;> revert hb <;> decide
theorem m6_wait_loop {k n : Nat} {w T S : ra_W} {x : Int32} (hk : 1 ≤ k) (hn : n ≤ 7) (hT : mNet w n T) (h : mSt w 140 n S) : ∀ (d i m : Nat), i + d = n → ∃ m', m ≤ m' ∧ fX6_lasts k (m + 3 * d) 2 x (if pu_lst (sp_wtb S) i = none then 0 else 1) (nI i) 0 w = fX6_lasts k m' 2 x (if pu_lst (sp_wtb S) n = none then 0 else 1) (nI n) 0 w := by
  intro d
  induction d with
  | zero =>
    intro i m hi
    have hin : i = n := by omega
    subst hin
    exact ⟨m, by omega, rfl⟩
  | succ d ih =>
    intro i m hi
    have hs := pu_lst_step (p := sp_wtb S) (i := i)
    rw [show m + 3 * (d + 1) = m + 3 * d + 1 + 1 + 1 by omega, fX6_lasts_2, hT.1, if_neg (nI_ge (by omega) (by omega)), pl_13, if_pos (pu_in (by omega) (by decide)), pu_ix (by omega), h.2.1 i (by omega), m6_in13 hk]
    simp only [ra_bind, fX6_lasts_3, fX6_lasts_4, nI_1]
    by_cases h1 : pu_lst (sp_wtb S) i = none
    · rw [if_pos h1, if_pos rfl]
      by_cases hp : S 1 i = 1 ∨ S 1 i = 2 ∨ S 1 i = 3
      · have hp2 : sp_wtb S i = true := by simpa [sp_wtb] using hp
        have := ih (i + 1) m (by omega)
        rw [if_neg (fun q => (hs.mp q).2 hp2)] at this
        rw [if_pos hp, if_neg (by decide)]
        exact this
      · have hp2 : ¬ sp_wtb S i = true := by simpa [sp_wtb] using hp
        have := ih (i + 1) (m + 1) (by omega)
        rw [if_pos (hs.mpr ⟨h1, hp2⟩)] at this
        rw [if_neg hp, if_pos rfl, show m + 3 * d + 1 = m + 1 + 3 * d by omega]
        obtain ⟨m', a, b⟩ := this
        exact ⟨m', by omega, b⟩
    · have := ih (i + 1) m (by omega)
      rw [if_neg (fun q => h1 (hs.mp q).1)] at this
      rw [if_neg h1, if_neg (by decide)]
      exact this
theorem m6_lasts_loop {k n A : Nat} {T S : ra_W} (hk : 400 ≤ k) (hv : iv n A T S) : ∀ (d i m : Nat) (w : ra_W), i + d = 61 → 30 * d + 1 ≤ m → mNet w n T → mSt w 140 n (tkS n T S i) → ∃ w', fX6_lasts k m 1 (nI i) 0 0 0 w = some (sp_lasts n T S d i, w') ∧ fg w w' := by
  have hn : n ≤ 7 := hv.1.2.2.2
  intro d
  induction d with
  | zero =>
    intro i m w hi hm hT h
    obtain ⟨m, rfl⟩ : ∃ q, m = q + 1 := ⟨m - 1, by omega⟩
    rw [fX6_lasts_1, if_pos (show (60 : Int32) < nI i from nI_lt (a := 60) (by omega) (by omega))]
    exact ⟨w, rfl, fg_rf w⟩
  | succ d ih =>
    intro i m w hi hm hT h
    obtain ⟨m, rfl⟩ : ∃ q, m = (q + 3 * n) + 1 := ⟨m - 1 - 3 * n, by omega⟩
    rw [fX6_lasts_1, if_neg (show ¬ (60 : Int32) < nI i from nI_nlt (a := 60) (by omega) (by decide))]
    obtain ⟨m', a1, a2⟩ := m6_wait_loop (k := k) (x := nI i) (by omega) hn hT h n 0 m (by omega)
    rw [show (if pu_lst (sp_wtb (tkS n T S i)) 0 = none then (0 : Int32) else 1) = 0 from rfl, show nI 0 = (0 : Int32) from rfl] at a2
    rw [a2]
    obtain ⟨m'', rfl⟩ : ∃ q, m' = q + 1 := ⟨m' - 1, by omega⟩
    rw [fX6_lasts_2, hT.1, if_pos (nI_le (Nat.le_refl n) (by omega))]
    simp only [sp_lasts]
    by_cases ho : pu_lst (sp_wtb (tkS n T S i)) n = none
    · rw [if_pos ho, if_pos rfl, if_pos ho]
      exact ⟨w, rfl, fg_rf w⟩
    · rw [if_neg ho, if_neg (by decide), if_neg ho]
      obtain ⟨w1, g1, g2, g3, g4⟩ := m6_go (k := k) hk hT h (iv_tk hv i)
      rw [g1]
      simp only [ra_bind, nI_1]
      obtain ⟨w2, f1, f2⟩ := ih (i + 1) m'' w1 (by omega) (by omega) g3 g2
      exact ⟨w2, f1, fg_tr g4 f2⟩
