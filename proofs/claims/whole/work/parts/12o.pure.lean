/-! WHICH RANK -/
def sp_rk (T : ra_W) (r q : Nat) : ra_W := ra_st T 3 r (nI q)
theorem sp_rk_ne {T : ra_W} {r q j i : Nat} (h : j ≠ 3) : sp_rk T r q j i = T j i := by
  unfold sp_rk
  rw [pu_st, if_neg (fun z => h z.1)]
theorem iv_rk {n A : Nat} {T S : ra_W} {r q : Nat} (h : iv n A T S) : iv n A (sp_rk T r q) S := by
  obtain ⟨ht, hr, hg, hc, hl⟩ := h
  refine ⟨⟨ht.1, ht.2.1, by rw [sp_rk_ne (by decide)]; exact ht.2.2.1, ht.2.2.2⟩, hr, fun a b x y p z e => hg a b x y p z (by rw [sp_rk_ne (by decide), sp_rk_ne (by decide)] at e; exact e), fun i hi => ?_, hl⟩
  rw [sp_rk_ne (by decide)]
  exact hc i hi
def sp_tm (n : Nat) (T S : ra_W) (r : Nat) : Nat → Nat → Int32 → Int32
  | 0, _, a => a
  | d + 1, i, a => sp_tm n T S r d (i + 1) (if sp_onb (tkS n T S (i + 1)) r = true then a ||| (1 <<< (nI (i + 1) &&& 31)) else a)
theorem sp_tm_idle {n A : Nat} {T S : ra_W} {r : Nat} (hv : iv n A T S) (hr : r < n) : ∀ d i a, tkS n T S i 1 r = 0 → sp_tm n T S r d i a = a
  | 0, _, _, _ => rfl
  | d + 1, i, a, h => by
    have h1 : tkS n T S (i + 1) 1 r = 0 := sp_tick_idle (iv_tk hv i) hr h
    simp only [sp_tm]
    rw [if_neg (by simp [sp_onb, h1])]
    exact sp_tm_idle hv hr d (i + 1) a h1
theorem q5_times_loop {k n A : Nat} {T S : ra_W} {r : Nat} (hk : 200 ≤ k) (hr : r < n) (hv : iv n A T S) : ∀ (d i m : Nat) (a : Int32) (w : ra_W), i + d = 20 → 2 * d + 1 ≤ m → cNet w 8 n T → cSt w 23 n (tkS n T S i) → ∃ w', fX5_timesOnAir k m 1 (nI r) a (nI (i + 1)) w = some (sp_tm n T S r d i a, w') ∧ cNet w' 8 n T ∧ (∀ c, (c < 23 ∨ 29 < c) → c ≠ 14 → c ≠ 15 → w' c = w c) := by
  have hn : n ≤ 7 := hv.1.2.2.2
  intro d
  induction d with
  | zero =>
    intro i m a w hi hm hT h
    obtain ⟨m, rfl⟩ : ∃ q, m = q + 1 := ⟨m - 1, by omega⟩
    rw [fX5_timesOnAir_1, if_pos (show (20 : Int32) < nI (i + 1) from nI_lt (a := 20) (by omega) (by omega))]
    exact ⟨w, rfl, hT, fun _ _ _ _ => rfl⟩
  | succ d ih =>
    intro i m a w hi hm hT h
    obtain ⟨m, rfl⟩ : ∃ q, m = q + 1 + 1 := ⟨m - 2, by omega⟩
    rw [fX5_timesOnAir_1, if_neg (show ¬ (20 : Int32) < nI (i + 1) from nI_nlt (a := 20) (by omega) (by decide)), if_pos (pu_in (by omega) (by decide)), pu_ix (by omega), h.2.1 r hr]
    by_cases h0 : tkS n T S i 1 r = 0
    · rw [if_pos h0, sp_tm_idle hv hr (d + 1) i a h0]
      exact ⟨w, rfl, hT, fun _ _ _ _ => rfl⟩
    · rw [if_neg h0]
      obtain ⟨w1, g1, g2, g3, g4⟩ := q0_pass (k := k) (a := 8) (b := 23) hk (by omega) (by omega) (by omega) hT h (iv_tk hv i)
      have g2 : cSt w1 23 n (tkS n T S (i + 1)) := g2
      have hT1 : cNet w1 8 n T := cNet_x hT (fun x p q => g3 x (by omega) (by omega) (by omega))
      rw [g1]
      simp only [ra_bind]
      rw [q4_isOnAir (by omega) g2 hr hn]
      simp only [fX5_timesOnAir_2, nI_1, sp_tm]
      by_cases ho : tkS n T S (i + 1) 1 r = 4 ∨ tkS n T S (i + 1) 1 r = 5
      · have ho2 : sp_onb (tkS n T S (i + 1)) r = true := by simpa [sp_onb] using ho
        rw [if_pos ho, if_neg (by decide), if_pos ho2]
        obtain ⟨w2, f1, f2, f3⟩ := ih (i + 1) m (a ||| (1 <<< (nI (i + 1) &&& 31))) w1 (by omega) (by omega) hT1 g2
        exact ⟨w2, f1, f2, fun c x y z => (f3 c x y z).trans (g3 c (by omega) y z)⟩
      · have ho2 : ¬ sp_onb (tkS n T S (i + 1)) r = true := by simpa [sp_onb] using ho
        rw [if_neg ho, if_pos rfl, if_neg ho2]
        obtain ⟨w2, f1, f2, f3⟩ := ih (i + 1) m a w1 (by omega) (by omega) hT1 g2
        exact ⟨w2, f1, f2, fun c x y z => (f3 c x y z).trans (g3 c (by omega) y z)⟩
theorem q5_times {k n A : Nat} {w T S : ra_W} {r : Nat} (hk : 200 ≤ k) (hr : r < n) (hv : iv n A T S) (hT : cNet w 8 n T) (hS : cSt w 16 n S) : ∃ w', FX5_timesOnAir k (nI r) w = some (sp_tm n T S r 20 0 0, w') ∧ cNet w' 8 n T ∧ (∀ c, (c < 23 ∨ 29 < c) → c ≠ 14 → c ≠ 15 → w' c = w c) := by
  have hn : n ≤ 7 := hv.1.2.2.2
  obtain ⟨k, rfl⟩ : ∃ q, k = q + 1 := ⟨k - 1, by omega⟩
  unfold FX5_timesOnAir
  obtain ⟨w1, g1, g2⟩ := q4_copy (k := k + 1) (b0 := 23) (b1 := 16) (w := w) (by omega) (by omega)
  rw [fX5_timesOnAir_0, g1]
  simp only [ra_bind]
  obtain ⟨w2, f1, f2, f3⟩ := q5_times_loop (k := k + 1) hk hr hv 20 0 k 0 w1 (by omega) (by omega) (cNet_x hT (fun x p q => g2.2.2.2 x (by omega))) (cSt_cq hn hS g2)
  exact ⟨w2, f1, f2, fun c x y z => (f3 c x y z).trans (g2.2.2.2 c (by omega))⟩
theorem m6_times_loop {k n A : Nat} {T S : ra_W} {r : Nat} {x : Int32} (hk : 400 ≤ k) (hr : r < n) (hv : iv n A T S) : ∀ (d i m : Nat) (a : Int32) (w : ra_W), i + d = 20 → 2 * d + 1 ≤ m → mNet w n T → mSt w 140 n (tkS n T S i) → ∃ w', fX6_onBy k m 1 (nI r) 0 x a (nI (i + 1)) 0 0 w = some (sp_tm n T S r d i a, ra_st w' 136 (12 + r) x) ∧ fg w w' := by
  have hn : n ≤ 7 := hv.1.2.2.2
  intro d
  induction d with
  | zero =>
    intro i m a w hi hm hT h
    obtain ⟨m, rfl⟩ : ∃ q, m = q + 1 := ⟨m - 1, by omega⟩
    rw [fX6_onBy_1, if_pos (show (20 : Int32) < nI (i + 1) from nI_lt (a := 20) (by omega) (by omega)), pl_12, if_pos (pu_in (by omega) (by decide)), pu_ix (by omega)]
    exact ⟨w, rfl, fg_rf w⟩
  | succ d ih =>
    intro i m a w hi hm hT h
    obtain ⟨m, rfl⟩ : ∃ q, m = q + 1 + 1 := ⟨m - 2, by omega⟩
    rw [fX6_onBy_1, if_neg (show ¬ (20 : Int32) < nI (i + 1) from nI_nlt (a := 20) (by omega) (by decide))]
    obtain ⟨w1, g1, g2, g3, g4⟩ := m6_go (k := k) hk hT h (iv_tk hv i)
    have g2 : mSt w1 140 n (tkS n T S (i + 1)) := g2
    rw [g1]
    simp only [ra_bind]
    rw [m6_isOn (by omega) g2 hr hn]
    simp only [fX6_onBy_2, nI_1, sp_tm]
    by_cases ho : tkS n T S (i + 1) 1 r = 4 ∨ tkS n T S (i + 1) 1 r = 5
    · have ho2 : sp_onb (tkS n T S (i + 1)) r = true := by simpa [sp_onb] using ho
      rw [if_pos ho, if_neg (by decide), if_pos ho2]
      obtain ⟨w2, f1, f2⟩ := ih (i + 1) m (a ||| (1 <<< (nI (i + 1) &&& 31))) w1 (by omega) (by omega) g3 g2
      exact ⟨w2, f1, fg_tr g4 f2⟩
    · have ho2 : ¬ sp_onb (tkS n T S (i + 1)) r = true := by simpa [sp_onb] using ho
      rw [if_neg ho, if_pos rfl, if_neg ho2, pu_or0]
      obtain ⟨w2, f1, f2⟩ := ih (i + 1) m a w1 (by omega) (by omega) g3 g2
      exact ⟨w2, f1, fg_tr g4 f2⟩
theorem m6_onBy {k n A : Nat} {w T S : ra_W} {r q : Nat} (hk : 400 ≤ k) (hr : r < n) (hv : iv n A T S) (hT : mNet w n T) (hS : mSt w 139 n S) : ∃ w', FX6_onBy k (nI r) (nI q) w = some (sp_tm n (sp_rk T r q) S r 20 0 0, w') ∧ fg w w' := by
  have hn : n ≤ 7 := hv.1.2.2.2
  obtain ⟨k, rfl⟩ : ∃ q, k = q + 1 := ⟨k - 1, by omega⟩
  unfold FX6_onBy
  rw [fX6_onBy_0, pl_12, if_pos (pu_in (by omega) (by decide)), pu_ix (by omega)]
  have hT1 : mNet (ra_st w 136 (12 + r) (nI q)) n (sp_rk T r q) := by
    have e : ∀ i, i ≠ 12 + r → ra_st w 136 (12 + r) (nI q) 136 i = w 136 i := fun i a => by rw [pu_st, if_neg (fun z => a z.2)]
    unfold mNet
    rw [e 0 (by omega), e 1 (by omega), e 2 (by omega), sp_rk_ne (by decide), sp_rk_ne (by decide)]
    refine ⟨hT.1, hT.2.1, hT.2.2.1, fun i hi => ?_, fun j hj => ?_, fun j hj => ?_⟩
    · rw [e _ (by omega), sp_rk_ne (by decide)]
      exact hT.2.2.2.1 i hi
    · rw [e _ (by omega), sp_rk_ne (by decide)]
      exact hT.2.2.2.2.1 j hj
    · unfold sp_rk
      rw [pu_st, pu_st]
      by_cases z : j = r
      · subst z
        simp
      · rw [if_neg (by omega), if_neg (by omega)]
        exact hT.2.2.2.2.2 j hj
  obtain ⟨w1, g1, g2, g3⟩ := m6_fut (k := k + 1) (w := ra_st w 136 (12 + r) (nI q)) (S := S) (by omega) hn (mSt_x hS (pu_st_ne (by decide)))
  rw [g1]
  simp only [ra_bind]
  obtain ⟨w2, f1, f2⟩ := m6_times_loop (k := k + 1) (x := w 136 (12 + r)) hk hr (iv_rk (r := r) (q := q) hv) 20 0 k 0 w1 (by omega) (by omega) (mNet_fg hT1 g3) g2
  refine ⟨_, f1, ?_⟩
  have f3 := fg_tr g3 f2
  refine ⟨fun c a b d e => ?_, fun i a b => ?_⟩
  · by_cases hc : c = 136
    · subst hc
      funext i
      rw [pu_st]
      by_cases hi : i = 12 + r
      · rw [if_pos ⟨rfl, hi⟩, hi]
      · rw [if_neg (fun z => hi z.2), f3.1 136 a b d e, pu_st, if_neg (fun z => hi z.2)]
    · rw [pu_st_ne hc, f3.1 c a b d e, pu_st_ne hc]
  · rw [pu_st_ne (by decide), f3.2 i a b, pu_st_ne (by decide)]
/-- as it was seen -/
abbrev sp_dis (Z Y : Nat → Int32) (x : Int32) (j : Nat) : Bool := decide (¬ ((x >>> (Z j &&& 31)) &&& 1) = Y j)
theorem q5_agree_loop {k m0 : Nat} {w : ra_W} {x : Int32} (hm : m0 ≤ 6) (h : w 0 11 = nI m0) : ∀ (d i m : Nat), i + d = m0 → d + 1 ≤ m → (∀ j, j < i → sp_dis (w 33) (w 34) x j = false) → fX5_agreesWithSeen k m 1 x (nI i) w = some (if pu_lst (sp_dis (w 33) (w 34) x) m0 = none then 1 else 0, w) := by
  intro d
  induction d with
  | zero =>
    intro i m hi hm hu
    obtain ⟨m, rfl⟩ : ∃ q, m = q + 1 := ⟨m - 1, by omega⟩
    have hin : i = m0 := by omega
    subst hin
    rw [fX5_agreesWithSeen_1, h, if_pos (nI_le (Nat.le_refl i) (by omega)), if_pos (pu_lst_none.mpr hu)]
  | succ d ih =>
    intro i m hi hm hu
    obtain ⟨m, rfl⟩ : ∃ q, m = q + 1 := ⟨m - 1, by omega⟩
    rw [fX5_agreesWithSeen_1, h, if_neg (nI_ge (by omega) (by omega)), if_neg (show ¬ (6 : Int32) ≤ nI i from nI_ge (b := 6) (by omega) (by decide)), if_pos (pu_in (by omega) (by decide)), pu_ix (by omega), nI_1]
    by_cases hp : sp_dis (w 33) (w 34) x i = true
    · have h1 : pu_lst (sp_dis (w 33) (w 34) x) m0 = some i := pu_lst_stay hu hp (by omega)
      have hne : ¬ pu_lst (sp_dis (w 33) (w 34) x) m0 = none := by rw [h1]; simp
      rw [if_neg hne]
      simp only [sp_dis, decide_eq_true_eq] at hp
      rw [if_neg hp]
    · have ihh := ih (i + 1) m (by omega) (by omega) (lt_s hu (by simpa using hp))
      simp only [sp_dis, decide_eq_true_eq, Decidable.not_not] at hp
      rw [if_pos hp]
      exact ihh
theorem q5_agree {k m0 : Nat} {w : ra_W} {x : Int32} (hk : 10 ≤ k) (hm : m0 ≤ 6) (h : w 0 11 = nI m0) : FX5_agreesWithSeen k x w = some (if pu_lst (sp_dis (w 33) (w 34) x) m0 = none then 1 else 0, w) := by
  obtain ⟨k, rfl⟩ : ∃ q, k = q + 1 := ⟨k - 1, by omega⟩
  unfold FX5_agreesWithSeen
  rw [fX5_agreesWithSeen_0]
  exact q5_agree_loop hm h m0 0 k (by omega) (by omega) (fun j hj => absurd hj (by omega))
theorem m6_agree_loop {k m0 : Nat} {w : ra_W} {x : Int32} (hm : m0 ≤ 6) (h : w 134 20 = nI m0) : ∀ (d i m : Nat), i + d = m0 → 3 * d + 1 ≤ m → fX6_isAsSeen k m 1 x (if pu_lst (sp_dis (w 144) (w 145) x) i = none then 1 else 0) (nI i) 0 w = some (if pu_lst (sp_dis (w 144) (w 145) x) m0 = none then 1 else 0, w) := by
  intro d
  induction d with
  | zero =>
    intro i m hi hm
    obtain ⟨m, rfl⟩ : ∃ q, m = q + 1 := ⟨m - 1, by omega⟩
    have hin : i = m0 := by omega
    subst hin
    rw [fX6_isAsSeen_1, h, if_pos (nI_le (Nat.le_refl i) (by omega)), if_pos]
    split
    · exact Or.inr rfl
    · exact Or.inl rfl
  | succ d ih =>
    intro i m hi hm
    obtain ⟨m, rfl⟩ : ∃ q, m = q + 1 + 1 + 1 := ⟨m - 3, by omega⟩
    have hs := pu_lst_step (p := sp_dis (w 144) (w 145) x) (i := i)
    rw [fX6_isAsSeen_1, h, if_neg (nI_ge (by omega) (by omega)), if_pos (pu_in (by omega) (by decide)), pu_ix (by omega), fX6_isAsSeen_2, fX6_isAsSeen_3, fX6_isAsSeen_3, nI_1]
    by_cases h1 : pu_lst (sp_dis (w 144) (w 145) x) i = none
    · rw [if_pos h1, if_neg (by decide)]
      by_cases hp : sp_dis (w 144) (w 145) x i = true
      · have ihh := ih (i + 1) m (by omega) (by omega)
        rw [if_neg (fun q => (hs.mp q).2 hp)] at ihh
        simp only [sp_dis, decide_eq_true_eq] at hp
        rw [if_neg hp]
        exact ihh
      · have ihh := ih (i + 1) (m + 1) (by omega) (by omega)
        rw [if_pos (hs.mpr ⟨h1, hp⟩)] at ihh
        simp only [sp_dis, decide_eq_true_eq, Decidable.not_not] at hp
        rw [if_pos hp]
        exact ihh
    · have ihh := ih (i + 1) m (by omega) (by omega)
      rw [if_neg (fun q => h1 (hs.mp q).1)] at ihh
      rw [if_neg h1, if_pos rfl]
      exact ihh
theorem m6_agree {k m0 : Nat} {w : ra_W} {x : Int32} (hk : 30 ≤ k) (hm : m0 ≤ 6) (h : w 134 20 = nI m0) : FX6_isAsSeen k x w = some (if pu_lst (sp_dis (w 144) (w 145) x) m0 = none then 1 else 0, w) := by
  obtain ⟨k, rfl⟩ : ∃ q, k = q + 1 := ⟨k - 1, by omega⟩
  unfold FX6_isAsSeen
  rw [fX6_isAsSeen_0]
  exact m6_agree_loop hm h m0 0 k (by omega) (by omega)
/-- the two rows of what was seen agree as far as they go -/
theorem pu_lst_cong {p q : Nat → Bool} : ∀ {n : Nat}, (∀ j, j < n → p j = q j) → pu_lst p n = pu_lst q n
  | 0, _ => rfl
  | n + 1, h => by
    simp only [pu_lst]
    rw [pu_lst_cong (n := n) (fun j hj => h j (by omega)), h n (by omega)]
/-- the ranks that fit -/
abbrev sp_ag (n : Nat) (T S : ra_W) (Z Y : Nat → Int32) (m0 r q : Nat) : Bool := decide (pu_lst (sp_dis Z Y (sp_tm n (sp_rk T r q) S r 20 0 0)) m0 = none)
theorem pu_bns {p : Nat → Bool} {q : Nat} (hq : q < 21) : nI (bn p (q + 1)) = (if p q = true then nI (bn p q) ||| (1 <<< (nI q &&& 31)) else nI (bn p q)) := by
  simp only [bn]
  split
  · rw [pu_shln hq, pu_orn]
  · rfl
theorem q5_fit_loop {k n A m0 : Nat} {T S : ra_W} {Z Y : Nat → Int32} {r : Nat} (hk : 300 ≤ k) (hr : r < n) (hm0 : m0 ≤ 6) (hv : iv n A T S) : ∀ (d q m : Nat) (w : ra_W), q + d = 4 → 2 * d + 1 ≤ m → (∃ x, cNet w 8 n (ra_st T 3 r x)) → cSt w 16 n S → w 0 11 = nI m0 → w 33 = Z → w 34 = Y → (∀ j, j < q → w 35 j = sp_tm n (sp_rk T r j) S r 20 0 0) → ∃ w', fX5_ranksThatFit k m 1 (nI r) (nI (bn (sp_ag n T S Z Y m0 r) q)) (nI q) w = some (nI (bn (sp_ag n T S Z Y m0 r) 4), w') ∧ (∀ j, j < 4 → w' 35 j = sp_tm n (sp_rk T r j) S r 20 0 0) ∧ ff w w' := by
  have hn : n ≤ 7 := hv.1.2.2.2
  intro d
  induction d with
  | zero =>
    intro q m w hi hm hT hS hs hZ hY h35
    obtain ⟨m, rfl⟩ : ∃ q, m = q + 1 := ⟨m - 1, by omega⟩
    have hin : q = 4 := by omega
    subst hin
    rw [fX5_ranksThatFit_1, if_pos (by decide)]
    exact ⟨w, rfl, h35, ff_rf w⟩
  | succ d ih =>
    intro q m w hi hm hT hS hs hZ hY h35
    obtain ⟨m, rfl⟩ : ∃ q, m = q + 1 + 1 := ⟨m - 2, by omega⟩
    obtain ⟨xx, hT⟩ := hT
    rw [fX5_ranksThatFit_1, if_neg (show ¬ (4 : Int32) ≤ nI q from nI_ge (b := 4) (by omega) (by decide)), if_pos (pu_in (by omega) (by decide)), pu_ix (by omega)]
    have hT1 : cNet (ra_st w 12 r (nI q)) 8 n (sp_rk T r q) := by
      have e : ∀ c, c ≠ 12 → ra_st w 12 r (nI q) c = w c := fun c a => pu_st_ne a
      unfold cNet at hT ⊢
      rw [e 8 (by decide), e 9 (by decide), e 11 (by decide), sp_rk_ne (by decide), sp_rk_ne (by decide)]
      have rk : ∀ j i, j ≠ 3 → ra_st T 3 r xx j i = T j i := fun j i a => by rw [pu_st, if_neg (fun z => a z.1)]
      rw [rk _ _ (by decide), rk _ _ (by decide)] at hT
      refine ⟨hT.1, hT.2.1, hT.2.2.1, fun i hi => ?_, fun j hj => ?_, fun j hj => ?_⟩
      · rw [sp_rk_ne (by decide)]
        have := hT.2.2.2.1 i hi
        rw [rk _ _ (by decide)] at this
        exact this
      · rw [sp_rk_ne (by decide)]
        have := hT.2.2.2.2.1 j hj
        rw [rk _ _ (by decide)] at this
        exact this
      · have := hT.2.2.2.2.2 j hj
        unfold sp_rk
        rw [pu_st] at this
        rw [pu_st, pu_st]
        by_cases z : j = r
        · subst z
          simp
        · rw [if_neg (by omega), if_neg (by omega)]
          rw [if_neg (by omega)] at this
          exact this
    obtain ⟨w4, g1, g2, g3⟩ := q5_times (k := k) (by omega) hr (iv_rk (r := r) (q := q) hv) hT1 (cSt_x hS (fun x a b => pu_st_ne (by omega)))
    rw [g1]
    simp only [ra_bind]
    rw [if_pos (pu_in (by omega) (by decide)), pu_ix (by omega), pu_st_eq]
    have x4 : ∀ c, (c < 23 ∨ 29 < c) → c ≠ 12 → c ≠ 14 → c ≠ 15 → c ≠ 35 → ra_st w4 35 q (sp_tm n (sp_rk T r q) S r 20 0 0) c = w c := fun c a b d e f => by rw [pu_st_ne f, g3 c a d e, pu_st_ne b]
    have a11 : ra_st w4 35 q (sp_tm n (sp_rk T r q) S r 20 0 0) 0 11 = nI m0 := by rw [x4 0 (by omega) (by omega) (by omega) (by omega) (by omega)]; exact hs
    have a33 : ra_st w4 35 q (sp_tm n (sp_rk T r q) S r 20 0 0) 33 = Z := (x4 33 (by omega) (by omega) (by omega) (by omega) (by omega)).trans hZ
    have a34 : ra_st w4 35 q (sp_tm n (sp_rk T r q) S r 20 0 0) 34 = Y := (x4 34 (by omega) (by omega) (by omega) (by omega) (by omega)).trans hY
    have a35 : ∀ j, j < q + 1 → ra_st w4 35 q (sp_tm n (sp_rk T r q) S r 20 0 0) 35 j = sp_tm n (sp_rk T r j) S r 20 0 0 := by
      intro j hj
      rw [pu_st]
      by_cases e : j = q
      · rw [if_pos ⟨rfl, e⟩, e]
      · rw [if_neg (fun z => e z.2), g3 35 (by omega) (by omega) (by omega), pu_st_ne (by decide)]
        exact h35 j (by omega)
    have hT2 : cNet (ra_st w4 35 q (sp_tm n (sp_rk T r q) S r 20 0 0)) 8 n (sp_rk T r q) := cNet_x g2 (fun x a b => pu_st_ne (by omega))
    have hS2 : cSt (ra_st w4 35 q (sp_tm n (sp_rk T r q) S r 20 0 0)) 16 n S := cSt_x hS (fun x a b => x4 x (by omega) (by omega) (by omega) (by omega) (by omega))
    have fx : ff w (ra_st w4 35 q (sp_tm n (sp_rk T r q) S r 20 0 0)) := fun c a b d => x4 c (by omega) (by omega) (by omega) (by omega) (by omega)
    rw [q5_agree (by omega) hm0 a11, a33, a34]
    simp only [fX5_ranksThatFit_2, nI_1]
    have hb := pu_bns (p := sp_ag n T S Z Y m0 r) (q := q) (by omega)
    obtain ⟨w5, f1, f2, f3⟩ := ih (q + 1) m (ra_st w4 35 q (sp_tm n (sp_rk T r q) S r 20 0 0)) (by omega) (by omega) ⟨nI q, hT2⟩ hS2 a11 a33 a34 a35
    rw [hb] at f1
    refine ⟨w5, ?_, f2, ff_tr fx f3⟩
    rw [← f1]
    by_cases hg : pu_lst (sp_dis Z Y (sp_tm n (sp_rk T r q) S r 20 0 0)) m0 = none
    · rw [if_pos hg, if_neg (by decide), if_pos (by simpa [sp_ag] using hg)]
    · rw [if_neg hg, if_pos rfl, if_neg (by simpa [sp_ag] using hg)]
theorem q5_fit {k n A m0 : Nat} {w T S : ra_W} {r : Nat} (hk : 300 ≤ k) (hr : r < n) (hm0 : m0 ≤ 6) (hv : iv n A T S) (hT : cNet w 3 n T) (hS : cSt w 16 n S) (h11 : w 0 11 = nI m0) : ∃ w', FX5_ranksThatFit k (nI r) w = some (nI (bn (sp_ag n T S (w 33) (w 34) m0 r) 4), w') ∧ (∀ j, j < 4 → w' 35 j = sp_tm n (sp_rk T r j) S r 20 0 0) ∧ ff w w' := by
  have hn : n ≤ 7 := hv.1.2.2.2
  obtain ⟨k, rfl⟩ : ∃ q, k = q + 1 := ⟨k - 1, by omega⟩
  unfold FX5_ranksThatFit
  obtain ⟨w1, g1, g2, g3, g4, g5⟩ := q2_copy (k := k + 1) (b0 := 8) (b1 := 3) (w := w) (by omega) (by omega)
  rw [fX5_ranksThatFit_0, g1]
  simp only [ra_bind]
  have x1 : ff w w1 := fun c a b d => g5 c (by omega)
  have hT1 : cNet w1 8 n (ra_st T 3 r (T 3 r)) := by
    have e : ra_st T 3 r (T 3 r) = T := by
      funext a b
      rw [pu_st]
      split
      · rename_i z
        rw [z.1, z.2]
      · rfl
    rw [e]
    exact ⟨by rw [g2 0 (by omega)]; exact hT.1, by rw [g2 1 (by omega)]; exact hT.2.1, by rw [g2 2 (by omega)]; exact hT.2.2.1, fun i hi => by rw [g3 i hi]; exact hT.2.2.2.1 i hi, fun j hj => by rw [g4 3 j (by omega) (by omega) (by omega)]; exact hT.2.2.2.2.1 j hj, fun j hj => by rw [g4 4 j (by omega) (by omega) (by omega)]; exact hT.2.2.2.2.2 j hj⟩
  obtain ⟨w2, f1, f2, f3⟩ := q5_fit_loop (k := k + 1) (T := T) (S := S) (Z := w 33) (Y := w 34) (m0 := m0) (r := r) hk hr hm0 hv 4 0 k w1 (by omega) (by omega) ⟨_, hT1⟩ (cSt_ff hS x1) (by rw [g5 0 (by omega)]; exact h11) (g5 33 (by omega)) (g5 34 (by omega)) (fun j hj => absurd hj (by omega))
  exact ⟨w2, f1, f2, ff_tr x1 f3⟩
