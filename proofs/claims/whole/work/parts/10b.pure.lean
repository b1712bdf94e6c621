theorem pu_enc_eq {i : Nat} {h : Option Nat} (hi : i < 2 ^ 31) (hh : ∀ r, h = some r → r < 2 ^ 31) : nI i = pu_enc h ↔ h = some i := by
  cases h with
  | none => exact ⟨fun e => absurd e (pu_enc_ne hi), fun e => by cases e⟩
  | some r =>
    have := nI_eq hi (hh r rfl)
    constructor
    · intro e
      rw [this.mp e]
    · intro e
      cases e
      rfl
/-- heard ones are queued, the others of the site are backed -/
def sp_hearI (h : Option Nat) (m : Nat) (S : ra_W) (s : Int32) : ra_W := fun j r => if r < m ∧ S 1 r = 1 ∧ S 0 r = s then (if j = 1 then (if h = some r then 3 else 2) else if j = 2 then (if h = some r then 0 else 1 + (nI r - nI r / 3 * 3)) else S j r) else S j r
theorem q0_hear_loop {k a b n : Nat} {T S : ra_W} {h : Option Nat} (s : Int32) (hk : 1 ≤ k) (hn : n ≤ 7) (hab : a + 4 < b) (ha : a < 10) (hh : ∀ r, h = some r → r < 2 ^ 31) : ∀ (d i m : Nat) (w : ra_W), i + d = n → 2 * d + 1 ≤ m → cNet w a n T → cSt w b n (sp_hearI h i S s) → ∃ w', fX0_hear k a b m 1 s (pu_enc h) (nI i) w = some (0, w') ∧ cSt w' b n (sp_hearI h n S s) ∧ pu_fs b w w' := by
  intro d
  induction d with
  | zero =>
    intro i m w hi hm hT hw
    obtain ⟨m, rfl⟩ : ∃ q, m = q + 1 := ⟨m - 1, by omega⟩
    have hin : i = n := by omega
    subst hin
    rw [fX0_hear_1, hT.1, if_pos (nI_le (Nat.le_refl i) (by omega))]
    exact ⟨w, rfl, hw, pu_fs_rf b w⟩
  | succ d ih =>
    intro i m w hi hm hT hw
    obtain ⟨m, rfl⟩ : ∃ q, m = q + 1 + 1 := ⟨m - 2, by omega⟩
    rw [fX0_hear_1, hT.1, if_neg (nI_ge (by omega) (by omega)), q0_isSentAt s hk hw (by omega) hn]
    simp only [ra_bind]
    have e1 : sp_hearI h i S s 1 i = S 1 i := by simp [sp_hearI]
    have e0 : sp_hearI h i S s 0 i = S 0 i := by simp [sp_hearI]
    rw [e1, e0]
    by_cases hs : S 1 i = 1 ∧ S 0 i = s
    · rw [if_pos hs, if_neg (by decide)]
      by_cases hh2 : h = some i
      · rw [if_pos ((pu_enc_eq (by omega) hh).mpr hh2), q4_enter 3 hk (by omega)]
        simp only [fX0_hear_2, nI_1]
        have e : ra_st (ra_st (sp_hearI h i S s) 1 i 3) 2 i 0 = sp_hearI h (i + 1) S s := by
          funext j r
          simp only [pu_st, sp_hearI]
          grind
        have hf : pu_fs b w (ra_st (ra_st w (b + 2) i 3) (b + 3) i 0) := pu_fs_tr (pu_fs_st _ _ _ (by omega)) (pu_fs_st _ _ _ (by omega))
        obtain ⟨w', h1, h2, h3⟩ := ih (i + 1) m (ra_st (ra_st w (b + 2) i 3) (b + 3) i 0) (by omega) (by omega) (cNet_fr hT (pu_fs_fr hf) hab ha) (by rw [← e]; exact cSt_2 _ _ (cSt_1 _ _ hw))
        exact ⟨w', h1, h2, pu_fs_tr hf h3⟩
      · rw [if_neg (fun q => hh2 ((pu_enc_eq (by omega) hh).mp q)), if_pos (pu_in (by omega) (by decide)), pu_ix (by omega)]
        simp only [fX0_hear_2, nI_1]
        have e : ra_st (ra_st (sp_hearI h i S s) 1 i 2) 2 i (1 + (nI i - nI i / 3 * 3)) = sp_hearI h (i + 1) S s := by
          funext j r
          simp only [pu_st, sp_hearI]
          grind
        have hf : pu_fs b w (ra_st (ra_st w (b + 2) i 2) (b + 3) i (1 + (nI i - nI i / 3 * 3))) := pu_fs_tr (pu_fs_st _ _ _ (by omega)) (pu_fs_st _ _ _ (by omega))
        obtain ⟨w', h1, h2, h3⟩ := ih (i + 1) m _ (by omega) (by omega) (cNet_fr hT (pu_fs_fr hf) hab ha) (by rw [← e]; exact cSt_2 _ _ (cSt_1 _ _ hw))
        exact ⟨w', h1, h2, pu_fs_tr hf h3⟩
    · rw [if_neg hs, if_pos rfl, fX0_hear_2, nI_1]
      have e : sp_hearI h i S s = sp_hearI h (i + 1) S s := by
        funext j r
        simp only [sp_hearI]
        grind
      exact ih (i + 1) m w (by omega) (by omega) hT (by rw [← e]; exact hw)
def sp_hear (n : Nat) (S : ra_W) (s : Int32) : ra_W := sp_hearI (sp_heard n S s) n S s
theorem pu_last_lt {p : Nat → Bool} : ∀ {n r : Nat}, pu_last p n = some r → r < n
  | 0, r, h => by simp [pu_last] at h
  | n + 1, r, h => by
    simp only [pu_last] at h
    split at h
    · cases h; omega
    · have := pu_last_lt h; omega
theorem sp_heard_lt {n : Nat} {S : ra_W} {s : Int32} {r : Nat} (h : sp_heard n S s = some r) : r < n := by
  unfold sp_heard at h
  cases h1 : pu_lst (sp_surg S s) n with
  | some t =>
    rw [h1] at h
    cases h
    exact (pu_lst_some.mp h1).1
  | none =>
    rw [h1] at h
    dsimp only at h
    split at h
    · exact pu_last_lt h
    · cases h
theorem q0_hear {k a b n : Nat} {w T S : ra_W} (s : Int32) (hk : 20 ≤ k) (hn : n ≤ 7) (hab : a + 4 < b) (ha : a < 10) (hT : cNet w a n T) (h : cSt w b n S) : ∃ w', FX0_hear k a b s w = some (0, w') ∧ cSt w' b n (sp_hear n S s) ∧ pu_fs b w w' := by
  obtain ⟨k, rfl⟩ : ∃ q, k = q + 1 := ⟨k - 1, by omega⟩
  unfold FX0_hear
  rw [fX0_hear_0, q0_heardAt s (by omega) hT h hn]
  simp only [ra_bind]
  have e : sp_hearI (sp_heard n S s) 0 S s = S := by
    funext j r
    simp [sp_hearI]
  exact q0_hear_loop s (by omega) hn hab ha (fun r hr => by have := sp_heard_lt hr; omega) n 0 k w (by omega) (by omega) hT (by rw [e]; exact h)
/-- soft ones -/
abbrev sp_rem (p q : Int32) : Int32 := p - p / q * q
abbrev sp_soft (T S : ra_W) (s : Nat) (g : Int32) (e : Nat) : Bool := decide (S 1 e = 5 ∧ S 0 e = nI s ∧ sp_rem (T 2 e) (T 1 s) = g)
def sp_ch (T : ra_W) : Prop := ∀ i, i < 2 → ∃ c, 1 ≤ c ∧ c ≤ 7 ∧ T 1 i = nI c
theorem q0_isSoftTaken_loop {k a b n : Nat} {w T S : ra_W} {s : Nat} {g : Int32} (hs : s < 2) (hc : sp_ch T) (hT : cNet w a n T) (h : cSt w b n S) (hn : n ≤ 7) : ∀ (d i m : Nat), i + d = n → 2 * d + 1 ≤ m → (∀ j, j < i → sp_soft T S s g j = false) → fX0_isSoftTaken k a b m 1 0 (nI s) (T 1 s) g (nI i) w = some (if pu_lst (sp_soft T S s g) n = none then 0 else 1, w) := by
  obtain ⟨c, hc1, hc2, hc3⟩ := hc s hs
  have hne : ¬ T 1 s = 0 := by rw [hc3]; exact nI_ne0 (by omega) (by omega)
  intro d
  induction d with
  | zero =>
    intro i m hi hm hu
    obtain ⟨m, rfl⟩ : ∃ q, m = q + 1 := ⟨m - 1, by omega⟩
    have hin : i = n := by omega
    subst hin
    rw [fX0_isSoftTaken_1, hT.1, if_pos (nI_le (Nat.le_refl i) (by omega)), if_pos (pu_lst_none.mpr hu)]
  | succ d ih =>
    intro i m hi hm hu
    obtain ⟨m, rfl⟩ : ∃ q, m = q + 1 + 1 := ⟨m - 2, by omega⟩
    rw [fX0_isSoftTaken_1, hT.1, if_neg (nI_ge (by omega) (by omega)), if_pos (pu_in (by omega) (by decide)), pu_ix (by omega), h.2.1 i (by omega), h.1 i (by omega), hT.2.2.2.2.1 i (by omega), if_pos hne]
    by_cases hp : sp_soft T S s g i = true
    · have h1 : pu_lst (sp_soft T S s g) n = some i := pu_lst_stay hu hp (by omega)
      simp only [sp_soft, decide_eq_true_eq] at hp
      rw [if_pos hp.1, if_pos hp.2.1, if_pos hp.2.2, h1]
      simp
    · have ihh := ih (i + 1) m (by omega) (by omega) (lt_s hu (by simpa using hp))
      simp only [sp_soft, decide_eq_true_eq] at hp
      rw [fX0_isSoftTaken_2, nI_1]
      rw [ihh]
      grind
def sp_taken (n : Nat) (T S : ra_W) (s r : Nat) : Prop := ¬ pu_lst (sp_soft T S s (sp_rem (T 2 r) (T 1 s))) n = none
theorem q0_isSoftTaken {k a b n : Nat} {w T S : ra_W} {s r : Nat} (hk : 20 ≤ k) (hs : s < 2) (hr : r < n) (hc : sp_ch T) (hT : cNet w a n T) (h : cSt w b n S) (hn : n ≤ 7) (hsr : S 0 r = nI s) : FX0_isSoftTaken k a b (nI r) w = some (if pu_lst (sp_soft T S s (sp_rem (T 2 r) (T 1 s))) n = none then 0 else 1, w) := by
  obtain ⟨k, rfl⟩ : ∃ q, k = q + 1 := ⟨k - 1, by omega⟩
  obtain ⟨c, hc1, hc2, hc3⟩ := hc s hs
  have hne : ¬ T 1 s = 0 := by rw [hc3]; exact nI_ne0 (by omega) (by omega)
  have hmx : (if 1 < T 1 s then T 1 s else 1) = T 1 s := by
    rcases Nat.lt_or_ge 1 c with q | q
    · rw [if_pos (by rw [hc3]; exact nI_lt q (by omega))]
    · have : c = 1 := by omega
      rw [hc3, this]
      decide
  unfold FX0_isSoftTaken
  rw [fX0_isSoftTaken_0, if_pos (pu_in (by omega) (by decide)), pu_ix (by omega), h.1 r hr, hsr, if_pos (pu_in hs (by decide)), pu_ix (by omega), hT.2.2.2.1 s hs, hmx, if_pos hne, hT.2.2.2.2.1 r hr]
  exact q0_isSoftTaken_loop hs hc hT h hn n 0 k (by omega) (by omega) (fun j hj => absurd hj (by omega))
/-- those at a site without control help themselves, one after the other -/
def sp_help1 (n : Nat) (T : ra_W) (s r : Nat) (S : ra_W) : ra_W := if (S 1 r = 1 ∧ S 0 r = nI s) ∧ pu_lst (sp_soft T S s (sp_rem (T 2 r) (T 1 s))) n = none then ra_st (ra_st (ra_st S 1 r 5) 2 r 0) 6 0 (S 6 0 + 1) else S
def sp_helpI (n : Nat) (T : ra_W) (s : Nat) (S : ra_W) : Nat → ra_W
  | 0 => S
  | m + 1 => sp_help1 n T s m (sp_helpI n T s S m)
theorem q0_help_loop {k a b n : Nat} {T S : ra_W} {s : Nat} (hk : 20 ≤ k) (hs : s < 2) (hn : n ≤ 7) (hab : a + 4 < b) (ha : a < 10) (hc : sp_ch T) : ∀ (d i m : Nat) (w : ra_W), i + d = n → 2 * d + 1 ≤ m → cNet w a n T → cSt w b n (sp_helpI n T s S i) → ∃ w', fX0_helpThemselves k a b m 1 (nI s) (nI i) w = some (0, w') ∧ cSt w' b n (sp_helpI n T s S n) ∧ pu_fs b w w' := by
  intro d
  induction d with
  | zero =>
    intro i m w hi hm hT hw
    obtain ⟨m, rfl⟩ : ∃ q, m = q + 1 := ⟨m - 1, by omega⟩
    have hin : i = n := by omega
    subst hin
    rw [fX0_helpThemselves_1, hT.1, if_pos (nI_le (Nat.le_refl i) (by omega))]
    exact ⟨w, rfl, hw, pu_fs_rf b w⟩
  | succ d ih =>
    intro i m w hi hm hT hw
    obtain ⟨m, rfl⟩ : ∃ q, m = q + 1 + 1 := ⟨m - 2, by omega⟩
    rw [fX0_helpThemselves_1, hT.1, if_neg (nI_ge (by omega) (by omega)), q0_isSentAt (nI s) (by omega) hw (by omega) hn]
    simp only [ra_bind]
    have hst : sp_helpI n T s S (i + 1) = sp_help1 n T s i (sp_helpI n T s S i) := rfl
    generalize sp_helpI n T s S i = Q at hw hst
    by_cases h1 : Q 1 i = 1 ∧ Q 0 i = nI s
    · rw [if_pos h1, if_neg (by decide), q0_isSoftTaken hk hs (by omega) hc hT hw hn h1.2]
      simp only []
      by_cases h2 : pu_lst (sp_soft T Q s (sp_rem (T 2 i) (T 1 s))) n = none
      · rw [if_pos h2, if_pos rfl, q4_enter 5 (by omega) (by omega)]
        simp only [fX0_helpThemselves_2, nI_1]
        have e : sp_help1 n T s i Q = ra_st (ra_st (ra_st Q 1 i 5) 2 i 0) 6 0 (Q 6 0 + 1) := if_pos ⟨h1, h2⟩
        have hf : pu_fs b w (ra_st (ra_st (ra_st w (b + 2) i 5) (b + 3) i 0) b 7 (ra_st (ra_st w (b + 2) i 5) (b + 3) i 0 b 7 + 1)) := pu_fs_tr (pu_fs_tr (pu_fs_st _ _ _ (by omega)) (pu_fs_st _ _ _ (by omega))) (pu_fs_st _ _ _ (by omega))
        have hb7 : ra_st (ra_st w (b + 2) i 5) (b + 3) i 0 b 7 = Q 6 0 := by
          rw [pu_st_ne (by omega), pu_st_ne (by omega)]
          exact hw.2.2.2.2.2.2.1
        obtain ⟨w', g1, g2, g3⟩ := ih (i + 1) m _ (by omega) (by omega) (cNet_fr hT (pu_fs_fr hf) hab ha) (by rw [hst, e, hb7]; exact cSt_6 0 (by decide) _ (cSt_2 _ _ (cSt_1 _ _ hw)))
        exact ⟨w', g1, g2, pu_fs_tr hf g3⟩
      · rw [if_neg h2, if_neg (by decide), fX0_helpThemselves_2, nI_1]
        have e : sp_help1 n T s i Q = Q := if_neg (fun q => h2 q.2)
        exact ih (i + 1) m w (by omega) (by omega) hT (by rw [hst, e]; exact hw)
    · rw [if_neg h1, if_pos rfl, fX0_helpThemselves_2, nI_1]
      have e : sp_help1 n T s i Q = Q := if_neg (fun q => h1 q.1)
      exact ih (i + 1) m w (by omega) (by omega) hT (by rw [hst, e]; exact hw)
def sp_help (n : Nat) (T : ra_W) (s : Nat) (S : ra_W) : ra_W := sp_helpI n T s S n
theorem q0_help {k a b n : Nat} {w T S : ra_W} {s : Nat} (hk : 30 ≤ k) (hs : s < 2) (hn : n ≤ 7) (hab : a + 4 < b) (ha : a < 10) (hc : sp_ch T) (hT : cNet w a n T) (h : cSt w b n S) : ∃ w', FX0_helpThemselves k a b (nI s) w = some (0, w') ∧ cSt w' b n (if 2 ≤ S 5 s then sp_help n T s S else S) ∧ pu_fs b w w' := by
  obtain ⟨k, rfl⟩ : ∃ q, k = q + 1 := ⟨k - 1, by omega⟩
  unfold FX0_helpThemselves
  rw [fX0_helpThemselves_0, if_pos (pu_in hs (by decide)), pu_ix (by omega), h.2.2.2.2.2.1 s hs]
  by_cases h2 : 2 ≤ S 5 s
  · rw [if_pos h2, if_pos h2]
    exact q0_help_loop (by omega) hs hn hab ha hc n 0 k w (by omega) (by omega) hT h
  · rw [if_neg h2, if_neg h2]
    exact ⟨w, rfl, h, pu_fs_rf b w⟩
