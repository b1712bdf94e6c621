/-! PURE LEVEL: numbers, searches, counts -/
theorem pu_in {r N : Nat} (h : r < N) (hN : N < 2 ^ 31) : ra_in (nI r) N := vp_in_nI h hN
theorem pu_ix {r : Nat} (h : r < 2 ^ 31) : ra_ix (nI r) = r := nI_clamp h
def pu_lst (p : Nat → Bool) : Nat → Option Nat
  | 0 => none
  | n + 1 => match pu_lst p n with
    | some r => some r
    | none => if p n = true then some n else none
theorem pu_lst_none {p : Nat → Bool} : ∀ {n : Nat}, pu_lst p n = none ↔ ∀ j, j < n → p j = false
  | 0 => by simp [pu_lst]
  | n + 1 => by
    have ih := pu_lst_none (p := p) (n := n)
    cases h : pu_lst p n with
    | none =>
      have h1 := ih.mp h
      constructor
      · intro h2 j hj
        simp only [pu_lst, h] at h2
        by_cases hp : p n = true
        · simp [hp] at h2
        · rcases Nat.lt_or_ge j n with q | q
          · exact h1 j q
          · have : j = n := by omega
            subst this
            simpa using hp
      · intro h2
        simp [pu_lst, h, h2 n (by omega)]
    | some r =>
      constructor
      · intro h2
        simp [pu_lst, h] at h2
      · intro h2
        have h3 := ih.mpr (fun j hj => h2 j (by omega))
        rw [h] at h3
        cases h3
theorem pu_lst_some {p : Nat → Bool} : ∀ {n r : Nat}, pu_lst p n = some r ↔ r < n ∧ p r = true ∧ ∀ j, j < r → p j = false
  | 0, r => by simp [pu_lst]
  | n + 1, r => by
    cases h : pu_lst p n with
    | none =>
      have h1 := pu_lst_none.mp h
      simp only [pu_lst, h]
      by_cases hp : p n = true
      · rw [if_pos hp]
        constructor
        · intro e
          cases e
          exact ⟨by omega, hp, h1⟩
        · intro ⟨a, b, c⟩
          rcases Nat.lt_or_ge r n with q | q
          · rw [h1 r q] at b; cases b
          · have : r = n := by omega
            rw [this]
      · rw [if_neg hp]
        constructor
        · intro e; cases e
        · intro ⟨a, b, c⟩
          rcases Nat.lt_or_ge r n with q | q
          · rw [h1 r q] at b; cases b
          · have : r = n := by omega
            rw [this] at b
            exact absurd b hp
    | some t =>
      have h1 := (pu_lst_some (p := p) (n := n) (r := t)).mp h
      simp only [pu_lst, h]
      constructor
      · intro e
        cases e
        exact ⟨by omega, h1.2⟩
      · intro ⟨a, b, c⟩
        have hrt : r = t := by
          rcases Nat.lt_trichotomy r t with q | q | q
          · rw [h1.2.2 r q] at b; cases b
          · exact q
          · have := c t q
            rw [h1.2.1] at this; cases this
        rw [hrt]
def pu_last (p : Nat → Bool) : Nat → Option Nat
  | 0 => none
  | n + 1 => if p n = true then some n else pu_last p n
def pu_cnt (p : Nat → Bool) : Nat → Nat
  | 0 => 0
  | n + 1 => pu_cnt p n + (if p n = true then 1 else 0)
theorem pu_cnt_le (p : Nat → Bool) : ∀ n, pu_cnt p n ≤ n
  | 0 => Nat.le_refl 0
  | n + 1 => by have := pu_cnt_le p n; simp only [pu_cnt]; split <;> omega
theorem pu_cnt_zero {p : Nat → Bool} : ∀ {n : Nat}, pu_cnt p n = 0 ↔ ∀ j, j < n → p j = false
  | 0 => by simp [pu_cnt]
  | n + 1 => by
    have ih := pu_cnt_zero (p := p) (n := n)
    simp only [pu_cnt]
    constructor
    · intro h j hj
      by_cases hp : p n = true
      · rw [if_pos hp] at h; omega
      · rcases Nat.lt_or_ge j n with q | q
        · exact ih.mp (by omega) j q
        · have : j = n := by omega
          subst this
          simpa using hp
    · intro h
      rw [if_neg (by rw [h n (by omega)]; decide)]
      exact ih.mpr (fun j hj => h j (by omega))
theorem pu_last_one {p : Nat → Bool} : ∀ {n : Nat}, pu_cnt p n = 1 → pu_last p n = pu_lst p n
  | 0, h => by simp [pu_cnt] at h
  | n + 1, h => by
    simp only [pu_cnt] at h
    by_cases hp : p n = true
    · rw [if_pos hp] at h
      have h0 : pu_cnt p n = 0 := by omega
      have h1 := pu_lst_none.mpr (pu_cnt_zero.mp h0)
      simp [pu_last, pu_lst, hp, h1]
    · rw [if_neg hp] at h
      have ih := pu_last_one (p := p) (n := n) h
      cases h2 : pu_lst p n with
      | none =>
        have h3 := pu_cnt_zero.mpr (pu_lst_none.mp h2)
        omega
      | some r => simp [pu_last, pu_lst, hp, ih, h2]
def pu_enc (o : Option Nat) : Int32 := match o with
  | none => -9
  | some r => nI r
theorem pu_enc_ne {r : Nat} (h : r < 2 ^ 31) : ¬ nI r = -9 := by
  intro e
  have h1 := nI_toInt h
  rw [e] at h1
  have h2 : (-9 : Int32).toInt = -9 := by decide
  omega
/-! views: the class's net and state, the model's -/
def cNet (w : ra_W) (a n : Nat) (T : ra_W) : Prop := w a 0 = nI n ∧ w a 1 = T 0 1 ∧ w a 2 = T 0 2 ∧ (∀ i, i < 2 → w (a + 1) i = T 1 i) ∧ (∀ r, r < n → w (a + 3) r = T 2 r) ∧ (∀ r, r < n → w (a + 4) r = T 3 r)
def cSt (w : ra_W) (b n : Nat) (S : ra_W) : Prop := (∀ r, r < n → w (b + 1) r = S 0 r) ∧ (∀ r, r < n → w (b + 2) r = S 1 r) ∧ (∀ r, r < n → w (b + 3) r = S 2 r) ∧ (∀ r, r < n → w (b + 4) r = S 3 r) ∧ (∀ r, r < n → w (b + 5) r = S 4 r) ∧ (∀ i, i < 2 → w (b + 6) i = S 5 i) ∧ w b 7 = S 6 0 ∧ w b 8 = S 6 1 ∧ w b 9 = S 6 2
def mNet (w : ra_W) (n : Nat) (T : ra_W) : Prop := w 136 0 = nI n ∧ w 136 1 = T 0 1 ∧ w 136 2 = T 0 2 ∧ (∀ i, i < 2 → w 136 (3 + i) = T 1 i) ∧ (∀ r, r < n → w 136 (5 + r) = T 2 r) ∧ (∀ r, r < n → w 136 (12 + r) = T 3 r)
def mSt (w : ra_W) (c n : Nat) (S : ra_W) : Prop := (∀ r, r < n → w c (6 + r) = S 0 r) ∧ (∀ r, r < n → w c (13 + r) = S 1 r) ∧ (∀ r, r < n → w c (20 + r) = S 2 r) ∧ (∀ r, r < n → w c (27 + r) = S 3 r) ∧ (∀ r, r < n → w c (34 + r) = S 4 r) ∧ (∀ i, i < 2 → w c i = S 5 i) ∧ w c 3 = S 6 0 ∧ w c 4 = S 6 1 ∧ w c 5 = S 6 2
theorem pu_st (w : ra_W) (k i : Nat) (v : Int32) (k' i' : Nat) : ra_st w k i v k' i' = if k' = k ∧ i' = i then v else w k' i' := by
  unfold ra_st ra_up upd
  by_cases h : k' = k
  · subst h
    by_cases h2 : i' = i <;> simp [h2]
  · simp [h]
/-- a store into the class's state: site 0, how 1, since 2, urgent 3, held 4; lost 5; began, cut, gave 6 -/
theorem cSt_0 {w : ra_W} {b n : Nat} {S : ra_W} (r : Nat) (x : Int32) (h : cSt w b n S) : cSt (ra_st w (b + 1) r x) b n (ra_st S 0 r x) := by
  simp only [cSt, pu_st] at h ⊢
  grind
theorem cSt_1 {w : ra_W} {b n : Nat} {S : ra_W} (r : Nat) (x : Int32) (h : cSt w b n S) : cSt (ra_st w (b + 2) r x) b n (ra_st S 1 r x) := by
  simp only [cSt, pu_st] at h ⊢
  grind
theorem cSt_2 {w : ra_W} {b n : Nat} {S : ra_W} (r : Nat) (x : Int32) (h : cSt w b n S) : cSt (ra_st w (b + 3) r x) b n (ra_st S 2 r x) := by
  simp only [cSt, pu_st] at h ⊢
  grind
theorem cSt_3 {w : ra_W} {b n : Nat} {S : ra_W} (r : Nat) (x : Int32) (h : cSt w b n S) : cSt (ra_st w (b + 4) r x) b n (ra_st S 3 r x) := by
  simp only [cSt, pu_st] at h ⊢
  grind
theorem cSt_4 {w : ra_W} {b n : Nat} {S : ra_W} (r : Nat) (x : Int32) (h : cSt w b n S) : cSt (ra_st w (b + 5) r x) b n (ra_st S 4 r x) := by
  simp only [cSt, pu_st] at h ⊢
  grind
theorem cSt_5 {w : ra_W} {b n : Nat} {S : ra_W} (r : Nat) (x : Int32) (h : cSt w b n S) : cSt (ra_st w (b + 6) r x) b n (ra_st S 5 r x) := by
  simp only [cSt, pu_st] at h ⊢
  grind
theorem cSt_6 {w : ra_W} {b n : Nat} {S : ra_W} (i : Nat) (hi : i < 3) (x : Int32) (h : cSt w b n S) : cSt (ra_st w b (7 + i) x) b n (ra_st S 6 i x) := by
  simp only [cSt, pu_st] at h ⊢
  grind
/-- frames: what isn't the state's, nor the Air's rows, stays -/
def pu_fr (b : Nat) (w w' : ra_W) : Prop := (∀ c, (c < b ∨ b + 6 < c) → c ≠ 14 → c ≠ 15 → w' c = w c) ∧ w' b 6 = w b 6
theorem pu_fr_rf (b : Nat) (w : ra_W) : pu_fr b w w := ⟨fun _ _ _ _ => rfl, rfl⟩
theorem pu_fr_tr {b : Nat} {w w1 w2 : ra_W} (h1 : pu_fr b w w1) (h2 : pu_fr b w1 w2) : pu_fr b w w2 := ⟨fun c a d e => (h2.1 c a d e).trans (h1.1 c a d e), h2.2.trans h1.2⟩
theorem pu_st_ne {w : ra_W} {k i : Nat} {v : Int32} {c : Nat} (h : c ≠ k) : ra_st w k i v c = w c := by
  unfold ra_st ra_up
  rw [if_neg h]
theorem pu_fr_st {b : Nat} (w : ra_W) {k : Nat} (i : Nat) (v : Int32) (h : ((b ≤ k ∧ k ≤ b + 6) ∨ k = 14 ∨ k = 15) ∧ (b ≠ k ∨ i ≠ 6)) : pu_fr b w (ra_st w k i v) := ⟨fun c a d e => pu_st_ne (by omega), by rw [pu_st, if_neg (by omega)]⟩
/-- frames: nothing but the state's cells -/
def pu_fs (b : Nat) (w w' : ra_W) : Prop := (∀ c, (c < b ∨ b + 6 < c) → w' c = w c) ∧ w' b 6 = w b 6
theorem pu_fs_rf (b : Nat) (w : ra_W) : pu_fs b w w := ⟨fun _ _ => rfl, rfl⟩
theorem pu_fs_tr {b : Nat} {w w1 w2 : ra_W} (h1 : pu_fs b w w1) (h2 : pu_fs b w1 w2) : pu_fs b w w2 := ⟨fun c a => (h2.1 c a).trans (h1.1 c a), h2.2.trans h1.2⟩
theorem pu_fs_st {b : Nat} (w : ra_W) {k : Nat} (i : Nat) (v : Int32) (h : (b ≤ k ∧ k ≤ b + 6) ∧ (b ≠ k ∨ i ≠ 6)) : pu_fs b w (ra_st w k i v) := ⟨fun c a => pu_st_ne (by omega), by rw [pu_st, if_neg (by omega)]⟩
theorem pu_fs_fr {b : Nat} {w w1 : ra_W} (h : pu_fs b w w1) : pu_fr b w w1 := ⟨fun c a _ _ => h.1 c a, h.2⟩
theorem cNet_fr {w w' : ra_W} {a b n : Nat} {T : ra_W} (h : cNet w a n T) (hf : pu_fr b w w') (hab : a + 4 < b) (ha : a < 10) : cNet w' a n T := by
  unfold cNet at h ⊢
  rw [hf.1 a (by omega) (by omega) (by omega), hf.1 (a + 1) (by omega) (by omega) (by omega), hf.1 (a + 3) (by omega) (by omega) (by omega), hf.1 (a + 4) (by omega) (by omega) (by omega)]
  exact h
theorem cNet_x {w w' : ra_W} {a n : Nat} {T : ra_W} (h : cNet w a n T) (hf : ∀ x, a ≤ x → x ≤ a + 4 → w' x = w x) : cNet w' a n T := by
  unfold cNet at h ⊢
  rw [hf a (by omega) (by omega), hf (a + 1) (by omega) (by omega), hf (a + 3) (by omega) (by omega), hf (a + 4) (by omega) (by omega)]
  exact h
/-! the class's parts -/
theorem q4_hasControl {k b n : Nat} {w S : ra_W} {i : Nat} (hk : 1 ≤ k) (h : cSt w b n S) (hi : i < 2) : FX4_hasControl k b (nI i) w = some (if S 5 i = -1 then 1 else 0, w) := by
  obtain ⟨k, rfl⟩ : ∃ q, k = q + 1 := ⟨k - 1, by omega⟩
  unfold FX4_hasControl
  rw [fX4_hasControl_0, if_pos (pu_in hi (by decide)), pu_ix (by omega), h.2.2.2.2.2.1 i hi]
  split <;> rfl
theorem q0_isSentAt {k b n : Nat} {w S : ra_W} {r : Nat} (s : Int32) (hk : 1 ≤ k) (h : cSt w b n S) (hr : r < n) (hn : n ≤ 7) : FX0_isSentAt k b s (nI r) w = some (if S 1 r = 1 ∧ S 0 r = s then 1 else 0, w) := by
  obtain ⟨k, rfl⟩ : ∃ q, k = q + 1 := ⟨k - 1, by omega⟩
  unfold FX0_isSentAt
  rw [fX0_isSentAt_0, if_pos (pu_in (by omega) (by decide)), pu_ix (by omega), h.1 r hr, h.2.1 r hr]
  grind
theorem q4_enter {k b : Nat} {w : ra_W} {r : Nat} (x : Int32) (hk : 1 ≤ k) (hr : r < 7) : FX4_enter k b (nI r) x w = some (0, ra_st (ra_st w (b + 2) r x) (b + 3) r 0) := by
  obtain ⟨k, rfl⟩ : ∃ q, k = q + 1 := ⟨k - 1, by omega⟩
  unfold FX4_enter
  rw [fX4_enter_0, if_pos (pu_in hr (by decide)), pu_ix (by omega)]
theorem q4_rest {k b : Nat} {w : ra_W} {r : Nat} (hk : 1 ≤ k) (hr : r < 7) : FX4_rest k b (nI r) w = some (0, ra_st (ra_st (ra_st (ra_st w (b + 2) r 0) (b + 3) r 0) (b + 4) r 0) (b + 5) r 0) := by
  obtain ⟨k, rfl⟩ : ∃ q, k = q + 1 := ⟨k - 1, by omega⟩
  unfold FX4_rest
  rw [fX4_rest_0, q4_enter 0 (by omega) hr]
  simp only [ra_bind]
  rw [if_pos (pu_in hr (by decide)), pu_ix (by omega)]
theorem q4_isOnAir {k b n : Nat} {w S : ra_W} {r : Nat} (hk : 1 ≤ k) (h : cSt w b n S) (hr : r < n) (hn : n ≤ 7) : FX4_isOnAir k b (nI r) w = some (if S 1 r = 4 ∨ S 1 r = 5 then 1 else 0, w) := by
  obtain ⟨k, rfl⟩ : ∃ q, k = q + 1 := ⟨k - 1, by omega⟩
  unfold FX4_isOnAir
  rw [fX4_isOnAir_0, if_pos (pu_in (by omega) (by decide)), pu_ix (by omega), h.2.1 r hr]
  grind
/-- who is heard at a site -/
abbrev sp_sent (S : ra_W) (s : Int32) (r : Nat) : Bool := decide (S 1 r = 1 ∧ S 0 r = s)
abbrev sp_surg (S : ra_W) (s : Int32) (r : Nat) : Bool := decide ((S 1 r = 1 ∧ S 0 r = s) ∧ S 3 r = 1)
def sp_heard (n : Nat) (S : ra_W) (s : Int32) : Option Nat := match pu_lst (sp_surg S s) n with
  | some r => some r
  | none => if pu_cnt (sp_sent S s) n = 1 then pu_last (sp_sent S s) n else none
theorem pu_lst_stay {p : Nat → Bool} {i n : Nat} (h : ∀ j, j < i → p j = false) (hp : p i = true) (hi : i < n) : pu_lst p n = some i := pu_lst_some.mpr ⟨hi, hp, h⟩
theorem q0_heardAt_loop {k a b n : Nat} {w T S : ra_W} (s : Int32) (hk : 1 ≤ k) (hT : cNet w a n T) (h : cSt w b n S) (hn : n ≤ 7) : ∀ (d i m : Nat), i + d = n → 2 * d + 1 ≤ m → (∀ j, j < i → sp_surg S s j = false) → fX0_heardAt k a b m 1 s (nI (pu_cnt (sp_sent S s) i)) (pu_enc (pu_last (sp_sent S s) i)) (nI i) w = some (pu_enc (sp_heard n S s), w) := by
  intro d
  induction d with
  | zero =>
    intro i m hi hm hu
    obtain ⟨m, rfl⟩ : ∃ q, m = q + 1 := ⟨m - 1, by omega⟩
    have hin : i = n := by omega
    subst hin
    rw [fX0_heardAt_1, hT.1, if_pos (nI_le (Nat.le_refl i) (by omega))]
    have hc := pu_cnt_le (sp_sent S s) i
    have e1 : (nI (pu_cnt (sp_sent S s) i) = 1) ↔ pu_cnt (sp_sent S s) i = 1 := nI_eq (by omega) (by decide)
    unfold sp_heard
    rw [pu_lst_none.mpr hu]
    by_cases h1 : pu_cnt (sp_sent S s) i = 1
    · rw [if_pos (e1.mpr h1)]
      simp [h1]
    · rw [if_neg (fun q => h1 (e1.mp q))]
      simp [h1, pu_enc]
  | succ d ih =>
    intro i m hi hm hu
    obtain ⟨m, rfl⟩ : ∃ q, m = q + 1 + 1 := ⟨m - 2, by omega⟩
    rw [fX0_heardAt_1, hT.1, if_neg (nI_ge (by omega) (by omega)), q0_isSentAt s hk h (by omega) hn]
    simp only [ra_bind]
    by_cases hs : S 1 i = 1 ∧ S 0 i = s
    · rw [if_pos hs, if_neg (by decide), if_pos (pu_in (by omega) (by decide)), pu_ix (by omega), h.2.2.2.1 i (by omega)]
      by_cases hu2 : S 3 i = 1
      · rw [if_pos hu2]
        have : pu_lst (sp_surg S s) n = some i := pu_lst_stay hu (by simp [sp_surg, hs, hu2]) (by omega)
        simp [sp_heard, this, pu_enc]
      · rw [if_neg hu2, fX0_heardAt_2, nI_1, nI_1]
        have e1 : pu_cnt (sp_sent S s) (i + 1) = pu_cnt (sp_sent S s) i + 1 := by simp [pu_cnt, sp_sent, hs]
        have e2 : pu_last (sp_sent S s) (i + 1) = some i := by simp [pu_last, sp_sent, hs]
        have := ih (i + 1) m (by omega) (by omega) (lt_s hu (by simp [sp_surg, hu2]))
        rw [e1, e2] at this
        exact this
    · rw [if_neg hs, if_pos rfl, fX0_heardAt_2, nI_1]
      have e1 : pu_cnt (sp_sent S s) (i + 1) = pu_cnt (sp_sent S s) i := by simp [pu_cnt, sp_sent, hs]
      have e2 : pu_last (sp_sent S s) (i + 1) = pu_last (sp_sent S s) i := by simp [pu_last, sp_sent, hs]
      have := ih (i + 1) m (by omega) (by omega) (lt_s hu (by simp [sp_surg, hs]))
      rw [e1, e2] at this
      exact this
theorem q0_heardAt {k a b n : Nat} {w T S : ra_W} (s : Int32) (hk : 20 ≤ k) (hT : cNet w a n T) (h : cSt w b n S) (hn : n ≤ 7) : FX0_heardAt k a b s w = some (pu_enc (sp_heard n S s), w) := by
  obtain ⟨k, rfl⟩ : ∃ q, k = q + 1 := ⟨k - 1, by omega⟩
  unfold FX0_heardAt
  rw [fX0_heardAt_0]
  exact q0_heardAt_loop s (by omega) hT h hn n 0 k (by omega) (by omega) (fun j hj => absurd hj (by omega))
