/-- helping themselves -/
theorem m6_softs {k c n s r : Nat} {w T S : ra_W} (hs : s < 2) (hr : r < n) (hn : n ≤ 7) (hch : sp_ch T) (hT : mNet w n T) (h : mSt w c n S) (v : Bool) : ∀ (d i m : Nat), i + d = n → 5 * d + 1 ≤ m → (∃ m', m ≤ m' + 5 * d ∧ fX6_helpsItself k c m 2 (nI s) (T 1 s) (nI r) (if v = true ∧ pu_lst (sp_soft T S s (sp_rem (T 2 r) (T 1 s))) i = none then 1 else 0) (nI i) 0 w = fX6_helpsItself k c m' 2 (nI s) (T 1 s) (nI r) (if v = true ∧ pu_lst (sp_soft T S s (sp_rem (T 2 r) (T 1 s))) n = none then 1 else 0) (nI n) 0 w) := by
  obtain ⟨cc, hc1, hc2, hc3⟩ := hch s hs
  have hne : ¬ T 1 s = 0 := by rw [hc3]; exact nI_ne0 (by omega) (by omega)
  intro d
  induction d with
  | zero =>
    intro i m hi hm
    have hin : i = n := by omega
    subst hin
    exact ⟨m, by omega, rfl⟩
  | succ d ih =>
    intro i m hi hm
    obtain ⟨m, rfl⟩ : ∃ q, m = q + 1 + 1 + 1 + 1 + 1 := ⟨m - 5, by omega⟩
    have hl : pu_lst (sp_soft T S s (sp_rem (T 2 r) (T 1 s))) (i + 1) = none ↔ pu_lst (sp_soft T S s (sp_rem (T 2 r) (T 1 s))) i = none ∧ ¬ sp_soft T S s (sp_rem (T 2 r) (T 1 s)) i = true := by
      rw [pu_lst_none, pu_lst_none]
      constructor
      · intro q
        exact ⟨fun j hj => q j (by omega), by rw [q i (by omega)]; decide⟩
      · intro ⟨q1, q2⟩
        exact lt_s q1 (by simpa using q2)
    rw [fX6_helpsItself_2, hT.1, if_neg (nI_ge (by omega) (by omega)), pl_13, pl_6, if_pos (pu_in (by omega) (by decide)), if_pos (pu_in (by omega) (by decide)), pu_ix (by omega), pu_ix (by omega), h.2.1 i (by omega), h.1 i (by omega)]
    -- the end of one turn
    have fin0 : ∀ m0, 5 * d + 1 ≤ m0 → ∃ m', m0 ≤ m' + 5 * d ∧ fX6_helpsItself k c m0 2 (nI s) (T 1 s) (nI r) (if v = true ∧ pu_lst (sp_soft T S s (sp_rem (T 2 r) (T 1 s))) (i + 1) = none then 1 else 0) (nI (i + 1)) 0 w = fX6_helpsItself k c m' 2 (nI s) (T 1 s) (nI r) (if v = true ∧ pu_lst (sp_soft T S s (sp_rem (T 2 r) (T 1 s))) n = none then 1 else 0) (nI n) 0 w := fun m0 h0 => ih (i + 1) m0 (by omega) h0
    have five : ∀ (m0 : Nat) (x : Int32), fX6_helpsItself k c (m0 + 1 + 1) 5 (nI s) (T 1 s) (nI r) 0 (nI i) 0 w = fX6_helpsItself k c m0 2 (nI s) (T 1 s) (nI r) 1 (nI (i + 1)) 0 w ∧ fX6_helpsItself k c (m0 + 1 + 1) 6 (nI s) (T 1 s) (nI r) 0 (nI i) 0 w = fX6_helpsItself k c m0 2 (nI s) (T 1 s) (nI r) 0 (nI (i + 1)) 0 w := by
      intro m0 _
      rw [fX6_helpsItself_5, fX6_helpsItself_7, fX6_helpsItself_6, fX6_helpsItself_7, nI_1]
      exact ⟨rfl, rfl⟩
    have four : ∀ (m0 : Nat) (x : Int32) (q : Bool), x = (if q = true then 1 else 0) → (q = true ↔ (S 1 i = 5 ∧ S 0 i = nI s)) → fX6_helpsItself k c (m0 + 1 + 1 + 1) 4 (nI s) (T 1 s) (nI r) (if v = true ∧ pu_lst (sp_soft T S s (sp_rem (T 2 r) (T 1 s))) i = none then 1 else 0) (nI i) x w = fX6_helpsItself k c m0 2 (nI s) (T 1 s) (nI r) (if v = true ∧ pu_lst (sp_soft T S s (sp_rem (T 2 r) (T 1 s))) (i + 1) = none then 1 else 0) (nI (i + 1)) 0 w := by
      intro m0 x q hx hq
      rw [fX6_helpsItself_4, pl_5, pl_5, if_pos (pu_in (by omega) (by decide)), if_pos hne, if_pos (pu_in (by omega) (by decide)), pu_ix (by omega), pu_ix (by omega), hT.2.2.2.2.1 i (by omega), hT.2.2.2.2.1 r hr, (five m0 0).1, (five m0 0).2]
      have hsoft : sp_soft T S s (sp_rem (T 2 r) (T 1 s)) i = true ↔ (q = true ∧ sp_rem (T 2 i) (T 1 s) = sp_rem (T 2 r) (T 1 s)) := by
        simp only [sp_soft, decide_eq_true_eq, hq, and_assoc]
      by_cases h1 : v = true ∧ pu_lst (sp_soft T S s (sp_rem (T 2 r) (T 1 s))) i = none
      · rw [if_pos h1, if_neg (by decide), hx]
        by_cases h2 : q = true
        · rw [if_pos h2, if_neg (by decide)]
          by_cases h3 : sp_rem (T 2 i) (T 1 s) = sp_rem (T 2 r) (T 1 s)
          · rw [if_pos h3, if_neg (fun z => (hl.mp z.2).2 (hsoft.mpr ⟨h2, h3⟩))]
          · rw [if_neg h3, if_pos ⟨h1.1, hl.mpr ⟨h1.2, fun z => h3 (hsoft.mp z).2⟩⟩]
        · rw [if_neg h2, if_pos rfl, if_pos ⟨h1.1, hl.mpr ⟨h1.2, fun z => h2 (hsoft.mp z).1⟩⟩]
      · rw [if_neg h1, if_pos rfl, if_neg (fun z => h1 ⟨z.1, (hl.mp z.2).1⟩)]
    by_cases h5 : S 1 i = 5
    · rw [if_pos h5]
      by_cases h6 : S 0 i = nI s
      · rw [if_pos h6, four (m + 1) 1 true rfl (by simp [h5, h6])]
        obtain ⟨m', g1, g2⟩ := fin0 (m + 1) (by omega)
        exact ⟨m', by omega, g2⟩
      · rw [if_neg h6, fX6_helpsItself_3, four m 0 false rfl (by simp [h6])]
        obtain ⟨m', g1, g2⟩ := fin0 m (by omega)
        exact ⟨m', by omega, g2⟩
    · rw [if_neg h5, fX6_helpsItself_3, four m 0 false rfl (by simp [h5])]
      obtain ⟨m', g1, g2⟩ := fin0 m (by omega)
      exact ⟨m', by omega, g2⟩
theorem m6_help_loop {k c n s : Nat} {T S : ra_W} (hk : 1 ≤ k) (hs : s < 2) (hn : n ≤ 7) (hc : c ≠ 136) (hch : sp_ch T) : ∀ (d i m : Nat) (w : ra_W), i + d = n → 40 * d + 1 ≤ m → mNet w n T → mSt w c n (sp_helpI n T s S i) → ∃ w', fX6_helpsItself k c m 1 (nI s) (T 1 s) (nI i) 0 0 0 w = some (0, w') ∧ mSt w' c n (sp_helpI n T s S n) ∧ pu_mf c w w' := by
  intro d
  induction d with
  | zero =>
    intro i m w hi hm hT hw
    obtain ⟨m, rfl⟩ : ∃ q, m = q + 1 := ⟨m - 1, by omega⟩
    have hin : i = n := by omega
    subst hin
    rw [fX6_helpsItself_1, hT.1, if_pos (nI_le (Nat.le_refl i) (by omega))]
    exact ⟨w, rfl, hw, pu_mf_rf c w⟩
  | succ d ih =>
    intro i m w hi hm hT hw
    obtain ⟨m, rfl⟩ : ∃ q, m = q + 1 := ⟨m - 1, by omega⟩
    rw [fX6_helpsItself_1, hT.1, if_neg (nI_ge (by omega) (by omega)), m6_isSentAt (nI s) hk hw (by omega) hn]
    simp only [ra_bind]
    have hst : sp_helpI n T s S (i + 1) = sp_help1 n T s i (sp_helpI n T s S i) := rfl
    generalize sp_helpI n T s S i = Q at hw hst
    obtain ⟨m', g1, g2⟩ := m6_softs (k := k) (r := i) hs (by omega) hn hch hT hw (decide (Q 1 i = 1 ∧ Q 0 i = nI s)) n 0 m (by omega) (by omega)
    simp only [decide_eq_true_eq] at g2
    have e0 : (if (Q 1 i = 1 ∧ Q 0 i = nI s) ∧ pu_lst (sp_soft T Q s (sp_rem (T 2 i) (T 1 s))) 0 = none then (1 : Int32) else 0) = if Q 1 i = 1 ∧ Q 0 i = nI s then 1 else 0 := by
      simp [pu_lst]
    rw [e0] at g2
    have g3 : fX6_helpsItself k c m 2 (nI s) (T 1 s) (nI i) (if Q 1 i = 1 ∧ Q 0 i = nI s then 1 else 0) 0 0 w = _ := g2
    rw [g3]
    obtain ⟨m2, rfl⟩ : ∃ q, m' = q + 1 + 1 := ⟨m' - 2, by omega⟩
    rw [fX6_helpsItself_2, hT.1, if_pos (nI_le (Nat.le_refl n) (by omega))]
    by_cases h1 : (Q 1 i = 1 ∧ Q 0 i = nI s) ∧ pu_lst (sp_soft T Q s (sp_rem (T 2 i) (T 1 s))) n = none
    · rw [if_pos h1, if_neg (by decide), m6_becomes 5 0 hk (by omega)]
      simp only [ra_bind, fX6_helpsItself_8, nI_1]
      have e : sp_help1 n T s i Q = ra_st (ra_st (ra_st Q 1 i 5) 2 i 0) 6 0 (Q 6 0 + 1) := if_pos h1
      have h3 : ra_st (ra_st w c (13 + i) 5) c (20 + i) 0 c 3 = Q 6 0 := by
        simp only [pu_st]
        rw [if_neg (by omega), if_neg (by omega)]
        exact hw.2.2.2.2.2.2.1
      have hf : pu_mf c w (ra_st (ra_st (ra_st w c (13 + i) 5) c (20 + i) 0) c 3 (ra_st (ra_st w c (13 + i) 5) c (20 + i) 0 c 3 + 1)) := pu_mf_tr (pu_mf_tr (pu_mf_st _ _ _ (by omega)) (pu_mf_st _ _ _ (by omega))) (pu_mf_st _ _ _ (by omega))
      obtain ⟨w', f1, f2, f3⟩ := ih (i + 1) m2 _ (by omega) (by omega) (mNet_x hT (hf.1 136 (Ne.symm hc))) (by rw [hst, e, h3]; exact mSt_6 (i := 0) _ hn (by decide) (mSt_2 _ hn (by omega) (mSt_1 _ hn (by omega) hw)))
      exact ⟨w', f1, f2, pu_mf_tr hf f3⟩
    · rw [if_neg h1, if_pos rfl, fX6_helpsItself_8, nI_1]
      have e : sp_help1 n T s i Q = Q := if_neg h1
      exact ih (i + 1) m2 w (by omega) (by omega) hT (by rw [hst, e]; exact hw)
theorem m6_help {k c n s : Nat} {w T S : ra_W} (hk : 300 ≤ k) (hs : s < 2) (hn : n ≤ 7) (hc : c ≠ 136) (hch : sp_ch T) (hT : mNet w n T) (h : mSt w c n S) : ∃ w', FX6_helpsItself k c (nI s) w = some (0, w') ∧ mSt w' c n (sp_help n T s S) ∧ pu_mf c w w' := by
  obtain ⟨k, rfl⟩ : ∃ q, k = q + 1 := ⟨k - 1, by omega⟩
  unfold FX6_helpsItself
  rw [fX6_helpsItself_0, pl_3, if_pos (pu_in (by omega) (by decide)), pu_ix (by omega), hT.2.2.2.1 s hs]
  exact m6_help_loop (by omega) hs hn hc hch n 0 k w (by omega) (by omega) hT h
/-- free channels -/
theorem m6_free_loop {k c n i : Nat} {w T S : ra_W} (hk : 1 ≤ k) (hi : i < 2) (hq : sp_hq n S) (hT : mNet w n T) (h : mSt w c n S) (hn : n ≤ 7) : ∀ (d j m : Nat), j + d = n → 2 * d + 1 ≤ m → fX6_freeAt k c m 1 (nI i) (T 1 i - nI (pu_cnt (sp_hb S i) j)) (nI j) 0 0 w = some (sp_fr n T S i, w) := by
  intro d
  induction d with
  | zero =>
    intro j m hj hm
    obtain ⟨m, rfl⟩ : ∃ q, m = q + 1 := ⟨m - 1, by omega⟩
    have hin : j = n := by omega
    subst hin
    rw [fX6_freeAt_1, hT.1, if_pos (nI_le (Nat.le_refl j) (by omega))]
    rfl
  | succ d ih =>
    intro j m hj hm
    obtain ⟨m, rfl⟩ : ∃ q, m = q + 1 + 1 := ⟨m - 2, by omega⟩
    have ihh := ih (j + 1) m (by omega) (by omega)
    rw [fX6_freeAt_1, hT.1, if_neg (nI_ge (by omega) (by omega)), pl_34, if_pos (pu_in (by omega) (by decide)), pu_ix (by omega), h.2.2.2.2.1 j (by omega), m6_has hk (hq j (by omega)) hi]
    simp only [ra_bind, fX6_freeAt_2, nI_1]
    simp only [pu_cnt] at ihh
    rw [← pu_subs] at ihh
    by_cases hb : pu_bit (S 4 j) i = true
    · simp only [hb, if_true] at ihh ⊢
      rw [if_neg (by decide)]
      exact ihh
    · simp only [hb] at ihh ⊢
      rw [if_pos (by rfl)]
      exact ihh
theorem m6_free {k c n i : Nat} {w T S : ra_W} (hk : 20 ≤ k) (hi : i < 2) (hq : sp_hq n S) (hT : mNet w n T) (h : mSt w c n S) (hn : n ≤ 7) : FX6_freeAt k c (nI i) w = some (sp_fr n T S i, w) := by
  obtain ⟨k, rfl⟩ : ∃ q, k = q + 1 := ⟨k - 1, by omega⟩
  unfold FX6_freeAt
  rw [fX6_freeAt_0, pl_3, if_pos (pu_in (by omega) (by decide)), pu_ix (by omega), hT.2.2.2.1 i hi]
  have := m6_free_loop (k := k + 1) (by omega) hi hq hT h hn n 0 k (by omega) (by omega)
  have e : T 1 i - nI (pu_cnt (sp_hb S i) 0) = T 1 i := by
    show T 1 i - nI 0 = T 1 i
    rw [nI_0]
    grind
  rw [e] at this
  exact this
/-- the talker of a group: there is one at most -/
theorem pu_last_uni {p : Nat → Bool} : ∀ {n : Nat}, (∀ r q, r < n → q < n → p r = true → p q = true → r = q) → pu_last p n = pu_lst p n
  | 0, _ => rfl
  | n + 1, h => by
    have ih := pu_last_uni (p := p) (n := n) (fun r q a b => h r q (by omega) (by omega))
    simp only [pu_last, pu_lst]
    by_cases hp : p n = true
    · rw [if_pos hp]
      cases hl : pu_lst p n with
      | none => simp [hp]
      | some r =>
        obtain ⟨a, b, -⟩ := pu_lst_some.mp hl
        have := h r n (by omega) (by omega) b hp
        omega
    · rw [if_neg hp, ih]
      cases pu_lst p n with
      | none => simp [hp]
      | some r => rfl
theorem m6_talkerOf_loop {k c n : Nat} {w T S : ra_W} {g : Int32} (hT : mNet w n T) (h : mSt w c n S) (hn : n ≤ 7) : ∀ (d i m : Nat), i + d = n → 3 * d + 1 ≤ m → fX6_talkerOf k c m 1 g (pu_enc (pu_last (sp_talk T S g) i)) (nI i) 0 w = some (pu_enc (pu_last (sp_talk T S g) n), w) := by
  intro d
  induction d with
  | zero =>
    intro i m hi hm
    obtain ⟨m, rfl⟩ : ∃ q, m = q + 1 := ⟨m - 1, by omega⟩
    have hin : i = n := by omega
    subst hin
    rw [fX6_talkerOf_1, hT.1, if_pos (nI_le (Nat.le_refl i) (by omega))]
  | succ d ih =>
    intro i m hi hm
    obtain ⟨m, rfl⟩ : ∃ q, m = q + 1 + 1 + 1 := ⟨m - 3, by omega⟩
    have ihh := fun (m : Nat) (hm : 3 * d + 1 ≤ m) => ih (i + 1) m (by omega) hm
    simp only [pu_last] at ihh
    rw [fX6_talkerOf_1, hT.1, if_neg (nI_ge (by omega) (by omega)), pl_13, pl_5, if_pos (pu_in (by omega) (by decide)), if_pos (pu_in (by omega) (by decide)), pu_ix (by omega), pu_ix (by omega), h.2.1 i (by omega), hT.2.2.2.2.1 i (by omega)]
    by_cases hp : sp_talk T S g i = true
    · simp only [hp, if_true] at ihh
      simp only [sp_talk, decide_eq_true_eq] at hp
      rw [if_pos hp.1, if_pos hp.2, fX6_talkerOf_3, nI_1]
      exact ihh (m + 1) (by omega)
    · simp only [hp, Bool.false_eq_true, if_false] at ihh
      simp only [sp_talk, decide_eq_true_eq] at hp
      by_cases h4 : S 1 i = 4
      · rw [if_pos h4, if_neg (fun z => hp ⟨h4, z⟩), fX6_talkerOf_2, fX6_talkerOf_3, nI_1]
        exact ihh m (by omega)
      · rw [if_neg h4, fX6_talkerOf_2, fX6_talkerOf_3, nI_1]
        exact ihh m (by omega)
theorem m6_talkerOf {k c n : Nat} {w T S : ra_W} (g : Int32) (hk : 30 ≤ k) (hT : mNet w n T) (h : mSt w c n S) (hg : iv_g n T (S 1)) (hn : n ≤ 7) : FX6_talkerOf k c g w = some (pu_enc (pu_lst (sp_talk T S g) n), w) := by
  obtain ⟨k, rfl⟩ : ∃ q, k = q + 1 := ⟨k - 1, by omega⟩
  unfold FX6_talkerOf
  rw [fX6_talkerOf_0, ← pu_last_uni (p := sp_talk T S g) (n := n) (fun r q a b x y => by
    simp only [sp_talk, decide_eq_true_eq] at x y
    exact hg r q a b x.1 y.1 (x.2.trans y.2.symm))]
  exact m6_talkerOf_loop hT h hn n 0 k (by omega) (by omega)
/-- the queue's order, by a newcomer that is the higher one -/
theorem m6_isAhead {k c n : Nat} {w T S : ra_W} {r e : Nat} (hk : 1 ≤ k) (hn : n ≤ 7) (hr : r < n) (he : e < r) (hT : mNet w n T) (h : mSt w c n S) : FX6_isAhead k c (nI r) (nI e) w = some (if sp_ahead T S r e then 1 else 0, w) := by
  obtain ⟨k, rfl⟩ : ∃ q, k = q + 1 := ⟨k - 1, by omega⟩
  unfold FX6_isAhead
  rw [fX6_isAhead_0, pl_27, pl_27, pl_12, pl_12, pl_20, pl_20, if_pos (pu_in (by omega) (by decide)), if_pos (pu_in (by omega) (by decide)), if_pos (pu_in (by omega) (by decide)), if_pos (pu_in (by omega) (by decide)), if_pos (pu_in (by omega) (by decide)), if_pos (pu_in (by omega) (by decide)), pu_ix (by omega), pu_ix (by omega), pu_ix (by omega), pu_ix (by omega), pu_ix (by omega), pu_ix (by omega), h.2.2.2.1 r hr, h.2.2.2.1 e (by omega), h.2.2.1 r hr, h.2.2.1 e (by omega), hT.2.2.2.2.2 r hr, hT.2.2.2.2.2 e (by omega), if_pos (nI_le (Nat.le_of_lt he) (by omega))]
  have hlt : (4 * T 3 e + S 2 e < 4 * T 3 r + S 2 r) ↔ ¬ 4 * T 3 r + S 2 r ≤ 4 * T 3 e + S 2 e := Int32.not_le.symm
  unfold sp_ahead
  by_cases h1 : S 3 r = S 3 e
  · rw [if_pos h1]
    by_cases h2 : 4 * T 3 e + S 2 e < 4 * T 3 r + S 2 r
    · rw [if_pos h2]
      simp [h1, hlt.mp h2]
    · rw [if_neg h2]
      have h3 : 4 * T 3 r + S 2 r ≤ 4 * T 3 e + S 2 e := Decidable.byContradiction (fun z => h2 (hlt.mpr z))
      simp [h1, h3]
  · rw [if_neg h1]
    by_cases h2 : S 3 r = 1
    · have h3 : ¬ (1 : Int32) = S 3 e := by rw [← h2]; exact h1
      simp [h2, h3]
    · simp [h1, h2]
theorem m6_shift {k c n r q : Nat} {T S : ra_W} (hk : 1 ≤ k) (hn : n ≤ 7) (hc : c = 139 ∨ c = 140) (hr : r < n) (hq : q ≤ r) : ∀ (p m : Nat) (w : ra_W) (l : Nat → Nat), p ≤ q → p + 2 ≤ m → mNet w n T → mSt w c n S → w 134 22 = nI q → (∀ j, j ≤ q → j ≠ p → w 146 j = nI (l j) ∧ l j < r) → ∃ (m' : Nat) (w' : ra_W), fX6_lines k c m 2 (nI r) (nI p) w = fX6_lines k c m' 4 (nI r) 0 w' ∧ m ≤ m' + p + 2 ∧ pu_on w' 146 (q + 1) (sp_shift T S r p l) ∧ w' 134 22 = nI (q + 1) ∧ (∀ x, x ≠ 146 → x ≠ 134 → w' x = w x) ∧ (∀ i, i ≠ 22 → w' 134 i = w 134 i) := by
  have fin : ∀ (p m : Nat) (w : ra_W) (l : Nat → Nat), p ≤ q → 1 ≤ m → w 134 22 = nI q → (∀ j, j ≤ q → j ≠ p → w 146 j = nI (l j) ∧ l j < r) → ∃ (m' : Nat) (w' : ra_W), fX6_lines k c m 3 (nI r) (nI p) w = fX6_lines k c m' 4 (nI r) 0 w' ∧ m ≤ m' + 1 ∧ pu_on w' 146 (q + 1) (pu_up l p r) ∧ w' 134 22 = nI (q + 1) ∧ (∀ x, x ≠ 146 → x ≠ 134 → w' x = w x) ∧ (∀ i, i ≠ 22 → w' 134 i = w 134 i) := by
    intro p m w l hp hm h22 h
    obtain ⟨m, rfl⟩ : ∃ q, m = q + 1 := ⟨m - 1, by omega⟩
    rw [fX6_lines_3, if_pos (pu_in (by omega) (by decide)), pu_ix (by omega)]
    refine ⟨m, _, rfl, by omega, fun j hj => ?_, ?_, fun x hx hx2 => ?_, fun i hi => ?_⟩
    · rw [pu_st_ne (by decide)]
      simp only [pu_st, pu_up]
      by_cases e : j = p
      · simp [e]
      · simp [e, h j (by omega) e]
    · rw [pu_st_eq, pu_st_ne (by decide), h22, nI_1]
    · rw [pu_st_ne hx2, pu_st_ne hx]
    · rw [pu_st, if_neg (fun z => hi z.2), pu_st_ne (by decide)]
  intro p
  induction p with
  | zero =>
    intro m w l hp hm hT hw h22 h
    obtain ⟨m, rfl⟩ : ∃ q, m = q + 1 := ⟨m - 1, by omega⟩
    rw [fX6_lines_2, if_pos (by decide)]
    obtain ⟨m', w', g1, g2, g3⟩ := fin 0 m w l hp (by omega) h22 h
    exact ⟨m', w', g1, by omega, g3⟩
  | succ p ih =>
    intro m w l hp hm hT hw h22 h
    obtain ⟨m, rfl⟩ : ∃ q, m = q + 1 := ⟨m - 1, by omega⟩
    have hl := h p (by omega) (by omega)
    rw [fX6_lines_2, if_neg (nI_nle (by omega) (by omega)), nI_pred, if_pos (pu_in (by omega) (by decide)), pu_ix (by omega), hl.1, m6_isAhead hk hn hr hl.2 hT hw]
    simp only [ra_bind]
    by_cases hah : sp_ahead T S r (l p)
    · rw [if_pos hah, if_neg (by decide), if_pos (pu_in (by omega) (by decide)), pk_m1, pu_ix (by omega), hl.1]
      have hx : ∀ x, x ≠ 146 → ra_st w 146 (p + 1) (nI (l p)) x = w x := fun x hx => pu_st_ne hx
      obtain ⟨m', w', g1, g2, g3, g4, g5, g6⟩ := ih m _ (pu_up l (p + 1) (l p)) (by omega) (by omega) (mNet_x hT (hx 136 (by decide))) (mSt_x hw (hx c (by omega))) (by rw [hx 134 (by decide)]; exact h22) (fun j hj hne => by
        simp only [pu_st, pu_up]
        by_cases e : j = p + 1
        · simp [e, hl.2]
        · simp [e, h j hj e])
      refine ⟨m', w', g1, by omega, ?_, g4, fun x a b => (g5 x a b).trans (hx x a), fun i hi => by rw [g6 i hi, hx 134 (by decide)]⟩
      simp only [sp_shift]
      rw [if_pos hah]
      exact g3
    · rw [if_neg hah, if_pos rfl]
      obtain ⟨m', w', g1, g2, g3, g4⟩ := fin (p + 1) m w l hp (by omega) h22 h
      refine ⟨m', w', g1, by omega, ?_, g4⟩
      simp only [sp_shift]
      rw [if_neg hah]
      exact g3
theorem m6_line_loop {k c n : Nat} {T S : ra_W} (hk : 1 ≤ k) (hn : n ≤ 7) (hc : c = 139 ∨ c = 140) : ∀ (d i m : Nat) (w : ra_W), i + d = n → 12 * d + 1 ≤ m → mNet w n T → mSt w c n S → w 134 22 = nI (sp_line T S i).2 → pu_on w 146 (sp_line T S i).2 (sp_line T S i).1 → ∃ w', fX6_lines k c m 1 (nI i) 0 w = some (0, w') ∧ w' 134 22 = nI (sp_line T S n).2 ∧ pu_on w' 146 (sp_line T S n).2 (sp_line T S n).1 ∧ (∀ x, x ≠ 146 → x ≠ 134 → w' x = w x) ∧ (∀ i, i ≠ 22 → w' 134 i = w 134 i) := by
  intro d
  induction d with
  | zero =>
    intro i m w hi hm hT hw h22 hl
    obtain ⟨m, rfl⟩ : ∃ q, m = q + 1 := ⟨m - 1, by omega⟩
    have hin : i = n := by omega
    subst hin
    rw [fX6_lines_1, hT.1, if_pos (nI_le (Nat.le_refl i) (by omega))]
    exact ⟨w, rfl, h22, hl, fun _ _ _ => rfl, fun _ _ => rfl⟩
  | succ d ih =>
    intro i m w hi hm hT hw h22 hl
    obtain ⟨m, rfl⟩ : ∃ q, m = q + 1 := ⟨m - 1, by omega⟩
    rw [fX6_lines_1, hT.1, if_neg (nI_ge (by omega) (by omega)), pl_13, if_pos (pu_in (by omega) (by decide)), pu_ix (by omega), hw.2.1 i (by omega), h22]
    have hle := sp_line_le T S i
    by_cases h3 : S 1 i = 3
    · rw [if_pos h3]
      obtain ⟨m', w', g1, g2, g3, g4, g5, g6⟩ := m6_shift (k := k) (T := T) (S := S) hk hn hc (r := i) (q := (sp_line T S i).2) (by omega) hle (sp_line T S i).2 m w (sp_line T S i).1 (Nat.le_refl _) (by omega) hT hw h22 (fun j hj hne => ⟨hl j (by omega), sp_line_lt T S i j (by omega)⟩)
      have hs : sp_line T S (i + 1) = (sp_shift T S i (sp_line T S i).2 (sp_line T S i).1, (sp_line T S i).2 + 1) := by
        simp only [sp_line]
        rw [if_pos h3]
      obtain ⟨m'', rfl⟩ : ∃ q, m' = q + 1 := ⟨m' - 1, by omega⟩
      rw [g1, fX6_lines_4, nI_1]
      obtain ⟨w2, e1, e2, e3, e4, e5⟩ := ih (i + 1) m'' w' (by omega) (by omega) (mNet_x hT (g5 136 (by decide) (by decide))) (mSt_x hw (g5 c (by omega) (by omega))) (by rw [hs]; exact g4) (by rw [hs]; exact g3)
      exact ⟨w2, e1, e2, e3, fun x a b => (e4 x a b).trans (g5 x a b), fun j hj => (e5 j hj).trans (g6 j hj)⟩
    · rw [if_neg h3]
      obtain ⟨m, rfl⟩ : ∃ q, m = q + 1 := ⟨m - 1, by omega⟩
      have hs : sp_line T S (i + 1) = sp_line T S i := by
        simp only [sp_line]
        rw [if_neg h3]
      rw [fX6_lines_4, nI_1]
      exact ih (i + 1) m w (by omega) (by omega) hT hw (by rw [hs]; exact h22) (by rw [hs]; exact hl)
theorem m6_lines {k c n : Nat} {w T S : ra_W} (hk : 100 ≤ k) (hn : n ≤ 7) (hc : c = 139 ∨ c = 140) (hT : mNet w n T) (h : mSt w c n S) : ∃ w', FX6_lines k c w = some (0, w') ∧ w' 134 22 = nI (sp_line T S n).2 ∧ pu_on w' 146 (sp_line T S n).2 (sp_line T S n).1 ∧ (∀ x, x ≠ 146 → x ≠ 134 → w' x = w x) ∧ (∀ i, i ≠ 22 → w' 134 i = w 134 i) := by
  obtain ⟨k, rfl⟩ : ∃ q, k = q + 1 := ⟨k - 1, by omega⟩
  unfold FX6_lines
  rw [fX6_lines_0]
  have hx : ∀ x, x ≠ 134 → ra_st w 134 22 0 x = w x := fun x hx => pu_st_ne hx
  obtain ⟨w2, e1, e2, e3, e4, e5⟩ := m6_line_loop (k := k + 1) (T := T) (S := S) (c := c) (by omega) hn hc n 0 k (ra_st w 134 22 0) (by omega) (by omega) (mNet_x hT (hx 136 (by decide))) (mSt_x h (hx c (by omega))) (by rw [pu_st_eq]; rfl) (fun j hj => absurd hj (by simp [sp_line]))
  exact ⟨w2, e1, e2, e3, fun x a b => (e4 x a b).trans (hx x b), fun i hi => by rw [e5 i hi, pu_st, if_neg (fun z => hi z.2)]⟩
