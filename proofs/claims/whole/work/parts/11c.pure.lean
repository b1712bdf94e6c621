/-- the sites that are needed -/
theorem pu_lst_step {p : Nat → Bool} {i : Nat} : pu_lst p (i + 1) = none ↔ pu_lst p i = none ∧ ¬ p i = true := by
  rw [pu_lst_none, pu_lst_none]
  constructor
  · intro q
    exact ⟨fun j hj => q j (by omega), by rw [q i (by omega)]; decide⟩
  · intro ⟨q1, q2⟩
    exact lt_s q1 (by simpa using q2)
theorem pu_shl0 {s : Nat} (hs : s < 2) : (nI (s + 1) : Int32) ||| 0 = nI (s + 1) := by
  rcases (show s = 0 ∨ s = 1 by omega) with rfl | rfl <;> decide
theorem pu_shl3 {s : Nat} (hs : s < 2) : (nI (s + 1) : Int32) ||| nI (1 - s + 1) = 3 := by
  rcases (show s = 0 ∨ s = 1 by omega) with rfl | rfl <;> decide
theorem pu_nm1 {d : Nat} (h : d < 2 ^ 31) : ¬ nI d = -1 := fun e => nI_pos h (by rw [e]; decide)
theorem m6_need_loop {k c n : Nat} {w T S : ra_W} {s r : Nat} (hs : s < 2) (hr : r < n) (hsr : S 0 r = nI s) (hl : iv_l S) (hT : mNet w n T) (h : mSt w c n S) (hn : n ≤ 7) : ∀ (d i m : Nat), i + d = n → 3 * d + 3 ≤ m → fX6_neededBy k c m 1 (nI r) (nI (1 - s)) (if pu_lst (sp_oth T S s r) i = none then 0 else 1) (nI i) 0 0 w = some (sp_need n T S s r, w) := by
  intro d
  induction d with
  | zero =>
    intro i m hi hm
    obtain ⟨m, rfl⟩ : ∃ q, m = q + 1 + 1 + 1 := ⟨m - 3, by omega⟩
    have hin : i = n := by omega
    subst hin
    rw [fX6_neededBy_1, hT.1, if_pos (nI_le (Nat.le_refl i) (by omega)), pl_6, pl_0, if_pos (pu_in (by omega) (by decide)), pu_ix (by omega), h.1 r hr, hsr, pu_shl hs, if_pos (pu_in (by omega) (by decide)), pu_ix (by omega), h.2.2.2.2.2.1 (1 - s) (by omega), pu_shl (by omega), fX6_neededBy_5, fX6_neededBy_6, fX6_neededBy_6, pu_shl0 hs, pu_shl3 hs]
    unfold sp_need
    by_cases h1 : pu_lst (sp_oth T S s r) i = none
    · rw [if_pos h1, if_pos rfl, if_neg (fun q => q.2 h1)]
    · rw [if_neg h1, if_neg (by decide)]
      rcases hl (1 - s) (by omega) with z | ⟨d, hd, z⟩
      · rw [z, if_neg (by decide), if_pos ⟨rfl, h1⟩]
      · rw [z, if_pos (nI_pos' (by omega)), if_neg (fun q => absurd q.1 (pu_nm1 (by omega)))]
  | succ d ih =>
    intro i m hi hm
    obtain ⟨m, rfl⟩ : ∃ q, m = q + 1 + 1 + 1 := ⟨m - 3, by omega⟩
    have ihh := ih (i + 1) m (by omega) (by omega)
    rw [fX6_neededBy_1, hT.1, if_neg (nI_ge (by omega) (by omega)), pl_5, pl_5, pl_6, if_pos (pu_in (by omega) (by decide)), if_pos (pu_in (by omega) (by decide)), if_pos (pu_in (by omega) (by decide)), pu_ix (by omega), pu_ix (by omega), pu_ix (by omega), h.1 i (by omega), hT.2.2.2.2.1 i (by omega), hT.2.2.2.2.1 r hr, fX6_neededBy_2, fX6_neededBy_3, fX6_neededBy_4, fX6_neededBy_4, nI_1]
    by_cases h1 : pu_lst (sp_oth T S s r) i = none
    · rw [if_pos h1, if_pos rfl]
      by_cases hp : sp_oth T S s r i = true
      · rw [if_neg (fun q => (pu_lst_step.mp q).2 hp)] at ihh
        simp only [sp_oth, decide_eq_true_eq] at hp
        rw [if_pos hp.2, if_pos hp.1]
        exact ihh
      · rw [if_pos (pu_lst_step.mpr ⟨h1, hp⟩)] at ihh
        simp only [sp_oth, decide_eq_true_eq] at hp
        by_cases h2 : T 2 i = T 2 r
        · rw [if_pos h2, if_neg (fun q => hp ⟨q, h2⟩)]
          exact ihh
        · rw [if_neg h2]
          exact ihh
    · rw [if_neg (fun q => h1 (pu_lst_step.mp q).1)] at ihh
      rw [if_neg h1, if_neg (by decide)]
      exact ihh
theorem m6_need {k c n : Nat} {w T S : ra_W} {s r : Nat} (hk : 30 ≤ k) (hs : s < 2) (hr : r < n) (hsr : S 0 r = nI s) (hl : iv_l S) (hT : mNet w n T) (h : mSt w c n S) (hn : n ≤ 7) : FX6_neededBy k c (nI r) w = some (sp_need n T S s r, w) := by
  obtain ⟨k, rfl⟩ : ∃ q, k = q + 1 := ⟨k - 1, by omega⟩
  unfold FX6_neededBy
  rw [fX6_neededBy_0, pl_6, if_pos (pu_in (by omega) (by decide)), pu_ix (by omega), h.1 r hr, hsr, pu_one_sub hs]
  exact m6_need_loop hs hr hsr hl hT h hn n 0 k (by omega) (by omega)
/-- who gives way -/
theorem m6_weak_loop {k c n A i : Nat} {w T S : ra_W} (hk : 1 ≤ k) (hi : i < 2) (hv : iv n A T S) (hT : mNet w n T) (h : mSt w c n S) (hn : n ≤ 7) : ∀ (d j m : Nat), j + d = n → 5 * d + 1 ≤ m → fX6_leastAt k c m 1 (nI i) (pu_enc (sp_weak T S i j)) (nI j) 0 w = some (pu_enc (sp_weak T S i n), w) := by
  intro d
  induction d with
  | zero =>
    intro j m hj hm
    obtain ⟨m, rfl⟩ : ∃ q, m = q + 1 := ⟨m - 1, by omega⟩
    have hin : j = n := by omega
    subst hin
    rw [fX6_leastAt_1, hT.1, if_pos (nI_le (Nat.le_refl j) (by omega))]
  | succ d ih =>
    intro j m hj hm
    obtain ⟨m, rfl⟩ : ∃ q, m = q + 1 + 1 + 1 + 1 + 1 := ⟨m - 5, by omega⟩
    have ihh := fun (m : Nat) (hm : 5 * d + 1 ≤ m) => ih (j + 1) m (by omega) hm
    have h4 : pu_bit (S 4 j) i = true → S 1 j = 4 := fun z => (hv.2.1 j (by omega)).2.2.2.2.1 (fun q => by
      rw [q] at z
      unfold pu_bit at z
      split at z <;> simp at z)
    have no : ¬ (sp_hb S i j = true ∧ S 3 j = 0) → ∀ m, fX6_leastAt k c (m + 1 + 1 + 1 + 1) 2 (nI i) (pu_enc (sp_weak T S i j)) (nI j) 0 w = fX6_leastAt k c m 1 (nI i) (pu_enc (sp_weak T S i (j + 1))) (nI (j + 1)) 0 w := by
      intro q m
      have e : sp_weak T S i (j + 1) = sp_weak T S i j := by
        simp only [sp_weak]
        rw [if_neg (fun z => q z.1)]
      rw [fX6_leastAt_2, fX6_leastAt_3, if_pos rfl, fX6_leastAt_5, fX6_leastAt_6, nI_1, e]
    rw [fX6_leastAt_1, hT.1, if_neg (nI_ge (by omega) (by omega)), pl_13, pl_27, pl_34, if_pos (pu_in (by omega) (by decide)), if_pos (pu_in (by omega) (by decide)), if_pos (pu_in (by omega) (by decide)), pu_ix (by omega), pu_ix (by omega), pu_ix (by omega), h.2.1 j (by omega), h.2.2.2.1 j (by omega), h.2.2.2.2.1 j (by omega), m6_has hk (iv_hq hv j (by omega)) hi]
    simp only [ra_bind]
    by_cases hu : S 3 j = 0
    · by_cases hb : pu_bit (S 4 j) i = true
      · rw [if_pos (h4 hb), if_pos hu, if_pos hb, if_neg (by decide), fX6_leastAt_3, if_neg (by decide)]
        cases hw : sp_weak T S i j with
        | none =>
          have e : sp_weak T S i (j + 1) = some j := by
            simp only [sp_weak]
            rw [if_pos ⟨⟨hb, hu⟩, by rw [hw]; rfl⟩]
          rw [if_pos (show pu_enc none = -9 from rfl), fX6_leastAt_4, fX6_leastAt_6, nI_1]
          have := ihh (m + 1) (by omega)
          rw [e] at this
          exact this
        | some q =>
          have hq2 := (sp_weak_sp hw).1
          rw [if_neg (pu_encs_ne (q := q) (by omega)), show pu_enc (some q) = nI q from rfl, pl_12, pl_12, if_pos (pu_in (by omega) (by decide)), if_pos (pu_in (by omega) (by decide)), pu_ix (by omega), pu_ix (by omega), hT.2.2.2.2.2 q (by omega), hT.2.2.2.2.2 j (by omega)]
          by_cases hl : T 3 q < T 3 j
          · have e : sp_weak T S i (j + 1) = some q := by
              simp only [sp_weak]
              rw [if_neg (fun z => by have := z.2; rw [hw] at this; simp [sp_wok, hl] at this), hw]
            rw [if_pos hl, fX6_leastAt_5, fX6_leastAt_6, nI_1]
            have := ihh (m + 1) (by omega)
            rw [e] at this
            exact this
          · have e : sp_weak T S i (j + 1) = some j := by
              simp only [sp_weak]
              rw [if_pos ⟨⟨hb, hu⟩, by rw [hw]; simp [sp_wok, hl]⟩]
            rw [if_neg hl, fX6_leastAt_4, fX6_leastAt_6, nI_1]
            have := ihh (m + 1) (by omega)
            rw [e] at this
            exact this
      · rw [no (fun z => hb z.1) m, if_neg hb, if_pos rfl, ihh m (by omega)]
        grind
    · rw [no (fun z => hu z.2) m, if_neg hu, ihh m (by omega)]
      grind
theorem m6_weak {k c n A i : Nat} {w T S : ra_W} (hk : 40 ≤ k) (hi : i < 2) (hv : iv n A T S) (hT : mNet w n T) (h : mSt w c n S) (hn : n ≤ 7) : FX6_leastAt k c (nI i) w = some (pu_enc (sp_weak T S i n), w) := by
  obtain ⟨k, rfl⟩ : ∃ q, k = q + 1 := ⟨k - 1, by omega⟩
  unfold FX6_leastAt
  rw [fX6_leastAt_0]
  exact m6_weak_loop (by omega) hi hv hT h hn n 0 k (by omega) (by omega)
theorem pu_le0 (x : Int32) : x ≤ 0 ↔ ¬ 1 ≤ x := by
  rw [Int32.not_le, Int32.le_iff_toInt_le, Int32.lt_iff_toInt_lt]
  show x.toInt ≤ 0 ↔ x.toInt < 1
  omega
theorem pu_lt0 (x : Int32) : 0 < x ↔ 1 ≤ x := by
  rw [Int32.le_iff_toInt_le, Int32.lt_iff_toInt_lt]
  show 0 < x.toInt ↔ 1 ≤ x.toInt
  omega
theorem m6_isFree {k c n A : Nat} {w T S : ra_W} {nd : Int32} (hk : 40 ≤ k) (hnd : pu_q nd) (hv : iv n A T S) (hT : mNet w n T) (h : mSt w c n S) (hn : n ≤ 7) : FX6_isFree k c nd w = some (if (nd &&& sp_full n T S) = 0 then 1 else 0, w) := by
  obtain ⟨k, rfl⟩ : ∃ q, k = q + 1 + 1 := ⟨k - 2, by omega⟩
  unfold FX6_isFree
  have hq := iv_hq hv
  have h0 := m6_has (w := w) (h := nd) (k := k + 1 + 1) (i := 0) (by omega) hnd (by decide)
  have h1 := m6_has (w := w) (h := nd) (k := k + 1 + 1) (i := 1) (by omega) hnd (by decide)
  have f0 := m6_free (k := k + 1 + 1) (i := 0) (by omega) (by decide) hq hT h hn
  have f1 := m6_free (k := k + 1 + 1) (i := 1) (by omega) (by decide) hq hT h hn
  rw [show nI 0 = (0 : Int32) from rfl] at h0 f0
  rw [show nI 1 = (1 : Int32) from rfl] at h1 f1
  rw [fX6_isFree_0, h0]
  simp only [ra_bind]
  rw [f0]
  simp only [ra_bind, fX6_isFree_1]
  rw [h1]
  simp only [ra_bind]
  rw [f1]
  simp only [ra_bind, pu_le0]
  have e := sp_isf_iff (n := n) (T := T) (S := S) hnd
  unfold sp_isf at e
  simp only [e]
  grind
/-- taking over: the two sites -/
theorem sp_weak_none {T S : ra_W} {i : Nat} : ∀ {n : Nat}, sp_weak T S i n = none ↔ ∀ q, q < n → ¬ (sp_hb S i q = true ∧ S 3 q = 0)
  | 0 => by simp [sp_weak]
  | n + 1 => by
    have ih := sp_weak_none (T := T) (S := S) (i := i) (n := n)
    simp only [sp_weak]
    constructor
    · intro h
      split at h
      · cases h
      · rename_i hc
        intro q hq z
        rcases Nat.lt_or_ge q n with l | l
        · exact ih.mp h q l z
        · have e : q = n := by omega
          subst e
          exact hc ⟨z, by rw [h]; rfl⟩
    · intro h
      rw [if_neg (fun z => h n (by omega) z.1)]
      exact ih.mpr (fun q hq => h q (by omega))
theorem sp_tk_again {n A : Nat} {T S : ra_W} {nd : Int32} (h : iv n A T S) (h1 : sp_tkok n T S nd 1) : sp_tkok n T (sp_tk1 n T nd 0 S) nd 1 := by
  unfold sp_tk1
  split
  · rename_i hc
    cases hw : sp_weak T S 0 n with
    | none => exact h1
    | some r =>
      obtain ⟨r1, r2, r3⟩ := sp_weak_sp hw
      dsimp only
      intro q1 q2
      have h' := iv_rest (n := n) (T := T) r h
      by_cases hb : sp_hb S 1 r = true
      · exfalso
        apply q2
        rw [sp_fr_le h' (by decide)]
        obtain ⟨c, c1, c2, c3, c4⟩ := h.2.2.2.1 1 (by decide)
        refine ⟨c, c3, c2, Nat.lt_of_lt_of_le ?_ c4⟩
        have hz : sp_hb (sp_rest S r) 1 r = false := by
          rw [sp_hb, sp_rest_at (by decide)]
          decide
        have := pu_cnt_set (p := sp_hb (sp_rest S r) 1) (q := sp_hb S 1) (n := n) r1 hz (fun j _ hne => by rw [sp_hb, sp_hb, sp_rest_ne hne (by decide)])
        rw [if_pos hb] at this
        omega
      · have ee : ∀ j, sp_hb (sp_rest S r) 1 j = sp_hb S 1 j := by
          intro j
          by_cases e : j = r
          · subst e
            rw [sp_hb, sp_rest_at (by decide)]
            have : sp_hb S 1 j = false := by simpa using hb
            rw [this]
            decide
          · rw [sp_hb, sp_hb, sp_rest_ne e (by decide)]
        have q2' : ¬ 1 ≤ sp_fr n T S 1 := by
          unfold sp_fr at q2 ⊢
          rw [pu_cnt_cong (fun j _ => ee j)] at q2
          exact q2
        have hw2 := h1 q1 q2'
        intro z
        rw [sp_weak_none] at z
        apply hw2
        rw [sp_weak_none]
        intro q hq y
        by_cases e : q = r
        · subst e
          exact hb y.1
        · exact z q hq ⟨by rw [ee]; exact y.1, by rw [sp_rest_ne e (by decide)]; exact y.2⟩
  · exact h1
theorem m6_tkok {k c n A i m : Nat} {w T S : ra_W} {nd : Int32} (hk : 40 ≤ k) (hi : i < 2) (hnd : pu_q nd) (hv : iv n A T S) (hT : mNet w n T) (h : mSt w c n S) (hn : n ≤ 7) : (sp_tkok n T S nd i → fX6_takesOver k c (m + 1 + 1 + 1) 1 nd 1 (nI i) 0 w = fX6_takesOver k c m 1 nd 1 (nI (i + 1)) 0 w) ∧ (¬ sp_tkok n T S nd i → fX6_takesOver k c (m + 1 + 1 + 1) 1 nd 1 (nI i) 0 w = fX6_takesOver k c m 1 nd 0 (nI (i + 1)) 0 w) := by
  rw [fX6_takesOver_1, if_neg (pu_ge2 hi), if_neg (by decide), m6_has (by omega) hnd hi]
  simp only [ra_bind]
  rw [m6_free (by omega) hi (iv_hq hv) hT h hn]
  simp only [ra_bind]
  rw [m6_weak hk hi hv hT h hn]
  simp only [ra_bind]
  rw [fX6_takesOver_2, fX6_takesOver_3, fX6_takesOver_4, fX6_takesOver_4, nI_1]
  simp only [pu_lt0]
  have hw : pu_enc (sp_weak T S i n) = -9 ↔ sp_weak T S i n = none := by
    cases hw : sp_weak T S i n with
    | none => exact ⟨fun _ => rfl, fun _ => rfl⟩
    | some q =>
      have := (sp_weak_sp hw).1
      exact ⟨fun z => absurd z (pu_encs_ne (by omega)), fun z => by cases z⟩
  unfold sp_tkok
  simp only [hw]
  grind
theorem m6_tkno {k c n i m : Nat} {w : ra_W} {nd : Int32} (hi : i < 2) : fX6_takesOver k c (m + 1 + 1 + 1) 1 nd 0 (nI i) 0 w = fX6_takesOver k c m 1 nd 0 (nI (i + 1)) 0 w := by
  rw [fX6_takesOver_1, if_neg (pu_ge2 hi), if_pos rfl, fX6_takesOver_3, fX6_takesOver_4, nI_1]
theorem m6_tk1 {k c n A i m : Nat} {w T S : ra_W} {nd : Int32} (hk : 40 ≤ k) (hi : i < 2) (hnd : pu_q nd) (hv : iv n A T S) (hok : sp_tkok n T S nd i) (hT : mNet w n T) (h : mSt w c n S) (hn : n ≤ 7) : ∃ w', fX6_takesOver k c (m + 1 + 1) 5 nd 1 (nI i) 0 w = fX6_takesOver k c m 5 nd 1 (nI (i + 1)) 0 w' ∧ mSt w' c n (sp_tk1 n T nd i S) ∧ pu_mf c w w' := by
  rw [fX6_takesOver_5, if_neg (pu_ge2 hi), if_neg (by decide), m6_has (by omega) hnd hi]
  simp only [ra_bind]
  rw [m6_free (by omega) hi (iv_hq hv) hT h hn]
  simp only [ra_bind]
  rw [m6_weak hk hi hv hT h hn]
  simp only [ra_bind, fX6_takesOver_6, nI_1, pu_lt0]
  unfold sp_tk1
  by_cases hc : pu_bit nd i = true ∧ ¬ 1 ≤ sp_fr n T S i
  · rw [if_pos hc.1, if_neg (by decide), if_neg hc.2, if_pos hc]
    cases hw : sp_weak T S i n with
    | none => exact absurd hw (hok hc.1 hc.2)
    | some q =>
      have hq2 := (sp_weak_sp hw).1
      rw [show pu_enc (some q) = nI q from rfl, m6_rests (by omega) (by omega)]
      exact ⟨_, rfl, mSt_rest hn (by omega) h, pu_mf_rest _ _⟩
  · rw [if_neg hc]
    refine ⟨w, ?_, h, pu_mf_rf c w⟩
    grind
theorem m6_takesOver {k c n A : Nat} {w T S : ra_W} {nd : Int32} (hk : 60 ≤ k) (hc : c ≠ 136) (hnd : pu_q nd) (hv : iv n A T S) (hT : mNet w n T) (h : mSt w c n S) (hn : n ≤ 7) : ∃ w', FX6_takesOver k c nd w = some (0, w') ∧ mSt w' c n (sp_tko n T nd S) ∧ pu_mf c w w' := by
  obtain ⟨k, rfl⟩ : ∃ q, k = q + 1 + 1 + 1 + 1 + 1 + 1 + 1 + 1 + 1 + 1 + 1 + 1 + 1 + 1 := ⟨k - 14, by omega⟩
  unfold FX6_takesOver
  rw [fX6_takesOver_0, show (0 : Int32) = nI 0 from rfl]
  generalize hkk : k + 1 + 1 + 1 + 1 + 1 + 1 + 1 + 1 + 1 + 1 + 1 + 1 + 1 + 1 = kk at hk
  obtain ⟨p0, p0'⟩ := m6_tkok (k := kk) (m := k + 1 + 1 + 1 + 1 + 1 + 1 + 1 + 1 + 1 + 1) (i := 0) (by omega) (by decide) hnd hv hT h hn
  obtain ⟨p1, p1'⟩ := m6_tkok (k := kk) (m := k + 1 + 1 + 1 + 1 + 1 + 1 + 1) (i := 1) (by omega) (by decide) hnd hv hT h hn
  have out : fX6_takesOver kk c (k + 1 + 1 + 1 + 1 + 1 + 1 + 1) 1 nd 0 (nI 2) 0 w = some (0, w) := by
    rw [fX6_takesOver_1, if_pos (by decide), fX6_takesOver_5, if_neg (by decide), if_pos rfl]
  by_cases c0 : sp_tkok n T S nd 0
  · by_cases c1 : sp_tkok n T S nd 1
    · have e : sp_tko n T nd S = sp_tk1 n T nd 1 (sp_tk1 n T nd 0 S) := if_pos ⟨c0, c1⟩
      obtain ⟨w1, g1, g2, g3⟩ := m6_tk1 (k := kk) (m := k + 1 + 1 + 1 + 1) (i := 0) (by omega) (by decide) hnd hv c0 hT h hn
      obtain ⟨w2, f1, f2, f3⟩ := m6_tk1 (k := kk) (m := k + 1 + 1) (i := 1) (by omega) (by decide) hnd (iv_tk1 hv) (sp_tk_again hv c1) (mNet_x hT (g3.1 136 (Ne.symm hc))) g2 hn
      refine ⟨w2, (p0 c0).trans ((p1 c1).trans ?_), by rw [e]; exact f2, pu_mf_tr g3 f3⟩
      rw [fX6_takesOver_1, if_pos (by decide)]
      refine g1.trans (f1.trans ?_)
      rw [fX6_takesOver_5, if_pos (by decide)]
      rfl
    · have e : sp_tko n T nd S = S := if_neg (fun q => c1 q.2)
      exact ⟨w, (p0 c0).trans ((p1' c1).trans out), by rw [e]; exact h, pu_mf_rf c w⟩
  · have e : sp_tko n T nd S = S := if_neg (fun q => c0 q.1)
    exact ⟨w, (p0' c0).trans ((m6_tkno (n := n) (by decide)).trans out), by rw [e]; exact h, pu_mf_rf c w⟩
theorem sp_tko_isf {n : Nat} {T S : ra_W} {nd : Int32} (h : sp_isf n T S nd) : sp_tko n T nd S = S := by
  have e0 : sp_tk1 n T nd 0 S = S := if_neg (fun q => q.2 (h.1 q.1))
  have e1 : sp_tk1 n T nd 1 S = S := if_neg (fun q => q.2 (h.2 q.1))
  unfold sp_tko
  split
  · rw [e0, e1]
  · rfl
theorem m6_srv3 {k c n A r m : Nat} {w T S : ra_W} {nd : Int32} (hk : 60 ≤ k) (hr : r < n) (hnd : pu_q nd) (hv : iv n A T S) (hT : mNet w n T) (h : mSt w c n S) (hn : n ≤ 7) : ∃ w', fX6_serves k c (m + 1) 2 (nI r) nd w = some (0, w') ∧ mSt w' c n (sp_srv3 n T r nd S) ∧ pu_mf c w w' := by
  rw [fX6_serves_2, m6_isFree (by omega) hnd hv hT h hn]
  simp only [ra_bind]
  unfold sp_srv3
  by_cases hc : (nd &&& sp_full n T S) = 0
  · rw [if_pos hc, if_neg (by decide), if_pos hc, m6_becomes 4 0 (by omega) (by omega)]
    simp only []
    rw [pl_34, if_pos (pu_in (by omega) (by decide)), pu_ix (by omega)]
    have h3 : ra_st (ra_st (ra_st w c (13 + r) 4) c (20 + r) 0) c (34 + r) nd c 3 = S 6 0 := by
      simp only [pu_st]
      rw [if_neg (by omega), if_neg (by omega), if_neg (by omega)]
      exact h.2.2.2.2.2.2.1
    refine ⟨_, rfl, ?_, pu_mf_tr (pu_mf_tr (pu_mf_tr (pu_mf_st _ _ _ (by omega)) (pu_mf_st _ _ _ (by omega))) (pu_mf_st _ _ _ (by omega))) (pu_mf_st _ _ _ (by omega))⟩
    rw [h3]
    exact mSt_6 (i := 0) _ hn (by decide) (mSt_4 _ hn (by omega) (mSt_2 _ hn (by omega) (mSt_1 _ hn (by omega) h)))
  · rw [if_neg hc, if_pos rfl, if_neg hc]
    exact ⟨w, rfl, h, pu_mf_rf c w⟩
theorem m6_srv2 {k c n A r m s : Nat} {w T S : ra_W} (hk : 60 ≤ k) (hr : r < n) (hs : s < 2) (hsr : S 0 r = nI s) (hu : S 3 r = 0 ∨ S 3 r = 1) (hc : c ≠ 136) (hv : iv n A T S) (hT : mNet w n T) (h : mSt w c n S) (hn : n ≤ 7) : ∃ w', fX6_serves k c (m + 1 + 1) 1 (nI r) 0 w = some (0, w') ∧ mSt w' c n (sp_srv2 n T r S) ∧ pu_mf c w w' := by
  have hnd := sp_need_q (n := n) (T := T) (S := S) (r := r) hs
  rw [fX6_serves_1, m6_need (by omega) hs hr hsr hv.2.2.2.2 hT h hn]
  simp only [ra_bind]
  rw [m6_isFree (by omega) hnd hv hT h hn]
  simp only [ra_bind]
  unfold sp_srv2
  rw [hsr, pu_ix (by omega)]
  generalize sp_need n T S s r = nd at hnd
  rw [pl_27, if_pos (pu_in (by omega) (by decide)), pu_ix (by omega), h.2.2.2.1 r hr]
  by_cases hf : (nd &&& sp_full n T S) = 0
  · have e : (if S 3 r = 1 then sp_tko n T nd S else S) = S := by
      rw [sp_tko_isf ((sp_isf_iff hnd).mp hf)]
      split <;> rfl
    rw [if_pos hf, if_neg (by decide), e]
    exact m6_srv3 hk hr hnd hv hT h hn
  · rw [if_neg hf, if_pos rfl]
    by_cases hu1 : S 3 r = 1
    · rw [if_pos hu1, if_pos hu1]
      obtain ⟨w1, g1, g2, g3⟩ := m6_takesOver (k := k) hk hc hnd hv hT h hn
      rw [g1]
      simp only []
      obtain ⟨w2, f1, f2, f3⟩ := m6_srv3 (k := k) (m := m) hk hr hnd (iv_tko hv) (mNet_x hT (g3.1 136 (Ne.symm hc))) g2 hn
      exact ⟨w2, f1, f2, pu_mf_tr g3 f3⟩
    · rw [if_neg hu1, if_neg hu1]
      exact m6_srv3 hk hr hnd hv hT h hn
theorem m6_serves {k c n A r : Nat} {w T S : ra_W} (hk : 70 ≤ k) (hr : r < n) (hQ : S 1 r = 3) (hc : c ≠ 136) (hv : iv n A T S) (hT : mNet w n T) (h : mSt w c n S) (hn : n ≤ 7) : ∃ w', FX6_serves k c (nI r) w = some (0, w') ∧ mSt w' c n (sp_serve n T r S) ∧ pu_mf c w w' := by
  obtain ⟨k, rfl⟩ : ∃ q, k = q + 1 + 1 + 1 := ⟨k - 3, by omega⟩
  obtain ⟨s, hs1, hs2⟩ := (hv.2.1 r hr).1
  have hu := fun r (hr : r < n) => (hv.2.1 r hr).2.1
  unfold FX6_serves
  rw [fX6_serves_0, pl_5, pl_27, if_pos (pu_in (by omega) (by decide)), pu_ix (by omega), hT.2.2.2.2.1 r hr, m6_talkerOf _ (by omega) hT h hv.2.2.1 hn]
  simp only [ra_bind]
  unfold sp_serve
  cases ht : pu_lst (sp_talk T S (T 2 r)) n with
  | none =>
    rw [if_pos (by rfl)]
    exact m6_srv2 (by omega) hr hs1 hs2 (hu r hr) hc hv hT h hn
  | some t =>
    obtain ⟨t1, t2, -⟩ := pu_lst_some.mp ht
    simp only [sp_talk, decide_eq_true_eq] at t2
    have hne : r ≠ t := fun e => by rw [← e, hQ] at t2; exact absurd t2.1 (by decide)
    rw [if_neg (pu_encs_ne (q := t) (by omega)), show pu_enc (some t) = nI t from rfl, pl_27, if_pos (pu_in (by omega) (by decide)), if_pos (pu_in (by omega) (by decide)), pu_ix (by omega), pu_ix (by omega), h.2.2.2.1 r hr, h.2.2.2.1 t t1]
    dsimp only
    by_cases hcd : S 3 r = 1 ∧ ¬ S 3 t = 1
    · rw [if_neg (by rw [hcd.1]; decide), if_neg hcd.2, m6_rests (by omega) (by omega)]
      simp only []
      rw [if_pos hcd]
      have e3 : sp_rest S t 3 r = S 3 r := sp_rest_ne hne (by decide)
      have e4 : sp_rest S t 0 r = S 0 r := sp_rest_ne hne (by decide)
      obtain ⟨w2, f1, f2, f3⟩ := m6_srv2 (k := k + 1 + 1 + 1) (m := k) (c := c) (w := ra_st (ra_st (ra_st (ra_st w c (13 + t) 0) c (20 + t) 0) c (27 + t) 0) c (34 + t) 0) (T := T) (S := sp_rest S t) (by omega) hr hs1 (by rw [e4]; exact hs2) (by rw [e3]; exact hu r hr) hc (iv_rest t hv) (mNet_x hT ((pu_mf_rest w t).1 136 (Ne.symm hc))) (mSt_rest hn (by omega) h) hn
      exact ⟨w2, f1, f2, pu_mf_tr (pu_mf_rest _ _) f3⟩
    · rw [if_neg hcd]
      refine ⟨w, ?_, h, pu_mf_rf c w⟩
      rcases hu r hr with e | e
      · rw [if_pos e]
      · have ht1 : S 3 t = 1 := by
          rcases hu t t1 with z | z
          · exact absurd ⟨e, by rw [z]; decide⟩ hcd
          · exact z
        rw [if_neg (by rw [e]; decide), if_pos ht1]
