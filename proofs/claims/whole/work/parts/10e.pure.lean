theorem pu_ge2 {i : Nat} (h : i < 2) : ¬ (2 : Int32) ≤ nI i := nI_ge (b := 2) h (by decide)
theorem pu_ge7 {i : Nat} (h : i < 7) : ¬ (7 : Int32) ≤ nI i := nI_ge (b := 7) h (by decide)
theorem pu_encs_ne {q : Nat} (h : q < 2 ^ 31) : ¬ pu_enc (some q) = -9 := pu_enc_ne h
/-- who gives way -/
def sp_wok (T : ra_W) (o : Option Nat) (m : Nat) : Bool := match o with
  | none => true
  | some q => decide (¬ T 3 q < T 3 m)
def sp_weak (T S : ra_W) (i : Nat) : Nat → Option Nat
  | 0 => none
  | m + 1 => if (sp_hb S i m = true ∧ S 3 m = 0) ∧ sp_wok T (sp_weak T S i m) m = true then some m else sp_weak T S i m
theorem sp_weak_sp {T S : ra_W} {i : Nat} : ∀ {m q : Nat}, sp_weak T S i m = some q → q < m ∧ sp_hb S i q = true ∧ S 3 q = 0
  | 0, q, h => by simp [sp_weak] at h
  | m + 1, q, h => by
    simp only [sp_weak] at h
    split at h
    · rename_i h1
      cases h
      exact ⟨by omega, h1.1⟩
    · have := sp_weak_sp h
      exact ⟨by omega, this.2⟩
theorem q0_weak_loop {k a b n i : Nat} {w T S : ra_W} (hi : i < 2) (hq : sp_hq n S) (hT : cNet w a n T) (h : cSt w b n S) (hn : n ≤ 7) : ∀ (d j m : Nat), j + d = n → 4 * d + 1 ≤ m → fX0_weakestAt k a b m 1 (nI i) (pu_enc (sp_weak T S i j)) (nI j) 0 w = some (pu_enc (sp_weak T S i n), w) := by
  intro d
  induction d with
  | zero =>
    intro j m hj hm
    obtain ⟨m, rfl⟩ : ∃ q, m = q + 1 := ⟨m - 1, by omega⟩
    have hin : j = n := by omega
    subst hin
    rw [fX0_weakestAt_1, hT.1, if_pos (nI_le (Nat.le_refl j) (by omega))]
  | succ d ih =>
    intro j m hj hm
    obtain ⟨m, rfl⟩ : ∃ q, m = q + 1 + 1 + 1 + 1 := ⟨m - 4, by omega⟩
    have ihh := fun (m : Nat) (hm : 4 * d + 1 ≤ m) => ih (j + 1) m (by omega) hm
    rw [fX0_weakestAt_1, hT.1, if_neg (nI_ge (by omega) (by omega)), if_pos (pu_in (by omega) (by decide)), pu_ix (by omega), h.2.2.2.2.1 j (by omega), h.2.2.2.1 j (by omega), pu_bit_sh (hq j (by omega)) hi]
    by_cases hb : pu_bit (S 4 j) i = true
    · rw [if_pos hb, if_pos rfl]
      by_cases hu : S 3 j = 0
      · rw [if_pos hu, fX0_weakestAt_3, if_neg (by decide)]
        cases hw : sp_weak T S i j with
        | none =>
          have e : sp_weak T S i (j + 1) = some j := by
            simp only [sp_weak]
            rw [if_pos ⟨⟨hb, hu⟩, by rw [hw]; rfl⟩]
          rw [if_pos (show pu_enc none = -9 from rfl), fX0_weakestAt_4, fX0_weakestAt_5, nI_1]
          have := ihh m (by omega)
          rw [e] at this
          exact this
        | some q =>
          have hq2 := (sp_weak_sp hw).1
          rw [if_neg (pu_encs_ne (q := q) (by omega)), if_pos (pu_in (by omega) (by decide)), show pu_enc (some q) = nI q from rfl, if_pos (pu_in (by omega) (by decide)), pu_ix (by omega), pu_ix (by omega), hT.2.2.2.2.2 q (by omega), hT.2.2.2.2.2 j (by omega)]
          by_cases hl : T 3 q < T 3 j
          · have e : sp_weak T S i (j + 1) = some q := by
              simp only [sp_weak]
              rw [if_neg (fun z => by have := z.2; rw [hw] at this; simp [sp_wok, hl] at this), hw]
            rw [if_pos hl, fX0_weakestAt_5, nI_1]
            have := ihh (m + 1) (by omega)
            rw [e] at this
            exact this
          · have e : sp_weak T S i (j + 1) = some j := by
              simp only [sp_weak]
              rw [if_pos ⟨⟨hb, hu⟩, by rw [hw]; simp [sp_wok, hl]⟩]
            rw [if_neg hl, fX0_weakestAt_4, fX0_weakestAt_5, nI_1]
            have := ihh m (by omega)
            rw [e] at this
            exact this
      · have e : sp_weak T S i (j + 1) = sp_weak T S i j := by
          simp only [sp_weak]
          rw [if_neg (fun z => hu z.1.2)]
        rw [if_neg hu, fX0_weakestAt_2, fX0_weakestAt_3, if_pos rfl, fX0_weakestAt_5, nI_1]
        have := ihh m (by omega)
        rw [e] at this
        exact this
    · have e : sp_weak T S i (j + 1) = sp_weak T S i j := by
        simp only [sp_weak]
        rw [if_neg (fun z => hb z.1.1)]
      rw [if_neg hb, if_neg (by decide), fX0_weakestAt_2, fX0_weakestAt_3, if_pos rfl, fX0_weakestAt_5, nI_1]
      have := ihh m (by omega)
      rw [e] at this
      exact this
theorem q0_weak {k a b n i : Nat} {w T S : ra_W} (hk : 40 ≤ k) (hi : i < 2) (hq : sp_hq n S) (hT : cNet w a n T) (h : cSt w b n S) (hn : n ≤ 7) : FX0_weakestAt k a b (nI i) w = some (pu_enc (sp_weak T S i n), w) := by
  obtain ⟨k, rfl⟩ : ∃ q, k = q + 1 := ⟨k - 1, by omega⟩
  unfold FX0_weakestAt
  rw [fX0_weakestAt_0]
  exact q0_weak_loop hi hq hT h hn n 0 k (by omega) (by omega)
theorem sp_full_q (n : Nat) (T S : ra_W) : pu_q (sp_full n T S) := by
  unfold sp_full pu_q
  split <;> split <;> decide
theorem sp_full_bit (n : Nat) (T S : ra_W) {i : Nat} (hi : i < 2) : pu_bit (sp_full n T S) i = decide (¬ 1 ≤ sp_fr n T S i) := by
  unfold sp_full
  rcases (show i = 0 ∨ i = 1 by omega) with rfl | rfl
  · by_cases h0 : 1 ≤ sp_fr n T S 0 <;> by_cases h1 : 1 ≤ sp_fr n T S 1 <;> simp only [h0, h1, if_true, if_false] <;> decide
  · by_cases h0 : 1 ≤ sp_fr n T S 0 <;> by_cases h1 : 1 ≤ sp_fr n T S 1 <;> simp only [h0, h1, if_true, if_false] <;> decide
theorem sp_hq_rest {n : Nat} {S : ra_W} (r : Nat) (h : sp_hq n S) : sp_hq n (sp_rest S r) := by
  intro q hq
  have := h q hq
  simp only [sp_rest, pu_st]
  unfold pu_q at this ⊢
  grind
/-- taking over -/
def sp_tk1 (n : Nat) (T : ra_W) (nd : Int32) (i : Nat) (S : ra_W) : ra_W := if pu_bit nd i = true ∧ ¬ 1 ≤ sp_fr n T S i then (match sp_weak T S i n with
  | none => S
  | some r => sp_rest S r) else S
def sp_tkok (n : Nat) (T S : ra_W) (nd : Int32) (i : Nat) : Prop := pu_bit nd i = true → ¬ 1 ≤ sp_fr n T S i → ¬ sp_weak T S i n = none
theorem sp_hq_tk1 {n : Nat} {T S : ra_W} {nd : Int32} {i : Nat} (h : sp_hq n S) : sp_hq n (sp_tk1 n T nd i S) := by
  unfold sp_tk1
  split
  · split
    · exact h
    · exact sp_hq_rest _ h
  · exact h
theorem q0_tk1 {k a b n i m : Nat} {w T S : ra_W} {nd : Int32} (hk : 40 ≤ k) (hi : i < 2) (hm : 2 ≤ m) (hab : a + 4 < b) (ha : a < 10) (hnd : pu_q nd) (hq : sp_hq n S) (hT : cNet w a n T) (h : cSt w b n S) (hn : n ≤ 7) : ∃ w', fX0_takeOver k a b m 3 nd 0 (nI i) w = fX0_takeOver k a b (m - 2) 3 nd 0 (nI (i + 1)) w' ∧ cSt w' b n (sp_tk1 n T nd i S) ∧ pu_fs b w w' := by
  obtain ⟨m, rfl⟩ : ∃ q, m = q + 1 + 1 := ⟨m - 2, by omega⟩
  have hb := pu_bit_and (i := i) hnd (sp_full_q n T S) hi
  rw [fX0_takeOver_3, if_neg (pu_ge2 hi), q4_full (by omega) hq hT h hn]
  simp only [ra_bind]
  rw [q0_weak hk hi hq hT h hn]
  simp only [ra_bind]
  rw [pu_bit_sh hb.2 hi, hb.1, sp_full_bit n T S hi]
  by_cases hc : pu_bit nd i = true ∧ ¬ 1 ≤ sp_fr n T S i
  · rw [if_pos (by simp [hc])]
    cases hw : sp_weak T S i n with
    | none =>
      rw [if_pos (by simp [pu_enc]), fX0_takeOver_4, nI_1]
      refine ⟨w, rfl, ?_, pu_fs_rf b w⟩
      unfold sp_tk1
      rw [if_pos hc, hw]
      exact h
    | some q =>
      have hq2 := (sp_weak_sp hw).1
      rw [if_neg (pu_encs_ne (q := q) (by omega)), show pu_enc (some q) = nI q from rfl, q4_rest (by omega) (by omega)]
      simp only [fX0_takeOver_4, nI_1]
      refine ⟨_, rfl, ?_, pu_fs_rest _ _⟩
      unfold sp_tk1
      rw [if_pos hc, hw]
      exact cSt_rest _ h
  · have : ¬ (if (pu_bit nd i && decide (¬ 1 ≤ sp_fr n T S i)) = true then (1 : Int32) else 0) = 1 := by
      rw [if_neg (by simp only [Bool.and_eq_true, decide_eq_true_eq]; exact hc)]
      decide
    rw [if_neg this, fX0_takeOver_4, nI_1]
    refine ⟨w, rfl, ?_, pu_fs_rf b w⟩
    unfold sp_tk1
    rw [if_neg hc]
    exact h
theorem q0_tkok {k a b n i m : Nat} {w T S : ra_W} {nd : Int32} (hk : 40 ≤ k) (hi : i < 2) (hm : 2 ≤ m) (hnd : pu_q nd) (hq : sp_hq n S) (hT : cNet w a n T) (h : cSt w b n S) (hn : n ≤ 7) : (sp_tkok n T S nd i → fX0_takeOver k a b m 1 nd (nd &&& sp_full n T S) (nI i) w = fX0_takeOver k a b (m - 2) 1 nd (nd &&& sp_full n T S) (nI (i + 1)) w) ∧ (¬ sp_tkok n T S nd i → fX0_takeOver k a b m 1 nd (nd &&& sp_full n T S) (nI i) w = some (0, w)) := by
  obtain ⟨m, rfl⟩ : ∃ q, m = q + 1 + 1 := ⟨m - 2, by omega⟩
  have hb := pu_bit_and (i := i) hnd (sp_full_q n T S) hi
  rw [fX0_takeOver_1, if_neg (pu_ge2 hi), pu_bit_sh hb.2 hi, hb.1, sp_full_bit n T S hi, q0_weak hk hi hq hT h hn, fX0_takeOver_2, nI_1]
  simp only [ra_bind]
  by_cases hc : pu_bit nd i = true ∧ ¬ 1 ≤ sp_fr n T S i
  · have h1 : (if (pu_bit nd i && decide (¬ 1 ≤ sp_fr n T S i)) = true then (1 : Int32) else 0) = 1 := if_pos (by simp only [Bool.and_eq_true, decide_eq_true_eq]; exact hc)
    rw [if_pos h1]
    cases hw : sp_weak T S i n with
    | none =>
      refine ⟨fun q => absurd hw (q hc.1 hc.2), fun _ => ?_⟩
      rw [if_pos (by rfl)]
    | some q =>
      have hq2 := (sp_weak_sp hw).1
      refine ⟨fun _ => ?_, fun z => absurd (fun _ _ => by rw [hw]; intro e; cases e) z⟩
      rw [if_neg (pu_encs_ne (q := q) (by omega)), fX0_takeOver_2, nI_1]
      rfl
  · have h1 : ¬ (if (pu_bit nd i && decide (¬ 1 ≤ sp_fr n T S i)) = true then (1 : Int32) else 0) = 1 := by
      rw [if_neg (by simp only [Bool.and_eq_true, decide_eq_true_eq]; exact hc)]
      decide
    rw [if_neg h1]
    exact ⟨fun _ => rfl, fun z => absurd (fun p q => absurd ⟨p, q⟩ hc) z⟩
def sp_tko (n : Nat) (T : ra_W) (nd : Int32) (S : ra_W) : ra_W := if (pu_bit nd 0 = true → ¬ 1 ≤ sp_fr n T S 0 → ¬ sp_weak T S 0 n = none) ∧ (pu_bit nd 1 = true → ¬ 1 ≤ sp_fr n T S 1 → ¬ sp_weak T S 1 n = none) then sp_tk1 n T nd 1 (sp_tk1 n T nd 0 S) else S
theorem q0_takeOver {k a b n : Nat} {w T S : ra_W} {nd : Int32} (hk : 60 ≤ k) (hab : a + 4 < b) (ha : a < 10) (hnd : pu_q nd) (hq : sp_hq n S) (hT : cNet w a n T) (h : cSt w b n S) (hn : n ≤ 7) : ∃ w', FX0_takeOver k a b nd w = some (0, w') ∧ cSt w' b n (sp_tko n T nd S) ∧ pu_fs b w w' := by
  obtain ⟨k, rfl⟩ : ∃ q, k = q + 1 := ⟨k - 1, by omega⟩
  unfold FX0_takeOver
  rw [fX0_takeOver_0, q4_full (by omega) hq hT h hn]
  simp only [ra_bind]
  rw [show (0 : Int32) = nI 0 from rfl]
  obtain ⟨p0, p0'⟩ := q0_tkok (k := k + 1) (m := k) (i := 0) (by omega) (by decide) (by omega) hnd hq hT h hn
  obtain ⟨p1, p1'⟩ := q0_tkok (k := k + 1) (m := k - 2) (i := 1) (by omega) (by decide) (by omega) hnd hq hT h hn
  by_cases c0 : sp_tkok n T S nd 0
  · rw [p0 c0]
    by_cases c1 : sp_tkok n T S nd 1
    · have e : sp_tko n T nd S = sp_tk1 n T nd 1 (sp_tk1 n T nd 0 S) := if_pos ⟨c0, c1⟩
      rw [p1 c1]
      obtain ⟨m, hm⟩ : ∃ q, k - 2 - 2 = q + 1 := ⟨k - 2 - 2 - 1, by omega⟩
      rw [hm, fX0_takeOver_1, if_pos (by decide)]
      obtain ⟨w1, g1, g2, g3⟩ := q0_tk1 (k := k + 1) (m := m) (i := 0) (by omega) (by decide) (by omega) hab ha hnd hq hT h hn
      obtain ⟨w2, f1, f2, f3⟩ := q0_tk1 (k := k + 1) (m := m - 2) (i := 1) (by omega) (by decide) (by omega) hab ha hnd (sp_hq_tk1 hq) (cNet_fr hT (pu_fs_fr g3) hab ha) g2 hn
      refine ⟨w2, ?_, by rw [e]; exact f2, pu_fs_tr g3 f3⟩
      rw [show (0 : Int32) = nI 0 from rfl]
      refine g1.trans (f1.trans ?_)
      obtain ⟨m2, hm2⟩ : ∃ q, m - 2 - 2 = q + 1 := ⟨m - 2 - 2 - 1, by omega⟩
      rw [hm2, fX0_takeOver_3, if_pos (by decide)]
      rfl
    · have e : sp_tko n T nd S = S := if_neg (fun q => c1 q.2)
      exact ⟨w, p1' c1, by rw [e]; exact h, pu_fs_rf b w⟩
  · have e : sp_tko n T nd S = S := if_neg (fun q => c0 q.1)
    exact ⟨w, p0' c0, by rw [e]; exact h, pu_fs_rf b w⟩
theorem sp_hq_tko {n : Nat} {T S : ra_W} {nd : Int32} (h : sp_hq n S) : sp_hq n (sp_tko n T nd S) := by
  unfold sp_tko
  split
  · exact sp_hq_tk1 (sp_hq_tk1 h)
  · exact h
theorem sp_need_q {n : Nat} {T S : ra_W} {s r : Nat} (hs : s < 2) : pu_q (sp_need n T S s r) := by
  unfold sp_need
  rcases (show s = 0 ∨ s = 1 by omega) with rfl | rfl <;> split <;> (unfold pu_q; decide)
/-- serving one of the line -/
def sp_isf (n : Nat) (T S : ra_W) (nd : Int32) : Prop := (pu_bit nd 0 = true → 1 ≤ sp_fr n T S 0) ∧ (pu_bit nd 1 = true → 1 ≤ sp_fr n T S 1)
theorem sp_isf_iff {n : Nat} {T S : ra_W} {nd : Int32} (hnd : pu_q nd) : (nd &&& sp_full n T S) = 0 ↔ sp_isf n T S nd := by
  unfold sp_full sp_isf
  by_cases h0 : 1 ≤ sp_fr n T S 0 <;> by_cases h1 : 1 ≤ sp_fr n T S 1 <;> simp only [h0, h1, if_true, if_false] <;> rcases hnd with rfl | rfl | rfl | rfl <;> decide
def sp_on (S : ra_W) (r : Nat) (nd : Int32) : ra_W := ra_st (ra_st (ra_st (ra_st S 1 r 4) 2 r 0) 4 r nd) 6 0 (S 6 0 + 1)
def sp_srv3 (n : Nat) (T : ra_W) (r : Nat) (nd : Int32) (S : ra_W) : ra_W := if (nd &&& sp_full n T S) = 0 then sp_on S r nd else S
def sp_srv2 (n : Nat) (T : ra_W) (r : Nat) (S : ra_W) : ra_W := sp_srv3 n T r (sp_need n T S (ra_ix (S 0 r)) r) (if S 3 r = 1 then sp_tko n T (sp_need n T S (ra_ix (S 0 r)) r) S else S)
def sp_serve (n : Nat) (T : ra_W) (r : Nat) (S : ra_W) : ra_W := match pu_lst (sp_talk T S (T 2 r)) n with
  | none => sp_srv2 n T r S
  | some t => if S 3 r = 1 ∧ ¬ S 3 t = 1 then sp_srv2 n T r (sp_rest S t) else S
theorem q0_srv3 {k a b n r m : Nat} {w T S : ra_W} {nd : Int32} (hk : 60 ≤ k) (hm : 1 ≤ m) (hr : r < n) (hq : sp_hq n S) (hT : cNet w a n T) (h : cSt w b n S) (hn : n ≤ 7) : ∃ w', fX0_serve k a b m 3 (nI r) 0 nd 0 w = some (0, w') ∧ cSt w' b n (sp_srv3 n T r nd S) ∧ pu_fs b w w' := by
  obtain ⟨m, rfl⟩ : ∃ q, m = q + 1 := ⟨m - 1, by omega⟩
  rw [fX0_serve_3, q4_full (by omega) hq hT h hn]
  simp only [ra_bind]
  unfold sp_srv3
  by_cases hc : (nd &&& sp_full n T S) = 0
  · rw [if_pos hc, if_pos hc, q4_enter 4 (by omega) (by omega)]
    simp only []
    rw [if_pos (pu_in (by omega) (by decide)), pu_ix (by omega)]
    have h7 : ra_st (ra_st (ra_st w (b + 2) r 4) (b + 3) r 0) (b + 5) r nd b 7 = S 6 0 := by
      rw [pu_st_ne (by omega), pu_st_ne (by omega), pu_st_ne (by omega)]
      exact h.2.2.2.2.2.2.1
    refine ⟨_, rfl, ?_, pu_fs_tr (pu_fs_tr (pu_fs_tr (pu_fs_st _ _ _ (by omega)) (pu_fs_st _ _ _ (by omega))) (pu_fs_st _ _ _ (by omega))) (pu_fs_st _ _ _ (by omega))⟩
    rw [h7]
    exact cSt_6 0 (by decide) _ (cSt_4 _ _ (cSt_2 _ _ (cSt_1 _ _ h)))
  · rw [if_neg hc, if_neg hc]
    exact ⟨w, rfl, h, pu_fs_rf b w⟩
theorem q0_srv2 {k a b n r m s : Nat} {w T S : ra_W} (hk : 60 ≤ k) (hm : 2 ≤ m) (hr : r < n) (hs : s < 2) (hsr : S 0 r = nI s) (hu : S 3 r = 0 ∨ S 3 r = 1) (hab : a + 4 < b) (ha : a < 10) (hq : sp_hq n S) (hT : cNet w a n T) (h : cSt w b n S) (hn : n ≤ 7) : ∃ w', fX0_serve k a b m 2 (nI r) (S 3 r) 0 0 w = some (0, w') ∧ cSt w' b n (sp_srv2 n T r S) ∧ pu_fs b w w' := by
  obtain ⟨m, rfl⟩ : ∃ q, m = q + 1 := ⟨m - 1, by omega⟩
  rw [fX0_serve_2, q0_need (by omega) hs hr hsr hT h hn]
  simp only [ra_bind]
  unfold sp_srv2
  rw [hsr, pu_ix (by omega)]
  rcases hu with e | e
  · rw [if_pos e, if_neg (by rw [e]; decide)]
    exact q0_srv3 hk (by omega) hr hq hT h hn
  · rw [if_neg (by rw [e]; decide), if_pos e]
    obtain ⟨w1, g1, g2, g3⟩ := q0_takeOver (k := k) hk hab ha (sp_need_q hs) hq hT h hn
    rw [g1]
    simp only []
    obtain ⟨w2, f1, f2, f3⟩ := q0_srv3 (k := k) (m := m) hk (by omega) hr (sp_hq_tko hq) (cNet_fr hT (pu_fs_fr g3) hab ha) g2 hn
    exact ⟨w2, f1, f2, pu_fs_tr g3 f3⟩
theorem sp_rest_ne {S : ra_W} {t j r : Nat} (h : r ≠ t) (hj : j ≠ 6) : sp_rest S t j r = S j r := by
  simp only [sp_rest, pu_st]
  grind
theorem q0_serve {k a b n r : Nat} {w T S : ra_W} (hk : 70 ≤ k) (hr : r < n) (hQ : S 1 r = 3) (hs : ∀ r, r < n → ∃ s, s < 2 ∧ S 0 r = nI s) (hu : ∀ r, r < n → S 3 r = 0 ∨ S 3 r = 1) (hab : a + 4 < b) (ha : a < 10) (hq : sp_hq n S) (hT : cNet w a n T) (h : cSt w b n S) (hn : n ≤ 7) : ∃ w', FX0_serve k a b (nI r) w = some (0, w') ∧ cSt w' b n (sp_serve n T r S) ∧ pu_fs b w w' := by
  obtain ⟨k, rfl⟩ : ∃ q, k = q + 1 + 1 := ⟨k - 2, by omega⟩
  obtain ⟨s, hs1, hs2⟩ := hs r hr
  unfold FX0_serve
  rw [fX0_serve_0, if_pos (pu_in (by omega) (by decide)), pu_ix (by omega), h.2.2.2.1 r hr]
  have e0 : (if S 3 r = 1 then fX0_serve (k + 1 + 1) a b (k + 1) 1 (nI r) 0 0 1 w else fX0_serve (k + 1 + 1) a b (k + 1) 1 (nI r) 0 0 0 w) = fX0_serve (k + 1 + 1) a b (k + 1) 1 (nI r) 0 0 (S 3 r) w := by
    rcases hu r hr with e | e <;> rw [e] <;> rfl
  rw [e0, fX0_serve_1, if_pos (pu_in (by omega) (by decide)), pu_ix (by omega), hT.2.2.2.2.1 r hr, q4_talkerOf _ (by omega) hT h hn]
  simp only [ra_bind]
  unfold sp_serve
  cases ht : pu_lst (sp_talk T S (T 2 r)) n with
  | none =>
    rw [if_pos (by rfl)]
    exact q0_srv2 (by omega) (by omega) hr hs1 hs2 (hu r hr) hab ha hq hT h hn
  | some t =>
    obtain ⟨t1, t2, -⟩ := pu_lst_some.mp ht
    simp only [sp_talk, decide_eq_true_eq] at t2
    have hne : r ≠ t := fun e => by rw [← e, hQ] at t2; exact absurd t2.1 (by decide)
    rw [if_neg (pu_encs_ne (q := t) (by omega)), show pu_enc (some t) = nI t from rfl, if_pos (pu_in (by omega) (by decide)), pu_ix (by omega), h.2.2.2.1 t t1]
    dsimp only
    by_cases hc : S 3 r = 1 ∧ ¬ S 3 t = 1
    · rw [if_neg (by rw [hc.1]; decide), if_neg hc.2, q4_rest (by omega) (by omega)]
      simp only []
      rw [if_pos hc]
      have e3 : sp_rest S t 3 r = S 3 r := sp_rest_ne hne (by decide)
      have e4 : sp_rest S t 0 r = S 0 r := sp_rest_ne hne (by decide)
      have := q0_srv2 (k := k + 1 + 1) (m := k) (a := a) (b := b) (w := ra_st (ra_st (ra_st (ra_st w (b + 2) t 0) (b + 3) t 0) (b + 4) t 0) (b + 5) t 0) (T := T) (S := sp_rest S t) (by omega) (by omega) hr hs1 (by rw [e4]; exact hs2) (by rw [e3]; exact hu r hr) hab ha (sp_hq_rest t hq) (cNet_fr hT (pu_fs_fr (pu_fs_rest _ _)) hab ha) (cSt_rest _ h) hn
      rw [e3] at this
      obtain ⟨w2, f1, f2, f3⟩ := this
      exact ⟨w2, f1, f2, pu_fs_tr (pu_fs_rest _ _) f3⟩
    · rw [if_neg hc]
      refine ⟨w, ?_, h, pu_fs_rf b w⟩
      rcases hu r hr with e | e
      · rw [if_pos e]
      · have ht1 : S 3 t = 1 := by
          rcases hu t t1 with z | z
          · exact absurd ⟨e, by rw [z]; decide⟩ hc
          · exact z
        rw [if_neg (by rw [e]; decide), if_pos ht1]
/-- giving up -/
def sp_give1 (P : Int32) (r : Nat) (S : ra_W) : ra_W := if S 1 r = 3 then (if S 2 r + 1 ≤ P then ra_st S 2 r (S 2 r + 1) else ra_st (sp_rest (ra_st S 2 r (S 2 r + 1)) r) 6 2 (S 6 2 + 1)) else S
def sp_giveI (P : Int32) (S : ra_W) : Nat → ra_W
  | 0 => S
  | m + 1 => sp_give1 P m (sp_giveI P S m)
theorem q0_give_loop {k a b n : Nat} {T S : ra_W} (hk : 1 ≤ k) (hn : n ≤ 7) (hab : a + 4 < b) (ha : a < 10) : ∀ (d i m : Nat) (w : ra_W), i + d = n → 2 * d + 1 ≤ m → cNet w a n T → cSt w b n (sp_giveI (T 0 2) S i) → ∃ w', fX0_giveUp k a b m 1 (nI i) w = some (0, w') ∧ cSt w' b n (sp_giveI (T 0 2) S n) ∧ pu_fs b w w' := by
  intro d
  induction d with
  | zero =>
    intro i m w hi hm hT hw
    obtain ⟨m, rfl⟩ : ∃ q, m = q + 1 := ⟨m - 1, by omega⟩
    have hin : i = n := by omega
    subst hin
    rw [fX0_giveUp_1, hT.1, if_pos (nI_le (Nat.le_refl i) (by omega))]
    exact ⟨w, rfl, hw, pu_fs_rf b w⟩
  | succ d ih =>
    intro i m w hi hm hT hw
    obtain ⟨m, rfl⟩ : ∃ q, m = q + 1 + 1 := ⟨m - 2, by omega⟩
    have hst : sp_giveI (T 0 2) S (i + 1) = sp_give1 (T 0 2) i (sp_giveI (T 0 2) S i) := rfl
    generalize sp_giveI (T 0 2) S i = Q at hw hst
    have hx := hw.2.2.1 i (by omega)
    rw [fX0_giveUp_1, hT.1, if_neg (nI_ge (by omega) (by omega)), if_pos (pu_in (by omega) (by decide)), pu_ix (by omega), hw.2.1 i (by omega)]
    by_cases h3 : Q 1 i = 3
    · have ea : ra_st w (b + 3) i (Q 2 i + 1) a 2 = T 0 2 := by rw [pu_st_ne (by omega)]; exact hT.2.2.1
      rw [if_pos h3, hx, ea, pu_st_eq]
      have hf0 : pu_fs b w (ra_st w (b + 3) i (Q 2 i + 1)) := pu_fs_st _ _ _ (by omega)
      by_cases hc : Q 2 i + 1 ≤ T 0 2
      · rw [if_pos hc, fX0_giveUp_2, nI_1]
        have e : sp_give1 (T 0 2) i Q = ra_st Q 2 i (Q 2 i + 1) := by
          unfold sp_give1
          rw [if_pos h3, if_pos hc]
        obtain ⟨w', g1, g2, g3⟩ := ih (i + 1) m _ (by omega) (by omega) (cNet_fr hT (pu_fs_fr hf0) hab ha) (by rw [hst, e]; exact cSt_2 _ _ hw)
        exact ⟨w', g1, g2, pu_fs_tr hf0 g3⟩
      · rw [if_neg hc, q4_rest hk (by omega)]
        simp only [ra_bind, fX0_giveUp_2, nI_1]
        have e : sp_give1 (T 0 2) i Q = ra_st (sp_rest (ra_st Q 2 i (Q 2 i + 1)) i) 6 2 (Q 6 2 + 1) := by
          unfold sp_give1
          rw [if_pos h3, if_neg hc]
        have h9 : ra_st (ra_st (ra_st (ra_st (ra_st w (b + 3) i (Q 2 i + 1)) (b + 2) i 0) (b + 3) i 0) (b + 4) i 0) (b + 5) i 0 b 9 = Q 6 2 := by
          rw [pu_st_ne (by omega), pu_st_ne (by omega), pu_st_ne (by omega), pu_st_ne (by omega), pu_st_ne (by omega)]
          exact hw.2.2.2.2.2.2.2.2
        have hf := pu_fs_tr (pu_fs_tr hf0 (pu_fs_rest _ i)) (pu_fs_st (b := b) (k := b) (ra_st (ra_st (ra_st (ra_st (ra_st w (b + 3) i (Q 2 i + 1)) (b + 2) i 0) (b + 3) i 0) (b + 4) i 0) (b + 5) i 0) 9 (ra_st (ra_st (ra_st (ra_st (ra_st w (b + 3) i (Q 2 i + 1)) (b + 2) i 0) (b + 3) i 0) (b + 4) i 0) (b + 5) i 0 b 9 + 1) (by omega))
        obtain ⟨w', g1, g2, g3⟩ := ih (i + 1) m _ (by omega) (by omega) (cNet_fr hT (pu_fs_fr hf) hab ha) (by rw [hst, e, h9]; exact cSt_6 2 (by decide) _ (cSt_rest _ (cSt_2 _ _ hw)))
        exact ⟨w', g1, g2, pu_fs_tr hf g3⟩
    · rw [if_neg h3, fX0_giveUp_2, nI_1]
      have e : sp_give1 (T 0 2) i Q = Q := by
        unfold sp_give1
        rw [if_neg h3]
      exact ih (i + 1) m w (by omega) (by omega) hT (by rw [hst, e]; exact hw)
theorem q0_give {k a b n : Nat} {w T S : ra_W} (hk : 30 ≤ k) (hn : n ≤ 7) (hab : a + 4 < b) (ha : a < 10) (hT : cNet w a n T) (h : cSt w b n S) : ∃ w', FX0_giveUp k a b w = some (0, w') ∧ cSt w' b n (sp_giveI (T 0 2) S n) ∧ pu_fs b w w' := by
  obtain ⟨k, rfl⟩ : ∃ q, k = q + 1 := ⟨k - 1, by omega⟩
  unfold FX0_giveUp
  rw [fX0_giveUp_0]
  exact q0_give_loop (by omega) hn hab ha n 0 k w (by omega) (by omega) hT h
