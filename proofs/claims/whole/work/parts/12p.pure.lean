/-! RANKS, LOOK -/
theorem m6_ranks_loop {k n A m0 : Nat} {T S : ra_W} {Z Y : Nat → Int32} {r : Nat} (hk : 500 ≤ k) (hr : r < n) (hm0 : m0 ≤ 6) (hv : iv n A T S) : ∀ (d q m : Nat) (w : ra_W), q + d = 4 → 2 * d + 1 ≤ m → mNet w n T → mSt w 139 n S → w 134 20 = nI m0 → w 144 = Z → w 145 = Y → ∃ w', fX6_ranks k m 1 (nI r) (nI (bn (sp_ag n T S Z Y m0 r) q)) (nI q) 0 0 w = some (nI (bn (sp_ag n T S Z Y m0 r) 4), w') ∧ fg w w' := by
  intro d
  induction d with
  | zero =>
    intro q m w hi hm hT hS hs hZ hY
    obtain ⟨m, rfl⟩ : ∃ q, m = q + 1 := ⟨m - 1, by omega⟩
    have hin : q = 4 := by omega
    subst hin
    rw [fX6_ranks_1, if_pos (by decide)]
    exact ⟨w, rfl, fg_rf w⟩
  | succ d ih =>
    intro q m w hi hm hT hS hs hZ hY
    obtain ⟨m, rfl⟩ : ∃ q, m = q + 1 + 1 := ⟨m - 2, by omega⟩
    rw [fX6_ranks_1, if_neg (show ¬ (4 : Int32) ≤ nI q from nI_ge (b := 4) (by omega) (by decide))]
    obtain ⟨w1, g1, g2⟩ := m6_onBy (k := k) (q := q) (by omega) hr hv hT hS
    have a20 : w1 134 20 = nI m0 := (g2.2 20 (by decide) (by decide)).trans hs
    have aZ : w1 144 = Z := (g2.1 144 (by decide) (by decide) (by decide) (by decide)).trans hZ
    have aY : w1 145 = Y := (g2.1 145 (by decide) (by decide) (by decide) (by decide)).trans hY
    rw [g1]
    simp only [ra_bind]
    rw [m6_agree (by omega) hm0 a20, aZ, aY]
    simp only [fX6_ranks_2, nI_1]
    have hb := pu_bns (p := sp_ag n T S Z Y m0 r) (q := q) (by omega)
    obtain ⟨w2, f1, f2⟩ := ih (q + 1) m w1 (by omega) (by omega) (mNet_fg hT g2) (mSt_fg hS g2) a20 aZ aY
    rw [hb] at f1
    refine ⟨w2, ?_, fg_tr g2 f2⟩
    rw [← f1]
    by_cases hg : pu_lst (sp_dis Z Y (sp_tm n (sp_rk T r q) S r 20 0 0)) m0 = none
    · rw [if_pos hg, if_neg (by decide), if_pos (by simpa [sp_ag] using hg)]
    · rw [if_neg hg, if_pos rfl, if_neg (by simpa [sp_ag] using hg), pu_or0]
theorem sp_ag_eq {n : Nat} {T S : ra_W} {Z Y Z' Y' : Nat → Int32} {m0 r : Nat} (h : ∀ j, j < m0 → Z j = Z' j ∧ Y j = Y' j) : sp_ag n T S Z Y m0 r = sp_ag n T S Z' Y' m0 r := by
  funext q
  unfold sp_ag
  rw [pu_lst_cong (fun j hj => by unfold sp_dis; rw [(h j hj).1, (h j hj).2])]
theorem op_ranks {k : Nat} {w : ra_W} (v : Int32) (hk : 600 ≤ k) (h : Rel w) : op2 (FX5_ranks k v) (FX6_ranks k v) w := by
  obtain ⟨k, rfl⟩ : ∃ q, k = q + 1 := ⟨k - 1, by omega⟩
  obtain ⟨n, A, T, S, t, kn, H, Ht, hc, h1, h2, hX, hI, hZ⟩ := id h
  have hn : n ≤ 7 := hc.1.1.2.2.2
  rcases q2_has (v := v) (k := k + 1) (by omega) h1.1 hn with ⟨r, hr, rfl, e⟩ | ⟨hno, e⟩
  · obtain ⟨m0, m1, m2, m3, m4⟩ := hZ
    obtain ⟨w1, f1, f2, f3⟩ := q5_fit (k := k + 1) (by omega) hr m1 hc.1 h1.1 h1.2.1 m2
    have e1 : FX5_ranks (k + 1) (nI r) w = some (nI (bn (sp_ag n T S (w 33) (w 34) m0 r) 4), w1) := by
      unfold FX5_ranks
      rw [fX5_ranks_0, e]
      simp only [ra_bind]
      rw [if_neg (by decide), f1]
    have ffz := ff_fz f3
    have h2c := mC_0 (mC_fz h2 ffz)
    have x0 : ∀ c, 133 < c → c ≠ 134 → ra_st w1 134 0 0 c = w c := fun c a b => by rw [pu_st_ne b, f3 c (by omega) (by omega) (by omega)]
    obtain ⟨w2, g1, g2⟩ := m6_ranks_loop (k := k + 1) (T := T) (S := S) (Z := w 144) (Y := w 145) (m0 := m0) (r := r) (by omega) hr m1 hc.1 4 0 k (ra_st w1 134 0 0) (by omega) (by omega) h2c.1 h2c.2.1 (by rw [pu_st, if_neg (by decide), f3 134 (by omega) (by omega) (by omega)]; exact m3) (x0 144 (by decide) (by decide)) (x0 145 (by decide) (by decide))
    have e2 : FX6_ranks (k + 1) (nI r) w1 = some (nI (bn (sp_ag n T S (w 33) (w 34) m0 r) 4), w2) := by
      rw [sp_ag_eq (fun j hj => (m4 j hj).1)]
      unfold FX6_ranks
      rw [fX6_ranks_0, (m6_isRadio (k := k + 1) (by omega) h2c.1 hn).1 r hr rfl]
      simp only [ra_bind]
      rw [if_neg (by decide)]
      exact g1
    exact op_ask h e1 e2 ffz (fg_fz (fg_tr (fg_0 w1 0) g2))
  · refine op_bad (r := -1) h ?_ ?_
    · unfold FX5_ranks
      rw [fX5_ranks_0, e]
      rfl
    · unfold FX6_ranks
      rw [fX6_ranks_0, (m6_isRadio (k := k + 1) (by omega) (mC_0 h2).1 hn).2 hno]
      rfl
/-- when to look -/
def sp_by (p : Nat → Bool) (x : Nat → Int32) (i : Nat) : Nat → Int32
  | 0 => 0
  | q + 1 => if p q = true then sp_by p x i q + ((x q >>> (nI i &&& 31)) &&& 1) else sp_by p x i q
theorem pu_and1 (x : Int32) : x &&& 1 = 0 ∨ x &&& 1 = 1 := by
  have h : (x &&& 1).toBitVec.toNat = x.toBitVec.toNat % 2 := by
    rw [Int32.toBitVec_and, BitVec.toNat_and]
    exact Nat.and_one_is_mod _
  rcases Nat.mod_two_eq_zero_or_one x.toBitVec.toNat with q | q
  · left
    apply Int32.toBitVec_inj.mp
    apply BitVec.eq_of_toNat_eq
    rw [h, q]
    rfl
  · right
    apply Int32.toBitVec_inj.mp
    apply BitVec.eq_of_toNat_eq
    rw [h, q]
    rfl
theorem sp_by_le {p : Nat → Bool} {x : Nat → Int32} {i : Nat} : ∀ q, ∃ b, b ≤ pu_cnt p q ∧ sp_by p x i q = nI b
  | 0 => ⟨0, by omega, rfl⟩
  | q + 1 => by
    obtain ⟨b, h1, h2⟩ := sp_by_le (p := p) (x := x) (i := i) q
    simp only [sp_by, pu_cnt]
    split
    · rcases pu_and1 (x q >>> (nI i &&& 31)) with z | z
      · exact ⟨b, by omega, by rw [h2, z]; grind⟩
      · exact ⟨b + 1, by omega, by rw [h2, z, nI_1]⟩
    · exact ⟨b, by omega, h2⟩
abbrev sp_gr (so : Nat → Int32) (all : Int32) (i : Nat) : Int32 := if so i < all - so i then all - so i else so i
def sp_lk (so : Nat → Int32) (all : Int32) : Nat → Nat → Int32 → Int32 → Int32
  | 0, _, b, _ => b
  | d + 1, i, b, s => if s ≤ sp_gr so all (i + 1) then sp_lk so all d (i + 1) b s else sp_lk so all d (i + 1) (nI (i + 1)) (sp_gr so all (i + 1))
theorem q5_air_loop {k : Nat} {w : ra_W} {p : Nat → Bool} {x : Nat → Int32} {i : Nat} (h35 : ∀ j, j < 4 → w 35 j = x j) : ∀ (d q m : Nat), q + d = 4 → 2 * d + 1 ≤ m → fX5_ranksOnAir k m 1 (nI (bn p 4)) (nI i) (sp_by p x i q) (nI q) w = some (sp_by p x i 4, w) := by
  intro d
  induction d with
  | zero =>
    intro q m hi hm
    obtain ⟨m, rfl⟩ : ∃ q, m = q + 1 := ⟨m - 1, by omega⟩
    have hin : q = 4 := by omega
    subst hin
    rw [fX5_ranksOnAir_1, if_pos (by decide)]
  | succ d ih =>
    intro q m hi hm
    obtain ⟨m, rfl⟩ : ∃ q, m = q + 1 + 1 := ⟨m - 2, by omega⟩
    have ihh := ih (q + 1) m (by omega) (by omega)
    simp only [sp_by] at ihh
    have hb : ((nI (bn p 4) >>> (nI q &&& 31)) &&& 1 = 1) ↔ p q = true := by
      rw [pu_has (bn_128 (by omega)) (by omega), bn_t]
      simp
      omega
    rw [fX5_ranksOnAir_1, if_neg (show ¬ (4 : Int32) ≤ nI q from nI_ge (b := 4) (by omega) (by decide)), if_pos (pu_in (by omega) (by decide)), pu_ix (by omega), h35 q (by omega), fX5_ranksOnAir_2, fX5_ranksOnAir_2, nI_1]
    by_cases hp : p q = true
    · rw [if_pos hp] at ihh
      rw [if_pos (hb.mpr hp)]
      exact ihh
    · rw [if_neg hp] at ihh
      rw [if_neg (fun z => hp (hb.mp z))]
      exact ihh
theorem q5_air {k : Nat} {w : ra_W} {p : Nat → Bool} {x : Nat → Int32} {i : Nat} (hk : 20 ≤ k) (h35 : ∀ j, j < 4 → w 35 j = x j) : FX5_ranksOnAir k (nI (bn p 4)) (nI i) w = some (sp_by p x i 4, w) := by
  obtain ⟨k, rfl⟩ : ∃ q, k = q + 1 := ⟨k - 1, by omega⟩
  unfold FX5_ranksOnAir
  rw [fX5_ranksOnAir_0]
  exact q5_air_loop h35 4 0 k (by omega) (by omega)
theorem q5_look_loop {k : Nat} {w : ra_W} {p : Nat → Bool} {x : Nat → Int32} {all : Int32} (hk : 20 ≤ k) (h35 : ∀ j, j < 4 → w 35 j = x j) : ∀ (d i m : Nat) (b s : Int32), i + d = 20 → 2 * d + 1 ≤ m → fX5_look k m 1 0 (nI (bn p 4)) all b s (nI (i + 1)) w = some (sp_lk (fun i => sp_by p x i 4) all d i b s, w) := by
  intro d
  induction d with
  | zero =>
    intro i m b s hi hm
    obtain ⟨m, rfl⟩ : ∃ q, m = q + 1 := ⟨m - 1, by omega⟩
    rw [fX5_look_1, if_pos (show (20 : Int32) < nI (i + 1) from nI_lt (a := 20) (by omega) (by omega))]
    rfl
  | succ d ih =>
    intro i m b s hi hm
    obtain ⟨m, rfl⟩ : ∃ q, m = q + 1 + 1 := ⟨m - 2, by omega⟩
    rw [fX5_look_1, if_neg (show ¬ (20 : Int32) < nI (i + 1) from nI_nlt (a := 20) (by omega) (by decide)), q5_air hk h35]
    simp only [ra_bind, fX5_look_2, nI_1, sp_lk]
    have ih1 := ih (i + 1) m b s (by omega) (by omega)
    have ih2 := ih (i + 1) m (nI (i + 1)) (sp_gr (fun i => sp_by p x i 4) all (i + 1)) (by omega) (by omega)
    by_cases hc : s ≤ sp_gr (fun i => sp_by p x i 4) all (i + 1)
    · rw [if_pos hc, if_pos hc]
      exact ih1
    · rw [if_neg hc, if_neg hc]
      exact ih2
theorem sp_gr_le {so : Nat → Int32} {all : Int32} {i : Nat} : (if so i ≤ all - so i then all - so i else so i) = sp_gr so all i := by
  unfold sp_gr
  by_cases h : so i < all - so i
  · rw [if_pos h, if_pos (Int32.le_of_lt h)]
  · rw [if_neg h]
    by_cases h2 : so i ≤ all - so i
    · rw [if_pos h2]
      exact Int32.le_antisymm (Int32.not_lt.mp h) h2
    · rw [if_neg h2]
theorem m6_look5 {k : Nat} {w : ra_W} {so : Nat → Int32} {all : Int32} (h1 : ¬ all ≤ 1) (h148 : ∀ i, 1 ≤ i → i ≤ 20 → w 148 i = so i) : ∀ (d i m : Nat) (b s : Int32), i + d = 20 → 4 * d + 1 ≤ m → fX6_look k m 5 0 all b s (nI (i + 1)) 0 0 w = some (sp_lk so all d i b s, w) := by
  intro d
  induction d with
  | zero =>
    intro i m b s hi hm
    obtain ⟨m, rfl⟩ : ∃ q, m = q + 1 := ⟨m - 1, by omega⟩
    rw [fX6_look_5, if_pos (show (21 : Int32) ≤ nI (i + 1) from nI_le (a := 21) (by omega) (by omega))]
    rfl
  | succ d ih =>
    intro i m b s hi hm
    obtain ⟨m, rfl⟩ : ∃ q, m = q + 1 + 1 + 1 + 1 := ⟨m - 4, by omega⟩
    rw [fX6_look_5, if_neg (show ¬ (21 : Int32) ≤ nI (i + 1) from nI_ge (b := 21) (by omega) (by decide)), if_neg h1, if_pos (pu_in (by omega) (by decide)), pu_ix (by omega), h148 (i + 1) (by omega) (by omega)]
    have hgo : (if so (i + 1) ≤ all - so (i + 1) then fX6_look k (m + 1 + 1 + 1) 6 0 all b s (nI (i + 1)) 0 (all - so (i + 1)) w else fX6_look k (m + 1 + 1 + 1) 6 0 all b s (nI (i + 1)) 0 (so (i + 1)) w) = fX6_look k (m + 1 + 1 + 1) 6 0 all b s (nI (i + 1)) 0 (sp_gr so all (i + 1)) w := by
      rw [← sp_gr_le]
      by_cases q : so (i + 1) ≤ all - so (i + 1)
      · rw [if_pos q, if_pos q]
      · rw [if_neg q, if_neg q]
    rw [hgo, fX6_look_6, fX6_look_7, fX6_look_7]
    simp only [fX6_look_8, nI_1, sp_lk]
    have ih1 := ih (i + 1) m b s (by omega) (by omega)
    have ih2 := ih (i + 1) m (nI (i + 1)) (sp_gr so all (i + 1)) (by omega) (by omega)
    by_cases hc : s ≤ sp_gr so all (i + 1)
    · rw [if_pos hc, if_pos hc, if_pos hc]
      exact ih1
    · rw [if_neg hc, if_neg hc, if_neg hc]
      exact ih2
theorem m6_look3 {k : Nat} {v a b y : Int32} {w0 : ra_W} : ∀ (d i m : Nat) (w : ra_W), i + d = 21 → 1 ≤ i → (∀ j, w 148 j = if 1 ≤ j ∧ j < i then w0 148 j + ((y >>> (nI j &&& 31)) &&& 1) else w0 148 j) → (∀ c, c ≠ 148 → w c = w0 c) → d + 1 ≤ m → ∃ (m' : Nat) (w' : ra_W), m = m' + d + 1 ∧ fX6_look k m 3 v a b y (nI i) 0 0 w = fX6_look k m' 4 v a b 0 0 0 0 w' ∧ (∀ j, 1 ≤ j → j ≤ 20 → w' 148 j = w0 148 j + ((y >>> (nI j &&& 31)) &&& 1)) ∧ (∀ c, c ≠ 148 → w' c = w0 c) := by
  intro d
  induction d with
  | zero =>
    intro i m w hi hi1 h1 h2 hm
    obtain ⟨m, rfl⟩ : ∃ q, m = q + 1 := ⟨m - 1, by omega⟩
    have hin : i = 21 := by omega
    subst hin
    rw [fX6_look_3, if_pos (by decide)]
    exact ⟨m, w, by omega, rfl, fun j a b => by rw [h1, if_pos (by omega)], h2⟩
  | succ d ih =>
    intro i m w hi hi1 h1 h2 hm
    obtain ⟨m, rfl⟩ : ∃ q, m = q + 1 := ⟨m - 1, by omega⟩
    rw [fX6_look_3, if_neg (show ¬ (21 : Int32) ≤ nI i from nI_ge (b := 21) (by omega) (by decide)), if_pos (pu_in (by omega) (by decide)), pu_ix (by omega), nI_1]
    obtain ⟨m', w', g0, g1, g2, g3⟩ := ih (i + 1) m (ra_st w 148 i (w 148 i + ((y >>> (nI i &&& 31)) &&& 1))) (by omega) (by omega) (fun j => by
      rw [pu_st, h1 i, if_neg (show ¬ (1 ≤ i ∧ i < i) by omega), h1 j]
      by_cases e : j = i
      · subst e
        rw [if_pos ⟨rfl, rfl⟩, if_pos (by omega)]
      · rw [if_neg (fun z => e z.2)]
        by_cases q : 1 ≤ j ∧ j < i
        · rw [if_pos q, if_pos (by omega)]
        · rw [if_neg q, if_neg (by omega)]) (fun c a => by rw [pu_st_ne a]; exact h2 c a) (by omega)
    exact ⟨m', w', by omega, g1, g2, g3⟩
theorem m6_look1 {k : Nat} {v : Int32} : ∀ (d i m : Nat) (w : ra_W), i + d = 21 → (∀ j, j < i → w 148 j = 0) → d + 1 ≤ m → ∃ (m' : Nat) (w' : ra_W), m = m' + d + 1 ∧ fX6_look k m 1 v (nI i) 0 0 0 0 0 w = fX6_look k m' 2 v 0 0 0 0 0 0 w' ∧ (∀ j, j < 21 → w' 148 j = 0) ∧ (∀ c, c ≠ 148 → w' c = w c) := by
  intro d
  induction d with
  | zero =>
    intro i m w hi h1 hm
    obtain ⟨m, rfl⟩ : ∃ q, m = q + 1 := ⟨m - 1, by omega⟩
    have hin : i = 21 := by omega
    subst hin
    rw [fX6_look_1, if_pos (by decide)]
    exact ⟨m, w, by omega, rfl, h1, fun _ _ => rfl⟩
  | succ d ih =>
    intro i m w hi h1 hm
    obtain ⟨m, rfl⟩ : ∃ q, m = q + 1 := ⟨m - 1, by omega⟩
    rw [fX6_look_1, if_neg (show ¬ (21 : Int32) ≤ nI i from nI_ge (b := 21) (by omega) (by decide)), if_pos (pu_in (by omega) (by decide)), pu_ix (by omega), nI_1]
    obtain ⟨m', w', g0, g1, g2, g3⟩ := ih (i + 1) m (ra_st w 148 i 0) (by omega) (fun j hj => by
      rw [pu_st]
      by_cases e : j = i
      · rw [if_pos ⟨rfl, e⟩]
      · rw [if_neg (fun z => e z.2)]
        exact h1 j (by omega)) (by omega)
    exact ⟨m', w', by omega, g1, g2, fun c a => (g3 c a).trans (pu_st_ne a)⟩
/-- as fg, and the row by[] -/
def fh (w w' : ra_W) : Prop := (∀ c, c ≠ 134 → c ≠ 140 → c ≠ 146 → c ≠ 147 → c ≠ 148 → w' c = w c) ∧ ∀ i, i ≠ 0 → i ≠ 22 → w' 134 i = w 134 i
theorem fh_rf (w : ra_W) : fh w w := ⟨fun _ _ _ _ _ _ => rfl, fun _ _ _ => rfl⟩
theorem fh_tr {w w1 w2 : ra_W} (h1 : fh w w1) (h2 : fh w1 w2) : fh w w2 := ⟨fun c a b d e f => (h2.1 c a b d e f).trans (h1.1 c a b d e f), fun i a b => (h2.2 i a b).trans (h1.2 i a b)⟩
theorem fh_fg {w w' : ra_W} (h : fg w w') : fh w w' := ⟨fun c a b d e _ => h.1 c a b d e, h.2⟩
theorem fh_148 {w w' : ra_W} (h : ∀ c, c ≠ 148 → w' c = w c) : fh w w' := ⟨fun c _ _ _ _ a => h c a, fun i _ _ => by rw [h 134 (by decide)]⟩
theorem fh_fz {w w' : ra_W} (h : fh w w') : fz w w' := ⟨fun c _ _ _ _ a _ _ b d e f => h.1 c a b d e f, by rw [h.1 1 (by decide) (by decide) (by decide) (by decide) (by decide)], h.2 2 (by decide) (by decide), h.2 15 (by decide) (by decide), h.2 20 (by decide) (by decide)⟩
/-- the four ranks: how many fit, and how often they are on -/
theorem m6_look2 {k n A m0 : Nat} {T S : ra_W} {Z Y : Nat → Int32} {r : Nat} (hk : 500 ≤ k) (hr : r < n) (hm0 : m0 ≤ 6) (hv : iv n A T S) : ∀ (d q m : Nat) (w : ra_W), q + d = 4 → 25 * d + 10 ≤ m → mNet w n T → mSt w 139 n S → w 134 20 = nI m0 → w 144 = Z → w 145 = Y → (∀ i, 1 ≤ i → i ≤ 20 → w 148 i = sp_by (sp_ag n T S Z Y m0 r) (fun q => sp_tm n (sp_rk T r q) S r 20 0 0) i q) → ∃ (m' : Nat) (w' : ra_W), m ≤ m' + 25 * d + 1 ∧ fX6_look k m 2 (nI r) (nI (pu_cnt (sp_ag n T S Z Y m0 r) q)) (nI q) 0 0 0 0 w = fX6_look k m' 5 0 (nI (pu_cnt (sp_ag n T S Z Y m0 r) 4)) (-9) 99 1 0 0 w' ∧ (∀ i, 1 ≤ i → i ≤ 20 → w' 148 i = sp_by (sp_ag n T S Z Y m0 r) (fun q => sp_tm n (sp_rk T r q) S r 20 0 0) i 4) ∧ fh w w' := by
  intro d
  induction d with
  | zero =>
    intro q m w hi hm hT hS hs hZ hY hb
    obtain ⟨m, rfl⟩ : ∃ q, m = q + 1 := ⟨m - 1, by omega⟩
    have hin : q = 4 := by omega
    subst hin
    rw [fX6_look_2, if_pos (by decide)]
    exact ⟨m, w, by omega, rfl, hb, fh_rf w⟩
  | succ d ih =>
    intro q m w hi hm hT hS hs hZ hY hb
    obtain ⟨m, rfl⟩ : ∃ q, m = q + 1 := ⟨m - 1, by omega⟩
    rw [fX6_look_2, if_neg (show ¬ (4 : Int32) ≤ nI q from nI_ge (b := 4) (by omega) (by decide))]
    obtain ⟨w1, g1, g2⟩ := m6_onBy (k := k) (q := q) (by omega) hr hv hT hS
    have a20 : w1 134 20 = nI m0 := (g2.2 20 (by decide) (by decide)).trans hs
    have aZ : w1 144 = Z := (g2.1 144 (by decide) (by decide) (by decide) (by decide)).trans hZ
    have aY : w1 145 = Y := (g2.1 145 (by decide) (by decide) (by decide) (by decide)).trans hY
    have a148 : w1 148 = w 148 := g2.1 148 (by decide) (by decide) (by decide) (by decide)
    rw [g1]
    simp only [ra_bind]
    rw [m6_agree (by omega) hm0 a20, aZ, aY]
    simp only [fX6_look_4, nI_1]
    by_cases hg : pu_lst (sp_dis Z Y (sp_tm n (sp_rk T r q) S r 20 0 0)) m0 = none
    · have hp : sp_ag n T S Z Y m0 r q = true := by simpa [sp_ag] using hg
      rw [if_pos hg, if_neg (by decide)]
      obtain ⟨m1, w2, c0, c1, c2, c3⟩ := m6_look3 (k := k) (v := nI r) (a := nI (pu_cnt (sp_ag n T S Z Y m0 r) q + 1)) (b := nI q) (y := sp_tm n (sp_rk T r q) S r 20 0 0) (w0 := w1) 20 1 m w1 (by omega) (by omega) (fun j => by rw [if_neg (by omega)]) (fun _ _ => rfl) (by omega)
      obtain ⟨m1, rfl⟩ : ∃ q, m1 = q + 1 := ⟨m1 - 1, by omega⟩
      have c1 : fX6_look k m 3 (nI r) (nI (pu_cnt (sp_ag n T S Z Y m0 r) q + 1)) (nI q) (sp_tm n (sp_rk T r q) S r 20 0 0) 1 0 0 w1 = _ := c1
      rw [c1, fX6_look_4, nI_1]
      have f2 : fh w w2 := fh_tr (fh_fg g2) (fh_148 c3)
      have ecnt : pu_cnt (sp_ag n T S Z Y m0 r) (q + 1) = pu_cnt (sp_ag n T S Z Y m0 r) q + 1 := by
        simp only [pu_cnt]
        rw [if_pos hp]
      obtain ⟨m', w', p0, p1, p2, p3⟩ := ih (q + 1) m1 w2 (by omega) (by omega) (mNet_x hT (f2.1 136 (by decide) (by decide) (by decide) (by decide) (by decide))) (mSt_x hS (f2.1 139 (by decide) (by decide) (by decide) (by decide) (by decide))) ((f2.2 20 (by decide) (by decide)).trans hs) ((f2.1 144 (by decide) (by decide) (by decide) (by decide) (by decide)).trans hZ) ((f2.1 145 (by decide) (by decide) (by decide) (by decide) (by decide)).trans hY) (fun i h1 h2 => by
        rw [c2 i h1 h2, a148, hb i h1 h2]
        simp only [sp_by]
        rw [if_pos hp])
      rw [ecnt] at p1
      exact ⟨m', w', by omega, p1, p2, fh_tr f2 p3⟩
    · have hp : ¬ sp_ag n T S Z Y m0 r q = true := by simpa [sp_ag] using hg
      rw [if_neg hg, if_pos rfl]
      obtain ⟨m, rfl⟩ : ∃ q, m = q + 1 := ⟨m - 1, by omega⟩
      rw [fX6_look_4, nI_1]
      have ecnt : pu_cnt (sp_ag n T S Z Y m0 r) (q + 1) = pu_cnt (sp_ag n T S Z Y m0 r) q := by
        simp only [pu_cnt]
        rw [if_neg hp, Nat.add_zero]
      obtain ⟨m', w', p0, p1, p2, p3⟩ := ih (q + 1) m w1 (by omega) (by omega) (mNet_fg hT g2) (mSt_fg hS g2) a20 aZ aY (fun i h1 h2 => by
        rw [a148, hb i h1 h2]
        simp only [sp_by]
        rw [if_neg hp])
      rw [ecnt] at p1
      exact ⟨m', w', by omega, p1, p2, fh_tr (fh_fg g2) p3⟩
theorem sp_lk_s {so : Nat → Int32} {all : Int32} (d i : Nat) (b s : Int32) : sp_lk so all (d + 1) i b s = if s ≤ sp_gr so all (i + 1) then sp_lk so all d (i + 1) b s else sp_lk so all d (i + 1) (nI (i + 1)) (sp_gr so all (i + 1)) := rfl
theorem sp_lk_first {so : Nat → Int32} {c : Nat} (d : Nat) (hc : c ≤ 4) (h : ∃ b, b ≤ c ∧ so 1 = nI b) : sp_lk so (nI c) (d + 1) 0 (-9) 5 = sp_lk so (nI c) (d + 1) 0 (-9) 99 := by
  obtain ⟨b, hb, e⟩ := h
  have hg : ∃ g, g ≤ 4 ∧ sp_gr so (nI c) 1 = nI g := by
    unfold sp_gr
    rw [e, pk_sub hb]
    split
    · exact ⟨c - b, by omega, rfl⟩
    · exact ⟨b, by omega, rfl⟩
  obtain ⟨g, g1, g2⟩ := hg
  rw [sp_lk_s, sp_lk_s, show (0 + 1 : Nat) = 1 from rfl, g2, if_neg (show ¬ (5 : Int32) ≤ nI g from nI_ge (b := 5) (by omega) (by decide)), if_neg (show ¬ (99 : Int32) ≤ nI g from nI_ge (b := 99) (by omega) (by decide))]
theorem op_look {k : Nat} {w : ra_W} (v : Int32) (hk : 1000 ≤ k) (h : Rel w) : op2 (FX5_look k v) (FX6_look k v) w := by
  obtain ⟨k, rfl⟩ : ∃ q, k = q + 1 := ⟨k - 1, by omega⟩
  obtain ⟨n, A, T, S, t, kn, H, Ht, hc, h1, h2, hX, hI, hZ⟩ := id h
  have hn : n ≤ 7 := hc.1.1.2.2.2
  rcases q2_has (v := v) (k := k + 1) (by omega) h1.1 hn with ⟨r, hr, rfl, e⟩ | ⟨hno, e⟩
  · obtain ⟨m0, m1, m2, m3, m4⟩ := hZ
    obtain ⟨w1, f1, f2, f3⟩ := q5_fit (k := k + 1) (by omega) hr m1 hc.1 h1.1 h1.2.1 m2
    have hag := sp_ag_eq (n := n) (T := T) (S := S) (r := r) (fun j hj => (m4 j hj).1)
    have hcnt := pu_cnt_le (sp_ag n T S (w 33) (w 34) m0 r) 4
    have hbc := qj_bitCount (k := k + 1) (a := bn (sp_ag n T S (w 33) (w 34) m0 r) 4) (w := w1) (by omega) (bn_128 (by omega))
    rw [pu_pop_bn (by omega)] at hbc
    generalize hp : sp_ag n T S (w 33) (w 34) m0 r = p at f1 hcnt hbc
    have e1 : FX5_look (k + 1) (nI r) w = some (if 1 < pu_cnt p 4 then sp_lk (fun i => sp_by p (fun q => sp_tm n (sp_rk T r q) S r 20 0 0) i 4) (nI (pu_cnt p 4)) 20 0 (-9) 5 else -9, w1) := by
      unfold FX5_look
      rw [fX5_look_0, e]
      simp only [ra_bind]
      rw [if_neg (by decide), f1]
      simp only []
      rw [hbc]
      simp only []
      by_cases hq : 1 < pu_cnt p 4
      · rw [if_pos (show (1 : Int32) < nI (pu_cnt p 4) from nI_lt (a := 1) hq (by omega)), if_pos hq]
        exact q5_look_loop (by omega) f2 20 0 k (-9) 5 (by omega) (by omega)
      · rw [if_neg (show ¬ (1 : Int32) < nI (pu_cnt p 4) from nI_nlt (a := 1) (by omega) (by decide)), if_neg hq]
    have ffz := ff_fz f3
    have h2c := mC_0 (mC_fz h2 ffz)
    have x0 : ∀ c, 133 < c → c ≠ 134 → ra_st w1 134 0 0 c = w c := fun c a b => by rw [pu_st_ne b, f3 c (by omega) (by omega) (by omega)]
    obtain ⟨mm, w2, c0, c1, c2, c3⟩ := m6_look1 (k := k + 1) (v := nI r) 21 0 k (ra_st w1 134 0 0) (by omega) (fun j hj => absurd hj (by omega)) (by omega)
    have fx : fh (ra_st w1 134 0 0) w2 := fh_148 c3
    obtain ⟨m', w3, p0, p1, p2, p3⟩ := m6_look2 (k := k + 1) (T := T) (S := S) (Z := w 144) (Y := w 145) (m0 := m0) (r := r) (by omega) hr m1 hc.1 4 0 mm w2 (by omega) (by omega) (mNet_x h2c.1 (c3 136 (by decide))) (mSt_x h2c.2.1 (c3 139 (by decide))) (by rw [c3 134 (by decide), pu_st, if_neg (by decide), f3 134 (by omega) (by omega) (by omega)]; exact m3) ((c3 144 (by decide)).trans (x0 144 (by decide) (by decide))) ((c3 145 (by decide)).trans (x0 145 (by decide) (by decide))) (fun i a b => c2 i (by omega))
    rw [← hag, hp] at p1 p2
    have e2 : FX6_look (k + 1) (nI r) w1 = some (if 1 < pu_cnt p 4 then sp_lk (fun i => sp_by p (fun q => sp_tm n (sp_rk T r q) S r 20 0 0) i 4) (nI (pu_cnt p 4)) 20 0 (-9) 5 else -9, w3) := by
      unfold FX6_look
      rw [fX6_look_0, (m6_isRadio (k := k + 1) (by omega) h2c.1 hn).1 r hr rfl]
      simp only [ra_bind]
      rw [if_neg (by decide)]
      refine c1.trans (p1.trans ?_)
      by_cases hq : 1 < pu_cnt p 4
      · rw [if_pos hq, sp_lk_first 19 hcnt (sp_by_le 4)]
        exact m6_look5 (show ¬ nI (pu_cnt p 4) ≤ 1 from nI_ge (a := 1) (by omega) (by omega)) p2 20 0 m' (-9) 99 (by omega) (by omega)
      · obtain ⟨m', rfl⟩ : ∃ q, m' = q + 1 := ⟨m' - 1, by omega⟩
        rw [if_neg hq, fX6_look_5, if_neg (by decide), if_pos (show nI (pu_cnt p 4) ≤ 1 from nI_le (b := 1) (by omega) (by decide))]
    exact op_ask h e1 e2 ffz (fh_fz (fh_tr (fh_fg (fg_0 w1 0)) (fh_tr fx p3)))
  · refine op_bad (r := -1) h ?_ ?_
    · unfold FX5_look
      rw [fX5_look_0, e]
      rfl
    · unfold FX6_look
      rw [fX6_look_0, (m6_isRadio (k := k + 1) (by omega) (mC_0 h2).1 hn).2 hno]
      rfl
