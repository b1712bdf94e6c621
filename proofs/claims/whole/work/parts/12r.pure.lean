/-! EUCLID -/
theorem nI_mod {a b : Nat} (ha : a < 2 ^ 31) (hb : 0 < b) (hb2 : b < 2 ^ 31) : nI a - nI a / nI b * nI b = nI (a % b) := by
  have hd : a / b ≤ a := Nat.div_le_self a b
  have h1 : nI a / nI b = nI (a / b) := by
    apply Int32.toInt_inj.mp
    rw [Int32.toInt_div, nI_toInt ha, nI_toInt hb2, nI_toInt (by omega), Int.tdiv_eq_ediv_of_nonneg (by omega), Int.bmod_eq_of_le]
    · exact (Int.natCast_ediv a b).symm
    · have : (0 : Int) ≤ (a : Int) / (b : Int) := Int.ediv_nonneg (by omega) (by omega)
      omega
    · have : (a : Int) / (b : Int) = ((a / b : Nat) : Int) := (Int.natCast_ediv a b).symm
      rw [this]
      omega
  have hm : a / b * b ≤ a := Nat.div_mul_le_self a b
  rw [h1, nI_mul, pk_sub hm]
  congr 1
  have := Nat.div_add_mod a b
  rw [Nat.mul_comm] at this
  omega
theorem gcd_step (a b : Nat) : Nat.gcd b (a % b) = Nat.gcd a b := by
  rw [Nat.gcd_comm a b, Nat.gcd_rec b a, Nat.gcd_comm]
theorem mod_half {b r : Nat} (hr : 0 < r) (hb : r < b) : 2 * (b % r) < b := by
  have h1 := Nat.mod_lt b hr
  have h2 := Nat.div_add_mod b r
  have h3 : 1 ≤ b / r := (Nat.le_div_iff_mul_le hr).mpr (by omega)
  have h4 : r * 1 ≤ r * (b / r) := Nat.mul_le_mul_left r h3
  omega
theorem q5_gcd_loop {k : Nat} {w : ra_W} : ∀ (s a b st m : Nat), b < 2 ^ s → a < 2 ^ 31 → b < 2 ^ 31 → st + 2 * s ≤ 62 → 2 * s + 3 ≤ m → fX5_commonDivisor k m 1 0 0 (nI a) (nI b) (nI st) w = some (if 1 < nI (Nat.gcd a b) then nI (Nat.gcd a b) else 1, w) := by
  have fin : ∀ (a st m : Nat), st ≤ 63 → 2 ≤ m → fX5_commonDivisor k m 1 0 0 (nI a) 0 (nI st) w = some (if 1 < nI (Nat.gcd a 0) then nI (Nat.gcd a 0) else 1, w) := by
    intro a st m hst hm
    obtain ⟨m, rfl⟩ : ∃ q, m = q + 1 + 1 := ⟨m - 2, by omega⟩
    rw [fX5_commonDivisor_1, if_neg (show ¬ (64 : Int32) ≤ nI st from nI_ge (b := 64) (by omega) (by decide)), if_pos rfl, fX5_commonDivisor_2, Nat.gcd_zero_right]
  intro s
  induction s with
  | zero =>
    intro a b st m hb ha hb2 hst hm
    have : b = 0 := by simpa using hb
    subst this
    exact fin a st m (by omega) (by omega)
  | succ s ih =>
    intro a b st m hb ha hb2 hst hm
    rcases Nat.eq_zero_or_pos b with z | z
    · subst z
      exact fin a st m (by omega) (by omega)
    · obtain ⟨m, rfl⟩ : ∃ q, m = q + 1 := ⟨m - 1, by omega⟩
      have hne : ¬ nI b = 0 := nI_ne0 z hb2
      have hr := Nat.mod_lt a z
      rw [fX5_commonDivisor_1, if_neg (show ¬ (64 : Int32) ≤ nI st from nI_ge (b := 64) (by omega) (by decide)), if_neg hne, if_pos hne, nI_mod ha z hb2, nI_1, ← gcd_step a b]
      rcases Nat.eq_zero_or_pos (a % b) with y | y
      · rw [y]
        exact fin b (st + 1) m (by omega) (by omega)
      · obtain ⟨m, rfl⟩ : ∃ q, m = q + 1 := ⟨m - 1, by omega⟩
        have hne2 : ¬ nI (a % b) = 0 := nI_ne0 y (by omega)
        have hh := mod_half y hr
        have hp : 2 ^ (s + 1) = 2 * 2 ^ s := by rw [Nat.pow_succ, Nat.mul_comm]
        rw [fX5_commonDivisor_1, if_neg (show ¬ (64 : Int32) ≤ nI (st + 1) from nI_ge (b := 64) (by omega) (by decide)), if_neg hne2, if_pos hne2, nI_mod hb2 y (by omega), nI_1, ← gcd_step b (a % b)]
        exact ih (a % b) (b % (a % b)) (st + 1 + 1) m (by omega) (by omega) (by omega) (by omega) (by omega)
theorem q5_gcd {k a b : Nat} {w : ra_W} (hk : 100 ≤ k) (ha : a < 2 ^ 31) (hb : b < 2 ^ 24) : FX5_commonDivisor k (nI a) (nI b) w = some (if 1 < nI (Nat.gcd a b) then nI (Nat.gcd a b) else 1, w) := by
  obtain ⟨k, rfl⟩ : ∃ q, k = q + 1 := ⟨k - 1, by omega⟩
  unfold FX5_commonDivisor
  rw [fX5_commonDivisor_0]
  exact q5_gcd_loop 24 a b 0 k hb ha (by omega) (by omega) (by omega)
theorem m6_gcd_loop {k : Nat} {w : ra_W} : ∀ (s a b m : Nat), b < 2 ^ s → a < 2 ^ 31 → b < 2 ^ 31 → 2 * s + 3 ≤ m → fX6_gcd k m 1 0 0 (nI a) (nI b) w = some (nI (Nat.gcd a b), w) := by
  have fin : ∀ (a m : Nat), 2 ≤ m → fX6_gcd k m 1 0 0 (nI a) 0 w = some (nI (Nat.gcd a 0), w) := by
    intro a m hm
    obtain ⟨m, rfl⟩ : ∃ q, m = q + 1 := ⟨m - 1, by omega⟩
    rw [fX6_gcd_1, if_pos rfl, Nat.gcd_zero_right]
  intro s
  induction s with
  | zero =>
    intro a b m hb ha hb2 hm
    have : b = 0 := by simpa using hb
    subst this
    exact fin a m (by omega)
  | succ s ih =>
    intro a b m hb ha hb2 hm
    rcases Nat.eq_zero_or_pos b with z | z
    · subst z
      exact fin a m (by omega)
    · obtain ⟨m, rfl⟩ : ∃ q, m = q + 1 := ⟨m - 1, by omega⟩
      have hne : ¬ nI b = 0 := nI_ne0 z hb2
      have hr := Nat.mod_lt a z
      rw [fX6_gcd_1, if_neg hne, if_pos hne, nI_mod ha z hb2, ← gcd_step a b]
      rcases Nat.eq_zero_or_pos (a % b) with y | y
      · rw [y]
        exact fin b m (by omega)
      · obtain ⟨m, rfl⟩ : ∃ q, m = q + 1 := ⟨m - 1, by omega⟩
        have hne2 : ¬ nI (a % b) = 0 := nI_ne0 y (by omega)
        have hh := mod_half y hr
        have hp : 2 ^ (s + 1) = 2 * 2 ^ s := by rw [Nat.pow_succ, Nat.mul_comm]
        rw [fX6_gcd_1, if_neg hne2, if_pos hne2, nI_mod hb2 y (by omega), ← gcd_step b (a % b)]
        exact ih (a % b) (b % (a % b)) m (by omega) (by omega) (by omega) (by omega)
theorem m6_gcd {k a b : Nat} {w : ra_W} (hk : 100 ≤ k) (ha : a < 2 ^ 31) (hb : b < 2 ^ 24) : FX6_gcd k (nI a) (nI b) w = some (nI (Nat.gcd a b), w) := by
  obtain ⟨k, rfl⟩ : ∃ q, k = q + 1 := ⟨k - 1, by omega⟩
  unfold FX6_gcd
  rw [fX6_gcd_0]
  exact m6_gcd_loop 24 a b k hb ha (by omega) (by omega)
/-! THE SETS -/
def sp_od (n : Nat) (T S : ra_W) (r N : Nat) (x : Int32) (y : Nat) : Int32 := (if y = 0 then sp_up n T S r N x (2 ^ n) else ipw 10 (pu_cnt (sp_ot S r) n)) / nI (Nat.gcd (ra_ix (sp_up n T S r N x (2 ^ n))) (10 ^ pu_cnt (sp_ot S r) n))
theorem pu_2n {n : Nat} (hn : n ≤ 7) : 2 ^ n ≤ 128 := show 2 ^ n ≤ 2 ^ 7 from Nat.pow_le_pow_right (by decide) hn
theorem pu_10 {c : Nat} (hc : c ≤ 7) : 10 ^ c ≤ 10000000 := show 10 ^ c ≤ 10 ^ 7 from Nat.pow_le_pow_right (by decide) hc
theorem pu_lt24 {c : Nat} (hc : c ≤ 7) : 10 ^ c < 2 ^ 24 := Nat.lt_of_le_of_lt (pu_10 hc) (by decide)
theorem q5_sets_loop {k n A : Nat} {T S : ra_W} {r N x y : Nat} (hk : 300 ≤ k) (hr : r < n) (hN : N ≤ 20) (hx : x ≤ 10) (hy : y ≤ 1) (hv : iv n A T S) : ∀ (d q m : Nat) (w : ra_W), q + d = 2 ^ n → 2 * d + 2 ≤ m → cNet w 3 n T → cSt w 16 n S → ∃ w', fX5_odds k m 1 (nI x) (nI r) (nI N) (nI y) (nI (bn (sp_ot S r) n)) (sp_up n T S r N (nI x) q) (nI q) 0 0 w = some (sp_od n T S r N (nI x) y, w') ∧ ff w w' := by
  have hn : n ≤ 7 := hv.1.2.2.2
  have h2 := pu_2n hn
  have hc7 : pu_cnt (sp_ot S r) n ≤ 7 := Nat.le_trans (pu_cnt_le _ n) hn
  intro d
  induction d with
  | zero =>
    intro q m w hi hm hT hS
    obtain ⟨m, rfl⟩ : ∃ q, m = q + 1 + 1 := ⟨m - 2, by omega⟩
    have hin : q = 2 ^ n := by omega
    subst hin
    obtain ⟨U, u1, u2⟩ := sp_up_n (T := T) (S := S) (r := r) (N := N) hx hn (2 ^ n)
    have u3 : U < 2 ^ 31 := by omega
    rw [fX5_odds_1, hT.1, pu_shln (by omega), if_pos (nI_le (Nat.le_refl _) (by omega)), qj_bitCount (by omega) (bn_128 hn)]
    simp only [ra_bind]
    rw [pu_pop_bn hn, q5_power (by omega) hc7]
    simp only []
    rw [u2, show ipw 10 (pu_cnt (sp_ot S r) n) = nI (10 ^ pu_cnt (sp_ot S r) n) from ipw_n (x := 10) _, q5_gcd (by omega) u3 (pu_lt24 hc7)]
    simp only []
    unfold sp_od
    rw [u2, pu_ix u3, show ipw 10 (pu_cnt (sp_ot S r) n) = nI (10 ^ pu_cnt (sp_ot S r) n) from ipw_n (x := 10) _]
    have hg0 : 0 < Nat.gcd U (10 ^ pu_cnt (sp_ot S r) n) := Nat.gcd_pos_of_pos_right _ (Nat.pow_pos (by decide))
    have hg1 : Nat.gcd U (10 ^ pu_cnt (sp_ot S r) n) < 2 ^ 31 := Nat.lt_of_le_of_lt (Nat.gcd_le_right _ (Nat.pow_pos (by decide))) (Nat.lt_trans (pu_lt24 hc7) (by decide))
    generalize Nat.gcd U (10 ^ pu_cnt (sp_ot S r) n) = g at hg0 hg1
    have eg : (if 1 < nI g then nI g else 1) = nI g := by
      rcases Nat.lt_or_ge 1 g with z | z
      · rw [if_pos (show (1 : Int32) < nI g from nI_lt (a := 1) z hg1)]
      · rw [show g = 1 by omega]
        rfl
    rw [eg, fX5_odds_3, fX5_odds_3, if_pos (nI_ne0 hg0 hg1), if_pos (nI_ne0 hg0 hg1)]
    refine ⟨w, ?_, ff_rf w⟩
    rcases (show y = 0 ∨ y = 1 by omega) with rfl | rfl
    · rw [if_pos (by decide), if_pos rfl]
    · rw [if_neg (by decide), if_neg (by decide)]
  | succ d ih =>
    intro q m w hi hm hT hS
    obtain ⟨m, rfl⟩ : ∃ q, m = q + 1 + 1 := ⟨m - 2, by omega⟩
    have hq : q < 2 ^ n := by omega
    have hstep : sp_up n T S r N (nI x) (q + 1) = if sp_sb (sp_ot S r) n q ∧ sp_tq n T S r N q = true then sp_up n T S r N (nI x) q + wt (nI x) (sp_ot S r) (fun i => q.testBit i) n else sp_up n T S r N (nI x) q := rfl
    rw [fX5_odds_1, hT.1, pu_shln (by omega), if_neg (nI_ge hq (by omega)), qj_bitCount (by omega) (by omega)]
    simp only [ra_bind]
    by_cases hs : sp_sb (sp_ot S r) n q
    · have hsub := pu_sub hn (by omega) hs
      have hp1 := pu_pop_q hn hq hsub
      have hp2 := pu_pop_o (q := q) (P := sp_ot S r) hn
      have hsum := pu_cnt_sum (P := sp_ot S r) (Q := fun i => q.testBit i) n
      have hw : wt (nI x) (sp_ot S r) (fun i => q.testBit i) n = ipw (nI x) (pu_cnt (fun i => sp_ot S r i && q.testBit i) n) * ipw (10 - nI x) (pu_cnt (fun i => sp_ot S r i && !(q.testBit i)) n) := rfl
      rw [if_pos hs, hp1, q5_power (by omega) (by omega)]
      simp only []
      rw [pu_andn (bn_128 hn), qj_bitCount (by omega) (Nat.lt_of_le_of_lt Nat.and_le_left (bn_128 hn))]
      simp only []
      rw [hp2, q5_power (by omega) (by omega)]
      simp only []
      rw [← hw]
      obtain ⟨U, u1, u2⟩ := wt_n (P := sp_ot S r) (Q := fun i => q.testBit i) hx hn
      obtain ⟨w1, t1, t2⟩ := q5_talks (k := k) (v := nI q) hk hr hN hv hT hS
      rw [t1]
      simp only [fX5_odds_2, nI_1]
      by_cases h0 : wt (nI x) (sp_ot S r) (fun i => q.testBit i) n ≤ 0
      · -- no weight
        have hz : wt (nI x) (sp_ot S r) (fun i => q.testBit i) n = 0 := by
          rw [u2] at h0 ⊢
          rcases Nat.eq_zero_or_pos U with z | z
          · rw [z]; rfl
          · exact absurd h0 (nI_nle z (by omega))
        have he : sp_up n T S r N (nI x) (q + 1) = sp_up n T S r N (nI x) q := by
          rw [hstep, hz]
          split
          · grind
          · rfl
        rw [if_pos h0]
        obtain ⟨w2, f1, f2⟩ := ih (q + 1) m w (by omega) (by omega) hT hS
        rw [he] at f1
        exact ⟨w2, f1, f2⟩
      · rw [if_neg h0]
        obtain ⟨w2, f1, f2⟩ := ih (q + 1) m w1 (by omega) (by omega) (cNet_ff hT t2) (cSt_ff hS t2)
        by_cases ht : sp_tq n T S r N q = true
        · rw [hstep, if_pos ⟨hs, ht⟩] at f1
          rw [if_pos ht, if_neg (by decide)]
          exact ⟨w2, f1, ff_tr t2 f2⟩
        · rw [hstep, if_neg (fun z => ht z.2)] at f1
          rw [if_neg ht, if_pos (by rfl)]
          exact ⟨w2, f1, ff_tr t2 f2⟩
    · rw [if_neg hs, fX5_odds_2, nI_1]
      obtain ⟨w2, f1, f2⟩ := ih (q + 1) m w (by omega) (by omega) hT hS
      rw [hstep, if_neg (fun z => hs z.1)] at f1
      exact ⟨w2, f1, f2⟩
