/-! ODDS -/
def ipw (b : Int32) : Nat → Int32
  | 0 => 1
  | e + 1 => ipw b e * b
theorem nI_mul (a b : Nat) : nI a * nI b = nI (a * b) := (Int32.ofNat_mul a b).symm
theorem ipw_n {x : Nat} : ∀ e, ipw (nI x) e = nI (x ^ e)
  | 0 => rfl
  | e + 1 => by
    show ipw (nI x) e * nI x = _
    rw [ipw_n e, nI_mul, Nat.pow_succ]
theorem q5_power_loop {k e : Nat} {b : Int32} {w : ra_W} (he : e ≤ 7) : ∀ (d i m : Nat), i + d = e → d + 1 ≤ m → fX5_power k m 1 b (nI e) (ipw b i) (nI i) w = some (ipw b e, w) := by
  intro d
  induction d with
  | zero =>
    intro i m hi hm
    obtain ⟨m, rfl⟩ : ∃ q, m = q + 1 := ⟨m - 1, by omega⟩
    have hin : i = e := by omega
    subst hin
    rw [fX5_power_1, if_pos (nI_le (Nat.le_refl i) (by omega))]
  | succ d ih =>
    intro i m hi hm
    obtain ⟨m, rfl⟩ : ∃ q, m = q + 1 := ⟨m - 1, by omega⟩
    rw [fX5_power_1, if_neg (nI_ge (by omega) (by omega)), if_neg (pu_ge7 (by omega)), nI_1]
    exact ih (i + 1) m (by omega) (by omega)
theorem q5_power {k e : Nat} {b : Int32} {w : ra_W} (hk : 10 ≤ k) (he : e ≤ 7) : FX5_power k b (nI e) w = some (ipw b e, w) := by
  obtain ⟨k, rfl⟩ : ∃ q, k = q + 1 := ⟨k - 1, by omega⟩
  unfold FX5_power
  rw [fX5_power_0]
  exact q5_power_loop he e 0 k (by omega) (by omega)
abbrev sp_idl (S : ra_W) (r : Nat) : Bool := decide (S 1 r = 0)
abbrev sp_ot (S : ra_W) (r q : Nat) : Bool := decide (S 1 q = 0 ∧ q ≠ r)
theorem q4_idle_loop {k n : Nat} {w T S : ra_W} (hn : n ≤ 7) (hT : cNet w 3 n T) (h : cSt w 16 n S) : ∀ (d i m : Nat), i + d = n → 2 * d + 1 ≤ m → fX4_idleOnes k 16 3 m 1 (nI (bn (sp_idl S) i)) (nI i) 0 0 w = some (nI (bn (sp_idl S) n), w) := by
  intro d
  induction d with
  | zero =>
    intro i m hi hm
    obtain ⟨m, rfl⟩ : ∃ q, m = q + 1 := ⟨m - 1, by omega⟩
    have hin : i = n := by omega
    subst hin
    rw [fX4_idleOnes_1, hT.1, if_pos (nI_le (Nat.le_refl i) (by omega))]
  | succ d ih =>
    intro i m hi hm
    obtain ⟨m, rfl⟩ : ∃ q, m = q + 1 + 1 := ⟨m - 2, by omega⟩
    have ihh := ih (i + 1) m (by omega) (by omega)
    rw [pu_bns (by omega)] at ihh
    rw [fX4_idleOnes_1, hT.1, if_neg (nI_ge (by omega) (by omega)), if_pos (pu_in (by omega) (by decide)), pu_ix (by omega), h.2.1 i (by omega), fX4_idleOnes_2, fX4_idleOnes_2, nI_1, pu_or0]
    by_cases hp : S 1 i = 0
    · rw [if_pos (by simpa [sp_idl] using hp)] at ihh
      rw [if_pos hp]
      exact ihh
    · rw [if_neg (by simpa [sp_idl] using hp)] at ihh
      rw [if_neg hp]
      exact ihh
theorem q4_idle {k n : Nat} {w T S : ra_W} (hk : 20 ≤ k) (hn : n ≤ 7) (hT : cNet w 3 n T) (h : cSt w 16 n S) : FX4_idleOnes k 16 3 w = some (nI (bn (sp_idl S) n), w) := by
  obtain ⟨k, rfl⟩ : ∃ q, k = q + 1 := ⟨k - 1, by omega⟩
  unfold FX4_idleOnes
  rw [fX4_idleOnes_0]
  exact q4_idle_loop hn hT h n 0 k (by omega) (by omega)
theorem sp_ot_bn {S : ra_W} {n r : Nat} (hn : n ≤ 7) (hr : r < n) : nI (bn (sp_idl S) n) &&& ((1 <<< (nI r &&& 31)) ^^^ (-1)) = nI (bn (sp_ot S r) n) := by
  rw [pu_shln (by omega), pu_andn (bn_128 hn)]
  congr 1
  apply Nat.eq_of_testBit_eq
  intro i
  rw [Nat.testBit_and, Nat.testBit_xor, bn_t, bn_t]
  rcases Nat.lt_or_ge i n with q | q
  · have h7 : Nat.testBit 127 i = true := by
      have : ∀ i : Fin 7, Nat.testBit 127 i.val = true := by decide
      exact this ⟨i, by omega⟩
    by_cases e : i = r
    · subst e
      rw [Nat.testBit_two_pow_self, h7]
      simp [sp_ot]
    · rw [Nat.testBit_two_pow_of_ne (fun z => e z.symm), h7]
      simp [sp_ot, sp_idl, e]
  · have : decide (i < n) = false := by simp; omega
    rw [this]
    simp
/-- whether one talks in time -/
def sp_tl (n : Nat) (T S : ra_W) (r : Nat) : Nat → Nat → Bool
  | 0, _ => false
  | d + 1, i => sp_onb (tkS n T S (i + 1)) r || sp_tl n T S r d (i + 1)
theorem sp_tl_idle {n A : Nat} {T S : ra_W} {r : Nat} (hv : iv n A T S) (hr : r < n) : ∀ d i, tkS n T S i 1 r = 0 → sp_tl n T S r d i = false
  | 0, _, _ => rfl
  | d + 1, i, h => by
    have h1 : tkS n T S (i + 1) 1 r = 0 := sp_tick_idle (iv_tk hv i) hr h
    simp only [sp_tl]
    rw [sp_tl_idle hv hr d (i + 1) h1]
    simp [sp_onb, h1]
theorem q5_talks_loop {k n A : Nat} {T S : ra_W} {r N : Nat} (hk : 200 ≤ k) (hr : r < n) (hN : N ≤ 20) (hv : iv n A T S) : ∀ (d i m : Nat) (w : ra_W), i + d = N → d + 1 ≤ m → cNet w 3 n T → cSt w 23 n (tkS n T S i) → ∃ w', fX5_talksAmong k m 1 0 (nI r) (nI N) (nI i) w = some (if sp_tl n T S r d i = true then 1 else 0, w') ∧ ff w w' := by
  have hn : n ≤ 7 := hv.1.2.2.2
  intro d
  induction d with
  | zero =>
    intro i m w hi hm hT h
    obtain ⟨m, rfl⟩ : ∃ q, m = q + 1 := ⟨m - 1, by omega⟩
    rw [fX5_talksAmong_1, if_pos (nI_le (by omega) (by omega))]
    exact ⟨w, rfl, ff_rf w⟩
  | succ d ih =>
    intro i m w hi hm hT h
    obtain ⟨m, rfl⟩ : ∃ q, m = q + 1 := ⟨m - 1, by omega⟩
    rw [fX5_talksAmong_1, if_neg (nI_ge (by omega) (by omega)), if_pos (pu_in (by omega) (by decide)), pu_ix (by omega), h.2.1 r hr]
    by_cases h0 : tkS n T S i 1 r = 0
    · rw [if_pos h0, sp_tl_idle hv hr (d + 1) i h0]
      exact ⟨w, rfl, ff_rf w⟩
    · rw [if_neg h0]
      obtain ⟨w1, g1, g2, g3, g4⟩ := q5_go (k := k) hk (Or.inl rfl) hT h (iv_tk hv i)
      have g2 : cSt w1 23 n (tkS n T S (i + 1)) := g2
      rw [g1]
      simp only [ra_bind]
      rw [q4_isOnAir (by omega) g2 hr hn]
      simp only [nI_1]
      have step : sp_tl n T S r (d + 1) i = (sp_onb (tkS n T S (i + 1)) r || sp_tl n T S r d (i + 1)) := rfl
      by_cases ho : tkS n T S (i + 1) 1 r = 4 ∨ tkS n T S (i + 1) 1 r = 5
      · have ho2 : sp_onb (tkS n T S (i + 1)) r = true := by simpa [sp_onb] using ho
        have ho3 : sp_tl n T S r (d + 1) i = true := by rw [step, ho2, Bool.true_or]
        rw [if_pos ho, if_neg (by decide), if_pos ho3]
        exact ⟨w1, rfl, g4⟩
      · have ho2 : sp_onb (tkS n T S (i + 1)) r = false := by simpa [sp_onb] using ho
        rw [ho2, Bool.false_or] at step
        rw [if_neg ho, if_pos rfl, step]
        obtain ⟨w2, f1, f2⟩ := ih (i + 1) m w1 (by omega) (by omega) g3 g2
        exact ⟨w2, f1, ff_tr g4 f2⟩
theorem q5_talks {k n A : Nat} {w T S : ra_W} {r N : Nat} {v : Int32} (hk : 300 ≤ k) (hr : r < n) (hN : N ≤ 20) (hv : iv n A T S) (hT : cNet w 3 n T) (hS : cSt w 16 n S) : ∃ w', FX5_talksAmong k v (nI r) (nI N) w = some (if sp_tl n T (sp_press n (v ||| (1 <<< (nI r &&& 31))) S) r N 0 = true then 1 else 0, w') ∧ ff w w' := by
  have hn : n ≤ 7 := hv.1.2.2.2
  obtain ⟨k, rfl⟩ : ∃ q, k = q + 1 := ⟨k - 1, by omega⟩
  unfold FX5_talksAmong
  obtain ⟨w1, g1, g2, g3⟩ := q5_fut (k := k + 1) (by omega) hn hS
  obtain ⟨w2, p1, p2, p3, p4⟩ := q4_press (k := k + 1) (v := v ||| (1 <<< (nI r &&& 31))) (by omega) (Or.inl rfl) hv (cNet_ff hT g3) g2
  rw [fX5_talksAmong_0, g1]
  simp only [ra_bind]
  rw [p1]
  simp only []
  obtain ⟨w3, f1, f2⟩ := q5_talks_loop (k := k + 1) (by omega) hr hN (iv_press (v := v ||| (1 <<< (nI r &&& 31))) hv n) N 0 k w2 (by omega) (by omega) p3 p2
  exact ⟨w3, f1, ff_tr g3 (ff_tr p4 f2)⟩
/-- the weight of a set -/
def wt (x : Int32) (P Q : Nat → Bool) (n : Nat) : Int32 := ipw x (pu_cnt (fun r => P r && Q r) n) * ipw (10 - x) (pu_cnt (fun r => P r && !Q r) n)
theorem wt_s {x : Int32} {P Q : Nat → Bool} {i : Nat} : wt x P Q (i + 1) = wt x P Q i * (if P i = true then (if Q i = true then x else 10 - x) else 1) := by
  unfold wt
  have e1 : pu_cnt (fun r => P r && Q r) (i + 1) = pu_cnt (fun r => P r && Q r) i + (if (P i && Q i) = true then 1 else 0) := rfl
  have e2 : pu_cnt (fun r => P r && !Q r) (i + 1) = pu_cnt (fun r => P r && !Q r) i + (if (P i && !Q i) = true then 1 else 0) := rfl
  rw [e1, e2]
  generalize pu_cnt (fun r => P r && Q r) i = a
  generalize pu_cnt (fun r => P r && !Q r) i = b
  by_cases hp : P i = true
  · by_cases hq : Q i = true
    · rw [if_pos (by simp [hp, hq]), if_neg (by simp [hq]), if_pos hp, if_pos hq]
      show ipw x a * x * ipw (10 - x) b = _
      grind
    · rw [if_neg (by simp [hq]), if_pos (by simp [hp, hq]), if_pos hp, if_neg hq]
      show ipw x a * (ipw (10 - x) b * (10 - x)) = _
      grind
  · rw [if_neg (by simp [hp]), if_neg (by simp [hp]), if_neg hp]
    show ipw x a * ipw (10 - x) b = _
    grind
theorem pu_cnt_sum {P Q : Nat → Bool} : ∀ n, pu_cnt (fun r => P r && Q r) n + pu_cnt (fun r => P r && !Q r) n ≤ n
  | 0 => by simp [pu_cnt]
  | n + 1 => by
    have ih := pu_cnt_sum (P := P) (Q := Q) n
    have e1 : pu_cnt (fun r => P r && Q r) (n + 1) = pu_cnt (fun r => P r && Q r) n + (if (P n && Q n) = true then 1 else 0) := rfl
    have e2 : pu_cnt (fun r => P r && !Q r) (n + 1) = pu_cnt (fun r => P r && !Q r) n + (if (P n && !Q n) = true then 1 else 0) := rfl
    rw [e1, e2]
    by_cases hq : Q n = true
    · rw [if_neg (show ¬ (P n && !Q n) = true by simp [hq])]
      split <;> omega
    · rw [if_neg (show ¬ (P n && Q n) = true by simp [hq])]
      split <;> omega
theorem wt_n {x : Nat} {P Q : Nat → Bool} {n : Nat} (hx : x ≤ 10) (hn : n ≤ 7) : ∃ U, U ≤ 10000000 ∧ wt (nI x) P Q n = nI U := by
  unfold wt
  have h := pu_cnt_sum (P := P) (Q := Q) n
  generalize pu_cnt (fun r => P r && Q r) n = a at h
  generalize pu_cnt (fun r => P r && !Q r) n = b at h
  refine ⟨x ^ a * (10 - x) ^ b, ?_, ?_⟩
  · have h1 : x ^ a ≤ 10 ^ a := Nat.pow_le_pow_left hx a
    have h2 : (10 - x) ^ b ≤ 10 ^ b := Nat.pow_le_pow_left (by omega) b
    have h3 : 10 ^ a * 10 ^ b ≤ 10 ^ 7 := by
      rw [← Nat.pow_add]
      exact Nat.pow_le_pow_right (by decide) (by omega)
    exact Nat.le_trans (Nat.mul_le_mul h1 h2) h3
  · rw [show (10 : Int32) - nI x = nI (10 - x) from pk_sub (a := 10) hx, ipw_n, ipw_n, nI_mul]
theorem pu_cnt_tail {f : Nat → Bool} {n : Nat} (h : ∀ r, n ≤ r → f r = false) : ∀ d, pu_cnt f (n + d) = pu_cnt f n
  | 0 => rfl
  | d + 1 => by
    have e : pu_cnt f (n + d + 1) = pu_cnt f (n + d) + (if f (n + d) = true then 1 else 0) := rfl
    show pu_cnt f (n + d + 1) = _
    rw [e, pu_cnt_tail h d, h (n + d) (by omega)]
    simp
theorem pu_pop_q {q n : Nat} {P : Nat → Bool} (hn : n ≤ 7) (hq : q < 2 ^ n) (hs : ∀ r, r < 7 → q.testBit r = true → (bn P n).testBit r = true) : pu_pop q = pu_cnt (fun r => P r && q.testBit r) n := by
  have h0 : ∀ r, n ≤ r → q.testBit r = false := fun r hr => Nat.testBit_lt_two_pow (Nat.lt_of_lt_of_le hq (Nat.pow_le_pow_right (by decide) hr))
  have h := pu_cnt_tail (f := fun r => q.testBit r) (n := n) h0 (7 - n)
  rw [show n + (7 - n) = 7 by omega] at h
  unfold pu_pop
  rw [h]
  refine pu_cnt_cong (fun r hr => ?_)
  cases hb : q.testBit r with
  | false => simp
  | true =>
    have := hs r (by omega) hb
    rw [bn_t] at this
    simp at this
    simp [this.2]
theorem pu_pop_o {q n : Nat} {P : Nat → Bool} (hn : n ≤ 7) : pu_pop (bn P n &&& (q ^^^ 127)) = pu_cnt (fun r => P r && !(q.testBit r)) n := by
  have hb : ∀ r, r < 7 → (bn P n &&& (q ^^^ 127)).testBit r = (decide (r < n) && P r && !(q.testBit r)) := by
    intro r hr
    have h7 : Nat.testBit 127 r = true := by
      have : ∀ i : Fin 7, Nat.testBit 127 i.val = true := by decide
      exact this ⟨r, hr⟩
    rw [Nat.testBit_and, Nat.testBit_xor, bn_t, h7]
    simp
  have h0 : ∀ r, n ≤ r → (bn P n &&& (q ^^^ 127)).testBit r = false := fun r hr => by
    rw [Nat.testBit_and, bn_t]
    simp
    intro z
    omega
  have h := pu_cnt_tail (f := fun r => (bn P n &&& (q ^^^ 127)).testBit r) (n := n) h0 (7 - n)
  rw [show n + (7 - n) = 7 by omega] at h
  unfold pu_pop
  rw [h]
  refine pu_cnt_cong (fun r hr => ?_)
  rw [hb r (by omega)]
  simp [hr]
theorem pu_sub {q n : Nat} {P : Nat → Bool} (hn : n ≤ 7) (hq : q < 128) (h : nI q &&& (nI (bn P n) ^^^ (-1)) = 0) : ∀ r, r < 7 → q.testBit r = true → (bn P n).testBit r = true := by
  rw [pu_andn hq] at h
  have hlt : q &&& (bn P n ^^^ 127) < 128 := Nat.lt_of_le_of_lt Nat.and_le_left hq
  have h0 : q &&& (bn P n ^^^ 127) = 0 := (nI_eq (b := 0) (by omega) (by decide)).mp h
  intro r hr hb
  have h7 : Nat.testBit 127 r = true := by
    have : ∀ i : Fin 7, Nat.testBit 127 i.val = true := by decide
    exact this ⟨r, hr⟩
  have := congrArg (fun z => z.testBit r) h0
  simp only [Nat.testBit_and, Nat.testBit_xor, hb, h7, Nat.zero_testBit] at this
  simpa using this
/-- the sum over the sets -/
abbrev sp_sb (P : Nat → Bool) (n q : Nat) : Prop := nI q &&& (nI (bn P n) ^^^ (-1)) = 0
abbrev sp_tq (n : Nat) (T S : ra_W) (r N q : Nat) : Bool := sp_tl n T (sp_press n (nI q ||| (1 <<< (nI r &&& 31))) S) r N 0
def sp_up (n : Nat) (T S : ra_W) (r N : Nat) (x : Int32) : Nat → Int32
  | 0 => 0
  | q + 1 => if sp_sb (sp_ot S r) n q ∧ sp_tq n T S r N q = true then sp_up n T S r N x q + wt x (sp_ot S r) (fun i => q.testBit i) n else sp_up n T S r N x q
theorem sp_up_n {n : Nat} {T S : ra_W} {r N x : Nat} (hx : x ≤ 10) (hn : n ≤ 7) : ∀ q, ∃ U, U ≤ q * 10000000 ∧ sp_up n T S r N (nI x) q = nI U
  | 0 => ⟨0, by omega, rfl⟩
  | q + 1 => by
    obtain ⟨U, h1, h2⟩ := sp_up_n (T := T) (S := S) (r := r) (N := N) hx hn q
    simp only [sp_up]
    split
    · obtain ⟨V, h3, h4⟩ := wt_n (P := sp_ot S r) (Q := fun i => q.testBit i) hx hn
      exact ⟨U + V, by omega, by rw [h2, h4, nI_add]⟩
    · exact ⟨U, Nat.le_trans h1 (Nat.mul_le_mul_right _ (Nat.le_succ q)), h2⟩
