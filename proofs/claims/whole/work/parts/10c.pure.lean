theorem pu_st_eq {w : ra_W} {k i : Nat} {v : Int32} : ra_st w k i v k i = v := by rw [pu_st, if_pos ⟨rfl, rfl⟩]
/-- the backed ones try again: V is how all were as the tick began -/
def sp_tryI (V : Nat → Int32) (m : Nat) (S : ra_W) : ra_W := fun j r => if r < m ∧ V r = 2 then (if j = 1 then (if S 2 r - 1 = 0 then 1 else S 1 r) else if j = 2 then S 2 r - 1 else S j r) else S j r
def sp_was (w : ra_W) (c n : Nat) (V : Nat → Int32) : Prop := ∀ r, r < n → w c r = V r
theorem q0_try_loop {k a b n : Nat} {T S : ra_W} {V : Nat → Int32} (hk : 1 ≤ k) (hn : n ≤ 7) (hab : a + 4 < b) (ha : a < 10) (hb : 15 < b) (hV : ∀ r, r < n → V r = 2 → S 2 r = 1 ∨ S 2 r = 2 ∨ S 2 r = 3) : ∀ (d i m : Nat) (w : ra_W), i + d = n → 2 * d + 1 ≤ m → cNet w a n T → sp_was w 15 n V → cSt w b n (sp_tryI V i S) → ∃ w', fX0_tryAgain k a b m 1 (nI i) w = some (0, w') ∧ cSt w' b n (sp_tryI V n S) ∧ pu_fs b w w' ∧ w' 15 = w 15 := by
  intro d
  induction d with
  | zero =>
    intro i m w hi hm hT hW hw
    obtain ⟨m, rfl⟩ : ∃ q, m = q + 1 := ⟨m - 1, by omega⟩
    have hin : i = n := by omega
    subst hin
    rw [fX0_tryAgain_1, hT.1, if_pos (nI_le (Nat.le_refl i) (by omega))]
    exact ⟨w, rfl, hw, pu_fs_rf b w, rfl⟩
  | succ d ih =>
    intro i m w hi hm hT hW hw
    obtain ⟨m, rfl⟩ : ∃ q, m = q + 1 + 1 := ⟨m - 2, by omega⟩
    have hx := hw.2.2.1 i (by omega)
    have e2 : sp_tryI V i S 2 i = S 2 i := by simp [sp_tryI]
    rw [e2] at hx
    rw [fX0_tryAgain_1, hT.1, if_neg (nI_ge (by omega) (by omega)), if_pos (pu_in (by omega) (by decide)), pu_ix (by omega), hW i (by omega)]
    by_cases h2 : V i = 2
    · rw [if_pos h2, hx, pu_st_eq]
      have hv := hV i (by omega) h2
      by_cases h3 : (1 : Int32) ≤ S 2 i - 1
      · rw [if_pos h3, fX0_tryAgain_2, nI_1]
        have hne : ¬ S 2 i - 1 = 0 := by
          rcases hv with q | q | q <;> rw [q] at h3 ⊢ <;> revert h3 <;> decide
        have e : ra_st (sp_tryI V i S) 2 i (S 2 i - 1) = sp_tryI V (i + 1) S := by
          funext j r
          simp only [pu_st, sp_tryI]
          grind
        have hf : pu_fs b w (ra_st w (b + 3) i (S 2 i - 1)) := pu_fs_st _ _ _ (by omega)
        have h15 : ra_st w (b + 3) i (S 2 i - 1) 15 = w 15 := pu_st_ne (by omega)
        obtain ⟨w', g1, g2, g3, g4⟩ := ih (i + 1) m _ (by omega) (by omega) (cNet_fr hT (pu_fs_fr hf) hab ha) (fun r hr => by rw [h15]; exact hW r hr) (by rw [← e]; exact cSt_2 _ _ hw)
        exact ⟨w', g1, g2, pu_fs_tr hf g3, g4.trans h15⟩
      · rw [if_neg h3, q4_enter 1 hk (by omega)]
        simp only [ra_bind, fX0_tryAgain_2, nI_1]
        have hne : S 2 i - 1 = 0 := by
          rcases hv with q | q | q <;> rw [q] at h3 ⊢ <;> revert h3 <;> decide
        have e : ra_st (ra_st (ra_st (sp_tryI V i S) 2 i (S 2 i - 1)) 1 i 1) 2 i 0 = sp_tryI V (i + 1) S := by
          funext j r
          simp only [pu_st, sp_tryI]
          grind
        have hf : pu_fs b w (ra_st (ra_st (ra_st w (b + 3) i (S 2 i - 1)) (b + 2) i 1) (b + 3) i 0) := pu_fs_tr (pu_fs_tr (pu_fs_st _ _ _ (by omega)) (pu_fs_st _ _ _ (by omega))) (pu_fs_st _ _ _ (by omega))
        have h15 : ra_st (ra_st (ra_st w (b + 3) i (S 2 i - 1)) (b + 2) i 1) (b + 3) i 0 15 = w 15 := by rw [pu_st_ne (by omega), pu_st_ne (by omega), pu_st_ne (by omega)]
        obtain ⟨w', g1, g2, g3, g4⟩ := ih (i + 1) m _ (by omega) (by omega) (cNet_fr hT (pu_fs_fr hf) hab ha) (fun r hr => by rw [h15]; exact hW r hr) (by rw [← e]; exact cSt_2 _ _ (cSt_1 _ _ (cSt_2 _ _ hw)))
        exact ⟨w', g1, g2, pu_fs_tr hf g3, g4.trans h15⟩
    · rw [if_neg h2, fX0_tryAgain_2, nI_1]
      have e : sp_tryI V i S = sp_tryI V (i + 1) S := by
        funext j r
        simp only [sp_tryI]
        grind
      exact ih (i + 1) m w (by omega) (by omega) hT hW (by rw [← e]; exact hw)
theorem q0_try {k a b n : Nat} {w T S : ra_W} {V : Nat → Int32} (hk : 20 ≤ k) (hn : n ≤ 7) (hab : a + 4 < b) (ha : a < 10) (hb : 15 < b) (hV : ∀ r, r < n → V r = 2 → S 2 r = 1 ∨ S 2 r = 2 ∨ S 2 r = 3) (hT : cNet w a n T) (hW : sp_was w 15 n V) (h : cSt w b n S) : ∃ w', FX0_tryAgain k a b w = some (0, w') ∧ cSt w' b n (sp_tryI V n S) ∧ pu_fs b w w' ∧ w' 15 = w 15 := by
  obtain ⟨k, rfl⟩ : ∃ q, k = q + 1 := ⟨k - 1, by omega⟩
  unfold FX0_tryAgain
  rw [fX0_tryAgain_0]
  have e : sp_tryI V 0 S = S := by
    funext j r
    simp [sp_tryI]
  exact q0_try_loop (by omega) hn hab ha hb hV n 0 k w (by omega) (by omega) hT hW (by rw [e]; exact h)
/-- long talks are cut -/
def sp_rest (S : ra_W) (r : Nat) : ra_W := ra_st (ra_st (ra_st (ra_st S 1 r 0) 2 r 0) 3 r 0) 4 r 0
theorem cSt_rest {w : ra_W} {b n : Nat} {S : ra_W} (r : Nat) (h : cSt w b n S) : cSt (ra_st (ra_st (ra_st (ra_st w (b + 2) r 0) (b + 3) r 0) (b + 4) r 0) (b + 5) r 0) b n (sp_rest S r) := cSt_4 _ _ (cSt_3 _ _ (cSt_2 _ _ (cSt_1 _ _ h)))
theorem pu_fs_rest {b : Nat} (w : ra_W) (r : Nat) : pu_fs b w (ra_st (ra_st (ra_st (ra_st w (b + 2) r 0) (b + 3) r 0) (b + 4) r 0) (b + 5) r 0) := pu_fs_tr (pu_fs_tr (pu_fs_tr (pu_fs_st _ _ _ (by omega)) (pu_fs_st _ _ _ (by omega))) (pu_fs_st _ _ _ (by omega))) (pu_fs_st _ _ _ (by omega))
def sp_cut1 (A : Int32) (V : Nat → Int32) (r : Nat) (S : ra_W) : ra_W := if V r = 4 ∨ V r = 5 then (if S 2 r + 1 = A then ra_st (sp_rest (ra_st S 2 r (S 2 r + 1)) r) 6 1 (S 6 1 + 1) else ra_st S 2 r (S 2 r + 1)) else S
def sp_cutI (A : Int32) (V : Nat → Int32) (S : ra_W) : Nat → ra_W
  | 0 => S
  | m + 1 => sp_cut1 A V m (sp_cutI A V S m)
theorem sp_cutI_at (A : Int32) (V : Nat → Int32) (S : ra_W) (j r : Nat) (hj : j ≠ 6) : ∀ m, m ≤ r → sp_cutI A V S m j r = S j r
  | 0, _ => rfl
  | m + 1, h => by
    have ih := sp_cutI_at A V S j r hj m (by omega)
    simp only [sp_cutI, sp_cut1, sp_rest]
    grind [pu_st]
theorem q0_cut_loop {k a b n : Nat} {T S : ra_W} {V : Nat → Int32} {A : Nat} (hk : 1 ≤ k) (hn : n ≤ 7) (hab : a + 4 < b) (ha : a < 10) (hb : 15 < b) (hA : T 0 1 = nI A) (hA2 : A < 100) (hV : ∀ r, r < n → (V r = 4 ∨ V r = 5) → ∃ d, d < A ∧ S 2 r = nI d) : ∀ (d i m : Nat) (w : ra_W), i + d = n → 3 * d + 1 ≤ m → cNet w a n T → sp_was w 15 n V → cSt w b n (sp_cutI (T 0 1) V S i) → ∃ w', fX0_cutLongTalks k a b m 1 (nI i) w = some (0, w') ∧ cSt w' b n (sp_cutI (T 0 1) V S n) ∧ pu_fs b w w' := by
  intro d
  induction d with
  | zero =>
    intro i m w hi hm hT hW hw
    obtain ⟨m, rfl⟩ : ∃ q, m = q + 1 := ⟨m - 1, by omega⟩
    have hin : i = n := by omega
    subst hin
    rw [fX0_cutLongTalks_1, hT.1, if_pos (nI_le (Nat.le_refl i) (by omega))]
    exact ⟨w, rfl, hw, pu_fs_rf b w⟩
  | succ d ih =>
    intro i m w hi hm hT hW hw
    obtain ⟨m, rfl⟩ : ∃ q, m = q + 1 + 1 + 1 := ⟨m - 3, by omega⟩
    have hst : sp_cutI (T 0 1) V S (i + 1) = sp_cut1 (T 0 1) V i (sp_cutI (T 0 1) V S i) := rfl
    have e2 := sp_cutI_at (T 0 1) V S 2 i (by decide) i (Nat.le_refl i)
    generalize sp_cutI (T 0 1) V S i = Q at hw hst e2
    have hx := hw.2.2.1 i (by omega)
    rw [fX0_cutLongTalks_1, hT.1, if_neg (nI_ge (by omega) (by omega)), if_pos (pu_in (by omega) (by decide)), pu_ix (by omega), hW i (by omega)]
    by_cases hv : V i = 4 ∨ V i = 5
    · have hgo : (if V i = 4 then fX0_cutLongTalks k a b (m + 1 + 1) 2 (nI i) w else if V i = 5 then fX0_cutLongTalks k a b (m + 1 + 1) 2 (nI i) w else fX0_cutLongTalks k a b (m + 1 + 1) 3 (nI i) w) = fX0_cutLongTalks k a b (m + 1 + 1) 2 (nI i) w := by grind
      rw [hgo, fX0_cutLongTalks_2, if_pos (pu_in (by omega) (by decide)), pu_ix (by omega), hx]
      have ea : ra_st w (b + 3) i (Q 2 i + 1) a 1 = T 0 1 := by rw [pu_st_ne (by omega)]; exact hT.2.1
      rw [ea, pu_st_eq]
      obtain ⟨dd, hd1, hd2⟩ := hV i (by omega) hv
      rw [← e2] at hd2
      have hlt : (Q 2 i + 1 < T 0 1) ↔ ¬ Q 2 i + 1 = T 0 1 := by
        rw [hd2, hA, nI_1, nI_ltI (by omega) (by omega), nI_eq (by omega) (by omega)]
        omega
      have hf0 : pu_fs b w (ra_st w (b + 3) i (Q 2 i + 1)) := pu_fs_st _ _ _ (by omega)
      by_cases hc : Q 2 i + 1 = T 0 1
      · rw [if_neg (fun q => hlt.mp q hc), q4_rest hk (by omega)]
        simp only [ra_bind, fX0_cutLongTalks_3, nI_1]
        have e : sp_cut1 (T 0 1) V i Q = ra_st (sp_rest (ra_st Q 2 i (Q 2 i + 1)) i) 6 1 (Q 6 1 + 1) := by
          unfold sp_cut1
          rw [if_pos hv, if_pos hc]
        have h8 : ra_st (ra_st (ra_st (ra_st (ra_st w (b + 3) i (Q 2 i + 1)) (b + 2) i 0) (b + 3) i 0) (b + 4) i 0) (b + 5) i 0 b 8 = Q 6 1 := by
          rw [pu_st_ne (by omega), pu_st_ne (by omega), pu_st_ne (by omega), pu_st_ne (by omega), pu_st_ne (by omega)]
          exact hw.2.2.2.2.2.2.2.1
        have hf := pu_fs_tr (pu_fs_tr hf0 (pu_fs_rest _ i)) (pu_fs_st (b := b) (k := b) (ra_st (ra_st (ra_st (ra_st (ra_st w (b + 3) i (Q 2 i + 1)) (b + 2) i 0) (b + 3) i 0) (b + 4) i 0) (b + 5) i 0) 8 (ra_st (ra_st (ra_st (ra_st (ra_st w (b + 3) i (Q 2 i + 1)) (b + 2) i 0) (b + 3) i 0) (b + 4) i 0) (b + 5) i 0 b 8 + 1) (by omega))
        obtain ⟨w', g1, g2, g3⟩ := ih (i + 1) m _ (by omega) (by omega) (cNet_fr hT (pu_fs_fr hf) hab ha) (fun r hr => by rw [pu_st_ne (by omega), pu_st_ne (by omega), pu_st_ne (by omega), pu_st_ne (by omega), pu_st_ne (by omega), pu_st_ne (by omega)]; exact hW r hr) (by rw [hst, e, h8]; exact cSt_6 1 (by decide) _ (cSt_rest _ (cSt_2 _ _ hw)))
        exact ⟨w', g1, g2, pu_fs_tr hf g3⟩
      · rw [if_pos (hlt.mpr hc), fX0_cutLongTalks_3, nI_1]
        have e : sp_cut1 (T 0 1) V i Q = ra_st Q 2 i (Q 2 i + 1) := by
          unfold sp_cut1
          rw [if_pos hv, if_neg hc]
        obtain ⟨w', g1, g2, g3⟩ := ih (i + 1) m _ (by omega) (by omega) (cNet_fr hT (pu_fs_fr hf0) hab ha) (fun r hr => by rw [pu_st_ne (by omega)]; exact hW r hr) (by rw [hst, e]; exact cSt_2 _ _ hw)
        exact ⟨w', g1, g2, pu_fs_tr hf0 g3⟩
    · have hgo : (if V i = 4 then fX0_cutLongTalks k a b (m + 1 + 1) 2 (nI i) w else if V i = 5 then fX0_cutLongTalks k a b (m + 1 + 1) 2 (nI i) w else fX0_cutLongTalks k a b (m + 1 + 1) 3 (nI i) w) = fX0_cutLongTalks k a b (m + 1 + 1) 3 (nI i) w := by grind
      rw [hgo, fX0_cutLongTalks_3, nI_1]
      have e : sp_cut1 (T 0 1) V i Q = Q := by
        unfold sp_cut1
        rw [if_neg hv]
      exact ih (i + 1) (m + 1) w (by omega) (by omega) hT hW (by rw [hst, e]; exact hw)
theorem q0_cut {k a b n : Nat} {w T S : ra_W} {V : Nat → Int32} {A : Nat} (hk : 30 ≤ k) (hn : n ≤ 7) (hab : a + 4 < b) (ha : a < 10) (hb : 15 < b) (hA : T 0 1 = nI A) (hA2 : A < 100) (hV : ∀ r, r < n → (V r = 4 ∨ V r = 5) → ∃ d, d < A ∧ S 2 r = nI d) (hT : cNet w a n T) (hW : sp_was w 15 n V) (h : cSt w b n S) : ∃ w', FX0_cutLongTalks k a b w = some (0, w') ∧ cSt w' b n (sp_cutI (T 0 1) V S n) ∧ pu_fs b w w' := by
  obtain ⟨k, rfl⟩ : ∃ q, k = q + 1 := ⟨k - 1, by omega⟩
  unfold FX0_cutLongTalks
  rw [fX0_cutLongTalks_0]
  exact q0_cut_loop (by omega) hn hab ha hb hA hA2 hV n 0 k w (by omega) (by omega) hT hW h
/-- the queue's order -/
abbrev sp_ahead (T S : ra_W) (r e : Nat) : Prop := if S 3 r = S 3 e then ¬ 4 * T 3 r + S 2 r ≤ 4 * T 3 e + S 2 e else S 3 r = 1
theorem q0_isAhead {k a b n : Nat} {w T S : ra_W} {r e : Nat} (hk : 1 ≤ k) (hn : n ≤ 7) (hr : r < n) (he : e < n) (hT : cNet w a n T) (h : cSt w b n S) : FX0_isAhead k a b (nI r) (nI e) w = some (if sp_ahead T S r e then 1 else 0, w) := by
  obtain ⟨k, rfl⟩ : ∃ q, k = q + 1 := ⟨k - 1, by omega⟩
  unfold FX0_isAhead
  rw [fX0_isAhead_0, if_pos (pu_in (by omega) (by decide)), if_pos (pu_in (by omega) (by decide)), pu_ix (by omega), pu_ix (by omega), h.2.2.2.1 r hr, h.2.2.2.1 e he, h.2.2.1 r hr, h.2.2.1 e he, hT.2.2.2.2.2 r hr, hT.2.2.2.2.2 e he]
  grind
/-- talker, free, bits -/
abbrev sp_talk (T S : ra_W) (g : Int32) (r : Nat) : Bool := decide (S 1 r = 4 ∧ T 2 r = g)
theorem q4_talkerOf_loop {k a b n : Nat} {w T S : ra_W} {g : Int32} (hT : cNet w a n T) (h : cSt w b n S) (hn : n ≤ 7) : ∀ (d i m : Nat), i + d = n → 2 * d + 1 ≤ m → (∀ j, j < i → sp_talk T S g j = false) → fX4_talkerOf k b a m 1 g (nI i) w = some (pu_enc (pu_lst (sp_talk T S g) n), w) := by
  intro d
  induction d with
  | zero =>
    intro i m hi hm hu
    obtain ⟨m, rfl⟩ : ∃ q, m = q + 1 := ⟨m - 1, by omega⟩
    have hin : i = n := by omega
    subst hin
    rw [fX4_talkerOf_1, hT.1, if_pos (nI_le (Nat.le_refl i) (by omega)), pu_lst_none.mpr hu]
    rfl
  | succ d ih =>
    intro i m hi hm hu
    obtain ⟨m, rfl⟩ : ∃ q, m = q + 1 + 1 := ⟨m - 2, by omega⟩
    rw [fX4_talkerOf_1, hT.1, if_neg (nI_ge (by omega) (by omega)), if_pos (pu_in (by omega) (by decide)), pu_ix (by omega), h.2.1 i (by omega), hT.2.2.2.2.1 i (by omega)]
    by_cases hp : sp_talk T S g i = true
    · have h1 : pu_lst (sp_talk T S g) n = some i := pu_lst_stay hu hp (by omega)
      simp only [sp_talk, decide_eq_true_eq] at hp
      rw [if_pos hp.1, if_pos hp.2, h1]
      rfl
    · have ihh := ih (i + 1) m (by omega) (by omega) (lt_s hu (by simpa using hp))
      simp only [sp_talk, decide_eq_true_eq] at hp
      rw [fX4_talkerOf_2, nI_1, ihh]
      grind
theorem q4_talkerOf {k a b n : Nat} {w T S : ra_W} (g : Int32) (hk : 20 ≤ k) (hT : cNet w a n T) (h : cSt w b n S) (hn : n ≤ 7) : FX4_talkerOf k b a g w = some (pu_enc (pu_lst (sp_talk T S g) n), w) := by
  obtain ⟨k, rfl⟩ : ∃ q, k = q + 1 := ⟨k - 1, by omega⟩
  unfold FX4_talkerOf
  rw [fX4_talkerOf_0]
  exact q4_talkerOf_loop hT h hn n 0 k (by omega) (by omega) (fun j hj => absurd hj (by omega))
def pu_q (h : Int32) : Prop := h = 0 ∨ h = 1 ∨ h = 2 ∨ h = 3
def pu_bit (h : Int32) (i : Nat) : Bool := if i = 0 then decide (h = 1 ∨ h = 3) else decide (h = 2 ∨ h = 3)
theorem pu_bit_sh {h : Int32} {i : Nat} (hq : pu_q h) (hi : i < 2) : (h >>> (nI i &&& 31)) &&& 1 = if pu_bit h i = true then 1 else 0 := by
  rcases (show i = 0 ∨ i = 1 by omega) with rfl | rfl <;> rcases hq with rfl | rfl | rfl | rfl <;> decide
theorem pu_bit_0 {h : Int32} (hq : pu_q h) : h &&& 1 = if pu_bit h 0 = true then 1 else 0 := by
  rcases hq with rfl | rfl | rfl | rfl <;> decide
theorem pu_bit_1 {h : Int32} (hq : pu_q h) : (h >>> (1 &&& 31)) &&& 1 = if pu_bit h 1 = true then 1 else 0 := by
  rcases hq with rfl | rfl | rfl | rfl <;> decide
theorem pu_bit_and {p q : Int32} {i : Nat} (hp : pu_q p) (hq : pu_q q) (hi : i < 2) : pu_bit (p &&& q) i = (pu_bit p i && pu_bit q i) ∧ pu_q (p &&& q) := by
  rcases (show i = 0 ∨ i = 1 by omega) with rfl | rfl <;> rcases hp with rfl | rfl | rfl | rfl <;> rcases hq with rfl | rfl | rfl | rfl <;> (unfold pu_q; decide)
abbrev sp_hb (S : ra_W) (i r : Nat) : Bool := pu_bit (S 4 r) i
def sp_hq (n : Nat) (S : ra_W) : Prop := ∀ r, r < n → pu_q (S 4 r)
def sp_fr (n : Nat) (T S : ra_W) (i : Nat) : Int32 := T 1 i - nI (pu_cnt (sp_hb S i) n)
theorem pu_subs (c : Int32) (p : Nat) (q : Bool) : c - nI p - (if q = true then 1 else 0) = c - nI (p + (if q = true then 1 else 0)) := by
  cases q
  · simp
  · simp only [if_true]
    rw [nI_succ]
    grind
theorem q4_free_loop {k a b n i : Nat} {w T S : ra_W} (hi : i < 2) (hq : sp_hq n S) (hT : cNet w a n T) (h : cSt w b n S) (hn : n ≤ 7) : ∀ (d j m : Nat), j + d = n → d + 1 ≤ m → fX4_free k b a m 1 (nI i) (T 1 i - nI (pu_cnt (sp_hb S i) j)) (nI j) w = some (sp_fr n T S i, w) := by
  intro d
  induction d with
  | zero =>
    intro j m hj hm
    obtain ⟨m, rfl⟩ : ∃ q, m = q + 1 := ⟨m - 1, by omega⟩
    have hin : j = n := by omega
    subst hin
    rw [fX4_free_1, hT.1, if_pos (nI_le (Nat.le_refl j) (by omega))]
    rfl
  | succ d ih =>
    intro j m hj hm
    obtain ⟨m, rfl⟩ : ∃ q, m = q + 1 := ⟨m - 1, by omega⟩
    rw [fX4_free_1, hT.1, if_neg (nI_ge (by omega) (by omega)), if_pos (pu_in (by omega) (by decide)), pu_ix (by omega), h.2.2.2.2.1 j (by omega), pu_bit_sh (hq j (by omega)) hi, nI_1, pu_subs]
    exact ih (j + 1) m (by omega) (by omega)
theorem q4_free {k a b n i : Nat} {w T S : ra_W} (hk : 20 ≤ k) (hi : i < 2) (hq : sp_hq n S) (hT : cNet w a n T) (h : cSt w b n S) (hn : n ≤ 7) : FX4_free k b a (nI i) w = some (sp_fr n T S i, w) := by
  obtain ⟨k, rfl⟩ : ∃ q, k = q + 1 := ⟨k - 1, by omega⟩
  unfold FX4_free
  rw [fX4_free_0, if_pos (pu_in hi (by decide)), pu_ix (by omega), hT.2.2.2.1 i hi]
  have := q4_free_loop (k := k + 1) hi hq hT h hn n 0 k (by omega) (by omega)
  have e : T 1 i - nI (pu_cnt (sp_hb S i) 0) = T 1 i := by
    show T 1 i - nI 0 = T 1 i
    rw [nI_0]
    grind
  rw [e] at this
  exact this
def sp_full (n : Nat) (T S : ra_W) : Int32 := (if 1 ≤ sp_fr n T S 0 then 0 else 1) ||| (if 1 ≤ sp_fr n T S 1 then 0 else 2)
theorem q4_full_loop {k a b n : Nat} {w T S : ra_W} (hq : sp_hq n S) (hT : cNet w a n T) (h : cSt w b n S) (hn : n ≤ 7) : ∀ (d j m : Nat), j + d = n → d + 3 ≤ m → fX4_fullSites k b a m 1 (T 1 0 - nI (pu_cnt (sp_hb S 0) j)) (T 1 1 - nI (pu_cnt (sp_hb S 1) j)) (nI j) 0 0 w = some (sp_full n T S, w) := by
  intro d
  induction d with
  | zero =>
    intro j m hj hm
    obtain ⟨m, rfl⟩ : ∃ q, m = q + 1 + 1 + 1 := ⟨m - 3, by omega⟩
    have hin : j = n := by omega
    subst hin
    rw [fX4_fullSites_1, hT.1, if_pos (nI_le (Nat.le_refl j) (by omega)), fX4_fullSites_2, fX4_fullSites_2, fX4_fullSites_3, fX4_fullSites_3, fX4_fullSites_3, fX4_fullSites_3]
    unfold sp_full sp_fr
    grind
  | succ d ih =>
    intro j m hj hm
    obtain ⟨m, rfl⟩ : ∃ q, m = q + 1 := ⟨m - 1, by omega⟩
    rw [fX4_fullSites_1, hT.1, if_neg (nI_ge (by omega) (by omega)), if_pos (pu_in (by omega) (by decide)), pu_ix (by omega), h.2.2.2.2.1 j (by omega), pu_bit_0 (hq j (by omega)), pu_bit_1 (hq j (by omega)), nI_1, pu_subs, pu_subs]
    exact ih (j + 1) m (by omega) (by omega)
theorem q4_full {k a b n : Nat} {w T S : ra_W} (hk : 20 ≤ k) (hq : sp_hq n S) (hT : cNet w a n T) (h : cSt w b n S) (hn : n ≤ 7) : FX4_fullSites k b a w = some (sp_full n T S, w) := by
  obtain ⟨k, rfl⟩ : ∃ q, k = q + 1 := ⟨k - 1, by omega⟩
  unfold FX4_fullSites
  rw [fX4_fullSites_0, hT.2.2.2.1 0 (by decide), hT.2.2.2.1 1 (by decide)]
  have := q4_full_loop (k := k + 1) hq hT h hn n 0 k (by omega) (by omega)
  have e : ∀ i, T 1 i - nI (pu_cnt (sp_hb S i) 0) = T 1 i := by
    intro i
    show T 1 i - nI 0 = T 1 i
    rw [nI_0]
    grind
  rw [e, e] at this
  exact this
