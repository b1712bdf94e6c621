/-- the line of the queued ones -/
def pu_up (l : Nat → Nat) (k v : Nat) : Nat → Nat := fun j => if j = k then v else l j
def sp_shift (T S : ra_W) (r : Nat) : Nat → (Nat → Nat) → (Nat → Nat)
  | 0, l => pu_up l 0 r
  | p + 1, l => if sp_ahead T S r (l p) then sp_shift T S r p (pu_up l (p + 1) (l p)) else pu_up l (p + 1) r
theorem sp_shift_lt {T S : ra_W} {r N c : Nat} (hr : r < N) : ∀ (p : Nat) (l : Nat → Nat), p ≤ c → (∀ j, j ≤ c → j ≠ p → l j < N) → ∀ j, j ≤ c → sp_shift T S r p l j < N
  | 0, l, _, h, j, hj => by
    simp only [sp_shift, pu_up]
    split
    · exact hr
    · exact h j hj (by assumption)
  | p + 1, l, hp, h, j, hj => by
    simp only [sp_shift]
    split
    · refine sp_shift_lt hr p _ (by omega) (fun j hj hne => ?_) j hj
      simp only [pu_up]
      split
      · exact h p (by omega) (by omega)
      · exact h j hj (by assumption)
    · simp only [pu_up]
      split
      · exact hr
      · exact h j hj (by assumption)
/-- all apart: the line's entries differ, and the newcomer is none of them -/
theorem sp_shift_ne {T S : ra_W} {r c : Nat} : ∀ (p : Nat) (l : Nat → Nat), p ≤ c → (∀ j, j ≤ c → j ≠ p → l j ≠ r) → (∀ i j, i ≤ c → j ≤ c → i ≠ p → j ≠ p → i ≠ j → l i ≠ l j) → ∀ i j, i ≤ c → j ≤ c → i ≠ j → sp_shift T S r p l i ≠ sp_shift T S r p l j
  | 0, l, _, h, h2, i, j, hi, hj, hij => by
    simp only [sp_shift, pu_up]
    grind
  | p + 1, l, hp, h, h2, i, j, hi, hj, hij => by
    simp only [sp_shift]
    split
    · refine sp_shift_ne p _ (by omega) ?_ ?_ i j hi hj hij
      · simp only [pu_up]
        grind
      · simp only [pu_up]
        grind
    · simp only [pu_up]
      grind
def sp_line (T S : ra_W) : Nat → (Nat → Nat) × Nat
  | 0 => (fun _ => 0, 0)
  | r + 1 => if S 1 r = 3 then (sp_shift T S r (sp_line T S r).2 (sp_line T S r).1, (sp_line T S r).2 + 1) else sp_line T S r
theorem sp_line_le (T S : ra_W) : ∀ n, (sp_line T S n).2 ≤ n
  | 0 => Nat.le_refl 0
  | n + 1 => by
    have := sp_line_le T S n
    simp only [sp_line]
    split
    · show (sp_line T S n).2 + 1 ≤ n + 1
      omega
    · omega
theorem sp_line_lt (T S : ra_W) : ∀ n j, j < (sp_line T S n).2 → (sp_line T S n).1 j < n
  | 0, j, h => by simp [sp_line] at h
  | n + 1, j, h => by
    have ih := sp_line_lt T S n
    simp only [sp_line] at h ⊢
    split
    · rename_i h3
      rw [if_pos h3] at h
      exact sp_shift_lt (N := n + 1) (c := (sp_line T S n).2) (by omega) _ _ (Nat.le_refl _) (fun i hi hne => by have := ih i (by omega); omega) j (by have : j < (sp_line T S n).2 + 1 := h; omega)
    · rename_i h3
      rw [if_neg h3] at h
      have := ih j h
      omega
theorem sp_line_ne (T S : ra_W) : ∀ n i j, i < (sp_line T S n).2 → j < (sp_line T S n).2 → i ≠ j → (sp_line T S n).1 i ≠ (sp_line T S n).1 j
  | 0, i, j, h, _, _ => by simp [sp_line] at h
  | n + 1, i, j, hi, hj, hij => by
    have ih := sp_line_ne T S n
    have il := sp_line_lt T S n
    simp only [sp_line] at hi hj ⊢
    split
    · rename_i h3
      rw [if_pos h3] at hi hj
      have hi : i < (sp_line T S n).2 + 1 := hi
      have hj : j < (sp_line T S n).2 + 1 := hj
      exact sp_shift_ne (c := (sp_line T S n).2) _ _ (Nat.le_refl _) (fun q hq hne => by have := il q (by omega); omega) (fun x y hx hy a b c => ih x y (by omega) (by omega) c) i j (by omega) (by omega) hij
    · rename_i h3
      rw [if_neg h3] at hi hj
      exact ih i j hi hj hij
/-- each that stands in the line is queued -/
theorem sp_shift_in {T S : ra_W} {r c : Nat} {P : Nat → Prop} (hr : P r) : ∀ (p : Nat) (l : Nat → Nat), p ≤ c → (∀ j, j ≤ c → j ≠ p → P (l j)) → ∀ j, j ≤ c → P (sp_shift T S r p l j)
  | 0, l, _, h, j, hj => by
    simp only [sp_shift, pu_up]
    split
    · exact hr
    · exact h j hj (by assumption)
  | p + 1, l, hp, h, j, hj => by
    simp only [sp_shift]
    split
    · refine sp_shift_in hr p _ (by omega) (fun j hj hne => ?_) j hj
      simp only [pu_up]
      split
      · exact h p (by omega) (by omega)
      · exact h j hj (by assumption)
    · simp only [pu_up]
      split
      · exact hr
      · exact h j hj (by assumption)
theorem sp_line_q (T S : ra_W) : ∀ n j, j < (sp_line T S n).2 → S 1 ((sp_line T S n).1 j) = 3
  | 0, j, h => by simp [sp_line] at h
  | n + 1, j, h => by
    have ih := sp_line_q T S n
    simp only [sp_line] at h ⊢
    split
    · rename_i h3
      rw [if_pos h3] at h
      exact sp_shift_in (P := fun q => S 1 q = 3) (c := (sp_line T S n).2) h3 _ _ (Nat.le_refl _) (fun i hi hne => ih i (by omega)) j (by have : j < (sp_line T S n).2 + 1 := h; omega)
    · rename_i h3
      rw [if_neg h3] at h
      exact ih j h
def pu_on (w : ra_W) (c m : Nat) (l : Nat → Nat) : Prop := ∀ j, j < m → w c j = nI (l j)
theorem q0_shift {k a b n : Nat} {T S : ra_W} {r c : Nat} (hk : 1 ≤ k) (hn : n ≤ 7) (hab : a + 4 < b) (ha : a < 10) (hb : 15 < b) (hr : r < n) (hc : c ≤ r) : ∀ (p m : Nat) (w : ra_W) (l : Nat → Nat), p ≤ c → p + 2 ≤ m → cNet w a n T → cSt w b n S → (∀ j, j ≤ c → j ≠ p → w 14 j = nI (l j) ∧ l j < n) → ∃ (m' : Nat) (w' : ra_W), fX0_lineUp k a b m 2 (nI c) (nI r) (nI p) w = fX0_lineUp k a b m' 4 (nI (c + 1)) (nI r) 0 w' ∧ m ≤ m' + p + 2 ∧ pu_on w' 14 (c + 1) (sp_shift T S r p l) ∧ (∀ x, x ≠ 14 → w' x = w x) := by
  have fin : ∀ (p m : Nat) (w : ra_W) (l : Nat → Nat), p ≤ c → 1 ≤ m → (∀ j, j ≤ c → j ≠ p → w 14 j = nI (l j) ∧ l j < n) → ∃ (m' : Nat) (w' : ra_W), fX0_lineUp k a b m 3 (nI c) (nI r) (nI p) w = fX0_lineUp k a b m' 4 (nI (c + 1)) (nI r) 0 w' ∧ m ≤ m' + 1 ∧ pu_on w' 14 (c + 1) (pu_up l p r) ∧ (∀ x, x ≠ 14 → w' x = w x) := by
    intro p m w l hp hm h
    obtain ⟨m, rfl⟩ : ∃ q, m = q + 1 := ⟨m - 1, by omega⟩
    rw [fX0_lineUp_3, if_pos (pu_in (by omega) (by decide)), pu_ix (by omega), nI_1]
    refine ⟨m, _, rfl, by omega, fun j hj => ?_, fun x hx => pu_st_ne hx⟩
    simp only [pu_st, pu_up]
    by_cases e : j = p
    · simp [e]
    · simp [e, h j (by omega) e]
  intro p
  induction p with
  | zero =>
    intro m w l hp hm hT hw h
    obtain ⟨m, rfl⟩ : ∃ q, m = q + 1 := ⟨m - 1, by omega⟩
    rw [fX0_lineUp_2, if_pos (by decide)]
    obtain ⟨m', w', g1, g2, g3, g4⟩ := fin 0 m w l hp (by omega) h
    exact ⟨m', w', g1, by omega, g3, g4⟩
  | succ p ih =>
    intro m w l hp hm hT hw h
    obtain ⟨m, rfl⟩ : ∃ q, m = q + 1 := ⟨m - 1, by omega⟩
    have hl := h p (by omega) (by omega)
    rw [fX0_lineUp_2, if_neg (nI_nle (by omega) (by omega)), nI_pred, if_pos (pu_in (by omega) (by decide)), pu_ix (by omega), hl.1, q0_isAhead hk hn hr hl.2 hT hw]
    simp only [ra_bind]
    by_cases hah : sp_ahead T S r (l p)
    · rw [if_pos hah, if_neg (by decide), if_pos (pu_in (by omega) (by decide)), pk_m1, pu_ix (by omega), hl.1]
      have hx : ∀ x, x ≠ 14 → ra_st w 14 (p + 1) (nI (l p)) x = w x := fun x hx => pu_st_ne hx
      have hT2 : cNet (ra_st w 14 (p + 1) (nI (l p))) a n T := cNet_x hT (fun x q1 q2 => hx x (by omega))
      have hw2 : cSt (ra_st w 14 (p + 1) (nI (l p))) b n S := by
        unfold cSt at hw ⊢
        rw [hx b (by omega), hx (b + 1) (by omega), hx (b + 2) (by omega), hx (b + 3) (by omega), hx (b + 4) (by omega), hx (b + 5) (by omega), hx (b + 6) (by omega)]
        exact hw
      obtain ⟨m', w', g1, g2, g3, g4⟩ := ih m _ (pu_up l (p + 1) (l p)) (by omega) (by omega) hT2 hw2 (fun j hj hne => by
        simp only [pu_st, pu_up]
        by_cases e : j = p + 1
        · simp [e, hl.2]
        · simp [e, h j hj e])
      refine ⟨m', w', g1, by omega, ?_, fun x hx2 => (g4 x hx2).trans (hx x hx2)⟩
      simp only [sp_shift]
      rw [if_pos hah]
      exact g3
    · rw [if_neg hah, if_pos rfl]
      obtain ⟨m', w', g1, g2, g3, g4⟩ := fin (p + 1) m w l hp (by omega) h
      refine ⟨m', w', g1, by omega, ?_, g4⟩
      simp only [sp_shift]
      rw [if_neg hah]
      exact g3
theorem cSt_x {w w' : ra_W} {b n : Nat} {S : ra_W} (h : cSt w b n S) (hx : ∀ x, b ≤ x → x ≤ b + 6 → w' x = w x) : cSt w' b n S := by
  unfold cSt at h ⊢
  rw [hx b (by omega) (by omega), hx (b + 1) (by omega) (by omega), hx (b + 2) (by omega) (by omega), hx (b + 3) (by omega) (by omega), hx (b + 4) (by omega) (by omega), hx (b + 5) (by omega) (by omega), hx (b + 6) (by omega) (by omega)]
  exact h
theorem q0_line_loop {k a b n : Nat} {T S : ra_W} (hk : 1 ≤ k) (hn : n ≤ 7) (hab : a + 4 < b) (ha : a < 10) (hb : 15 < b) : ∀ (d i m : Nat) (w : ra_W), i + d = n → 12 * d + 1 ≤ m → cNet w a n T → cSt w b n S → pu_on w 14 (sp_line T S i).2 (sp_line T S i).1 → ∃ w', fX0_lineUp k a b m 1 (nI (sp_line T S i).2) (nI i) 0 w = some (nI (sp_line T S n).2, w') ∧ pu_on w' 14 (sp_line T S n).2 (sp_line T S n).1 ∧ (∀ x, x ≠ 14 → w' x = w x) := by
  intro d
  induction d with
  | zero =>
    intro i m w hi hm hT hw hl
    obtain ⟨m, rfl⟩ : ∃ q, m = q + 1 := ⟨m - 1, by omega⟩
    have hin : i = n := by omega
    subst hin
    rw [fX0_lineUp_1, hT.1, if_pos (nI_le (Nat.le_refl i) (by omega))]
    exact ⟨w, rfl, hl, fun _ _ => rfl⟩
  | succ d ih =>
    intro i m w hi hm hT hw hl
    obtain ⟨m, rfl⟩ : ∃ q, m = q + 1 := ⟨m - 1, by omega⟩
    rw [fX0_lineUp_1, hT.1, if_neg (nI_ge (by omega) (by omega)), if_pos (pu_in (by omega) (by decide)), pu_ix (by omega), hw.2.1 i (by omega)]
    have hle := sp_line_le T S i
    by_cases h3 : S 1 i = 3
    · rw [if_pos h3]
      obtain ⟨m', w', g1, g2, g3, g4⟩ := q0_shift (k := k) (T := T) (S := S) hk hn hab ha hb (r := i) (c := (sp_line T S i).2) (by omega) hle (sp_line T S i).2 m w (sp_line T S i).1 (Nat.le_refl _) (by omega) hT hw (fun j hj hne => ⟨hl j (by omega), by have := sp_line_lt T S i j (by omega); omega⟩)
      have hs : sp_line T S (i + 1) = (sp_shift T S i (sp_line T S i).2 (sp_line T S i).1, (sp_line T S i).2 + 1) := by
        simp only [sp_line]
        rw [if_pos h3]
      obtain ⟨m'', rfl⟩ : ∃ q, m' = q + 1 := ⟨m' - 1, by omega⟩
      rw [g1, fX0_lineUp_4, nI_1]
      have ihh := ih (i + 1) m'' w' (by omega) (by omega) (cNet_x hT (fun x q1 q2 => g4 x (by omega))) (cSt_x hw (fun x q1 q2 => g4 x (by omega))) (by rw [hs]; exact g3)
      rw [hs] at ihh
      obtain ⟨w2, e1, e2, e3⟩ := ihh
      exact ⟨w2, e1, e2, fun x hx => (e3 x hx).trans (g4 x hx)⟩
    · rw [if_neg h3]
      obtain ⟨m, rfl⟩ : ∃ q, m = q + 1 := ⟨m - 1, by omega⟩
      have hs : sp_line T S (i + 1) = sp_line T S i := by
        simp only [sp_line]
        rw [if_neg h3]
      rw [fX0_lineUp_4, nI_1]
      have ihh := ih (i + 1) m w (by omega) (by omega) hT hw (by rw [hs]; exact hl)
      rw [hs] at ihh
      exact ihh
theorem q0_lineUp {k a b n : Nat} {w T S : ra_W} (hk : 100 ≤ k) (hn : n ≤ 7) (hab : a + 4 < b) (ha : a < 10) (hb : 15 < b) (hT : cNet w a n T) (h : cSt w b n S) : ∃ w', FX0_lineUp k a b w = some (nI (sp_line T S n).2, w') ∧ pu_on w' 14 (sp_line T S n).2 (sp_line T S n).1 ∧ (∀ x, x ≠ 14 → w' x = w x) := by
  obtain ⟨k, rfl⟩ : ∃ q, k = q + 1 := ⟨k - 1, by omega⟩
  unfold FX0_lineUp
  rw [fX0_lineUp_0]
  exact q0_line_loop (by omega) hn hab ha hb n 0 k w (by omega) (by omega) hT h (fun j hj => absurd hj (by simp [sp_line]))
/-- the sites that are needed -/
abbrev sp_oth (T S : ra_W) (s r e : Nat) : Bool := decide (S 0 e = nI (1 - s) ∧ T 2 e = T 2 r)
def sp_need (n : Nat) (T S : ra_W) (s r : Nat) : Int32 := if S 5 (1 - s) = -1 ∧ ¬ pu_lst (sp_oth T S s r) n = none then 3 else nI (s + 1)
theorem pu_one_sub {s : Nat} (hs : s < 2) : (1 : Int32) - nI s = nI (1 - s) := by
  rcases (show s = 0 ∨ s = 1 by omega) with rfl | rfl <;> decide
theorem pu_shl {s : Nat} (hs : s < 2) : (1 : Int32) <<< (nI s &&& 31) = nI (s + 1) := by
  rcases (show s = 0 ∨ s = 1 by omega) with rfl | rfl <;> decide
theorem q0_need_loop {k a b n : Nat} {w T S : ra_W} {s r : Nat} (hs : s < 2) (hr : r < n) (hT : cNet w a n T) (h : cSt w b n S) (hn : n ≤ 7) : ∀ (d i m : Nat), i + d = n → 2 * d + 2 ≤ m → (∀ j, j < i → sp_oth T S s r j = false) → fX0_sitesNeeded k a b m 1 (nI r) (nI s) (nI (1 - s)) (nI i) w = some (if ¬ pu_lst (sp_oth T S s r) n = none then 3 else nI (s + 1), w) := by
  intro d
  induction d with
  | zero =>
    intro i m hi hm hu
    obtain ⟨m, rfl⟩ : ∃ q, m = q + 1 + 1 := ⟨m - 2, by omega⟩
    have hin : i = n := by omega
    subst hin
    rw [fX0_sitesNeeded_1, hT.1, if_pos (nI_le (Nat.le_refl i) (by omega)), fX0_sitesNeeded_3, if_neg (fun q => q (pu_lst_none.mpr hu)), pu_shl hs]
  | succ d ih =>
    intro i m hi hm hu
    obtain ⟨m, rfl⟩ : ∃ q, m = q + 1 + 1 := ⟨m - 2, by omega⟩
    rw [fX0_sitesNeeded_1, hT.1, if_neg (nI_ge (by omega) (by omega)), if_pos (pu_in (by omega) (by decide)), if_pos (pu_in (by omega) (by decide)), pu_ix (by omega), pu_ix (by omega), h.1 i (by omega), hT.2.2.2.2.1 i (by omega), hT.2.2.2.2.1 r hr]
    by_cases hp : sp_oth T S s r i = true
    · have h1 : pu_lst (sp_oth T S s r) n = some i := pu_lst_stay hu hp (by omega)
      simp only [sp_oth, decide_eq_true_eq] at hp
      rw [if_pos hp.1, if_pos hp.2, h1]
      simp
    · have ihh := ih (i + 1) m (by omega) (by omega) (lt_s hu (by simpa using hp))
      simp only [sp_oth, decide_eq_true_eq] at hp
      rw [fX0_sitesNeeded_2, nI_1, ihh]
      grind
theorem q0_need {k a b n : Nat} {w T S : ra_W} {s r : Nat} (hk : 20 ≤ k) (hs : s < 2) (hr : r < n) (hsr : S 0 r = nI s) (hT : cNet w a n T) (h : cSt w b n S) (hn : n ≤ 7) : FX0_sitesNeeded k a b (nI r) w = some (sp_need n T S s r, w) := by
  obtain ⟨k, rfl⟩ : ∃ q, k = q + 1 + 1 := ⟨k - 2, by omega⟩
  unfold FX0_sitesNeeded
  rw [fX0_sitesNeeded_0, if_pos (pu_in (by omega) (by decide)), pu_ix (by omega), h.1 r hr, hsr, pu_one_sub hs, q4_hasControl (by omega) h (by omega)]
  simp only [ra_bind]
  by_cases h1 : S 5 (1 - s) = -1
  · rw [if_pos h1, if_neg (by decide)]
    refine (q0_need_loop hs hr hT h hn n 0 (k + 1) (by omega) (by omega) (fun j hj => absurd hj (by omega))).trans ?_
    unfold sp_need
    grind
  · rw [if_neg h1, if_pos rfl, fX0_sitesNeeded_3, pu_shl hs]
    unfold sp_need
    rw [if_neg (fun q => h1 q.1)]
