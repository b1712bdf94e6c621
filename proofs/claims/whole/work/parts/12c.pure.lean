/-! THE HISTORY -/
theorem q1_record {k n kn t : Nat} {w S : ra_W} {H : Nat → ra_W} {Ht : Nat → Nat} (hk : 2 ≤ k) (hn : n ≤ 7) (hkn : kn ≤ 12) (hS : cSt w 16 n S) (ht : w 16 6 = nI t) (h : cH w n kn H Ht) : ∃ w', FX1_record k 16 w = some (0, w') ∧ cH w' n (min 12 (kn + 1)) (pu_push S H) (pu_push t Ht) ∧ (∀ c, c ≠ 30 → (c < 50 ∨ 133 < c) → w' c = w c) := by
  obtain ⟨k, rfl⟩ : ∃ q, k = q + 1 := ⟨k - 1, by omega⟩
  obtain ⟨nx, h1, h2, h3, h4⟩ := h
  unfold FX1_record
  rw [fX1_record_0, h3, if_pos (pu_in h1 (by decide)), pu_ix (by omega), show ra_rs 31 nx = 50 + 7 * nx from if_pos rfl]
  obtain ⟨w3, g1, g2⟩ := q4_copy (k := k + 1) (b0 := 50 + 7 * nx) (b1 := 16) (w := w) (by omega) (by omega)
  rw [g1]
  simp only [ra_bind]
  have e30 : w3 30 = w 30 := g2.2.2.2 30 (by omega)
  rw [e30, h3, nI_1, pu_mod12 (by omega)]
  have e0 : ra_st w3 30 2 (nI ((nx + 1) % 12)) 30 0 = nI kn := by rw [pu_st, if_neg (by decide), e30, h2]
  rw [e0, nI_1]
  have em : (if nI (kn + 1) < 12 then nI (kn + 1) else 12) = nI (min 12 (kn + 1)) := by
    rcases Nat.lt_or_ge (kn + 1) 12 with q | q
    · rw [if_pos (show nI (kn + 1) < 12 from nI_lt (b := 12) q (by decide)), Nat.min_eq_right (by omega)]
    · rw [if_neg (show ¬ nI (kn + 1) < 12 from nI_nlt (b := 12) q (by omega)), Nat.min_eq_left q]
      rfl
  rw [em]
  refine ⟨_, rfl, ⟨(nx + 1) % 12, by omega, by rw [pu_st_eq], by rw [pu_st, if_neg (by decide), pu_st_eq], fun j hj => ?_⟩, fun c a b => ?_⟩
  · have hx : ∀ c, c ≠ 30 → ra_st (ra_st w3 30 2 (nI ((nx + 1) % 12))) 30 0 (nI (min 12 (kn + 1))) c = w3 c := fun c a => by rw [pu_st_ne a, pu_st_ne a]
    cases j with
    | zero =>
      have e : pu_rg ((nx + 1) % 12) 0 = 50 + 7 * nx := by unfold pu_rg; omega
      rw [e]
      refine ⟨cSt_x (cSt_cq hn hS g2) (fun x a b => hx x (by omega)), ?_⟩
      rw [hx _ (by omega), g2.2.2.1 6 (by omega) (by omega)]
      exact ht
    | succ j =>
      have e : pu_rg ((nx + 1) % 12) (j + 1) = pu_rg nx j := by unfold pu_rg; omega
      have hd : pu_rg nx j + 6 < 50 + 7 * nx ∨ 50 + 7 * nx + 6 < pu_rg nx j := by unfold pu_rg; omega
      have hb := @pu_rg_b nx j
      rw [e]
      have hw : ∀ x, pu_rg nx j ≤ x → x ≤ pu_rg nx j + 6 → ra_st (ra_st w3 30 2 (nI ((nx + 1) % 12))) 30 0 (nI (min 12 (kn + 1))) x = w x := fun x a b => by rw [hx x (by omega), g2.2.2.2 x (by omega)]
      refine ⟨cSt_x (h4 j (by omega)).1 hw, ?_⟩
      rw [hw _ (by omega) (by omega)]
      exact (h4 j (by omega)).2
  · rw [pu_st_ne a, pu_st_ne a, g2.2.2.2 c (by omega)]
theorem q1_bringBack {k n kn : Nat} {w : ra_W} {H : Nat → ra_W} {Ht : Nat → Nat} (hk : 2 ≤ k) (hn : n ≤ 7) (hkn : kn < 12) (h : cH w n (kn + 1) H Ht) : ∃ w', FX1_bringBack k 16 w = some (1, w') ∧ cSt w' 16 n (H 0) ∧ w' 16 6 = nI (Ht 0) ∧ cH w' n kn (fun j => H (j + 1)) (fun j => Ht (j + 1)) ∧ w' 30 0 = nI kn ∧ (∀ c, c ≠ 30 → (c < 16 ∨ 22 < c) → w' c = w c) := by
  obtain ⟨k, rfl⟩ : ∃ q, k = q + 1 := ⟨k - 1, by omega⟩
  obtain ⟨nx, h1, h2, h3, h4⟩ := h
  unfold FX1_bringBack
  rw [fX1_bringBack_0, h2, if_pos (show (1 : Int32) ≤ nI (kn + 1) from nI_le (a := 1) (by omega) (by omega)), nI_pred]
  have e2 : ra_st w 30 0 (nI kn) 30 2 = nI nx := by rw [pu_st, if_neg (by decide), h3]
  have e3 : nI nx + 12 - 1 = nI (nx + 11) := by
    rw [show (12 : Int32) = nI 12 from rfl, nI_add, show nx + 12 = (nx + 11) + 1 by omega, nI_pred]
  rw [e2, e3, pu_mod12 (by omega), pu_st_eq, if_pos (pu_in (by omega) (by decide)), pu_ix (by omega), show ra_rs 31 ((nx + 11) % 12) = 50 + 7 * ((nx + 11) % 12) from if_pos rfl]
  have hx : ∀ c, c ≠ 30 → ra_st (ra_st w 30 0 (nI kn)) 30 2 (nI ((nx + 11) % 12)) c = w c := fun c a => by rw [pu_st_ne a, pu_st_ne a]
  obtain ⟨w3, g1, g2⟩ := q4_copy (k := k + 1) (b0 := 16) (b1 := 50 + 7 * ((nx + 11) % 12)) (w := ra_st (ra_st w 30 0 (nI kn)) 30 2 (nI ((nx + 11) % 12))) (by omega) (by omega)
  rw [g1]
  simp only [ra_bind]
  have e0 : pu_rg nx 0 = 50 + 7 * ((nx + 11) % 12) := by unfold pu_rg; omega
  obtain ⟨p1, p2⟩ := h4 0 (by omega)
  rw [e0] at p1 p2
  have e30 : w3 30 0 = nI kn := by rw [g2.2.2.2 30 (by omega), pu_st, if_neg (by decide), pu_st_eq]
  refine ⟨w3, rfl, cSt_cq hn (cSt_x p1 (fun x a b => hx x (by omega))) g2, ?_, ⟨(nx + 11) % 12, by omega, e30, ?_, fun j hj => ?_⟩, e30, fun c a b => ?_⟩
  · rw [g2.2.2.1 6 (by omega) (by omega), hx _ (by omega)]
    exact p2
  · rw [g2.2.2.2 30 (by omega), pu_st_eq]
  · have e : pu_rg ((nx + 11) % 12) j = pu_rg nx (j + 1) := by unfold pu_rg; omega
    have hb := @pu_rg_b nx (j + 1)
    have hw : ∀ x, pu_rg nx (j + 1) ≤ x → x ≤ pu_rg nx (j + 1) + 6 → w3 x = w x := fun x a b => by rw [g2.2.2.2 x (by omega), hx x (by omega)]
    rw [e]
    refine ⟨cSt_x (h4 (j + 1) (by omega)).1 hw, ?_⟩
    rw [hw _ (by omega) (by omega)]
    exact (h4 (j + 1) (by omega)).2
  · rw [g2.2.2.2 c (by omega), hx c a]
theorem q1_bringBack0 {k n : Nat} {w : ra_W} {H : Nat → ra_W} {Ht : Nat → Nat} (hk : 2 ≤ k) (h : cH w n 0 H Ht) : FX1_bringBack k 16 w = some (0, w) := by
  obtain ⟨k, rfl⟩ : ∃ q, k = q + 1 := ⟨k - 1, by omega⟩
  obtain ⟨nx, h1, h2, h3, h4⟩ := h
  unfold FX1_bringBack
  rw [fX1_bringBack_0, h2, if_neg (by decide)]
/-- the model's notes -/
theorem m6_shift_loop {k : Nat} {w0 : ra_W} : ∀ (d i m : Nat) (w : ra_W), i + d = 451 → (∀ j, w 141 j = if j < i then w0 141 (j + 41) else w0 141 j) → (∀ c, c ≠ 141 → w c = w0 c) → ∃ w', fX6_notes k (m + d + 2) 1 (nI i) w = fX6_notes k m 3 0 w' ∧ (∀ j, w' 141 j = if j < 451 then w0 141 (j + 41) else w0 141 j) ∧ (∀ c, c ≠ 141 → c ≠ 134 → w' c = w0 c) ∧ (∀ i, i ≠ 15 → w' 134 i = w0 134 i) ∧ w' 134 15 = 11 := by
  intro d
  induction d with
  | zero =>
    intro i m w hi h1 h2
    have hin : i = 451 := by omega
    subst hin
    rw [show m + 0 + 2 = m + 1 + 1 by omega, fX6_notes_1, if_pos (by decide), fX6_notes_2]
    exact ⟨_, rfl, fun j => by rw [pu_st_ne (by decide)]; exact h1 j, fun c a b => by rw [pu_st_ne b]; exact h2 c a, fun i a => by rw [pu_st, if_neg (by omega), h2 134 (by decide)], by rw [pu_st_eq]⟩
  | succ d ih =>
    intro i m w hi h1 h2
    rw [show m + (d + 1) + 2 = (m + d + 2) + 1 by omega, fX6_notes_1, if_neg (show ¬ (451 : Int32) ≤ nI i from nI_ge (b := 451) (by omega) (by decide)), show nI i + 41 = nI (i + 41) from nI_add i 41, if_pos (pu_in (by omega) (by decide)), if_pos (pu_in (by omega) (by decide)), pu_ix (by omega), pu_ix (by omega), nI_1]
    refine ih (i + 1) m _ (by omega) (fun j => ?_) (fun c a => by rw [pu_st_ne a]; exact h2 c a)
    rw [pu_st, h1 (i + 41), if_neg (show ¬ i + 41 < i by omega)]
    by_cases e : j = i
    · subst e
      rw [if_pos ⟨rfl, rfl⟩, if_pos (by omega)]
    · rw [if_neg (fun z => e z.2), h1 j]
      by_cases q : j < i
      · rw [if_pos q, if_pos (by omega)]
      · rw [if_neg q, if_neg (by omega)]
theorem m6_note_loop {k q : Nat} {w0 : ra_W} (hq : q < 12) : ∀ (d i m : Nat) (w : ra_W), i + d = 41 → d + 1 ≤ m → w 134 15 = nI q → (∀ j, w 141 j = if 41 * q ≤ j ∧ j < 41 * q + i then w0 139 (j - 41 * q) else w0 141 j) → (∀ c, c ≠ 141 → w c = w0 c) → ∃ w', fX6_notes k m 3 (nI i) w = some (0, w') ∧ (∀ j, w' 141 j = if 41 * q ≤ j ∧ j < 41 * q + 41 then w0 139 (j - 41 * q) else w0 141 j) ∧ (∀ c, c ≠ 141 → c ≠ 134 → w' c = w0 c) ∧ (∀ i, i ≠ 15 → w' 134 i = w0 134 i) ∧ w' 134 15 = nI (q + 1) := by
  intro d
  induction d with
  | zero =>
    intro i m w hi hm h15 h1 h2
    obtain ⟨m, rfl⟩ : ∃ q, m = q + 1 := ⟨m - 1, by omega⟩
    have hin : i = 41 := by omega
    subst hin
    rw [fX6_notes_3, if_pos (by decide), h15, nI_1]
    exact ⟨_, rfl, fun j => by rw [pu_st_ne (by decide)]; exact h1 j, fun c a b => by rw [pu_st_ne b]; exact h2 c a, fun i a => by rw [pu_st, if_neg (by omega), h2 134 (by decide)], by rw [pu_st_eq]⟩
  | succ d ih =>
    intro i m w hi hm h15 h1 h2
    obtain ⟨m, rfl⟩ : ∃ q, m = q + 1 := ⟨m - 1, by omega⟩
    have e41 : (41 : Int32) * nI q + nI i = nI (41 * q + i) := by
      rw [show (41 : Int32) * nI q = nI (41 * q) from (Int32.ofNat_mul 41 q).symm, nI_add]
    rw [fX6_notes_3, if_neg (show ¬ (41 : Int32) ≤ nI i from nI_ge (b := 41) (by omega) (by decide)), if_pos (pu_in (by omega) (by decide)), h15, e41, if_pos (pu_in (by omega) (by decide)), pu_ix (by omega), pu_ix (by omega), nI_1, h2 139 (by decide)]
    refine ih (i + 1) m _ (by omega) (by omega) (by rw [pu_st_ne (by decide)]; exact h15) (fun j => ?_) (fun c a => by rw [pu_st_ne a]; exact h2 c a)
    rw [pu_st, h1 j]
    by_cases e : j = 41 * q + i
    · subst e
      rw [if_pos ⟨rfl, rfl⟩, if_pos (by omega), Nat.add_sub_cancel_left]
    · rw [if_neg (fun z => e z.2)]
      by_cases z : 41 * q ≤ j ∧ j < 41 * q + i
      · rw [if_pos z, if_pos (by omega)]
      · rw [if_neg z, if_neg (by omega)]
theorem m6_notes {k n kn t : Nat} {w S : ra_W} {H : Nat → ra_W} {Ht : Nat → Nat} (hk : 600 ≤ k) (hn : n ≤ 7) (hkn : kn ≤ 12) (hS : mSt w 139 n S) (ht : w 139 2 = nI t) (h : mH w n kn H Ht) : ∃ w', FX6_notes k w = some (0, w') ∧ mH w' n (min 12 (kn + 1)) (pu_push S H) (pu_push t Ht) ∧ (∀ c, c ≠ 141 → c ≠ 134 → w' c = w c) ∧ (∀ i, i ≠ 15 → w' 134 i = w 134 i) := by
  obtain ⟨k, rfl⟩ : ∃ q, k = q + 1 := ⟨k - 1, by omega⟩
  obtain ⟨h1, h2⟩ := h
  unfold FX6_notes
  have fin : ∀ (q m : Nat) (u : ra_W), q < 12 → 42 ≤ m → q + 1 = min 12 (kn + 1) → u 134 15 = nI q → (∀ c, c ≠ 141 → c ≠ 134 → u c = w c) → (∀ i, i ≠ 15 → u 134 i = w 134 i) → (∀ j, j < q → (∀ i, i < 41 → u 141 (41 * (q - 1 - j) + i) = w 141 (41 * (kn - 1 - j) + i))) → ∃ w', fX6_notes (k + 1) m 3 0 u = some (0, w') ∧ mH w' n (min 12 (kn + 1)) (pu_push S H) (pu_push t Ht) ∧ (∀ c, c ≠ 141 → c ≠ 134 → w' c = w c) ∧ (∀ i, i ≠ 15 → w' 134 i = w 134 i) := by
    intro q m u hq hm hqe h15 f1 f2 hh
    obtain ⟨w', g1, g2, g3, g4, g5⟩ := m6_note_loop (k := k + 1) (q := q) (w0 := u) hq 41 0 m u (by omega) (by omega) h15 (fun j => by rw [if_neg (by omega)]) (fun c a => rfl)
    refine ⟨w', g1, ⟨by rw [g5, hqe], fun j hj => ?_⟩, fun c a b => (g3 c a b).trans (f1 c a b), fun i a => (g4 i a).trans (f2 i a)⟩
    rw [← hqe] at hj ⊢
    have e139 : u 139 = w 139 := f1 139 (by decide) (by decide)
    cases j with
    | zero =>
      have row : ∀ i, i < 41 → w' 141 (41 * (q + 1 - 1 - 0) + i) = w 139 i := fun i hi => by
        rw [g2, if_pos (by omega), show 41 * (q + 1 - 1 - 0) + i - 41 * q = i by omega, e139]
      exact ⟨mRow_c (f := w 139) hn hS (fun i hi => row i hi), by rw [row 2 (by omega)]; exact ht⟩
    | succ j =>
      have row : ∀ i, i < 41 → w' 141 (41 * (q + 1 - 1 - (j + 1)) + i) = w 141 (41 * (kn - 1 - j) + i) := fun i hi => by
        rw [g2, if_neg (by omega), ← hh j (by omega) i hi, show q + 1 - 1 - (j + 1) = q - 1 - j by omega]
      exact ⟨mRow_c hn (h2 j (by omega)).1 (fun i hi => row i hi), by rw [row 2 (by omega)]; exact (h2 j (by omega)).2⟩
  rw [fX6_notes_0, h1]
  by_cases e : kn = 12
  · subst e
    rw [if_pos (by decide)]
    obtain ⟨m, rfl⟩ : ∃ q, k = q + 451 + 2 := ⟨k - 453, by omega⟩
    obtain ⟨u, g1, g2, g3, g4, g5⟩ := m6_shift_loop (k := m + 451 + 2 + 1) (w0 := w) 451 0 m w (by omega) (fun j => by rw [if_neg (by omega)]) (fun _ _ => rfl)
    obtain ⟨w', f1, f2⟩ := fin 11 m u (by omega) (by omega) (by omega) g5 g3 g4 (fun j hj i hi => by rw [g2, if_pos (by omega), show 41 * (11 - 1 - j) + i + 41 = 41 * (12 - 1 - j) + i by omega])
    exact ⟨w', g1.trans f1, f2⟩
  · have hne : ¬ nI kn = 12 := fun z => e ((nI_eq (b := 12) (by omega) (by decide)).mp z)
    obtain ⟨m, rfl⟩ : ∃ q, k = q + 1 := ⟨k - 1, by omega⟩
    rw [if_neg hne, fX6_notes_2]
    exact fin kn m w (by omega) (by omega) (by omega) h1 (fun _ _ _ => rfl) (fun _ _ => rfl) (fun j hj i hi => rfl)
