/-! COPIES -/
theorem pu_cp_ne {w : ra_W} {k0 sp k1 dp n c : Nat} (h : c ≠ k1) : ra_cp w k0 sp k1 dp n c = w c := by
  unfold ra_cp ra_up
  rw [if_neg h]
theorem pu_cp_eq {w : ra_W} {k0 k1 n i : Nat} (h : i < n) : ra_cp w k0 0 k1 0 n k1 i = w k0 i := by
  unfold ra_cp ra_up
  rw [if_pos rfl, pk_cpy_in (by omega) (by omega), Nat.zero_add, Nat.sub_zero]
/-- a state copied: b0 is as b1 was -/
def pu_cq (b0 b1 : Nat) (w w' : ra_W) : Prop := (∀ j i, 1 ≤ j → j ≤ 5 → i < 7 → w' (b0 + j) i = w (b1 + j) i) ∧ (∀ i, i < 2 → w' (b0 + 6) i = w (b1 + 6) i) ∧ (∀ i, 6 ≤ i → i ≤ 9 → w' b0 i = w b1 i) ∧ (∀ c, (c < b0 ∨ b0 + 6 < c) → w' c = w c)
theorem q4_copy {k b0 b1 : Nat} {w : ra_W} (hk : 1 ≤ k) (hd : b0 + 6 < b1 ∨ b1 + 6 < b0) : ∃ w', FX4_copy k b0 b1 w = some (0, w') ∧ pu_cq b0 b1 w w' := by
  obtain ⟨k, rfl⟩ : ∃ q, k = q + 1 := ⟨k - 1, by omega⟩
  unfold FX4_copy
  rw [fX4_copy_0]
  have key : ∀ w6 : ra_W, (∀ j i, 1 ≤ j → j ≤ 5 → i < 7 → w6 (b0 + j) i = w (b1 + j) i) → (∀ i, i < 2 → w6 (b0 + 6) i = w (b1 + 6) i) → (w6 b1 = w b1) → (∀ c, (c < b0 ∨ b0 + 6 < c) → w6 c = w c) → ∃ w', some ((0 : Int32), ra_st (ra_st (ra_st (ra_st w6 b0 6 (w6 b1 6)) b0 7 (ra_st w6 b0 6 (w6 b1 6) b1 7)) b0 8 (ra_st (ra_st w6 b0 6 (w6 b1 6)) b0 7 (ra_st w6 b0 6 (w6 b1 6) b1 7) b1 8)) b0 9 (ra_st (ra_st (ra_st w6 b0 6 (w6 b1 6)) b0 7 (ra_st w6 b0 6 (w6 b1 6) b1 7)) b0 8 (ra_st (ra_st w6 b0 6 (w6 b1 6)) b0 7 (ra_st w6 b0 6 (w6 b1 6) b1 7) b1 8) b1 9)) = some (0, w') ∧ pu_cq b0 b1 w w' := by
    intro w6 h1 h2 h3 h4
    have e : ∀ (u : ra_W) (i : Nat) (v : Int32), ra_st u b0 i v b1 = u b1 := fun u i v => pu_st_ne (by omega)
    refine ⟨_, rfl, fun j i a b c => ?_, fun i c => ?_, fun i a b => ?_, fun c a => ?_⟩
    · rw [pu_st_ne (by omega), pu_st_ne (by omega), pu_st_ne (by omega), pu_st_ne (by omega)]
      exact h1 j i a b c
    · rw [pu_st_ne (by omega), pu_st_ne (by omega), pu_st_ne (by omega), pu_st_ne (by omega)]
      exact h2 i c
    · simp only [e, h3]
      simp only [pu_st]
      rcases (show i = 6 ∨ i = 7 ∨ i = 8 ∨ i = 9 by omega) with rfl | rfl | rfl | rfl <;> simp
    · rw [pu_st_ne (by omega), pu_st_ne (by omega), pu_st_ne (by omega), pu_st_ne (by omega)]
      exact h4 c a
  refine key _ ?_ ?_ ?_ ?_
  · intro j i a b c
    rcases (show j = 1 ∨ j = 2 ∨ j = 3 ∨ j = 4 ∨ j = 5 by omega) with rfl | rfl | rfl | rfl | rfl
    · rw [pu_cp_ne (by omega), pu_cp_ne (by omega), pu_cp_ne (by omega), pu_cp_ne (by omega), pu_cp_ne (by omega), pu_cp_eq c]
    · rw [pu_cp_ne (by omega), pu_cp_ne (by omega), pu_cp_ne (by omega), pu_cp_ne (by omega), pu_cp_eq c, pu_cp_ne (by omega)]
    · rw [pu_cp_ne (by omega), pu_cp_ne (by omega), pu_cp_ne (by omega), pu_cp_eq c, pu_cp_ne (by omega), pu_cp_ne (by omega)]
    · rw [pu_cp_ne (by omega), pu_cp_ne (by omega), pu_cp_eq c, pu_cp_ne (by omega), pu_cp_ne (by omega), pu_cp_ne (by omega)]
    · rw [pu_cp_ne (by omega), pu_cp_eq c, pu_cp_ne (by omega), pu_cp_ne (by omega), pu_cp_ne (by omega), pu_cp_ne (by omega)]
  · intro i c
    rw [pu_cp_eq c, pu_cp_ne (by omega), pu_cp_ne (by omega), pu_cp_ne (by omega), pu_cp_ne (by omega), pu_cp_ne (by omega)]
  · rw [pu_cp_ne (by omega), pu_cp_ne (by omega), pu_cp_ne (by omega), pu_cp_ne (by omega), pu_cp_ne (by omega), pu_cp_ne (by omega)]
  · intro c a
    rw [pu_cp_ne (by omega), pu_cp_ne (by omega), pu_cp_ne (by omega), pu_cp_ne (by omega), pu_cp_ne (by omega), pu_cp_ne (by omega)]
theorem cSt_cq {b0 b1 n : Nat} {w w' S : ra_W} (hn : n ≤ 7) (h : cSt w b1 n S) (hq : pu_cq b0 b1 w w') : cSt w' b0 n S := by
  obtain ⟨h1, h2, h3, h4, h5, h6, h7, h8, h9⟩ := h
  obtain ⟨q1, q2, q3, -⟩ := hq
  refine ⟨fun r hr => ?_, fun r hr => ?_, fun r hr => ?_, fun r hr => ?_, fun r hr => ?_, fun i hi => ?_, ?_, ?_, ?_⟩
  · rw [q1 1 r (by omega) (by omega) (by omega)]; exact h1 r hr
  · rw [q1 2 r (by omega) (by omega) (by omega)]; exact h2 r hr
  · rw [q1 3 r (by omega) (by omega) (by omega)]; exact h3 r hr
  · rw [q1 4 r (by omega) (by omega) (by omega)]; exact h4 r hr
  · rw [q1 5 r (by omega) (by omega) (by omega)]; exact h5 r hr
  · rw [q2 i hi]; exact h6 i hi
  · rw [q3 7 (by omega) (by omega)]; exact h7
  · rw [q3 8 (by omega) (by omega)]; exact h8
  · rw [q3 9 (by omega) (by omega)]; exact h9
/-- rows of the model -/
def mRow (f : Nat → Int32) (n : Nat) (S : ra_W) : Prop := mSt (fun _ => f) 0 n S
theorem mRow_c {f g : Nat → Int32} {n : Nat} {S : ra_W} (hn : n ≤ 7) (h : mRow f n S) (e : ∀ i, i < 41 → g i = f i) : mRow g n S := by
  unfold mRow mSt at h ⊢
  simp only [] at h ⊢
  refine ⟨fun r hr => ?_, fun r hr => ?_, fun r hr => ?_, fun r hr => ?_, fun r hr => ?_, fun i hi => ?_, ?_, ?_, ?_⟩
  · rw [e _ (by omega)]; exact h.1 r hr
  · rw [e _ (by omega)]; exact h.2.1 r hr
  · rw [e _ (by omega)]; exact h.2.2.1 r hr
  · rw [e _ (by omega)]; exact h.2.2.2.1 r hr
  · rw [e _ (by omega)]; exact h.2.2.2.2.1 r hr
  · rw [e _ (by omega)]; exact h.2.2.2.2.2.1 i hi
  · rw [e _ (by omega)]; exact h.2.2.2.2.2.2.1
  · rw [e _ (by omega)]; exact h.2.2.2.2.2.2.2.1
  · rw [e _ (by omega)]; exact h.2.2.2.2.2.2.2.2
theorem m6_copies_loop {k b0 b1 : Nat} (hd : b0 ≠ b1) : ∀ (d i m : Nat) (w : ra_W), i + d = 41 → d + 1 ≤ m → ∃ w', fX6_copies k b0 b1 m 1 (nI i) w = some (0, w') ∧ (∀ j, i ≤ j → j < 41 → w' b1 j = w b0 j) ∧ (∀ j, j < i → w' b1 j = w b1 j) ∧ (∀ c, c ≠ b1 → w' c = w c) := by
  intro d
  induction d with
  | zero =>
    intro i m w hi hm
    obtain ⟨m, rfl⟩ : ∃ q, m = q + 1 := ⟨m - 1, by omega⟩
    have hin : i = 41 := by omega
    subst hin
    rw [fX6_copies_1, if_pos (by decide)]
    exact ⟨w, rfl, fun j a b => absurd a (by omega), fun _ _ => rfl, fun _ _ => rfl⟩
  | succ d ih =>
    intro i m w hi hm
    obtain ⟨m, rfl⟩ : ∃ q, m = q + 1 := ⟨m - 1, by omega⟩
    rw [fX6_copies_1, if_neg (show ¬ (41 : Int32) ≤ nI i from nI_ge (b := 41) (by omega) (by decide)), if_pos (pu_in (by omega) (by decide)), pu_ix (by omega), nI_1]
    obtain ⟨w', g1, g2, g3, g4⟩ := ih (i + 1) m (ra_st w b1 i (w b0 i)) (by omega) (by omega)
    refine ⟨w', g1, fun j a b => ?_, fun j a => ?_, fun c a => ?_⟩
    · by_cases e : j = i
      · subst e
        rw [g3 j (by omega), pu_st_eq]
      · rw [g2 j (by omega) b, pu_st_ne hd]
    · rw [g3 j (by omega), pu_st, if_neg (by omega)]
    · rw [g4 c a, pu_st_ne a]
theorem m6_copies {k b0 b1 : Nat} {w : ra_W} (hk : 50 ≤ k) (hd : b0 ≠ b1) : ∃ w', FX6_copies k b0 b1 w = some (0, w') ∧ (∀ j, j < 41 → w' b1 j = w b0 j) ∧ (∀ c, c ≠ b1 → w' c = w c) := by
  obtain ⟨k, rfl⟩ : ∃ q, k = q + 1 := ⟨k - 1, by omega⟩
  unfold FX6_copies
  rw [fX6_copies_0]
  obtain ⟨w', g1, g2, g3, g4⟩ := m6_copies_loop (k := k + 1) hd 41 0 k w (by omega) (by omega)
  exact ⟨w', g1, fun j a => g2 j (by omega) a, g4⟩
theorem q2_copy {k b0 b1 : Nat} {w : ra_W} (hk : 1 ≤ k) (hd : b0 + 4 < b1 ∨ b1 + 4 < b0) : ∃ w', FX2_copy k b0 b1 w = some (0, w') ∧ (∀ i, i < 3 → w' b0 i = w b1 i) ∧ (∀ i, i < 2 → w' (b0 + 1) i = w (b1 + 1) i) ∧ (∀ j i, 2 ≤ j → j ≤ 4 → i < 7 → w' (b0 + j) i = w (b1 + j) i) ∧ (∀ c, (c < b0 ∨ b0 + 4 < c) → w' c = w c) := by
  obtain ⟨k, rfl⟩ : ∃ q, k = q + 1 := ⟨k - 1, by omega⟩
  unfold FX2_copy
  rw [fX2_copy_0]
  have e : ∀ (u : ra_W) (i : Nat) (v : Int32), ra_st u b0 i v b1 = u b1 := fun u i v => pu_st_ne (by omega)
  simp only [e]
  refine ⟨_, rfl, fun i a => ?_, fun i a => ?_, fun j i a b c => ?_, fun c a => ?_⟩
  · rw [pu_cp_ne (by omega), pu_cp_ne (by omega), pu_cp_ne (by omega), pu_cp_ne (by omega)]
    simp only [pu_st]
    rcases (show i = 0 ∨ i = 1 ∨ i = 2 by omega) with rfl | rfl | rfl <;> simp
  · rw [pu_cp_ne (by omega), pu_cp_ne (by omega), pu_cp_ne (by omega), pu_cp_eq a, pu_st_ne (by omega), pu_st_ne (by omega), pu_st_ne (by omega)]
  · rcases (show j = 2 ∨ j = 3 ∨ j = 4 by omega) with rfl | rfl | rfl
    · rw [pu_cp_ne (by omega), pu_cp_ne (by omega), pu_cp_eq c, pu_cp_ne (by omega), pu_st_ne (by omega), pu_st_ne (by omega), pu_st_ne (by omega)]
    · rw [pu_cp_ne (by omega), pu_cp_eq c, pu_cp_ne (by omega), pu_cp_ne (by omega), pu_st_ne (by omega), pu_st_ne (by omega), pu_st_ne (by omega)]
    · rw [pu_cp_eq c, pu_cp_ne (by omega), pu_cp_ne (by omega), pu_cp_ne (by omega), pu_st_ne (by omega), pu_st_ne (by omega), pu_st_ne (by omega)]
  · rw [pu_cp_ne (by omega), pu_cp_ne (by omega), pu_cp_ne (by omega), pu_cp_ne (by omega), pu_st_ne (by omega), pu_st_ne (by omega), pu_st_ne (by omega)]
theorem q2_has {k a n : Nat} {w T : ra_W} {v : Int32} (hk : 1 ≤ k) (hT : cNet w a n T) (hn : n ≤ 7) : (∃ r, r < n ∧ v = nI r ∧ FX2_has k a v w = some (1, w)) ∨ ((∀ r, r < n → ¬ v = nI r) ∧ FX2_has k a v w = some (0, w)) := by
  obtain ⟨k, rfl⟩ : ∃ q, k = q + 1 := ⟨k - 1, by omega⟩
  unfold FX2_has
  rw [fX2_has_0, hT.1]
  by_cases h0 : v < 0
  · rw [if_pos h0]
    exact Or.inr ⟨fun r hr e => nI_pos (n := r) (by omega) (by rw [← e]; exact h0), rfl⟩
  · obtain ⟨j, hj, rfl⟩ := nI_of h0
    rw [if_neg h0]
    rcases Nat.lt_or_ge j n with q | q
    · rw [if_neg (nI_ge q (by omega)), if_neg (pu_ge7 (by omega))]
      exact Or.inl ⟨j, q, rfl, rfl⟩
    · rw [if_pos (nI_le q hj)]
      refine Or.inr ⟨fun r hr e => ?_, rfl⟩
      have := (nI_eq hj (by omega)).mp e
      omega
theorem m6_isRadio {k n : Nat} {w T : ra_W} {v : Int32} (hk : 1 ≤ k) (hT : mNet w n T) (hn : n ≤ 7) : (∀ r, r < n → v = nI r → FX6_isRadio k v w = some (1, w)) ∧ ((∀ r, r < n → ¬ v = nI r) → FX6_isRadio k v w = some (0, w)) := by
  obtain ⟨k, rfl⟩ : ∃ q, k = q + 1 := ⟨k - 1, by omega⟩
  unfold FX6_isRadio
  rw [fX6_isRadio_0, m6_in (by omega), hT.1]
  simp only [ra_bind]
  constructor
  · intro r hr e
    subst e
    obtain ⟨q, rfl⟩ : ∃ q, n = q + 1 := ⟨n - 1, by omega⟩
    rw [nI_pred, if_neg (nI_pos (by omega)), if_neg (nI_nlt (by omega) (by omega)), if_pos (Or.inr rfl)]
  · intro h
    have e : (if v < 0 then (0 : Int32) else if nI n - 1 < v then 0 else 1) = 0 := by
      by_cases h0 : v < 0
      · rw [if_pos h0]
      · obtain ⟨j, hj, rfl⟩ := nI_of h0
        rw [if_neg h0]
        have hge : n ≤ j := by
          rcases Nat.lt_or_ge j n with q | q
          · exact absurd rfl (h j q)
          · exact q
        cases n with
        | zero =>
          rw [if_pos]
          have : nI 0 - 1 = (-1 : Int32) := by decide
          rw [this, Int32.lt_iff_toInt_lt, nI_toInt hj]
          show (-1 : Int) < j
          omega
        | succ q => rw [nI_pred, if_pos (nI_lt (by omega) hj)]
    rw [e, if_pos (Or.inl rfl)]
theorem m6_isOn {k c n : Nat} {w S : ra_W} {r : Nat} (hk : 1 ≤ k) (h : mSt w c n S) (hr : r < n) (hn : n ≤ 7) : FX6_isOn k c (nI r) w = some (if S 1 r = 4 ∨ S 1 r = 5 then 1 else 0, w) := by
  obtain ⟨k, rfl⟩ : ∃ q, k = q + 1 := ⟨k - 1, by omega⟩
  unfold FX6_isOn
  rw [fX6_isOn_0, pl_13, if_pos (pu_in (by omega) (by decide)), pu_ix (by omega), h.2.1 r hr]
  grind
