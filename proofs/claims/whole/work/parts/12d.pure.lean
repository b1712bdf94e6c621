/-! THE CALLS, one by one -/
def op2 (f g : ra_W → Option (Int32 × ra_W)) (w : ra_W) : Prop := ∃ r w1 w2, f w = some (r, w1) ∧ g w1 = some (r, w2) ∧ Rel w2
theorem op_bad {f g : ra_W → Option (Int32 × ra_W)} {w : ra_W} {r : Int32} (h : Rel w) (h1 : f w = some (r, w)) (h2 : g w = some (r, ra_st w 134 0 0)) : op2 f g w := ⟨r, w, _, h1, h2, Rel_fz h (fz_0 w 0)⟩
theorem pu_rng (v : Int32) (lo hi : Nat) (hl : lo < 2 ^ 31) (hh : hi < 2 ^ 31) : (∃ j, lo ≤ j ∧ j ≤ hi ∧ v = nI j) ∨ (v < nI lo ∨ nI hi < v) := by
  by_cases h0 : v < nI lo
  · exact Or.inr (Or.inl h0)
  · by_cases h1 : nI hi < v
    · exact Or.inr (Or.inr h1)
    · left
      have h2 : ¬ v < 0 := by
        intro z
        apply h0
        rw [Int32.lt_iff_toInt_lt] at z ⊢
        rw [nI_toInt hl]
        have : (0 : Int32).toInt = 0 := by decide
        omega
      obtain ⟨j, hj, rfl⟩ := nI_of h2
      refine ⟨j, ?_, ?_, rfl⟩
      · rcases Nat.lt_or_ge j lo with q | q
        · exact absurd (nI_lt q hl) h0
        · exact q
      · rcases Nat.lt_or_ge hi j with q | q
        · exact absurd (nI_lt q hj) h1
        · exact q
theorem m6_in1 {k lo hi j : Nat} {w : ra_W} (hk : 1 ≤ k) (h1 : lo ≤ j) (h2 : j ≤ hi) (hh : hi < 2 ^ 31) : FX6_in k (nI j) (nI lo) (nI hi) w = some (1, w) := by
  rw [m6_in hk, if_neg (nI_nlt h1 (by omega)), if_neg (nI_nlt h2 hh)]
theorem m6_in0 {k : Nat} {v lo hi : Int32} {w : ra_W} (hk : 1 ≤ k) (h : v < lo ∨ hi < v) : FX6_in k v lo hi w = some (0, w) := by
  rw [m6_in hk]
  rcases h with h | h
  · rw [if_pos h]
  · by_cases h0 : v < lo
    · rw [if_pos h0]
    · rw [if_neg h0, if_pos h]
theorem q5_isBit {k : Nat} {v : Int32} {w : ra_W} (hk : 1 ≤ k) : ((∃ j, j < 2 ∧ v = nI j) → FX5_isBit k v w = some (1, w)) ∧ ((v < 0 ∨ 1 < v) → FX5_isBit k v w = some (0, w)) := by
  obtain ⟨k, rfl⟩ : ∃ q, k = q + 1 := ⟨k - 1, by omega⟩
  unfold FX5_isBit
  rw [fX5_isBit_0]
  constructor
  · rintro ⟨j, hj, rfl⟩
    rcases (show j = 0 ∨ j = 1 by omega) with rfl | rfl
    · rw [if_pos (by decide)]
    · rw [if_neg (by decide), if_pos (by decide)]
  · intro h
    rw [if_neg (fun e => by rw [e] at h; revert h; decide), if_neg (fun e => by rw [e] at h; revert h; decide)]
theorem q5_isSite {k : Nat} {v : Int32} {w : ra_W} (hk : 1 ≤ k) : (∀ j, j < 2 → v = nI j → FX5_isSite k v w = some (1, w)) ∧ ((v < 0 ∨ 1 < v) → FX5_isSite k v w = some (0, w)) := by
  obtain ⟨k, rfl⟩ : ∃ q, k = q + 1 := ⟨k - 1, by omega⟩
  unfold FX5_isSite
  rw [fX5_isSite_0]
  constructor
  · rintro j hj rfl
    rw [if_neg (nI_pos (by omega)), if_neg (pu_ge2 hj)]
  · intro h
    by_cases h0 : v < 0
    · rw [if_pos h0]
    · rw [if_neg h0, if_pos]
      obtain ⟨j, hj, rfl⟩ := nI_of h0
      have h1 : (1 : Int32) < nI j := by rcases h with z | z; exact absurd z h0; exact z
      have : 1 < j := (nI_ltI (a := 1) (by decide) hj).mp h1
      exact nI_le (a := 2) (by omega) hj
/-- the text -/
theorem Rel_X {w w' : ra_W} (h : Rel w) (hx : ∀ c, c ≠ 1 → c ≠ 2 → c ≠ 134 → c ≠ 135 → w' c = w c) (h4 : ∀ i, i ≠ 0 → i ≠ 2 → w' 134 i = w 134 i) (hX : rX w') : Rel w' := by
  obtain ⟨n, A, T, S, t, kn, H, Ht, hc, h1, h2, -, hI, hZ⟩ := h
  have e := fun c (a : c ≠ 1 ∧ c ≠ 2 ∧ c ≠ 134 ∧ c ≠ 135) => hx c a.1 a.2.1 a.2.2.1 a.2.2.2
  exact ⟨n, A, T, S, t, kn, H, Ht, hc, cC_x h1 (fun c a => e c (by omega)), mC_x h2 (e _ (by omega)) (e _ (by omega)) (e _ (by omega)) (h4 15 (by decide) (by decide)), hX, rI_x hc.1.1.2.2.2 hI (by rw [e 0 (by omega)]) (fun c a b => e c (by omega)) (e _ (by omega)) (e _ (by omega)), rZ_x hZ (by rw [e 0 (by omega)]) (h4 20 (by decide) (by decide)) (e _ (by omega)) (e _ (by omega)) (e _ (by omega)) (e _ (by omega))⟩
theorem op_type {k : Nat} {w : ra_W} (v : Int32) (hk : 10 ≤ k) (h : Rel w) : op2 (FX5_type k v) (FX6_type k v) w := by
  obtain ⟨k, rfl⟩ : ∃ q, k = q + 1 := ⟨k - 1, by omega⟩
  rcases pu_rng v 0 255 (by decide) (by decide) with ⟨c, -, hc, rfl⟩ | hb
  · obtain ⟨L, l1, l2, l3, l4⟩ : rX w := by obtain ⟨n, A, T, S, t, kn, H, Ht, hc, h1, h2, hX, hI, hZ⟩ := h; exact hX
    have ea : FX3_append (k + 1) (nI c) w = if L < 80 then some (1, ra_st (ra_st w 2 L (nI c)) 1 0 (nI (L + 1))) else some (0, w) := by
      unfold FX3_append
      rw [fX3_append_0, l2, if_neg (nI_pos (by omega)), pu_ix (by omega)]
      by_cases hL : L < 80
      · rw [if_pos (show nI L < 80 from nI_lt (b := 80) hL (by decide)), if_pos (pu_in hL (by decide)), if_pos hL, pu_st_ne (by decide), l2, nI_1]
      · rw [if_neg (show ¬ nI L < 80 from nI_nlt (b := 80) (by omega) (by omega)), if_neg hL]
    have e1 : FX5_type (k + 1) (nI c) w = if L < 80 then some (nI (L + 1), ra_st (ra_st w 2 L (nI c)) 1 0 (nI (L + 1))) else some (-3, w) := by
      unfold FX5_type
      rw [fX5_type_0, if_neg (nI_pos (by omega)), if_pos (show nI c ≤ 255 from nI_le (b := 255) hc (by decide)), ea]
      split
      · simp only [ra_bind]
        rw [if_neg (by decide), pu_st_eq]
      · rfl
    have e2 : ∀ u : ra_W, u 134 2 = nI L → FX6_type (k + 1) (nI c) u = if L < 80 then some (nI (L + 1), ra_st (ra_st (ra_st u 134 0 0) 135 L (nI c)) 134 2 (nI (L + 1))) else some (-3, ra_st u 134 0 0) := by
      intro u hu
      have hu2 : ra_st u 134 0 0 134 2 = nI L := by rw [pu_st, if_neg (by decide)]; exact hu
      unfold FX6_type
      rw [fX6_type_0, show FX6_in (k + 1) (nI c) 0 255 (ra_st u 134 0 0) = _ from m6_in1 (lo := 0) (hi := 255) (by omega) (by omega) hc (by decide)]
      simp only [ra_bind]
      rw [if_neg (by decide), hu2, pu_ix (by omega), pu_st_ne (show 134 ≠ 135 by decide), hu2, nI_1, pu_st_eq]
      by_cases hL : L < 80
      · rw [if_neg (fun z => by have := (nI_eq (b := 80) (by omega) (by decide)).mp z; omega), if_pos (pu_in hL (by decide)), if_pos hL]
      · rw [if_pos (by rw [show L = 80 by omega]; rfl), if_neg hL]
    by_cases hL : L < 80
    · rw [if_pos hL] at e1
      have e2 := e2 (ra_st (ra_st w 2 L (nI c)) 1 0 (nI (L + 1))) (by rw [pu_st_ne (by decide), pu_st_ne (by decide)]; exact l3)
      rw [if_pos hL] at e2
      refine ⟨_, _, _, e1, e2, Rel_X h (fun c a1 a2 a3 a4 => by rw [pu_st_ne a3, pu_st_ne a4, pu_st_ne a3, pu_st_ne a1, pu_st_ne a2]) (fun i a b => ?_) ⟨L + 1, by omega, ?_, by rw [pu_st_eq], fun j hj => ?_⟩⟩
      · simp only [pu_st]
        simp [a, b]
      · simp only [pu_st]
        simp
      · simp only [pu_st]
        by_cases e : j = L
        · subst e
          simp
          exact ⟨c, by omega, rfl⟩
        · have := l4 j (by omega)
          simp [e]
          exact this
    · rw [if_neg hL] at e1
      have e2 := e2 w l3
      rw [if_neg hL] at e2
      exact op_bad h e1 e2
  · replace hb : v < (0 : Int32) ∨ (255 : Int32) < v := hb
    refine op_bad (r := -1) h ?_ ?_
    · unfold FX5_type
      rw [fX5_type_0]
      rcases hb with z | z
      · rw [if_pos (show v < 0 from z)]
      · by_cases z0 : v < 0
        · rw [if_pos z0]
        · rw [if_neg z0, if_neg (show ¬ v ≤ 255 from Int32.not_le.mpr z)]
    · unfold FX6_type
      rw [fX6_type_0, m6_in0 (by omega) hb]
      rfl
theorem op_clear {k : Nat} {w : ra_W} (hk : 10 ≤ k) (h : Rel w) : op2 (FX5_clear k) (FX6_clear k) w := by
  obtain ⟨k, rfl⟩ : ∃ q, k = q + 1 := ⟨k - 1, by omega⟩
  obtain ⟨L, l1, l2, l3, l4⟩ : rX w := by obtain ⟨n, A, T, S, t, kn, H, Ht, hc, h1, h2, hX, hI, hZ⟩ := h; exact hX
  have e1 : FX5_clear (k + 1) w = some (nI L, ra_st w 1 0 0) := by
    unfold FX5_clear
    rw [fX5_clear_0]
    unfold FX3_empty
    rw [fX3_empty_0, l2]
    rfl
  have e2 : FX6_clear (k + 1) (ra_st w 1 0 0) = some (nI L, ra_st (ra_st (ra_st w 1 0 0) 134 0 0) 134 2 0) := by
    unfold FX6_clear
    rw [fX6_clear_0, pu_st, if_neg (by decide), pu_st_ne (by decide), l3]
  refine ⟨_, _, _, e1, e2, Rel_X h (fun c a1 a2 a3 a4 => by rw [pu_st_ne a3, pu_st_ne a3, pu_st_ne a1]) (fun i a b => ?_) ⟨0, by omega, ?_, ?_, fun j hj => absurd hj (by omega)⟩⟩
  · simp only [pu_st]
    simp [a, b]
  · simp only [pu_st]
    simp
    rfl
  · rw [pu_st_eq]
    rfl
/-- what was seen -/
theorem Rel_Z {w w' : ra_W} (h : Rel w) (hx : ∀ c, c ≠ 0 → c ≠ 33 → c ≠ 34 → c ≠ 134 → c ≠ 144 → c ≠ 145 → w' c = w c) (h0 : w' 0 8 = w 0 8) (h4 : ∀ i, i ≠ 0 → i ≠ 20 → w' 134 i = w 134 i) (hZ : rZ w') : Rel w' := by
  obtain ⟨n, A, T, S, t, kn, H, Ht, hc, h1, h2, hX, hI, -⟩ := h
  have e := fun c (a : c ≠ 0 ∧ c ≠ 33 ∧ c ≠ 34 ∧ c ≠ 134 ∧ c ≠ 144 ∧ c ≠ 145) => hx c a.1 a.2.1 a.2.2.1 a.2.2.2.1 a.2.2.2.2.1 a.2.2.2.2.2
  exact ⟨n, A, T, S, t, kn, H, Ht, hc, cC_x h1 (fun c a => e c (by omega)), mC_x h2 (e _ (by omega)) (e _ (by omega)) (e _ (by omega)) (h4 15 (by decide) (by decide)), rX_x hX (by rw [e 1 (by omega)]) (e _ (by omega)) (h4 2 (by decide) (by decide)) (e _ (by omega)), rI_x hc.1.1.2.2.2 hI h0 (fun c a b => e c (by omega)) (e _ (by omega)) (e _ (by omega)), hZ⟩
theorem op_forget {k : Nat} {w : ra_W} (hk : 10 ≤ k) (h : Rel w) : op2 (FX5_forget k) (FX6_forget k) w := by
  obtain ⟨k, rfl⟩ : ∃ q, k = q + 1 := ⟨k - 1, by omega⟩
  obtain ⟨m, m1, m2, m3, m4⟩ : rZ w := by obtain ⟨n, A, T, S, t, kn, H, Ht, hc, h1, h2, hX, hI, hZ⟩ := h; exact hZ
  have e1 : FX5_forget (k + 1) w = some (nI m, ra_st w 0 11 0) := by
    unfold FX5_forget
    rw [fX5_forget_0, m2]
  have e2 : FX6_forget (k + 1) (ra_st w 0 11 0) = some (nI m, ra_st (ra_st (ra_st w 0 11 0) 134 0 0) 134 20 0) := by
    unfold FX6_forget
    rw [fX6_forget_0, pu_st, if_neg (by decide), pu_st_ne (by decide), m3]
  refine ⟨_, _, _, e1, e2, Rel_Z h (fun c a1 a2 a3 a4 a5 a6 => by rw [pu_st_ne a4, pu_st_ne a4, pu_st_ne a1]) ?_ (fun i a b => ?_) ⟨0, by omega, ?_, ?_, fun j hj => absurd hj (by omega)⟩⟩
  · simp only [pu_st]
    simp
  · simp only [pu_st]
    simp [a, b]
  · simp only [pu_st]
    simp
    rfl
  · rw [pu_st_eq]
    rfl
theorem op_sees {k : Nat} {w : ra_W} (v u : Int32) (hk : 10 ≤ k) (h : Rel w) : op2 (FX5_sees k v u) (FX6_sees k v u) w := by
  obtain ⟨k, rfl⟩ : ∃ q, k = q + 1 := ⟨k - 1, by omega⟩
  have z134 : ∀ (x : ra_W) (c : Nat), c ≠ 134 → ra_st x 134 0 0 c = x c := fun x c a => pu_st_ne a
  rcases pu_rng v 1 20 (by decide) (by decide) with ⟨q, hq1, hq, rfl⟩ | hb
  · have i1 : ∀ x : ra_W, FX6_in (k + 1) (nI q) 1 20 x = some (1, x) := fun x => m6_in1 (lo := 1) (hi := 20) (by omega) hq1 hq (by decide)
    have c1 : ¬ nI q < (1 : Int32) := nI_nlt (b := 1) hq1 (by omega)
    have c2 : ¬ (20 : Int32) < nI q := nI_nlt (a := 20) hq (by decide)
    rcases pu_rng u 0 1 (by decide) (by decide) with ⟨y, -, hy, rfl⟩ | hb2
    · have i2 : ∀ x : ra_W, FX6_in (k + 1) (nI y) 0 1 x = some (1, x) := fun x => m6_in1 (lo := 0) (hi := 1) (by omega) (by omega) hy (by decide)
      obtain ⟨m, m1, m2, m3, m4⟩ : rZ w := by obtain ⟨n, A, T, S, t, kn, H, Ht, hc, h1, h2, hX, hI, hZ⟩ := h; exact hZ
      have e1 : FX5_sees (k + 1) (nI q) (nI y) w = if m < 6 then some (nI (m + 1), ra_st (ra_st (ra_st w 33 m (nI q)) 34 m (nI y)) 0 11 (nI (m + 1))) else some (-3, w) := by
        unfold FX5_sees
        rw [fX5_sees_0, if_neg c1, if_neg c2, (q5_isBit (by omega)).1 ⟨y, by omega, rfl⟩]
        simp only [ra_bind]
        rw [if_neg (by decide), pu_st_ne (show 0 ≠ 33 by decide), m2, pu_ix (by omega), pu_st_ne (show 0 ≠ 34 by decide), pu_st_ne (show 0 ≠ 33 by decide), m2, nI_1, pu_st_eq]
        by_cases hm : m < 6
        · rw [if_pos (show nI m < 6 from nI_lt (b := 6) hm (by decide)), if_pos (pu_in hm (by decide)), if_pos (pu_in hm (by decide)), if_pos hm]
        · rw [if_neg (show ¬ nI m < 6 from nI_nlt (b := 6) (by omega) (by omega)), if_neg hm]
      have e2 : ∀ x : ra_W, x 134 20 = nI m → FX6_sees (k + 1) (nI q) (nI y) x = if m < 6 then some (nI (m + 1), ra_st (ra_st (ra_st (ra_st x 134 0 0) 144 m (nI q)) 145 m (nI y)) 134 20 (nI (m + 1))) else some (-3, ra_st x 134 0 0) := by
        intro x hx
        have hx2 : ra_st x 134 0 0 134 20 = nI m := by rw [pu_st, if_neg (by decide)]; exact hx
        unfold FX6_sees
        rw [fX6_sees_0, i1]
        simp only [ra_bind]
        rw [if_neg (by decide), i2]
        simp only []
        rw [if_neg (by decide), pu_st_ne (show 134 ≠ 144 by decide), hx2, pu_ix (by omega), pu_st_ne (show 134 ≠ 145 by decide), pu_st_ne (show 134 ≠ 144 by decide), hx2, nI_1, pu_st_eq]
        by_cases hm : m < 6
        · rw [if_neg (fun z => by have := (nI_eq (b := 6) (by omega) (by decide)).mp z; omega), if_pos (pu_in hm (by decide)), if_pos (pu_in hm (by decide)), if_pos hm]
        · rw [if_pos (by rw [show m = 6 by omega]; rfl), if_neg hm]
      by_cases hm : m < 6
      · rw [if_pos hm] at e1
        have e2 := e2 (ra_st (ra_st (ra_st w 33 m (nI q)) 34 m (nI y)) 0 11 (nI (m + 1))) (by rw [pu_st_ne (by decide), pu_st_ne (by decide), pu_st_ne (by decide)]; exact m3)
        rw [if_pos hm] at e2
        refine ⟨_, _, _, e1, e2, Rel_Z h (fun c a1 a2 a3 a4 a5 a6 => by rw [pu_st_ne a4, pu_st_ne a6, pu_st_ne a5, pu_st_ne a4, pu_st_ne a1, pu_st_ne a3, pu_st_ne a2]) ?_ (fun i a b => ?_) ⟨m + 1, by omega, ?_, by rw [pu_st_eq], fun j hj => ?_⟩⟩
        · simp only [pu_st]
          simp
        · simp only [pu_st]
          simp [a, b]
        · simp only [pu_st]
          simp
        · simp only [pu_st]
          by_cases e : j = m
          · subst e
            simp
            exact ⟨⟨q, hq1, hq, rfl⟩, by rcases (show y = 0 ∨ y = 1 by omega) with rfl | rfl <;> decide⟩
          · have := m4 j (by omega)
            simp [e]
            exact this
      · rw [if_neg hm] at e1
        have e2 := e2 w m3
        rw [if_neg hm] at e2
        exact op_bad h e1 e2
    · replace hb2 : u < (0 : Int32) ∨ (1 : Int32) < u := hb2
      refine op_bad (r := -1) h ?_ ?_
      · unfold FX5_sees
        rw [fX5_sees_0, if_neg c1, if_neg c2, (q5_isBit (by omega)).2 hb2]
        rfl
      · unfold FX6_sees
        rw [fX6_sees_0, i1]
        simp only [ra_bind]
        rw [if_neg (by decide), m6_in0 (by omega) hb2]
        rfl
  · replace hb : v < (1 : Int32) ∨ (20 : Int32) < v := hb
    refine op_bad (r := -1) h ?_ ?_
    · unfold FX5_sees
      rw [fX5_sees_0]
      rcases hb with z | z
      · rw [if_pos (show v < 1 from z)]
      · by_cases z0 : v < 1
        · rw [if_pos z0]
        · rw [if_neg z0, if_pos (show 20 < v from z)]
    · unfold FX6_sees
      rw [fX6_sees_0, m6_in0 (by omega) hb]
      rfl
