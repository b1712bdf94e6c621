/-! THE MODEL'S TICK -/
/-- what a tick of the model may change -/
def pu_gf (c : Nat) (w w' : ra_W) : Prop := (∀ x, x ≠ c → x ≠ 134 → x ≠ 146 → x ≠ 147 → w' x = w x) ∧ (∀ i, i ≠ 22 → w' 134 i = w 134 i) ∧ w' c 2 = w c 2
theorem pu_gf_tr {c : Nat} {w w1 w2 : ra_W} (h1 : pu_gf c w w1) (h2 : pu_gf c w1 w2) : pu_gf c w w2 := ⟨fun x a b d e => (h2.1 x a b d e).trans (h1.1 x a b d e), fun i hi => (h2.2.1 i hi).trans (h1.2.1 i hi), h2.2.2.trans h1.2.2⟩
theorem pu_mf_gf {c : Nat} {w w' : ra_W} (hc : c = 139 ∨ c = 140) (h : pu_mf c w w') : pu_gf c w w' := ⟨fun x a _ _ _ => h.1 x a, fun i _ => by rw [h.1 134 (by omega)], h.2⟩
theorem m6_was_loop {k c n : Nat} {T S : ra_W} (hc : c = 139 ∨ c = 140) (hn : n ≤ 7) : ∀ (d i m : Nat) (w : ra_W), i + d = n → mNet w n T → mSt w c n S → sp_was w 147 i (S 1) → ∃ w', fX6_goes k c (m + d + 1) 1 (nI i) 0 0 0 w = fX6_goes k c m 2 0 0 0 0 w' ∧ sp_was w' 147 n (S 1) ∧ (∀ x, x ≠ 147 → w' x = w x) := by
  intro d
  induction d with
  | zero =>
    intro i m w hi hT h hw
    have hin : i = n := by omega
    subst hin
    rw [Nat.add_zero, fX6_goes_1, hT.1, if_pos (nI_le (Nat.le_refl i) (by omega))]
    exact ⟨w, rfl, hw, fun _ _ => rfl⟩
  | succ d ih =>
    intro i m w hi hT h hw
    rw [show m + (d + 1) + 1 = (m + d + 1) + 1 by omega, fX6_goes_1, hT.1, if_neg (nI_ge (by omega) (by omega)), pl_13, if_pos (pu_in (by omega) (by decide)), if_pos (pu_in (by omega) (by decide)), pu_ix (by omega), pu_ix (by omega), h.2.1 i (by omega), nI_1]
    have hx : ∀ x, x ≠ 147 → ra_st w 147 i (S 1 i) x = w x := fun x hx => pu_st_ne hx
    obtain ⟨w', g1, g2, g3⟩ := ih (i + 1) m (ra_st w 147 i (S 1 i)) (by omega) (mNet_x hT (hx 136 (by decide))) (mSt_x h (hx c (by omega))) (fun r hr => by
      rw [pu_st]
      by_cases e : r = i
      · subst e
        simp
      · rw [if_neg (fun z => e z.2)]
        exact hw r (by omega))
    exact ⟨w', g1, g2, fun x q => (g3 x q).trans (hx x q)⟩
theorem m6_site {k c n s m : Nat} {w T S : ra_W} (hk : 300 ≤ k) (hs : s < 2) (hn : n ≤ 7) (hc : c = 139 ∨ c = 140) (hl : iv_l S) (hch : sp_ch T) (hT : mNet w n T) (h : mSt w c n S) : ∃ (m' : Nat) (w' : ra_W), fX6_goes k c (m + 1 + 1 + 1 + 1) 2 (nI s) 0 0 0 w = fX6_goes k c m' 2 (nI (s + 1)) 0 0 0 w' ∧ m ≤ m' ∧ mSt w' c n (sp_site n T s S) ∧ pu_mf c w w' := by
  have hx := h.2.2.2.2.2.1 s hs
  have same : ∀ x, x = w c s → ra_st w c s x = w := by
    intro x e
    funext j r
    rw [pu_st]
    split
    · rename_i z
      rw [z.1, z.2, e]
    · rfl
  rw [fX6_goes_2, if_neg (pu_ge2 hs), pl_0, if_pos (pu_in (by omega) (by decide)), pu_ix (by omega), hx]
  unfold sp_site
  rcases hl s hs with z | ⟨d, hd, z⟩
  · rw [z, if_pos (by decide), fX6_goes_3, fX6_goes_4, pl_0, if_pos (pu_in (by omega) (by decide)), if_pos (pu_in (by omega) (by decide)), pu_ix (by omega), same _ (by rw [hx, z]; decide), hx, z, if_neg (by decide), if_pos rfl]
    obtain ⟨w1, g1, g2, g3⟩ := m6_hear (k := k) (nI s) (by omega) hn (by omega) hT h
    rw [g1]
    simp only [ra_bind, fX6_goes_5, nI_1]
    exact ⟨m, w1, rfl, by omega, g2, g3⟩
  · have hne : ¬ nI d = -1 := pu_nm1 (by omega)
    rw [z, if_neg (nI_pos (by omega)), if_neg hne]
    have main : ∀ m0 y, y = sp_mn (nI d) → ∃ (m' : Nat) (w' : ra_W), fX6_goes k c (m0 + 1 + 1) 4 (nI s) (y - nI d) (nI d) (nI s) w = fX6_goes k c m' 2 (nI (s + 1)) 0 0 0 w' ∧ m0 ≤ m' ∧ mSt w' c n (if 2 ≤ sp_mn (nI d) then sp_help n T s (ra_st S 5 s (sp_mn (nI d))) else ra_st S 5 s (sp_mn (nI d))) ∧ pu_mf c w w' := by
      intro m0 y hy
      have ey : nI d + (y - nI d) = sp_mn (nI d) := by rw [hy]; grind
      have hS5 : mSt (ra_st w c s (sp_mn (nI d))) c n (ra_st S 5 s (sp_mn (nI d))) := mSt_5 _ hn hs h
      have hf : pu_mf c w (ra_st w c s (sp_mn (nI d))) := pu_mf_st _ _ _ (by omega)
      obtain ⟨e, he, hme⟩ : ∃ e, e ≤ 99 ∧ sp_mn (nI d) = nI e := by
        unfold sp_mn
        rw [nI_1]
        rcases Nat.lt_or_ge (d + 1) 99 with q | q
        · rw [if_pos (show nI (d + 1) < 99 from nI_lt q (by decide))]
          exact ⟨d + 1, by omega, rfl⟩
        · rw [if_neg (show ¬ nI (d + 1) < 99 from nI_nlt q (by omega))]
          exact ⟨99, by omega, rfl⟩
      rw [fX6_goes_4, pl_0, if_pos (pu_in (by omega) (by decide)), if_pos (pu_in (by omega) (by decide)), pu_ix (by omega), ey, pu_st_eq]
      rw [hme] at hS5 hf ⊢
      rw [if_pos (nI_pos' (by omega))]
      rcases Nat.lt_or_ge e 2 with q | q
      · rw [if_pos (show nI e ≤ 1 from nI_le (b := 1) (by omega) (by decide)), if_neg (pu_ge2 q), fX6_goes_5, nI_1]
        exact ⟨m0, _, rfl, by omega, hS5, hf⟩
      · rw [if_neg (show ¬ nI e ≤ 1 from nI_ge (a := 1) (by omega) (by omega)), if_pos (show 2 ≤ nI e from nI_le (a := 2) q (by omega))]
        obtain ⟨w1, g1, g2, g3⟩ := m6_help (k := k) (s := s) hk hs hn (by omega) hch (mNet_x hT (hf.1 136 (by omega))) hS5
        rw [g1]
        simp only [ra_bind, fX6_goes_5, nI_1]
        exact ⟨m0, w1, rfl, by omega, g2, pu_mf_tr hf g3⟩
    rcases Nat.lt_or_ge d 99 with q | q
    · have e1 : sp_mn (nI d) = nI d + 1 := by
        unfold sp_mn
        rw [nI_1]
        rcases Nat.lt_or_ge (d + 1) 99 with q' | q'
        · rw [if_pos (show nI (d + 1) < 99 from nI_lt q' (by decide))]
        · rw [if_neg (show ¬ nI (d + 1) < 99 from nI_nlt q' (by omega)), show d + 1 = 99 by omega]
          rfl
      rw [if_neg (show ¬ (99 : Int32) ≤ nI d from nI_ge (b := 99) q (by decide))]
      obtain ⟨m', w', g1, g2, g3⟩ := main (m + 1) (nI d + 1) e1.symm
      rw [show nI d + 1 - nI d = (1 : Int32) by grind] at g1
      exact ⟨m', w', g1, by omega, g3⟩
    · have e1 : sp_mn (nI d) = nI d := by
        unfold sp_mn
        rw [nI_1, if_neg (show ¬ nI (d + 1) < 99 from nI_nlt (b := 99) (by omega) (by omega)), show d = 99 by omega]
        rfl
      rw [if_pos (show (99 : Int32) ≤ nI d from nI_le (a := 99) q (by omega)), fX6_goes_3]
      obtain ⟨m', w', g1, g2, g3⟩ := main m (nI d) e1.symm
      rw [show nI d - nI d = (0 : Int32) by grind] at g1
      exact ⟨m', w', g1, by omega, g3⟩
/-- trying again and cutting, one by one -/
def sp_try1 (V : Nat → Int32) (r : Nat) (S : ra_W) : ra_W := if V r = 2 then ra_st (ra_st S 2 r (S 2 r - 1)) 1 r (if S 2 r - 1 = 0 then 1 else 2) else S
theorem sp_cut1_st {A : Int32} {V : Nat → Int32} {S : ra_W} {j m i : Nat} {x : Int32} (hi : i ≠ m) (hj : j ≠ 6) : sp_cut1 A V i (ra_st S j m x) = ra_st (sp_cut1 A V i S) j m x := by
  funext a b
  simp only [sp_cut1, sp_rest]
  split
  · have e : ra_st S j m x 2 i = S 2 i := by rw [pu_st, if_neg (fun z => hi z.2)]
    have e6 : ra_st S j m x 6 1 = S 6 1 := by rw [pu_st, if_neg (fun z => hj z.1.symm)]
    rw [e, e6]
    split
    · simp only [pu_st]
      grind
    · simp only [pu_st]
      grind
  · rfl
theorem sp_cutI_st {A : Int32} {V : Nat → Int32} {S : ra_W} {j m : Nat} {x : Int32} (hj : j ≠ 6) : ∀ i, i ≤ m → sp_cutI A V (ra_st S j m x) i = ra_st (sp_cutI A V S i) j m x
  | 0, _ => rfl
  | i + 1, h => by
    show sp_cut1 A V i (sp_cutI A V (ra_st S j m x) i) = ra_st (sp_cut1 A V i (sp_cutI A V S i)) j m x
    rw [sp_cutI_st hj i (by omega), sp_cut1_st (by omega) hj]
theorem sp_tryI_s {V : Nat → Int32} {S : ra_W} {m : Nat} (h : V m = 2 → S 1 m = 2) : sp_tryI V (m + 1) S = sp_try1 V m (sp_tryI V m S) := by
  funext j r
  have e : ∀ j, sp_tryI V m S j m = S j m := fun j => by simp [sp_tryI]
  unfold sp_try1
  by_cases hv : V m = 2
  · rw [if_pos hv, e]
    simp only [pu_st, sp_tryI]
    have := h hv
    by_cases hr : r = m
    · subst hr
      simp [hv]
      grind
    · have : r < m + 1 ↔ r < m := by omega
      simp [hr, this]
  · rw [if_neg hv]
    simp only [sp_tryI]
    by_cases hr : r = m
    · subst hr
      simp [hv]
    · have : r < m + 1 ↔ r < m := by omega
      simp [this]
theorem sp_tc_s {A : Int32} {V : Nat → Int32} {S : ra_W} {m : Nat} (h : V m = 2 → S 1 m = 2) : sp_cutI A V (sp_tryI V (m + 1) S) (m + 1) = sp_cut1 A V m (sp_try1 V m (sp_cutI A V (sp_tryI V m S) m)) := by
  show sp_cut1 A V m (sp_cutI A V (sp_tryI V (m + 1) S) m) = _
  rw [sp_tryI_s h]
  congr 1
  generalize sp_tryI V m S = Q
  unfold sp_try1
  rw [sp_cutI_at A V Q 2 m (by decide) m (Nat.le_refl m)]
  split
  · rw [sp_cutI_st (by decide) m (Nat.le_refl m), sp_cutI_st (by decide) m (Nat.le_refl m)]
  · rfl
theorem m6_tc_loop {k c n A : Nat} {T S : ra_W} {V : Nat → Int32} (hk : 1 ≤ k) (hn : n ≤ 7) (hc : c = 139 ∨ c = 140) (hV : ∀ r, r < n → V r = 2 → S 1 r = 2) : ∀ (d i m : Nat) (w : ra_W), i + d = n → mNet w n T → sp_was w 147 n V → mSt w c n (sp_cutI (T 0 1) V (sp_tryI V i S) i) → ∃ (m' : Nat) (w' : ra_W), fX6_goes k c (m + 5 * d) 6 (nI i) 0 0 0 w = fX6_goes k c m' 6 (nI n) 0 0 0 w' ∧ m ≤ m' ∧ mSt w' c n (sp_cutI (T 0 1) V (sp_tryI V n S) n) ∧ pu_mf c w w' := by
  intro d
  induction d with
  | zero =>
    intro i m w hi hT hW hw
    have hin : i = n := by omega
    subst hin
    exact ⟨m, w, rfl, by omega, hw, pu_mf_rf c w⟩
  | succ d ih =>
    intro i m w hi hT hW hw
    have hst := sp_tc_s (A := T 0 1) (V := V) (S := S) (m := i) (hV i (by omega))
    generalize sp_cutI (T 0 1) V (sp_tryI V i S) i = Q at hw hst
    rw [show m + 5 * (d + 1) = m + 5 * d + 1 + 1 + 1 + 1 + 1 by omega, fX6_goes_6, hT.1, if_neg (nI_ge (by omega) (by omega)), if_pos (pu_in (by omega) (by decide)), pu_ix (by omega), hW i (by omega), pl_20, pl_13, if_pos (pu_in (by omega) (by decide)), pu_ix (by omega), hw.2.2.1 i (by omega), pu_st_eq]
    -- what is left after trying again
    have cutting : ∀ (m0 : Nat) (w1 : ra_W) (R : ra_W), m + 5 * d ≤ m0 → mSt w1 c n R → pu_mf c w w1 → sp_cutI (T 0 1) V (sp_tryI V (i + 1) S) (i + 1) = sp_cut1 (T 0 1) V i R → ∃ (m' : Nat) (w' : ra_W), fX6_goes k c (m0 + 1 + 1 + 1) 8 (nI i) 0 0 0 w1 = fX6_goes k c m' 6 (nI n) 0 0 0 w' ∧ m ≤ m' ∧ mSt w' c n (sp_cutI (T 0 1) V (sp_tryI V n S) n) ∧ pu_mf c w w' := by
      intro m0 w1 R hm0 hR hf hst
      have hW1 : sp_was w1 147 n V := fun r hr => by rw [hf.1 147 (by omega)]; exact hW r hr
      have hT1 : mNet w1 n T := mNet_x hT (hf.1 136 (by omega))
      have go : ∀ (m1 : Nat) (w2 : ra_W), m + 5 * d ≤ m1 → mSt w2 c n (sp_cut1 (T 0 1) V i R) → pu_mf c w1 w2 → ∃ (m' : Nat) (w' : ra_W), fX6_goes k c (m1 + 1) 10 (nI i) 0 0 0 w2 = fX6_goes k c m' 6 (nI n) 0 0 0 w' ∧ m ≤ m' ∧ mSt w' c n (sp_cutI (T 0 1) V (sp_tryI V n S) n) ∧ pu_mf c w w' := by
        intro m1 w2 hm1 hw2 hf2
        rw [fX6_goes_10, nI_1]
        obtain ⟨m', w', g1, g2, g3, g4⟩ := ih (i + 1) (m1 - 5 * d) w2 (by omega) (mNet_x hT1 (hf2.1 136 (by omega))) (fun r hr => by rw [hf2.1 147 (by omega)]; exact hW1 r hr) (by rw [hst]; exact hw2)
        rw [show m1 - 5 * d + 5 * d = m1 by omega] at g1
        exact ⟨m', w', g1, by omega, g3, pu_mf_tr hf (pu_mf_tr hf2 g4)⟩
      rw [fX6_goes_8, if_pos (pu_in (by omega) (by decide)), pu_ix (by omega), hW1 i (by omega)]
      by_cases hv : V i = 4 ∨ V i = 5
      · have hgo : (if V i = 4 then fX6_goes k c (m0 + 1 + 1) 9 (nI i) 0 0 0 w1 else if V i = 5 then fX6_goes k c (m0 + 1 + 1) 9 (nI i) 0 0 0 w1 else fX6_goes k c (m0 + 1 + 1) 10 (nI i) 0 0 0 w1) = fX6_goes k c (m0 + 1 + 1) 9 (nI i) 0 0 0 w1 := by grind
        have h136 : ra_st w1 c (20 + i) (R 2 i + 1) 136 1 = T 0 1 := by rw [pu_st_ne (by omega)]; exact hT1.2.1
        rw [hgo, fX6_goes_9, pl_20, if_pos (pu_in (by omega) (by decide)), pu_ix (by omega), hR.2.2.1 i (by omega), pu_st_eq, h136]
        have hf0 : pu_mf c w1 (ra_st w1 c (20 + i) (R 2 i + 1)) := pu_mf_st _ _ _ (by omega)
        by_cases hcu : R 2 i + 1 = T 0 1
        · rw [if_pos hcu, m6_rests hk (by omega)]
          simp only [ra_bind]
          have e : sp_cut1 (T 0 1) V i R = ra_st (sp_rest (ra_st R 2 i (R 2 i + 1)) i) 6 1 (R 6 1 + 1) := by
            unfold sp_cut1
            rw [if_pos hv, if_pos hcu]
          have h4 : ra_st (ra_st (ra_st (ra_st (ra_st w1 c (20 + i) (R 2 i + 1)) c (13 + i) 0) c (20 + i) 0) c (27 + i) 0) c (34 + i) 0 c 4 = R 6 1 := by
            simp only [pu_st]
            rw [if_neg (by omega), if_neg (by omega), if_neg (by omega), if_neg (by omega), if_neg (by omega)]
            exact hR.2.2.2.2.2.2.2.1
          exact go (m0) _ (by omega) (by rw [e, h4]; exact mSt_6 (i := 1) _ hn (by decide) (mSt_rest hn (by omega) (mSt_2 _ hn (by omega) hR))) (pu_mf_tr (pu_mf_tr hf0 (pu_mf_rest _ _)) (pu_mf_st _ _ _ (by omega)))
        · rw [if_neg hcu]
          have e : sp_cut1 (T 0 1) V i R = ra_st R 2 i (R 2 i + 1) := by
            unfold sp_cut1
            rw [if_pos hv, if_neg hcu]
          exact go (m0) _ (by omega) (by rw [e]; exact mSt_2 _ hn (by omega) hR) hf0
      · have hgo : (if V i = 4 then fX6_goes k c (m0 + 1 + 1) 9 (nI i) 0 0 0 w1 else if V i = 5 then fX6_goes k c (m0 + 1 + 1) 9 (nI i) 0 0 0 w1 else fX6_goes k c (m0 + 1 + 1) 10 (nI i) 0 0 0 w1) = fX6_goes k c (m0 + 1 + 1) 10 (nI i) 0 0 0 w1 := by grind
        rw [hgo]
        have e : sp_cut1 (T 0 1) V i R = R := by
          unfold sp_cut1
          rw [if_neg hv]
        exact go (m0 + 1) _ (by omega) (by rw [e]; exact hR) (pu_mf_rf c w1)
    by_cases hv : V i = 2
    · rw [if_pos hv]
      have e : sp_try1 V i Q = ra_st (ra_st Q 2 i (Q 2 i - 1)) 1 i (if Q 2 i - 1 = 0 then 1 else 2) := if_pos hv
      have hgo : (if Q 2 i - 1 = 0 then fX6_goes k c (m + 5 * d + 1 + 1 + 1 + 1) 7 (nI i) 1 (nI (13 + i)) 0 (ra_st w c (20 + i) (Q 2 i - 1)) else fX6_goes k c (m + 5 * d + 1 + 1 + 1 + 1) 7 (nI i) 2 (nI (13 + i)) 0 (ra_st w c (20 + i) (Q 2 i - 1))) = fX6_goes k c (m + 5 * d + 1 + 1 + 1 + 1) 7 (nI i) (if Q 2 i - 1 = 0 then 1 else 2) (nI (13 + i)) 0 (ra_st w c (20 + i) (Q 2 i - 1)) := by split <;> rfl
      rw [hgo, fX6_goes_7, if_pos (pu_in (by omega) (by decide)), pu_ix (by omega)]
      exact cutting (m + 5 * d) _ _ (by omega) (mSt_1 _ hn (by omega) (mSt_2 _ hn (by omega) hw)) (pu_mf_tr (pu_mf_st _ _ _ (by omega)) (pu_mf_st _ _ _ (by omega))) (by rw [hst, e])
    · rw [if_neg hv]
      have e : sp_try1 V i Q = Q := if_neg hv
      exact cutting (m + 5 * d + 1) w Q (by omega) hw (pu_mf_rf c w) (by rw [hst, e])
theorem m6_srv_loop {k c n A e : Nat} {T S : ra_W} {l : Nat → Nat} (hk : 100 ≤ k) (hn : n ≤ 7) (hc : c = 139 ∨ c = 140) (h : iv n A T S) (hl : ∀ j, j < e → l j < n) (hq : ∀ j, j < e → S 1 (l j) = 3) (hne : ∀ i j, i < e → j < e → i ≠ j → l i ≠ l j) (he : e ≤ 7) : ∀ (d i m : Nat) (w : ra_W), i + d = e → w 134 22 = nI e → mNet w n T → pu_on w 146 e l → mSt w c n (sp_srvI n T l S i) → ∃ w', fX6_goes k c (m + d + 1) 11 (nI i) 0 0 0 w = fX6_goes k c m 12 0 0 0 0 w' ∧ mSt w' c n (sp_srvI n T l S e) ∧ pu_mf c w w' := by
  intro d
  induction d with
  | zero =>
    intro i m w hi h22 hT hw hS
    have hin : i = e := by omega
    subst hin
    rw [Nat.add_zero, fX6_goes_11, h22, if_pos (nI_le (Nat.le_refl i) (by omega))]
    exact ⟨w, rfl, hS, pu_mf_rf c w⟩
  | succ d ih =>
    intro i m w hi h22 hT hw hS
    obtain ⟨a1, a2, a3, a4⟩ := iv_srvI h hl hq hne i (by omega)
    have hQ : sp_srvI n T l S i 1 (l i) = 3 := by
      rw [a2 (l i) (hl i (by omega)) (fun j hj => hne i j (by omega) (by omega) (by omega)) (by rw [hq i (by omega)]; decide) 1 (by decide)]
      exact hq i (by omega)
    rw [show m + (d + 1) + 1 = (m + d + 1) + 1 by omega, fX6_goes_11, h22, if_neg (nI_ge (by omega) (by omega)), if_pos (pu_in (by omega) (by decide)), pu_ix (by omega), hw i (by omega)]
    obtain ⟨w1, g1, g2, g3⟩ := m6_serves (k := k) (c := c) (by omega) (hl i (by omega)) hQ (by omega) a1 hT hS hn
    rw [g1]
    simp only [ra_bind, nI_1]
    obtain ⟨w2, f1, f2, f3⟩ := ih (i + 1) m w1 (by omega) (by rw [g3.1 134 (by omega)]; exact h22) (mNet_x hT (g3.1 136 (by omega))) (fun j hj => by rw [g3.1 146 (by omega)]; exact hw j hj) g2
    exact ⟨w2, f1, f2, pu_mf_tr g3 f3⟩
theorem m6_give_loop {k c n : Nat} {T S : ra_W} (hk : 1 ≤ k) (hn : n ≤ 7) (hc : c = 139 ∨ c = 140) : ∀ (d i m : Nat) (w : ra_W), i + d = n → 2 * d + 1 ≤ m → mNet w n T → mSt w c n (sp_giveI (T 0 2) S i) → ∃ w', fX6_goes k c m 12 (nI i) 0 0 0 w = some (0, ra_st w' c 2 (w' c 2 + 1)) ∧ mSt w' c n (sp_giveI (T 0 2) S n) ∧ pu_mf c w w' := by
  intro d
  induction d with
  | zero =>
    intro i m w hi hm hT hw
    obtain ⟨m, rfl⟩ : ∃ q, m = q + 1 := ⟨m - 1, by omega⟩
    have hin : i = n := by omega
    subst hin
    rw [fX6_goes_12, hT.1, if_pos (nI_le (Nat.le_refl i) (by omega))]
    exact ⟨w, rfl, hw, pu_mf_rf c w⟩
  | succ d ih =>
    intro i m w hi hm hT hw
    obtain ⟨m, rfl⟩ : ∃ q, m = q + 1 + 1 := ⟨m - 2, by omega⟩
    have hst : sp_giveI (T 0 2) S (i + 1) = sp_give1 (T 0 2) i (sp_giveI (T 0 2) S i) := rfl
    generalize sp_giveI (T 0 2) S i = Q at hw hst
    rw [fX6_goes_12, hT.1, if_neg (nI_ge (by omega) (by omega)), pl_13, pl_20, if_pos (pu_in (by omega) (by decide)), if_pos (pu_in (by omega) (by decide)), pu_ix (by omega), pu_ix (by omega), hw.2.1 i (by omega), hw.2.2.1 i (by omega)]
    by_cases h3 : Q 1 i = 3
    · have ea : ra_st w c (20 + i) (Q 2 i + 1) 136 2 = T 0 2 := by rw [pu_st_ne (by omega)]; exact hT.2.2.1
      rw [if_pos h3, ea, pu_st_eq]
      have hf0 : pu_mf c w (ra_st w c (20 + i) (Q 2 i + 1)) := pu_mf_st _ _ _ (by omega)
      by_cases hcc : Q 2 i + 1 ≤ T 0 2
      · rw [if_pos hcc, fX6_goes_13, nI_1]
        have e : sp_give1 (T 0 2) i Q = ra_st Q 2 i (Q 2 i + 1) := by
          unfold sp_give1
          rw [if_pos h3, if_pos hcc]
        obtain ⟨w', g1, g2, g3⟩ := ih (i + 1) m _ (by omega) (by omega) (mNet_x hT (hf0.1 136 (by omega))) (by rw [hst, e]; exact mSt_2 _ hn (by omega) hw)
        exact ⟨w', g1, g2, pu_mf_tr hf0 g3⟩
      · rw [if_neg hcc, m6_rests hk (by omega)]
        simp only [ra_bind, fX6_goes_13, nI_1]
        have e : sp_give1 (T 0 2) i Q = ra_st (sp_rest (ra_st Q 2 i (Q 2 i + 1)) i) 6 2 (Q 6 2 + 1) := by
          unfold sp_give1
          rw [if_pos h3, if_neg hcc]
        have h5 : ra_st (ra_st (ra_st (ra_st (ra_st w c (20 + i) (Q 2 i + 1)) c (13 + i) 0) c (20 + i) 0) c (27 + i) 0) c (34 + i) 0 c 5 = Q 6 2 := by
          simp only [pu_st]
          rw [if_neg (by omega), if_neg (by omega), if_neg (by omega), if_neg (by omega), if_neg (by omega)]
          exact hw.2.2.2.2.2.2.2.2
        have hf : pu_mf c w (ra_st (ra_st (ra_st (ra_st (ra_st (ra_st w c (20 + i) (Q 2 i + 1)) c (13 + i) 0) c (20 + i) 0) c (27 + i) 0) c (34 + i) 0) c 5 (Q 6 2 + 1)) := pu_mf_tr (pu_mf_tr hf0 (pu_mf_rest _ _)) (pu_mf_st _ _ _ (by omega))
        rw [h5]
        obtain ⟨w', g1, g2, g3⟩ := ih (i + 1) m _ (by omega) (by omega) (mNet_x hT (hf.1 136 (by omega))) (by rw [hst, e]; exact mSt_6 (i := 2) _ hn (by decide) (mSt_rest hn (by omega) (mSt_2 _ hn (by omega) hw)))
        exact ⟨w', g1, g2, pu_mf_tr hf g3⟩
    · rw [if_neg h3, fX6_goes_13, nI_1]
      have e : sp_give1 (T 0 2) i Q = Q := by
        unfold sp_give1
        rw [if_neg h3]
      exact ih (i + 1) m w (by omega) (by omega) hT (by rw [hst, e]; exact hw)
theorem m6_goes {k c n A : Nat} {w T S : ra_W} (hk : 400 ≤ k) (hc : c = 139 ∨ c = 140) (hT : mNet w n T) (h : mSt w c n S) (hv : iv n A T S) : ∃ w', FX6_goes k c w = some (0, w') ∧ mSt w' c n (sp_tick n T S) ∧ (∀ x, x ≠ c → x ≠ 134 → x ≠ 146 → x ≠ 147 → w' x = w x) ∧ (∀ i, i ≠ 22 → w' 134 i = w 134 i) ∧ w' c 2 = w c 2 + 1 := by
  obtain ⟨k, rfl⟩ : ∃ q, k = q + 1 := ⟨k - 1, by omega⟩
  obtain ⟨ht, hr, hg, hcc, hl⟩ := id hv
  have hn := ht.2.2.2
  have hch := iv_c_ch hcc
  have hj : ∀ r, r < n → jv_r A (S 1) (sp_site n T 1 (sp_site n T 0 S)) r := fun r q => jv_site hn q (jv_site hn q (jv_of_iv (hr r q)))
  unfold FX6_goes
  rw [fX6_goes_0]
  obtain ⟨m0, hm0⟩ : ∃ q, k = (q + 4 + 4) + n + 1 := ⟨k - n - 1 - 8, by omega⟩
  obtain ⟨w0, e0, W0, f0⟩ := m6_was_loop (k := k + 1) (c := c) (m := m0 + 4 + 4) hc hn n 0 w (by omega) hT h (fun r hr => absurd hr (by omega))
  have g0 : pu_gf c w w0 := ⟨fun x _ _ _ q => f0 x q, fun i _ => by rw [f0 134 (by decide)], by rw [f0 c (by omega)]⟩
  have hT0 : mNet w0 n T := mNet_x hT (f0 136 (by decide))
  have S0 : mSt w0 c n S := mSt_x h (f0 c (by omega))
  obtain ⟨m1, w1, e1, hm1, S1, f1⟩ := m6_site (k := k + 1) (s := 0) (m := m0 + 4) (by omega) (by decide) hn hc hl hch hT0 S0
  have hT1 := mNet_x hT0 (f1.1 136 (by omega))
  obtain ⟨m1, rfl⟩ : ∃ q, m1 = q + 4 := ⟨m1 - 4, by omega⟩
  obtain ⟨m2, w2, e2, hm2, S2, f2⟩ := m6_site (k := k + 1) (s := 1) (m := m1) (by omega) (by decide) hn hc (iv_l_site hl) hch hT1 S1
  have hT2 := mNet_x hT1 (f2.1 136 (by omega))
  have W2 : sp_was w2 147 n (S 1) := fun r hr => by rw [f2.1 147 (by omega), f1.1 147 (by omega)]; exact W0 r hr
  obtain ⟨m2, rfl⟩ : ∃ q, m2 = q + 5 * n + 1 := ⟨m2 - 5 * n - 1, by omega⟩
  have et : sp_cutI (T 0 1) (S 1) (sp_tryI (S 1) 0 (sp_site n T 1 (sp_site n T 0 S))) 0 = sp_site n T 1 (sp_site n T 0 S) := by
    funext a b
    simp [sp_cutI, sp_tryI]
  obtain ⟨m3, w3, e3, hm3, S3, f3⟩ := m6_tc_loop (k := k + 1) (A := A) (T := T) (V := S 1) (S := sp_site n T 1 (sp_site n T 0 S)) (by omega) hn hc (fun r q z => (hj r q).2.2.2.2.2.2.2.1 z) n 0 m2 w2 (by omega) hT2 W2 (by rw [et]; exact S2)
  have hT3 := mNet_x hT2 (f3.1 136 (by omega))
  have S3 : mSt w3 c n (sp_mid n T S) := S3
  have hmid : iv n A T (sp_mid n T S) := (iv_mid hv).1
  obtain ⟨w4, e4, l22, l4, f4, f4'⟩ := m6_lines (k := k + 1) (by omega) hn hc hT3 S3
  have g4 : pu_gf c w3 w4 := ⟨fun x _ a b _ => f4 x b a, f4', by rw [f4 c (by omega) (by omega)]⟩
  have hT4 := mNet_x hT3 (f4 136 (by decide) (by decide))
  have S4 := mSt_x S3 (f4 c (by omega) (by omega))
  have hle := sp_line_le T (sp_mid n T S) n
  obtain ⟨m3, rfl⟩ : ∃ q, m3 = (q + (sp_line T (sp_mid n T S) n).2 + 1) + 1 := ⟨m3 - (sp_line T (sp_mid n T S) n).2 - 2, by omega⟩
  obtain ⟨w5, e5, S5, f5⟩ := m6_srv_loop (k := k + 1) (c := c) (by omega) hn hc hmid (sp_line_lt T (sp_mid n T S) n) (sp_line_q T (sp_mid n T S) n) (sp_line_ne T (sp_mid n T S) n) (by omega) (sp_line T (sp_mid n T S) n).2 0 m3 w4 (by omega) l22 hT4 l4 S4
  have hT5 := mNet_x hT4 (f5.1 136 (by omega))
  obtain ⟨w6, e6, S6, f6⟩ := m6_give_loop (k := k + 1) (T := T) (by omega) hn hc n 0 m3 w5 (by omega) (by omega) hT5 S5
  have S6 : mSt w6 c n (sp_tick n T S) := S6
  have hgf : pu_gf c w w6 := pu_gf_tr (pu_gf_tr (pu_gf_tr (pu_gf_tr (pu_gf_tr (pu_gf_tr g0 (pu_mf_gf hc f1)) (pu_mf_gf hc f2)) (pu_mf_gf hc f3)) g4) (pu_mf_gf hc f5)) (pu_mf_gf hc f6)
  refine ⟨ra_st w6 c 2 (w6 c 2 + 1), ?_, ?_, fun x a b d e => ?_, fun i hi => ?_, ?_⟩
  · rw [← hm0] at e0
    refine e0.trans (e1.trans (e2.trans ?_))
    rw [show nI (1 + 1) = (2 : Int32) from rfl, fX6_goes_2, if_pos (by decide)]
    refine e3.trans ?_
    rw [fX6_goes_6, hT3.1, if_pos (nI_le (Nat.le_refl n) (by omega)), e4]
    simp only [ra_bind]
    exact e5.trans e6
  · simp only [mSt, pu_st] at S6 ⊢
    grind
  · rw [pu_st_ne a]
    exact hgf.1 x a b d e
  · rw [pu_st_ne (by omega)]
    exact hgf.2.1 i hi
  · rw [pu_st_eq, hgf.2.2]
