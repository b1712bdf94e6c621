/-! THE CLASS'S TICK -/
theorem q0_srv_loop {k a b n A c : Nat} {T S : ra_W} {l : Nat → Nat} (hk : 100 ≤ k) (hn : n ≤ 7) (hab : a + 4 < b) (ha : a < 10) (hb : 15 < b) (h : iv n A T S) (hl : ∀ j, j < c → l j < n) (hq : ∀ j, j < c → S 1 (l j) = 3) (hne : ∀ i j, i < c → j < c → i ≠ j → l i ≠ l j) (hc : c ≤ 7) : ∀ (d i m : Nat) (w : ra_W), i + d = c → d + 2 ≤ m → cNet w a n T → pu_on w 14 c l → cSt w b n (sp_srvI n T l S i) → ∃ w', fX0_pass k a b m 3 (nI c) (nI i) w = fX0_pass k a b (m - d - 1) 4 0 0 w' ∧ cSt w' b n (sp_srvI n T l S c) ∧ pu_fr b w w' := by
  intro d
  induction d with
  | zero =>
    intro i m w hi hm hT hw hS
    obtain ⟨m, rfl⟩ : ∃ q, m = q + 1 := ⟨m - 1, by omega⟩
    have hin : i = c := by omega
    subst hin
    rw [fX0_pass_3, if_pos (nI_le (Nat.le_refl i) (by omega))]
    exact ⟨w, rfl, hS, pu_fr_rf b w⟩
  | succ d ih =>
    intro i m w hi hm hT hw hS
    obtain ⟨m, rfl⟩ : ∃ q, m = q + 1 := ⟨m - 1, by omega⟩
    obtain ⟨a1, a2, a3, a4⟩ := iv_srvI h hl hq hne i (by omega)
    have hQ : sp_srvI n T l S i 1 (l i) = 3 := by
      rw [a2 (l i) (hl i (by omega)) (fun j hj => hne i j (by omega) (by omega) (by omega)) (by rw [hq i (by omega)]; decide) 1 (by decide)]
      exact hq i (by omega)
    rw [fX0_pass_3, if_neg (nI_ge (by omega) (by omega)), if_neg (pu_ge7 (by omega)), if_pos (pu_in (by omega) (by decide)), pu_ix (by omega), hw i (by omega)]
    obtain ⟨w1, g1, g2, g3⟩ := q0_serve (k := k) (by omega) (hl i (by omega)) hQ (fun r hr => (a1.2.1 r hr).1) (fun r hr => (a1.2.1 r hr).2.1) hab ha (iv_hq a1) hT hS hn
    rw [g1]
    simp only [ra_bind, nI_1]
    obtain ⟨w2, f1, f2, f3⟩ := ih (i + 1) m w1 (by omega) (by omega) (cNet_fr hT (pu_fs_fr g3) hab ha) (fun j hj => by rw [g3.1 14 (by omega)]; exact hw j hj) g2
    refine ⟨w2, ?_, f2, pu_fr_tr (pu_fs_fr g3) f3⟩
    rw [show m + 1 - (d + 1) - 1 = m - d - 1 by omega]
    exact f1
theorem q0_site {k a b n s m : Nat} {w T S : ra_W} (hk : 60 ≤ k) (hm : 2 ≤ m) (hs : s < 2) (hn : n ≤ 7) (hab : a + 4 < b) (ha : a < 10) (hc : sp_ch T) (hT : cNet w a n T) (h : cSt w b n S) : ∃ w', fX0_pass k a b m 1 (nI s) 0 w = fX0_pass k a b (m - 2) 1 (nI (s + 1)) 0 w' ∧ cSt w' b n (sp_site n T s S) ∧ pu_fs b w w' := by
  obtain ⟨m, rfl⟩ : ∃ q, m = q + 1 + 1 := ⟨m - 2, by omega⟩
  rw [fX0_pass_1, if_neg (pu_ge2 hs), q4_hasControl (by omega) h hs]
  simp only [ra_bind]
  unfold sp_site
  by_cases h1 : S 5 s = -1
  · rw [if_pos h1, if_neg (by decide), if_pos h1]
    obtain ⟨w1, g1, g2, g3⟩ := q0_hear (k := k) (nI s) (by omega) hn hab ha hT h
    rw [g1]
    simp only [fX0_pass_2, nI_1]
    exact ⟨w1, rfl, g2, g3⟩
  · rw [if_neg h1, if_pos rfl, if_neg h1, if_pos (pu_in hs (by decide)), pu_ix (by omega), h.2.2.2.2.2.1 s hs]
    have hf : pu_fs b w (ra_st w (b + 6) s (sp_mn (S 5 s))) := pu_fs_st _ _ _ (by omega)
    obtain ⟨w1, g1, g2, g3⟩ := q0_help (k := k) (w := ra_st w (b + 6) s (sp_mn (S 5 s))) (S := ra_st S 5 s (sp_mn (S 5 s))) (s := s) (by omega) hs hn hab ha hc (cNet_fr hT (pu_fs_fr hf) hab ha) (cSt_5 _ _ h)
    rw [pu_st_eq] at g2
    have g1' : FX0_helpThemselves k a b (nI s) (ra_st w (b + 6) s (if S 5 s + 1 < 99 then S 5 s + 1 else 99)) = some (0, w1) := g1
    rw [g1']
    simp only [fX0_pass_2, nI_1]
    exact ⟨w1, rfl, g2, pu_fs_tr hf g3⟩
theorem q0_pass {k a b n A : Nat} {w T S : ra_W} (hk : 200 ≤ k) (hab : a + 4 < b) (ha : a < 10) (hb : 15 < b) (hT : cNet w a n T) (h : cSt w b n S) (hv : iv n A T S) : ∃ w', FX0_pass k a b w = some (0, w') ∧ cSt w' b n (sp_tick n T S) ∧ (∀ c, (c < b ∨ b + 6 < c) → c ≠ 14 → c ≠ 15 → w' c = w c) ∧ w' b 6 = (if w b 6 + 1 < 999 then w b 6 + 1 else 999) := by
  obtain ⟨k, rfl⟩ : ∃ q, k = q + 1 := ⟨k - 1, by omega⟩
  obtain ⟨ht, hr, hg, hc, hl⟩ := id hv
  have hn := ht.2.2.2
  have hch := iv_c_ch hc
  unfold FX0_pass
  rw [fX0_pass_0]
  -- was
  have hf0 : pu_fr b w (ra_cp w (b + 2) 0 15 0 7) := ⟨fun c a1 a2 a3 => by unfold ra_cp ra_up; rw [if_neg a3], by unfold ra_cp ra_up; rw [if_neg (by omega)]⟩
  have hS0 : cSt (ra_cp w (b + 2) 0 15 0 7) b n S := cSt_x h (fun x q1 q2 => by unfold ra_cp ra_up; rw [if_neg (by omega)])
  have hW0 : sp_was (ra_cp w (b + 2) 0 15 0 7) 15 n (S 1) := fun r hr => by
    unfold ra_cp ra_up
    rw [if_pos rfl, pk_cpy_in (by omega) (by omega), Nat.zero_add, Nat.sub_zero]
    exact h.2.1 r hr
  generalize ra_cp w (b + 2) 0 15 0 7 = w0 at hf0 hS0 hW0
  have hT0 := cNet_fr hT hf0 hab ha
  -- sites
  rw [show (0 : Int32) = nI 0 from rfl]
  obtain ⟨w1, e1, S1, f1⟩ := q0_site (k := k + 1) (m := k) (s := 0) (by omega) (by omega) (by decide) hn hab ha hch hT0 hS0
  have hT1 := cNet_fr hT0 (pu_fs_fr f1) hab ha
  obtain ⟨w2, e2, S2, f2⟩ := q0_site (k := k + 1) (m := k - 2) (s := 1) (by omega) (by omega) (by decide) hn hab ha hch hT1 S1
  have hT2 := cNet_fr hT1 (pu_fs_fr f2) hab ha
  have hW2 : sp_was w2 15 n (S 1) := fun r hr => by rw [f2.1 15 (by omega), f1.1 15 (by omega)]; exact hW0 r hr
  have hj : ∀ r, r < n → jv_r A (S 1) (sp_site n T 1 (sp_site n T 0 S)) r := fun r q => jv_site hn q (jv_site hn q (jv_of_iv (hr r q)))
  -- trying again, cutting
  obtain ⟨w3, e3, S3, f3, f3'⟩ := q0_try (k := k + 1) (V := S 1) (by omega) hn hab ha hb (fun r hr2 z => (hj r hr2).2.2.2.2.2.1 ((hj r hr2).2.2.2.2.2.2.2.1 z)) hT2 hW2 S2
  have hT3 := cNet_fr hT2 (pu_fs_fr f3) hab ha
  obtain ⟨w4, e4, S4, f4⟩ := q0_cut (k := k + 1) (V := S 1) (A := A) (by omega) hn hab ha hb ht.2.2.1 ht.2.1 (fun r hr2 z => by
    obtain ⟨q1, d, q2, q3⟩ := (hj r hr2).2.2.2.2.2.2.2.2.1 z
    refine ⟨d, q2, ?_⟩
    have hne : ¬ S 1 r = 2 := by rcases z with y | y <;> rw [y] <;> decide
    simp only [sp_tryI, if_neg (fun y : r < n ∧ S 1 r = 2 => hne y.2)]
    exact q3) hT3 (fun r hr2 => by rw [f3']; exact hW2 r hr2) S3
  have hT4 := cNet_fr hT3 (pu_fs_fr f4) hab ha
  -- the line
  have hmid : iv n A T (sp_mid n T S) := (iv_mid hv).1
  have S4 : cSt w4 b n (sp_mid n T S) := S4
  obtain ⟨w5, e5, l5, f5⟩ := q0_lineUp (k := k + 1) (by omega) hn hab ha hb hT4 S4
  have hT5 : cNet w5 a n T := cNet_x hT4 (fun x q1 q2 => f5 x (by omega))
  have S5 : cSt w5 b n (sp_mid n T S) := cSt_x S4 (fun x q1 q2 => f5 x (by omega))
  have hle := sp_line_le T (sp_mid n T S) n
  obtain ⟨mm, hmm⟩ : ∃ q, k - 2 - 2 = q + 1 := ⟨k - 2 - 2 - 1, by omega⟩
  obtain ⟨w6, e6, S6, f6⟩ := q0_srv_loop (k := k + 1) (by omega) hn hab ha hb hmid (sp_line_lt T (sp_mid n T S) n) (sp_line_q T (sp_mid n T S) n) (sp_line_ne T (sp_mid n T S) n) (by omega) (sp_line T (sp_mid n T S) n).2 0 mm w5 (by omega) (by omega) hT5 l5 S5
  have hT6 := cNet_fr hT5 f6 hab ha
  obtain ⟨w7, e7, S7, f7⟩ := q0_give (k := k + 1) (by omega) hn hab ha hT6 S6
  have hfr : pu_fr b w w7 := pu_fr_tr (pu_fr_tr (pu_fr_tr (pu_fr_tr (pu_fr_tr (pu_fr_tr (pu_fr_tr hf0 (pu_fs_fr f1)) (pu_fs_fr f2)) (pu_fs_fr f3)) (pu_fs_fr f4)) ⟨fun c a1 a2 a3 => f5 c a2, by rw [f5 b (by omega)]⟩) f6) (pu_fs_fr f7)
  have S7 : cSt w7 b n (sp_tick n T S) := S7
  refine ⟨ra_st w7 b 6 (if w7 b 6 + 1 < 999 then w7 b 6 + 1 else 999), ?_, ?_, fun c a1 a2 a3 => ?_, ?_⟩
  · refine e1.trans (e2.trans ?_)
    rw [hmm, fX0_pass_1, if_pos (by decide), e3]
    simp only [ra_bind]
    rw [e4]
    simp only [ra_bind]
    rw [e5]
    simp only [ra_bind]
    refine e6.trans ?_
    obtain ⟨m2, hm2⟩ : ∃ q, mm - (sp_line T (sp_mid n T S) n).2 - 1 = q + 1 := ⟨mm - (sp_line T (sp_mid n T S) n).2 - 1 - 1, by omega⟩
    rw [hm2, fX0_pass_4, e7]
    rfl
  · simp only [cSt, pu_st] at S7 ⊢
    grind
  · rw [pu_st_ne (by omega)]
    exact hfr.1 c a1 a2 a3
  · rw [pu_st_eq, hfr.2]
