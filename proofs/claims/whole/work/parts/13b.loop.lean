/-! THE START -/
theorem Rel_start {k : Nat} (hk : 100 ≤ k) : ∃ wa wb, FX6_begins k ra_w0 = some (0, wa) ∧ FX6_settles k wa = some (0, wb) ∧ Rel wb := by
  obtain ⟨wa, g1, g2, g3, g4⟩ := m6_begins (k := k) (w := ra_w0) hk
  obtain ⟨wb, s1, s2, s3, ⟨s4, s5, s6⟩, ⟨s7, s8⟩, s9⟩ := m6_settles (k := k) (w := wa) hk
  have e : ∀ c, c < 134 → wb c = ra_w0 c := fun c a => by rw [s9 c (by omega) (by omega) (by omega) (by omega), g3 c (by omega) (by omega) (by omega)]
  have c1 : cNet wb 3 0 T0 := ⟨by rw [e 3 (by omega)]; rfl, by rw [e 3 (by omega)]; rfl, by rw [e 3 (by omega)]; rfl, fun i hi => by
    rw [e (3 + 1) (by omega)]
    rcases (show i = 0 ∨ i = 1 by omega) with rfl | rfl <;> rfl, fun r hr => absurd hr (by omega), fun r hr => absurd hr (by omega)⟩
  have c2 : cSt wb 16 0 (S0 T0) := ⟨fun r hr => absurd hr (by omega), fun r hr => absurd hr (by omega), fun r hr => absurd hr (by omega), fun r hr => absurd hr (by omega), fun r hr => absurd hr (by omega), fun i hi => by
    rw [e (16 + 6) (by omega)]
    rcases (show i = 0 ∨ i = 1 by omega) with rfl | rfl <;> rfl, by rw [e 16 (by omega)]; rfl, by rw [e 16 (by omega)]; rfl, by rw [e 16 (by omega)]; rfl⟩
  exact ⟨wa, wb, g1, s1, Rel_new vP_0 c1 c2 (by rw [e 16 (by omega)]; rfl) (by rw [e 30 (by omega)]; rfl) ⟨0, by omega, by rw [e 30 (by omega)]; rfl⟩ (mNet_set (by omega) g2.1 s2) (mSt_set (by omega) g2 s3).1 (mSt_set (by omega) g2 s3).2 s5 (by rw [e 1 (by omega)]; rfl) s4 (by rw [e 0 (by omega)]; rfl) s7 s8 (by rw [e 0 (by omega)]; rfl) s6⟩
/-! THE LOOP -/
theorem lp_t {c : Prop} {d : Decidable c} {a b : Option (Int32 × ra_W)} (h : c) (e : ∃ y, a = some y) : ∃ y, (if c then a else b) = some y := by rw [if_pos h]; exact e
theorem lp_f {c : Prop} {d : Decidable c} {a b : Option (Int32 × ra_W)} (h : ¬ c) (e : ∃ y, b = some y) : ∃ y, (if c then a else b) = some y := by rw [if_neg h]; exact e
theorem lp_op {f g F : ra_W → Option (Int32 × ra_W)} {w : ra_W} (h : op2 f g w) (hF : ∀ w', Rel w' → ∃ y, F w' = some y) : ∃ y, ra_bind (f w) (fun a u => ra_bind (g u) (fun b v => if a = b then F v else none)) = some y := by
  obtain ⟨r, w1, w2, h1, h2, h3⟩ := h
  rw [h1]
  simp only [ra_bind]
  rw [h2]
  simp only []
  rw [if_pos trivial]
  exact hF w2 h3
set_option maxHeartbeats 4000000 in
theorem lp_step {k L n : Nat} {xs : Nat → Int32} {v : Int32} {w : ra_W} (hk : 15000 ≤ k) (hR : Rel w) (hc : ¬ (Int32.ofNat L - 5 < v)) (h0 : ra_in v L) (h1 : ra_in (v + 1) L) (h2 : ra_in (v + 2) L) (h3 : ra_in (v + 3) L) (h4 : ra_in (v + 4) L) (hF : ∀ w', Rel w' → ∃ y, fL_law k L xs n 1 v w' = some y) : ∃ y, fL_law k L xs (n + 1) 0 v w = some y := by
  rw [fL_law_0]
  refine lp_f hc (lp_t h0 ?_)
  by_cases c0 : (xs (ra_ix v)) &&& 31 = 0
  · exact lp_t c0 (lp_t h1 (lp_op (op_type _ (by omega) hR) hF))
  refine lp_f c0 ?_
  by_cases c1 : (xs (ra_ix v)) &&& 31 = 1
  · exact lp_t c1 (lp_op (op_clear (by omega) hR) hF)
  refine lp_f c1 ?_
  by_cases c2 : (xs (ra_ix v)) &&& 31 = 2
  · exact lp_t c2 (lp_op (op_net (by omega) hR) hF)
  refine lp_f c2 ?_
  by_cases c3 : (xs (ra_ix v)) &&& 31 = 3
  · exact lp_t c3 (lp_t h1 (lp_op (op_ticks _ (by omega) hR) hF))
  refine lp_f c3 ?_
  by_cases c4 : (xs (ra_ix v)) &&& 31 = 4
  · exact lp_t c4 (lp_t h1 (lp_t h2 (lp_op (op_presses _ _ (by omega) hR) hF)))
  refine lp_f c4 ?_
  by_cases c5 : (xs (ra_ix v)) &&& 31 = 5
  · exact lp_t c5 (lp_t h1 (lp_op (op_releases _ (by omega) hR) hF))
  refine lp_f c5 ?_
  by_cases c6 : (xs (ra_ix v)) &&& 31 = 6
  · exact lp_t c6 (lp_t h1 (lp_t h2 (lp_op (op_controls _ _ (by omega) hR) hF)))
  refine lp_f c6 ?_
  by_cases c7 : (xs (ra_ix v)) &&& 31 = 7
  · exact lp_t c7 (lp_t h1 (lp_op (op_moves _ (by omega) hR) hF))
  refine lp_f c7 ?_
  by_cases c8 : (xs (ra_ix v)) &&& 31 = 8
  · exact lp_t c8 (lp_op (op_undo (by omega) hR) hF)
  refine lp_f c8 ?_
  by_cases c9 : (xs (ra_ix v)) &&& 31 = 9
  · exact lp_t c9 (lp_t h1 (lp_t h2 (lp_op (op_radio _ _ (by omega) hR) hF)))
  refine lp_f c9 ?_
  by_cases c10 : (xs (ra_ix v)) &&& 31 = 10
  · exact lp_t c10 (lp_t h1 (lp_t h2 (lp_op (op_site _ _ (by omega) hR) hF)))
  refine lp_f c10 ?_
  by_cases c11 : (xs (ra_ix v)) &&& 31 = 11
  · exact lp_t c11 (lp_t h1 (lp_op (op_talker _ (by omega) hR) hF))
  refine lp_f c11 ?_
  by_cases c12 : (xs (ra_ix v)) &&& 31 = 12
  · exact lp_t c12 (lp_t h1 (lp_op (op_queue _ (by omega) hR) hF))
  refine lp_f c12 ?_
  by_cases c13 : (xs (ra_ix v)) &&& 31 = 13
  · exact lp_t c13 (lp_t h1 (lp_op (op_soon _ (by omega) hR) hF))
  refine lp_f c13 ?_
  by_cases c14 : (xs (ra_ix v)) &&& 31 = 14
  · exact lp_t c14 (lp_t h1 (lp_t h2 (lp_op (op_within _ _ (by omega) hR) hF)))
  refine lp_f c14 ?_
  by_cases c15 : (xs (ra_ix v)) &&& 31 = 15
  · exact lp_t c15 (lp_t h1 (lp_t h2 (lp_op (op_wave _ _ (by omega) hR) hF)))
  refine lp_f c15 ?_
  by_cases c16 : (xs (ra_ix v)) &&& 31 = 16
  · exact lp_t c16 (lp_t h1 (lp_t h2 (lp_t h3 (lp_t h4 (lp_op (op_odds _ _ _ _ (by omega) hR) hF)))))
  refine lp_f c16 ?_
  by_cases c17 : (xs (ra_ix v)) &&& 31 = 17
  · exact lp_t c17 (lp_t h1 (lp_t h2 (lp_op (op_sees _ _ (by omega) hR) hF)))
  refine lp_f c17 ?_
  by_cases c18 : (xs (ra_ix v)) &&& 31 = 18
  · exact lp_t c18 (lp_op (op_forget (by omega) hR) hF)
  refine lp_f c18 ?_
  by_cases c19 : (xs (ra_ix v)) &&& 31 = 19
  · exact lp_t c19 (lp_t h1 (lp_op (op_ranks _ (by omega) hR) hF))
  refine lp_f c19 ?_
  by_cases c20 : (xs (ra_ix v)) &&& 31 = 20
  · exact lp_t c20 (lp_t h1 (lp_op (op_look _ (by omega) hR) hF))
  refine lp_f c20 ?_
  by_cases c21 : (xs (ra_ix v)) &&& 31 = 21
  · exact lp_t c21 (lp_t h1 (lp_op (op_keep _ (by omega) hR) hF))
  refine lp_f c21 ?_
  by_cases c22 : (xs (ra_ix v)) &&& 31 = 22
  · exact lp_t c22 (lp_t h1 (lp_op (op_back _ (by omega) hR) hF))
  refine lp_f c22 ?_
  by_cases c23 : (xs (ra_ix v)) &&& 31 = 23
  · exact lp_t c23 (lp_t h1 (lp_op (op_count _ (by omega) hR) hF))
  refine lp_f c23 ?_
  exact hF w hR
theorem lp_all {k L : Nat} {xs : Nat → Int32} (hk : 15000 ≤ k) (hL : L ≤ 2560) : ∀ (d i : Nat) (w : ra_W), L ≤ i + 5 * d → i ≤ 2560 → Rel w → ∃ y, fL_law k L xs (2 * d + 1) 0 (nI i) w = some y := by
  intro d
  induction d with
  | zero =>
    intro i w h1 h2 hR
    rw [fL_law_0]
    refine lp_t ?_ ⟨_, rfl⟩
    show nI L - nI 5 < nI i
    rw [Int32.lt_iff_toInt_lt, pk_sub_toInt (by omega) (by omega), nI_toInt (by omega)]
    omega
  | succ d ih =>
    intro i w h1 h2 hR
    by_cases hc : (Int32.ofNat L - 5 < nI i)
    · rw [show 2 * (d + 1) + 1 = (2 * d + 2) + 1 by omega, fL_law_0]
      exact lp_t hc ⟨_, rfl⟩
    · have hi : i + 5 ≤ L := by
        have hc2 : ¬ (nI L - nI 5 < nI i) := hc
        rw [Int32.lt_iff_toInt_lt, pk_sub_toInt (by omega) (by omega), nI_toInt (by omega)] at hc2
        omega
      have hin : ∀ j, j < 5 → ra_in (nI i + nI j) L := fun j hj => by
        rw [nI_add]
        exact pu_in (by omega) (by omega)
      rw [show 2 * (d + 1) + 1 = (2 * d + 2) + 1 by omega]
      refine lp_step hk hR hc (pu_in (by omega) (by omega)) (hin 1 (by omega)) (hin 2 (by omega)) (hin 3 (by omega)) (hin 4 (by omega)) (fun w' hR' => ?_)
      rw [show 2 * d + 2 = (2 * d + 1) + 1 by omega, fL_law_1, show nI i + 5 = nI (i + 5) from nI_add i 5]
      exact ih (i + 5) w' (by omega) (by omega) hR'
