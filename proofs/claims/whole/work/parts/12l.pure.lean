/-! HOW MANY ARE ENOUGH -/
theorem sp_cutI_62 {A : Int32} {V : Nat → Int32} {S : ra_W} : ∀ m, sp_cutI A V S m 6 2 = S 6 2
  | 0 => rfl
  | m + 1 => by
    show sp_cut1 A V m (sp_cutI A V S m) 6 2 = S 6 2
    have ih := sp_cutI_62 (A := A) (V := V) (S := S) m
    unfold sp_cut1
    split
    · split
      · simp only [sp_rest, pu_st]
        simpa using ih
      · simp only [pu_st]
        simpa using ih
    · exact ih
theorem sp_helpI_62 {n : Nat} {T : ra_W} {s : Nat} {S : ra_W} : ∀ m, sp_helpI n T s S m 6 2 = S 6 2
  | 0 => rfl
  | m + 1 => by
    show sp_help1 n T s m (sp_helpI n T s S m) 6 2 = S 6 2
    have ih := sp_helpI_62 (n := n) (T := T) (s := s) (S := S) m
    unfold sp_help1
    split
    · simp only [pu_st]
      simpa using ih
    · exact ih
theorem sp_site_62 {n : Nat} {T S : ra_W} {s : Nat} : sp_site n T s S 6 2 = S 6 2 := by
  unfold sp_site
  split
  · exact sp_hear_ne (by decide) (by decide)
  · split
    · exact (sp_helpI_62 n).trans (by simp [pu_st])
    · simp [pu_st]
theorem sp_mid_62 {n : Nat} {T S : ra_W} : sp_mid n T S 6 2 = S 6 2 := by
  unfold sp_mid
  rw [sp_cutI_62]
  have : sp_tryI (S 1) n (sp_site n T 1 (sp_site n T 0 S)) 6 2 = sp_site n T 1 (sp_site n T 0 S) 6 2 := by
    simp [sp_tryI]
  rw [this, sp_site_62, sp_site_62]
theorem sp_tick_62 {n A : Nat} {T S : ra_W} (hv : iv n A T S) : ∃ g, g ≤ n ∧ sp_tick n T S 6 2 = S 6 2 + nI g ∧ ((∀ r, r < n → ¬ sp_lin n T (sp_mid n T S) 1 r = 3) → g = 0) := by
  obtain ⟨g, h1, h2, h3⟩ := sp_giveI_6 (P := T 0 2) (S := sp_lin n T (sp_mid n T S)) n
  refine ⟨g, h1, ?_, h3⟩
  show sp_giveI (T 0 2) (sp_lin n T (sp_mid n T S)) n 6 2 = _
  rw [h2, (iv_lin (iv_mid hv).1).2.2.1, sp_mid_62]
/-- none waits: none will, and none gives up -/
theorem sp_site_nw {n : Nat} {T S : ra_W} {s r : Nat} (h : ¬ S 1 r = 1) : sp_site n T s S 1 r = S 1 r := by
  unfold sp_site
  split
  · simp only [sp_hear, sp_hearI]
    rw [if_neg (fun z => h z.2.1)]
  · have e : ∀ x, ra_st S 5 s x 1 r = S 1 r := fun x => by rw [pu_st, if_neg (by omega)]
    split
    · rcases sp_helpI_r (n := n) (T := T) (s := s) (S := ra_st S 5 s (sp_mn (S 5 s))) (r := r) n with z | z
      · exact (z 1 (by decide)).trans (e _)
      · exact absurd ((e _).symm.trans z.1) h
    · exact e _
theorem sp_mid_nw {n A : Nat} {T S : ra_W} (hv : iv n A T S) {r : Nat} (hr : r < n) (h : sp_wtb S r = false) : sp_wtb (sp_mid n T S) r = false ∧ ¬ sp_mid n T S 1 r = 3 := by
  simp only [sp_wtb, decide_eq_false_iff_not] at h ⊢
  have h1 : ¬ S 1 r = 1 := fun z => h (Or.inl z)
  have e0 := sp_site_nw (n := n) (T := T) (s := 0) h1
  have e1 : sp_site n T 1 (sp_site n T 0 S) 1 r = S 1 r := (sp_site_nw (n := n) (T := T) (s := 1) (S := sp_site n T 0 S) (by rw [e0]; exact h1)).trans e0
  have e2 : sp_tryI (S 1) n (sp_site n T 1 (sp_site n T 0 S)) 1 r = S 1 r := by
    simp only [sp_tryI]
    rw [if_neg (fun z => h (Or.inr (Or.inl z.2)))]
    exact e1
  have e3 : sp_mid n T S 1 r = S 1 r ∨ sp_mid n T S 1 r = 0 := by
    unfold sp_mid
    rw [sp_cutI_r n 1 (by decide), e2]
    split
    · split
      · right; simp
      · left; simp
    · left; rfl
  rcases e3 with z | z
  · rw [z]
    exact ⟨h, fun q => h (Or.inr (Or.inr q))⟩
  · rw [z]
    exact ⟨by decide, by decide⟩
theorem sp_lin_nw {n : Nat} {T S : ra_W} (h : ∀ r, r < n → ¬ S 1 r = 3) : sp_lin n T S = S := by
  have h0 : (sp_line T S n).2 = 0 := by
    rcases Nat.eq_zero_or_pos (sp_line T S n).2 with q | q
    · exact q
    · exact absurd (sp_line_q T S n 0 q) (h _ (sp_line_lt T S n 0 q))
  unfold sp_lin
  rw [h0]
  rfl
theorem sp_tick_nw {n A : Nat} {T S : ra_W} (hv : iv n A T S) (h : pu_lst (sp_wtb S) n = none) : pu_lst (sp_wtb (sp_tick n T S)) n = none ∧ sp_tick n T S 6 2 = S 6 2 := by
  have h := pu_lst_none.mp h
  have hm := fun r (hr : r < n) => sp_mid_nw hv hr (h r hr)
  have hl : sp_lin n T (sp_mid n T S) = sp_mid n T S := sp_lin_nw (fun r hr => (hm r hr).2)
  constructor
  · rw [pu_lst_none]
    intro r hr
    have := (hm r hr).1
    have e : sp_tick n T S 1 r = sp_mid n T S 1 r := by
      unfold sp_tick
      rw [hl, sp_giveI_r n 1 (by decide), if_neg (fun z => (hm r hr).2 z.2)]
    simp only [sp_wtb] at this ⊢
    rw [e]
    exact this
  · obtain ⟨g, g1, g2, g3⟩ := sp_tick_62 hv
    rw [g2, g3 (fun r hr => by rw [hl]; exact (hm r hr).2), nI_0]
    grind
theorem tk_nw {n A : Nat} {T S : ra_W} (hv : iv n A T S) {i : Nat} (h : pu_lst (sp_wtb (tkS n T S i)) n = none) : ∀ d, pu_lst (sp_wtb (tkS n T S (i + d))) n = none ∧ tkS n T S (i + d) 6 2 = tkS n T S i 6 2
  | 0 => ⟨h, rfl⟩
  | d + 1 => by
    obtain ⟨a, b⟩ := tk_nw hv h d
    obtain ⟨c, e⟩ := sp_tick_nw (iv_tk hv (i + d)) a
    exact ⟨c, e.trans b⟩
theorem tk_62 {n A : Nat} {T S : ra_W} (hv : iv n A T S) (i : Nat) : ∀ d, ∃ g, g ≤ 7 * d ∧ tkS n T S (i + d) 6 2 = tkS n T S i 6 2 + nI g
  | 0 => ⟨0, by omega, by rw [nI_0]; show tkS n T S i 6 2 = _; grind⟩
  | d + 1 => by
    obtain ⟨g, a, b⟩ := tk_62 hv i d
    obtain ⟨g', a', b', -⟩ := sp_tick_62 (iv_tk hv (i + d))
    have hn : n ≤ 7 := hv.1.2.2.2
    refine ⟨g + g', by omega, ?_⟩
    show sp_tick n T (tkS n T S (i + d)) 6 2 = _
    rw [b', b, ← nI_add]
    grind
theorem tk_gave {n A : Nat} {T S : ra_W} (hv : iv n A T S) {i : Nat} (hi : i ≤ 60) (h : ¬ tkS n T S i 6 2 = S 6 2) : ¬ tkS n T S 60 6 2 = S 6 2 := by
  obtain ⟨g1, a1, b1⟩ := tk_62 hv 0 i
  obtain ⟨g2, a2, b2⟩ := tk_62 hv i (60 - i)
  rw [Nat.zero_add] at b1
  rw [show i + (60 - i) = 60 by omega] at b2
  have b1 : tkS n T S i 6 2 = S 6 2 + nI g1 := b1
  intro e
  have e2 : S 6 2 + nI (g1 + g2) = S 6 2 := by
    rw [← e, b2, b1, ← nI_add] 
    rw [b2, b1] at e
    grind
  have h0 : nI (g1 + g2) = 0 := by grind
  have : g1 ≠ 0 := fun z => h (by rw [b1, z, nI_0]; grind)
  exact nI_ne0 (by omega) (by omega) h0
theorem q5_enough_loop {k n A : Nat} {T S0 S : ra_W} (hk : 200 ≤ k) (hv : iv n A T S) (h6 : S 6 2 = S0 6 2) : ∀ (d i m : Nat) (w : ra_W), i + d = 60 → d + 1 ≤ m → cNet w 8 n T → cSt w 16 n S0 → cSt w 23 n (tkS n T S i) → tkS n T S i 6 2 = S0 6 2 → ∃ w', fX5_isEnough k m 1 0 (nI i) w = some (if tkS n T S 60 6 2 = S0 6 2 then 1 else 0, w') ∧ ff w w' := by
  have hn : n ≤ 7 := hv.1.2.2.2
  intro d
  induction d with
  | zero =>
    intro i m w hi hm hT hS h hg
    obtain ⟨m, rfl⟩ : ∃ q, m = q + 1 := ⟨m - 1, by omega⟩
    have hin : i = 60 := by omega
    subst hin
    rw [fX5_isEnough_1, if_pos (by decide), if_pos hg]
    exact ⟨w, rfl, ff_rf w⟩
  | succ d ih =>
    intro i m w hi hm hT hS h hg
    obtain ⟨m, rfl⟩ : ∃ q, m = q + 1 := ⟨m - 1, by omega⟩
    rw [fX5_isEnough_1, if_neg (show ¬ (60 : Int32) ≤ nI i from nI_ge (b := 60) (by omega) (by decide)), q4_wait (by omega) hn hT h]
    simp only [ra_bind]
    by_cases ho : pu_lst (sp_wtb (tkS n T S i)) n = none
    · have := (tk_nw hv ho (60 - i)).2
      rw [show i + (60 - i) = 60 by omega] at this
      rw [if_pos ho, if_pos rfl, if_pos (this.trans hg)]
      exact ⟨w, rfl, ff_rf w⟩
    · rw [if_neg ho, if_neg (by decide)]
      obtain ⟨w1, g1, g2, g3, g4⟩ := q5_go (k := k) hk (Or.inr rfl) hT h (iv_tk hv i)
      rw [g1]
      simp only []
      have hS1 := cSt_ff hS g4
      have g2' : cSt w1 23 n (tkS n T S (i + 1)) := g2
      rw [g2'.2.2.2.2.2.2.2.2, hS1.2.2.2.2.2.2.2.2, nI_1]
      by_cases hc : tkS n T S (i + 1) 6 2 = S0 6 2
      · rw [if_pos hc]
        obtain ⟨w2, f1, f2⟩ := ih (i + 1) m w1 (by omega) (by omega) g3 hS1 g2' hc
        exact ⟨w2, f1, ff_tr g4 f2⟩
      · rw [if_neg hc, if_neg (by rw [← h6]; exact tk_gave (i := i + 1) hv (by omega) (by rw [h6]; exact hc))]
        exact ⟨w1, rfl, g4⟩
/-- the trial's channels -/
def sp_mx (n : Nat) (T S : ra_W) (c i : Nat) : Int32 := if nI c < T 1 i - sp_fr n T S i then T 1 i - sp_fr n T S i else nI c
def sp_tc (n : Nat) (T S : ra_W) (c : Nat) : ra_W := ra_st (ra_st T 1 0 (sp_mx n T S c 0)) 1 1 (sp_mx n T S c 1)
theorem sp_tc_1 {n : Nat} {T S : ra_W} {c i : Nat} (hi : i < 2) : sp_tc n T S c 1 i = sp_mx n T S c i := by
  unfold sp_tc
  rcases (show i = 0 ∨ i = 1 by omega) with rfl | rfl <;> simp [pu_st]
theorem sp_tc_ne {n : Nat} {T S : ra_W} {c j i : Nat} (hj : j ≠ 1) : sp_tc n T S c j i = T j i := by
  unfold sp_tc
  rw [pu_st, if_neg (fun z => hj z.1), pu_st, if_neg (fun z => hj z.1)]
theorem sp_tkn {n A : Nat} {T S : ra_W} {i : Nat} (h : iv n A T S) (hi : i < 2) : T 1 i - sp_fr n T S i = nI (pu_cnt (sp_hb S i) n) := by
  unfold sp_fr
  grind
theorem iv_tc {n A : Nat} {T S : ra_W} {c : Nat} (h : iv n A T S) (h1 : 1 ≤ c) (h3 : c ≤ 3) : iv n A (sp_tc n T S c) S := by
  obtain ⟨ht, hr, hg, hc, hl⟩ := id h
  have hn := ht.2.2.2
  refine ⟨⟨ht.1, ht.2.1, by rw [sp_tc_ne (by decide)]; exact ht.2.2.1, hn⟩, hr, fun r q a b x y z => hg r q a b x y (by rw [sp_tc_ne (by decide), sp_tc_ne (by decide)] at z; exact z), fun i hi => ?_, hl⟩
  have hcnt := pu_cnt_le (sp_hb S i) n
  rw [sp_tc_1 hi]
  unfold sp_mx
  rw [sp_tkn h hi]
  rcases Nat.lt_or_ge c (pu_cnt (sp_hb S i) n) with q | q
  · rw [if_pos (nI_lt q (by omega))]
    exact ⟨_, by omega, by omega, rfl, Nat.le_refl _⟩
  · rw [if_neg (nI_nlt q (by omega))]
    exact ⟨c, h1, by omega, rfl, q⟩
abbrev sp_en (n : Nat) (T S : ra_W) (v : Int32) (c : Nat) : Prop := tkS n (sp_tc n T S c) (sp_press n v S) 60 6 2 = S 6 2
theorem q5_isEnough {k n A c : Nat} {w T S : ra_W} {v : Int32} (hk : 300 ≤ k) (h1 : 1 ≤ c) (h3 : c ≤ 3) (hv : iv n A T S) (hT : cNet w 8 n (sp_tc n T S c)) (hS : cSt w 16 n S) : ∃ w', FX5_isEnough k v w = some (if sp_en n T S v c then 1 else 0, w') ∧ ff w w' := by
  obtain ⟨k, rfl⟩ : ∃ q, k = q + 1 := ⟨k - 1, by omega⟩
  have hn : n ≤ 7 := hv.1.2.2.2
  have hv' := iv_tc hv h1 h3
  obtain ⟨w1, g1, g2⟩ := q4_copy (k := k + 1) (b0 := 23) (b1 := 16) (w := w) (by omega) (by omega)
  have hT1 : cNet w1 8 n (sp_tc n T S c) := cNet_x hT (fun x a b => g2.2.2.2 x (by omega))
  obtain ⟨w2, p1, p2, p3, p4⟩ := q4_press (k := k + 1) (v := v) (by omega) (Or.inr rfl) hv' hT1 (cSt_cq hn hS g2)
  have hf := ff_tr (ff_copy g2) p4
  obtain ⟨w3, f1, f2⟩ := q5_enough_loop (k := k + 1) (T := sp_tc n T S c) (S0 := S) (S := sp_press n v S) (by omega) (iv_press hv' n) sp_press_6 60 0 k w2 (by omega) (by omega) p3 (cSt_ff hS hf) p2 sp_press_6
  refine ⟨w3, ?_, ff_tr hf f2⟩
  unfold FX5_isEnough
  rw [fX5_isEnough_0, g1]
  simp only [ra_bind]
  rw [p1]
  exact f1
def sp_wv (n : Nat) (T S : ra_W) (v : Int32) : Nat → Nat → Int32
  | 0, _ => -9
  | d + 1, c => if sp_en n T S v c then nI c else sp_wv n T S v d (c + 1)
theorem q5_wave_site {k n A c i m : Nat} {u T S : ra_W} {v : Int32} (hk : 300 ≤ k) (hi : i < 2) (hv : iv n A T S) (hT : cNet u 3 n T) (hS : cSt u 16 n S) : fX5_wave k (m + 1) 2 v 0 (nI c) (nI i) u = fX5_wave k m 2 v 0 (nI c) (nI (i + 1)) (ra_st u 9 i (sp_mx n T S c i)) := by
  have hn : n ≤ 7 := hv.1.2.2.2
  rw [fX5_wave_2, if_neg (pu_ge2 hi), if_pos (pu_in hi (by decide)), pu_ix (by omega), q4_free (by omega) hi (iv_hq hv) hT hS hn]
  simp only [ra_bind, nI_1]
  have e := hT.2.2.2.1 i hi
  unfold sp_mx
  rw [← e]
theorem q5_wave_loop {k n A : Nat} {T S : ra_W} {v : Int32} (hk : 300 ≤ k) (hv : iv n A T S) : ∀ (d c m : Nat) (w : ra_W), c + d = 4 → 1 ≤ c → 4 * d + 1 ≤ m → cNet w 3 n T → cSt w 16 n S → ∃ w', fX5_wave k m 1 v 0 (nI c) 0 w = some (sp_wv n T S v d c, w') ∧ ff w w' := by
  have hn : n ≤ 7 := hv.1.2.2.2
  intro d
  induction d with
  | zero =>
    intro c m w hi hc1 hm hT hS
    obtain ⟨m, rfl⟩ : ∃ q, m = q + 1 := ⟨m - 1, by omega⟩
    have hin : c = 4 := by omega
    subst hin
    rw [fX5_wave_1, if_pos (by decide)]
    exact ⟨w, rfl, ff_rf w⟩
  | succ d ih =>
    intro c m w hi hc1 hm hT hS
    obtain ⟨m, rfl⟩ : ∃ q, m = q + 1 + 1 + 1 + 1 := ⟨m - 4, by omega⟩
    obtain ⟨w3, g1, g2, g3, g4, g5⟩ := q2_copy (k := k) (b0 := 8) (b1 := 3) (w := w) (by omega) (by omega)
    have x3 : ff w w3 := fun x a b e => g5 x (by omega)
    have hT3 := cNet_ff hT x3
    have hS3 := cSt_ff hS x3
    have x4 : ∀ (u : ra_W) (i : Nat) (y : Int32), ff u (ra_st u 9 i y) := fun u i y x a b e => pu_st_ne (by omega)
    rw [fX5_wave_1, if_neg (show ¬ (3 : Int32) < nI c from nI_nlt (a := 3) (by omega) (by decide)), g1]
    simp only [ra_bind]
    have hT4 := cNet_ff hT3 (x4 w3 0 (sp_mx n T S c 0))
    have hS4 := cSt_ff hS3 (x4 w3 0 (sp_mx n T S c 0))
    have s0 := q5_wave_site (k := k) (m := m + 1 + 1) (v := v) (c := c) (i := 0) (by omega) (by decide) hv hT3 hS3
    have s1 := q5_wave_site (k := k) (m := m + 1) (v := v) (c := c) (i := 1) (by omega) (by decide) hv hT4 hS4
    have s0 : fX5_wave k (m + 1 + 1 + 1) 2 v 0 (nI c) 0 w3 = _ := s0.trans s1
    rw [s0]
    have hT8 : cNet (ra_st (ra_st w3 9 0 (sp_mx n T S c 0)) 9 1 (sp_mx n T S c 1)) 8 n (sp_tc n T S c) := by
      have e8 : ∀ x, x ≠ 9 → ra_st (ra_st w3 9 0 (sp_mx n T S c 0)) 9 1 (sp_mx n T S c 1) x = w3 x := fun x a => by rw [pu_st_ne a, pu_st_ne a]
      unfold cNet
      rw [e8 8 (by decide), e8 11 (by decide), e8 12 (by decide), g2 0 (by omega), g2 1 (by omega), g2 2 (by omega), sp_tc_ne (by decide), sp_tc_ne (by decide)]
      refine ⟨hT.1, hT.2.1, hT.2.2.1, fun i hi => ?_, fun r hr => ?_, fun r hr => ?_⟩
      · rw [sp_tc_1 hi]
        rcases (show i = 0 ∨ i = 1 by omega) with rfl | rfl <;> simp [pu_st]
      · rw [g4 3 r (by omega) (by omega) (by omega), sp_tc_ne (by decide)]
        exact hT.2.2.2.2.1 r hr
      · rw [g4 4 r (by omega) (by omega) (by omega), sp_tc_ne (by decide)]
        exact hT.2.2.2.2.2 r hr
    have x5 : ff w (ra_st (ra_st w3 9 0 (sp_mx n T S c 0)) 9 1 (sp_mx n T S c 1)) := ff_tr x3 (ff_tr (x4 w3 0 _) (x4 _ 1 _))
    obtain ⟨w4, f1, f2⟩ := q5_isEnough (k := k) (v := v) hk hc1 (by omega) hv hT8 (cSt_ff hS x5)
    rw [fX5_wave_2, if_pos (by decide), f1]
    simp only [ra_bind, sp_wv, nI_1]
    by_cases he : sp_en n T S v c
    · rw [if_pos he, if_neg (by decide), if_pos he]
      exact ⟨w4, rfl, ff_tr x5 f2⟩
    · rw [if_neg he, if_pos (by rfl), if_neg he]
      obtain ⟨w5, q1, q2⟩ := ih (c + 1) m w4 (by omega) (by omega) (by omega) (cNet_ff hT (ff_tr x5 f2)) (cSt_ff hS (ff_tr x5 f2))
      exact ⟨w5, q1, ff_tr (ff_tr x5 f2) q2⟩
