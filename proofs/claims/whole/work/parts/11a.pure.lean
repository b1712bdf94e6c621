/-! THE MODEL'S PARTS -/
theorem pl_0 (r : Nat) : (0 : Int32) + nI r = nI r := by rw [show (0 : Int32) = nI 0 from rfl, nI_add, Nat.zero_add]
theorem pl_3 (r : Nat) : (3 : Int32) + nI r = nI (3 + r) := nI_add 3 r
theorem pl_5 (r : Nat) : (5 : Int32) + nI r = nI (5 + r) := nI_add 5 r
theorem pl_6 (r : Nat) : (6 : Int32) + nI r = nI (6 + r) := nI_add 6 r
theorem pl_12 (r : Nat) : (12 : Int32) + nI r = nI (12 + r) := nI_add 12 r
theorem pl_13 (r : Nat) : (13 : Int32) + nI r = nI (13 + r) := nI_add 13 r
theorem pl_20 (r : Nat) : (20 : Int32) + nI r = nI (20 + r) := nI_add 20 r
theorem pl_27 (r : Nat) : (27 : Int32) + nI r = nI (27 + r) := nI_add 27 r
theorem pl_34 (r : Nat) : (34 : Int32) + nI r = nI (34 + r) := nI_add 34 r
theorem mSt_1 {w : ra_W} {c n : Nat} {S : ra_W} {r : Nat} (x : Int32) (hn : n ≤ 7) (hr : r < 7) (h : mSt w c n S) : mSt (ra_st w c (13 + r) x) c n (ra_st S 1 r x) := by
  simp only [mSt, pu_st] at h ⊢
  grind
theorem mSt_2 {w : ra_W} {c n : Nat} {S : ra_W} {r : Nat} (x : Int32) (hn : n ≤ 7) (hr : r < 7) (h : mSt w c n S) : mSt (ra_st w c (20 + r) x) c n (ra_st S 2 r x) := by
  simp only [mSt, pu_st] at h ⊢
  grind
theorem mSt_3 {w : ra_W} {c n : Nat} {S : ra_W} {r : Nat} (x : Int32) (hn : n ≤ 7) (hr : r < 7) (h : mSt w c n S) : mSt (ra_st w c (27 + r) x) c n (ra_st S 3 r x) := by
  simp only [mSt, pu_st] at h ⊢
  grind
theorem mSt_4 {w : ra_W} {c n : Nat} {S : ra_W} {r : Nat} (x : Int32) (hn : n ≤ 7) (hr : r < 7) (h : mSt w c n S) : mSt (ra_st w c (34 + r) x) c n (ra_st S 4 r x) := by
  simp only [mSt, pu_st] at h ⊢
  grind
theorem mSt_0 {w : ra_W} {c n : Nat} {S : ra_W} {r : Nat} (x : Int32) (hn : n ≤ 7) (hr : r < 7) (h : mSt w c n S) : mSt (ra_st w c (6 + r) x) c n (ra_st S 0 r x) := by
  simp only [mSt, pu_st] at h ⊢
  grind
theorem mSt_5 {w : ra_W} {c n : Nat} {S : ra_W} {i : Nat} (x : Int32) (hn : n ≤ 7) (hi : i < 2) (h : mSt w c n S) : mSt (ra_st w c i x) c n (ra_st S 5 i x) := by
  simp only [mSt, pu_st] at h ⊢
  grind
theorem mSt_6 {w : ra_W} {c n : Nat} {S : ra_W} {i : Nat} (x : Int32) (hn : n ≤ 7) (hi : i < 3) (h : mSt w c n S) : mSt (ra_st w c (3 + i) x) c n (ra_st S 6 i x) := by
  simp only [mSt, pu_st] at h ⊢
  grind
theorem mSt_x {w w' : ra_W} {c n : Nat} {S : ra_W} (h : mSt w c n S) (hx : w' c = w c) : mSt w' c n S := by
  unfold mSt at h ⊢
  rw [hx]
  exact h
theorem mNet_x {w w' : ra_W} {n : Nat} {T : ra_W} (h : mNet w n T) (hx : w' 136 = w 136) : mNet w' n T := by
  unfold mNet at h ⊢
  rw [hx]
  exact h
/-- only the array c, and its cell 2 (the ticks) not, may change -/
def pu_mf (c : Nat) (w w' : ra_W) : Prop := (∀ x, x ≠ c → w' x = w x) ∧ w' c 2 = w c 2
theorem pu_mf_rf (c : Nat) (w : ra_W) : pu_mf c w w := ⟨fun _ _ => rfl, rfl⟩
theorem pu_mf_tr {c : Nat} {w w1 w2 : ra_W} (h1 : pu_mf c w w1) (h2 : pu_mf c w1 w2) : pu_mf c w w2 := ⟨fun x a => (h2.1 x a).trans (h1.1 x a), h2.2.trans h1.2⟩
theorem pu_mf_st {c : Nat} (w : ra_W) (i : Nat) (v : Int32) (h : i ≠ 2) : pu_mf c w (ra_st w c i v) := ⟨fun x a => pu_st_ne a, by rw [pu_st, if_neg (fun q => h q.2.symm)]⟩
theorem m6_in {k : Nat} {w : ra_W} {x lo hi : Int32} (hk : 1 ≤ k) : FX6_in k x lo hi w = some (if x < lo then 0 else if hi < x then 0 else 1, w) := by
  obtain ⟨k, rfl⟩ : ∃ q, k = q + 1 := ⟨k - 1, by omega⟩
  unfold FX6_in
  rw [fX6_in_0]
  split
  · rfl
  · split <;> rfl
theorem m6_has {k i : Nat} {w : ra_W} {h : Int32} (hk : 1 ≤ k) (hq : pu_q h) (hi : i < 2) : FX6_has k h (nI i) w = some (if pu_bit h i = true then 1 else 0, w) := by
  obtain ⟨k, rfl⟩ : ∃ q, k = q + 1 := ⟨k - 1, by omega⟩
  unfold FX6_has
  rw [fX6_has_0, pu_bit_sh hq hi]
  by_cases hb : pu_bit h i = true <;> simp [hb]
theorem m6_becomes {k c : Nat} {w : ra_W} {r : Nat} (x y : Int32) (hk : 1 ≤ k) (hr : r < 7) : FX6_becomes k c (nI r) x y w = some (0, ra_st (ra_st w c (13 + r) x) c (20 + r) y) := by
  obtain ⟨k, rfl⟩ : ∃ q, k = q + 1 := ⟨k - 1, by omega⟩
  unfold FX6_becomes
  rw [fX6_becomes_0, pl_13, pl_20, if_pos (pu_in (by omega) (by decide)), if_pos (pu_in (by omega) (by decide)), pu_ix (by omega), pu_ix (by omega)]
theorem m6_rests {k c : Nat} {w : ra_W} {r : Nat} (hk : 1 ≤ k) (hr : r < 7) : FX6_rests k c (nI r) w = some (0, ra_st (ra_st (ra_st (ra_st w c (13 + r) 0) c (20 + r) 0) c (27 + r) 0) c (34 + r) 0) := by
  obtain ⟨k, rfl⟩ : ∃ q, k = q + 1 := ⟨k - 1, by omega⟩
  unfold FX6_rests
  rw [fX6_rests_0, pl_13, pl_20, pl_27, pl_34, if_pos (pu_in (by omega) (by decide)), if_pos (pu_in (by omega) (by decide)), if_pos (pu_in (by omega) (by decide)), if_pos (pu_in (by omega) (by decide)), pu_ix (by omega), pu_ix (by omega), pu_ix (by omega), pu_ix (by omega)]
theorem mSt_rest {w : ra_W} {c n : Nat} {S : ra_W} {r : Nat} (hn : n ≤ 7) (hr : r < 7) (h : mSt w c n S) : mSt (ra_st (ra_st (ra_st (ra_st w c (13 + r) 0) c (20 + r) 0) c (27 + r) 0) c (34 + r) 0) c n (sp_rest S r) := mSt_4 _ hn hr (mSt_3 _ hn hr (mSt_2 _ hn hr (mSt_1 _ hn hr h)))
theorem pu_mf_rest {c : Nat} (w : ra_W) (r : Nat) : pu_mf c w (ra_st (ra_st (ra_st (ra_st w c (13 + r) 0) c (20 + r) 0) c (27 + r) 0) c (34 + r) 0) := pu_mf_tr (pu_mf_tr (pu_mf_tr (pu_mf_st _ _ _ (by omega)) (pu_mf_st _ _ _ (by omega))) (pu_mf_st _ _ _ (by omega))) (pu_mf_st _ _ _ (by omega))
theorem m6_isSentAt {k c n : Nat} {w S : ra_W} {r : Nat} (s : Int32) (hk : 1 ≤ k) (h : mSt w c n S) (hr : r < n) (hn : n ≤ 7) : FX6_isSentAt k c (nI r) s w = some (if S 1 r = 1 ∧ S 0 r = s then 1 else 0, w) := by
  obtain ⟨k, rfl⟩ : ∃ q, k = q + 1 := ⟨k - 1, by omega⟩
  unfold FX6_isSentAt
  rw [fX6_isSentAt_0, pl_13, pl_6, if_pos (pu_in (by omega) (by decide)), if_pos (pu_in (by omega) (by decide)), pu_ix (by omega), pu_ix (by omega), h.1 r hr, h.2.1 r hr]
  grind
/-- searches from above -/
def pu_lo (p : Nat → Bool) (n : Nat) : Nat → Option Nat
  | 0 => none
  | d + 1 => if p (n - d - 1) = true then some (n - d - 1) else pu_lo p n d
def pu_cd (p : Nat → Bool) (n : Nat) : Nat → Nat
  | 0 => 0
  | d + 1 => pu_cd p n d + (if p (n - d - 1) = true then 1 else 0)
theorem pu_lo_sp {p : Nat → Bool} {n : Nat} : ∀ d, d ≤ n → match pu_lo p n d with
    | none => ∀ j, n - d ≤ j → j < n → p j = false
    | some r => (n - d ≤ r ∧ r < n) ∧ p r = true ∧ ∀ j, n - d ≤ j → j < r → p j = false
  | 0, _ => by simp only [pu_lo]; omega
  | d + 1, hd => by
    have ih := pu_lo_sp (p := p) (n := n) d (by omega)
    simp only [pu_lo]
    by_cases hp : p (n - d - 1) = true
    · rw [if_pos hp]
      exact ⟨⟨by omega, by omega⟩, hp, fun j a b => absurd b (by omega)⟩
    · rw [if_neg hp]
      have hp : p (n - d - 1) = false := by simpa using hp
      cases hl : pu_lo p n d with
      | none =>
        rw [hl] at ih
        intro j a b
        rcases Nat.lt_or_ge j (n - d) with q | q
        · rw [show j = n - d - 1 by omega]; exact hp
        · exact ih j q b
      | some r =>
        rw [hl] at ih
        refine ⟨⟨by omega, ih.1.2⟩, ih.2.1, fun j a b => ?_⟩
        rcases Nat.lt_or_ge j (n - d) with q | q
        · rw [show j = n - d - 1 by omega]; exact hp
        · exact ih.2.2 j q b
theorem pu_lo_lst {p : Nat → Bool} {n : Nat} : pu_lo p n n = pu_lst p n := by
  have h := pu_lo_sp (p := p) (n := n) n (Nat.le_refl n)
  cases hl : pu_lo p n n with
  | none =>
    rw [hl] at h
    exact (pu_lst_none.mpr (fun j hj => h j (by omega) hj)).symm
  | some r =>
    rw [hl] at h
    exact (pu_lst_some.mpr ⟨h.1.2, h.2.1, fun j hj => h.2.2 j (by omega) hj⟩).symm
theorem pu_cd_cnt {p : Nat → Bool} {n : Nat} : ∀ d, d ≤ n → pu_cd p n d + pu_cnt p (n - d) = pu_cnt p n
  | 0, _ => by simp [pu_cd]
  | d + 1, hd => by
    have ih := pu_cd_cnt (p := p) (n := n) d (by omega)
    have e : pu_cnt p (n - d) = pu_cnt p (n - d - 1) + (if p (n - d - 1) = true then 1 else 0) := by
      obtain ⟨m, hm⟩ : ∃ m, n - d = m + 1 := ⟨n - d - 1, by omega⟩
      rw [hm]
      rfl
    simp only [pu_cd]
    rw [show n - (d + 1) = n - d - 1 by omega]
    omega
theorem pu_neg1 {i : Nat} (h : i < 2 ^ 31) : ¬ nI i < 0 := nI_pos h
theorem m6_heardAt_loop {k c n : Nat} {w S : ra_W} (s : Int32) (hk : 1 ≤ k) (h : mSt w c n S) (hn : n ≤ 7) : ∀ (e d m : Nat), d + e = n → 3 * e + 1 ≤ m → fX6_heardAt k c m 1 s (nI (pu_cd (sp_sent S s) n d)) (pu_enc (pu_lo (sp_sent S s) n d)) (pu_enc (pu_lo (sp_surg S s) n d)) (nI e - 1) 0 w = some (pu_enc (sp_heard n S s), w) := by
  intro e
  induction e with
  | zero =>
    intro d m hd hm
    obtain ⟨m, rfl⟩ : ∃ q, m = q + 1 := ⟨m - 1, by omega⟩
    have hin : d = n := by omega
    subst hin
    have hc := pu_cd_cnt (p := sp_sent S s) (n := d) d (Nat.le_refl d)
    rw [Nat.sub_self] at hc
    have hc : pu_cd (sp_sent S s) d d = pu_cnt (sp_sent S s) d := hc
    rw [fX6_heardAt_1, if_pos (by decide), pu_lo_lst, pu_lo_lst, hc]
    have hc2 := pu_cnt_le (sp_sent S s) d
    have e1 : (nI (pu_cnt (sp_sent S s) d) = 1) ↔ pu_cnt (sp_sent S s) d = 1 := nI_eq (by omega) (by decide)
    unfold sp_heard
    cases hl : pu_lst (sp_surg S s) d with
    | none =>
      rw [if_pos (by rfl)]
      by_cases h1 : pu_cnt (sp_sent S s) d = 1
      · rw [if_pos (e1.mpr h1)]
        simp only [h1, if_true]
        rw [pu_last_one h1]
      · rw [if_neg (fun q => h1 (e1.mp q))]
        simp [h1, pu_enc]
    | some r =>
      have := (pu_lst_some.mp hl).1
      rw [if_neg (pu_encs_ne (q := r) (by omega))]
  | succ e ih =>
    intro d m hd hm
    obtain ⟨m, rfl⟩ : ∃ q, m = q + 1 + 1 + 1 := ⟨m - 3, by omega⟩
    have ihh := fun (m : Nat) (hm : 3 * e + 1 ≤ m) => ih (d + 1) m (by omega) hm
    have ei : n - d - 1 = e := by omega
    simp only [pu_cd, pu_lo, ei] at ihh
    rw [fX6_heardAt_1, nI_pred, if_neg (pu_neg1 (by omega)), m6_isSentAt s hk h (by omega) hn]
    simp only [ra_bind]
    have em : nI e + (-1) = nI e - 1 := by
      rw [show (-1 : Int32) = - 1 from rfl]
      grind
    by_cases hs : S 1 e = 1 ∧ S 0 e = s
    · have hsd : sp_sent S s e = true := by simp [sp_sent, hs]
      rw [if_pos hs, if_neg (by decide), pl_27, if_pos (pu_in (by omega) (by decide)), pu_ix (by omega), h.2.2.2.1 e (by omega), nI_1]
      simp only [hsd, if_true] at ihh
      by_cases hu : S 3 e = 1
      · have hud : sp_surg S s e = true := by simp [sp_surg, hs, hu]
        simp only [hud, if_true] at ihh
        rw [if_pos hu, fX6_heardAt_2, fX6_heardAt_3, em]
        exact ihh m (by omega)
      · have hud : ¬ sp_surg S s e = true := by simp [sp_surg, hu]
        simp only [hud, if_false] at ihh
        rw [if_neg hu, fX6_heardAt_2, fX6_heardAt_3, em]
        exact ihh m (by omega)
    · have hsd : ¬ sp_sent S s e = true := by simp only [sp_sent, decide_eq_true_eq]; exact hs
      have hud : ¬ sp_surg S s e = true := by simp only [sp_surg, decide_eq_true_eq]; exact fun q => hs q.1
      simp only [hsd, hud, if_false] at ihh
      rw [if_neg hs, if_pos rfl, fX6_heardAt_3, em]
      exact ihh (m + 1) (by omega)
theorem m6_heardAt {k c n : Nat} {w T S : ra_W} (s : Int32) (hk : 30 ≤ k) (hT : mNet w n T) (h : mSt w c n S) (hn : n ≤ 7) : FX6_heardAt k c s w = some (pu_enc (sp_heard n S s), w) := by
  obtain ⟨k, rfl⟩ : ∃ q, k = q + 1 := ⟨k - 1, by omega⟩
  unfold FX6_heardAt
  rw [fX6_heardAt_0, hT.1]
  exact m6_heardAt_loop s (by omega) h hn n 0 k (by omega) (by omega)
theorem m6_hear_loop {k c n : Nat} {T S : ra_W} {h : Option Nat} (s : Int32) (hk : 1 ≤ k) (hn : n ≤ 7) (hc : c ≠ 136) (hh : ∀ r, h = some r → r < 2 ^ 31) : ∀ (d i m : Nat) (w : ra_W), i + d = n → 4 * d + 1 ≤ m → mNet w n T → mSt w c n (sp_hearI h i S s) → ∃ w', fX6_controls2 k c m 1 s (pu_enc h) (nI i) 0 0 0 w = some (0, w') ∧ mSt w' c n (sp_hearI h n S s) ∧ pu_mf c w w' := by
  intro d
  induction d with
  | zero =>
    intro i m w hi hm hT hw
    obtain ⟨m, rfl⟩ : ∃ q, m = q + 1 := ⟨m - 1, by omega⟩
    have hin : i = n := by omega
    subst hin
    rw [fX6_controls2_1, hT.1, if_pos (nI_le (Nat.le_refl i) (by omega))]
    exact ⟨w, rfl, hw, pu_mf_rf c w⟩
  | succ d ih =>
    intro i m w hi hm hT hw
    obtain ⟨m, rfl⟩ : ∃ q, m = q + 1 + 1 + 1 + 1 := ⟨m - 4, by omega⟩
    rw [fX6_controls2_1, hT.1, if_neg (nI_ge (by omega) (by omega)), m6_isSentAt s hk hw (by omega) hn]
    simp only [ra_bind]
    have e1 : sp_hearI h i S s 1 i = S 1 i := by simp [sp_hearI]
    have e0 : sp_hearI h i S s 0 i = S 0 i := by simp [sp_hearI]
    rw [e1, e0]
    by_cases hs : S 1 i = 1 ∧ S 0 i = s
    · rw [if_pos hs, if_neg (by decide)]
      have step : ∀ x y : Int32, sp_hearI h (i + 1) S s = ra_st (ra_st (sp_hearI h i S s) 1 i x) 2 i y → ∃ w', fX6_controls2 k c (m + 1 + 1) 3 s (pu_enc h) (nI i) y x (nI i) w = some (0, w') ∧ mSt w' c n (sp_hearI h n S s) ∧ pu_mf c w w' := by
        intro x y e
        rw [fX6_controls2_3, m6_becomes x y hk (by omega)]
        simp only [ra_bind, fX6_controls2_4, nI_1]
        have hf : pu_mf c w (ra_st (ra_st w c (13 + i) x) c (20 + i) y) := pu_mf_tr (pu_mf_st _ _ _ (by omega)) (pu_mf_st _ _ _ (by omega))
        obtain ⟨w', h1, h2, h3⟩ := ih (i + 1) m _ (by omega) (by omega) (mNet_x hT (hf.1 136 (Ne.symm hc))) (by rw [e]; exact mSt_2 _ hn (by omega) (mSt_1 _ hn (by omega) hw))
        exact ⟨w', h1, h2, pu_mf_tr hf h3⟩
      by_cases hh2 : h = some i
      · rw [if_pos ((pu_enc_eq (by omega) hh).mpr hh2), fX6_controls2_2, if_pos ((pu_enc_eq (by omega) hh).mpr hh2)]
        exact step 3 0 (by
          funext j r
          simp only [pu_st, sp_hearI]
          grind)
      · rw [if_neg (fun q => hh2 ((pu_enc_eq (by omega) hh).mp q)), fX6_controls2_2, if_neg (fun q => hh2 ((pu_enc_eq (by omega) hh).mp q))]
        exact step 2 _ (by
          funext j r
          simp only [pu_st, sp_hearI]
          grind)
    · rw [if_neg hs, if_pos rfl, fX6_controls2_4, nI_1]
      have e : sp_hearI h i S s = sp_hearI h (i + 1) S s := by
        funext j r
        simp only [sp_hearI]
        grind
      exact ih (i + 1) (m + 1 + 1) w (by omega) (by omega) hT (by rw [← e]; exact hw)
theorem m6_hear {k c n : Nat} {w T S : ra_W} (s : Int32) (hk : 40 ≤ k) (hn : n ≤ 7) (hc : c ≠ 136) (hT : mNet w n T) (h : mSt w c n S) : ∃ w', FX6_controls2 k c s w = some (0, w') ∧ mSt w' c n (sp_hear n S s) ∧ pu_mf c w w' := by
  obtain ⟨k, rfl⟩ : ∃ q, k = q + 1 := ⟨k - 1, by omega⟩
  unfold FX6_controls2
  rw [fX6_controls2_0, m6_heardAt s (by omega) hT h hn]
  simp only [ra_bind]
  have e : sp_hearI (sp_heard n S s) 0 S s = S := by
    funext j r
    simp [sp_hearI]
  exact m6_hear_loop s (by omega) hn hc (fun r hr => by have := sp_heard_lt hr; omega) n 0 k w (by omega) (by omega) hT (by rw [e]; exact h)
