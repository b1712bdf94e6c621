/-! THE RELATION -/
def pu_push {α : Type} (x : α) (H : Nat → α) : Nat → α
  | 0 => x
  | j + 1 => H j
/-- the ring's place of the j-th latest -/
def pu_rg (nx j : Nat) : Nat := 50 + 7 * ((nx + 11 - j) % 12)
def cH (w : ra_W) (n kn : Nat) (H : Nat → ra_W) (Ht : Nat → Nat) : Prop := ∃ nx, nx < 12 ∧ w 30 0 = nI kn ∧ w 30 2 = nI nx ∧ ∀ j, j < kn → cSt w (pu_rg nx j) n (H j) ∧ w (pu_rg nx j) 6 = nI (Ht j)
def mH (w : ra_W) (n kn : Nat) (H : Nat → ra_W) (Ht : Nat → Nat) : Prop := w 134 15 = nI kn ∧ ∀ j, j < kn → mRow (fun i => w 141 (41 * (kn - 1 - j) + i)) n (H j) ∧ w 141 (41 * (kn - 1 - j) + 2) = nI (Ht j)
def rC (n A : Nat) (T S : ra_W) (t kn : Nat) (H : Nat → ra_W) (Ht : Nat → Nat) : Prop := iv n A T S ∧ t ≤ 999 ∧ kn ≤ 12 ∧ ∀ j, j < kn → iv n A T (H j) ∧ Ht j ≤ 999
def cC (w : ra_W) (n : Nat) (T S : ra_W) (t kn : Nat) (H : Nat → ra_W) (Ht : Nat → Nat) : Prop := cNet w 3 n T ∧ cSt w 16 n S ∧ w 16 6 = nI t ∧ cH w n kn H Ht
def mC (w : ra_W) (n : Nat) (T S : ra_W) (t kn : Nat) (H : Nat → ra_W) (Ht : Nat → Nat) : Prop := mNet w n T ∧ mSt w 139 n S ∧ w 139 2 = nI t ∧ mH w n kn H Ht
def rX (w : ra_W) : Prop := ∃ L, L ≤ 80 ∧ w 1 0 = nI L ∧ w 134 2 = nI L ∧ ∀ j, j < L → w 2 j = w 135 j ∧ ∃ c, c < 256 ∧ w 2 j = nI c
def pOK (n A : Nat) (T : ra_W) (w : ra_W) (b : Nat) (f : Nat → Int32) : Prop := ∃ S t, cSt w b n S ∧ w b 6 = nI t ∧ mRow f n S ∧ f 2 = nI t ∧ iv n A T S ∧ t ≤ 999
def rI (n A : Nat) (T : ra_W) (w : ra_W) : Prop := pu_q (w 0 8) ∧ ∀ j, j < 2 → w 143 j = (if pu_bit (w 0 8) j = true then 1 else 0) ∧ (pu_bit (w 0 8) j = true → pOK n A T w (36 + 7 * j) (fun i => w 142 (41 * j + i)))
def rZ (w : ra_W) : Prop := ∃ m, m ≤ 6 ∧ w 0 11 = nI m ∧ w 134 20 = nI m ∧ ∀ j, j < m → (w 33 j = w 144 j ∧ w 34 j = w 145 j) ∧ (∃ q, 1 ≤ q ∧ q ≤ 20 ∧ w 33 j = nI q) ∧ (w 34 j = 0 ∨ w 34 j = 1)
def Rel (w : ra_W) : Prop := ∃ n A T S t kn H Ht, rC n A T S t kn H Ht ∧ cC w n T S t kn H Ht ∧ mC w n T S t kn H Ht ∧ rX w ∧ rI n A T w ∧ rZ w
/-! frames -/
theorem pu_rg_b {nx j : Nat} : 50 ≤ pu_rg nx j ∧ pu_rg nx j + 6 ≤ 133 := by
  unfold pu_rg
  omega
theorem cH_x {w w' : ra_W} {n kn : Nat} {H : Nat → ra_W} {Ht : Nat → Nat} (h : cH w n kn H Ht) (h30 : w' 30 = w 30) (hx : ∀ c, 50 ≤ c → c ≤ 133 → w' c = w c) : cH w' n kn H Ht := by
  obtain ⟨nx, h1, h2, h3, h4⟩ := h
  refine ⟨nx, h1, by rw [h30]; exact h2, by rw [h30]; exact h3, fun j hj => ⟨cSt_x (h4 j hj).1 (fun x a b => hx x (by have := @pu_rg_b nx j; omega) (by have := @pu_rg_b nx j; omega)), ?_⟩⟩
  rw [hx _ pu_rg_b.1 (by have := @pu_rg_b nx j; omega)]
  exact (h4 j hj).2
theorem mH_x {w w' : ra_W} {n kn : Nat} {H : Nat → ra_W} {Ht : Nat → Nat} (h : mH w n kn H Ht) (h15 : w' 134 15 = w 134 15) (hx : w' 141 = w 141) : mH w' n kn H Ht := by
  unfold mH at h ⊢
  rw [h15, hx]
  exact h
theorem cC_x {w w' : ra_W} {n : Nat} {T S : ra_W} {t kn : Nat} {H : Nat → ra_W} {Ht : Nat → Nat} (h : cC w n T S t kn H Ht) (hx : ∀ c, (3 ≤ c ∧ c ≤ 7) ∨ (16 ≤ c ∧ c ≤ 22) ∨ c = 30 ∨ (50 ≤ c ∧ c ≤ 133) → w' c = w c) : cC w' n T S t kn H Ht := ⟨cNet_x h.1 (fun x a b => hx x (by omega)), cSt_x h.2.1 (fun x a b => hx x (by omega)), by rw [hx 16 (by omega)]; exact h.2.2.1, cH_x h.2.2.2 (hx 30 (by omega)) (fun c a b => hx c (by omega))⟩
theorem mC_x {w w' : ra_W} {n : Nat} {T S : ra_W} {t kn : Nat} {H : Nat → ra_W} {Ht : Nat → Nat} (h : mC w n T S t kn H Ht) (h6 : w' 136 = w 136) (h9 : w' 139 = w 139) (h1 : w' 141 = w 141) (h15 : w' 134 15 = w 134 15) : mC w' n T S t kn H Ht := ⟨mNet_x h.1 h6, mSt_x h.2.1 h9, by rw [h9]; exact h.2.2.1, mH_x h.2.2.2 h15 h1⟩
theorem rX_x {w w' : ra_W} (h : rX w) (h1 : w' 1 0 = w 1 0) (h2 : w' 2 = w 2) (h3 : w' 134 2 = w 134 2) (h4 : w' 135 = w 135) : rX w' := by
  unfold rX at h ⊢
  rw [h1, h2, h3, h4]
  exact h
theorem pOK_x {n A : Nat} {T w w' : ra_W} {b : Nat} {f g : Nat → Int32} (hn : n ≤ 7) (h : pOK n A T w b f) (hx : ∀ c, b ≤ c → c ≤ b + 6 → w' c = w c) (e : ∀ i, i < 41 → g i = f i) : pOK n A T w' b g := by
  obtain ⟨S, t, h1, h2, h3, h4, h5, h6⟩ := h
  exact ⟨S, t, cSt_x h1 hx, by rw [hx b (by omega) (by omega)]; exact h2, mRow_c hn h3 e, by rw [e 2 (by omega)]; exact h4, h5, h6⟩
theorem rI_x {n A : Nat} {T w w' : ra_W} (hn : n ≤ 7) (h : rI n A T w) (h1 : w' 0 8 = w 0 8) (hx : ∀ c, 36 ≤ c → c ≤ 49 → w' c = w c) (h2 : w' 142 = w 142) (h3 : w' 143 = w 143) : rI n A T w' := by
  obtain ⟨a, b⟩ := h
  refine ⟨by rw [h1]; exact a, fun j hj => ⟨by rw [h1, h3]; exact (b j hj).1, fun z => ?_⟩⟩
  rw [h1] at z
  exact pOK_x hn ((b j hj).2 z) (fun c a b => hx c (by omega) (by omega)) (fun i _ => by rw [h2])
theorem rZ_x {w w' : ra_W} (h : rZ w) (h1 : w' 0 11 = w 0 11) (h2 : w' 134 20 = w 134 20) (h3 : w' 33 = w 33) (h4 : w' 34 = w 34) (h5 : w' 144 = w 144) (h6 : w' 145 = w 145) : rZ w' := by
  unfold rZ at h ⊢
  rw [h1, h2, h3, h4, h5, h6]
  exact h
/-- what the class's acts may change -/
def fc (w w' : ra_W) : Prop := ∀ c, c ≠ 14 → c ≠ 15 → (c < 16 ∨ 22 < c) → c ≠ 30 → (c < 50 ∨ 133 < c) → w' c = w c
/-- what the model's acts may change -/
def fm (w w' : ra_W) : Prop := (∀ c, c ≠ 134 → c ≠ 139 → c ≠ 141 → c ≠ 146 → c ≠ 147 → w' c = w c) ∧ ∀ i, i ≠ 0 → i ≠ 15 → i ≠ 22 → w' 134 i = w 134 i
theorem fc_rf (w : ra_W) : fc w w := fun _ _ _ _ _ _ => rfl
theorem fc_tr {w w1 w2 : ra_W} (h1 : fc w w1) (h2 : fc w1 w2) : fc w w2 := fun c a b d e f => (h2 c a b d e f).trans (h1 c a b d e f)
theorem fm_rf (w : ra_W) : fm w w := ⟨fun _ _ _ _ _ _ => rfl, fun _ _ _ _ => rfl⟩
theorem fm_tr {w w1 w2 : ra_W} (h1 : fm w w1) (h2 : fm w1 w2) : fm w w2 := ⟨fun c a b d e f => (h2.1 c a b d e f).trans (h1.1 c a b d e f), fun i a b d => (h2.2 i a b d).trans (h1.2 i a b d)⟩
theorem fm_0 (w : ra_W) (x : Int32) : fm w (ra_st w 134 0 x) := ⟨fun c a _ _ _ _ => pu_st_ne a, fun i a _ _ => by rw [pu_st, if_neg (by omega)]⟩
theorem fm_139 (w : ra_W) (i : Nat) (x : Int32) : fm w (ra_st w 139 i x) := ⟨fun c _ a _ _ _ => pu_st_ne a, fun i _ _ _ => by rw [pu_st_ne (by decide)]⟩
theorem mC_fc {w w' : ra_W} {n : Nat} {T S : ra_W} {t kn : Nat} {H : Nat → ra_W} {Ht : Nat → Nat} (h : mC w n T S t kn H Ht) (hf : fc w w') : mC w' n T S t kn H Ht := by
  have e : ∀ c, 133 < c → w' c = w c := fun c a => hf c (by omega) (by omega) (by omega) (by omega) (by omega)
  exact mC_x h (e _ (by omega)) (e _ (by omega)) (e _ (by omega)) (by rw [e 134 (by omega)])
theorem mC_0 {w : ra_W} {n : Nat} {T S : ra_W} {t kn : Nat} {H : Nat → ra_W} {Ht : Nat → Nat} (h : mC w n T S t kn H Ht) : mC (ra_st w 134 0 0) n T S t kn H Ht := mC_x h (pu_st_ne (by decide)) (pu_st_ne (by decide)) (pu_st_ne (by decide)) (by rw [pu_st, if_neg (by decide)])
theorem cC_fm {w w' : ra_W} {n : Nat} {T S : ra_W} {t kn : Nat} {H : Nat → ra_W} {Ht : Nat → Nat} (h : cC w n T S t kn H Ht) (hf : fm w w') : cC w' n T S t kn H Ht := cC_x h (fun c a => hf.1 c (by omega) (by omega) (by omega) (by omega) (by omega))
theorem Rel_act {w w1 w2 : ra_W} {n A : Nat} {T S : ra_W} {t kn : Nat} {H : Nat → ra_W} {Ht : Nat → Nat} (hc : rC n A T S t kn H Ht) (h1 : cC w1 n T S t kn H Ht) (h2 : mC w2 n T S t kn H Ht) (f1 : fc w w1) (f2 : fm w1 w2) (hX : rX w) (hI : rI n A T w) (hZ : rZ w) : Rel w2 := by
  have e : ∀ c, c ≠ 14 → c ≠ 15 → (c < 16 ∨ 22 < c) → c ≠ 30 → (c < 50 ∨ 133 < c) → c ≠ 134 → c ≠ 139 → c ≠ 141 → c ≠ 146 → c ≠ 147 → w2 c = w c := fun c a1 a2 a3 a4 a5 b1 b2 b3 b4 b5 => (f2.1 c b1 b2 b3 b4 b5).trans (f1 c a1 a2 a3 a4 a5)
  have e4 : ∀ i, i ≠ 0 → i ≠ 15 → i ≠ 22 → w2 134 i = w 134 i := fun i a b c => (f2.2 i a b c).trans (by rw [f1 134 (by omega) (by omega) (by omega) (by omega) (by omega)])
  have e0 : w2 0 = w 0 := e 0 (by omega) (by omega) (by omega) (by omega) (by omega) (by omega) (by omega) (by omega) (by omega) (by omega)
  refine ⟨n, A, T, S, t, kn, H, Ht, hc, cC_fm h1 f2, h2, rX_x hX ?_ ?_ (e4 2 (by omega) (by omega) (by omega)) ?_, rI_x hc.1.1.2.2.2 hI ?_ (fun c a b => ?_) ?_ ?_, rZ_x hZ ?_ (e4 20 (by omega) (by omega) (by omega)) ?_ ?_ ?_ ?_⟩
  · rw [e 1 (by omega) (by omega) (by omega) (by omega) (by omega) (by omega) (by omega) (by omega) (by omega) (by omega)]
  · exact e 2 (by omega) (by omega) (by omega) (by omega) (by omega) (by omega) (by omega) (by omega) (by omega) (by omega)
  · exact e 135 (by omega) (by omega) (by omega) (by omega) (by omega) (by omega) (by omega) (by omega) (by omega) (by omega)
  · rw [e0]
  · exact e c (by omega) (by omega) (by omega) (by omega) (by omega) (by omega) (by omega) (by omega) (by omega) (by omega)
  · exact e 142 (by omega) (by omega) (by omega) (by omega) (by omega) (by omega) (by omega) (by omega) (by omega) (by omega)
  · exact e 143 (by omega) (by omega) (by omega) (by omega) (by omega) (by omega) (by omega) (by omega) (by omega) (by omega)
  · rw [e0]
  · exact e 33 (by omega) (by omega) (by omega) (by omega) (by omega) (by omega) (by omega) (by omega) (by omega) (by omega)
  · exact e 34 (by omega) (by omega) (by omega) (by omega) (by omega) (by omega) (by omega) (by omega) (by omega) (by omega)
  · exact e 144 (by omega) (by omega) (by omega) (by omega) (by omega) (by omega) (by omega) (by omega) (by omega) (by omega)
  · exact e 145 (by omega) (by omega) (by omega) (by omega) (by omega) (by omega) (by omega) (by omega) (by omega) (by omega)
/-- what a question may change -/
def fz (w w' : ra_W) : Prop := (∀ c, c ≠ 1 → (c < 8 ∨ 15 < c) → (c < 23 ∨ 29 < c) → c ≠ 35 → c ≠ 134 → c ≠ 137 → c ≠ 138 → c ≠ 140 → c ≠ 146 → c ≠ 147 → c ≠ 148 → w' c = w c) ∧ w' 1 0 = w 1 0 ∧ w' 134 2 = w 134 2 ∧ w' 134 15 = w 134 15 ∧ w' 134 20 = w 134 20
theorem fz_rf (w : ra_W) : fz w w := ⟨fun _ _ _ _ _ _ _ _ _ _ _ _ => rfl, rfl, rfl, rfl, rfl⟩
theorem fz_tr {w w1 w2 : ra_W} (h1 : fz w w1) (h2 : fz w1 w2) : fz w w2 := ⟨fun c a b d e f g h i j k l => (h2.1 c a b d e f g h i j k l).trans (h1.1 c a b d e f g h i j k l), h2.2.1.trans h1.2.1, h2.2.2.1.trans h1.2.2.1, h2.2.2.2.1.trans h1.2.2.2.1, h2.2.2.2.2.trans h1.2.2.2.2⟩
theorem fz_0 (w : ra_W) (x : Int32) : fz w (ra_st w 134 0 x) := ⟨fun c _ _ _ _ a _ _ _ _ _ _ => pu_st_ne a, by rw [pu_st_ne (by decide)], by rw [pu_st, if_neg (by decide)], by rw [pu_st, if_neg (by decide)], by rw [pu_st, if_neg (by decide)]⟩
theorem fz_e {w w' : ra_W} (h : fz w w') {c : Nat} (hc : c ≠ 1 ∧ (c < 8 ∨ 15 < c) ∧ (c < 23 ∨ 29 < c) ∧ c ≠ 35 ∧ (c < 134 ∨ 138 < c ∨ c = 135 ∨ c = 136) ∧ c ≠ 140 ∧ (c < 146 ∨ 148 < c)) : w' c = w c := h.1 c (by omega) (by omega) (by omega) (by omega) (by omega) (by omega) (by omega) (by omega) (by omega) (by omega) (by omega)
theorem cC_fz {w w' : ra_W} {n : Nat} {T S : ra_W} {t kn : Nat} {H : Nat → ra_W} {Ht : Nat → Nat} (h : cC w n T S t kn H Ht) (hf : fz w w') : cC w' n T S t kn H Ht := cC_x h (fun c a => fz_e hf (by omega))
theorem mC_fz {w w' : ra_W} {n : Nat} {T S : ra_W} {t kn : Nat} {H : Nat → ra_W} {Ht : Nat → Nat} (h : mC w n T S t kn H Ht) (hf : fz w w') : mC w' n T S t kn H Ht := mC_x h (fz_e hf (by omega)) (fz_e hf (by omega)) (fz_e hf (by omega)) hf.2.2.2.1
theorem rX_fz {w w' : ra_W} (h : rX w) (hf : fz w w') : rX w' := rX_x h hf.2.1 (fz_e hf (by omega)) hf.2.2.1 (fz_e hf (by omega))
theorem rI_fz {n A : Nat} {T w w' : ra_W} (hn : n ≤ 7) (h : rI n A T w) (hf : fz w w') : rI n A T w' := rI_x hn h (by rw [fz_e hf (c := 0) (by omega)]) (fun c a b => fz_e hf (by omega)) (fz_e hf (by omega)) (fz_e hf (by omega))
theorem rZ_fz {w w' : ra_W} (h : rZ w) (hf : fz w w') : rZ w' := rZ_x h (by rw [fz_e hf (c := 0) (by omega)]) hf.2.2.2.2 (fz_e hf (by omega)) (fz_e hf (by omega)) (fz_e hf (by omega)) (fz_e hf (by omega))
theorem Rel_fz {w w' : ra_W} (h : Rel w) (hf : fz w w') : Rel w' := by
  obtain ⟨n, A, T, S, t, kn, H, Ht, hc, h1, h2, hX, hI, hZ⟩ := h
  exact ⟨n, A, T, S, t, kn, H, Ht, hc, cC_fz h1 hf, mC_fz h2 hf, rX_fz hX hf, rI_fz hc.1.1.2.2.2 hI hf, rZ_fz hZ hf⟩
/-! the history -/
theorem pu_rg_ne {nx i j : Nat} (hi : i < 12) (hj : j < 12) (hne : i ≠ j) : pu_rg nx i + 6 < pu_rg nx j ∨ pu_rg nx j + 6 < pu_rg nx i := by
  unfold pu_rg
  omega
theorem pu_mod12 {x : Nat} (h : x < 100) : nI x - nI x / 12 * 12 = nI (x % 12) := by
  have e : x = 12 * (x / 12) + x % 12 := by omega
  have h1 : nI x / 12 = nI (x / 12) := by
    apply Int32.toInt_inj.mp
    rw [Int32.toInt_div, nI_toInt (by omega), nI_toInt (by omega)]
    show ((x : Int).tdiv 12).bmod (2 ^ 32) = _
    rw [Int.tdiv_eq_ediv_of_nonneg (by omega), Int.bmod_eq_of_le (by omega) (by omega)]
    omega
  rw [h1]
  apply Int32.toInt_inj.mp
  have h2 : nI (x / 12) * 12 = nI (x / 12 * 12) := by
    show nI (x / 12) * nI 12 = _
    exact (Int32.ofNat_mul _ _).symm
  rw [h2, pk_sub (by omega)]
  congr 1
  congr 1
  omega
