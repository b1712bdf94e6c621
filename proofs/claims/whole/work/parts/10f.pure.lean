/-! THE TICK, as a function; its invariant -/
def sp_mn (x : Int32) : Int32 := if x + 1 < 99 then x + 1 else 99
def sp_site (n : Nat) (T : ra_W) (s : Nat) (S : ra_W) : ra_W := if S 5 s = -1 then sp_hear n S (nI s) else (if 2 ≤ sp_mn (S 5 s) then sp_help n T s (ra_st S 5 s (sp_mn (S 5 s))) else ra_st S 5 s (sp_mn (S 5 s)))
def sp_srvI (n : Nat) (T : ra_W) (l : Nat → Nat) (S : ra_W) : Nat → ra_W
  | 0 => S
  | m + 1 => sp_serve n T (l m) (sp_srvI n T l S m)
def sp_mid (n : Nat) (T S : ra_W) : ra_W := sp_cutI (T 0 1) (S 1) (sp_tryI (S 1) n (sp_site n T 1 (sp_site n T 0 S))) n
def sp_lin (n : Nat) (T S : ra_W) : ra_W := sp_srvI n T (sp_line T S n).1 S (sp_line T S n).2
def sp_tick (n : Nat) (T S : ra_W) : ra_W := sp_giveI (T 0 2) (sp_lin n T (sp_mid n T S)) n
def iv_r (A : Nat) (S : ra_W) (r : Nat) : Prop := (∃ s, s < 2 ∧ S 0 r = nI s) ∧ (S 3 r = 0 ∨ S 3 r = 1) ∧ pu_q (S 4 r) ∧ (S 1 r = 0 → S 2 r = 0 ∧ S 3 r = 0 ∧ S 4 r = 0) ∧ (¬ S 4 r = 0 → S 1 r = 4) ∧ (S 1 r = 2 → S 2 r = 1 ∨ S 2 r = 2 ∨ S 2 r = 3) ∧ (S 1 r = 4 ∨ S 1 r = 5 → ∃ d, d < A ∧ S 2 r = nI d)
def iv_g (n : Nat) (T : ra_W) (V : Nat → Int32) : Prop := ∀ r q, r < n → q < n → V r = 4 → V q = 4 → T 2 r = T 2 q → r = q
def iv_c (n : Nat) (T S : ra_W) : Prop := ∀ i, i < 2 → ∃ c, 1 ≤ c ∧ c ≤ 7 ∧ T 1 i = nI c ∧ pu_cnt (sp_hb S i) n ≤ c
def iv_l (S : ra_W) : Prop := ∀ i, i < 2 → S 5 i = -1 ∨ ∃ d, d ≤ 99 ∧ S 5 i = nI d
def iv_t (n A : Nat) (T : ra_W) : Prop := 1 ≤ A ∧ A < 100 ∧ T 0 1 = nI A ∧ n ≤ 7
def iv (n A : Nat) (T S : ra_W) : Prop := iv_t n A T ∧ (∀ r, r < n → iv_r A S r) ∧ iv_g n T (S 1) ∧ iv_c n T S ∧ iv_l S
theorem iv_c_ch {n : Nat} {T S : ra_W} (h : iv_c n T S) : sp_ch T := fun i hi => by
  obtain ⟨c, h1, h2, h3, -⟩ := h i hi
  exact ⟨c, h1, h2, h3⟩
theorem pu_cnt_mono {p q : Nat → Bool} : ∀ {n : Nat}, (∀ r, r < n → p r = true → q r = true) → pu_cnt p n ≤ pu_cnt q n
  | 0, _ => Nat.le_refl 0
  | n + 1, h => by
    have ih := pu_cnt_mono (p := p) (q := q) (n := n) (fun r hr => h r (by omega))
    have h1 := h n (by omega)
    simp only [pu_cnt]
    by_cases hp : p n = true
    · rw [if_pos hp, if_pos (h1 hp)]; omega
    · rw [if_neg hp]; omega
theorem pu_cnt_cong {p q : Nat → Bool} {n : Nat} (h : ∀ r, r < n → p r = q r) : pu_cnt p n = pu_cnt q n := Nat.le_antisymm (pu_cnt_mono (fun r hr e => by rw [← h r hr]; exact e)) (pu_cnt_mono (fun r hr e => by rw [h r hr]; exact e))
theorem pu_cnt_set {p q : Nat → Bool} {r : Nat} : ∀ {n : Nat}, r < n → p r = false → (∀ j, j < n → j ≠ r → q j = p j) → pu_cnt q n = pu_cnt p n + (if q r = true then 1 else 0)
  | 0, h, _, _ => absurd h (by omega)
  | n + 1, h, h0, h1 => by
    simp only [pu_cnt]
    by_cases e : r = n
    · subst e
      have e0 : (if p r = true then 1 else 0) = 0 := by simp [h0]
      rw [pu_cnt_cong (p := q) (q := p) (n := r) (fun j hj => h1 j (by omega) (by omega)), e0]
      omega
    · rw [pu_cnt_set (n := n) (by omega) h0 (fun j hj hne => h1 j (by omega) hne), h1 n (by omega) (fun z => e z.symm)]
      omega
theorem iv_c_of {n : Nat} {T S S' : ra_W} (h : iv_c n T S) (hh : ∀ r, r < n → S' 4 r = S 4 r ∨ S' 4 r = 0) : iv_c n T S' := by
  intro i hi
  obtain ⟨c, h1, h2, h3, h4⟩ := h i hi
  refine ⟨c, h1, h2, h3, Nat.le_trans (pu_cnt_mono (fun r hr e => ?_)) h4⟩
  rcases hh r hr with z | z
  · rw [sp_hb, ← z]; exact e
  · rw [sp_hb, z] at e
    unfold pu_bit at e
    split at e <;> simp at e
/-- between the steps: V is how all were as the tick began -/
def jv_r (A : Nat) (V : Nat → Int32) (S : ra_W) (r : Nat) : Prop := (∃ s, s < 2 ∧ S 0 r = nI s) ∧ (S 3 r = 0 ∨ S 3 r = 1) ∧ pu_q (S 4 r) ∧ (S 1 r = 0 → S 2 r = 0 ∧ S 3 r = 0 ∧ S 4 r = 0) ∧ (¬ S 4 r = 0 → S 1 r = 4) ∧ (S 1 r = 2 → S 2 r = 1 ∨ S 2 r = 2 ∨ S 2 r = 3) ∧ (S 1 r = 4 → V r = 4) ∧ (V r = 2 → S 1 r = 2) ∧ (V r = 4 ∨ V r = 5 → S 1 r = V r ∧ ∃ d, d < A ∧ S 2 r = nI d) ∧ (S 1 r = 5 → V r = 5 ∨ S 2 r = 0) ∧ (V r = 0 → S 1 r = 0)
theorem jv_of_iv {A : Nat} {S : ra_W} {r : Nat} (h : iv_r A S r) : jv_r A (S 1) S r := by
  unfold iv_r at h
  unfold jv_r
  grind
theorem pu_mod3 {r : Nat} (h : r < 7) : (1 : Int32) + (nI r - nI r / 3 * 3) = 1 ∨ (1 : Int32) + (nI r - nI r / 3 * 3) = 2 ∨ (1 : Int32) + (nI r - nI r / 3 * 3) = 3 := by
  rcases (show r = 0 ∨ r = 1 ∨ r = 2 ∨ r = 3 ∨ r = 4 ∨ r = 5 ∨ r = 6 by omega) with rfl | rfl | rfl | rfl | rfl | rfl | rfl <;> decide
theorem jv_same {A : Nat} {V : Nat → Int32} {S S' : ra_W} {r : Nat} (h : jv_r A V S r) (h0 : S' 0 r = S 0 r) (h1 : S' 1 r = S 1 r) (h2 : S' 2 r = S 2 r) (h3 : S' 3 r = S 3 r) (h4 : S' 4 r = S 4 r) : jv_r A V S' r := by
  unfold jv_r at h ⊢
  rw [h0, h1, h2, h3, h4]
  exact h
theorem jv_set {A : Nat} {V : Nat → Int32} {S S' : ra_W} {r : Nat} (h : jv_r A V S r) (hs : S 1 r = 1) (h0 : S' 0 r = S 0 r) (h3 : S' 3 r = S 3 r) (h4 : S' 4 r = S 4 r) (h1 : S' 1 r = 3 ∨ (S' 1 r = 2 ∧ (S' 2 r = 1 ∨ S' 2 r = 2 ∨ S' 2 r = 3)) ∨ (S' 1 r = 5 ∧ S' 2 r = 0)) : jv_r A V S' r := by
  unfold jv_r at h ⊢
  rw [h0, h3, h4]
  obtain ⟨a1, a2, a3, a4, a5, a6, a7, a8, a9, a10, a11⟩ := h
  have b1 : S 4 r = 0 := by
    rcases Decidable.em (S 4 r = 0) with q | q
    · exact q
    · have := a5 q
      rw [hs] at this
      exact absurd this (by decide)
  have b2 : ¬ V r = 2 := fun q => by have := a8 q; rw [hs] at this; exact absurd this (by decide)
  have b3 : ¬ (V r = 4 ∨ V r = 5) := fun q => by
    have := (a9 q).1
    rw [hs] at this
    rcases q with z | z <;> rw [z] at this <;> exact absurd this (by decide)
  have b4 : ¬ V r = 0 := fun q => by have := a11 q; rw [hs] at this; exact absurd this (by decide)
  refine ⟨a1, a2, a3, ?_, fun q => absurd b1 q, ?_, ?_, fun q => absurd q b2, fun q => absurd q b3, ?_, fun q => absurd q b4⟩
  · intro q
    rcases h1 with z | z | z
    · rw [z] at q; exact absurd q (by decide)
    · rw [z.1] at q; exact absurd q (by decide)
    · rw [z.1] at q; exact absurd q (by decide)
  · intro q
    rcases h1 with z | z | z
    · rw [z] at q; exact absurd q (by decide)
    · exact z.2
    · rw [z.1] at q; exact absurd q (by decide)
  · intro q
    rcases h1 with z | z | z
    · rw [z] at q; exact absurd q (by decide)
    · rw [z.1] at q; exact absurd q (by decide)
    · rw [z.1] at q; exact absurd q (by decide)
  · intro q
    rcases h1 with z | z | z
    · rw [z] at q; exact absurd q (by decide)
    · rw [z.1] at q; exact absurd q (by decide)
    · exact Or.inr z.2
theorem jv_hear {n A : Nat} {V : Nat → Int32} {S : ra_W} {s : Int32} {r : Nat} (hn : n ≤ 7) (hr : r < n) (h : jv_r A V S r) : jv_r A V (sp_hear n S s) r := by
  by_cases hs : S 1 r = 1 ∧ S 0 r = s
  · have hc : r < n ∧ S 1 r = 1 ∧ S 0 r = s := ⟨hr, hs⟩
    refine jv_set h hs.1 (by simp [sp_hear, sp_hearI]) (by simp [sp_hear, sp_hearI]) (by simp [sp_hear, sp_hearI]) ?_
    simp only [sp_hear, sp_hearI, if_pos hc]
    by_cases hh : sp_heard n S s = some r
    · left; simp [hh]
    · right; left
      simp only [hh, if_false, if_true]
      exact ⟨trivial, pu_mod3 (by omega)⟩
  · have hc : ¬ (r < n ∧ S 1 r = 1 ∧ S 0 r = s) := fun q => hs q.2
    exact jv_same h (by simp only [sp_hear, sp_hearI, if_neg hc]) (by simp only [sp_hear, sp_hearI, if_neg hc]) (by simp only [sp_hear, sp_hearI, if_neg hc]) (by simp only [sp_hear, sp_hearI, if_neg hc]) (by simp only [sp_hear, sp_hearI, if_neg hc])
theorem sp_hear_ne {n : Nat} {S : ra_W} {s : Int32} {j r : Nat} (h1 : j ≠ 1) (h2 : j ≠ 2) : sp_hear n S s j r = S j r := by
  simp only [sp_hear, sp_hearI]
  grind
/-- what helping does to one radio -/
theorem sp_helpI_r {n : Nat} {T : ra_W} {s : Nat} {S : ra_W} {r : Nat} : ∀ m, (∀ j, j ≠ 6 → sp_helpI n T s S m j r = S j r) ∨ (S 1 r = 1 ∧ sp_helpI n T s S m 1 r = 5 ∧ sp_helpI n T s S m 2 r = 0 ∧ ∀ j, j ≠ 6 → j ≠ 1 → j ≠ 2 → sp_helpI n T s S m j r = S j r)
  | 0 => Or.inl (fun _ _ => rfl)
  | m + 1 => by
    have ih := sp_helpI_r (n := n) (T := T) (s := s) (S := S) (r := r) m
    simp only [sp_helpI, sp_help1]
    generalize sp_helpI n T s S m = Q at ih
    split
    · rename_i hc
      simp only [pu_st]
      by_cases e : r = m
      · subst e
        right
        have h1 : S 1 r = 1 := by
          rcases ih with z | z
          · rw [← z 1 (by decide)]; exact hc.1.1
          · have := hc.1.1
            rw [z.2.1] at this
            exact absurd this (by decide)
        refine ⟨h1, by simp, by simp, fun j a1 a2 a3 => ?_⟩
        simp only [a1, a2, a3, false_and, if_false]
        rcases ih with z | z
        · exact z j a1
        · exact z.2.2.2 j a1 a2 a3
      · rcases ih with z | z
        · left
          intro j a1
          simp only [a1, e, false_and, and_false, if_false]
          exact z j a1
        · right
          refine ⟨z.1, by simp [e, z.2.1], by simp [e, z.2.2.1], fun j a1 a2 a3 => ?_⟩
          simp only [a1, a2, a3, false_and, if_false]
          exact z.2.2.2 j a1 a2 a3
    · exact ih
theorem jv_help {n A : Nat} {V : Nat → Int32} {T S : ra_W} {s r : Nat} (h : jv_r A V S r) : jv_r A V (sp_help n T s S) r := by
  rcases sp_helpI_r (n := n) (T := T) (s := s) (S := S) (r := r) n with z | z
  · exact jv_same h (z 0 (by decide)) (z 1 (by decide)) (z 2 (by decide)) (z 3 (by decide)) (z 4 (by decide))
  · exact jv_set h z.1 (z.2.2.2 0 (by decide) (by decide) (by decide)) (z.2.2.2 3 (by decide) (by decide) (by decide)) (z.2.2.2 4 (by decide) (by decide) (by decide)) (Or.inr (Or.inr ⟨z.2.1, z.2.2.1⟩))
theorem sp_help_ne {n : Nat} {T S : ra_W} {s j r : Nat} (h6 : j ≠ 6) (h1 : j ≠ 1) (h2 : j ≠ 2) : sp_help n T s S j r = S j r := by
  rcases sp_helpI_r (n := n) (T := T) (s := s) (S := S) (r := r) n with z | z
  · exact z j h6
  · exact z.2.2.2 j h6 h1 h2
theorem jv_site {n A : Nat} {V : Nat → Int32} {T S : ra_W} {s r : Nat} (hn : n ≤ 7) (hr : r < n) (h : jv_r A V S r) : jv_r A V (sp_site n T s S) r := by
  unfold sp_site
  split
  · exact jv_hear hn hr h
  · have h5 : ∀ x, jv_r A V (ra_st S 5 s x) r := fun x => jv_same h (by simp [pu_st]) (by simp [pu_st]) (by simp [pu_st]) (by simp [pu_st]) (by simp [pu_st])
    split
    · exact jv_help (h5 _)
    · exact h5 _
theorem sp_site_4 {n : Nat} {T S : ra_W} {s r : Nat} : sp_site n T s S 4 r = S 4 r := by
  unfold sp_site
  split
  · exact sp_hear_ne (by decide) (by decide)
  · split
    · rw [sp_help_ne (j := 4) (by decide) (by decide) (by decide)]; simp [pu_st]
    · simp [pu_st]
theorem sp_site_0 {n : Nat} {T S : ra_W} {s r : Nat} : sp_site n T s S 0 r = S 0 r := by
  unfold sp_site
  split
  · exact sp_hear_ne (by decide) (by decide)
  · split
    · rw [sp_help_ne (j := 0) (by decide) (by decide) (by decide)]; simp [pu_st]
    · simp [pu_st]
theorem sp_site_5 {n : Nat} {T S : ra_W} {s i : Nat} : sp_site n T s S 5 i = if i = s ∧ ¬ S 5 s = -1 then sp_mn (S 5 s) else S 5 i := by
  unfold sp_site
  split
  · rename_i h
    rw [sp_hear_ne (j := 5) (by decide) (by decide)]
    simp [h]
  · rename_i h
    split
    · rw [sp_help_ne (j := 5) (by decide) (by decide) (by decide), pu_st]
      simp [h]
    · rw [pu_st]
      simp [h]
theorem iv_l_site {n : Nat} {T S : ra_W} {s : Nat} (h : iv_l S) : iv_l (sp_site n T s S) := by
  intro i hi
  rw [sp_site_5]
  split
  · rename_i hc
    obtain ⟨e, hne⟩ := hc
    subst e
    right
    rcases h i hi with z | ⟨d, hd, z⟩
    · exact absurd z hne
    · unfold sp_mn
      rw [z, nI_1]
      rcases Nat.lt_or_ge (d + 1) 99 with q | q
      · rw [if_pos (show nI (d + 1) < 99 from nI_lt q (by decide))]
        exact ⟨d + 1, by omega, rfl⟩
      · rw [if_neg (show ¬ nI (d + 1) < 99 from nI_nlt q (by omega))]
        exact ⟨99, by omega, rfl⟩
  · exact h i hi
/-- one radio through steps 3 and 4 -/
theorem sp_cutI_r {Ax : Int32} {V : Nat → Int32} {S : ra_W} {r : Nat} : ∀ m j, j ≠ 6 → sp_cutI Ax V S m j r = if r < m ∧ (V r = 4 ∨ V r = 5) then (if S 2 r + 1 = Ax then (if j = 1 ∨ j = 2 ∨ j = 3 ∨ j = 4 then 0 else S j r) else if j = 2 then S 2 r + 1 else S j r) else S j r
  | 0, j, _ => by simp [sp_cutI]
  | m + 1, j, hj => by
    have ih := sp_cutI_r (Ax := Ax) (V := V) (S := S) (r := r) m
    simp only [sp_cutI, sp_cut1]
    generalize sp_cutI Ax V S m = Q at ih
    by_cases e : r = m
    · subst e
      have hq : ∀ j, j ≠ 6 → Q j r = S j r := fun j hj => by rw [ih j hj]; simp
      have h2 := hq 2 (by decide)
      by_cases hv : V r = 4 ∨ V r = 5
      · have hcd : r < r + 1 ∧ (V r = 4 ∨ V r = 5) := ⟨by omega, hv⟩
        rw [if_pos hv, if_pos hcd, h2]
        by_cases hc : S 2 r + 1 = Ax
        · rw [if_pos hc, if_pos hc]
          simp only [sp_rest, pu_st]
          have := hq j hj
          grind
        · rw [if_neg hc, if_neg hc, pu_st]
          have := hq j hj
          grind
      · rw [if_neg hv, if_neg (fun q => hv q.2)]
        exact hq j hj
    · have h1 : (r < m + 1 ∧ (V r = 4 ∨ V r = 5)) ↔ (r < m ∧ (V r = 4 ∨ V r = 5)) := by constructor <;> intro ⟨a, b⟩ <;> exact ⟨by omega, b⟩
      have hst : ∀ Q' : ra_W, (∀ j, j ≠ 6 → Q' j r = Q j r) → Q' j r = Q j r := fun Q' h => h j hj
      simp only [h1]
      rw [← ih j hj]
      split
      · split
        · simp only [sp_rest, pu_st]
          simp [e, hj]
        · simp [pu_st, e]
      · rfl
theorem iv_mid_r {n A : Nat} {T S : ra_W} {r : Nat} (hr : r < n) (h1 : 1 ≤ A) (h2 : A < 100) (hA : T 0 1 = nI A) {V : Nat → Int32} (h : jv_r A V S r) : iv_r A (sp_cutI (T 0 1) V (sp_tryI V n S) n) r ∧ (sp_cutI (T 0 1) V (sp_tryI V n S) n 1 r = 4 → V r = 4) ∧ (V r = 0 → sp_cutI (T 0 1) V (sp_tryI V n S) n 1 r = 0) ∧ (sp_cutI (T 0 1) V (sp_tryI V n S) n 4 r = S 4 r ∨ sp_cutI (T 0 1) V (sp_tryI V n S) n 4 r = 0) := by
  have q0 := sp_cutI_r (Ax := T 0 1) (V := V) (S := sp_tryI V n S) (r := r) n 0 (by decide)
  have q1 := sp_cutI_r (Ax := T 0 1) (V := V) (S := sp_tryI V n S) (r := r) n 1 (by decide)
  have q2 := sp_cutI_r (Ax := T 0 1) (V := V) (S := sp_tryI V n S) (r := r) n 2 (by decide)
  have q3 := sp_cutI_r (Ax := T 0 1) (V := V) (S := sp_tryI V n S) (r := r) n 3 (by decide)
  have q4 := sp_cutI_r (Ax := T 0 1) (V := V) (S := sp_tryI V n S) (r := r) n 4 (by decide)
  unfold iv_r
  rw [q0, q1, q2, q3, q4]
  obtain ⟨a1, a2, a3, a4, a5, a6, a7, a8, a9, a10, a11⟩ := h
  by_cases hv2 : V r = 2
  · have hv4 : ¬ (V r = 4 ∨ V r = 5) := by rw [hv2]; decide
    have hc : ¬ (r < n ∧ (V r = 4 ∨ V r = 5)) := fun q => hv4 q.2
    have ht : r < n ∧ V r = 2 := ⟨hr, hv2⟩
    have b1 := a8 hv2
    have b2 := a6 b1
    have b4 : S 4 r = 0 := by
      rcases Decidable.em (S 4 r = 0) with q | q
      · exact q
      · have := a5 q
        rw [b1] at this
        exact absurd this (by decide)
    simp only [if_neg hc, sp_tryI, if_pos ht]
    have b0 : ¬ V r = 0 := by rw [hv2]; decide
    simp only [b1, b4]
    refine ⟨⟨by simpa using a1, by simpa using a2, ?_, ?_, ?_, ?_, ?_⟩, ?_, fun q => absurd q b0, Or.inl (by simp)⟩
    · simp [pu_q]
    · intro q
      revert q
      simp
      split <;> simp
    · simp
    · rcases b2 with z | z | z <;> rw [z] <;> decide
    · intro q
      revert q
      simp
      split <;> simp
    · revert b2
      simp
      intro _
      split <;> simp
  · have ht : ¬ (r < n ∧ V r = 2) := fun q => hv2 q.2
    by_cases hv4 : V r = 4 ∨ V r = 5
    · have hc : r < n ∧ (V r = 4 ∨ V r = 5) := ⟨hr, hv4⟩
      obtain ⟨b1, d, b2, b3⟩ := a9 hv4
      simp only [if_pos hc, sp_tryI, if_neg ht]
      have b0 : ¬ V r = 0 := by rcases hv4 with z | z <;> rw [z] <;> decide
      by_cases hcut : S 2 r + 1 = T 0 1
      · simp only [if_pos hcut]
        refine ⟨⟨by simpa using a1, by simp, by simp [pu_q], by simp, by simp, by simp, by simp⟩, by simp, fun q => absurd q b0, Or.inr (by simp)⟩
      · simp only [if_neg hcut]
        have hd : d + 1 < A := by
          rcases Nat.lt_or_ge (d + 1) A with q | q
          · exact q
          · exact absurd (by rw [b3, hA, nI_1, show d + 1 = A by omega]) hcut
        refine ⟨⟨by simpa using a1, by simpa using a2, by simpa using a3, ?_, by simpa using a5, ?_, ?_⟩, by simpa using a7, fun q => absurd q b0, Or.inl (by simp)⟩
        · intro q
          have q : S 1 r = 0 := by simpa using q
          rw [b1] at q
          exact absurd q b0
        · intro q
          have q : S 1 r = 2 := by simpa using q
          rw [b1] at q
          exact absurd q hv2
        · intro _
          exact ⟨d + 1, hd, by simp only [b3, nI_1]; simp⟩
    · have hc : ¬ (r < n ∧ (V r = 4 ∨ V r = 5)) := fun q => hv4 q.2
      simp only [if_neg hc, sp_tryI, if_neg ht]
      refine ⟨⟨a1, a2, a3, a4, a5, a6, ?_⟩, a7, a11, Or.inl trivial⟩
      intro q
      rcases q with z | z
      · exact absurd (Or.inl (a7 z)) hv4
      · rcases a10 z with y | y
        · exact absurd (Or.inr y) hv4
        · exact ⟨0, by omega, y⟩
theorem iv_mid {n A : Nat} {T S : ra_W} (h : iv n A T S) : iv n A T (sp_mid n T S) ∧ (∀ r, r < n → S 1 r = 0 → sp_mid n T S 1 r = 0) := by
  obtain ⟨⟨h1, h2, h3, h4⟩, hr, hg, hc, hl⟩ := h
  have hj : ∀ r, r < n → jv_r A (S 1) (sp_site n T 1 (sp_site n T 0 S)) r := fun r q => jv_site h4 q (jv_site h4 q (jv_of_iv (hr r q)))
  have hm := fun r (q : r < n) => iv_mid_r (T := T) q h1 h2 h3 (hj r q)
  refine ⟨⟨⟨h1, h2, h3, h4⟩, fun r q => (hm r q).1, fun r q a b c d e => hg r q a b ((hm r a).2.1 c) ((hm q b).2.1 d) e, iv_c_of hc (fun r q => ?_), ?_⟩, fun r q e => (hm r q).2.2.1 e⟩
  · have := (hm r q).2.2.2
    rw [sp_site_4, sp_site_4] at this
    exact this
  · intro i hi
    have := iv_l_site (n := n) (T := T) (s := 1) (iv_l_site (n := n) (T := T) (s := 0) hl) i hi
    have e : sp_mid n T S 5 i = sp_site n T 1 (sp_site n T 0 S) 5 i := by
      unfold sp_mid
      rw [sp_cutI_r n 5 (by decide)]
      simp [sp_tryI]
    rw [e]
    exact this
/-! serving keeps the invariant -/
theorem sp_rest_at {S : ra_W} {t j : Nat} (hj : j = 1 ∨ j = 2 ∨ j = 3 ∨ j = 4) : sp_rest S t j t = 0 := by
  simp only [sp_rest, pu_st]
  grind
theorem sp_rest_x {S : ra_W} {t j r : Nat} (hj : j = 0 ∨ j = 5 ∨ j = 6) : sp_rest S t j r = S j r := by
  simp only [sp_rest, pu_st]
  grind
theorem iv_r_rest {A : Nat} {S : ra_W} {t r : Nat} (h : iv_r A S r) : iv_r A (sp_rest S t) r := by
  by_cases e : r = t
  · subst e
    unfold iv_r
    rw [sp_rest_at (j := 1) (by decide), sp_rest_at (j := 2) (by decide), sp_rest_at (j := 3) (by decide), sp_rest_at (j := 4) (by decide), sp_rest_x (by decide)]
    exact ⟨h.1, Or.inl rfl, Or.inl rfl, fun _ => ⟨rfl, rfl, rfl⟩, fun q => absurd rfl q, fun q => absurd q (by decide), fun q => absurd q (by decide)⟩
  · unfold iv_r at h ⊢
    rw [sp_rest_ne e (by decide), sp_rest_ne e (by decide), sp_rest_ne e (by decide), sp_rest_ne e (by decide), sp_rest_ne e (by decide)]
    exact h
theorem sp_rest_4 {S : ra_W} {t r : Nat} : sp_rest S t 1 r = 4 → S 1 r = 4 ∧ r ≠ t := by
  intro h
  by_cases e : r = t
  · subst e
    rw [sp_rest_at (by decide)] at h
    exact absurd h (by decide)
  · rw [sp_rest_ne e (by decide)] at h
    exact ⟨h, e⟩
theorem iv_rest {n A : Nat} {T S : ra_W} (t : Nat) (h : iv n A T S) : iv n A T (sp_rest S t) := by
  obtain ⟨ht, hr, hg, hc, hl⟩ := h
  refine ⟨ht, fun r q => iv_r_rest (hr r q), fun r q a b c d e => hg r q a b (sp_rest_4 c).1 (sp_rest_4 d).1 e, iv_c_of hc (fun r q => ?_), fun i hi => ?_⟩
  · by_cases e : r = t
    · right; subst e; exact sp_rest_at (by decide)
    · left; exact sp_rest_ne e (by decide)
  · rw [sp_rest_x (by decide)]
    exact hl i hi
theorem iv_tk1 {n A : Nat} {T S : ra_W} {nd : Int32} {i : Nat} (h : iv n A T S) : iv n A T (sp_tk1 n T nd i S) := by
  unfold sp_tk1
  split
  · split
    · exact h
    · exact iv_rest _ h
  · exact h
theorem iv_tko {n A : Nat} {T S : ra_W} {nd : Int32} (h : iv n A T S) : iv n A T (sp_tko n T nd S) := by
  unfold sp_tko
  split
  · exact iv_tk1 (iv_tk1 h)
  · exact h
/-- a rest of one that holds a channel leaves all that aren't talking as they are -/
theorem sp_tk1_ne {n A : Nat} {T S : ra_W} {nd : Int32} {i r j : Nat} (hi : i < 2) (h : iv n A T S) (hr : r < n) (h4 : ¬ S 1 r = 4) (hj : j ≠ 6) : sp_tk1 n T nd i S j r = S j r := by
  unfold sp_tk1
  split
  · cases hq : sp_weak T S i n with
    | none => rfl
    | some q =>
      obtain ⟨a1, a2, a3⟩ := sp_weak_sp hq
      refine sp_rest_ne (fun e => h4 ?_) hj
      rw [e]
      refine (h.2.1 q a1).2.2.2.2.1 (fun z => ?_)
      rw [sp_hb, z] at a2
      unfold pu_bit at a2
      split at a2 <;> simp at a2
  · rfl
theorem sp_tk1_4 {n : Nat} {T S : ra_W} {nd : Int32} {i r : Nat} : sp_tk1 n T nd i S 1 r = 4 → S 1 r = 4 := by
  unfold sp_tk1
  split
  · cases hq : sp_weak T S i n with
    | none => exact id
    | some q => exact fun q => (sp_rest_4 q).1
  · exact id
theorem sp_tko_ne {n A : Nat} {T S : ra_W} {nd : Int32} {r j : Nat} (h : iv n A T S) (hr : r < n) (h4 : ¬ S 1 r = 4) (hj : j ≠ 6) : sp_tko n T nd S j r = S j r := by
  unfold sp_tko
  split
  · have e1 := sp_tk1_ne (nd := nd) (i := 0) (j := 1) (by decide) h hr h4 (by decide)
    rw [sp_tk1_ne (A := A) (by decide) (iv_tk1 h) hr (by rw [e1]; exact h4) hj]
    exact sp_tk1_ne (by decide) h hr h4 hj
  · rfl
theorem sp_tko_4 {n : Nat} {T S : ra_W} {nd : Int32} {r : Nat} : sp_tko n T nd S 1 r = 4 → S 1 r = 4 := by
  unfold sp_tko
  split
  · exact fun q => sp_tk1_4 (sp_tk1_4 q)
  · exact id
theorem sp_tk1_6 {n : Nat} {T S : ra_W} {nd : Int32} {i j r : Nat} (hj : j = 0 ∨ j = 5 ∨ j = 6) : sp_tk1 n T nd i S j r = S j r := by
  unfold sp_tk1
  split
  · cases hq : sp_weak T S i n with
    | none => rfl
    | some q => exact sp_rest_x hj
  · rfl
theorem sp_tko_6 {n : Nat} {T S : ra_W} {nd : Int32} {j r : Nat} (hj : j = 0 ∨ j = 5 ∨ j = 6) : sp_tko n T nd S j r = S j r := by
  unfold sp_tko
  split
  · rw [sp_tk1_6 hj, sp_tk1_6 hj]
  · rfl
theorem sp_fr_le {n A : Nat} {T S : ra_W} {i : Nat} (h : iv n A T S) (hi : i < 2) : 1 ≤ sp_fr n T S i ↔ ∃ c, T 1 i = nI c ∧ c ≤ 7 ∧ pu_cnt (sp_hb S i) n < c := by
  obtain ⟨c, h1, h2, h3, h4⟩ := h.2.2.2.1 i hi
  have e : sp_fr n T S i = nI (c - pu_cnt (sp_hb S i) n) := by
    unfold sp_fr
    rw [h3, pk_sub h4]
  rw [e]
  have e1 : (1 : Int32) ≤ nI (c - pu_cnt (sp_hb S i) n) ↔ 1 ≤ c - pu_cnt (sp_hb S i) n := nI_leI (a := 1) (by decide) (by omega)
  rw [e1]
  constructor
  · intro q
    exact ⟨c, h3, h2, by omega⟩
  · intro ⟨c', q1, q2, q3⟩
    have : c = c' := (nI_eq (by omega) (by omega)).mp (h3.symm.trans q1)
    omega
theorem iv_on {n A : Nat} {T S : ra_W} {r : Nat} {nd : Int32} (h : iv n A T S) (hr : r < n) (hQ : S 1 r = 3) (hnd : pu_q nd) (hfree : sp_isf n T S nd) (hnt : ∀ q, q < n → S 1 q = 4 → ¬ T 2 q = T 2 r) : iv n A T (sp_on S r nd) := by
  obtain ⟨ht, hrr, hg, hc, hl⟩ := id h
  have h40 : S 4 r = 0 := by
    rcases Decidable.em (S 4 r = 0) with q | q
    · exact q
    · have := (hrr r hr).2.2.2.2.1 q
      rw [hQ] at this
      exact absurd this (by decide)
  have e1 : ∀ q, sp_on S r nd 1 q = if q = r then 4 else S 1 q := fun q => by simp [sp_on, pu_st]
  have e2 : ∀ q, sp_on S r nd 2 q = if q = r then 0 else S 2 q := fun q => by simp [sp_on, pu_st]
  have e3 : ∀ q, sp_on S r nd 3 q = S 3 q := fun q => by simp [sp_on, pu_st]
  have e4 : ∀ q, sp_on S r nd 4 q = if q = r then nd else S 4 q := fun q => by simp [sp_on, pu_st]
  have e0 : ∀ q, sp_on S r nd 0 q = S 0 q := fun q => by simp [sp_on, pu_st]
  have e5 : ∀ q, sp_on S r nd 5 q = S 5 q := fun q => by simp [sp_on, pu_st]
  refine ⟨ht, fun q hq => ?_, fun p q hp hq a b c => ?_, fun i hi => ?_, fun i hi => by rw [e5]; exact hl i hi⟩
  · unfold iv_r
    rw [e0, e1, e2, e3, e4]
    by_cases e : q = r
    · rw [if_pos e, if_pos e, if_pos e]
      have := hrr q hq
      exact ⟨this.1, this.2.1, hnd, fun z => absurd z (by decide), fun _ => rfl, fun z => absurd z (by decide), fun _ => ⟨0, by have := ht.1; omega, rfl⟩⟩
    · rw [if_neg e, if_neg e, if_neg e]
      exact hrr q hq
  · rw [e1] at a b
    by_cases x1 : p = r
    · by_cases x2 : q = r
      · rw [x1, x2]
      · rw [if_neg x2] at b
        rw [x1] at c
        exact absurd c.symm (hnt q hq b)
    · rw [if_neg x1] at a
      by_cases x2 : q = r
      · rw [x2] at c
        exact absurd c (hnt p hp a)
      · rw [if_neg x2] at b
        exact hg p q hp hq a b c
  · obtain ⟨c, h1, h2, h3, h4⟩ := hc i hi
    refine ⟨c, h1, h2, h3, ?_⟩
    have hcnt := pu_cnt_set (p := sp_hb S i) (q := sp_hb (sp_on S r nd) i) (r := r) (n := n) hr (by rw [sp_hb, h40]; unfold pu_bit; split <;> simp) (fun j hj hne => by rw [sp_hb, sp_hb, e4, if_neg hne])
    rw [hcnt]
    by_cases hb : sp_hb (sp_on S r nd) i r = true
    · rw [if_pos hb]
      have hb2 : pu_bit nd i = true := by
        rw [sp_hb, e4, if_pos rfl] at hb
        exact hb
      have hle : 1 ≤ sp_fr n T S i := by
        rcases (show i = 0 ∨ i = 1 by omega) with rfl | rfl
        · exact hfree.1 hb2
        · exact hfree.2 hb2
      obtain ⟨c', q1, q2, q3⟩ := (sp_fr_le h hi).mp hle
      have : c = c' := (nI_eq (by omega) (by omega)).mp (h3.symm.trans q1)
      omega
    · rw [if_neg hb]
      omega
theorem iv_hq {n A : Nat} {T S : ra_W} (h : iv n A T S) : sp_hq n S := fun r hr => (h.2.1 r hr).2.2.1
/-- what a serve does -/
theorem iv_srv2 {n A : Nat} {T S : ra_W} {r : Nat} (h : iv n A T S) (hr : r < n) (hQ : S 1 r = 3) (hnt : ∀ q, q < n → S 1 q = 4 → ¬ T 2 q = T 2 r) : iv n A T (sp_srv2 n T r S) ∧ (∀ q, q < n → q ≠ r → ¬ S 1 q = 4 → ∀ j, j ≠ 6 → sp_srv2 n T r S j q = S j q) ∧ sp_srv2 n T r S 6 2 = S 6 2 ∧ (∀ q, sp_srv2 n T r S 0 q = S 0 q) := by
  obtain ⟨s, hs, hs2⟩ := (h.2.1 r hr).1
  have hnd : pu_q (sp_need n T S (ra_ix (S 0 r)) r) := by
    rw [hs2, pu_ix (by omega)]
    exact sp_need_q hs
  unfold sp_srv2
  generalize sp_need n T S (ra_ix (S 0 r)) r = nd at hnd
  have h1 : iv n A T (if S 3 r = 1 then sp_tko n T nd S else S) := by
    split
    · exact iv_tko h
    · exact h
  have h2 : ∀ q, q < n → ¬ S 1 q = 4 → ∀ j, j ≠ 6 → (if S 3 r = 1 then sp_tko n T nd S else S) j q = S j q := by
    intro q hq h4 j hj
    split
    · exact sp_tko_ne h hq h4 hj
    · rfl
  have h3 : ∀ q, (if S 3 r = 1 then sp_tko n T nd S else S) 1 q = 4 → S 1 q = 4 := by
    intro q
    split
    · exact sp_tko_4
    · exact id
  have h5 : ∀ j q, (j = 0 ∨ j = 5 ∨ j = 6) → (if S 3 r = 1 then sp_tko n T nd S else S) j q = S j q := by
    intro j q hj
    split
    · exact sp_tko_6 hj
    · rfl
  generalize (if S 3 r = 1 then sp_tko n T nd S else S) = Q at h1 h2 h3 h5
  unfold sp_srv3
  have hQ2 : Q 1 r = 3 := by rw [h2 r hr (by rw [hQ]; decide) 1 (by decide)]; exact hQ
  split
  · rename_i hc
    refine ⟨iv_on h1 hr hQ2 hnd ((sp_isf_iff hnd).mp hc) (fun q hq z => hnt q hq (h3 q z)), fun q hq hne h4 j hj => ?_, ?_, fun q => ?_⟩
    · rw [← h2 q hq h4 j hj]
      simp only [sp_on, pu_st]
      simp [hne, hj]
    · rw [← h5 6 2 (by decide)]
      simp [sp_on, pu_st]
    · rw [← h5 0 q (by decide)]
      simp [sp_on, pu_st]
  · exact ⟨h1, fun q hq hne h4 j hj => h2 q hq h4 j hj, h5 6 2 (by decide), fun q => h5 0 q (by decide)⟩
theorem iv_serve {n A : Nat} {T S : ra_W} {r : Nat} (h : iv n A T S) (hr : r < n) (hQ : S 1 r = 3) : iv n A T (sp_serve n T r S) ∧ (∀ q, q < n → q ≠ r → ¬ S 1 q = 4 → ∀ j, j ≠ 6 → sp_serve n T r S j q = S j q) ∧ sp_serve n T r S 6 2 = S 6 2 ∧ (∀ q, sp_serve n T r S 0 q = S 0 q) := by
  unfold sp_serve
  cases ht : pu_lst (sp_talk T S (T 2 r)) n with
  | none =>
    have hn := pu_lst_none.mp ht
    exact iv_srv2 h hr hQ (fun q hq h4 e => by have := hn q hq; simp [sp_talk, h4, e] at this)
  | some t =>
    obtain ⟨t1, t2, -⟩ := pu_lst_some.mp ht
    simp only [sp_talk, decide_eq_true_eq] at t2
    have hne : r ≠ t := fun e => by rw [← e, hQ] at t2; exact absurd t2.1 (by decide)
    dsimp only
    split
    · have := iv_srv2 (r := r) (iv_rest t h) hr (by rw [sp_rest_ne hne (by decide)]; exact hQ) (fun q hq h4 e => by
        have z := sp_rest_4 h4
        exact z.2 (h.2.2.1 q t hq t1 z.1 t2.1 (e.trans t2.2.symm)))
      refine ⟨this.1, fun q hq hqr h4 j hj => ?_, this.2.2.1.trans (sp_rest_x (by decide)), fun q => (this.2.2.2 q).trans (sp_rest_x (by decide))⟩
      have hqt : q ≠ t := fun e => h4 (by rw [e]; exact t2.1)
      rw [this.2.1 q hq hqr (by rw [sp_rest_ne hqt (by decide)]; exact h4) j hj]
      exact sp_rest_ne hqt hj
    · exact ⟨h, fun _ _ _ _ _ _ => rfl, rfl, fun _ => rfl⟩
/-- the whole line -/
theorem iv_srvI {n A : Nat} {T S : ra_W} {l : Nat → Nat} {c : Nat} (h : iv n A T S) (hl : ∀ j, j < c → l j < n) (hq : ∀ j, j < c → S 1 (l j) = 3) (hne : ∀ i j, i < c → j < c → i ≠ j → l i ≠ l j) : ∀ m, m ≤ c → iv n A T (sp_srvI n T l S m) ∧ (∀ q, q < n → (∀ j, j < m → q ≠ l j) → ¬ S 1 q = 4 → ∀ j, j ≠ 6 → sp_srvI n T l S m j q = S j q) ∧ sp_srvI n T l S m 6 2 = S 6 2 ∧ (∀ q, sp_srvI n T l S m 0 q = S 0 q)
  | 0, _ => ⟨h, fun _ _ _ _ _ _ => rfl, rfl, fun _ => rfl⟩
  | m + 1, hm => by
    obtain ⟨a1, a2, a3, a4⟩ := iv_srvI h hl hq hne m (by omega)
    have hQ : sp_srvI n T l S m 1 (l m) = 3 := by
      rw [a2 (l m) (hl m (by omega)) (fun j hj => hne m j (by omega) (by omega) (by omega)) (by rw [hq m (by omega)]; decide) 1 (by decide)]
      exact hq m (by omega)
    obtain ⟨b1, b2, b3, b4⟩ := iv_serve a1 (hl m (by omega)) hQ
    refine ⟨b1, fun q hqn hql h4 j hj => ?_, b3.trans a3, fun q => (b4 q).trans (a4 q)⟩
    have e := fun j (hj : j ≠ 6) => a2 q hqn (fun i hi => hql i (by omega)) h4 j hj
    show sp_serve n T (l m) (sp_srvI n T l S m) j q = S j q
    rw [b2 q hqn (hql m (by omega)) (by rw [e 1 (by decide)]; exact h4) j hj]
    exact e j hj
theorem iv_lin {n A : Nat} {T S : ra_W} (h : iv n A T S) : iv n A T (sp_lin n T S) ∧ (∀ q, q < n → ¬ S 1 q = 3 → ¬ S 1 q = 4 → ∀ j, j ≠ 6 → sp_lin n T S j q = S j q) ∧ sp_lin n T S 6 2 = S 6 2 ∧ (∀ q, sp_lin n T S 0 q = S 0 q) := by
  obtain ⟨a1, a2, a3, a4⟩ := iv_srvI h (sp_line_lt T S n) (sp_line_q T S n) (sp_line_ne T S n) (sp_line T S n).2 (Nat.le_refl _)
  exact ⟨a1, fun q hq h3 h4 => a2 q hq (fun j hj e => h3 (by rw [e]; exact sp_line_q T S n j hj)) h4, a3, a4⟩
/-- giving up, one radio -/
theorem sp_giveI_r {P : Int32} {S : ra_W} {r : Nat} : ∀ m j, j ≠ 6 → sp_giveI P S m j r = if r < m ∧ S 1 r = 3 then (if S 2 r + 1 ≤ P then (if j = 2 then S 2 r + 1 else S j r) else (if j = 1 ∨ j = 2 ∨ j = 3 ∨ j = 4 then 0 else S j r)) else S j r
  | 0, j, _ => by simp [sp_giveI]
  | m + 1, j, hj => by
    have ih := sp_giveI_r (P := P) (S := S) (r := r) m
    simp only [sp_giveI, sp_give1]
    generalize sp_giveI P S m = Q at ih
    by_cases e : r = m
    · subst e
      have hq : ∀ j, j ≠ 6 → Q j r = S j r := fun j hj => by rw [ih j hj]; simp
      have h2 := hq 2 (by decide)
      have h1 := hq 1 (by decide)
      rw [h1, h2]
      by_cases hv : S 1 r = 3
      · have hcd : r < r + 1 ∧ S 1 r = 3 := ⟨by omega, hv⟩
        rw [if_pos hv, if_pos hcd]
        have := hq j hj
        by_cases hc : S 2 r + 1 ≤ P
        · rw [if_pos hc, if_pos hc, pu_st]
          grind
        · rw [if_neg hc, if_neg hc]
          simp only [sp_rest, pu_st]
          grind
      · rw [if_neg hv, if_neg (fun q => hv q.2)]
        exact hq j hj
    · have h1 : (r < m + 1 ∧ S 1 r = 3) ↔ (r < m ∧ S 1 r = 3) := by constructor <;> intro ⟨a, b⟩ <;> exact ⟨by omega, b⟩
      simp only [h1]
      rw [← ih j hj]
      split
      · split
        · simp [pu_st, e]
        · simp only [sp_rest, pu_st]
          simp [e, hj]
      · rfl
theorem sp_giveI_6 {P : Int32} {S : ra_W} : ∀ m, ∃ g, g ≤ m ∧ sp_giveI P S m 6 2 = S 6 2 + nI g ∧ ((∀ r, r < m → ¬ S 1 r = 3) → g = 0)
  | 0 => ⟨0, by omega, by rw [nI_0]; simp [sp_giveI], fun _ => rfl⟩
  | m + 1 => by
    obtain ⟨g, h1, h2, h3⟩ := sp_giveI_6 (P := P) (S := S) m
    have hm := sp_giveI_r (P := P) (S := S) (r := m) m 1 (by decide)
    simp only [Nat.lt_irrefl, false_and, if_false] at hm
    simp only [sp_giveI, sp_give1]
    rw [hm]
    generalize sp_giveI P S m = Q at h2
    by_cases hv : S 1 m = 3
    · rw [if_pos hv]
      split
      · refine ⟨g, by omega, ?_, fun z => absurd hv (z m (by omega))⟩
        rw [pu_st]
        simpa using h2
      · refine ⟨g + 1, by omega, ?_, fun z => absurd hv (z m (by omega))⟩
        rw [pu_st, if_pos ⟨rfl, rfl⟩, h2, nI_succ]
        grind
    · rw [if_neg hv]
      exact ⟨g, by omega, h2, fun z => h3 (fun r hr => z r (by omega))⟩
theorem iv_give {n A : Nat} {T S : ra_W} {P : Int32} (h : iv n A T S) : iv n A T (sp_giveI P S n) := by
  obtain ⟨ht, hr, hg, hc, hl⟩ := h
  have e := fun r j (hj : j ≠ 6) => sp_giveI_r (P := P) (S := S) (r := r) n j hj
  refine ⟨ht, fun r q => ?_, fun r q a b c d z => hg r q a b ?_ ?_ z, iv_c_of hc (fun r q => ?_), fun i hi => ?_⟩
  · have hh := hr r q
    unfold iv_r at hh ⊢
    rw [e r 0 (by decide), e r 1 (by decide), e r 2 (by decide), e r 3 (by decide), e r 4 (by decide)]
    by_cases h3 : S 1 r = 3
    · have hcd : r < n ∧ S 1 r = 3 := ⟨q, h3⟩
      simp only [if_pos hcd]
      by_cases hp : S 2 r + 1 ≤ P
      · simp only [if_pos hp]
        simp [h3]
        exact ⟨hh.1, hh.2.1, hh.2.2.1, Decidable.byContradiction (fun z => by have := hh.2.2.2.2.1 z; rw [h3] at this; exact absurd this (by decide))⟩
      · simp only [if_neg hp]
        simp [pu_q]
        exact hh.1
    · have hcd : ¬ (r < n ∧ S 1 r = 3) := fun z => h3 z.2
      simp only [if_neg hcd]
      exact hh
  · rw [e r 1 (by decide)] at c
    grind
  · rw [e q 1 (by decide)] at d
    grind
  · rw [e r 4 (by decide)]
    grind
  · rw [e i 5 (by decide)]
    have := hl i hi
    grind
theorem iv_tick {n A : Nat} {T S : ra_W} (h : iv n A T S) : iv n A T (sp_tick n T S) := iv_give (iv_lin (iv_mid h).1).1
theorem sp_tick_idle {n A : Nat} {T S : ra_W} (h : iv n A T S) {r : Nat} (hr : r < n) (h0 : S 1 r = 0) : sp_tick n T S 1 r = 0 := by
  have m1 := (iv_mid h).2 r hr h0
  have m2 := (iv_lin (iv_mid h).1).2.1 r hr (by rw [m1]; decide) (by rw [m1]; decide) 1 (by decide)
  unfold sp_tick
  rw [sp_giveI_r n 1 (by decide), m2, m1]
  simp
