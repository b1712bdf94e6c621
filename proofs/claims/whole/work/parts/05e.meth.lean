/-- TrunkRadioModel.copies -/
def fX6_copies (k : Nat) (b0 : Nat) (b1 : Nat) : Nat → Nat → Int32 → ra_W → Option (Int32 × ra_W)
  | 0, _, _, _ => none
  | n + 1, L, v2, w => match L with
    | 0 => fX6_copies k b0 b1 n 1 0 w
    | _ => if 41 ≤ v2 then (some (0, w)) else (if ra_in v2 41 then fX6_copies k b0 b1 n 1 (v2 + 1) (ra_st w b1 (ra_ix v2) (w b0 (ra_ix v2))) else none)
theorem fX6_copies_0 (k : Nat) (b0 : Nat) (b1 : Nat) (n : Nat) (v2 : Int32) (w : ra_W) : fX6_copies k b0 b1 (n + 1) 0 v2 w = (fX6_copies k b0 b1 n 1 0 w) := rfl
theorem fX6_copies_1 (k : Nat) (b0 : Nat) (b1 : Nat) (n : Nat) (v2 : Int32) (w : ra_W) : fX6_copies k b0 b1 (n + 1) 1 v2 w = (if 41 ≤ v2 then (some (0, w)) else (if ra_in v2 41 then fX6_copies k b0 b1 n 1 (v2 + 1) (ra_st w b1 (ra_ix v2) (w b0 (ra_ix v2))) else none)) := rfl
def FX6_copies (k : Nat) (b0 : Nat) (b1 : Nat)  (w : ra_W) : Option (Int32 × ra_W) := fX6_copies k b0 b1 k 0 0 w
def pX6_copies_0 (Z : ra_Z) (r : Int32) (w1 : ra_W) (k : Nat) (b0 : Nat) (b1 : Nat) (n : Nat) : Prop := ∀ (v2 : Int32) (w : ra_W), fX6_copies k b0 b1 n 0 v2 w = some (r, w1) → ra_J Z 3 0 [(0, .ref ((zG Z).1 b0)), (1, .ref ((zG Z).1 b1))] [] w
def pX6_copies_1 (Z : ra_Z) (r : Int32) (w1 : ra_W) (k : Nat) (b0 : Nat) (b1 : Nat) (n : Nat) : Prop := ∀ (v2 : Int32) (w : ra_W), fX6_copies k b0 b1 n 1 v2 w = some (r, w1) → ra_J Z 3 2 [(0, .ref ((zG Z).1 b0)), (1, .ref ((zG Z).1 b1)), (2, .int v2)] [] w
set_option maxHeartbeats 4000000 in
theorem tX6_copies_0 {Z : ra_Z} {r : Int32} {w1 : ra_W} (C : ra_C Z cX6_copies 3 RX6 0 0) (hQ : ra_QV Z r w1) (hr : (zmt Z).sig.returnType = none) (k : Nat) (b0 : Nat) (b1 : Nat) (h0 : ra_kd b0 = (10, 41)) (h1 : ra_kd b1 = (10, 41)) (n : Nat) (ih1 : pX6_copies_1 Z r w1 k b0 b1 n) : pX6_copies_0 Z r w1 k b0 b1 (n + 1) := by
  intro v2 w hf
  rw [fX6_copies_0] at hf
  refine rg_iconst (pc := 0) (v := 0) C dX6_copies_0 (by decide) ?_
  refine rg_istore_n (pc := 1) (lv' := [(0, .ref ((zG Z).1 b0)), (1, .ref ((zG Z).1 b1)), (2, .int 0)]) C [1, 2, 0] rfl rfl (by decide) dX6_copies_1 ?_
  exact ih1 _ _ hf
set_option maxHeartbeats 4000000 in
theorem tX6_copies_1 {Z : ra_Z} {r : Int32} {w1 : ra_W} (C : ra_C Z cX6_copies 3 RX6 0 0) (hQ : ra_QV Z r w1) (hr : (zmt Z).sig.returnType = none) (k : Nat) (b0 : Nat) (b1 : Nat) (h0 : ra_kd b0 = (10, 41)) (h1 : ra_kd b1 = (10, 41)) (n : Nat) (ih1 : pX6_copies_1 Z r w1 k b0 b1 n) : pX6_copies_1 Z r w1 k b0 b1 (n + 1) := by
  intro v2 w hf
  rw [fX6_copies_1] at hf
  refine rg_iload_n (pc := 2) C 2 rfl rfl dX6_copies_2 ?_
  refine rg_bipush (pc := 3) (v := 41) C dX6_copies_3 (by decide) ?_
  refine rg_icmp_ge (pc := 5) (tgt := 20) C dX6_copies_5 (by decide) (fun c1 => ?_) (fun c1 => ?_)
  · replace hf := ra_t hf c1
    exact rg_vret (pc := 20) C hQ hr hf dX6_copies_20
  · replace hf := ra_f hf c1
    refine rg_aload_n (pc := 8) C 1 rfl rfl dX6_copies_8 ?_
    refine rg_iload_n (pc := 9) C 2 rfl rfl dX6_copies_9 ?_
    refine rg_aload_n (pc := 10) C 0 rfl rfl dX6_copies_10 ?_
    refine rg_iload_n (pc := 11) C 2 rfl rfl dX6_copies_11 ?_
    obtain ⟨g2, hf⟩ := ra_gd hf
    refine rg_iald (pc := 12) (j := (ra_ix v2)) C b0 h0 rfl g2 dX6_copies_12 ?_
    refine rg_iast (pc := 13) (j := (ra_ix v2)) C b1 h1 rfl g2 dX6_copies_13 ?_
    refine rg_iinc (pc := 14) (v := (v2 + 1)) (lv' := [(0, .ref ((zG Z).1 b0)), (1, .ref ((zG Z).1 b1)), (2, .int (v2 + 1))]) C 2 rfl [1, 2, 0] (ra_ii (by decide)) rfl (by decide) dX6_copies_14 ?_
    refine rg_goto (pc := 17) (tgt := 2) C dX6_copies_17 (by decide) ?_
    exact ih1 _ _ hf
theorem tX6_copies {Z : ra_Z} {r : Int32} {w1 : ra_W} (C : ra_C Z cX6_copies 3 RX6 0 0) (hQ : ra_QV Z r w1) (hr : (zmt Z).sig.returnType = none) (k : Nat) (b0 : Nat) (b1 : Nat) (h0 : ra_kd b0 = (10, 41)) (h1 : ra_kd b1 = (10, 41)) : ∀ n : Nat, pX6_copies_0 Z r w1 k b0 b1 n ∧ pX6_copies_1 Z r w1 k b0 b1 n := by
  intro n
  induction n with
  | zero => exact ⟨(fun _ _ h => by cases h), (fun _ _ h => by cases h)⟩
  | succ n ih =>
    obtain ⟨ih0, ih1⟩ := ih
    exact ⟨tX6_copies_0 C hQ hr k b0 b1 h0 h1 n ih1, tX6_copies_1 C hQ hr k b0 b1 h0 h1 n ih1⟩
theorem kX6_copies (l : Launch) (G : ra_G) (hj : ra_inj G) (k : Nat) (b0 : Nat) (b1 : Nat) (h0 : ra_kd b0 = (10, 41)) (h1 : ra_kd b1 = (10, 41))  (w : ra_W) (r : Int32) (w1 : ra_W) (h : FX6_copies k b0 b1  w = some (r, w1)) : ra_MV l G yX6_copies cX6_copies 3 none 0 0 [.ref (G.1 b0), .ref (G.1 b1)] w r w1 :=
  ra_entryV (own := RX6) (by decide) rfl (Nat.le_of_ble_eq_true rfl) hj (fun Z hl hG C hQ hr => by subst hl; subst hG; exact (tX6_copies C hQ hr k b0 b1 h0 h1 k).1 _ _ h)
theorem ysX6_copies : ra_YS yX6_copies cX6_copies 3 none 2 := ⟨⟨wd_7, wd_595, by decide, by decide, by decide⟩, wd_594⟩
/-- TrunkRadioModel.settles -/
def fX6_settles (k : Nat) : Nat → Nat → Int32 → ra_W → Option (Int32 × ra_W)
  | 0, _, _, _ => none
  | n + 1, L, v1, w => match L with
    | 0 => fX6_settles k n 1 0 w
    | _ => if 19 ≤ v1 then (ra_bind (FX6_copies k 138 139 w) (fun _ w3 => some (0, (ra_st (ra_st (ra_st (ra_st (ra_st w3 134 2 0) 134 20 0) 134 15 0) 143 0 0) 143 1 0)))) else (if ra_in v1 19 then fX6_settles k n 1 (v1 + 1) (ra_st w 136 (ra_ix v1) (w 137 (ra_ix v1))) else none)
theorem fX6_settles_0 (k : Nat) (n : Nat) (v1 : Int32) (w : ra_W) : fX6_settles k (n + 1) 0 v1 w = (fX6_settles k n 1 0 w) := rfl
theorem fX6_settles_1 (k : Nat) (n : Nat) (v1 : Int32) (w : ra_W) : fX6_settles k (n + 1) 1 v1 w = (if 19 ≤ v1 then (ra_bind (FX6_copies k 138 139 w) (fun _ w3 => some (0, (ra_st (ra_st (ra_st (ra_st (ra_st w3 134 2 0) 134 20 0) 134 15 0) 143 0 0) 143 1 0)))) else (if ra_in v1 19 then fX6_settles k n 1 (v1 + 1) (ra_st w 136 (ra_ix v1) (w 137 (ra_ix v1))) else none)) := rfl
def FX6_settles (k : Nat)  (w : ra_W) : Option (Int32 × ra_W) := fX6_settles k k 0 0 w
def pX6_settles_0 (Z : ra_Z) (r : Int32) (w1 : ra_W) (k : Nat) (n : Nat) : Prop := ∀ (v1 : Int32) (w : ra_W), fX6_settles k n 0 v1 w = some (r, w1) → ra_J Z 2 0 [(0, .ref ((zG Z).1 134))] [] w
def pX6_settles_1 (Z : ra_Z) (r : Int32) (w1 : ra_W) (k : Nat) (n : Nat) : Prop := ∀ (v1 : Int32) (w : ra_W), fX6_settles k n 1 v1 w = some (r, w1) → ra_J Z 2 2 [(0, .ref ((zG Z).1 134)), (1, .int v1)] [] w
set_option maxHeartbeats 4000000 in
theorem tX6_settles_0 {Z : ra_Z} {r : Int32} {w1 : ra_W} (C : ra_C Z cX6_settles 2 RX6 1 22) (hQ : ra_QV Z r w1) (hr : (zmt Z).sig.returnType = none) (k : Nat) (n : Nat) (ih1 : pX6_settles_1 Z r w1 k n) : pX6_settles_0 Z r w1 k (n + 1) := by
  intro v1 w hf
  rw [fX6_settles_0] at hf
  refine rg_iconst (pc := 0) (v := 0) C dX6_settles_0 (by decide) ?_
  refine rg_istore_n (pc := 1) (lv' := [(0, .ref ((zG Z).1 134)), (1, .int 0)]) C [1, 0] rfl rfl (by decide) dX6_settles_1 ?_
  exact ih1 _ _ hf
set_option maxHeartbeats 4000000 in
theorem tX6_settles_1 {Z : ra_Z} {r : Int32} {w1 : ra_W} (C : ra_C Z cX6_settles 2 RX6 1 22) (hQ : ra_QV Z r w1) (hr : (zmt Z).sig.returnType = none) (k : Nat) (n : Nat) (ih1 : pX6_settles_1 Z r w1 k n) : pX6_settles_1 Z r w1 k (n + 1) := by
  intro v1 w hf
  rw [fX6_settles_1] at hf
  refine rg_iload_n (pc := 2) C 1 rfl rfl dX6_settles_2 ?_
  refine rg_bipush (pc := 3) (v := 19) C dX6_settles_3 (by decide) ?_
  refine rg_icmp_ge (pc := 5) (tgt := 26) C dX6_settles_5 (by decide) (fun c1 => ?_) (fun c1 => ?_)
  · replace hf := ra_t hf c1
    refine rg_aload_n (pc := 26) C 0 rfl rfl dX6_settles_26 ?_
    refine rg_get (pc := 27) C 134 6 11 kd_134 (by decide) rfl inlX6 (by decide) wd_607 rfl dX6_settles_27 ?_
    refine rg_aload_n (pc := 30) C 0 rfl rfl dX6_settles_30 ?_
    refine rg_get (pc := 31) C 134 6 12 kd_134 (by decide) rfl inlX6 (by decide) wd_608 rfl dX6_settles_31 ?_
    obtain ⟨r2, w3, e4, hf⟩ := ra_bd hf
    refine rg_callSV (pc := 34) (As := [.ref ((zG Z).1 138), .ref ((zG Z).1 139)]) (st := []) C (kX6_copies (zl Z) (zG Z) C.hj k 138 139 kd_138 kd_139 _ _ _ e4) ysX6_copies rfl wd_593 ⟨Nat.le_of_ble_eq_true rfl, Nat.le_of_ble_eq_true rfl⟩ rfl (Nat.le_of_ble_eq_true rfl) dX6_settles_34 ?_
    refine rg_aload_n (pc := 37) C 0 rfl rfl dX6_settles_37 ?_
    refine rg_iconst (pc := 38) (v := 0) C dX6_settles_38 (by decide) ?_
    refine rg_put (pc := 39) C 134 6 2 kd_134 (by decide) rfl inlX6 tyX6 tyX6_ok nmX6 (by decide) wd_598 rfl rfl rfl (Nat.le_of_ble_eq_true rfl) rfl dX6_settles_39 ?_
    refine rg_aload_n (pc := 42) C 0 rfl rfl dX6_settles_42 ?_
    refine rg_iconst (pc := 43) (v := 0) C dX6_settles_43 (by decide) ?_
    refine rg_put (pc := 44) C 134 6 20 kd_134 (by decide) rfl inlX6 tyX6 tyX6_ok nmX6 (by decide) wd_616 rfl rfl rfl (Nat.le_of_ble_eq_true rfl) rfl dX6_settles_44 ?_
    refine rg_aload_n (pc := 47) C 0 rfl rfl dX6_settles_47 ?_
    refine rg_iconst (pc := 48) (v := 0) C dX6_settles_48 (by decide) ?_
    refine rg_put (pc := 49) C 134 6 15 kd_134 (by decide) rfl inlX6 tyX6 tyX6_ok nmX6 (by decide) wd_611 rfl rfl rfl (Nat.le_of_ble_eq_true rfl) rfl dX6_settles_49 ?_
    refine rg_aload_n (pc := 52) C 0 rfl rfl dX6_settles_52 ?_
    refine rg_get (pc := 53) C 134 6 17 kd_134 (by decide) rfl inlX6 (by decide) wd_613 rfl dX6_settles_53 ?_
    refine rg_iconst (pc := 56) (v := 0) C dX6_settles_56 (by decide) ?_
    refine rg_iconst (pc := 57) (v := 0) C dX6_settles_57 (by decide) ?_
    refine rg_zast (pc := 58) (j := 0) C 143 kd_143 (by decide) (by decide) (by decide) dX6_settles_58 ?_
    refine rg_aload_n (pc := 59) C 0 rfl rfl dX6_settles_59 ?_
    refine rg_get (pc := 60) C 134 6 17 kd_134 (by decide) rfl inlX6 (by decide) wd_613 rfl dX6_settles_60 ?_
    refine rg_iconst (pc := 63) (v := 1) C dX6_settles_63 (by decide) ?_
    refine rg_iconst (pc := 64) (v := 0) C dX6_settles_64 (by decide) ?_
    refine rg_zast (pc := 65) (j := 1) C 143 kd_143 (by decide) (by decide) (by decide) dX6_settles_65 ?_
    exact rg_vret (pc := 66) C hQ hr hf dX6_settles_66
  · replace hf := ra_f hf c1
    refine rg_aload_n (pc := 8) C 0 rfl rfl dX6_settles_8 ?_
    refine rg_get (pc := 9) C 134 6 9 kd_134 (by decide) rfl inlX6 (by decide) wd_605 rfl dX6_settles_9 ?_
    refine rg_iload_n (pc := 12) C 1 rfl rfl dX6_settles_12 ?_
    refine rg_aload_n (pc := 13) C 0 rfl rfl dX6_settles_13 ?_
    refine rg_get (pc := 14) C 134 6 10 kd_134 (by decide) rfl inlX6 (by decide) wd_606 rfl dX6_settles_14 ?_
    refine rg_iload_n (pc := 17) C 1 rfl rfl dX6_settles_17 ?_
    obtain ⟨g5, hf⟩ := ra_gd hf
    refine rg_iald (pc := 18) (j := (ra_ix v1)) C 137 kd_137 rfl g5 dX6_settles_18 ?_
    refine rg_iast (pc := 19) (j := (ra_ix v1)) C 136 kd_136 rfl g5 dX6_settles_19 ?_
    refine rg_iinc (pc := 20) (v := (v1 + 1)) (lv' := [(0, .ref ((zG Z).1 134)), (1, .int (v1 + 1))]) C 1 rfl [1, 0] (ra_ii (by decide)) rfl (by decide) dX6_settles_20 ?_
    refine rg_goto (pc := 23) (tgt := 2) C dX6_settles_23 (by decide) ?_
    exact ih1 _ _ hf
theorem tX6_settles {Z : ra_Z} {r : Int32} {w1 : ra_W} (C : ra_C Z cX6_settles 2 RX6 1 22) (hQ : ra_QV Z r w1) (hr : (zmt Z).sig.returnType = none) (k : Nat) : ∀ n : Nat, pX6_settles_0 Z r w1 k n ∧ pX6_settles_1 Z r w1 k n := by
  intro n
  induction n with
  | zero => exact ⟨(fun _ _ h => by cases h), (fun _ _ h => by cases h)⟩
  | succ n ih =>
    obtain ⟨ih0, ih1⟩ := ih
    exact ⟨tX6_settles_0 C hQ hr k n ih1, tX6_settles_1 C hQ hr k n ih1⟩
theorem kX6_settles (l : Launch) (G : ra_G) (hj : ra_inj G) (k : Nat)  (w : ra_W) (r : Int32) (w1 : ra_W) (h : FX6_settles k  w = some (r, w1)) : ra_MV l G yX6_settles cX6_settles 2 none 1 22 [.ref (G.1 134)] w r w1 :=
  ra_entryV (own := RX6) (by decide) rfl (Nat.le_of_ble_eq_true rfl) hj (fun Z hl hG C hQ hr => by subst hl; subst hG; exact (tX6_settles C hQ hr k k).1 _ _ h)
theorem ysX6_settles : ra_YV yX6_settles cX6_settles 2 none 0 RX6 := ⟨⟨wd_7, wd_592, by decide, by decide, by decide⟩, wd_591, wp_20⟩
/-- TrunkRadioModel.in -/
def fX6_in (k : Nat) : Nat → Nat → Int32 → Int32 → Int32 → ra_W → Option (Int32 × ra_W)
  | 0, _, _, _, _, _ => none
  | n + 1, L, v0, v1, v2, w => match L with
    | _ => if v0 < v1 then (some (0, w)) else (if v2 < v0 then (some (0, w)) else (some (1, w)))
theorem fX6_in_0 (k : Nat) (n : Nat) (v0 : Int32) (v1 : Int32) (v2 : Int32) (w : ra_W) : fX6_in k (n + 1) 0 v0 v1 v2 w = (if v0 < v1 then (some (0, w)) else (if v2 < v0 then (some (0, w)) else (some (1, w)))) := rfl
def FX6_in (k : Nat) (v0 : Int32) (v1 : Int32) (v2 : Int32) (w : ra_W) : Option (Int32 × ra_W) := fX6_in k k 0 v0 v1 v2 w
def pX6_in_0 (Z : ra_Z) (r : Int32) (w1 : ra_W) (k : Nat) (n : Nat) : Prop := ∀ (v0 : Int32) (v1 : Int32) (v2 : Int32) (w : ra_W), fX6_in k n 0 v0 v1 v2 w = some (r, w1) → ra_J Z 3 0 [(0, .int v0), (1, .int v1), (2, .int v2)] [] w
set_option maxHeartbeats 4000000 in
theorem tX6_in_0 {Z : ra_Z} {r : Int32} {w1 : ra_W} (C : ra_C Z cX6_in 3 RX6 0 0) (hQ : ra_QI Z r w1) (hr : (zmt Z).sig.returnType = (some .boolean)) (k : Nat) (n : Nat) : pX6_in_0 Z r w1 k (n + 1) := by
  intro v0 v1 v2 w hf
  rw [fX6_in_0] at hf
  refine rg_iload_n (pc := 0) C 0 rfl rfl dX6_in_0 ?_
  refine rg_iload_n (pc := 1) C 1 rfl rfl dX6_in_1 ?_
  refine rg_icmp_lt (pc := 2) (tgt := 14) C dX6_in_2 (by decide) (fun c1 => ?_) (fun c1 => ?_)
  · replace hf := ra_t hf c1
    refine rg_iconst (pc := 14) (v := 0) C dX6_in_14 (by decide) ?_
    exact rg_zret (pc := 15) C hQ hr (by decide) hf dX6_in_15
  · replace hf := ra_f hf c1
    refine rg_iload_n (pc := 5) C 0 rfl rfl dX6_in_5 ?_
    refine rg_iload_n (pc := 6) C 2 rfl rfl dX6_in_6 ?_
    refine rg_icmp_gt (pc := 7) (tgt := 14) C dX6_in_7 (by decide) (fun c2 => ?_) (fun c2 => ?_)
    · replace hf := ra_t hf c2
      refine rg_iconst (pc := 14) (v := 0) C dX6_in_14 (by decide) ?_
      exact rg_zret (pc := 15) C hQ hr (by decide) hf dX6_in_15
    · replace hf := ra_f hf c2
      refine rg_iconst (pc := 10) (v := 1) C dX6_in_10 (by decide) ?_
      refine rg_goto (pc := 11) (tgt := 15) C dX6_in_11 (by decide) ?_
      exact rg_zret (pc := 15) C hQ hr (by decide) hf dX6_in_15
theorem tX6_in {Z : ra_Z} {r : Int32} {w1 : ra_W} (C : ra_C Z cX6_in 3 RX6 0 0) (hQ : ra_QI Z r w1) (hr : (zmt Z).sig.returnType = (some .boolean)) (k : Nat) : ∀ n : Nat, pX6_in_0 Z r w1 k n := by
  intro n
  induction n with
  | zero => exact (fun _ _ _ _ h => by cases h)
  | succ n ih => exact tX6_in_0 C hQ hr k n
theorem kX6_in (l : Launch) (G : ra_G) (hj : ra_inj G) (k : Nat) (v0 : Int32) (v1 : Int32) (v2 : Int32) (w : ra_W) (r : Int32) (w1 : ra_W) (h : FX6_in k v0 v1 v2 w = some (r, w1)) : ra_MI l G yX6_in cX6_in 3 (some .boolean) 0 0 [.int v0, .int v1, .int v2] w r w1 :=
  ra_entryI (own := RX6) (by decide) rfl (Nat.le_of_ble_eq_true rfl) hj (fun Z hl hG C hQ hr => by subst hl; subst hG; exact (tX6_in C hQ hr k k) _ _ _ _ h)
theorem ysX6_in : ra_YS yX6_in cX6_in 3 (some .boolean) 3 := ⟨⟨wd_7, wd_679, by decide, by decide, by decide⟩, wd_678⟩
/-- TrunkRadioModel.has -/
def fX6_has (k : Nat) : Nat → Nat → Int32 → Int32 → ra_W → Option (Int32 × ra_W)
  | 0, _, _, _, _ => none
  | n + 1, L, v0, v1, w => match L with
    | _ => if ((v0 >>> (v1 &&& 31)) &&& 1) = 1 then (some (1, w)) else (some (0, w))
theorem fX6_has_0 (k : Nat) (n : Nat) (v0 : Int32) (v1 : Int32) (w : ra_W) : fX6_has k (n + 1) 0 v0 v1 w = (if ((v0 >>> (v1 &&& 31)) &&& 1) = 1 then (some (1, w)) else (some (0, w))) := rfl
def FX6_has (k : Nat) (v0 : Int32) (v1 : Int32) (w : ra_W) : Option (Int32 × ra_W) := fX6_has k k 0 v0 v1 w
def pX6_has_0 (Z : ra_Z) (r : Int32) (w1 : ra_W) (k : Nat) (n : Nat) : Prop := ∀ (v0 : Int32) (v1 : Int32) (w : ra_W), fX6_has k n 0 v0 v1 w = some (r, w1) → ra_J Z 2 0 [(0, .int v0), (1, .int v1)] [] w
set_option maxHeartbeats 4000000 in
theorem tX6_has_0 {Z : ra_Z} {r : Int32} {w1 : ra_W} (C : ra_C Z cX6_has 2 RX6 0 0) (hQ : ra_QI Z r w1) (hr : (zmt Z).sig.returnType = (some .boolean)) (k : Nat) (n : Nat) : pX6_has_0 Z r w1 k (n + 1) := by
  intro v0 v1 w hf
  rw [fX6_has_0] at hf
  refine rg_iload_n (pc := 0) C 0 rfl rfl dX6_has_0 ?_
  refine rg_iload_n (pc := 1) C 1 rfl rfl dX6_has_1 ?_
  refine rg_ishr (pc := 2) C dX6_has_2 ?_
  refine rg_iconst (pc := 3) (v := 1) C dX6_has_3 (by decide) ?_
  refine rg_iand (pc := 4) C dX6_has_4 ?_
  refine rg_iconst (pc := 5) (v := 1) C dX6_has_5 (by decide) ?_
  refine rg_icmp_ne (pc := 6) (tgt := 13) C dX6_has_6 (by decide) (fun c1 => ?_) (fun c1 => ?_)
  · replace hf := ra_f hf c1
    refine rg_iconst (pc := 13) (v := 0) C dX6_has_13 (by decide) ?_
    exact rg_zret (pc := 14) C hQ hr (by decide) hf dX6_has_14
  · replace hf := ra_t hf c1
    refine rg_iconst (pc := 9) (v := 1) C dX6_has_9 (by decide) ?_
    refine rg_goto (pc := 10) (tgt := 14) C dX6_has_10 (by decide) ?_
    exact rg_zret (pc := 14) C hQ hr (by decide) hf dX6_has_14
theorem tX6_has {Z : ra_Z} {r : Int32} {w1 : ra_W} (C : ra_C Z cX6_has 2 RX6 0 0) (hQ : ra_QI Z r w1) (hr : (zmt Z).sig.returnType = (some .boolean)) (k : Nat) : ∀ n : Nat, pX6_has_0 Z r w1 k n := by
  intro n
  induction n with
  | zero => exact (fun _ _ _ h => by cases h)
  | succ n ih => exact tX6_has_0 C hQ hr k n
theorem kX6_has (l : Launch) (G : ra_G) (hj : ra_inj G) (k : Nat) (v0 : Int32) (v1 : Int32) (w : ra_W) (r : Int32) (w1 : ra_W) (h : FX6_has k v0 v1 w = some (r, w1)) : ra_MI l G yX6_has cX6_has 2 (some .boolean) 0 0 [.int v0, .int v1] w r w1 :=
  ra_entryI (own := RX6) (by decide) rfl (Nat.le_of_ble_eq_true rfl) hj (fun Z hl hG C hQ hr => by subst hl; subst hG; exact (tX6_has C hQ hr k k) _ _ _ h)
theorem ysX6_has : ra_YS yX6_has cX6_has 2 (some .boolean) 2 := ⟨⟨wd_7, wd_779, by decide, by decide, by decide⟩, wd_778⟩
/-- TrunkRadioModel.type -/
def fX6_type (k : Nat) : Nat → Nat → Int32 → ra_W → Option (Int32 × ra_W)
  | 0, _, _, _ => none
  | n + 1, L, v1, w => match L with
    | _ => ra_bind (FX6_in k v1 0 255 (ra_st w 134 0 0)) (fun r1 w2 => if r1 = 0 then (some ((-1), w2)) else (if (w2 134 2) = 80 then (some ((-3), w2)) else (if ra_in (w2 134 2) 80 then some (((ra_st (ra_st w2 135 (ra_ix (w2 134 2)) v1) 134 2 (((ra_st w2 135 (ra_ix (w2 134 2)) v1) 134 2) + 1)) 134 2), (ra_st (ra_st w2 135 (ra_ix (w2 134 2)) v1) 134 2 (((ra_st w2 135 (ra_ix (w2 134 2)) v1) 134 2) + 1))) else none)))
theorem fX6_type_0 (k : Nat) (n : Nat) (v1 : Int32) (w : ra_W) : fX6_type k (n + 1) 0 v1 w = (ra_bind (FX6_in k v1 0 255 (ra_st w 134 0 0)) (fun r1 w2 => if r1 = 0 then (some ((-1), w2)) else (if (w2 134 2) = 80 then (some ((-3), w2)) else (if ra_in (w2 134 2) 80 then some (((ra_st (ra_st w2 135 (ra_ix (w2 134 2)) v1) 134 2 (((ra_st w2 135 (ra_ix (w2 134 2)) v1) 134 2) + 1)) 134 2), (ra_st (ra_st w2 135 (ra_ix (w2 134 2)) v1) 134 2 (((ra_st w2 135 (ra_ix (w2 134 2)) v1) 134 2) + 1))) else none)))) := rfl
def FX6_type (k : Nat) (v1 : Int32) (w : ra_W) : Option (Int32 × ra_W) := fX6_type k k 0 v1 w
def pX6_type_0 (Z : ra_Z) (r : Int32) (w1 : ra_W) (k : Nat) (n : Nat) : Prop := ∀ (v1 : Int32) (w : ra_W), fX6_type k n 0 v1 w = some (r, w1) → ra_J Z 2 0 [(0, .ref ((zG Z).1 134)), (1, .int v1)] [] w
set_option maxHeartbeats 4000000 in
theorem tX6_type_0 {Z : ra_Z} {r : Int32} {w1 : ra_W} (C : ra_C Z cX6_type 2 RX6 1 22) (hQ : ra_QI Z r w1) (hr : (zmt Z).sig.returnType = (some .int)) (k : Nat) (n : Nat) : pX6_type_0 Z r w1 k (n + 1) := by
  intro v1 w hf
  rw [fX6_type_0] at hf
  refine rg_aload_n (pc := 0) C 0 rfl rfl dX6_type_0 ?_
  refine rg_iconst (pc := 1) (v := 0) C dX6_type_1 (by decide) ?_
  refine rg_put (pc := 2) C 134 6 0 kd_134 (by decide) rfl inlX6 tyX6 tyX6_ok nmX6 (by decide) wd_596 rfl rfl rfl (Nat.le_of_ble_eq_true rfl) rfl dX6_type_2 ?_
  refine rg_iload_n (pc := 5) C 1 rfl rfl dX6_type_5 ?_
  refine rg_iconst (pc := 6) (v := 0) C dX6_type_6 (by decide) ?_
  refine rg_sipush (pc := 7) (v := 255) C dX6_type_7 (by decide) ?_
  obtain ⟨r1, w2, e3, hf⟩ := ra_bd hf
  refine rg_callSI (pc := 10) (As := [.int v1, .int 0, .int 255]) (st := []) C (kX6_in (zl Z) (zG Z) C.hj k _ _ _ _ _ _ e3) ysX6_in rfl wd_677 ⟨Nat.le_of_ble_eq_true rfl, Nat.le_of_ble_eq_true rfl⟩ rfl (Nat.le_of_ble_eq_true rfl) dX6_type_10 ?_
  refine rg_if_ne (pc := 13) (tgt := 18) C dX6_type_13 (by decide) (fun c4 => ?_) (fun c4 => ?_)
  · replace hf := ra_f hf c4
    refine rg_aload_n (pc := 18) C 0 rfl rfl dX6_type_18 ?_
    refine rg_get (pc := 19) C 134 6 2 kd_134 (by decide) rfl inlX6 (by decide) wd_598 rfl dX6_type_19 ?_
    refine rg_bipush (pc := 22) (v := 80) C dX6_type_22 (by decide) ?_
    refine rg_icmp_ne (pc := 24) (tgt := 30) C dX6_type_24 (by decide) (fun c5 => ?_) (fun c5 => ?_)
    · replace hf := ra_f hf c5
      refine rg_aload_n (pc := 30) C 0 rfl rfl dX6_type_30 ?_
      refine rg_get (pc := 31) C 134 6 1 kd_134 (by decide) rfl inlX6 (by decide) wd_597 rfl dX6_type_31 ?_
      refine rg_aload_n (pc := 34) C 0 rfl rfl dX6_type_34 ?_
      refine rg_get (pc := 35) C 134 6 2 kd_134 (by decide) rfl inlX6 (by decide) wd_598 rfl dX6_type_35 ?_
      refine rg_iload_n (pc := 38) C 1 rfl rfl dX6_type_38 ?_
      obtain ⟨g6, hf⟩ := ra_gd hf
      refine rg_iast (pc := 39) (j := (ra_ix (w2 134 2))) C 135 kd_135 rfl g6 dX6_type_39 ?_
      refine rg_aload_n (pc := 40) C 0 rfl rfl dX6_type_40 ?_
      refine rg_dup (pc := 41) C rfl dX6_type_41 ?_
      refine rg_get (pc := 42) C 134 6 2 kd_134 (by decide) rfl inlX6 (by decide) wd_598 rfl dX6_type_42 ?_
      refine rg_iconst (pc := 45) (v := 1) C dX6_type_45 (by decide) ?_
      refine rg_iadd (pc := 46) C dX6_type_46 ?_
      refine rg_put (pc := 47) C 134 6 2 kd_134 (by decide) rfl inlX6 tyX6 tyX6_ok nmX6 (by decide) wd_598 rfl rfl rfl (Nat.le_of_ble_eq_true rfl) rfl dX6_type_47 ?_
      refine rg_aload_n (pc := 50) C 0 rfl rfl dX6_type_50 ?_
      refine rg_get (pc := 51) C 134 6 2 kd_134 (by decide) rfl inlX6 (by decide) wd_598 rfl dX6_type_51 ?_
      exact rg_iret (pc := 54) C hQ hr hf dX6_type_54
    · replace hf := ra_t hf c5
      refine rg_bipush (pc := 27) (v := (-3)) C dX6_type_27 (by decide) ?_
      exact rg_iret (pc := 29) C hQ hr hf dX6_type_29
  · replace hf := ra_t hf c4
    refine rg_iconst (pc := 16) (v := (-1)) C dX6_type_16 (by decide) ?_
    exact rg_iret (pc := 17) C hQ hr hf dX6_type_17
theorem tX6_type {Z : ra_Z} {r : Int32} {w1 : ra_W} (C : ra_C Z cX6_type 2 RX6 1 22) (hQ : ra_QI Z r w1) (hr : (zmt Z).sig.returnType = (some .int)) (k : Nat) : ∀ n : Nat, pX6_type_0 Z r w1 k n := by
  intro n
  induction n with
  | zero => exact (fun _ _ h => by cases h)
  | succ n ih => exact tX6_type_0 C hQ hr k n
theorem kX6_type (l : Launch) (G : ra_G) (hj : ra_inj G) (k : Nat) (v1 : Int32) (w : ra_W) (r : Int32) (w1 : ra_W) (h : FX6_type k v1 w = some (r, w1)) : ra_MI l G yX6_type cX6_type 2 (some .int) 1 22 [.ref (G.1 134), .int v1] w r w1 :=
  ra_entryI (own := RX6) (by decide) rfl (Nat.le_of_ble_eq_true rfl) hj (fun Z hl hG C hQ hr => by subst hl; subst hG; exact (tX6_type C hQ hr k k) _ _ h)
theorem ysX6_type : ra_YV yX6_type cX6_type 2 (some .int) 1 RX6 := ⟨⟨wd_7, wd_676, by decide, by decide, by decide⟩, wd_674, wd_675⟩
/-- TrunkRadioModel.clear -/
def fX6_clear (k : Nat) : Nat → Nat → ra_W → Option (Int32 × ra_W)
  | 0, _, _ => none
  | n + 1, L, w => match L with
    | _ => some (((ra_st w 134 0 0) 134 2), (ra_st (ra_st w 134 0 0) 134 2 0))
theorem fX6_clear_0 (k : Nat) (n : Nat)  (w : ra_W) : fX6_clear k (n + 1) 0  w = (some (((ra_st w 134 0 0) 134 2), (ra_st (ra_st w 134 0 0) 134 2 0))) := rfl
def FX6_clear (k : Nat)  (w : ra_W) : Option (Int32 × ra_W) := fX6_clear k k 0  w
def pX6_clear_0 (Z : ra_Z) (r : Int32) (w1 : ra_W) (k : Nat) (n : Nat) : Prop := ∀  (w : ra_W), fX6_clear k n 0  w = some (r, w1) → ra_J Z 2 0 [(0, .ref ((zG Z).1 134))] [] w
set_option maxHeartbeats 4000000 in
theorem tX6_clear_0 {Z : ra_Z} {r : Int32} {w1 : ra_W} (C : ra_C Z cX6_clear 2 RX6 0 0) (hQ : ra_QI Z r w1) (hr : (zmt Z).sig.returnType = (some .int)) (k : Nat) (n : Nat) : pX6_clear_0 Z r w1 k (n + 1) := by
  intro w hf
  rw [fX6_clear_0] at hf
  refine rg_aload_n (pc := 0) C 0 rfl rfl dX6_clear_0 ?_
  refine rg_iconst (pc := 1) (v := 0) C dX6_clear_1 (by decide) ?_
  refine rg_put (pc := 2) C 134 6 0 kd_134 (by decide) rfl inlX6 tyX6 tyX6_ok nmX6 (by decide) wd_596 rfl rfl rfl (Nat.le_of_ble_eq_true rfl) rfl dX6_clear_2 ?_
  refine rg_aload_n (pc := 5) C 0 rfl rfl dX6_clear_5 ?_
  refine rg_get (pc := 6) C 134 6 2 kd_134 (by decide) rfl inlX6 (by decide) wd_598 rfl dX6_clear_6 ?_
  refine rg_istore_n (pc := 9) (lv' := [(0, .ref ((zG Z).1 134)), (1, .int ((ra_st w 134 0 0) 134 2))]) C [1, 0] rfl rfl (by decide) dX6_clear_9 ?_
  refine rg_aload_n (pc := 10) C 0 rfl rfl dX6_clear_10 ?_
  refine rg_iconst (pc := 11) (v := 0) C dX6_clear_11 (by decide) ?_
  refine rg_put (pc := 12) C 134 6 2 kd_134 (by decide) rfl inlX6 tyX6 tyX6_ok nmX6 (by decide) wd_598 rfl rfl rfl (Nat.le_of_ble_eq_true rfl) rfl dX6_clear_12 ?_
  refine rg_iload_n (pc := 15) C 1 rfl rfl dX6_clear_15 ?_
  exact rg_iret (pc := 16) C hQ hr hf dX6_clear_16
theorem tX6_clear {Z : ra_Z} {r : Int32} {w1 : ra_W} (C : ra_C Z cX6_clear 2 RX6 0 0) (hQ : ra_QI Z r w1) (hr : (zmt Z).sig.returnType = (some .int)) (k : Nat) : ∀ n : Nat, pX6_clear_0 Z r w1 k n := by
  intro n
  induction n with
  | zero => exact (fun _ h => by cases h)
  | succ n ih => exact tX6_clear_0 C hQ hr k n
theorem kX6_clear (l : Launch) (G : ra_G) (hj : ra_inj G) (k : Nat)  (w : ra_W) (r : Int32) (w1 : ra_W) (h : FX6_clear k  w = some (r, w1)) : ra_MI l G yX6_clear cX6_clear 2 (some .int) 0 0 [.ref (G.1 134)] w r w1 :=
  ra_entryI (own := RX6) (by decide) rfl (Nat.le_of_ble_eq_true rfl) hj (fun Z hl hG C hQ hr => by subst hl; subst hG; exact (tX6_clear C hQ hr k k) _ h)
theorem ysX6_clear : ra_YV yX6_clear cX6_clear 2 (some .int) 0 RX6 := ⟨⟨wd_7, wd_683, by decide, by decide, by decide⟩, wd_681, wd_682⟩
/-- TrunkRadioModel.letterAt -/
def fX6_letterAt (k : Nat) : Nat → Nat → Int32 → ra_W → Option (Int32 × ra_W)
  | 0, _, _, _ => none
  | n + 1, L, v1, w => match L with
    | _ => if (w 134 2) ≤ v1 then (some ((-1), w)) else (if ra_in v1 80 then some ((w 135 (ra_ix v1)), w) else none)
theorem fX6_letterAt_0 (k : Nat) (n : Nat) (v1 : Int32) (w : ra_W) : fX6_letterAt k (n + 1) 0 v1 w = (if (w 134 2) ≤ v1 then (some ((-1), w)) else (if ra_in v1 80 then some ((w 135 (ra_ix v1)), w) else none)) := rfl
def FX6_letterAt (k : Nat) (v1 : Int32) (w : ra_W) : Option (Int32 × ra_W) := fX6_letterAt k k 0 v1 w
def pX6_letterAt_0 (Z : ra_Z) (r : Int32) (w1 : ra_W) (k : Nat) (n : Nat) : Prop := ∀ (v1 : Int32) (w : ra_W), fX6_letterAt k n 0 v1 w = some (r, w1) → ra_J Z 2 0 [(0, .ref ((zG Z).1 134)), (1, .int v1)] [] w
set_option maxHeartbeats 4000000 in
theorem tX6_letterAt_0 {Z : ra_Z} {r : Int32} {w1 : ra_W} (C : ra_C Z cX6_letterAt 2 RX6 0 0) (hQ : ra_QI Z r w1) (hr : (zmt Z).sig.returnType = (some .int)) (k : Nat) (n : Nat) : pX6_letterAt_0 Z r w1 k (n + 1) := by
  intro v1 w hf
  rw [fX6_letterAt_0] at hf
  refine rg_iload_n (pc := 0) C 1 rfl rfl dX6_letterAt_0 ?_
  refine rg_aload_n (pc := 1) C 0 rfl rfl dX6_letterAt_1 ?_
  refine rg_get (pc := 2) C 134 6 2 kd_134 (by decide) rfl inlX6 (by decide) wd_598 rfl dX6_letterAt_2 ?_
  refine rg_icmp_ge (pc := 5) (tgt := 17) C dX6_letterAt_5 (by decide) (fun c1 => ?_) (fun c1 => ?_)
  · replace hf := ra_t hf c1
    refine rg_iconst (pc := 17) (v := (-1)) C dX6_letterAt_17 (by decide) ?_
    exact rg_iret (pc := 18) C hQ hr hf dX6_letterAt_18
  · replace hf := ra_f hf c1
    refine rg_aload_n (pc := 8) C 0 rfl rfl dX6_letterAt_8 ?_
    refine rg_get (pc := 9) C 134 6 1 kd_134 (by decide) rfl inlX6 (by decide) wd_597 rfl dX6_letterAt_9 ?_
    refine rg_iload_n (pc := 12) C 1 rfl rfl dX6_letterAt_12 ?_
    obtain ⟨g2, hf⟩ := ra_gd hf
    refine rg_iald (pc := 13) (j := (ra_ix v1)) C 135 kd_135 rfl g2 dX6_letterAt_13 ?_
    refine rg_goto (pc := 14) (tgt := 18) C dX6_letterAt_14 (by decide) ?_
    exact rg_iret (pc := 18) C hQ hr hf dX6_letterAt_18
theorem tX6_letterAt {Z : ra_Z} {r : Int32} {w1 : ra_W} (C : ra_C Z cX6_letterAt 2 RX6 0 0) (hQ : ra_QI Z r w1) (hr : (zmt Z).sig.returnType = (some .int)) (k : Nat) : ∀ n : Nat, pX6_letterAt_0 Z r w1 k n := by
  intro n
  induction n with
  | zero => exact (fun _ _ h => by cases h)
  | succ n ih => exact tX6_letterAt_0 C hQ hr k n
theorem kX6_letterAt (l : Launch) (G : ra_G) (hj : ra_inj G) (k : Nat) (v1 : Int32) (w : ra_W) (r : Int32) (w1 : ra_W) (h : FX6_letterAt k v1 w = some (r, w1)) : ra_MI l G yX6_letterAt cX6_letterAt 2 (some .int) 0 0 [.ref (G.1 134), .int v1] w r w1 :=
  ra_entryI (own := RX6) (by decide) rfl (Nat.le_of_ble_eq_true rfl) hj (fun Z hl hG C hQ hr => by subst hl; subst hG; exact (tX6_letterAt C hQ hr k k) _ _ h)
theorem ysX6_letterAt : ra_YV yX6_letterAt cX6_letterAt 2 (some .int) 1 RX6 := ⟨⟨wd_7, wd_695, by decide, by decide, by decide⟩, wd_694, wp_22⟩
/-- TrunkRadioModel.advances -/
def fX6_advances (k : Nat) : Nat → Nat → Int32 → Int32 → ra_W → Option (Int32 × ra_W)
  | 0, _, _, _, _ => none
  | n + 1, L, v1, s0, w => match L with
    | 0 => ra_bind (FX6_letterAt k (w 134 3) w) (fun r1 w2 => if r1 = 32 then (fX6_advances k n 0 0 0 (ra_st w2 134 3 ((w2 134 3) + 1))) else (ra_bind (FX6_letterAt k ((ra_st w2 134 5 (w2 134 3)) 134 3) (ra_st w2 134 5 (w2 134 3))) (fun r5 w6 => if 0 ≤ r5 then (ra_bind (FX6_in k r5 48 57 w6) (fun r9 w10 => if r9 = 0 then (if r5 = 59 then (fX6_advances k n 7 0 3 (ra_st (ra_st w10 134 3 ((w10 134 3) + 1)) 134 6 r5)) else (if r5 = 99 then (fX6_advances k n 6 0 0 (ra_st (ra_st w10 134 3 ((w10 134 3) + 1)) 134 6 r5)) else (if r5 = 97 then (fX6_advances k n 6 0 0 (ra_st (ra_st w10 134 3 ((w10 134 3) + 1)) 134 6 r5)) else (if r5 = 119 then (fX6_advances k n 6 0 0 (ra_st (ra_st w10 134 3 ((w10 134 3) + 1)) 134 6 r5)) else (if r5 = 114 then (fX6_advances k n 6 0 0 (ra_st (ra_st w10 134 3 ((w10 134 3) + 1)) 134 6 r5)) else (fX6_advances k n 7 0 4 (ra_st (ra_st w10 134 3 ((w10 134 3) + 1)) 134 6 r5))))))) else (fX6_advances k n 1 r5 0 (ra_st w10 134 6 0)))) else (some (0, (ra_st w6 134 4 0))))))
    | 1 => ra_bind (FX6_letterAt k (w 134 3) w) (fun r1 w2 => ra_bind (FX6_in k r1 48 57 w2) (fun r4 w5 => if r4 = 0 then (if 99 < (w5 134 6) then (fX6_advances k n 3 0 0 w5) else (if v1 = 48 then (if ((w5 134 3) - (w5 134 5)) ≤ 1 then (fX6_advances k n 4 0 0 w5) else (fX6_advances k n 3 0 0 w5)) else (fX6_advances k n 4 0 0 w5))) else (if (w5 134 6) ≤ 99 then (ra_bind (FX6_letterAt k (w5 134 3) w5) (fun r12 w13 => fX6_advances k n 2 v1 (((10 * (w5 134 6)) + r12) - 48) w13)) else (fX6_advances k n 2 v1 (w5 134 6) w5))))
    | 2 => fX6_advances k n 1 v1 0 (ra_st (ra_st w 134 6 s0) 134 3 (((ra_st w 134 6 s0) 134 3) + 1))
    | 3 => fX6_advances k n 5 0 4 w
    | 4 => fX6_advances k n 5 0 2 w
    | 5 => some (0, (ra_st w 134 4 s0))
    | 6 => fX6_advances k n 7 0 1 w
    | _ => some (0, (ra_st w 134 4 s0))
theorem fX6_advances_0 (k : Nat) (n : Nat) (v1 : Int32) (s0 : Int32) (w : ra_W) : fX6_advances k (n + 1) 0 v1 s0 w = (ra_bind (FX6_letterAt k (w 134 3) w) (fun r1 w2 => if r1 = 32 then (fX6_advances k n 0 0 0 (ra_st w2 134 3 ((w2 134 3) + 1))) else (ra_bind (FX6_letterAt k ((ra_st w2 134 5 (w2 134 3)) 134 3) (ra_st w2 134 5 (w2 134 3))) (fun r5 w6 => if 0 ≤ r5 then (ra_bind (FX6_in k r5 48 57 w6) (fun r9 w10 => if r9 = 0 then (if r5 = 59 then (fX6_advances k n 7 0 3 (ra_st (ra_st w10 134 3 ((w10 134 3) + 1)) 134 6 r5)) else (if r5 = 99 then (fX6_advances k n 6 0 0 (ra_st (ra_st w10 134 3 ((w10 134 3) + 1)) 134 6 r5)) else (if r5 = 97 then (fX6_advances k n 6 0 0 (ra_st (ra_st w10 134 3 ((w10 134 3) + 1)) 134 6 r5)) else (if r5 = 119 then (fX6_advances k n 6 0 0 (ra_st (ra_st w10 134 3 ((w10 134 3) + 1)) 134 6 r5)) else (if r5 = 114 then (fX6_advances k n 6 0 0 (ra_st (ra_st w10 134 3 ((w10 134 3) + 1)) 134 6 r5)) else (fX6_advances k n 7 0 4 (ra_st (ra_st w10 134 3 ((w10 134 3) + 1)) 134 6 r5))))))) else (fX6_advances k n 1 r5 0 (ra_st w10 134 6 0)))) else (some (0, (ra_st w6 134 4 0))))))) := rfl
theorem fX6_advances_1 (k : Nat) (n : Nat) (v1 : Int32) (s0 : Int32) (w : ra_W) : fX6_advances k (n + 1) 1 v1 s0 w = (ra_bind (FX6_letterAt k (w 134 3) w) (fun r1 w2 => ra_bind (FX6_in k r1 48 57 w2) (fun r4 w5 => if r4 = 0 then (if 99 < (w5 134 6) then (fX6_advances k n 3 0 0 w5) else (if v1 = 48 then (if ((w5 134 3) - (w5 134 5)) ≤ 1 then (fX6_advances k n 4 0 0 w5) else (fX6_advances k n 3 0 0 w5)) else (fX6_advances k n 4 0 0 w5))) else (if (w5 134 6) ≤ 99 then (ra_bind (FX6_letterAt k (w5 134 3) w5) (fun r12 w13 => fX6_advances k n 2 v1 (((10 * (w5 134 6)) + r12) - 48) w13)) else (fX6_advances k n 2 v1 (w5 134 6) w5))))) := rfl
theorem fX6_advances_2 (k : Nat) (n : Nat) (v1 : Int32) (s0 : Int32) (w : ra_W) : fX6_advances k (n + 1) 2 v1 s0 w = (fX6_advances k n 1 v1 0 (ra_st (ra_st w 134 6 s0) 134 3 (((ra_st w 134 6 s0) 134 3) + 1))) := rfl
theorem fX6_advances_3 (k : Nat) (n : Nat) (v1 : Int32) (s0 : Int32) (w : ra_W) : fX6_advances k (n + 1) 3 v1 s0 w = (fX6_advances k n 5 0 4 w) := rfl
theorem fX6_advances_4 (k : Nat) (n : Nat) (v1 : Int32) (s0 : Int32) (w : ra_W) : fX6_advances k (n + 1) 4 v1 s0 w = (fX6_advances k n 5 0 2 w) := rfl
theorem fX6_advances_5 (k : Nat) (n : Nat) (v1 : Int32) (s0 : Int32) (w : ra_W) : fX6_advances k (n + 1) 5 v1 s0 w = (some (0, (ra_st w 134 4 s0))) := rfl
theorem fX6_advances_6 (k : Nat) (n : Nat) (v1 : Int32) (s0 : Int32) (w : ra_W) : fX6_advances k (n + 1) 6 v1 s0 w = (fX6_advances k n 7 0 1 w) := rfl
theorem fX6_advances_7 (k : Nat) (n : Nat) (v1 : Int32) (s0 : Int32) (w : ra_W) : fX6_advances k (n + 1) 7 v1 s0 w = (some (0, (ra_st w 134 4 s0))) := rfl
def FX6_advances (k : Nat)  (w : ra_W) : Option (Int32 × ra_W) := fX6_advances k k 0 0 0 w
def pX6_advances_0 (Z : ra_Z) (r : Int32) (w1 : ra_W) (k : Nat) (n : Nat) : Prop := ∀ (v1 : Int32) (s0 : Int32) (w : ra_W), fX6_advances k n 0 v1 s0 w = some (r, w1) → ra_J Z 2 0 [(0, .ref ((zG Z).1 134))] [] w
def pX6_advances_1 (Z : ra_Z) (r : Int32) (w1 : ra_W) (k : Nat) (n : Nat) : Prop := ∀ (v1 : Int32) (s0 : Int32) (w : ra_W), fX6_advances k n 1 v1 s0 w = some (r, w1) → ra_J Z 2 71 [(0, .ref ((zG Z).1 134)), (1, .int v1)] [] w
def pX6_advances_2 (Z : ra_Z) (r : Int32) (w1 : ra_W) (k : Nat) (n : Nat) : Prop := ∀ (v1 : Int32) (s0 : Int32) (w : ra_W), fX6_advances k n 2 v1 s0 w = some (r, w1) → ra_J Z 2 125 [(0, .ref ((zG Z).1 134)), (1, .int v1)] [.int s0, .ref ((zG Z).1 134)] w
def pX6_advances_3 (Z : ra_Z) (r : Int32) (w1 : ra_W) (k : Nat) (n : Nat) : Prop := ∀ (v1 : Int32) (s0 : Int32) (w : ra_W), fX6_advances k n 3 v1 s0 w = some (r, w1) → ra_J Z 2 170 [(0, .ref ((zG Z).1 134))] [.ref ((zG Z).1 134)] w
def pX6_advances_4 (Z : ra_Z) (r : Int32) (w1 : ra_W) (k : Nat) (n : Nat) : Prop := ∀ (v1 : Int32) (s0 : Int32) (w : ra_W), fX6_advances k n 4 v1 s0 w = some (r, w1) → ra_J Z 2 174 [(0, .ref ((zG Z).1 134))] [.ref ((zG Z).1 134)] w
def pX6_advances_5 (Z : ra_Z) (r : Int32) (w1 : ra_W) (k : Nat) (n : Nat) : Prop := ∀ (v1 : Int32) (s0 : Int32) (w : ra_W), fX6_advances k n 5 v1 s0 w = some (r, w1) → ra_J Z 2 175 [(0, .ref ((zG Z).1 134))] [.int s0, .ref ((zG Z).1 134)] w
def pX6_advances_6 (Z : ra_Z) (r : Int32) (w1 : ra_W) (k : Nat) (n : Nat) : Prop := ∀ (v1 : Int32) (s0 : Int32) (w : ra_W), fX6_advances k n 6 v1 s0 w = some (r, w1) → ra_J Z 2 231 [(0, .ref ((zG Z).1 134))] [.ref ((zG Z).1 134)] w
def pX6_advances_7 (Z : ra_Z) (r : Int32) (w1 : ra_W) (k : Nat) (n : Nat) : Prop := ∀ (v1 : Int32) (s0 : Int32) (w : ra_W), fX6_advances k n 7 v1 s0 w = some (r, w1) → ra_J Z 2 236 [(0, .ref ((zG Z).1 134))] [.int s0, .ref ((zG Z).1 134)] w
set_option maxHeartbeats 4000000 in
theorem tX6_advances_0 {Z : ra_Z} {r : Int32} {w1 : ra_W} (C : ra_C Z cX6_advances 2 RX6 1 22) (hQ : ra_QV Z r w1) (hr : (zmt Z).sig.returnType = none) (k : Nat) (n : Nat) (ih0 : pX6_advances_0 Z r w1 k n) (ih1 : pX6_advances_1 Z r w1 k n) (ih6 : pX6_advances_6 Z r w1 k n) (ih7 : pX6_advances_7 Z r w1 k n) : pX6_advances_0 Z r w1 k (n + 1) := by
  intro v1 s0 w hf
  rw [fX6_advances_0] at hf
  refine rg_aload_n (pc := 0) C 0 rfl rfl dX6_advances_0 ?_
  refine rg_aload_n (pc := 1) C 0 rfl rfl dX6_advances_1 ?_
  refine rg_get (pc := 2) C 134 6 3 kd_134 (by decide) rfl inlX6 (by decide) wd_599 rfl dX6_advances_2 ?_
  obtain ⟨r1, w2, e3, hf⟩ := ra_bd hf
  refine rg_callVI (pc := 5) (As := [.int (w 134 3)]) (st := []) C (kX6_letterAt (zl Z) (zG Z) C.hj k _ _ _ _ e3) kd_134 (by decide) rfl ysX6_letterAt rfl wd_692 ⟨Nat.le_of_ble_eq_true rfl, Nat.le_of_ble_eq_true rfl⟩ rfl (Nat.le_of_ble_eq_true rfl) dX6_advances_5 ?_
  refine rg_bipush (pc := 8) (v := 32) C dX6_advances_8 (by decide) ?_
  refine rg_icmp_ne (pc := 10) (tgt := 26) C dX6_advances_10 (by decide) (fun c4 => ?_) (fun c4 => ?_)
  · replace hf := ra_f hf c4
    refine rg_aload_n (pc := 26) C 0 rfl rfl dX6_advances_26 ?_
    refine rg_aload_n (pc := 27) C 0 rfl rfl dX6_advances_27 ?_
    refine rg_get (pc := 28) C 134 6 3 kd_134 (by decide) rfl inlX6 (by decide) wd_599 rfl dX6_advances_28 ?_
    refine rg_put (pc := 31) C 134 6 5 kd_134 (by decide) rfl inlX6 tyX6 tyX6_ok nmX6 (by decide) wd_601 rfl rfl rfl (Nat.le_of_ble_eq_true rfl) rfl dX6_advances_31 ?_
    refine rg_aload_n (pc := 34) C 0 rfl rfl dX6_advances_34 ?_
    refine rg_aload_n (pc := 35) C 0 rfl rfl dX6_advances_35 ?_
    refine rg_get (pc := 36) C 134 6 3 kd_134 (by decide) rfl inlX6 (by decide) wd_599 rfl dX6_advances_36 ?_
    obtain ⟨r5, w6, e7, hf⟩ := ra_bd hf
    refine rg_callVI (pc := 39) (As := [.int ((ra_st w2 134 5 (w2 134 3)) 134 3)]) (st := []) C (kX6_letterAt (zl Z) (zG Z) C.hj k _ _ _ _ e7) kd_134 (by decide) rfl ysX6_letterAt rfl wd_692 ⟨Nat.le_of_ble_eq_true rfl, Nat.le_of_ble_eq_true rfl⟩ rfl (Nat.le_of_ble_eq_true rfl) dX6_advances_39 ?_
    refine rg_istore_n (pc := 42) (lv' := [(0, .ref ((zG Z).1 134)), (1, .int r5)]) C [1, 0] rfl rfl (by decide) dX6_advances_42 ?_
    refine rg_iload_n (pc := 43) C 1 rfl rfl dX6_advances_43 ?_
    refine rg_if_ge (pc := 44) (tgt := 55) C dX6_advances_44 (by decide) (fun c8 => ?_) (fun c8 => ?_)
    · replace hf := ra_t hf c8
      refine rg_iload_n (pc := 55) C 1 rfl rfl dX6_advances_55 ?_
      refine rg_bipush (pc := 56) (v := 48) C dX6_advances_56 (by decide) ?_
      refine rg_bipush (pc := 58) (v := 57) C dX6_advances_58 (by decide) ?_
      obtain ⟨r9, w10, e11, hf⟩ := ra_bd hf
      refine rg_callSI (pc := 60) (As := [.int r5, .int 48, .int 57]) (st := []) C (kX6_in (zl Z) (zG Z) C.hj k _ _ _ _ _ _ e11) ysX6_in rfl wd_677 ⟨Nat.le_of_ble_eq_true rfl, Nat.le_of_ble_eq_true rfl⟩ rfl (Nat.le_of_ble_eq_true rfl) dX6_advances_60 ?_
      refine rg_if_eq (pc := 63) (tgt := 181) C dX6_advances_63 (by decide) (fun c12 => ?_) (fun c12 => ?_)
      · replace hf := ra_t hf c12
        refine rg_aload_n (pc := 181) C 0 rfl rfl dX6_advances_181 ?_
        refine rg_dup (pc := 182) C rfl dX6_advances_182 ?_
        refine rg_get (pc := 183) C 134 6 3 kd_134 (by decide) rfl inlX6 (by decide) wd_599 rfl dX6_advances_183 ?_
        refine rg_iconst (pc := 186) (v := 1) C dX6_advances_186 (by decide) ?_
        refine rg_iadd (pc := 187) C dX6_advances_187 ?_
        refine rg_put (pc := 188) C 134 6 3 kd_134 (by decide) rfl inlX6 tyX6 tyX6_ok nmX6 (by decide) wd_599 rfl rfl rfl (Nat.le_of_ble_eq_true rfl) rfl dX6_advances_188 ?_
        refine rg_aload_n (pc := 191) C 0 rfl rfl dX6_advances_191 ?_
        refine rg_iload_n (pc := 192) C 1 rfl rfl dX6_advances_192 ?_
        refine rg_put (pc := 193) C 134 6 6 kd_134 (by decide) rfl inlX6 tyX6 tyX6_ok nmX6 (by decide) wd_602 rfl rfl rfl (Nat.le_of_ble_eq_true rfl) rfl dX6_advances_193 ?_
        refine rg_aload_n (pc := 196) C 0 rfl rfl dX6_advances_196 ?_
        refine rg_iload_n (pc := 197) C 1 rfl rfl dX6_advances_197 ?_
        refine rg_bipush (pc := 198) (v := 59) C dX6_advances_198 (by decide) ?_
        refine rg_icmp_ne (pc := 200) (tgt := 207) C dX6_advances_200 (by decide) (fun c13 => ?_) (fun c13 => ?_)
        · replace hf := ra_f hf c13
          refine rg_iload_n (pc := 207) C 1 rfl rfl dX6_advances_207 ?_
          refine rg_bipush (pc := 208) (v := 99) C dX6_advances_208 (by decide) ?_
          refine rg_icmp_eq (pc := 210) (tgt := 231) C dX6_advances_210 (by decide) (fun c14 => ?_) (fun c14 => ?_)
          · replace hf := ra_t hf c14
            refine rg_sub [0] rfl ?_
            exact ih6 _ _ _ hf
          · replace hf := ra_f hf c14
            refine rg_iload_n (pc := 213) C 1 rfl rfl dX6_advances_213 ?_
            refine rg_bipush (pc := 214) (v := 97) C dX6_advances_214 (by decide) ?_
            refine rg_icmp_eq (pc := 216) (tgt := 231) C dX6_advances_216 (by decide) (fun c15 => ?_) (fun c15 => ?_)
            · replace hf := ra_t hf c15
              refine rg_sub [0] rfl ?_
              exact ih6 _ _ _ hf
            · replace hf := ra_f hf c15
              refine rg_iload_n (pc := 219) C 1 rfl rfl dX6_advances_219 ?_
              refine rg_bipush (pc := 220) (v := 119) C dX6_advances_220 (by decide) ?_
              refine rg_icmp_eq (pc := 222) (tgt := 231) C dX6_advances_222 (by decide) (fun c16 => ?_) (fun c16 => ?_)
              · replace hf := ra_t hf c16
                refine rg_sub [0] rfl ?_
                exact ih6 _ _ _ hf
              · replace hf := ra_f hf c16
                refine rg_iload_n (pc := 225) C 1 rfl rfl dX6_advances_225 ?_
                refine rg_bipush (pc := 226) (v := 114) C dX6_advances_226 (by decide) ?_
                refine rg_icmp_ne (pc := 228) (tgt := 235) C dX6_advances_228 (by decide) (fun c17 => ?_) (fun c17 => ?_)
                · replace hf := ra_f hf c17
                  refine rg_iconst (pc := 235) (v := 4) C dX6_advances_235 (by decide) ?_
                  refine rg_sub [0] rfl ?_
                  exact ih7 _ _ _ hf
                · replace hf := ra_t hf c17
                  refine rg_sub [0] rfl ?_
                  exact ih6 _ _ _ hf
        · replace hf := ra_t hf c13
          refine rg_iconst (pc := 203) (v := 3) C dX6_advances_203 (by decide) ?_
          refine rg_goto (pc := 204) (tgt := 236) C dX6_advances_204 (by decide) ?_
          refine rg_sub [0] rfl ?_
          exact ih7 _ _ _ hf
      · replace hf := ra_f hf c12
        refine rg_aload_n (pc := 66) C 0 rfl rfl dX6_advances_66 ?_
        refine rg_iconst (pc := 67) (v := 0) C dX6_advances_67 (by decide) ?_
        refine rg_put (pc := 68) C 134 6 6 kd_134 (by decide) rfl inlX6 tyX6 tyX6_ok nmX6 (by decide) wd_602 rfl rfl rfl (Nat.le_of_ble_eq_true rfl) rfl dX6_advances_68 ?_
        exact ih1 _ _ _ hf
    · replace hf := ra_f hf c8
      refine rg_aload_n (pc := 47) C 0 rfl rfl dX6_advances_47 ?_
      refine rg_iconst (pc := 48) (v := 0) C dX6_advances_48 (by decide) ?_
      refine rg_put (pc := 49) C 134 6 4 kd_134 (by decide) rfl inlX6 tyX6 tyX6_ok nmX6 (by decide) wd_600 rfl rfl rfl (Nat.le_of_ble_eq_true rfl) rfl dX6_advances_49 ?_
      refine rg_goto (pc := 52) (tgt := 239) C dX6_advances_52 (by decide) ?_
      exact rg_vret (pc := 239) C hQ hr hf dX6_advances_239
  · replace hf := ra_t hf c4
    refine rg_aload_n (pc := 13) C 0 rfl rfl dX6_advances_13 ?_
    refine rg_dup (pc := 14) C rfl dX6_advances_14 ?_
    refine rg_get (pc := 15) C 134 6 3 kd_134 (by decide) rfl inlX6 (by decide) wd_599 rfl dX6_advances_15 ?_
    refine rg_iconst (pc := 18) (v := 1) C dX6_advances_18 (by decide) ?_
    refine rg_iadd (pc := 19) C dX6_advances_19 ?_
    refine rg_put (pc := 20) C 134 6 3 kd_134 (by decide) rfl inlX6 tyX6 tyX6_ok nmX6 (by decide) wd_599 rfl rfl rfl (Nat.le_of_ble_eq_true rfl) rfl dX6_advances_20 ?_
    refine rg_goto (pc := 23) (tgt := 0) C dX6_advances_23 (by decide) ?_
    exact ih0 _ _ _ hf
set_option maxHeartbeats 4000000 in
theorem tX6_advances_1 {Z : ra_Z} {r : Int32} {w1 : ra_W} (C : ra_C Z cX6_advances 2 RX6 1 22) (hQ : ra_QV Z r w1) (hr : (zmt Z).sig.returnType = none) (k : Nat) (n : Nat) (ih2 : pX6_advances_2 Z r w1 k n) (ih3 : pX6_advances_3 Z r w1 k n) (ih4 : pX6_advances_4 Z r w1 k n) : pX6_advances_1 Z r w1 k (n + 1) := by
  intro v1 s0 w hf
  rw [fX6_advances_1] at hf
  refine rg_aload_n (pc := 71) C 0 rfl rfl dX6_advances_71 ?_
  refine rg_aload_n (pc := 72) C 0 rfl rfl dX6_advances_72 ?_
  refine rg_get (pc := 73) C 134 6 3 kd_134 (by decide) rfl inlX6 (by decide) wd_599 rfl dX6_advances_73 ?_
  obtain ⟨r1, w2, e3, hf⟩ := ra_bd hf
  refine rg_callVI (pc := 76) (As := [.int (w 134 3)]) (st := []) C (kX6_letterAt (zl Z) (zG Z) C.hj k _ _ _ _ e3) kd_134 (by decide) rfl ysX6_letterAt rfl wd_692 ⟨Nat.le_of_ble_eq_true rfl, Nat.le_of_ble_eq_true rfl⟩ rfl (Nat.le_of_ble_eq_true rfl) dX6_advances_76 ?_
  refine rg_bipush (pc := 79) (v := 48) C dX6_advances_79 (by decide) ?_
  refine rg_bipush (pc := 81) (v := 57) C dX6_advances_81 (by decide) ?_
  obtain ⟨r4, w5, e6, hf⟩ := ra_bd hf
  refine rg_callSI (pc := 83) (As := [.int r1, .int 48, .int 57]) (st := []) C (kX6_in (zl Z) (zG Z) C.hj k _ _ _ _ _ _ e6) ysX6_in rfl wd_677 ⟨Nat.le_of_ble_eq_true rfl, Nat.le_of_ble_eq_true rfl⟩ rfl (Nat.le_of_ble_eq_true rfl) dX6_advances_83 ?_
  refine rg_if_eq (pc := 86) (tgt := 141) C dX6_advances_86 (by decide) (fun c7 => ?_) (fun c7 => ?_)
  · replace hf := ra_t hf c7
    refine rg_aload_n (pc := 141) C 0 rfl rfl dX6_advances_141 ?_
    refine rg_aload_n (pc := 142) C 0 rfl rfl dX6_advances_142 ?_
    refine rg_get (pc := 143) C 134 6 6 kd_134 (by decide) rfl inlX6 (by decide) wd_602 rfl dX6_advances_143 ?_
    refine rg_bipush (pc := 146) (v := 99) C dX6_advances_146 (by decide) ?_
    refine rg_icmp_gt (pc := 148) (tgt := 170) C dX6_advances_148 (by decide) (fun c8 => ?_) (fun c8 => ?_)
    · replace hf := ra_t hf c8
      refine rg_sub [0] rfl ?_
      exact ih3 _ _ _ hf
    · replace hf := ra_f hf c8
      refine rg_iload_n (pc := 151) C 1 rfl rfl dX6_advances_151 ?_
      refine rg_bipush (pc := 152) (v := 48) C dX6_advances_152 (by decide) ?_
      refine rg_icmp_ne (pc := 154) (tgt := 174) C dX6_advances_154 (by decide) (fun c9 => ?_) (fun c9 => ?_)
      · replace hf := ra_f hf c9
        refine rg_sub [0] rfl ?_
        exact ih4 _ _ _ hf
      · replace hf := ra_t hf c9
        refine rg_aload_n (pc := 157) C 0 rfl rfl dX6_advances_157 ?_
        refine rg_get (pc := 158) C 134 6 3 kd_134 (by decide) rfl inlX6 (by decide) wd_599 rfl dX6_advances_158 ?_
        refine rg_aload_n (pc := 161) C 0 rfl rfl dX6_advances_161 ?_
        refine rg_get (pc := 162) C 134 6 5 kd_134 (by decide) rfl inlX6 (by decide) wd_601 rfl dX6_advances_162 ?_
        refine rg_isub (pc := 165) C dX6_advances_165 ?_
        refine rg_iconst (pc := 166) (v := 1) C dX6_advances_166 (by decide) ?_
        refine rg_icmp_le (pc := 167) (tgt := 174) C dX6_advances_167 (by decide) (fun c10 => ?_) (fun c10 => ?_)
        · replace hf := ra_t hf c10
          refine rg_sub [0] rfl ?_
          exact ih4 _ _ _ hf
        · replace hf := ra_f hf c10
          refine rg_sub [0] rfl ?_
          exact ih3 _ _ _ hf
  · replace hf := ra_f hf c7
    refine rg_aload_n (pc := 89) C 0 rfl rfl dX6_advances_89 ?_
    refine rg_aload_n (pc := 90) C 0 rfl rfl dX6_advances_90 ?_
    refine rg_get (pc := 91) C 134 6 6 kd_134 (by decide) rfl inlX6 (by decide) wd_602 rfl dX6_advances_91 ?_
    refine rg_bipush (pc := 94) (v := 99) C dX6_advances_94 (by decide) ?_
    refine rg_icmp_le (pc := 96) (tgt := 106) C dX6_advances_96 (by decide) (fun c11 => ?_) (fun c11 => ?_)
    · replace hf := ra_t hf c11
      refine rg_bipush (pc := 106) (v := 10) C dX6_advances_106 (by decide) ?_
      refine rg_aload_n (pc := 108) C 0 rfl rfl dX6_advances_108 ?_
      refine rg_get (pc := 109) C 134 6 6 kd_134 (by decide) rfl inlX6 (by decide) wd_602 rfl dX6_advances_109 ?_
      refine rg_imul (pc := 112) C dX6_advances_112 ?_
      refine rg_aload_n (pc := 113) C 0 rfl rfl dX6_advances_113 ?_
      refine rg_aload_n (pc := 114) C 0 rfl rfl dX6_advances_114 ?_
      refine rg_get (pc := 115) C 134 6 3 kd_134 (by decide) rfl inlX6 (by decide) wd_599 rfl dX6_advances_115 ?_
      obtain ⟨r12, w13, e14, hf⟩ := ra_bd hf
      refine rg_callVI (pc := 118) (As := [.int (w5 134 3)]) (st := [.int (10 * (w5 134 6)), .ref ((zG Z).1 134)]) C (kX6_letterAt (zl Z) (zG Z) C.hj k _ _ _ _ e14) kd_134 (by decide) rfl ysX6_letterAt rfl wd_692 ⟨Nat.le_of_ble_eq_true rfl, Nat.le_of_ble_eq_true rfl⟩ rfl (Nat.le_of_ble_eq_true rfl) dX6_advances_118 ?_
      refine rg_iadd (pc := 121) C dX6_advances_121 ?_
      refine rg_bipush (pc := 122) (v := 48) C dX6_advances_122 (by decide) ?_
      refine rg_isub (pc := 124) C dX6_advances_124 ?_
      exact ih2 _ _ _ hf
    · replace hf := ra_f hf c11
      refine rg_aload_n (pc := 99) C 0 rfl rfl dX6_advances_99 ?_
      refine rg_get (pc := 100) C 134 6 6 kd_134 (by decide) rfl inlX6 (by decide) wd_602 rfl dX6_advances_100 ?_
      refine rg_goto (pc := 103) (tgt := 125) C dX6_advances_103 (by decide) ?_
      exact ih2 _ _ _ hf
set_option maxHeartbeats 4000000 in
theorem tX6_advances_2 {Z : ra_Z} {r : Int32} {w1 : ra_W} (C : ra_C Z cX6_advances 2 RX6 1 22) (hQ : ra_QV Z r w1) (hr : (zmt Z).sig.returnType = none) (k : Nat) (n : Nat) (ih1 : pX6_advances_1 Z r w1 k n) : pX6_advances_2 Z r w1 k (n + 1) := by
  intro v1 s0 w hf
  rw [fX6_advances_2] at hf
  refine rg_put (pc := 125) C 134 6 6 kd_134 (by decide) rfl inlX6 tyX6 tyX6_ok nmX6 (by decide) wd_602 rfl rfl rfl (Nat.le_of_ble_eq_true rfl) rfl dX6_advances_125 ?_
  refine rg_aload_n (pc := 128) C 0 rfl rfl dX6_advances_128 ?_
  refine rg_dup (pc := 129) C rfl dX6_advances_129 ?_
  refine rg_get (pc := 130) C 134 6 3 kd_134 (by decide) rfl inlX6 (by decide) wd_599 rfl dX6_advances_130 ?_
  refine rg_iconst (pc := 133) (v := 1) C dX6_advances_133 (by decide) ?_
  refine rg_iadd (pc := 134) C dX6_advances_134 ?_
  refine rg_put (pc := 135) C 134 6 3 kd_134 (by decide) rfl inlX6 tyX6 tyX6_ok nmX6 (by decide) wd_599 rfl rfl rfl (Nat.le_of_ble_eq_true rfl) rfl dX6_advances_135 ?_
  refine rg_goto (pc := 138) (tgt := 71) C dX6_advances_138 (by decide) ?_
  exact ih1 _ _ _ hf
set_option maxHeartbeats 4000000 in
theorem tX6_advances_3 {Z : ra_Z} {r : Int32} {w1 : ra_W} (C : ra_C Z cX6_advances 2 RX6 1 22) (hQ : ra_QV Z r w1) (hr : (zmt Z).sig.returnType = none) (k : Nat) (n : Nat) (ih5 : pX6_advances_5 Z r w1 k n) : pX6_advances_3 Z r w1 k (n + 1) := by
  intro v1 s0 w hf
  rw [fX6_advances_3] at hf
  refine rg_iconst (pc := 170) (v := 4) C dX6_advances_170 (by decide) ?_
  refine rg_goto (pc := 171) (tgt := 175) C dX6_advances_171 (by decide) ?_
  exact ih5 _ _ _ hf
set_option maxHeartbeats 4000000 in
theorem tX6_advances_4 {Z : ra_Z} {r : Int32} {w1 : ra_W} (C : ra_C Z cX6_advances 2 RX6 1 22) (hQ : ra_QV Z r w1) (hr : (zmt Z).sig.returnType = none) (k : Nat) (n : Nat) (ih5 : pX6_advances_5 Z r w1 k n) : pX6_advances_4 Z r w1 k (n + 1) := by
  intro v1 s0 w hf
  rw [fX6_advances_4] at hf
  refine rg_iconst (pc := 174) (v := 2) C dX6_advances_174 (by decide) ?_
  exact ih5 _ _ _ hf
set_option maxHeartbeats 4000000 in
theorem tX6_advances_5 {Z : ra_Z} {r : Int32} {w1 : ra_W} (C : ra_C Z cX6_advances 2 RX6 1 22) (hQ : ra_QV Z r w1) (hr : (zmt Z).sig.returnType = none) (k : Nat) (n : Nat) : pX6_advances_5 Z r w1 k (n + 1) := by
  intro v1 s0 w hf
  rw [fX6_advances_5] at hf
  refine rg_put (pc := 175) C 134 6 4 kd_134 (by decide) rfl inlX6 tyX6 tyX6_ok nmX6 (by decide) wd_600 rfl rfl rfl (Nat.le_of_ble_eq_true rfl) rfl dX6_advances_175 ?_
  refine rg_goto (pc := 178) (tgt := 239) C dX6_advances_178 (by decide) ?_
  exact rg_vret (pc := 239) C hQ hr hf dX6_advances_239
set_option maxHeartbeats 4000000 in
theorem tX6_advances_6 {Z : ra_Z} {r : Int32} {w1 : ra_W} (C : ra_C Z cX6_advances 2 RX6 1 22) (hQ : ra_QV Z r w1) (hr : (zmt Z).sig.returnType = none) (k : Nat) (n : Nat) (ih7 : pX6_advances_7 Z r w1 k n) : pX6_advances_6 Z r w1 k (n + 1) := by
  intro v1 s0 w hf
  rw [fX6_advances_6] at hf
  refine rg_iconst (pc := 231) (v := 1) C dX6_advances_231 (by decide) ?_
  refine rg_goto (pc := 232) (tgt := 236) C dX6_advances_232 (by decide) ?_
  exact ih7 _ _ _ hf
set_option maxHeartbeats 4000000 in
theorem tX6_advances_7 {Z : ra_Z} {r : Int32} {w1 : ra_W} (C : ra_C Z cX6_advances 2 RX6 1 22) (hQ : ra_QV Z r w1) (hr : (zmt Z).sig.returnType = none) (k : Nat) (n : Nat) : pX6_advances_7 Z r w1 k (n + 1) := by
  intro v1 s0 w hf
  rw [fX6_advances_7] at hf
  refine rg_put (pc := 236) C 134 6 4 kd_134 (by decide) rfl inlX6 tyX6 tyX6_ok nmX6 (by decide) wd_600 rfl rfl rfl (Nat.le_of_ble_eq_true rfl) rfl dX6_advances_236 ?_
  exact rg_vret (pc := 239) C hQ hr hf dX6_advances_239
theorem tX6_advances {Z : ra_Z} {r : Int32} {w1 : ra_W} (C : ra_C Z cX6_advances 2 RX6 1 22) (hQ : ra_QV Z r w1) (hr : (zmt Z).sig.returnType = none) (k : Nat) : ∀ n : Nat, pX6_advances_0 Z r w1 k n ∧ pX6_advances_1 Z r w1 k n ∧ pX6_advances_2 Z r w1 k n ∧ pX6_advances_3 Z r w1 k n ∧ pX6_advances_4 Z r w1 k n ∧ pX6_advances_5 Z r w1 k n ∧ pX6_advances_6 Z r w1 k n ∧ pX6_advances_7 Z r w1 k n := by
  intro n
  induction n with
  | zero => exact ⟨(fun _ _ _ h => by cases h), (fun _ _ _ h => by cases h), (fun _ _ _ h => by cases h), (fun _ _ _ h => by cases h), (fun _ _ _ h => by cases h), (fun _ _ _ h => by cases h), (fun _ _ _ h => by cases h), (fun _ _ _ h => by cases h)⟩
  | succ n ih =>
    obtain ⟨ih0, ih1, ih2, ih3, ih4, ih5, ih6, ih7⟩ := ih
    exact ⟨tX6_advances_0 C hQ hr k n ih0 ih1 ih6 ih7, tX6_advances_1 C hQ hr k n ih2 ih3 ih4, tX6_advances_2 C hQ hr k n ih1, tX6_advances_3 C hQ hr k n ih5, tX6_advances_4 C hQ hr k n ih5, tX6_advances_5 C hQ hr k n, tX6_advances_6 C hQ hr k n ih7, tX6_advances_7 C hQ hr k n⟩
theorem kX6_advances (l : Launch) (G : ra_G) (hj : ra_inj G) (k : Nat)  (w : ra_W) (r : Int32) (w1 : ra_W) (h : FX6_advances k  w = some (r, w1)) : ra_MV l G yX6_advances cX6_advances 2 none 1 22 [.ref (G.1 134)] w r w1 :=
  ra_entryV (own := RX6) (by decide) rfl (Nat.le_of_ble_eq_true rfl) hj (fun Z hl hG C hQ hr => by subst hl; subst hG; exact (tX6_advances C hQ hr k k).1 _ _ _ h)
theorem ysX6_advances : ra_YV yX6_advances cX6_advances 2 none 0 RX6 := ⟨⟨wd_7, wd_691, by decide, by decide, by decide⟩, wd_690, wp_21⟩
/-- TrunkRadioModel.isWell -/
def fX6_isWell (k : Nat) : Nat → Nat → ra_W → Option (Int32 × ra_W)
  | 0, _, _ => none
  | n + 1, L, w => match L with
    | _ => if 0 ≤ (w 134 7) then (some (0, w)) else (some (1, w))
theorem fX6_isWell_0 (k : Nat) (n : Nat)  (w : ra_W) : fX6_isWell k (n + 1) 0  w = (if 0 ≤ (w 134 7) then (some (0, w)) else (some (1, w))) := rfl
def FX6_isWell (k : Nat)  (w : ra_W) : Option (Int32 × ra_W) := fX6_isWell k k 0  w
def pX6_isWell_0 (Z : ra_Z) (r : Int32) (w1 : ra_W) (k : Nat) (n : Nat) : Prop := ∀  (w : ra_W), fX6_isWell k n 0  w = some (r, w1) → ra_J Z 1 0 [(0, .ref ((zG Z).1 134))] [] w
set_option maxHeartbeats 4000000 in
theorem tX6_isWell_0 {Z : ra_Z} {r : Int32} {w1 : ra_W} (C : ra_C Z cX6_isWell 1 RX6 0 0) (hQ : ra_QI Z r w1) (hr : (zmt Z).sig.returnType = (some .boolean)) (k : Nat) (n : Nat) : pX6_isWell_0 Z r w1 k (n + 1) := by
  intro w hf
  rw [fX6_isWell_0] at hf
  refine rg_aload_n (pc := 0) C 0 rfl rfl dX6_isWell_0 ?_
  refine rg_get (pc := 1) C 134 6 7 kd_134 (by decide) rfl inlX6 (by decide) wd_603 rfl dX6_isWell_1 ?_
  refine rg_if_ge (pc := 4) (tgt := 11) C dX6_isWell_4 (by decide) (fun c1 => ?_) (fun c1 => ?_)
  · replace hf := ra_t hf c1
    refine rg_iconst (pc := 11) (v := 0) C dX6_isWell_11 (by decide) ?_
    exact rg_zret (pc := 12) C hQ hr (by decide) hf dX6_isWell_12
  · replace hf := ra_f hf c1
    refine rg_iconst (pc := 7) (v := 1) C dX6_isWell_7 (by decide) ?_
    refine rg_goto (pc := 8) (tgt := 12) C dX6_isWell_8 (by decide) ?_
    exact rg_zret (pc := 12) C hQ hr (by decide) hf dX6_isWell_12
theorem tX6_isWell {Z : ra_Z} {r : Int32} {w1 : ra_W} (C : ra_C Z cX6_isWell 1 RX6 0 0) (hQ : ra_QI Z r w1) (hr : (zmt Z).sig.returnType = (some .boolean)) (k : Nat) : ∀ n : Nat, pX6_isWell_0 Z r w1 k n := by
  intro n
  induction n with
  | zero => exact (fun _ h => by cases h)
  | succ n ih => exact tX6_isWell_0 C hQ hr k n
theorem kX6_isWell (l : Launch) (G : ra_G) (hj : ra_inj G) (k : Nat)  (w : ra_W) (r : Int32) (w1 : ra_W) (h : FX6_isWell k  w = some (r, w1)) : ra_MI l G yX6_isWell cX6_isWell 1 (some .boolean) 0 0 [.ref (G.1 134)] w r w1 :=
  ra_entryI (own := RX6) (by decide) rfl (Nat.le_of_ble_eq_true rfl) hj (fun Z hl hG C hQ hr => by subst hl; subst hG; exact (tX6_isWell C hQ hr k k) _ h)
theorem ysX6_isWell : ra_YV yX6_isWell cX6_isWell 1 (some .boolean) 0 RX6 := ⟨⟨wd_7, wd_699, by decide, by decide, by decide⟩, wd_698, wp_23⟩
/-- TrunkRadioModel.takes -/
def fX6_takes (k : Nat) : Nat → Nat → Int32 → ra_W → Option (Int32 × ra_W)
  | 0, _, _, _ => none
  | n + 1, L, v1, w => match L with
    | _ => ra_bind (FX6_isWell k w) (fun r1 w2 => if r1 = 0 then (some (0, w2)) else (if v1 = 0 then (some (0, (ra_st w2 134 7 (w2 134 5)))) else (ra_bind (FX6_advances k w2) (fun _ w7 => some ((w2 134 6), w7)))))
theorem fX6_takes_0 (k : Nat) (n : Nat) (v1 : Int32) (w : ra_W) : fX6_takes k (n + 1) 0 v1 w = (ra_bind (FX6_isWell k w) (fun r1 w2 => if r1 = 0 then (some (0, w2)) else (if v1 = 0 then (some (0, (ra_st w2 134 7 (w2 134 5)))) else (ra_bind (FX6_advances k w2) (fun _ w7 => some ((w2 134 6), w7)))))) := rfl
def FX6_takes (k : Nat) (v1 : Int32) (w : ra_W) : Option (Int32 × ra_W) := fX6_takes k k 0 v1 w
def pX6_takes_0 (Z : ra_Z) (r : Int32) (w1 : ra_W) (k : Nat) (n : Nat) : Prop := ∀ (v1 : Int32) (w : ra_W), fX6_takes k n 0 v1 w = some (r, w1) → ra_J Z 3 0 [(0, .ref ((zG Z).1 134)), (1, .int v1)] [] w
set_option maxHeartbeats 4000000 in
theorem tX6_takes_0 {Z : ra_Z} {r : Int32} {w1 : ra_W} (C : ra_C Z cX6_takes 3 RX6 2 43) (hQ : ra_QI Z r w1) (hr : (zmt Z).sig.returnType = (some .int)) (k : Nat) (n : Nat) : pX6_takes_0 Z r w1 k (n + 1) := by
  intro v1 w hf
  rw [fX6_takes_0] at hf
  refine rg_aload_n (pc := 0) C 0 rfl rfl dX6_takes_0 ?_
  obtain ⟨r1, w2, e3, hf⟩ := ra_bd hf
  refine rg_callVI (pc := 1) (As := []) (st := []) C (kX6_isWell (zl Z) (zG Z) C.hj k _ _ _ e3) kd_134 (by decide) rfl ysX6_isWell rfl wd_696 ⟨Nat.le_of_ble_eq_true rfl, Nat.le_of_ble_eq_true rfl⟩ rfl (Nat.le_of_ble_eq_true rfl) dX6_takes_1 ?_
  refine rg_if_ne (pc := 4) (tgt := 9) C dX6_takes_4 (by decide) (fun c4 => ?_) (fun c4 => ?_)
  · replace hf := ra_f hf c4
    refine rg_iload_n (pc := 9) C 1 rfl rfl dX6_takes_9 ?_
    refine rg_if_ne (pc := 10) (tgt := 23) C dX6_takes_10 (by decide) (fun c5 => ?_) (fun c5 => ?_)
    · replace hf := ra_f hf c5
      refine rg_aload_n (pc := 23) C 0 rfl rfl dX6_takes_23 ?_
      refine rg_get (pc := 24) C 134 6 6 kd_134 (by decide) rfl inlX6 (by decide) wd_602 rfl dX6_takes_24 ?_
      refine rg_istore_n (pc := 27) (lv' := [(0, .ref ((zG Z).1 134)), (1, .int v1), (2, .int (w2 134 6))]) C [1, 2, 0] rfl rfl (by decide) dX6_takes_27 ?_
      refine rg_aload_n (pc := 28) C 0 rfl rfl dX6_takes_28 ?_
      obtain ⟨r6, w7, e8, hf⟩ := ra_bd hf
      refine rg_callVV (pc := 29) (As := []) (st := []) C (kX6_advances (zl Z) (zG Z) C.hj k _ _ _ e8) kd_134 (by decide) rfl ysX6_advances rfl wd_688 ⟨Nat.le_of_ble_eq_true rfl, Nat.le_of_ble_eq_true rfl⟩ rfl (Nat.le_of_ble_eq_true rfl) dX6_takes_29 ?_
      refine rg_iload_n (pc := 32) C 2 rfl rfl dX6_takes_32 ?_
      exact rg_iret (pc := 33) C hQ hr hf dX6_takes_33
    · replace hf := ra_t hf c5
      refine rg_aload_n (pc := 13) C 0 rfl rfl dX6_takes_13 ?_
      refine rg_aload_n (pc := 14) C 0 rfl rfl dX6_takes_14 ?_
      refine rg_get (pc := 15) C 134 6 5 kd_134 (by decide) rfl inlX6 (by decide) wd_601 rfl dX6_takes_15 ?_
      refine rg_put (pc := 18) C 134 6 7 kd_134 (by decide) rfl inlX6 tyX6 tyX6_ok nmX6 (by decide) wd_603 rfl rfl rfl (Nat.le_of_ble_eq_true rfl) rfl dX6_takes_18 ?_
      refine rg_iconst (pc := 21) (v := 0) C dX6_takes_21 (by decide) ?_
      exact rg_iret (pc := 22) C hQ hr hf dX6_takes_22
  · replace hf := ra_t hf c4
    refine rg_iconst (pc := 7) (v := 0) C dX6_takes_7 (by decide) ?_
    exact rg_iret (pc := 8) C hQ hr hf dX6_takes_8
theorem tX6_takes {Z : ra_Z} {r : Int32} {w1 : ra_W} (C : ra_C Z cX6_takes 3 RX6 2 43) (hQ : ra_QI Z r w1) (hr : (zmt Z).sig.returnType = (some .int)) (k : Nat) : ∀ n : Nat, pX6_takes_0 Z r w1 k n := by
  intro n
  induction n with
  | zero => exact (fun _ _ h => by cases h)
  | succ n ih => exact tX6_takes_0 C hQ hr k n
theorem kX6_takes (l : Launch) (G : ra_G) (hj : ra_inj G) (k : Nat) (v1 : Int32) (w : ra_W) (r : Int32) (w1 : ra_W) (h : FX6_takes k v1 w = some (r, w1)) : ra_MI l G yX6_takes cX6_takes 3 (some .int) 2 43 [.ref (G.1 134), .int v1] w r w1 :=
  ra_entryI (own := RX6) (by decide) rfl (Nat.le_of_ble_eq_true rfl) hj (fun Z hl hG C hQ hr => by subst hl; subst hG; exact (tX6_takes C hQ hr k k) _ _ h)
theorem ysX6_takes : ra_YV yX6_takes cX6_takes 3 (some .int) 1 RX6 := ⟨⟨wd_7, wd_710, by decide, by decide, by decide⟩, wd_709, wp_25⟩
/-- TrunkRadioModel.number -/
def fX6_number (k : Nat) : Nat → Nat → Int32 → Int32 → Int32 → ra_W → Option (Int32 × ra_W)
  | 0, _, _, _, _, _ => none
  | n + 1, L, v1, v2, s0, w => match L with
    | 0 => if (w 134 4) = 2 then (ra_bind (FX6_in k (w 134 6) v1 v2 w) (fun r2 w3 => if r2 = 0 then (fX6_number k n 1 0 0 0 w3) else (fX6_number k n 2 0 0 1 w3))) else (fX6_number k n 1 0 0 0 w)
    | 1 => fX6_number k n 2 0 0 0 w
    | _ => ra_bind (FX6_takes k s0 w) (fun r1 w2 => some (r1, w2))
theorem fX6_number_0 (k : Nat) (n : Nat) (v1 : Int32) (v2 : Int32) (s0 : Int32) (w : ra_W) : fX6_number k (n + 1) 0 v1 v2 s0 w = (if (w 134 4) = 2 then (ra_bind (FX6_in k (w 134 6) v1 v2 w) (fun r2 w3 => if r2 = 0 then (fX6_number k n 1 0 0 0 w3) else (fX6_number k n 2 0 0 1 w3))) else (fX6_number k n 1 0 0 0 w)) := rfl
theorem fX6_number_1 (k : Nat) (n : Nat) (v1 : Int32) (v2 : Int32) (s0 : Int32) (w : ra_W) : fX6_number k (n + 1) 1 v1 v2 s0 w = (fX6_number k n 2 0 0 0 w) := rfl
theorem fX6_number_2 (k : Nat) (n : Nat) (v1 : Int32) (v2 : Int32) (s0 : Int32) (w : ra_W) : fX6_number k (n + 1) 2 v1 v2 s0 w = (ra_bind (FX6_takes k s0 w) (fun r1 w2 => some (r1, w2))) := rfl
def FX6_number (k : Nat) (v1 : Int32) (v2 : Int32) (w : ra_W) : Option (Int32 × ra_W) := fX6_number k k 0 v1 v2 0 w
def pX6_number_0 (Z : ra_Z) (r : Int32) (w1 : ra_W) (k : Nat) (n : Nat) : Prop := ∀ (v1 : Int32) (v2 : Int32) (s0 : Int32) (w : ra_W), fX6_number k n 0 v1 v2 s0 w = some (r, w1) → ra_J Z 3 0 [(0, .ref ((zG Z).1 134)), (1, .int v1), (2, .int v2)] [] w
def pX6_number_1 (Z : ra_Z) (r : Int32) (w1 : ra_W) (k : Nat) (n : Nat) : Prop := ∀ (v1 : Int32) (v2 : Int32) (s0 : Int32) (w : ra_W), fX6_number k n 1 v1 v2 s0 w = some (r, w1) → ra_J Z 3 25 [(0, .ref ((zG Z).1 134))] [.ref ((zG Z).1 134)] w
def pX6_number_2 (Z : ra_Z) (r : Int32) (w1 : ra_W) (k : Nat) (n : Nat) : Prop := ∀ (v1 : Int32) (v2 : Int32) (s0 : Int32) (w : ra_W), fX6_number k n 2 v1 v2 s0 w = some (r, w1) → ra_J Z 3 26 [(0, .ref ((zG Z).1 134))] [.int s0, .ref ((zG Z).1 134)] w
set_option maxHeartbeats 4000000 in
theorem tX6_number_0 {Z : ra_Z} {r : Int32} {w1 : ra_W} (C : ra_C Z cX6_number 3 RX6 3 65) (hQ : ra_QI Z r w1) (hr : (zmt Z).sig.returnType = (some .int)) (k : Nat) (n : Nat) (ih1 : pX6_number_1 Z r w1 k n) (ih2 : pX6_number_2 Z r w1 k n) : pX6_number_0 Z r w1 k (n + 1) := by
  intro v1 v2 s0 w hf
  rw [fX6_number_0] at hf
  refine rg_aload_n (pc := 0) C 0 rfl rfl dX6_number_0 ?_
  refine rg_aload_n (pc := 1) C 0 rfl rfl dX6_number_1 ?_
  refine rg_get (pc := 2) C 134 6 4 kd_134 (by decide) rfl inlX6 (by decide) wd_600 rfl dX6_number_2 ?_
  refine rg_iconst (pc := 5) (v := 2) C dX6_number_5 (by decide) ?_
  refine rg_icmp_ne (pc := 6) (tgt := 25) C dX6_number_6 (by decide) (fun c1 => ?_) (fun c1 => ?_)
  · replace hf := ra_f hf c1
    refine rg_sub [0] rfl ?_
    exact ih1 _ _ _ _ hf
  · replace hf := ra_t hf c1
    refine rg_aload_n (pc := 9) C 0 rfl rfl dX6_number_9 ?_
    refine rg_get (pc := 10) C 134 6 6 kd_134 (by decide) rfl inlX6 (by decide) wd_602 rfl dX6_number_10 ?_
    refine rg_iload_n (pc := 13) C 1 rfl rfl dX6_number_13 ?_
    refine rg_iload_n (pc := 14) C 2 rfl rfl dX6_number_14 ?_
    obtain ⟨r2, w3, e4, hf⟩ := ra_bd hf
    refine rg_callSI (pc := 15) (As := [.int (w 134 6), .int v1, .int v2]) (st := [.ref ((zG Z).1 134)]) C (kX6_in (zl Z) (zG Z) C.hj k _ _ _ _ _ _ e4) ysX6_in rfl wd_677 ⟨Nat.le_of_ble_eq_true rfl, Nat.le_of_ble_eq_true rfl⟩ rfl (Nat.le_of_ble_eq_true rfl) dX6_number_15 ?_
    refine rg_if_eq (pc := 18) (tgt := 25) C dX6_number_18 (by decide) (fun c5 => ?_) (fun c5 => ?_)
    · replace hf := ra_t hf c5
      refine rg_sub [0] rfl ?_
      exact ih1 _ _ _ _ hf
    · replace hf := ra_f hf c5
      refine rg_iconst (pc := 21) (v := 1) C dX6_number_21 (by decide) ?_
      refine rg_goto (pc := 22) (tgt := 26) C dX6_number_22 (by decide) ?_
      refine rg_sub [0] rfl ?_
      exact ih2 _ _ _ _ hf
set_option maxHeartbeats 4000000 in
theorem tX6_number_1 {Z : ra_Z} {r : Int32} {w1 : ra_W} (C : ra_C Z cX6_number 3 RX6 3 65) (hQ : ra_QI Z r w1) (hr : (zmt Z).sig.returnType = (some .int)) (k : Nat) (n : Nat) (ih2 : pX6_number_2 Z r w1 k n) : pX6_number_1 Z r w1 k (n + 1) := by
  intro v1 v2 s0 w hf
  rw [fX6_number_1] at hf
  refine rg_iconst (pc := 25) (v := 0) C dX6_number_25 (by decide) ?_
  exact ih2 _ _ _ _ hf
set_option maxHeartbeats 4000000 in
theorem tX6_number_2 {Z : ra_Z} {r : Int32} {w1 : ra_W} (C : ra_C Z cX6_number 3 RX6 3 65) (hQ : ra_QI Z r w1) (hr : (zmt Z).sig.returnType = (some .int)) (k : Nat) (n : Nat) : pX6_number_2 Z r w1 k (n + 1) := by
  intro v1 v2 s0 w hf
  rw [fX6_number_2] at hf
  obtain ⟨r1, w2, e3, hf⟩ := ra_bd hf
  refine rg_callVI (pc := 26) (As := [.int s0]) (st := []) C (kX6_takes (zl Z) (zG Z) C.hj k _ _ _ _ e3) kd_134 (by decide) rfl ysX6_takes rfl wd_707 ⟨Nat.le_of_ble_eq_true rfl, Nat.le_of_ble_eq_true rfl⟩ rfl (Nat.le_of_ble_eq_true rfl) dX6_number_26 ?_
  exact rg_iret (pc := 29) C hQ hr hf dX6_number_29
theorem tX6_number {Z : ra_Z} {r : Int32} {w1 : ra_W} (C : ra_C Z cX6_number 3 RX6 3 65) (hQ : ra_QI Z r w1) (hr : (zmt Z).sig.returnType = (some .int)) (k : Nat) : ∀ n : Nat, pX6_number_0 Z r w1 k n ∧ pX6_number_1 Z r w1 k n ∧ pX6_number_2 Z r w1 k n := by
  intro n
  induction n with
  | zero => exact ⟨(fun _ _ _ _ h => by cases h), (fun _ _ _ _ h => by cases h), (fun _ _ _ _ h => by cases h)⟩
  | succ n ih =>
    obtain ⟨ih0, ih1, ih2⟩ := ih
    exact ⟨tX6_number_0 C hQ hr k n ih1 ih2, tX6_number_1 C hQ hr k n ih2, tX6_number_2 C hQ hr k n⟩
theorem kX6_number (l : Launch) (G : ra_G) (hj : ra_inj G) (k : Nat) (v1 : Int32) (v2 : Int32) (w : ra_W) (r : Int32) (w1 : ra_W) (h : FX6_number k v1 v2 w = some (r, w1)) : ra_MI l G yX6_number cX6_number 3 (some .int) 3 65 [.ref (G.1 134), .int v1, .int v2] w r w1 :=
  ra_entryI (own := RX6) (by decide) rfl (Nat.le_of_ble_eq_true rfl) hj (fun Z hl hG C hQ hr => by subst hl; subst hG; exact (tX6_number C hQ hr k k).1 _ _ _ _ h)
theorem ysX6_number : ra_YV yX6_number cX6_number 3 (some .int) 2 RX6 := ⟨⟨wd_7, wd_718, by decide, by decide, by decide⟩, wd_717, wp_27⟩
/-- TrunkRadioModel.bitOf -/
def fX6_bitOf (k : Nat) : Nat → Nat → Int32 → ra_W → Option (Int32 × ra_W)
  | 0, _, _, _ => none
  | n + 1, L, v0, w => match L with
    | _ => if v0 = 99 then (some (1, w)) else (if v0 = 97 then (some (2, w)) else (some (4, w)))
theorem fX6_bitOf_0 (k : Nat) (n : Nat) (v0 : Int32) (w : ra_W) : fX6_bitOf k (n + 1) 0 v0 w = (if v0 = 99 then (some (1, w)) else (if v0 = 97 then (some (2, w)) else (some (4, w)))) := rfl
def FX6_bitOf (k : Nat) (v0 : Int32) (w : ra_W) : Option (Int32 × ra_W) := fX6_bitOf k k 0 v0 w
def pX6_bitOf_0 (Z : ra_Z) (r : Int32) (w1 : ra_W) (k : Nat) (n : Nat) : Prop := ∀ (v0 : Int32) (w : ra_W), fX6_bitOf k n 0 v0 w = some (r, w1) → ra_J Z 1 0 [(0, .int v0)] [] w
set_option maxHeartbeats 4000000 in
theorem tX6_bitOf_0 {Z : ra_Z} {r : Int32} {w1 : ra_W} (C : ra_C Z cX6_bitOf 1 RX6 0 0) (hQ : ra_QI Z r w1) (hr : (zmt Z).sig.returnType = (some .int)) (k : Nat) (n : Nat) : pX6_bitOf_0 Z r w1 k (n + 1) := by
  intro v0 w hf
  rw [fX6_bitOf_0] at hf
  refine rg_iload_n (pc := 0) C 0 rfl rfl dX6_bitOf_0 ?_
  refine rg_bipush (pc := 1) (v := 99) C dX6_bitOf_1 (by decide) ?_
  refine rg_icmp_ne (pc := 3) (tgt := 10) C dX6_bitOf_3 (by decide) (fun c1 => ?_) (fun c1 => ?_)
  · replace hf := ra_f hf c1
    refine rg_iload_n (pc := 10) C 0 rfl rfl dX6_bitOf_10 ?_
    refine rg_bipush (pc := 11) (v := 97) C dX6_bitOf_11 (by decide) ?_
    refine rg_icmp_ne (pc := 13) (tgt := 20) C dX6_bitOf_13 (by decide) (fun c2 => ?_) (fun c2 => ?_)
    · replace hf := ra_f hf c2
      refine rg_iconst (pc := 20) (v := 4) C dX6_bitOf_20 (by decide) ?_
      exact rg_iret (pc := 21) C hQ hr hf dX6_bitOf_21
    · replace hf := ra_t hf c2
      refine rg_iconst (pc := 16) (v := 2) C dX6_bitOf_16 (by decide) ?_
      refine rg_goto (pc := 17) (tgt := 21) C dX6_bitOf_17 (by decide) ?_
      exact rg_iret (pc := 21) C hQ hr hf dX6_bitOf_21
  · replace hf := ra_t hf c1
    refine rg_iconst (pc := 6) (v := 1) C dX6_bitOf_6 (by decide) ?_
    refine rg_goto (pc := 7) (tgt := 21) C dX6_bitOf_7 (by decide) ?_
    exact rg_iret (pc := 21) C hQ hr hf dX6_bitOf_21
theorem tX6_bitOf {Z : ra_Z} {r : Int32} {w1 : ra_W} (C : ra_C Z cX6_bitOf 1 RX6 0 0) (hQ : ra_QI Z r w1) (hr : (zmt Z).sig.returnType = (some .int)) (k : Nat) : ∀ n : Nat, pX6_bitOf_0 Z r w1 k n := by
  intro n
  induction n with
  | zero => exact (fun _ _ h => by cases h)
  | succ n ih => exact tX6_bitOf_0 C hQ hr k n
theorem kX6_bitOf (l : Launch) (G : ra_G) (hj : ra_inj G) (k : Nat) (v0 : Int32) (w : ra_W) (r : Int32) (w1 : ra_W) (h : FX6_bitOf k v0 w = some (r, w1)) : ra_MI l G yX6_bitOf cX6_bitOf 1 (some .int) 0 0 [.int v0] w r w1 :=
  ra_entryI (own := RX6) (by decide) rfl (Nat.le_of_ble_eq_true rfl) hj (fun Z hl hG C hQ hr => by subst hl; subst hG; exact (tX6_bitOf C hQ hr k k) _ _ h)
theorem ysX6_bitOf : ra_YS yX6_bitOf cX6_bitOf 1 (some .int) 1 := ⟨⟨wd_7, wd_706, by decide, by decide, by decide⟩, wd_705⟩
/-- TrunkRadioModel.mayBegin -/
def fX6_mayBegin (k : Nat) : Nat → Nat → ra_W → Option (Int32 × ra_W)
  | 0, _, _ => none
  | n + 1, L, w => match L with
    | _ => if (w 134 6) = 114 then (if 7 ≤ (w 137 0) then (some (0, w)) else (some (1, w))) else (ra_bind (FX6_bitOf k (w 134 6) w) (fun r2 w3 => if ((w 134 8) &&& r2) = 0 then (some (1, w3)) else (some (0, w3))))
theorem fX6_mayBegin_0 (k : Nat) (n : Nat)  (w : ra_W) : fX6_mayBegin k (n + 1) 0  w = (if (w 134 6) = 114 then (if 7 ≤ (w 137 0) then (some (0, w)) else (some (1, w))) else (ra_bind (FX6_bitOf k (w 134 6) w) (fun r2 w3 => if ((w 134 8) &&& r2) = 0 then (some (1, w3)) else (some (0, w3))))) := rfl
def FX6_mayBegin (k : Nat)  (w : ra_W) : Option (Int32 × ra_W) := fX6_mayBegin k k 0  w
def pX6_mayBegin_0 (Z : ra_Z) (r : Int32) (w1 : ra_W) (k : Nat) (n : Nat) : Prop := ∀  (w : ra_W), fX6_mayBegin k n 0  w = some (r, w1) → ra_J Z 1 0 [(0, .ref ((zG Z).1 134))] [] w
set_option maxHeartbeats 4000000 in
theorem tX6_mayBegin_0 {Z : ra_Z} {r : Int32} {w1 : ra_W} (C : ra_C Z cX6_mayBegin 1 RX6 1 20) (hQ : ra_QI Z r w1) (hr : (zmt Z).sig.returnType = (some .boolean)) (k : Nat) (n : Nat) : pX6_mayBegin_0 Z r w1 k (n + 1) := by
  intro w hf
  rw [fX6_mayBegin_0] at hf
  refine rg_aload_n (pc := 0) C 0 rfl rfl dX6_mayBegin_0 ?_
  refine rg_get (pc := 1) C 134 6 6 kd_134 (by decide) rfl inlX6 (by decide) wd_602 rfl dX6_mayBegin_1 ?_
  refine rg_bipush (pc := 4) (v := 114) C dX6_mayBegin_4 (by decide) ?_
  refine rg_icmp_ne (pc := 6) (tgt := 28) C dX6_mayBegin_6 (by decide) (fun c1 => ?_) (fun c1 => ?_)
  · replace hf := ra_f hf c1
    refine rg_aload_n (pc := 28) C 0 rfl rfl dX6_mayBegin_28 ?_
    refine rg_get (pc := 29) C 134 6 8 kd_134 (by decide) rfl inlX6 (by decide) wd_604 rfl dX6_mayBegin_29 ?_
    refine rg_aload_n (pc := 32) C 0 rfl rfl dX6_mayBegin_32 ?_
    refine rg_get (pc := 33) C 134 6 6 kd_134 (by decide) rfl inlX6 (by decide) wd_602 rfl dX6_mayBegin_33 ?_
    obtain ⟨r2, w3, e4, hf⟩ := ra_bd hf
    refine rg_callSI (pc := 36) (As := [.int (w 134 6)]) (st := [.int (w 134 8)]) C (kX6_bitOf (zl Z) (zG Z) C.hj k _ _ _ _ e4) ysX6_bitOf rfl wd_704 ⟨Nat.le_of_ble_eq_true rfl, Nat.le_of_ble_eq_true rfl⟩ rfl (Nat.le_of_ble_eq_true rfl) dX6_mayBegin_36 ?_
    refine rg_iand (pc := 39) C dX6_mayBegin_39 ?_
    refine rg_if_ne (pc := 40) (tgt := 47) C dX6_mayBegin_40 (by decide) (fun c5 => ?_) (fun c5 => ?_)
    · replace hf := ra_f hf c5
      refine rg_iconst (pc := 47) (v := 0) C dX6_mayBegin_47 (by decide) ?_
      exact rg_zret (pc := 48) C hQ hr (by decide) hf dX6_mayBegin_48
    · replace hf := ra_t hf c5
      refine rg_iconst (pc := 43) (v := 1) C dX6_mayBegin_43 (by decide) ?_
      refine rg_goto (pc := 44) (tgt := 48) C dX6_mayBegin_44 (by decide) ?_
      exact rg_zret (pc := 48) C hQ hr (by decide) hf dX6_mayBegin_48
  · replace hf := ra_t hf c1
    refine rg_aload_n (pc := 9) C 0 rfl rfl dX6_mayBegin_9 ?_
    refine rg_get (pc := 10) C 134 6 10 kd_134 (by decide) rfl inlX6 (by decide) wd_606 rfl dX6_mayBegin_10 ?_
    refine rg_iconst (pc := 13) (v := 0) C dX6_mayBegin_13 (by decide) ?_
    refine rg_iald (pc := 14) (j := 0) C 137 kd_137 (by decide) (by decide) dX6_mayBegin_14 ?_
    refine rg_bipush (pc := 15) (v := 7) C dX6_mayBegin_15 (by decide) ?_
    refine rg_icmp_ge (pc := 17) (tgt := 24) C dX6_mayBegin_17 (by decide) (fun c6 => ?_) (fun c6 => ?_)
    · replace hf := ra_t hf c6
      refine rg_iconst (pc := 24) (v := 0) C dX6_mayBegin_24 (by decide) ?_
      refine rg_goto (pc := 25) (tgt := 48) C dX6_mayBegin_25 (by decide) ?_
      exact rg_zret (pc := 48) C hQ hr (by decide) hf dX6_mayBegin_48
    · replace hf := ra_f hf c6
      refine rg_iconst (pc := 20) (v := 1) C dX6_mayBegin_20 (by decide) ?_
      refine rg_goto (pc := 21) (tgt := 48) C dX6_mayBegin_21 (by decide) ?_
      exact rg_zret (pc := 48) C hQ hr (by decide) hf dX6_mayBegin_48
theorem tX6_mayBegin {Z : ra_Z} {r : Int32} {w1 : ra_W} (C : ra_C Z cX6_mayBegin 1 RX6 1 20) (hQ : ra_QI Z r w1) (hr : (zmt Z).sig.returnType = (some .boolean)) (k : Nat) : ∀ n : Nat, pX6_mayBegin_0 Z r w1 k n := by
  intro n
  induction n with
  | zero => exact (fun _ h => by cases h)
  | succ n ih => exact tX6_mayBegin_0 C hQ hr k n
theorem kX6_mayBegin (l : Launch) (G : ra_G) (hj : ra_inj G) (k : Nat)  (w : ra_W) (r : Int32) (w1 : ra_W) (h : FX6_mayBegin k  w = some (r, w1)) : ra_MI l G yX6_mayBegin cX6_mayBegin 1 (some .boolean) 1 20 [.ref (G.1 134)] w r w1 :=
  ra_entryI (own := RX6) (by decide) rfl (Nat.le_of_ble_eq_true rfl) hj (fun Z hl hG C hQ hr => by subst hl; subst hG; exact (tX6_mayBegin C hQ hr k k) _ h)
theorem ysX6_mayBegin : ra_YV yX6_mayBegin cX6_mayBegin 1 (some .boolean) 0 RX6 := ⟨⟨wd_7, wd_703, by decide, by decide, by decide⟩, wd_702, wp_24⟩
/-- TrunkRadioModel.readsItem -/
def fX6_readsItem (k : Nat) : Nat → Nat → Int32 → ra_W → Option (Int32 × ra_W)
  | 0, _, _, _ => none
  | n + 1, L, v1, w => match L with
    | _ => if v1 = 114 then (ra_bind (FX6_number k 0 1 w) (fun r19 w20 => if ra_in (6 + (w 137 0)) 41 then ra_bind (FX6_number k 0 5 (ra_st w20 138 (ra_ix (6 + (w 137 0))) r19)) (fun r23 w24 => if ra_in (5 + (w 137 0)) 19 then ra_bind (FX6_number k 0 3 (ra_st w24 137 (ra_ix (5 + (w 137 0))) r23)) (fun r27 w28 => if ra_in (12 + (w 137 0)) 19 then some (0, (ra_st (ra_st w28 137 (ra_ix (12 + (w 137 0))) r27) 137 0 (((ra_st w28 137 (ra_ix (12 + (w 137 0))) r27) 137 0) + 1))) else none) else none) else none)) else (ra_bind (FX6_bitOf k v1 w) (fun r2 w3 => if v1 = 99 then (ra_bind (FX6_number k 1 3 (ra_st w3 134 8 ((w 134 8) ||| r2))) (fun r13 w14 => ra_bind (FX6_number k 1 3 (ra_st w14 137 3 r13)) (fun r16 w17 => some (0, (ra_st w17 137 4 r16))))) else (if v1 = 97 then (ra_bind (FX6_number k 1 9 (ra_st w3 134 8 ((w 134 8) ||| r2))) (fun r10 w11 => some (0, (ra_st w11 137 1 r10)))) else (ra_bind (FX6_number k 1 20 (ra_st w3 134 8 ((w 134 8) ||| r2))) (fun r7 w8 => some (0, (ra_st w8 137 2 r7)))))))
theorem fX6_readsItem_0 (k : Nat) (n : Nat) (v1 : Int32) (w : ra_W) : fX6_readsItem k (n + 1) 0 v1 w = (if v1 = 114 then (ra_bind (FX6_number k 0 1 w) (fun r19 w20 => if ra_in (6 + (w 137 0)) 41 then ra_bind (FX6_number k 0 5 (ra_st w20 138 (ra_ix (6 + (w 137 0))) r19)) (fun r23 w24 => if ra_in (5 + (w 137 0)) 19 then ra_bind (FX6_number k 0 3 (ra_st w24 137 (ra_ix (5 + (w 137 0))) r23)) (fun r27 w28 => if ra_in (12 + (w 137 0)) 19 then some (0, (ra_st (ra_st w28 137 (ra_ix (12 + (w 137 0))) r27) 137 0 (((ra_st w28 137 (ra_ix (12 + (w 137 0))) r27) 137 0) + 1))) else none) else none) else none)) else (ra_bind (FX6_bitOf k v1 w) (fun r2 w3 => if v1 = 99 then (ra_bind (FX6_number k 1 3 (ra_st w3 134 8 ((w 134 8) ||| r2))) (fun r13 w14 => ra_bind (FX6_number k 1 3 (ra_st w14 137 3 r13)) (fun r16 w17 => some (0, (ra_st w17 137 4 r16))))) else (if v1 = 97 then (ra_bind (FX6_number k 1 9 (ra_st w3 134 8 ((w 134 8) ||| r2))) (fun r10 w11 => some (0, (ra_st w11 137 1 r10)))) else (ra_bind (FX6_number k 1 20 (ra_st w3 134 8 ((w 134 8) ||| r2))) (fun r7 w8 => some (0, (ra_st w8 137 2 r7)))))))) := rfl
def FX6_readsItem (k : Nat) (v1 : Int32) (w : ra_W) : Option (Int32 × ra_W) := fX6_readsItem k k 0 v1 w
def pX6_readsItem_0 (Z : ra_Z) (r : Int32) (w1 : ra_W) (k : Nat) (n : Nat) : Prop := ∀ (v1 : Int32) (w : ra_W), fX6_readsItem k n 0 v1 w = some (r, w1) → ra_J Z 3 0 [(0, .ref ((zG Z).1 134)), (1, .int v1)] [] w
set_option maxHeartbeats 4000000 in
theorem tX6_readsItem_0 {Z : ra_Z} {r : Int32} {w1 : ra_W} (C : ra_C Z cX6_readsItem 3 RX6 4 87) (hQ : ra_QV Z r w1) (hr : (zmt Z).sig.returnType = none) (k : Nat) (n : Nat) : pX6_readsItem_0 Z r w1 k (n + 1) := by
  intro v1 w hf
  rw [fX6_readsItem_0] at hf
  refine rg_iload_n (pc := 0) C 1 rfl rfl dX6_readsItem_0 ?_
  refine rg_bipush (pc := 1) (v := 114) C dX6_readsItem_1 (by decide) ?_
  refine rg_icmp_ne (pc := 3) (tgt := 68) C dX6_readsItem_3 (by decide) (fun c1 => ?_) (fun c1 => ?_)
  · replace hf := ra_f hf c1
    refine rg_aload_n (pc := 68) C 0 rfl rfl dX6_readsItem_68 ?_
    refine rg_dup (pc := 69) C rfl dX6_readsItem_69 ?_
    refine rg_get (pc := 70) C 134 6 8 kd_134 (by decide) rfl inlX6 (by decide) wd_604 rfl dX6_readsItem_70 ?_
    refine rg_iload_n (pc := 73) C 1 rfl rfl dX6_readsItem_73 ?_
    obtain ⟨r2, w3, e4, hf⟩ := ra_bd hf
    refine rg_callSI (pc := 74) (As := [.int v1]) (st := [.int (w 134 8), .ref ((zG Z).1 134)]) C (kX6_bitOf (zl Z) (zG Z) C.hj k _ _ _ _ e4) ysX6_bitOf rfl wd_704 ⟨Nat.le_of_ble_eq_true rfl, Nat.le_of_ble_eq_true rfl⟩ rfl (Nat.le_of_ble_eq_true rfl) dX6_readsItem_74 ?_
    refine rg_ior (pc := 77) C dX6_readsItem_77 ?_
    refine rg_put (pc := 78) C 134 6 8 kd_134 (by decide) rfl inlX6 tyX6 tyX6_ok nmX6 (by decide) wd_604 rfl rfl rfl (Nat.le_of_ble_eq_true rfl) rfl dX6_readsItem_78 ?_
    refine rg_iload_n (pc := 81) C 1 rfl rfl dX6_readsItem_81 ?_
    refine rg_bipush (pc := 82) (v := 99) C dX6_readsItem_82 (by decide) ?_
    refine rg_icmp_ne (pc := 84) (tgt := 114) C dX6_readsItem_84 (by decide) (fun c5 => ?_) (fun c5 => ?_)
    · replace hf := ra_f hf c5
      refine rg_iload_n (pc := 114) C 1 rfl rfl dX6_readsItem_114 ?_
      refine rg_bipush (pc := 115) (v := 97) C dX6_readsItem_115 (by decide) ?_
      refine rg_icmp_ne (pc := 117) (tgt := 136) C dX6_readsItem_117 (by decide) (fun c6 => ?_) (fun c6 => ?_)
      · replace hf := ra_f hf c6
        refine rg_aload_n (pc := 136) C 0 rfl rfl dX6_readsItem_136 ?_
        refine rg_get (pc := 137) C 134 6 10 kd_134 (by decide) rfl inlX6 (by decide) wd_606 rfl dX6_readsItem_137 ?_
        refine rg_iconst (pc := 140) (v := 2) C dX6_readsItem_140 (by decide) ?_
        refine rg_aload_n (pc := 141) C 0 rfl rfl dX6_readsItem_141 ?_
        refine rg_iconst (pc := 142) (v := 1) C dX6_readsItem_142 (by decide) ?_
        refine rg_bipush (pc := 143) (v := 20) C dX6_readsItem_143 (by decide) ?_
        obtain ⟨r7, w8, e9, hf⟩ := ra_bd hf
        refine rg_callVI (pc := 145) (As := [.int 1, .int 20]) (st := [.int 2, .ref ((zG Z).1 137)]) C (kX6_number (zl Z) (zG Z) C.hj k _ _ _ _ _ e9) kd_134 (by decide) rfl ysX6_number rfl wd_715 ⟨Nat.le_of_ble_eq_true rfl, Nat.le_of_ble_eq_true rfl⟩ rfl (Nat.le_of_ble_eq_true rfl) dX6_readsItem_145 ?_
        refine rg_iast (pc := 148) (j := 2) C 137 kd_137 (by decide) (by decide) dX6_readsItem_148 ?_
        exact rg_vret (pc := 149) C hQ hr hf dX6_readsItem_149
      · replace hf := ra_t hf c6
        refine rg_aload_n (pc := 120) C 0 rfl rfl dX6_readsItem_120 ?_
        refine rg_get (pc := 121) C 134 6 10 kd_134 (by decide) rfl inlX6 (by decide) wd_606 rfl dX6_readsItem_121 ?_
        refine rg_iconst (pc := 124) (v := 1) C dX6_readsItem_124 (by decide) ?_
        refine rg_aload_n (pc := 125) C 0 rfl rfl dX6_readsItem_125 ?_
        refine rg_iconst (pc := 126) (v := 1) C dX6_readsItem_126 (by decide) ?_
        refine rg_bipush (pc := 127) (v := 9) C dX6_readsItem_127 (by decide) ?_
        obtain ⟨r10, w11, e12, hf⟩ := ra_bd hf
        refine rg_callVI (pc := 129) (As := [.int 1, .int 9]) (st := [.int 1, .ref ((zG Z).1 137)]) C (kX6_number (zl Z) (zG Z) C.hj k _ _ _ _ _ e12) kd_134 (by decide) rfl ysX6_number rfl wd_715 ⟨Nat.le_of_ble_eq_true rfl, Nat.le_of_ble_eq_true rfl⟩ rfl (Nat.le_of_ble_eq_true rfl) dX6_readsItem_129 ?_
        refine rg_iast (pc := 132) (j := 1) C 137 kd_137 (by decide) (by decide) dX6_readsItem_132 ?_
        refine rg_goto (pc := 133) (tgt := 149) C dX6_readsItem_133 (by decide) ?_
        exact rg_vret (pc := 149) C hQ hr hf dX6_readsItem_149
    · replace hf := ra_t hf c5
      refine rg_aload_n (pc := 87) C 0 rfl rfl dX6_readsItem_87 ?_
      refine rg_get (pc := 88) C 134 6 10 kd_134 (by decide) rfl inlX6 (by decide) wd_606 rfl dX6_readsItem_88 ?_
      refine rg_iconst (pc := 91) (v := 3) C dX6_readsItem_91 (by decide) ?_
      refine rg_aload_n (pc := 92) C 0 rfl rfl dX6_readsItem_92 ?_
      refine rg_iconst (pc := 93) (v := 1) C dX6_readsItem_93 (by decide) ?_
      refine rg_iconst (pc := 94) (v := 3) C dX6_readsItem_94 (by decide) ?_
      obtain ⟨r13, w14, e15, hf⟩ := ra_bd hf
      refine rg_callVI (pc := 95) (As := [.int 1, .int 3]) (st := [.int 3, .ref ((zG Z).1 137)]) C (kX6_number (zl Z) (zG Z) C.hj k _ _ _ _ _ e15) kd_134 (by decide) rfl ysX6_number rfl wd_715 ⟨Nat.le_of_ble_eq_true rfl, Nat.le_of_ble_eq_true rfl⟩ rfl (Nat.le_of_ble_eq_true rfl) dX6_readsItem_95 ?_
      refine rg_iast (pc := 98) (j := 3) C 137 kd_137 (by decide) (by decide) dX6_readsItem_98 ?_
      refine rg_aload_n (pc := 99) C 0 rfl rfl dX6_readsItem_99 ?_
      refine rg_get (pc := 100) C 134 6 10 kd_134 (by decide) rfl inlX6 (by decide) wd_606 rfl dX6_readsItem_100 ?_
      refine rg_iconst (pc := 103) (v := 4) C dX6_readsItem_103 (by decide) ?_
      refine rg_aload_n (pc := 104) C 0 rfl rfl dX6_readsItem_104 ?_
      refine rg_iconst (pc := 105) (v := 1) C dX6_readsItem_105 (by decide) ?_
      refine rg_iconst (pc := 106) (v := 3) C dX6_readsItem_106 (by decide) ?_
      obtain ⟨r16, w17, e18, hf⟩ := ra_bd hf
      refine rg_callVI (pc := 107) (As := [.int 1, .int 3]) (st := [.int 4, .ref ((zG Z).1 137)]) C (kX6_number (zl Z) (zG Z) C.hj k _ _ _ _ _ e18) kd_134 (by decide) rfl ysX6_number rfl wd_715 ⟨Nat.le_of_ble_eq_true rfl, Nat.le_of_ble_eq_true rfl⟩ rfl (Nat.le_of_ble_eq_true rfl) dX6_readsItem_107 ?_
      refine rg_iast (pc := 110) (j := 4) C 137 kd_137 (by decide) (by decide) dX6_readsItem_110 ?_
      refine rg_goto (pc := 111) (tgt := 149) C dX6_readsItem_111 (by decide) ?_
      exact rg_vret (pc := 149) C hQ hr hf dX6_readsItem_149
  · replace hf := ra_t hf c1
    refine rg_aload_n (pc := 6) C 0 rfl rfl dX6_readsItem_6 ?_
    refine rg_get (pc := 7) C 134 6 10 kd_134 (by decide) rfl inlX6 (by decide) wd_606 rfl dX6_readsItem_7 ?_
    refine rg_iconst (pc := 10) (v := 0) C dX6_readsItem_10 (by decide) ?_
    refine rg_iald (pc := 11) (j := 0) C 137 kd_137 (by decide) (by decide) dX6_readsItem_11 ?_
    refine rg_istore_n (pc := 12) (lv' := [(0, .ref ((zG Z).1 134)), (1, .int v1), (2, .int (w 137 0))]) C [1, 2, 0] rfl rfl (by decide) dX6_readsItem_12 ?_
    refine rg_aload_n (pc := 13) C 0 rfl rfl dX6_readsItem_13 ?_
    refine rg_get (pc := 14) C 134 6 11 kd_134 (by decide) rfl inlX6 (by decide) wd_607 rfl dX6_readsItem_14 ?_
    refine rg_bipush (pc := 17) (v := 6) C dX6_readsItem_17 (by decide) ?_
    refine rg_iload_n (pc := 19) C 2 rfl rfl dX6_readsItem_19 ?_
    refine rg_iadd (pc := 20) C dX6_readsItem_20 ?_
    refine rg_aload_n (pc := 21) C 0 rfl rfl dX6_readsItem_21 ?_
    refine rg_iconst (pc := 22) (v := 0) C dX6_readsItem_22 (by decide) ?_
    refine rg_iconst (pc := 23) (v := 1) C dX6_readsItem_23 (by decide) ?_
    obtain ⟨r19, w20, e21, hf⟩ := ra_bd hf
    refine rg_callVI (pc := 24) (As := [.int 0, .int 1]) (st := [.int (6 + (w 137 0)), .ref ((zG Z).1 138)]) C (kX6_number (zl Z) (zG Z) C.hj k _ _ _ _ _ e21) kd_134 (by decide) rfl ysX6_number rfl wd_715 ⟨Nat.le_of_ble_eq_true rfl, Nat.le_of_ble_eq_true rfl⟩ rfl (Nat.le_of_ble_eq_true rfl) dX6_readsItem_24 ?_
    obtain ⟨g22, hf⟩ := ra_gd hf
    refine rg_iast (pc := 27) (j := (ra_ix (6 + (w 137 0)))) C 138 kd_138 rfl g22 dX6_readsItem_27 ?_
    refine rg_aload_n (pc := 28) C 0 rfl rfl dX6_readsItem_28 ?_
    refine rg_get (pc := 29) C 134 6 10 kd_134 (by decide) rfl inlX6 (by decide) wd_606 rfl dX6_readsItem_29 ?_
    refine rg_iconst (pc := 32) (v := 5) C dX6_readsItem_32 (by decide) ?_
    refine rg_iload_n (pc := 33) C 2 rfl rfl dX6_readsItem_33 ?_
    refine rg_iadd (pc := 34) C dX6_readsItem_34 ?_
    refine rg_aload_n (pc := 35) C 0 rfl rfl dX6_readsItem_35 ?_
    refine rg_iconst (pc := 36) (v := 0) C dX6_readsItem_36 (by decide) ?_
    refine rg_iconst (pc := 37) (v := 5) C dX6_readsItem_37 (by decide) ?_
    obtain ⟨r23, w24, e25, hf⟩ := ra_bd hf
    refine rg_callVI (pc := 38) (As := [.int 0, .int 5]) (st := [.int (5 + (w 137 0)), .ref ((zG Z).1 137)]) C (kX6_number (zl Z) (zG Z) C.hj k _ _ _ _ _ e25) kd_134 (by decide) rfl ysX6_number rfl wd_715 ⟨Nat.le_of_ble_eq_true rfl, Nat.le_of_ble_eq_true rfl⟩ rfl (Nat.le_of_ble_eq_true rfl) dX6_readsItem_38 ?_
    obtain ⟨g26, hf⟩ := ra_gd hf
    refine rg_iast (pc := 41) (j := (ra_ix (5 + (w 137 0)))) C 137 kd_137 rfl g26 dX6_readsItem_41 ?_
    refine rg_aload_n (pc := 42) C 0 rfl rfl dX6_readsItem_42 ?_
    refine rg_get (pc := 43) C 134 6 10 kd_134 (by decide) rfl inlX6 (by decide) wd_606 rfl dX6_readsItem_43 ?_
    refine rg_bipush (pc := 46) (v := 12) C dX6_readsItem_46 (by decide) ?_
    refine rg_iload_n (pc := 48) C 2 rfl rfl dX6_readsItem_48 ?_
    refine rg_iadd (pc := 49) C dX6_readsItem_49 ?_
    refine rg_aload_n (pc := 50) C 0 rfl rfl dX6_readsItem_50 ?_
    refine rg_iconst (pc := 51) (v := 0) C dX6_readsItem_51 (by decide) ?_
    refine rg_iconst (pc := 52) (v := 3) C dX6_readsItem_52 (by decide) ?_
    obtain ⟨r27, w28, e29, hf⟩ := ra_bd hf
    refine rg_callVI (pc := 53) (As := [.int 0, .int 3]) (st := [.int (12 + (w 137 0)), .ref ((zG Z).1 137)]) C (kX6_number (zl Z) (zG Z) C.hj k _ _ _ _ _ e29) kd_134 (by decide) rfl ysX6_number rfl wd_715 ⟨Nat.le_of_ble_eq_true rfl, Nat.le_of_ble_eq_true rfl⟩ rfl (Nat.le_of_ble_eq_true rfl) dX6_readsItem_53 ?_
    obtain ⟨g30, hf⟩ := ra_gd hf
    refine rg_iast (pc := 56) (j := (ra_ix (12 + (w 137 0)))) C 137 kd_137 rfl g30 dX6_readsItem_56 ?_
    refine rg_aload_n (pc := 57) C 0 rfl rfl dX6_readsItem_57 ?_
    refine rg_get (pc := 58) C 134 6 10 kd_134 (by decide) rfl inlX6 (by decide) wd_606 rfl dX6_readsItem_58 ?_
    refine rg_iconst (pc := 61) (v := 0) C dX6_readsItem_61 (by decide) ?_
    refine rg_dup2 (pc := 62) C rfl rfl dX6_readsItem_62 ?_
    refine rg_iald (pc := 63) (j := 0) C 137 kd_137 (by decide) (by decide) dX6_readsItem_63 ?_
    refine rg_iconst (pc := 64) (v := 1) C dX6_readsItem_64 (by decide) ?_
    refine rg_iadd (pc := 65) C dX6_readsItem_65 ?_
    refine rg_iast (pc := 66) (j := 0) C 137 kd_137 (by decide) (by decide) dX6_readsItem_66 ?_
    exact rg_vret (pc := 67) C hQ hr hf dX6_readsItem_67
theorem tX6_readsItem {Z : ra_Z} {r : Int32} {w1 : ra_W} (C : ra_C Z cX6_readsItem 3 RX6 4 87) (hQ : ra_QV Z r w1) (hr : (zmt Z).sig.returnType = none) (k : Nat) : ∀ n : Nat, pX6_readsItem_0 Z r w1 k n := by
  intro n
  induction n with
  | zero => exact (fun _ _ h => by cases h)
  | succ n ih => exact tX6_readsItem_0 C hQ hr k n
theorem kX6_readsItem (l : Launch) (G : ra_G) (hj : ra_inj G) (k : Nat) (v1 : Int32) (w : ra_W) (r : Int32) (w1 : ra_W) (h : FX6_readsItem k v1 w = some (r, w1)) : ra_MV l G yX6_readsItem cX6_readsItem 3 none 4 87 [.ref (G.1 134), .int v1] w r w1 :=
  ra_entryV (own := RX6) (by decide) rfl (Nat.le_of_ble_eq_true rfl) hj (fun Z hl hG C hQ hr => by subst hl; subst hG; exact (tX6_readsItem C hQ hr k k) _ _ h)
theorem ysX6_readsItem : ra_YV yX6_readsItem cX6_readsItem 3 none 1 RX6 := ⟨⟨wd_7, wd_714, by decide, by decide, by decide⟩, wd_713, wp_26⟩
/-- TrunkRadioModel.net -/
def fX6_net (k : Nat) : Nat → Nat → Int32 → Int32 → ra_W → Option (Int32 × ra_W)
  | 0, _, _, _, _ => none
  | n + 1, L, v1, s0, w => match L with
    | 0 => ra_bind (FX6_begins k (ra_st (ra_st (ra_st w 134 0 0) 134 7 (-1)) 134 3 0)) (fun _ w2 => ra_bind (FX6_advances k w2) (fun _ w5 => fX6_net k n 1 0 0 w5))
    | 1 => ra_bind (FX6_isWell k w) (fun r1 w2 => if r1 = 0 then (fX6_net k n 6 v1 0 w2) else (if (w2 134 4) = 0 then (fX6_net k n 6 v1 0 w2) else (if (w2 134 4) = 1 then (ra_bind (FX6_mayBegin k w2) (fun r7 w8 => if r7 = 0 then (fX6_net k n 2 v1 0 w8) else (fX6_net k n 3 v1 1 w8))) else (fX6_net k n 2 v1 0 w2))))
    | 2 => fX6_net k n 3 v1 0 w
    | 3 => ra_bind (FX6_takes k s0 w) (fun r1 w2 => ra_bind (FX6_isWell k w2) (fun r4 w5 => if r4 = 0 then (fX6_net k n 4 v1 0 w5) else (ra_bind (FX6_readsItem k r1 w5) (fun _ w9 => fX6_net k n 4 v1 0 w9))))
    | 4 => if (w 134 4) = 3 then (fX6_net k n 5 v1 1 w) else (fX6_net k n 5 v1 0 w)
    | 5 => ra_bind (FX6_takes k s0 w) (fun r1 w2 => fX6_net k n 1 (v1 + 1) 0 w2)
    | _ => ra_bind (FX6_isWell k w) (fun r1 w2 => if r1 = 0 then (some (((-10) - (w2 134 7)), w2)) else (ra_bind (FX6_settles k w2) (fun _ w6 => some (v1, w6))))
theorem fX6_net_0 (k : Nat) (n : Nat) (v1 : Int32) (s0 : Int32) (w : ra_W) : fX6_net k (n + 1) 0 v1 s0 w = (ra_bind (FX6_begins k (ra_st (ra_st (ra_st w 134 0 0) 134 7 (-1)) 134 3 0)) (fun _ w2 => ra_bind (FX6_advances k w2) (fun _ w5 => fX6_net k n 1 0 0 w5))) := rfl
theorem fX6_net_1 (k : Nat) (n : Nat) (v1 : Int32) (s0 : Int32) (w : ra_W) : fX6_net k (n + 1) 1 v1 s0 w = (ra_bind (FX6_isWell k w) (fun r1 w2 => if r1 = 0 then (fX6_net k n 6 v1 0 w2) else (if (w2 134 4) = 0 then (fX6_net k n 6 v1 0 w2) else (if (w2 134 4) = 1 then (ra_bind (FX6_mayBegin k w2) (fun r7 w8 => if r7 = 0 then (fX6_net k n 2 v1 0 w8) else (fX6_net k n 3 v1 1 w8))) else (fX6_net k n 2 v1 0 w2))))) := rfl
theorem fX6_net_2 (k : Nat) (n : Nat) (v1 : Int32) (s0 : Int32) (w : ra_W) : fX6_net k (n + 1) 2 v1 s0 w = (fX6_net k n 3 v1 0 w) := rfl
theorem fX6_net_3 (k : Nat) (n : Nat) (v1 : Int32) (s0 : Int32) (w : ra_W) : fX6_net k (n + 1) 3 v1 s0 w = (ra_bind (FX6_takes k s0 w) (fun r1 w2 => ra_bind (FX6_isWell k w2) (fun r4 w5 => if r4 = 0 then (fX6_net k n 4 v1 0 w5) else (ra_bind (FX6_readsItem k r1 w5) (fun _ w9 => fX6_net k n 4 v1 0 w9))))) := rfl
theorem fX6_net_4 (k : Nat) (n : Nat) (v1 : Int32) (s0 : Int32) (w : ra_W) : fX6_net k (n + 1) 4 v1 s0 w = (if (w 134 4) = 3 then (fX6_net k n 5 v1 1 w) else (fX6_net k n 5 v1 0 w)) := rfl
theorem fX6_net_5 (k : Nat) (n : Nat) (v1 : Int32) (s0 : Int32) (w : ra_W) : fX6_net k (n + 1) 5 v1 s0 w = (ra_bind (FX6_takes k s0 w) (fun r1 w2 => fX6_net k n 1 (v1 + 1) 0 w2)) := rfl
theorem fX6_net_6 (k : Nat) (n : Nat) (v1 : Int32) (s0 : Int32) (w : ra_W) : fX6_net k (n + 1) 6 v1 s0 w = (ra_bind (FX6_isWell k w) (fun r1 w2 => if r1 = 0 then (some (((-10) - (w2 134 7)), w2)) else (ra_bind (FX6_settles k w2) (fun _ w6 => some (v1, w6))))) := rfl
def FX6_net (k : Nat)  (w : ra_W) : Option (Int32 × ra_W) := fX6_net k k 0 0 0 w
def pX6_net_0 (Z : ra_Z) (r : Int32) (w1 : ra_W) (k : Nat) (n : Nat) : Prop := ∀ (v1 : Int32) (s0 : Int32) (w : ra_W), fX6_net k n 0 v1 s0 w = some (r, w1) → ra_J Z 3 0 [(0, .ref ((zG Z).1 134))] [] w
def pX6_net_1 (Z : ra_Z) (r : Int32) (w1 : ra_W) (k : Nat) (n : Nat) : Prop := ∀ (v1 : Int32) (s0 : Int32) (w : ra_W), fX6_net k n 1 v1 s0 w = some (r, w1) → ra_J Z 3 25 [(0, .ref ((zG Z).1 134)), (1, .int v1)] [] w
def pX6_net_2 (Z : ra_Z) (r : Int32) (w1 : ra_W) (k : Nat) (n : Nat) : Prop := ∀ (v1 : Int32) (s0 : Int32) (w : ra_W), fX6_net k n 2 v1 s0 w = some (r, w1) → ra_J Z 3 59 [(0, .ref ((zG Z).1 134)), (1, .int v1)] [.ref ((zG Z).1 134)] w
def pX6_net_3 (Z : ra_Z) (r : Int32) (w1 : ra_W) (k : Nat) (n : Nat) : Prop := ∀ (v1 : Int32) (s0 : Int32) (w : ra_W), fX6_net k n 3 v1 s0 w = some (r, w1) → ra_J Z 3 60 [(0, .ref ((zG Z).1 134)), (1, .int v1)] [.int s0, .ref ((zG Z).1 134)] w
def pX6_net_4 (Z : ra_Z) (r : Int32) (w1 : ra_W) (k : Nat) (n : Nat) : Prop := ∀ (v1 : Int32) (s0 : Int32) (w : ra_W), fX6_net k n 4 v1 s0 w = some (r, w1) → ra_J Z 3 76 [(0, .ref ((zG Z).1 134)), (1, .int v1)] [] w
def pX6_net_5 (Z : ra_Z) (r : Int32) (w1 : ra_W) (k : Nat) (n : Nat) : Prop := ∀ (v1 : Int32) (s0 : Int32) (w : ra_W), fX6_net k n 5 v1 s0 w = some (r, w1) → ra_J Z 3 90 [(0, .ref ((zG Z).1 134)), (1, .int v1)] [.int s0, .ref ((zG Z).1 134)] w
def pX6_net_6 (Z : ra_Z) (r : Int32) (w1 : ra_W) (k : Nat) (n : Nat) : Prop := ∀ (v1 : Int32) (s0 : Int32) (w : ra_W), fX6_net k n 6 v1 s0 w = some (r, w1) → ra_J Z 3 100 [(0, .ref ((zG Z).1 134)), (1, .int v1)] [] w
set_option maxHeartbeats 4000000 in
theorem tX6_net_0 {Z : ra_Z} {r : Int32} {w1 : ra_W} (C : ra_C Z cX6_net 3 RX6 5 109) (hQ : ra_QI Z r w1) (hr : (zmt Z).sig.returnType = (some .int)) (k : Nat) (n : Nat) (ih1 : pX6_net_1 Z r w1 k n) : pX6_net_0 Z r w1 k (n + 1) := by
  intro v1 s0 w hf
  rw [fX6_net_0] at hf
  refine rg_aload_n (pc := 0) C 0 rfl rfl dX6_net_0 ?_
  refine rg_iconst (pc := 1) (v := 0) C dX6_net_1 (by decide) ?_
  refine rg_put (pc := 2) C 134 6 0 kd_134 (by decide) rfl inlX6 tyX6 tyX6_ok nmX6 (by decide) wd_596 rfl rfl rfl (Nat.le_of_ble_eq_true rfl) rfl dX6_net_2 ?_
  refine rg_aload_n (pc := 5) C 0 rfl rfl dX6_net_5 ?_
  refine rg_iconst (pc := 6) (v := (-1)) C dX6_net_6 (by decide) ?_
  refine rg_put (pc := 7) C 134 6 7 kd_134 (by decide) rfl inlX6 tyX6 tyX6_ok nmX6 (by decide) wd_603 rfl rfl rfl (Nat.le_of_ble_eq_true rfl) rfl dX6_net_7 ?_
  refine rg_aload_n (pc := 10) C 0 rfl rfl dX6_net_10 ?_
  refine rg_iconst (pc := 11) (v := 0) C dX6_net_11 (by decide) ?_
  refine rg_put (pc := 12) C 134 6 3 kd_134 (by decide) rfl inlX6 tyX6 tyX6_ok nmX6 (by decide) wd_599 rfl rfl rfl (Nat.le_of_ble_eq_true rfl) rfl dX6_net_12 ?_
  refine rg_aload_n (pc := 15) C 0 rfl rfl dX6_net_15 ?_
  obtain ⟨r1, w2, e3, hf⟩ := ra_bd hf
  refine rg_callVV (pc := 16) (As := []) (st := []) C (kX6_begins (zl Z) (zG Z) C.hj k _ _ _ e3) kd_134 (by decide) rfl ysX6_begins rfl wd_585 ⟨Nat.le_of_ble_eq_true rfl, Nat.le_of_ble_eq_true rfl⟩ rfl (Nat.le_of_ble_eq_true rfl) dX6_net_16 ?_
  refine rg_iconst (pc := 19) (v := 0) C dX6_net_19 (by decide) ?_
  refine rg_istore_n (pc := 20) (lv' := [(0, .ref ((zG Z).1 134)), (1, .int 0)]) C [1, 0] rfl rfl (by decide) dX6_net_20 ?_
  refine rg_aload_n (pc := 21) C 0 rfl rfl dX6_net_21 ?_
  obtain ⟨r4, w5, e6, hf⟩ := ra_bd hf
  refine rg_callVV (pc := 22) (As := []) (st := []) C (kX6_advances (zl Z) (zG Z) C.hj k _ _ _ e6) kd_134 (by decide) rfl ysX6_advances rfl wd_688 ⟨Nat.le_of_ble_eq_true rfl, Nat.le_of_ble_eq_true rfl⟩ rfl (Nat.le_of_ble_eq_true rfl) dX6_net_22 ?_
  exact ih1 _ _ _ hf
set_option maxHeartbeats 4000000 in
theorem tX6_net_1 {Z : ra_Z} {r : Int32} {w1 : ra_W} (C : ra_C Z cX6_net 3 RX6 5 109) (hQ : ra_QI Z r w1) (hr : (zmt Z).sig.returnType = (some .int)) (k : Nat) (n : Nat) (ih2 : pX6_net_2 Z r w1 k n) (ih3 : pX6_net_3 Z r w1 k n) (ih6 : pX6_net_6 Z r w1 k n) : pX6_net_1 Z r w1 k (n + 1) := by
  intro v1 s0 w hf
  rw [fX6_net_1] at hf
  refine rg_aload_n (pc := 25) C 0 rfl rfl dX6_net_25 ?_
  obtain ⟨r1, w2, e3, hf⟩ := ra_bd hf
  refine rg_callVI (pc := 26) (As := []) (st := []) C (kX6_isWell (zl Z) (zG Z) C.hj k _ _ _ e3) kd_134 (by decide) rfl ysX6_isWell rfl wd_696 ⟨Nat.le_of_ble_eq_true rfl, Nat.le_of_ble_eq_true rfl⟩ rfl (Nat.le_of_ble_eq_true rfl) dX6_net_26 ?_
  refine rg_if_eq (pc := 29) (tgt := 100) C dX6_net_29 (by decide) (fun c4 => ?_) (fun c4 => ?_)
  · replace hf := ra_t hf c4
    exact ih6 _ _ _ hf
  · replace hf := ra_f hf c4
    refine rg_aload_n (pc := 32) C 0 rfl rfl dX6_net_32 ?_
    refine rg_get (pc := 33) C 134 6 4 kd_134 (by decide) rfl inlX6 (by decide) wd_600 rfl dX6_net_33 ?_
    refine rg_if_eq (pc := 36) (tgt := 100) C dX6_net_36 (by decide) (fun c5 => ?_) (fun c5 => ?_)
    · replace hf := ra_t hf c5
      exact ih6 _ _ _ hf
    · replace hf := ra_f hf c5
      refine rg_aload_n (pc := 39) C 0 rfl rfl dX6_net_39 ?_
      refine rg_aload_n (pc := 40) C 0 rfl rfl dX6_net_40 ?_
      refine rg_get (pc := 41) C 134 6 4 kd_134 (by decide) rfl inlX6 (by decide) wd_600 rfl dX6_net_41 ?_
      refine rg_iconst (pc := 44) (v := 1) C dX6_net_44 (by decide) ?_
      refine rg_icmp_ne (pc := 45) (tgt := 59) C dX6_net_45 (by decide) (fun c6 => ?_) (fun c6 => ?_)
      · replace hf := ra_f hf c6
        exact ih2 _ _ _ hf
      · replace hf := ra_t hf c6
        refine rg_aload_n (pc := 48) C 0 rfl rfl dX6_net_48 ?_
        obtain ⟨r7, w8, e9, hf⟩ := ra_bd hf
        refine rg_callVI (pc := 49) (As := []) (st := [.ref ((zG Z).1 134)]) C (kX6_mayBegin (zl Z) (zG Z) C.hj k _ _ _ e9) kd_134 (by decide) rfl ysX6_mayBegin rfl wd_700 ⟨Nat.le_of_ble_eq_true rfl, Nat.le_of_ble_eq_true rfl⟩ rfl (Nat.le_of_ble_eq_true rfl) dX6_net_49 ?_
        refine rg_if_eq (pc := 52) (tgt := 59) C dX6_net_52 (by decide) (fun c10 => ?_) (fun c10 => ?_)
        · replace hf := ra_t hf c10
          exact ih2 _ _ _ hf
        · replace hf := ra_f hf c10
          refine rg_iconst (pc := 55) (v := 1) C dX6_net_55 (by decide) ?_
          refine rg_goto (pc := 56) (tgt := 60) C dX6_net_56 (by decide) ?_
          exact ih3 _ _ _ hf
set_option maxHeartbeats 4000000 in
theorem tX6_net_2 {Z : ra_Z} {r : Int32} {w1 : ra_W} (C : ra_C Z cX6_net 3 RX6 5 109) (hQ : ra_QI Z r w1) (hr : (zmt Z).sig.returnType = (some .int)) (k : Nat) (n : Nat) (ih3 : pX6_net_3 Z r w1 k n) : pX6_net_2 Z r w1 k (n + 1) := by
  intro v1 s0 w hf
  rw [fX6_net_2] at hf
  refine rg_iconst (pc := 59) (v := 0) C dX6_net_59 (by decide) ?_
  exact ih3 _ _ _ hf
set_option maxHeartbeats 4000000 in
theorem tX6_net_3 {Z : ra_Z} {r : Int32} {w1 : ra_W} (C : ra_C Z cX6_net 3 RX6 5 109) (hQ : ra_QI Z r w1) (hr : (zmt Z).sig.returnType = (some .int)) (k : Nat) (n : Nat) (ih4 : pX6_net_4 Z r w1 k n) : pX6_net_3 Z r w1 k (n + 1) := by
  intro v1 s0 w hf
  rw [fX6_net_3] at hf
  obtain ⟨r1, w2, e3, hf⟩ := ra_bd hf
  refine rg_callVI (pc := 60) (As := [.int s0]) (st := []) C (kX6_takes (zl Z) (zG Z) C.hj k _ _ _ _ e3) kd_134 (by decide) rfl ysX6_takes rfl wd_707 ⟨Nat.le_of_ble_eq_true rfl, Nat.le_of_ble_eq_true rfl⟩ rfl (Nat.le_of_ble_eq_true rfl) dX6_net_60 ?_
  refine rg_istore_n (pc := 63) (lv' := [(0, .ref ((zG Z).1 134)), (1, .int v1), (2, .int r1)]) C [1, 2, 0] rfl rfl (by decide) dX6_net_63 ?_
  refine rg_aload_n (pc := 64) C 0 rfl rfl dX6_net_64 ?_
  obtain ⟨r4, w5, e6, hf⟩ := ra_bd hf
  refine rg_callVI (pc := 65) (As := []) (st := []) C (kX6_isWell (zl Z) (zG Z) C.hj k _ _ _ e6) kd_134 (by decide) rfl ysX6_isWell rfl wd_696 ⟨Nat.le_of_ble_eq_true rfl, Nat.le_of_ble_eq_true rfl⟩ rfl (Nat.le_of_ble_eq_true rfl) dX6_net_65 ?_
  refine rg_if_eq (pc := 68) (tgt := 76) C dX6_net_68 (by decide) (fun c7 => ?_) (fun c7 => ?_)
  · replace hf := ra_t hf c7
    refine rg_sub [0, 1] rfl ?_
    exact ih4 _ _ _ hf
  · replace hf := ra_f hf c7
    refine rg_aload_n (pc := 71) C 0 rfl rfl dX6_net_71 ?_
    refine rg_iload_n (pc := 72) C 2 rfl rfl dX6_net_72 ?_
    obtain ⟨r8, w9, e10, hf⟩ := ra_bd hf
    refine rg_callVV (pc := 73) (As := [.int r1]) (st := []) C (kX6_readsItem (zl Z) (zG Z) C.hj k _ _ _ _ e10) kd_134 (by decide) rfl ysX6_readsItem rfl wd_711 ⟨Nat.le_of_ble_eq_true rfl, Nat.le_of_ble_eq_true rfl⟩ rfl (Nat.le_of_ble_eq_true rfl) dX6_net_73 ?_
    refine rg_sub [0, 1] rfl ?_
    exact ih4 _ _ _ hf
set_option maxHeartbeats 4000000 in
theorem tX6_net_4 {Z : ra_Z} {r : Int32} {w1 : ra_W} (C : ra_C Z cX6_net 3 RX6 5 109) (hQ : ra_QI Z r w1) (hr : (zmt Z).sig.returnType = (some .int)) (k : Nat) (n : Nat) (ih5 : pX6_net_5 Z r w1 k n) : pX6_net_4 Z r w1 k (n + 1) := by
  intro v1 s0 w hf
  rw [fX6_net_4] at hf
  refine rg_aload_n (pc := 76) C 0 rfl rfl dX6_net_76 ?_
  refine rg_aload_n (pc := 77) C 0 rfl rfl dX6_net_77 ?_
  refine rg_get (pc := 78) C 134 6 4 kd_134 (by decide) rfl inlX6 (by decide) wd_600 rfl dX6_net_78 ?_
  refine rg_iconst (pc := 81) (v := 3) C dX6_net_81 (by decide) ?_
  refine rg_icmp_ne (pc := 82) (tgt := 89) C dX6_net_82 (by decide) (fun c1 => ?_) (fun c1 => ?_)
  · replace hf := ra_f hf c1
    refine rg_iconst (pc := 89) (v := 0) C dX6_net_89 (by decide) ?_
    exact ih5 _ _ _ hf
  · replace hf := ra_t hf c1
    refine rg_iconst (pc := 85) (v := 1) C dX6_net_85 (by decide) ?_
    refine rg_goto (pc := 86) (tgt := 90) C dX6_net_86 (by decide) ?_
    exact ih5 _ _ _ hf
set_option maxHeartbeats 4000000 in
theorem tX6_net_5 {Z : ra_Z} {r : Int32} {w1 : ra_W} (C : ra_C Z cX6_net 3 RX6 5 109) (hQ : ra_QI Z r w1) (hr : (zmt Z).sig.returnType = (some .int)) (k : Nat) (n : Nat) (ih1 : pX6_net_1 Z r w1 k n) : pX6_net_5 Z r w1 k (n + 1) := by
  intro v1 s0 w hf
  rw [fX6_net_5] at hf
  obtain ⟨r1, w2, e3, hf⟩ := ra_bd hf
  refine rg_callVI (pc := 90) (As := [.int s0]) (st := []) C (kX6_takes (zl Z) (zG Z) C.hj k _ _ _ _ e3) kd_134 (by decide) rfl ysX6_takes rfl wd_707 ⟨Nat.le_of_ble_eq_true rfl, Nat.le_of_ble_eq_true rfl⟩ rfl (Nat.le_of_ble_eq_true rfl) dX6_net_90 ?_
  refine rg_pop (pc := 93) C rfl dX6_net_93 ?_
  refine rg_iinc (pc := 94) (v := (v1 + 1)) (lv' := [(0, .ref ((zG Z).1 134)), (1, .int (v1 + 1))]) C 1 rfl [1, 0] (ra_ii (by decide)) rfl (by decide) dX6_net_94 ?_
  refine rg_goto (pc := 97) (tgt := 25) C dX6_net_97 (by decide) ?_
  exact ih1 _ _ _ hf
set_option maxHeartbeats 4000000 in
theorem tX6_net_6 {Z : ra_Z} {r : Int32} {w1 : ra_W} (C : ra_C Z cX6_net 3 RX6 5 109) (hQ : ra_QI Z r w1) (hr : (zmt Z).sig.returnType = (some .int)) (k : Nat) (n : Nat) : pX6_net_6 Z r w1 k (n + 1) := by
  intro v1 s0 w hf
  rw [fX6_net_6] at hf
  refine rg_aload_n (pc := 100) C 0 rfl rfl dX6_net_100 ?_
  obtain ⟨r1, w2, e3, hf⟩ := ra_bd hf
  refine rg_callVI (pc := 101) (As := []) (st := []) C (kX6_isWell (zl Z) (zG Z) C.hj k _ _ _ e3) kd_134 (by decide) rfl ysX6_isWell rfl wd_696 ⟨Nat.le_of_ble_eq_true rfl, Nat.le_of_ble_eq_true rfl⟩ rfl (Nat.le_of_ble_eq_true rfl) dX6_net_101 ?_
  refine rg_if_ne (pc := 104) (tgt := 115) C dX6_net_104 (by decide) (fun c4 => ?_) (fun c4 => ?_)
  · replace hf := ra_f hf c4
    refine rg_aload_n (pc := 115) C 0 rfl rfl dX6_net_115 ?_
    obtain ⟨r5, w6, e7, hf⟩ := ra_bd hf
    refine rg_callVV (pc := 116) (As := []) (st := []) C (kX6_settles (zl Z) (zG Z) C.hj k _ _ _ e7) kd_134 (by decide) rfl ysX6_settles rfl wd_589 ⟨Nat.le_of_ble_eq_true rfl, Nat.le_of_ble_eq_true rfl⟩ rfl (Nat.le_of_ble_eq_true rfl) dX6_net_116 ?_
    refine rg_iload_n (pc := 119) C 1 rfl rfl dX6_net_119 ?_
    exact rg_iret (pc := 120) C hQ hr hf dX6_net_120
  · replace hf := ra_t hf c4
    refine rg_bipush (pc := 107) (v := (-10)) C dX6_net_107 (by decide) ?_
    refine rg_aload_n (pc := 109) C 0 rfl rfl dX6_net_109 ?_
    refine rg_get (pc := 110) C 134 6 7 kd_134 (by decide) rfl inlX6 (by decide) wd_603 rfl dX6_net_110 ?_
    refine rg_isub (pc := 113) C dX6_net_113 ?_
    exact rg_iret (pc := 114) C hQ hr hf dX6_net_114
theorem tX6_net {Z : ra_Z} {r : Int32} {w1 : ra_W} (C : ra_C Z cX6_net 3 RX6 5 109) (hQ : ra_QI Z r w1) (hr : (zmt Z).sig.returnType = (some .int)) (k : Nat) : ∀ n : Nat, pX6_net_0 Z r w1 k n ∧ pX6_net_1 Z r w1 k n ∧ pX6_net_2 Z r w1 k n ∧ pX6_net_3 Z r w1 k n ∧ pX6_net_4 Z r w1 k n ∧ pX6_net_5 Z r w1 k n ∧ pX6_net_6 Z r w1 k n := by
  intro n
  induction n with
  | zero => exact ⟨(fun _ _ _ h => by cases h), (fun _ _ _ h => by cases h), (fun _ _ _ h => by cases h), (fun _ _ _ h => by cases h), (fun _ _ _ h => by cases h), (fun _ _ _ h => by cases h), (fun _ _ _ h => by cases h)⟩
  | succ n ih =>
    obtain ⟨ih0, ih1, ih2, ih3, ih4, ih5, ih6⟩ := ih
    exact ⟨tX6_net_0 C hQ hr k n ih1, tX6_net_1 C hQ hr k n ih2 ih3 ih6, tX6_net_2 C hQ hr k n ih3, tX6_net_3 C hQ hr k n ih4, tX6_net_4 C hQ hr k n ih5, tX6_net_5 C hQ hr k n ih1, tX6_net_6 C hQ hr k n⟩
theorem kX6_net (l : Launch) (G : ra_G) (hj : ra_inj G) (k : Nat)  (w : ra_W) (r : Int32) (w1 : ra_W) (h : FX6_net k  w = some (r, w1)) : ra_MI l G yX6_net cX6_net 3 (some .int) 5 109 [.ref (G.1 134)] w r w1 :=
  ra_entryI (own := RX6) (by decide) rfl (Nat.le_of_ble_eq_true rfl) hj (fun Z hl hG C hQ hr => by subst hl; subst hG; exact (tX6_net C hQ hr k k).1 _ _ _ h)
theorem ysX6_net : ra_YV yX6_net cX6_net 3 (some .int) 0 RX6 := ⟨⟨wd_7, wd_687, by decide, by decide, by decide⟩, wd_685, wd_686⟩
/-- TrunkRadioModel.isRadio -/
def fX6_isRadio (k : Nat) : Nat → Nat → Int32 → ra_W → Option (Int32 × ra_W)
  | 0, _, _, _ => none
  | n + 1, L, v1, w => match L with
    | _ => ra_bind (FX6_in k v1 0 ((w 136 0) - 1) w) (fun r1 w2 => if (r1 = 0 ∨ r1 = 1) then some (r1, w2) else none)
theorem fX6_isRadio_0 (k : Nat) (n : Nat) (v1 : Int32) (w : ra_W) : fX6_isRadio k (n + 1) 0 v1 w = (ra_bind (FX6_in k v1 0 ((w 136 0) - 1) w) (fun r1 w2 => if (r1 = 0 ∨ r1 = 1) then some (r1, w2) else none)) := rfl
def FX6_isRadio (k : Nat) (v1 : Int32) (w : ra_W) : Option (Int32 × ra_W) := fX6_isRadio k k 0 v1 w
def pX6_isRadio_0 (Z : ra_Z) (r : Int32) (w1 : ra_W) (k : Nat) (n : Nat) : Prop := ∀ (v1 : Int32) (w : ra_W), fX6_isRadio k n 0 v1 w = some (r, w1) → ra_J Z 2 0 [(0, .ref ((zG Z).1 134)), (1, .int v1)] [] w
set_option maxHeartbeats 4000000 in
theorem tX6_isRadio_0 {Z : ra_Z} {r : Int32} {w1 : ra_W} (C : ra_C Z cX6_isRadio 2 RX6 1 22) (hQ : ra_QI Z r w1) (hr : (zmt Z).sig.returnType = (some .boolean)) (k : Nat) (n : Nat) : pX6_isRadio_0 Z r w1 k (n + 1) := by
  intro v1 w hf
  rw [fX6_isRadio_0] at hf
  refine rg_iload_n (pc := 0) C 1 rfl rfl dX6_isRadio_0 ?_
  refine rg_iconst (pc := 1) (v := 0) C dX6_isRadio_1 (by decide) ?_
  refine rg_aload_n (pc := 2) C 0 rfl rfl dX6_isRadio_2 ?_
  refine rg_get (pc := 3) C 134 6 9 kd_134 (by decide) rfl inlX6 (by decide) wd_605 rfl dX6_isRadio_3 ?_
  refine rg_iconst (pc := 6) (v := 0) C dX6_isRadio_6 (by decide) ?_
  refine rg_iald (pc := 7) (j := 0) C 136 kd_136 (by decide) (by decide) dX6_isRadio_7 ?_
  refine rg_iconst (pc := 8) (v := 1) C dX6_isRadio_8 (by decide) ?_
  refine rg_isub (pc := 9) C dX6_isRadio_9 ?_
  obtain ⟨r1, w2, e3, hf⟩ := ra_bd hf
  refine rg_callSI (pc := 10) (As := [.int v1, .int 0, .int ((w 136 0) - 1)]) (st := []) C (kX6_in (zl Z) (zG Z) C.hj k _ _ _ _ _ _ e3) ysX6_in rfl wd_677 ⟨Nat.le_of_ble_eq_true rfl, Nat.le_of_ble_eq_true rfl⟩ rfl (Nat.le_of_ble_eq_true rfl) dX6_isRadio_10 ?_
  obtain ⟨g4, hf⟩ := ra_gd hf
  exact rg_zret (pc := 13) C hQ hr g4 hf dX6_isRadio_13
theorem tX6_isRadio {Z : ra_Z} {r : Int32} {w1 : ra_W} (C : ra_C Z cX6_isRadio 2 RX6 1 22) (hQ : ra_QI Z r w1) (hr : (zmt Z).sig.returnType = (some .boolean)) (k : Nat) : ∀ n : Nat, pX6_isRadio_0 Z r w1 k n := by
  intro n
  induction n with
  | zero => exact (fun _ _ h => by cases h)
  | succ n ih => exact tX6_isRadio_0 C hQ hr k n
theorem kX6_isRadio (l : Launch) (G : ra_G) (hj : ra_inj G) (k : Nat) (v1 : Int32) (w : ra_W) (r : Int32) (w1 : ra_W) (h : FX6_isRadio k v1 w = some (r, w1)) : ra_MI l G yX6_isRadio cX6_isRadio 2 (some .boolean) 1 22 [.ref (G.1 134), .int v1] w r w1 :=
  ra_entryI (own := RX6) (by decide) rfl (Nat.le_of_ble_eq_true rfl) hj (fun Z hl hG C hQ hr => by subst hl; subst hG; exact (tX6_isRadio C hQ hr k k) _ _ h)
theorem ysX6_isRadio : ra_YV yX6_isRadio cX6_isRadio 2 (some .boolean) 1 RX6 := ⟨⟨wd_7, wd_803, by decide, by decide, by decide⟩, wd_802, wp_44⟩
/-- TrunkRadioModel.rests -/
def fX6_rests (k : Nat) (b0 : Nat) : Nat → Nat → Int32 → ra_W → Option (Int32 × ra_W)
  | 0, _, _, _ => none
  | n + 1, L, v1, w => match L with
    | _ => if ra_in (13 + v1) 41 then if ra_in (20 + v1) 41 then if ra_in (27 + v1) 41 then if ra_in (34 + v1) 41 then some (0, (ra_st (ra_st (ra_st (ra_st w b0 (ra_ix (13 + v1)) 0) b0 (ra_ix (20 + v1)) 0) b0 (ra_ix (27 + v1)) 0) b0 (ra_ix (34 + v1)) 0)) else none else none else none else none
theorem fX6_rests_0 (k : Nat) (b0 : Nat) (n : Nat) (v1 : Int32) (w : ra_W) : fX6_rests k b0 (n + 1) 0 v1 w = (if ra_in (13 + v1) 41 then if ra_in (20 + v1) 41 then if ra_in (27 + v1) 41 then if ra_in (34 + v1) 41 then some (0, (ra_st (ra_st (ra_st (ra_st w b0 (ra_ix (13 + v1)) 0) b0 (ra_ix (20 + v1)) 0) b0 (ra_ix (27 + v1)) 0) b0 (ra_ix (34 + v1)) 0)) else none else none else none else none) := rfl
def FX6_rests (k : Nat) (b0 : Nat) (v1 : Int32) (w : ra_W) : Option (Int32 × ra_W) := fX6_rests k b0 k 0 v1 w
def pX6_rests_0 (Z : ra_Z) (r : Int32) (w1 : ra_W) (k : Nat) (b0 : Nat) (n : Nat) : Prop := ∀ (v1 : Int32) (w : ra_W), fX6_rests k b0 n 0 v1 w = some (r, w1) → ra_J Z 2 0 [(0, .ref ((zG Z).1 b0)), (1, .int v1)] [] w
set_option maxHeartbeats 4000000 in
theorem tX6_rests_0 {Z : ra_Z} {r : Int32} {w1 : ra_W} (C : ra_C Z cX6_rests 2 RX6 0 0) (hQ : ra_QV Z r w1) (hr : (zmt Z).sig.returnType = none) (k : Nat) (b0 : Nat) (h0 : ra_kd b0 = (10, 41)) (n : Nat) : pX6_rests_0 Z r w1 k b0 (n + 1) := by
  intro v1 w hf
  rw [fX6_rests_0] at hf
  refine rg_aload_n (pc := 0) C 0 rfl rfl dX6_rests_0 ?_
  refine rg_bipush (pc := 1) (v := 13) C dX6_rests_1 (by decide) ?_
  refine rg_iload_n (pc := 3) C 1 rfl rfl dX6_rests_3 ?_
  refine rg_iadd (pc := 4) C dX6_rests_4 ?_
  refine rg_iconst (pc := 5) (v := 0) C dX6_rests_5 (by decide) ?_
  obtain ⟨g1, hf⟩ := ra_gd hf
  refine rg_iast (pc := 6) (j := (ra_ix (13 + v1))) C b0 h0 rfl g1 dX6_rests_6 ?_
  refine rg_aload_n (pc := 7) C 0 rfl rfl dX6_rests_7 ?_
  refine rg_bipush (pc := 8) (v := 20) C dX6_rests_8 (by decide) ?_
  refine rg_iload_n (pc := 10) C 1 rfl rfl dX6_rests_10 ?_
  refine rg_iadd (pc := 11) C dX6_rests_11 ?_
  refine rg_iconst (pc := 12) (v := 0) C dX6_rests_12 (by decide) ?_
  obtain ⟨g2, hf⟩ := ra_gd hf
  refine rg_iast (pc := 13) (j := (ra_ix (20 + v1))) C b0 h0 rfl g2 dX6_rests_13 ?_
  refine rg_aload_n (pc := 14) C 0 rfl rfl dX6_rests_14 ?_
  refine rg_bipush (pc := 15) (v := 27) C dX6_rests_15 (by decide) ?_
  refine rg_iload_n (pc := 17) C 1 rfl rfl dX6_rests_17 ?_
  refine rg_iadd (pc := 18) C dX6_rests_18 ?_
  refine rg_iconst (pc := 19) (v := 0) C dX6_rests_19 (by decide) ?_
  obtain ⟨g3, hf⟩ := ra_gd hf
  refine rg_iast (pc := 20) (j := (ra_ix (27 + v1))) C b0 h0 rfl g3 dX6_rests_20 ?_
  refine rg_aload_n (pc := 21) C 0 rfl rfl dX6_rests_21 ?_
  refine rg_bipush (pc := 22) (v := 34) C dX6_rests_22 (by decide) ?_
  refine rg_iload_n (pc := 24) C 1 rfl rfl dX6_rests_24 ?_
  refine rg_iadd (pc := 25) C dX6_rests_25 ?_
  refine rg_iconst (pc := 26) (v := 0) C dX6_rests_26 (by decide) ?_
  obtain ⟨g4, hf⟩ := ra_gd hf
  refine rg_iast (pc := 27) (j := (ra_ix (34 + v1))) C b0 h0 rfl g4 dX6_rests_27 ?_
  exact rg_vret (pc := 28) C hQ hr hf dX6_rests_28
theorem tX6_rests {Z : ra_Z} {r : Int32} {w1 : ra_W} (C : ra_C Z cX6_rests 2 RX6 0 0) (hQ : ra_QV Z r w1) (hr : (zmt Z).sig.returnType = none) (k : Nat) (b0 : Nat) (h0 : ra_kd b0 = (10, 41)) : ∀ n : Nat, pX6_rests_0 Z r w1 k b0 n := by
  intro n
  induction n with
  | zero => exact (fun _ _ h => by cases h)
  | succ n ih => exact tX6_rests_0 C hQ hr k b0 h0 n
theorem kX6_rests (l : Launch) (G : ra_G) (hj : ra_inj G) (k : Nat) (b0 : Nat) (h0 : ra_kd b0 = (10, 41)) (v1 : Int32) (w : ra_W) (r : Int32) (w1 : ra_W) (h : FX6_rests k b0 v1 w = some (r, w1)) : ra_MV l G yX6_rests cX6_rests 2 none 0 0 [.ref (G.1 b0), .int v1] w r w1 :=
  ra_entryV (own := RX6) (by decide) rfl (Nat.le_of_ble_eq_true rfl) hj (fun Z hl hG C hQ hr => by subst hl; subst hG; exact (tX6_rests C hQ hr k b0 h0 k) _ _ h)
theorem ysX6_rests : ra_YS yX6_rests cX6_rests 2 none 2 := ⟨⟨wd_7, wd_752, by decide, by decide, by decide⟩, wd_751⟩
/-- TrunkRadioModel.becomes -/
def fX6_becomes (k : Nat) (b0 : Nat) : Nat → Nat → Int32 → Int32 → Int32 → ra_W → Option (Int32 × ra_W)
  | 0, _, _, _, _, _ => none
  | n + 1, L, v1, v2, v3, w => match L with
    | _ => if ra_in (13 + v1) 41 then if ra_in (20 + v1) 41 then some (0, (ra_st (ra_st w b0 (ra_ix (13 + v1)) v2) b0 (ra_ix (20 + v1)) v3)) else none else none
theorem fX6_becomes_0 (k : Nat) (b0 : Nat) (n : Nat) (v1 : Int32) (v2 : Int32) (v3 : Int32) (w : ra_W) : fX6_becomes k b0 (n + 1) 0 v1 v2 v3 w = (if ra_in (13 + v1) 41 then if ra_in (20 + v1) 41 then some (0, (ra_st (ra_st w b0 (ra_ix (13 + v1)) v2) b0 (ra_ix (20 + v1)) v3)) else none else none) := rfl
def FX6_becomes (k : Nat) (b0 : Nat) (v1 : Int32) (v2 : Int32) (v3 : Int32) (w : ra_W) : Option (Int32 × ra_W) := fX6_becomes k b0 k 0 v1 v2 v3 w
def pX6_becomes_0 (Z : ra_Z) (r : Int32) (w1 : ra_W) (k : Nat) (b0 : Nat) (n : Nat) : Prop := ∀ (v1 : Int32) (v2 : Int32) (v3 : Int32) (w : ra_W), fX6_becomes k b0 n 0 v1 v2 v3 w = some (r, w1) → ra_J Z 4 0 [(0, .ref ((zG Z).1 b0)), (1, .int v1), (2, .int v2), (3, .int v3)] [] w
set_option maxHeartbeats 4000000 in
theorem tX6_becomes_0 {Z : ra_Z} {r : Int32} {w1 : ra_W} (C : ra_C Z cX6_becomes 4 RX6 0 0) (hQ : ra_QV Z r w1) (hr : (zmt Z).sig.returnType = none) (k : Nat) (b0 : Nat) (h0 : ra_kd b0 = (10, 41)) (n : Nat) : pX6_becomes_0 Z r w1 k b0 (n + 1) := by
  intro v1 v2 v3 w hf
  rw [fX6_becomes_0] at hf
  refine rg_aload_n (pc := 0) C 0 rfl rfl dX6_becomes_0 ?_
  refine rg_bipush (pc := 1) (v := 13) C dX6_becomes_1 (by decide) ?_
  refine rg_iload_n (pc := 3) C 1 rfl rfl dX6_becomes_3 ?_
  refine rg_iadd (pc := 4) C dX6_becomes_4 ?_
  refine rg_iload_n (pc := 5) C 2 rfl rfl dX6_becomes_5 ?_
  obtain ⟨g1, hf⟩ := ra_gd hf
  refine rg_iast (pc := 6) (j := (ra_ix (13 + v1))) C b0 h0 rfl g1 dX6_becomes_6 ?_
  refine rg_aload_n (pc := 7) C 0 rfl rfl dX6_becomes_7 ?_
  refine rg_bipush (pc := 8) (v := 20) C dX6_becomes_8 (by decide) ?_
  refine rg_iload_n (pc := 10) C 1 rfl rfl dX6_becomes_10 ?_
  refine rg_iadd (pc := 11) C dX6_becomes_11 ?_
  refine rg_iload_n (pc := 12) C 3 rfl rfl dX6_becomes_12 ?_
  obtain ⟨g2, hf⟩ := ra_gd hf
  refine rg_iast (pc := 13) (j := (ra_ix (20 + v1))) C b0 h0 rfl g2 dX6_becomes_13 ?_
  exact rg_vret (pc := 14) C hQ hr hf dX6_becomes_14
theorem tX6_becomes {Z : ra_Z} {r : Int32} {w1 : ra_W} (C : ra_C Z cX6_becomes 4 RX6 0 0) (hQ : ra_QV Z r w1) (hr : (zmt Z).sig.returnType = none) (k : Nat) (b0 : Nat) (h0 : ra_kd b0 = (10, 41)) : ∀ n : Nat, pX6_becomes_0 Z r w1 k b0 n := by
  intro n
  induction n with
  | zero => exact (fun _ _ _ _ h => by cases h)
  | succ n ih => exact tX6_becomes_0 C hQ hr k b0 h0 n
theorem kX6_becomes (l : Launch) (G : ra_G) (hj : ra_inj G) (k : Nat) (b0 : Nat) (h0 : ra_kd b0 = (10, 41)) (v1 : Int32) (v2 : Int32) (v3 : Int32) (w : ra_W) (r : Int32) (w1 : ra_W) (h : FX6_becomes k b0 v1 v2 v3 w = some (r, w1)) : ra_MV l G yX6_becomes cX6_becomes 4 none 0 0 [.ref (G.1 b0), .int v1, .int v2, .int v3] w r w1 :=
  ra_entryV (own := RX6) (by decide) rfl (Nat.le_of_ble_eq_true rfl) hj (fun Z hl hG C hQ hr => by subst hl; subst hG; exact (tX6_becomes C hQ hr k b0 h0 k) _ _ _ _ h)
theorem ysX6_becomes : ra_YS yX6_becomes cX6_becomes 4 none 4 := ⟨⟨wd_7, wd_745, by decide, by decide, by decide⟩, wd_744⟩
/-- TrunkRadioModel.isSentAt -/
def fX6_isSentAt (k : Nat) (b1 : Nat) : Nat → Nat → Int32 → Int32 → ra_W → Option (Int32 × ra_W)
  | 0, _, _, _, _ => none
  | n + 1, L, v2, v3, w => match L with
    | _ => if ra_in (13 + v2) 41 then if (w b1 (ra_ix (13 + v2))) = 1 then (if ra_in (6 + v2) 41 then if (w b1 (ra_ix (6 + v2))) = v3 then (some (1, w)) else (some (0, w)) else none) else (some (0, w)) else none
theorem fX6_isSentAt_0 (k : Nat) (b1 : Nat) (n : Nat) (v2 : Int32) (v3 : Int32) (w : ra_W) : fX6_isSentAt k b1 (n + 1) 0 v2 v3 w = (if ra_in (13 + v2) 41 then if (w b1 (ra_ix (13 + v2))) = 1 then (if ra_in (6 + v2) 41 then if (w b1 (ra_ix (6 + v2))) = v3 then (some (1, w)) else (some (0, w)) else none) else (some (0, w)) else none) := rfl
def FX6_isSentAt (k : Nat) (b1 : Nat) (v2 : Int32) (v3 : Int32) (w : ra_W) : Option (Int32 × ra_W) := fX6_isSentAt k b1 k 0 v2 v3 w
def pX6_isSentAt_0 (Z : ra_Z) (r : Int32) (w1 : ra_W) (k : Nat) (b1 : Nat) (n : Nat) : Prop := ∀ (v2 : Int32) (v3 : Int32) (w : ra_W), fX6_isSentAt k b1 n 0 v2 v3 w = some (r, w1) → ra_J Z 4 0 [(0, .ref ((zG Z).1 134)), (1, .ref ((zG Z).1 b1)), (2, .int v2), (3, .int v3)] [] w
set_option maxHeartbeats 4000000 in
theorem tX6_isSentAt_0 {Z : ra_Z} {r : Int32} {w1 : ra_W} (C : ra_C Z cX6_isSentAt 4 RX6 0 0) (hQ : ra_QI Z r w1) (hr : (zmt Z).sig.returnType = (some .boolean)) (k : Nat) (b1 : Nat) (h1 : ra_kd b1 = (10, 41)) (n : Nat) : pX6_isSentAt_0 Z r w1 k b1 (n + 1) := by
  intro v2 v3 w hf
  rw [fX6_isSentAt_0] at hf
  refine rg_aload_n (pc := 0) C 1 rfl rfl dX6_isSentAt_0 ?_
  refine rg_bipush (pc := 1) (v := 13) C dX6_isSentAt_1 (by decide) ?_
  refine rg_iload_n (pc := 3) C 2 rfl rfl dX6_isSentAt_3 ?_
  refine rg_iadd (pc := 4) C dX6_isSentAt_4 ?_
  obtain ⟨g1, hf⟩ := ra_gd hf
  refine rg_iald (pc := 5) (j := (ra_ix (13 + v2))) C b1 h1 rfl g1 dX6_isSentAt_5 ?_
  refine rg_iconst (pc := 6) (v := 1) C dX6_isSentAt_6 (by decide) ?_
  refine rg_icmp_ne (pc := 7) (tgt := 24) C dX6_isSentAt_7 (by decide) (fun c2 => ?_) (fun c2 => ?_)
  · replace hf := ra_f hf c2
    refine rg_iconst (pc := 24) (v := 0) C dX6_isSentAt_24 (by decide) ?_
    exact rg_zret (pc := 25) C hQ hr (by decide) hf dX6_isSentAt_25
  · replace hf := ra_t hf c2
    refine rg_aload_n (pc := 10) C 1 rfl rfl dX6_isSentAt_10 ?_
    refine rg_bipush (pc := 11) (v := 6) C dX6_isSentAt_11 (by decide) ?_
    refine rg_iload_n (pc := 13) C 2 rfl rfl dX6_isSentAt_13 ?_
    refine rg_iadd (pc := 14) C dX6_isSentAt_14 ?_
    obtain ⟨g3, hf⟩ := ra_gd hf
    refine rg_iald (pc := 15) (j := (ra_ix (6 + v2))) C b1 h1 rfl g3 dX6_isSentAt_15 ?_
    refine rg_iload_n (pc := 16) C 3 rfl rfl dX6_isSentAt_16 ?_
    refine rg_icmp_ne (pc := 17) (tgt := 24) C dX6_isSentAt_17 (by decide) (fun c4 => ?_) (fun c4 => ?_)
    · replace hf := ra_f hf c4
      refine rg_iconst (pc := 24) (v := 0) C dX6_isSentAt_24 (by decide) ?_
      exact rg_zret (pc := 25) C hQ hr (by decide) hf dX6_isSentAt_25
    · replace hf := ra_t hf c4
      refine rg_iconst (pc := 20) (v := 1) C dX6_isSentAt_20 (by decide) ?_
      refine rg_goto (pc := 21) (tgt := 25) C dX6_isSentAt_21 (by decide) ?_
      exact rg_zret (pc := 25) C hQ hr (by decide) hf dX6_isSentAt_25
theorem tX6_isSentAt {Z : ra_Z} {r : Int32} {w1 : ra_W} (C : ra_C Z cX6_isSentAt 4 RX6 0 0) (hQ : ra_QI Z r w1) (hr : (zmt Z).sig.returnType = (some .boolean)) (k : Nat) (b1 : Nat) (h1 : ra_kd b1 = (10, 41)) : ∀ n : Nat, pX6_isSentAt_0 Z r w1 k b1 n := by
  intro n
  induction n with
  | zero => exact (fun _ _ _ h => by cases h)
  | succ n ih => exact tX6_isSentAt_0 C hQ hr k b1 h1 n
theorem kX6_isSentAt (l : Launch) (G : ra_G) (hj : ra_inj G) (k : Nat) (b1 : Nat) (h1 : ra_kd b1 = (10, 41)) (v2 : Int32) (v3 : Int32) (w : ra_W) (r : Int32) (w1 : ra_W) (h : FX6_isSentAt k b1 v2 v3 w = some (r, w1)) : ra_MI l G yX6_isSentAt cX6_isSentAt 4 (some .boolean) 0 0 [.ref (G.1 134), .ref (G.1 b1), .int v2, .int v3] w r w1 :=
  ra_entryI (own := RX6) (by decide) rfl (Nat.le_of_ble_eq_true rfl) hj (fun Z hl hG C hQ hr => by subst hl; subst hG; exact (tX6_isSentAt C hQ hr k b1 h1 k) _ _ _ h)
theorem ysX6_isSentAt : ra_YV yX6_isSentAt cX6_isSentAt 4 (some .boolean) 3 RX6 := ⟨⟨wd_7, wd_742, by decide, by decide, by decide⟩, wd_741, wp_32⟩
/-- TrunkRadioModel.heardAt -/
def fX6_heardAt (k : Nat) (b1 : Nat) : Nat → Nat → Int32 → Int32 → Int32 → Int32 → Int32 → Int32 → ra_W → Option (Int32 × ra_W)
  | 0, _, _, _, _, _, _, _, _ => none
  | n + 1, L, v2, v3, v4, v5, v6, s0, w => match L with
    | 0 => fX6_heardAt k b1 n 1 v2 0 (-9) (-9) ((w 136 0) - 1) 0 w
    | 1 => if v6 < 0 then (if v5 = (-9) then (if v3 = 1 then (some (v4, w)) else (some ((-9), w))) else (some (v5, w))) else (ra_bind (FX6_isSentAt k b1 v6 v2 w) (fun r4 w5 => if r4 = 0 then (fX6_heardAt k b1 n 3 v2 v3 v4 v5 v6 0 w5) else (if ra_in (27 + v6) 41 then if (w5 b1 (ra_ix (27 + v6))) = 1 then (fX6_heardAt k b1 n 2 v2 (v3 + 1) v6 0 v6 v6 w5) else (fX6_heardAt k b1 n 2 v2 (v3 + 1) v6 0 v6 v5 w5) else none)))
    | 2 => fX6_heardAt k b1 n 3 v2 v3 v4 s0 v6 0 w
    | _ => fX6_heardAt k b1 n 1 v2 v3 v4 v5 (v6 + (-1)) 0 w
theorem fX6_heardAt_0 (k : Nat) (b1 : Nat) (n : Nat) (v2 : Int32) (v3 : Int32) (v4 : Int32) (v5 : Int32) (v6 : Int32) (s0 : Int32) (w : ra_W) : fX6_heardAt k b1 (n + 1) 0 v2 v3 v4 v5 v6 s0 w = (fX6_heardAt k b1 n 1 v2 0 (-9) (-9) ((w 136 0) - 1) 0 w) := rfl
theorem fX6_heardAt_1 (k : Nat) (b1 : Nat) (n : Nat) (v2 : Int32) (v3 : Int32) (v4 : Int32) (v5 : Int32) (v6 : Int32) (s0 : Int32) (w : ra_W) : fX6_heardAt k b1 (n + 1) 1 v2 v3 v4 v5 v6 s0 w = (if v6 < 0 then (if v5 = (-9) then (if v3 = 1 then (some (v4, w)) else (some ((-9), w))) else (some (v5, w))) else (ra_bind (FX6_isSentAt k b1 v6 v2 w) (fun r4 w5 => if r4 = 0 then (fX6_heardAt k b1 n 3 v2 v3 v4 v5 v6 0 w5) else (if ra_in (27 + v6) 41 then if (w5 b1 (ra_ix (27 + v6))) = 1 then (fX6_heardAt k b1 n 2 v2 (v3 + 1) v6 0 v6 v6 w5) else (fX6_heardAt k b1 n 2 v2 (v3 + 1) v6 0 v6 v5 w5) else none)))) := rfl
theorem fX6_heardAt_2 (k : Nat) (b1 : Nat) (n : Nat) (v2 : Int32) (v3 : Int32) (v4 : Int32) (v5 : Int32) (v6 : Int32) (s0 : Int32) (w : ra_W) : fX6_heardAt k b1 (n + 1) 2 v2 v3 v4 v5 v6 s0 w = (fX6_heardAt k b1 n 3 v2 v3 v4 s0 v6 0 w) := rfl
theorem fX6_heardAt_3 (k : Nat) (b1 : Nat) (n : Nat) (v2 : Int32) (v3 : Int32) (v4 : Int32) (v5 : Int32) (v6 : Int32) (s0 : Int32) (w : ra_W) : fX6_heardAt k b1 (n + 1) 3 v2 v3 v4 v5 v6 s0 w = (fX6_heardAt k b1 n 1 v2 v3 v4 v5 (v6 + (-1)) 0 w) := rfl
def FX6_heardAt (k : Nat) (b1 : Nat) (v2 : Int32) (w : ra_W) : Option (Int32 × ra_W) := fX6_heardAt k b1 k 0 v2 0 0 0 0 0 w
def pX6_heardAt_0 (Z : ra_Z) (r : Int32) (w1 : ra_W) (k : Nat) (b1 : Nat) (n : Nat) : Prop := ∀ (v2 : Int32) (v3 : Int32) (v4 : Int32) (v5 : Int32) (v6 : Int32) (s0 : Int32) (w : ra_W), fX6_heardAt k b1 n 0 v2 v3 v4 v5 v6 s0 w = some (r, w1) → ra_J Z 7 0 [(0, .ref ((zG Z).1 134)), (1, .ref ((zG Z).1 b1)), (2, .int v2)] [] w
def pX6_heardAt_1 (Z : ra_Z) (r : Int32) (w1 : ra_W) (k : Nat) (b1 : Nat) (n : Nat) : Prop := ∀ (v2 : Int32) (v3 : Int32) (v4 : Int32) (v5 : Int32) (v6 : Int32) (s0 : Int32) (w : ra_W), fX6_heardAt k b1 n 1 v2 v3 v4 v5 v6 s0 w = some (r, w1) → ra_J Z 7 20 [(0, .ref ((zG Z).1 134)), (1, .ref ((zG Z).1 b1)), (2, .int v2), (3, .int v3), (4, .int v4), (5, .int v5), (6, .int v6)] [] w
def pX6_heardAt_2 (Z : ra_Z) (r : Int32) (w1 : ra_W) (k : Nat) (b1 : Nat) (n : Nat) : Prop := ∀ (v2 : Int32) (v3 : Int32) (v4 : Int32) (v5 : Int32) (v6 : Int32) (s0 : Int32) (w : ra_W), fX6_heardAt k b1 n 2 v2 v3 v4 v5 v6 s0 w = some (r, w1) → ra_J Z 7 61 [(0, .ref ((zG Z).1 134)), (1, .ref ((zG Z).1 b1)), (2, .int v2), (3, .int v3), (4, .int v4), (6, .int v6)] [.int s0] w
def pX6_heardAt_3 (Z : ra_Z) (r : Int32) (w1 : ra_W) (k : Nat) (b1 : Nat) (n : Nat) : Prop := ∀ (v2 : Int32) (v3 : Int32) (v4 : Int32) (v5 : Int32) (v6 : Int32) (s0 : Int32) (w : ra_W), fX6_heardAt k b1 n 3 v2 v3 v4 v5 v6 s0 w = some (r, w1) → ra_J Z 7 63 [(0, .ref ((zG Z).1 134)), (1, .ref ((zG Z).1 b1)), (2, .int v2), (3, .int v3), (4, .int v4), (5, .int v5), (6, .int v6)] [] w
set_option maxHeartbeats 4000000 in
theorem tX6_heardAt_0 {Z : ra_Z} {r : Int32} {w1 : ra_W} (C : ra_C Z cX6_heardAt 7 RX6 1 23) (hQ : ra_QI Z r w1) (hr : (zmt Z).sig.returnType = (some .int)) (k : Nat) (b1 : Nat) (h1 : ra_kd b1 = (10, 41)) (n : Nat) (ih1 : pX6_heardAt_1 Z r w1 k b1 n) : pX6_heardAt_0 Z r w1 k b1 (n + 1) := by
  intro v2 v3 v4 v5 v6 s0 w hf
  rw [fX6_heardAt_0] at hf
  refine rg_iconst (pc := 0) (v := 0) C dX6_heardAt_0 (by decide) ?_
  refine rg_istore_n (pc := 1) (lv' := [(0, .ref ((zG Z).1 134)), (1, .ref ((zG Z).1 b1)), (2, .int v2), (3, .int 0)]) C [1, 2, 3, 0] rfl rfl (by decide) dX6_heardAt_1 ?_
  refine rg_bipush (pc := 2) (v := (-9)) C dX6_heardAt_2 (by decide) ?_
  refine rg_istore (pc := 4) (lv' := [(0, .ref ((zG Z).1 134)), (1, .ref ((zG Z).1 b1)), (2, .int v2), (3, .int 0), (4, .int (-9))]) C [1, 2, 3, 4, 0] rfl (by decide) dX6_heardAt_4 ?_
  refine rg_bipush (pc := 6) (v := (-9)) C dX6_heardAt_6 (by decide) ?_
  refine rg_istore (pc := 8) (lv' := [(0, .ref ((zG Z).1 134)), (1, .ref ((zG Z).1 b1)), (2, .int v2), (3, .int 0), (4, .int (-9)), (5, .int (-9))]) C [1, 2, 3, 4, 5, 0] rfl (by decide) dX6_heardAt_8 ?_
  refine rg_aload_n (pc := 10) C 0 rfl rfl dX6_heardAt_10 ?_
  refine rg_get (pc := 11) C 134 6 9 kd_134 (by decide) rfl inlX6 (by decide) wd_605 rfl dX6_heardAt_11 ?_
  refine rg_iconst (pc := 14) (v := 0) C dX6_heardAt_14 (by decide) ?_
  refine rg_iald (pc := 15) (j := 0) C 136 kd_136 (by decide) (by decide) dX6_heardAt_15 ?_
  refine rg_iconst (pc := 16) (v := 1) C dX6_heardAt_16 (by decide) ?_
  refine rg_isub (pc := 17) C dX6_heardAt_17 ?_
  refine rg_istore (pc := 18) (lv' := [(0, .ref ((zG Z).1 134)), (1, .ref ((zG Z).1 b1)), (2, .int v2), (3, .int 0), (4, .int (-9)), (5, .int (-9)), (6, .int ((w 136 0) - 1))]) C [1, 2, 3, 4, 5, 6, 0] rfl (by decide) dX6_heardAt_18 ?_
  exact ih1 _ _ _ _ _ _ _ hf
set_option maxHeartbeats 4000000 in
theorem tX6_heardAt_1 {Z : ra_Z} {r : Int32} {w1 : ra_W} (C : ra_C Z cX6_heardAt 7 RX6 1 23) (hQ : ra_QI Z r w1) (hr : (zmt Z).sig.returnType = (some .int)) (k : Nat) (b1 : Nat) (h1 : ra_kd b1 = (10, 41)) (n : Nat) (ih2 : pX6_heardAt_2 Z r w1 k b1 n) (ih3 : pX6_heardAt_3 Z r w1 k b1 n) : pX6_heardAt_1 Z r w1 k b1 (n + 1) := by
  intro v2 v3 v4 v5 v6 s0 w hf
  rw [fX6_heardAt_1] at hf
  refine rg_iload (pc := 20) C 6 rfl dX6_heardAt_20 ?_
  refine rg_if_lt (pc := 22) (tgt := 69) C dX6_heardAt_22 (by decide) (fun c1 => ?_) (fun c1 => ?_)
  · replace hf := ra_t hf c1
    refine rg_iload (pc := 69) C 5 rfl dX6_heardAt_69 ?_
    refine rg_bipush (pc := 71) (v := (-9)) C dX6_heardAt_71 (by decide) ?_
    refine rg_icmp_eq (pc := 73) (tgt := 81) C dX6_heardAt_73 (by decide) (fun c2 => ?_) (fun c2 => ?_)
    · replace hf := ra_t hf c2
      refine rg_iload_n (pc := 81) C 3 rfl rfl dX6_heardAt_81 ?_
      refine rg_iconst (pc := 82) (v := 1) C dX6_heardAt_82 (by decide) ?_
      refine rg_icmp_ne (pc := 83) (tgt := 91) C dX6_heardAt_83 (by decide) (fun c3 => ?_) (fun c3 => ?_)
      · replace hf := ra_f hf c3
        refine rg_bipush (pc := 91) (v := (-9)) C dX6_heardAt_91 (by decide) ?_
        exact rg_iret (pc := 93) C hQ hr hf dX6_heardAt_93
      · replace hf := ra_t hf c3
        refine rg_iload (pc := 86) C 4 rfl dX6_heardAt_86 ?_
        refine rg_goto (pc := 88) (tgt := 93) C dX6_heardAt_88 (by decide) ?_
        exact rg_iret (pc := 93) C hQ hr hf dX6_heardAt_93
    · replace hf := ra_f hf c2
      refine rg_iload (pc := 76) C 5 rfl dX6_heardAt_76 ?_
      refine rg_goto (pc := 78) (tgt := 93) C dX6_heardAt_78 (by decide) ?_
      exact rg_iret (pc := 93) C hQ hr hf dX6_heardAt_93
  · replace hf := ra_f hf c1
    refine rg_aload_n (pc := 25) C 0 rfl rfl dX6_heardAt_25 ?_
    refine rg_aload_n (pc := 26) C 1 rfl rfl dX6_heardAt_26 ?_
    refine rg_iload (pc := 27) C 6 rfl dX6_heardAt_27 ?_
    refine rg_iload_n (pc := 29) C 2 rfl rfl dX6_heardAt_29 ?_
    obtain ⟨r4, w5, e6, hf⟩ := ra_bd hf
    refine rg_callVI (pc := 30) (As := [.ref ((zG Z).1 b1), .int v6, .int v2]) (st := []) C (kX6_isSentAt (zl Z) (zG Z) C.hj k b1 h1 _ _ _ _ _ e6) kd_134 (by decide) rfl ysX6_isSentAt rfl wd_739 ⟨Nat.le_of_ble_eq_true rfl, Nat.le_of_ble_eq_true rfl⟩ rfl (Nat.le_of_ble_eq_true rfl) dX6_heardAt_30 ?_
    refine rg_if_eq (pc := 33) (tgt := 63) C dX6_heardAt_33 (by decide) (fun c7 => ?_) (fun c7 => ?_)
    · replace hf := ra_t hf c7
      exact ih3 _ _ _ _ _ _ _ hf
    · replace hf := ra_f hf c7
      refine rg_iinc (pc := 36) (v := (v3 + 1)) (lv' := [(0, .ref ((zG Z).1 134)), (1, .ref ((zG Z).1 b1)), (2, .int v2), (3, .int (v3 + 1)), (4, .int v4), (5, .int v5), (6, .int v6)]) C 3 rfl [1, 2, 3, 0, 4, 5, 6] (ra_ii (by decide)) rfl (by decide) dX6_heardAt_36 ?_
      refine rg_iload (pc := 39) C 6 rfl dX6_heardAt_39 ?_
      refine rg_istore (pc := 41) (lv' := [(0, .ref ((zG Z).1 134)), (1, .ref ((zG Z).1 b1)), (2, .int v2), (3, .int (v3 + 1)), (4, .int v6), (5, .int v5), (6, .int v6)]) C [1, 2, 3, 4, 0, 5, 6] rfl (by decide) dX6_heardAt_41 ?_
      refine rg_aload_n (pc := 43) C 1 rfl rfl dX6_heardAt_43 ?_
      refine rg_bipush (pc := 44) (v := 27) C dX6_heardAt_44 (by decide) ?_
      refine rg_iload (pc := 46) C 6 rfl dX6_heardAt_46 ?_
      refine rg_iadd (pc := 48) C dX6_heardAt_48 ?_
      obtain ⟨g8, hf⟩ := ra_gd hf
      refine rg_iald (pc := 49) (j := (ra_ix (27 + v6))) C b1 h1 rfl g8 dX6_heardAt_49 ?_
      refine rg_iconst (pc := 50) (v := 1) C dX6_heardAt_50 (by decide) ?_
      refine rg_icmp_ne (pc := 51) (tgt := 59) C dX6_heardAt_51 (by decide) (fun c9 => ?_) (fun c9 => ?_)
      · replace hf := ra_f hf c9
        refine rg_iload (pc := 59) C 5 rfl dX6_heardAt_59 ?_
        refine rg_sub [0, 1, 2, 3, 4, 6] rfl ?_
        exact ih2 _ _ _ _ _ _ _ hf
      · replace hf := ra_t hf c9
        refine rg_iload (pc := 54) C 6 rfl dX6_heardAt_54 ?_
        refine rg_goto (pc := 56) (tgt := 61) C dX6_heardAt_56 (by decide) ?_
        refine rg_sub [0, 1, 2, 3, 4, 6] rfl ?_
        exact ih2 _ _ _ _ _ _ _ hf
set_option maxHeartbeats 4000000 in
theorem tX6_heardAt_2 {Z : ra_Z} {r : Int32} {w1 : ra_W} (C : ra_C Z cX6_heardAt 7 RX6 1 23) (hQ : ra_QI Z r w1) (hr : (zmt Z).sig.returnType = (some .int)) (k : Nat) (b1 : Nat) (h1 : ra_kd b1 = (10, 41)) (n : Nat) (ih3 : pX6_heardAt_3 Z r w1 k b1 n) : pX6_heardAt_2 Z r w1 k b1 (n + 1) := by
  intro v2 v3 v4 v5 v6 s0 w hf
  rw [fX6_heardAt_2] at hf
  refine rg_istore (pc := 61) (lv' := [(0, .ref ((zG Z).1 134)), (1, .ref ((zG Z).1 b1)), (2, .int v2), (3, .int v3), (4, .int v4), (5, .int s0), (6, .int v6)]) C [1, 2, 3, 4, 5, 0, 6] rfl (by decide) dX6_heardAt_61 ?_
  exact ih3 _ _ _ _ _ _ _ hf
set_option maxHeartbeats 4000000 in
theorem tX6_heardAt_3 {Z : ra_Z} {r : Int32} {w1 : ra_W} (C : ra_C Z cX6_heardAt 7 RX6 1 23) (hQ : ra_QI Z r w1) (hr : (zmt Z).sig.returnType = (some .int)) (k : Nat) (b1 : Nat) (h1 : ra_kd b1 = (10, 41)) (n : Nat) (ih1 : pX6_heardAt_1 Z r w1 k b1 n) : pX6_heardAt_3 Z r w1 k b1 (n + 1) := by
  intro v2 v3 v4 v5 v6 s0 w hf
  rw [fX6_heardAt_3] at hf
  refine rg_iinc (pc := 63) (v := (v6 + (-1))) (lv' := [(0, .ref ((zG Z).1 134)), (1, .ref ((zG Z).1 b1)), (2, .int v2), (3, .int v3), (4, .int v4), (5, .int v5), (6, .int (v6 + (-1)))]) C 6 rfl [1, 2, 3, 4, 5, 6, 0] (ra_ii (by decide)) rfl (by decide) dX6_heardAt_63 ?_
  refine rg_goto (pc := 66) (tgt := 20) C dX6_heardAt_66 (by decide) ?_
  exact ih1 _ _ _ _ _ _ _ hf
theorem tX6_heardAt {Z : ra_Z} {r : Int32} {w1 : ra_W} (C : ra_C Z cX6_heardAt 7 RX6 1 23) (hQ : ra_QI Z r w1) (hr : (zmt Z).sig.returnType = (some .int)) (k : Nat) (b1 : Nat) (h1 : ra_kd b1 = (10, 41)) : ∀ n : Nat, pX6_heardAt_0 Z r w1 k b1 n ∧ pX6_heardAt_1 Z r w1 k b1 n ∧ pX6_heardAt_2 Z r w1 k b1 n ∧ pX6_heardAt_3 Z r w1 k b1 n := by
  intro n
  induction n with
  | zero => exact ⟨(fun _ _ _ _ _ _ _ h => by cases h), (fun _ _ _ _ _ _ _ h => by cases h), (fun _ _ _ _ _ _ _ h => by cases h), (fun _ _ _ _ _ _ _ h => by cases h)⟩
  | succ n ih =>
    obtain ⟨ih0, ih1, ih2, ih3⟩ := ih
    exact ⟨tX6_heardAt_0 C hQ hr k b1 h1 n ih1, tX6_heardAt_1 C hQ hr k b1 h1 n ih2 ih3, tX6_heardAt_2 C hQ hr k b1 h1 n ih3, tX6_heardAt_3 C hQ hr k b1 h1 n ih1⟩
theorem kX6_heardAt (l : Launch) (G : ra_G) (hj : ra_inj G) (k : Nat) (b1 : Nat) (h1 : ra_kd b1 = (10, 41)) (v2 : Int32) (w : ra_W) (r : Int32) (w1 : ra_W) (h : FX6_heardAt k b1 v2 w = some (r, w1)) : ra_MI l G yX6_heardAt cX6_heardAt 7 (some .int) 1 23 [.ref (G.1 134), .ref (G.1 b1), .int v2] w r w1 :=
  ra_entryI (own := RX6) (by decide) rfl (Nat.le_of_ble_eq_true rfl) hj (fun Z hl hG C hQ hr => by subst hl; subst hG; exact (tX6_heardAt C hQ hr k b1 h1 k).1 _ _ _ _ _ _ _ h)
theorem ysX6_heardAt : ra_YV yX6_heardAt cX6_heardAt 7 (some .int) 2 RX6 := ⟨⟨wd_7, wd_738, by decide, by decide, by decide⟩, wd_737, wp_31⟩
/-- TrunkRadioModel.controls2 -/
def fX6_controls2 (k : Nat) (b1 : Nat) : Nat → Nat → Int32 → Int32 → Int32 → Int32 → Int32 → Int32 → ra_W → Option (Int32 × ra_W)
  | 0, _, _, _, _, _, _, _, _ => none
  | n + 1, L, v2, v3, v4, s0, s1, s2, w => match L with
    | 0 => ra_bind (FX6_heardAt k b1 v2 w) (fun r1 w2 => fX6_controls2 k b1 n 1 v2 r1 0 0 0 0 w2)
    | 1 => if (w 136 0) ≤ v4 then (some (0, w)) else (ra_bind (FX6_isSentAt k b1 v4 v2 w) (fun r2 w3 => if r2 = 0 then (fX6_controls2 k b1 n 4 v2 v3 v4 0 0 0 w3) else (if v4 = v3 then (fX6_controls2 k b1 n 2 v2 v3 v4 3 v4 0 w3) else (fX6_controls2 k b1 n 2 v2 v3 v4 2 v4 0 w3))))
    | 2 => if v4 = v3 then (fX6_controls2 k b1 n 3 v2 v3 v4 0 s0 s1 w) else (fX6_controls2 k b1 n 3 v2 v3 v4 (1 + (v4 - v4 / 3 * 3)) s0 s1 w)
    | 3 => ra_bind (FX6_becomes k b1 s2 s1 s0 w) (fun _ w2 => fX6_controls2 k b1 n 4 v2 v3 v4 0 0 0 w2)
    | _ => fX6_controls2 k b1 n 1 v2 v3 (v4 + 1) 0 0 0 w
theorem fX6_controls2_0 (k : Nat) (b1 : Nat) (n : Nat) (v2 : Int32) (v3 : Int32) (v4 : Int32) (s0 : Int32) (s1 : Int32) (s2 : Int32) (w : ra_W) : fX6_controls2 k b1 (n + 1) 0 v2 v3 v4 s0 s1 s2 w = (ra_bind (FX6_heardAt k b1 v2 w) (fun r1 w2 => fX6_controls2 k b1 n 1 v2 r1 0 0 0 0 w2)) := rfl
theorem fX6_controls2_1 (k : Nat) (b1 : Nat) (n : Nat) (v2 : Int32) (v3 : Int32) (v4 : Int32) (s0 : Int32) (s1 : Int32) (s2 : Int32) (w : ra_W) : fX6_controls2 k b1 (n + 1) 1 v2 v3 v4 s0 s1 s2 w = (if (w 136 0) ≤ v4 then (some (0, w)) else (ra_bind (FX6_isSentAt k b1 v4 v2 w) (fun r2 w3 => if r2 = 0 then (fX6_controls2 k b1 n 4 v2 v3 v4 0 0 0 w3) else (if v4 = v3 then (fX6_controls2 k b1 n 2 v2 v3 v4 3 v4 0 w3) else (fX6_controls2 k b1 n 2 v2 v3 v4 2 v4 0 w3))))) := rfl
theorem fX6_controls2_2 (k : Nat) (b1 : Nat) (n : Nat) (v2 : Int32) (v3 : Int32) (v4 : Int32) (s0 : Int32) (s1 : Int32) (s2 : Int32) (w : ra_W) : fX6_controls2 k b1 (n + 1) 2 v2 v3 v4 s0 s1 s2 w = (if v4 = v3 then (fX6_controls2 k b1 n 3 v2 v3 v4 0 s0 s1 w) else (fX6_controls2 k b1 n 3 v2 v3 v4 (1 + (v4 - v4 / 3 * 3)) s0 s1 w)) := rfl
theorem fX6_controls2_3 (k : Nat) (b1 : Nat) (n : Nat) (v2 : Int32) (v3 : Int32) (v4 : Int32) (s0 : Int32) (s1 : Int32) (s2 : Int32) (w : ra_W) : fX6_controls2 k b1 (n + 1) 3 v2 v3 v4 s0 s1 s2 w = (ra_bind (FX6_becomes k b1 s2 s1 s0 w) (fun _ w2 => fX6_controls2 k b1 n 4 v2 v3 v4 0 0 0 w2)) := rfl
theorem fX6_controls2_4 (k : Nat) (b1 : Nat) (n : Nat) (v2 : Int32) (v3 : Int32) (v4 : Int32) (s0 : Int32) (s1 : Int32) (s2 : Int32) (w : ra_W) : fX6_controls2 k b1 (n + 1) 4 v2 v3 v4 s0 s1 s2 w = (fX6_controls2 k b1 n 1 v2 v3 (v4 + 1) 0 0 0 w) := rfl
def FX6_controls2 (k : Nat) (b1 : Nat) (v2 : Int32) (w : ra_W) : Option (Int32 × ra_W) := fX6_controls2 k b1 k 0 v2 0 0 0 0 0 w
def pX6_controls2_0 (Z : ra_Z) (r : Int32) (w1 : ra_W) (k : Nat) (b1 : Nat) (n : Nat) : Prop := ∀ (v2 : Int32) (v3 : Int32) (v4 : Int32) (s0 : Int32) (s1 : Int32) (s2 : Int32) (w : ra_W), fX6_controls2 k b1 n 0 v2 v3 v4 s0 s1 s2 w = some (r, w1) → ra_J Z 5 0 [(0, .ref ((zG Z).1 134)), (1, .ref ((zG Z).1 b1)), (2, .int v2)] [] w
def pX6_controls2_1 (Z : ra_Z) (r : Int32) (w1 : ra_W) (k : Nat) (b1 : Nat) (n : Nat) : Prop := ∀ (v2 : Int32) (v3 : Int32) (v4 : Int32) (s0 : Int32) (s1 : Int32) (s2 : Int32) (w : ra_W), fX6_controls2 k b1 n 1 v2 v3 v4 s0 s1 s2 w = some (r, w1) → ra_J Z 5 10 [(0, .ref ((zG Z).1 134)), (1, .ref ((zG Z).1 b1)), (2, .int v2), (3, .int v3), (4, .int v4)] [] w
def pX6_controls2_2 (Z : ra_Z) (r : Int32) (w1 : ra_W) (k : Nat) (b1 : Nat) (n : Nat) : Prop := ∀ (v2 : Int32) (v3 : Int32) (v4 : Int32) (s0 : Int32) (s1 : Int32) (s2 : Int32) (w : ra_W), fX6_controls2 k b1 n 2 v2 v3 v4 s0 s1 s2 w = some (r, w1) → ra_J Z 5 46 [(0, .ref ((zG Z).1 134)), (1, .ref ((zG Z).1 b1)), (2, .int v2), (3, .int v3), (4, .int v4)] [.int s0, .int s1, .ref ((zG Z).1 b1)] w
def pX6_controls2_3 (Z : ra_Z) (r : Int32) (w1 : ra_W) (k : Nat) (b1 : Nat) (n : Nat) : Prop := ∀ (v2 : Int32) (v3 : Int32) (v4 : Int32) (s0 : Int32) (s1 : Int32) (s2 : Int32) (w : ra_W), fX6_controls2 k b1 n 3 v2 v3 v4 s0 s1 s2 w = some (r, w1) → ra_J Z 5 62 [(0, .ref ((zG Z).1 134)), (1, .ref ((zG Z).1 b1)), (2, .int v2), (3, .int v3), (4, .int v4)] [.int s0, .int s1, .int s2, .ref ((zG Z).1 b1)] w
def pX6_controls2_4 (Z : ra_Z) (r : Int32) (w1 : ra_W) (k : Nat) (b1 : Nat) (n : Nat) : Prop := ∀ (v2 : Int32) (v3 : Int32) (v4 : Int32) (s0 : Int32) (s1 : Int32) (s2 : Int32) (w : ra_W), fX6_controls2 k b1 n 4 v2 v3 v4 s0 s1 s2 w = some (r, w1) → ra_J Z 5 65 [(0, .ref ((zG Z).1 134)), (1, .ref ((zG Z).1 b1)), (2, .int v2), (3, .int v3), (4, .int v4)] [] w
set_option maxHeartbeats 4000000 in
theorem tX6_controls2_0 {Z : ra_Z} {r : Int32} {w1 : ra_W} (C : ra_C Z cX6_controls2 5 RX6 2 49) (hQ : ra_QV Z r w1) (hr : (zmt Z).sig.returnType = none) (k : Nat) (b1 : Nat) (h1 : ra_kd b1 = (10, 41)) (n : Nat) (ih1 : pX6_controls2_1 Z r w1 k b1 n) : pX6_controls2_0 Z r w1 k b1 (n + 1) := by
  intro v2 v3 v4 s0 s1 s2 w hf
  rw [fX6_controls2_0] at hf
  refine rg_aload_n (pc := 0) C 0 rfl rfl dX6_controls2_0 ?_
  refine rg_aload_n (pc := 1) C 1 rfl rfl dX6_controls2_1 ?_
  refine rg_iload_n (pc := 2) C 2 rfl rfl dX6_controls2_2 ?_
  obtain ⟨r1, w2, e3, hf⟩ := ra_bd hf
  refine rg_callVI (pc := 3) (As := [.ref ((zG Z).1 b1), .int v2]) (st := []) C (kX6_heardAt (zl Z) (zG Z) C.hj k b1 h1 _ _ _ _ e3) kd_134 (by decide) rfl ysX6_heardAt rfl wd_735 ⟨Nat.le_of_ble_eq_true rfl, Nat.le_of_ble_eq_true rfl⟩ rfl (Nat.le_of_ble_eq_true rfl) dX6_controls2_3 ?_
  refine rg_istore_n (pc := 6) (lv' := [(0, .ref ((zG Z).1 134)), (1, .ref ((zG Z).1 b1)), (2, .int v2), (3, .int r1)]) C [1, 2, 3, 0] rfl rfl (by decide) dX6_controls2_6 ?_
  refine rg_iconst (pc := 7) (v := 0) C dX6_controls2_7 (by decide) ?_
  refine rg_istore (pc := 8) (lv' := [(0, .ref ((zG Z).1 134)), (1, .ref ((zG Z).1 b1)), (2, .int v2), (3, .int r1), (4, .int 0)]) C [1, 2, 3, 4, 0] rfl (by decide) dX6_controls2_8 ?_
  exact ih1 _ _ _ _ _ _ _ hf
set_option maxHeartbeats 4000000 in
theorem tX6_controls2_1 {Z : ra_Z} {r : Int32} {w1 : ra_W} (C : ra_C Z cX6_controls2 5 RX6 2 49) (hQ : ra_QV Z r w1) (hr : (zmt Z).sig.returnType = none) (k : Nat) (b1 : Nat) (h1 : ra_kd b1 = (10, 41)) (n : Nat) (ih2 : pX6_controls2_2 Z r w1 k b1 n) (ih4 : pX6_controls2_4 Z r w1 k b1 n) : pX6_controls2_1 Z r w1 k b1 (n + 1) := by
  intro v2 v3 v4 s0 s1 s2 w hf
  rw [fX6_controls2_1] at hf
  refine rg_iload (pc := 10) C 4 rfl dX6_controls2_10 ?_
  refine rg_aload_n (pc := 12) C 0 rfl rfl dX6_controls2_12 ?_
  refine rg_get (pc := 13) C 134 6 9 kd_134 (by decide) rfl inlX6 (by decide) wd_605 rfl dX6_controls2_13 ?_
  refine rg_iconst (pc := 16) (v := 0) C dX6_controls2_16 (by decide) ?_
  refine rg_iald (pc := 17) (j := 0) C 136 kd_136 (by decide) (by decide) dX6_controls2_17 ?_
  refine rg_icmp_ge (pc := 18) (tgt := 71) C dX6_controls2_18 (by decide) (fun c1 => ?_) (fun c1 => ?_)
  · replace hf := ra_t hf c1
    exact rg_vret (pc := 71) C hQ hr hf dX6_controls2_71
  · replace hf := ra_f hf c1
    refine rg_aload_n (pc := 21) C 0 rfl rfl dX6_controls2_21 ?_
    refine rg_aload_n (pc := 22) C 1 rfl rfl dX6_controls2_22 ?_
    refine rg_iload (pc := 23) C 4 rfl dX6_controls2_23 ?_
    refine rg_iload_n (pc := 25) C 2 rfl rfl dX6_controls2_25 ?_
    obtain ⟨r2, w3, e4, hf⟩ := ra_bd hf
    refine rg_callVI (pc := 26) (As := [.ref ((zG Z).1 b1), .int v4, .int v2]) (st := []) C (kX6_isSentAt (zl Z) (zG Z) C.hj k b1 h1 _ _ _ _ _ e4) kd_134 (by decide) rfl ysX6_isSentAt rfl wd_739 ⟨Nat.le_of_ble_eq_true rfl, Nat.le_of_ble_eq_true rfl⟩ rfl (Nat.le_of_ble_eq_true rfl) dX6_controls2_26 ?_
    refine rg_if_eq (pc := 29) (tgt := 65) C dX6_controls2_29 (by decide) (fun c5 => ?_) (fun c5 => ?_)
    · replace hf := ra_t hf c5
      exact ih4 _ _ _ _ _ _ _ hf
    · replace hf := ra_f hf c5
      refine rg_aload_n (pc := 32) C 1 rfl rfl dX6_controls2_32 ?_
      refine rg_iload (pc := 33) C 4 rfl dX6_controls2_33 ?_
      refine rg_iload (pc := 35) C 4 rfl dX6_controls2_35 ?_
      refine rg_iload_n (pc := 37) C 3 rfl rfl dX6_controls2_37 ?_
      refine rg_icmp_ne (pc := 38) (tgt := 45) C dX6_controls2_38 (by decide) (fun c6 => ?_) (fun c6 => ?_)
      · replace hf := ra_f hf c6
        refine rg_iconst (pc := 45) (v := 2) C dX6_controls2_45 (by decide) ?_
        exact ih2 _ _ _ _ _ _ _ hf
      · replace hf := ra_t hf c6
        refine rg_iconst (pc := 41) (v := 3) C dX6_controls2_41 (by decide) ?_
        refine rg_goto (pc := 42) (tgt := 46) C dX6_controls2_42 (by decide) ?_
        exact ih2 _ _ _ _ _ _ _ hf
set_option maxHeartbeats 4000000 in
theorem tX6_controls2_2 {Z : ra_Z} {r : Int32} {w1 : ra_W} (C : ra_C Z cX6_controls2 5 RX6 2 49) (hQ : ra_QV Z r w1) (hr : (zmt Z).sig.returnType = none) (k : Nat) (b1 : Nat) (h1 : ra_kd b1 = (10, 41)) (n : Nat) (ih3 : pX6_controls2_3 Z r w1 k b1 n) : pX6_controls2_2 Z r w1 k b1 (n + 1) := by
  intro v2 v3 v4 s0 s1 s2 w hf
  rw [fX6_controls2_2] at hf
  refine rg_iload (pc := 46) C 4 rfl dX6_controls2_46 ?_
  refine rg_iload_n (pc := 48) C 3 rfl rfl dX6_controls2_48 ?_
  refine rg_icmp_ne (pc := 49) (tgt := 56) C dX6_controls2_49 (by decide) (fun c1 => ?_) (fun c1 => ?_)
  · replace hf := ra_f hf c1
    refine rg_iconst (pc := 56) (v := 1) C dX6_controls2_56 (by decide) ?_
    refine rg_iload (pc := 57) C 4 rfl dX6_controls2_57 ?_
    refine rg_iconst (pc := 59) (v := 3) C dX6_controls2_59 (by decide) ?_
    refine rg_irem (pc := 60) C (by decide) dX6_controls2_60 ?_
    refine rg_iadd (pc := 61) C dX6_controls2_61 ?_
    exact ih3 _ _ _ _ _ _ _ hf
  · replace hf := ra_t hf c1
    refine rg_iconst (pc := 52) (v := 0) C dX6_controls2_52 (by decide) ?_
    refine rg_goto (pc := 53) (tgt := 62) C dX6_controls2_53 (by decide) ?_
    exact ih3 _ _ _ _ _ _ _ hf
set_option maxHeartbeats 4000000 in
theorem tX6_controls2_3 {Z : ra_Z} {r : Int32} {w1 : ra_W} (C : ra_C Z cX6_controls2 5 RX6 2 49) (hQ : ra_QV Z r w1) (hr : (zmt Z).sig.returnType = none) (k : Nat) (b1 : Nat) (h1 : ra_kd b1 = (10, 41)) (n : Nat) (ih4 : pX6_controls2_4 Z r w1 k b1 n) : pX6_controls2_3 Z r w1 k b1 (n + 1) := by
  intro v2 v3 v4 s0 s1 s2 w hf
  rw [fX6_controls2_3] at hf
  obtain ⟨r1, w2, e3, hf⟩ := ra_bd hf
  refine rg_callSV (pc := 62) (As := [.ref ((zG Z).1 b1), .int s2, .int s1, .int s0]) (st := []) C (kX6_becomes (zl Z) (zG Z) C.hj k b1 h1 _ _ _ _ _ _ e3) ysX6_becomes rfl wd_743 ⟨Nat.le_of_ble_eq_true rfl, Nat.le_of_ble_eq_true rfl⟩ rfl (Nat.le_of_ble_eq_true rfl) dX6_controls2_62 ?_
  exact ih4 _ _ _ _ _ _ _ hf
set_option maxHeartbeats 4000000 in
theorem tX6_controls2_4 {Z : ra_Z} {r : Int32} {w1 : ra_W} (C : ra_C Z cX6_controls2 5 RX6 2 49) (hQ : ra_QV Z r w1) (hr : (zmt Z).sig.returnType = none) (k : Nat) (b1 : Nat) (h1 : ra_kd b1 = (10, 41)) (n : Nat) (ih1 : pX6_controls2_1 Z r w1 k b1 n) : pX6_controls2_4 Z r w1 k b1 (n + 1) := by
  intro v2 v3 v4 s0 s1 s2 w hf
  rw [fX6_controls2_4] at hf
  refine rg_iinc (pc := 65) (v := (v4 + 1)) (lv' := [(0, .ref ((zG Z).1 134)), (1, .ref ((zG Z).1 b1)), (2, .int v2), (3, .int v3), (4, .int (v4 + 1))]) C 4 rfl [1, 2, 3, 4, 0] (ra_ii (by decide)) rfl (by decide) dX6_controls2_65 ?_
  refine rg_goto (pc := 68) (tgt := 10) C dX6_controls2_68 (by decide) ?_
  exact ih1 _ _ _ _ _ _ _ hf
theorem tX6_controls2 {Z : ra_Z} {r : Int32} {w1 : ra_W} (C : ra_C Z cX6_controls2 5 RX6 2 49) (hQ : ra_QV Z r w1) (hr : (zmt Z).sig.returnType = none) (k : Nat) (b1 : Nat) (h1 : ra_kd b1 = (10, 41)) : ∀ n : Nat, pX6_controls2_0 Z r w1 k b1 n ∧ pX6_controls2_1 Z r w1 k b1 n ∧ pX6_controls2_2 Z r w1 k b1 n ∧ pX6_controls2_3 Z r w1 k b1 n ∧ pX6_controls2_4 Z r w1 k b1 n := by
  intro n
  induction n with
  | zero => exact ⟨(fun _ _ _ _ _ _ _ h => by cases h), (fun _ _ _ _ _ _ _ h => by cases h), (fun _ _ _ _ _ _ _ h => by cases h), (fun _ _ _ _ _ _ _ h => by cases h), (fun _ _ _ _ _ _ _ h => by cases h)⟩
  | succ n ih =>
    obtain ⟨ih0, ih1, ih2, ih3, ih4⟩ := ih
    exact ⟨tX6_controls2_0 C hQ hr k b1 h1 n ih1, tX6_controls2_1 C hQ hr k b1 h1 n ih2 ih4, tX6_controls2_2 C hQ hr k b1 h1 n ih3, tX6_controls2_3 C hQ hr k b1 h1 n ih4, tX6_controls2_4 C hQ hr k b1 h1 n ih1⟩
theorem kX6_controls2 (l : Launch) (G : ra_G) (hj : ra_inj G) (k : Nat) (b1 : Nat) (h1 : ra_kd b1 = (10, 41)) (v2 : Int32) (w : ra_W) (r : Int32) (w1 : ra_W) (h : FX6_controls2 k b1 v2 w = some (r, w1)) : ra_MV l G yX6_controls2 cX6_controls2 5 none 2 49 [.ref (G.1 134), .ref (G.1 b1), .int v2] w r w1 :=
  ra_entryV (own := RX6) (by decide) rfl (Nat.le_of_ble_eq_true rfl) hj (fun Z hl hG C hQ hr => by subst hl; subst hG; exact (tX6_controls2 C hQ hr k b1 h1 k).1 _ _ _ _ _ _ _ h)
theorem ysX6_controls2 : ra_YV yX6_controls2 cX6_controls2 5 none 2 RX6 := ⟨⟨wd_7, wd_734, by decide, by decide, by decide⟩, wd_733, wp_30⟩
/-- TrunkRadioModel.helpsItself -/
def fX6_helpsItself (k : Nat) (b1 : Nat) : Nat → Nat → Int32 → Int32 → Int32 → Int32 → Int32 → Int32 → ra_W → Option (Int32 × ra_W)
  | 0, _, _, _, _, _, _, _, _ => none
  | n + 1, L, v2, v3, v4, v5, v6, s0, w => match L with
    | 0 => if ra_in (3 + v2) 19 then fX6_helpsItself k b1 n 1 v2 (w 136 (ra_ix (3 + v2))) 0 0 0 0 w else none
    | 1 => if (w 136 0) ≤ v4 then (some (0, w)) else (ra_bind (FX6_isSentAt k b1 v4 v2 w) (fun r2 w3 => fX6_helpsItself k b1 n 2 v2 v3 v4 r2 0 0 w3))
    | 2 => if (w 136 0) ≤ v6 then (if v5 = 0 then (fX6_helpsItself k b1 n 8 v2 v3 v4 0 0 0 w) else (ra_bind (FX6_becomes k b1 v4 5 0 w) (fun _ w4 => fX6_helpsItself k b1 n 8 v2 v3 v4 0 0 0 (ra_st w4 b1 3 ((w4 b1 3) + 1))))) else (if ra_in (13 + v6) 41 then if (w b1 (ra_ix (13 + v6))) = 5 then (if ra_in (6 + v6) 41 then if (w b1 (ra_ix (6 + v6))) = v2 then (fX6_helpsItself k b1 n 4 v2 v3 v4 v5 v6 1 w) else (fX6_helpsItself k b1 n 3 v2 v3 v4 v5 v6 0 w) else none) else (fX6_helpsItself k b1 n 3 v2 v3 v4 v5 v6 0 w) else none)
    | 3 => fX6_helpsItself k b1 n 4 v2 v3 v4 v5 v6 0 w
    | 4 => if v5 = 0 then (fX6_helpsItself k b1 n 6 v2 v3 v4 0 v6 0 w) else (if s0 = 0 then (fX6_helpsItself k b1 n 5 v2 v3 v4 0 v6 0 w) else (if ra_in (5 + v6) 19 then if ¬ v3 = 0 then if ra_in (5 + v4) 19 then if ((w 136 (ra_ix (5 + v6))) - (w 136 (ra_ix (5 + v6))) / v3 * v3) = ((w 136 (ra_ix (5 + v4))) - (w 136 (ra_ix (5 + v4))) / v3 * v3) then (fX6_helpsItself k b1 n 6 v2 v3 v4 0 v6 0 w) else (fX6_helpsItself k b1 n 5 v2 v3 v4 0 v6 0 w) else none else none else none))
    | 5 => fX6_helpsItself k b1 n 7 v2 v3 v4 0 v6 1 w
    | 6 => fX6_helpsItself k b1 n 7 v2 v3 v4 0 v6 0 w
    | 7 => fX6_helpsItself k b1 n 2 v2 v3 v4 s0 (v6 + 1) 0 w
    | _ => fX6_helpsItself k b1 n 1 v2 v3 (v4 + 1) 0 0 0 w
theorem fX6_helpsItself_0 (k : Nat) (b1 : Nat) (n : Nat) (v2 : Int32) (v3 : Int32) (v4 : Int32) (v5 : Int32) (v6 : Int32) (s0 : Int32) (w : ra_W) : fX6_helpsItself k b1 (n + 1) 0 v2 v3 v4 v5 v6 s0 w = (if ra_in (3 + v2) 19 then fX6_helpsItself k b1 n 1 v2 (w 136 (ra_ix (3 + v2))) 0 0 0 0 w else none) := rfl
theorem fX6_helpsItself_1 (k : Nat) (b1 : Nat) (n : Nat) (v2 : Int32) (v3 : Int32) (v4 : Int32) (v5 : Int32) (v6 : Int32) (s0 : Int32) (w : ra_W) : fX6_helpsItself k b1 (n + 1) 1 v2 v3 v4 v5 v6 s0 w = (if (w 136 0) ≤ v4 then (some (0, w)) else (ra_bind (FX6_isSentAt k b1 v4 v2 w) (fun r2 w3 => fX6_helpsItself k b1 n 2 v2 v3 v4 r2 0 0 w3))) := rfl
theorem fX6_helpsItself_2 (k : Nat) (b1 : Nat) (n : Nat) (v2 : Int32) (v3 : Int32) (v4 : Int32) (v5 : Int32) (v6 : Int32) (s0 : Int32) (w : ra_W) : fX6_helpsItself k b1 (n + 1) 2 v2 v3 v4 v5 v6 s0 w = (if (w 136 0) ≤ v6 then (if v5 = 0 then (fX6_helpsItself k b1 n 8 v2 v3 v4 0 0 0 w) else (ra_bind (FX6_becomes k b1 v4 5 0 w) (fun _ w4 => fX6_helpsItself k b1 n 8 v2 v3 v4 0 0 0 (ra_st w4 b1 3 ((w4 b1 3) + 1))))) else (if ra_in (13 + v6) 41 then if (w b1 (ra_ix (13 + v6))) = 5 then (if ra_in (6 + v6) 41 then if (w b1 (ra_ix (6 + v6))) = v2 then (fX6_helpsItself k b1 n 4 v2 v3 v4 v5 v6 1 w) else (fX6_helpsItself k b1 n 3 v2 v3 v4 v5 v6 0 w) else none) else (fX6_helpsItself k b1 n 3 v2 v3 v4 v5 v6 0 w) else none)) := rfl
theorem fX6_helpsItself_3 (k : Nat) (b1 : Nat) (n : Nat) (v2 : Int32) (v3 : Int32) (v4 : Int32) (v5 : Int32) (v6 : Int32) (s0 : Int32) (w : ra_W) : fX6_helpsItself k b1 (n + 1) 3 v2 v3 v4 v5 v6 s0 w = (fX6_helpsItself k b1 n 4 v2 v3 v4 v5 v6 0 w) := rfl
theorem fX6_helpsItself_4 (k : Nat) (b1 : Nat) (n : Nat) (v2 : Int32) (v3 : Int32) (v4 : Int32) (v5 : Int32) (v6 : Int32) (s0 : Int32) (w : ra_W) : fX6_helpsItself k b1 (n + 1) 4 v2 v3 v4 v5 v6 s0 w = (if v5 = 0 then (fX6_helpsItself k b1 n 6 v2 v3 v4 0 v6 0 w) else (if s0 = 0 then (fX6_helpsItself k b1 n 5 v2 v3 v4 0 v6 0 w) else (if ra_in (5 + v6) 19 then if ¬ v3 = 0 then if ra_in (5 + v4) 19 then if ((w 136 (ra_ix (5 + v6))) - (w 136 (ra_ix (5 + v6))) / v3 * v3) = ((w 136 (ra_ix (5 + v4))) - (w 136 (ra_ix (5 + v4))) / v3 * v3) then (fX6_helpsItself k b1 n 6 v2 v3 v4 0 v6 0 w) else (fX6_helpsItself k b1 n 5 v2 v3 v4 0 v6 0 w) else none else none else none))) := rfl
theorem fX6_helpsItself_5 (k : Nat) (b1 : Nat) (n : Nat) (v2 : Int32) (v3 : Int32) (v4 : Int32) (v5 : Int32) (v6 : Int32) (s0 : Int32) (w : ra_W) : fX6_helpsItself k b1 (n + 1) 5 v2 v3 v4 v5 v6 s0 w = (fX6_helpsItself k b1 n 7 v2 v3 v4 0 v6 1 w) := rfl
theorem fX6_helpsItself_6 (k : Nat) (b1 : Nat) (n : Nat) (v2 : Int32) (v3 : Int32) (v4 : Int32) (v5 : Int32) (v6 : Int32) (s0 : Int32) (w : ra_W) : fX6_helpsItself k b1 (n + 1) 6 v2 v3 v4 v5 v6 s0 w = (fX6_helpsItself k b1 n 7 v2 v3 v4 0 v6 0 w) := rfl
theorem fX6_helpsItself_7 (k : Nat) (b1 : Nat) (n : Nat) (v2 : Int32) (v3 : Int32) (v4 : Int32) (v5 : Int32) (v6 : Int32) (s0 : Int32) (w : ra_W) : fX6_helpsItself k b1 (n + 1) 7 v2 v3 v4 v5 v6 s0 w = (fX6_helpsItself k b1 n 2 v2 v3 v4 s0 (v6 + 1) 0 w) := rfl
theorem fX6_helpsItself_8 (k : Nat) (b1 : Nat) (n : Nat) (v2 : Int32) (v3 : Int32) (v4 : Int32) (v5 : Int32) (v6 : Int32) (s0 : Int32) (w : ra_W) : fX6_helpsItself k b1 (n + 1) 8 v2 v3 v4 v5 v6 s0 w = (fX6_helpsItself k b1 n 1 v2 v3 (v4 + 1) 0 0 0 w) := rfl
def FX6_helpsItself (k : Nat) (b1 : Nat) (v2 : Int32) (w : ra_W) : Option (Int32 × ra_W) := fX6_helpsItself k b1 k 0 v2 0 0 0 0 0 w
def pX6_helpsItself_0 (Z : ra_Z) (r : Int32) (w1 : ra_W) (k : Nat) (b1 : Nat) (n : Nat) : Prop := ∀ (v2 : Int32) (v3 : Int32) (v4 : Int32) (v5 : Int32) (v6 : Int32) (s0 : Int32) (w : ra_W), fX6_helpsItself k b1 n 0 v2 v3 v4 v5 v6 s0 w = some (r, w1) → ra_J Z 8 0 [(0, .ref ((zG Z).1 134)), (1, .ref ((zG Z).1 b1)), (2, .int v2)] [] w
def pX6_helpsItself_1 (Z : ra_Z) (r : Int32) (w1 : ra_W) (k : Nat) (b1 : Nat) (n : Nat) : Prop := ∀ (v2 : Int32) (v3 : Int32) (v4 : Int32) (v5 : Int32) (v6 : Int32) (s0 : Int32) (w : ra_W), fX6_helpsItself k b1 n 1 v2 v3 v4 v5 v6 s0 w = some (r, w1) → ra_J Z 8 12 [(0, .ref ((zG Z).1 134)), (1, .ref ((zG Z).1 b1)), (2, .int v2), (3, .int v3), (4, .int v4)] [] w
def pX6_helpsItself_2 (Z : ra_Z) (r : Int32) (w1 : ra_W) (k : Nat) (b1 : Nat) (n : Nat) : Prop := ∀ (v2 : Int32) (v3 : Int32) (v4 : Int32) (v5 : Int32) (v6 : Int32) (s0 : Int32) (w : ra_W), fX6_helpsItself k b1 n 2 v2 v3 v4 v5 v6 s0 w = some (r, w1) → ra_J Z 8 36 [(0, .ref ((zG Z).1 134)), (1, .ref ((zG Z).1 b1)), (2, .int v2), (3, .int v3), (4, .int v4), (5, .int v5), (6, .int v6)] [] w
def pX6_helpsItself_3 (Z : ra_Z) (r : Int32) (w1 : ra_W) (k : Nat) (b1 : Nat) (n : Nat) : Prop := ∀ (v2 : Int32) (v3 : Int32) (v4 : Int32) (v5 : Int32) (v6 : Int32) (s0 : Int32) (w : ra_W), fX6_helpsItself k b1 n 3 v2 v3 v4 v5 v6 s0 w = some (r, w1) → ra_J Z 8 73 [(0, .ref ((zG Z).1 134)), (1, .ref ((zG Z).1 b1)), (2, .int v2), (3, .int v3), (4, .int v4), (5, .int v5), (6, .int v6)] [] w
def pX6_helpsItself_4 (Z : ra_Z) (r : Int32) (w1 : ra_W) (k : Nat) (b1 : Nat) (n : Nat) : Prop := ∀ (v2 : Int32) (v3 : Int32) (v4 : Int32) (v5 : Int32) (v6 : Int32) (s0 : Int32) (w : ra_W), fX6_helpsItself k b1 n 4 v2 v3 v4 v5 v6 s0 w = some (r, w1) → ra_J Z 8 74 [(0, .ref ((zG Z).1 134)), (1, .ref ((zG Z).1 b1)), (2, .int v2), (3, .int v3), (4, .int v4), (5, .int v5), (6, .int v6)] [.int s0] w
def pX6_helpsItself_5 (Z : ra_Z) (r : Int32) (w1 : ra_W) (k : Nat) (b1 : Nat) (n : Nat) : Prop := ∀ (v2 : Int32) (v3 : Int32) (v4 : Int32) (v5 : Int32) (v6 : Int32) (s0 : Int32) (w : ra_W), fX6_helpsItself k b1 n 5 v2 v3 v4 v5 v6 s0 w = some (r, w1) → ra_J Z 8 111 [(0, .ref ((zG Z).1 134)), (1, .ref ((zG Z).1 b1)), (2, .int v2), (3, .int v3), (4, .int v4), (6, .int v6)] [] w
def pX6_helpsItself_6 (Z : ra_Z) (r : Int32) (w1 : ra_W) (k : Nat) (b1 : Nat) (n : Nat) : Prop := ∀ (v2 : Int32) (v3 : Int32) (v4 : Int32) (v5 : Int32) (v6 : Int32) (s0 : Int32) (w : ra_W), fX6_helpsItself k b1 n 6 v2 v3 v4 v5 v6 s0 w = some (r, w1) → ra_J Z 8 115 [(0, .ref ((zG Z).1 134)), (1, .ref ((zG Z).1 b1)), (2, .int v2), (3, .int v3), (4, .int v4), (6, .int v6)] [] w
def pX6_helpsItself_7 (Z : ra_Z) (r : Int32) (w1 : ra_W) (k : Nat) (b1 : Nat) (n : Nat) : Prop := ∀ (v2 : Int32) (v3 : Int32) (v4 : Int32) (v5 : Int32) (v6 : Int32) (s0 : Int32) (w : ra_W), fX6_helpsItself k b1 n 7 v2 v3 v4 v5 v6 s0 w = some (r, w1) → ra_J Z 8 116 [(0, .ref ((zG Z).1 134)), (1, .ref ((zG Z).1 b1)), (2, .int v2), (3, .int v3), (4, .int v4), (6, .int v6)] [.int s0] w
def pX6_helpsItself_8 (Z : ra_Z) (r : Int32) (w1 : ra_W) (k : Nat) (b1 : Nat) (n : Nat) : Prop := ∀ (v2 : Int32) (v3 : Int32) (v4 : Int32) (v5 : Int32) (v6 : Int32) (s0 : Int32) (w : ra_W), fX6_helpsItself k b1 n 8 v2 v3 v4 v5 v6 s0 w = some (r, w1) → ra_J Z 8 144 [(0, .ref ((zG Z).1 134)), (1, .ref ((zG Z).1 b1)), (2, .int v2), (3, .int v3), (4, .int v4)] [] w
set_option maxHeartbeats 4000000 in
theorem tX6_helpsItself_0 {Z : ra_Z} {r : Int32} {w1 : ra_W} (C : ra_C Z cX6_helpsItself 8 RX6 1 23) (hQ : ra_QV Z r w1) (hr : (zmt Z).sig.returnType = none) (k : Nat) (b1 : Nat) (h1 : ra_kd b1 = (10, 41)) (n : Nat) (ih1 : pX6_helpsItself_1 Z r w1 k b1 n) : pX6_helpsItself_0 Z r w1 k b1 (n + 1) := by
  intro v2 v3 v4 v5 v6 s0 w hf
  rw [fX6_helpsItself_0] at hf
  refine rg_aload_n (pc := 0) C 0 rfl rfl dX6_helpsItself_0 ?_
  refine rg_get (pc := 1) C 134 6 9 kd_134 (by decide) rfl inlX6 (by decide) wd_605 rfl dX6_helpsItself_1 ?_
  refine rg_iconst (pc := 4) (v := 3) C dX6_helpsItself_4 (by decide) ?_
  refine rg_iload_n (pc := 5) C 2 rfl rfl dX6_helpsItself_5 ?_
  refine rg_iadd (pc := 6) C dX6_helpsItself_6 ?_
  obtain ⟨g1, hf⟩ := ra_gd hf
  refine rg_iald (pc := 7) (j := (ra_ix (3 + v2))) C 136 kd_136 rfl g1 dX6_helpsItself_7 ?_
  refine rg_istore_n (pc := 8) (lv' := [(0, .ref ((zG Z).1 134)), (1, .ref ((zG Z).1 b1)), (2, .int v2), (3, .int (w 136 (ra_ix (3 + v2))))]) C [1, 2, 3, 0] rfl rfl (by decide) dX6_helpsItself_8 ?_
  refine rg_iconst (pc := 9) (v := 0) C dX6_helpsItself_9 (by decide) ?_
  refine rg_istore (pc := 10) (lv' := [(0, .ref ((zG Z).1 134)), (1, .ref ((zG Z).1 b1)), (2, .int v2), (3, .int (w 136 (ra_ix (3 + v2)))), (4, .int 0)]) C [1, 2, 3, 4, 0] rfl (by decide) dX6_helpsItself_10 ?_
  exact ih1 _ _ _ _ _ _ _ hf
set_option maxHeartbeats 4000000 in
theorem tX6_helpsItself_1 {Z : ra_Z} {r : Int32} {w1 : ra_W} (C : ra_C Z cX6_helpsItself 8 RX6 1 23) (hQ : ra_QV Z r w1) (hr : (zmt Z).sig.returnType = none) (k : Nat) (b1 : Nat) (h1 : ra_kd b1 = (10, 41)) (n : Nat) (ih2 : pX6_helpsItself_2 Z r w1 k b1 n) : pX6_helpsItself_1 Z r w1 k b1 (n + 1) := by
  intro v2 v3 v4 v5 v6 s0 w hf
  rw [fX6_helpsItself_1] at hf
  refine rg_iload (pc := 12) C 4 rfl dX6_helpsItself_12 ?_
  refine rg_aload_n (pc := 14) C 0 rfl rfl dX6_helpsItself_14 ?_
  refine rg_get (pc := 15) C 134 6 9 kd_134 (by decide) rfl inlX6 (by decide) wd_605 rfl dX6_helpsItself_15 ?_
  refine rg_iconst (pc := 18) (v := 0) C dX6_helpsItself_18 (by decide) ?_
  refine rg_iald (pc := 19) (j := 0) C 136 kd_136 (by decide) (by decide) dX6_helpsItself_19 ?_
  refine rg_icmp_ge (pc := 20) (tgt := 150) C dX6_helpsItself_20 (by decide) (fun c1 => ?_) (fun c1 => ?_)
  · replace hf := ra_t hf c1
    exact rg_vret (pc := 150) C hQ hr hf dX6_helpsItself_150
  · replace hf := ra_f hf c1
    refine rg_aload_n (pc := 23) C 0 rfl rfl dX6_helpsItself_23 ?_
    refine rg_aload_n (pc := 24) C 1 rfl rfl dX6_helpsItself_24 ?_
    refine rg_iload (pc := 25) C 4 rfl dX6_helpsItself_25 ?_
    refine rg_iload_n (pc := 27) C 2 rfl rfl dX6_helpsItself_27 ?_
    obtain ⟨r2, w3, e4, hf⟩ := ra_bd hf
    refine rg_callVI (pc := 28) (As := [.ref ((zG Z).1 b1), .int v4, .int v2]) (st := []) C (kX6_isSentAt (zl Z) (zG Z) C.hj k b1 h1 _ _ _ _ _ e4) kd_134 (by decide) rfl ysX6_isSentAt rfl wd_739 ⟨Nat.le_of_ble_eq_true rfl, Nat.le_of_ble_eq_true rfl⟩ rfl (Nat.le_of_ble_eq_true rfl) dX6_helpsItself_28 ?_
    refine rg_istore (pc := 31) (lv' := [(0, .ref ((zG Z).1 134)), (1, .ref ((zG Z).1 b1)), (2, .int v2), (3, .int v3), (4, .int v4), (5, .int r2)]) C [1, 2, 3, 4, 5, 0] rfl (by decide) dX6_helpsItself_31 ?_
    refine rg_iconst (pc := 33) (v := 0) C dX6_helpsItself_33 (by decide) ?_
    refine rg_istore (pc := 34) (lv' := [(0, .ref ((zG Z).1 134)), (1, .ref ((zG Z).1 b1)), (2, .int v2), (3, .int v3), (4, .int v4), (5, .int r2), (6, .int 0)]) C [1, 2, 3, 4, 5, 6, 0] rfl (by decide) dX6_helpsItself_34 ?_
    exact ih2 _ _ _ _ _ _ _ hf
set_option maxHeartbeats 4000000 in
theorem tX6_helpsItself_2 {Z : ra_Z} {r : Int32} {w1 : ra_W} (C : ra_C Z cX6_helpsItself 8 RX6 1 23) (hQ : ra_QV Z r w1) (hr : (zmt Z).sig.returnType = none) (k : Nat) (b1 : Nat) (h1 : ra_kd b1 = (10, 41)) (n : Nat) (ih3 : pX6_helpsItself_3 Z r w1 k b1 n) (ih4 : pX6_helpsItself_4 Z r w1 k b1 n) (ih8 : pX6_helpsItself_8 Z r w1 k b1 n) : pX6_helpsItself_2 Z r w1 k b1 (n + 1) := by
  intro v2 v3 v4 v5 v6 s0 w hf
  rw [fX6_helpsItself_2] at hf
  refine rg_iload (pc := 36) C 6 rfl dX6_helpsItself_36 ?_
  refine rg_aload_n (pc := 38) C 0 rfl rfl dX6_helpsItself_38 ?_
  refine rg_get (pc := 39) C 134 6 9 kd_134 (by decide) rfl inlX6 (by decide) wd_605 rfl dX6_helpsItself_39 ?_
  refine rg_iconst (pc := 42) (v := 0) C dX6_helpsItself_42 (by decide) ?_
  refine rg_iald (pc := 43) (j := 0) C 136 kd_136 (by decide) (by decide) dX6_helpsItself_43 ?_
  refine rg_icmp_ge (pc := 44) (tgt := 124) C dX6_helpsItself_44 (by decide) (fun c1 => ?_) (fun c1 => ?_)
  · replace hf := ra_t hf c1
    refine rg_iload (pc := 124) C 5 rfl dX6_helpsItself_124 ?_
    refine rg_if_eq (pc := 126) (tgt := 144) C dX6_helpsItself_126 (by decide) (fun c2 => ?_) (fun c2 => ?_)
    · replace hf := ra_t hf c2
      refine rg_sub [0, 1, 2, 3, 4] rfl ?_
      exact ih8 _ _ _ _ _ _ _ hf
    · replace hf := ra_f hf c2
      refine rg_aload_n (pc := 129) C 1 rfl rfl dX6_helpsItself_129 ?_
      refine rg_iload (pc := 130) C 4 rfl dX6_helpsItself_130 ?_
      refine rg_iconst (pc := 132) (v := 5) C dX6_helpsItself_132 (by decide) ?_
      refine rg_iconst (pc := 133) (v := 0) C dX6_helpsItself_133 (by decide) ?_
      obtain ⟨r3, w4, e5, hf⟩ := ra_bd hf
      refine rg_callSV (pc := 134) (As := [.ref ((zG Z).1 b1), .int v4, .int 5, .int 0]) (st := []) C (kX6_becomes (zl Z) (zG Z) C.hj k b1 h1 _ _ _ _ _ _ e5) ysX6_becomes rfl wd_743 ⟨Nat.le_of_ble_eq_true rfl, Nat.le_of_ble_eq_true rfl⟩ rfl (Nat.le_of_ble_eq_true rfl) dX6_helpsItself_134 ?_
      refine rg_aload_n (pc := 137) C 1 rfl rfl dX6_helpsItself_137 ?_
      refine rg_iconst (pc := 138) (v := 3) C dX6_helpsItself_138 (by decide) ?_
      refine rg_dup2 (pc := 139) C rfl rfl dX6_helpsItself_139 ?_
      refine rg_iald (pc := 140) (j := 3) C b1 h1 (by decide) (by decide) dX6_helpsItself_140 ?_
      refine rg_iconst (pc := 141) (v := 1) C dX6_helpsItself_141 (by decide) ?_
      refine rg_iadd (pc := 142) C dX6_helpsItself_142 ?_
      refine rg_iast (pc := 143) (j := 3) C b1 h1 (by decide) (by decide) dX6_helpsItself_143 ?_
      refine rg_sub [0, 1, 2, 3, 4] rfl ?_
      exact ih8 _ _ _ _ _ _ _ hf
  · replace hf := ra_f hf c1
    refine rg_aload_n (pc := 47) C 1 rfl rfl dX6_helpsItself_47 ?_
    refine rg_bipush (pc := 48) (v := 13) C dX6_helpsItself_48 (by decide) ?_
    refine rg_iload (pc := 50) C 6 rfl dX6_helpsItself_50 ?_
    refine rg_iadd (pc := 52) C dX6_helpsItself_52 ?_
    obtain ⟨g6, hf⟩ := ra_gd hf
    refine rg_iald (pc := 53) (j := (ra_ix (13 + v6))) C b1 h1 rfl g6 dX6_helpsItself_53 ?_
    refine rg_iconst (pc := 54) (v := 5) C dX6_helpsItself_54 (by decide) ?_
    refine rg_icmp_ne (pc := 55) (tgt := 73) C dX6_helpsItself_55 (by decide) (fun c7 => ?_) (fun c7 => ?_)
    · replace hf := ra_f hf c7
      exact ih3 _ _ _ _ _ _ _ hf
    · replace hf := ra_t hf c7
      refine rg_aload_n (pc := 58) C 1 rfl rfl dX6_helpsItself_58 ?_
      refine rg_bipush (pc := 59) (v := 6) C dX6_helpsItself_59 (by decide) ?_
      refine rg_iload (pc := 61) C 6 rfl dX6_helpsItself_61 ?_
      refine rg_iadd (pc := 63) C dX6_helpsItself_63 ?_
      obtain ⟨g8, hf⟩ := ra_gd hf
      refine rg_iald (pc := 64) (j := (ra_ix (6 + v6))) C b1 h1 rfl g8 dX6_helpsItself_64 ?_
      refine rg_iload_n (pc := 65) C 2 rfl rfl dX6_helpsItself_65 ?_
      refine rg_icmp_ne (pc := 66) (tgt := 73) C dX6_helpsItself_66 (by decide) (fun c9 => ?_) (fun c9 => ?_)
      · replace hf := ra_f hf c9
        exact ih3 _ _ _ _ _ _ _ hf
      · replace hf := ra_t hf c9
        refine rg_iconst (pc := 69) (v := 1) C dX6_helpsItself_69 (by decide) ?_
        refine rg_goto (pc := 70) (tgt := 74) C dX6_helpsItself_70 (by decide) ?_
        exact ih4 _ _ _ _ _ _ _ hf
set_option maxHeartbeats 4000000 in
theorem tX6_helpsItself_3 {Z : ra_Z} {r : Int32} {w1 : ra_W} (C : ra_C Z cX6_helpsItself 8 RX6 1 23) (hQ : ra_QV Z r w1) (hr : (zmt Z).sig.returnType = none) (k : Nat) (b1 : Nat) (h1 : ra_kd b1 = (10, 41)) (n : Nat) (ih4 : pX6_helpsItself_4 Z r w1 k b1 n) : pX6_helpsItself_3 Z r w1 k b1 (n + 1) := by
  intro v2 v3 v4 v5 v6 s0 w hf
  rw [fX6_helpsItself_3] at hf
  refine rg_iconst (pc := 73) (v := 0) C dX6_helpsItself_73 (by decide) ?_
  exact ih4 _ _ _ _ _ _ _ hf
set_option maxHeartbeats 4000000 in
theorem tX6_helpsItself_4 {Z : ra_Z} {r : Int32} {w1 : ra_W} (C : ra_C Z cX6_helpsItself 8 RX6 1 23) (hQ : ra_QV Z r w1) (hr : (zmt Z).sig.returnType = none) (k : Nat) (b1 : Nat) (h1 : ra_kd b1 = (10, 41)) (n : Nat) (ih5 : pX6_helpsItself_5 Z r w1 k b1 n) (ih6 : pX6_helpsItself_6 Z r w1 k b1 n) : pX6_helpsItself_4 Z r w1 k b1 (n + 1) := by
  intro v2 v3 v4 v5 v6 s0 w hf
  rw [fX6_helpsItself_4] at hf
  refine rg_istore (pc := 74) (lv' := [(0, .ref ((zG Z).1 134)), (1, .ref ((zG Z).1 b1)), (2, .int v2), (3, .int v3), (4, .int v4), (5, .int v5), (6, .int v6), (7, .int s0)]) C [1, 2, 3, 4, 5, 6, 7, 0] rfl (by decide) dX6_helpsItself_74 ?_
  refine rg_iload (pc := 76) C 5 rfl dX6_helpsItself_76 ?_
  refine rg_if_eq (pc := 78) (tgt := 115) C dX6_helpsItself_78 (by decide) (fun c1 => ?_) (fun c1 => ?_)
  · replace hf := ra_t hf c1
    refine rg_sub [0, 1, 2, 3, 4, 6] rfl ?_
    exact ih6 _ _ _ _ _ _ _ hf
  · replace hf := ra_f hf c1
    refine rg_iload (pc := 81) C 7 rfl dX6_helpsItself_81 ?_
    refine rg_if_eq (pc := 83) (tgt := 111) C dX6_helpsItself_83 (by decide) (fun c2 => ?_) (fun c2 => ?_)
    · replace hf := ra_t hf c2
      refine rg_sub [0, 1, 2, 3, 4, 6] rfl ?_
      exact ih5 _ _ _ _ _ _ _ hf
    · replace hf := ra_f hf c2
      refine rg_aload_n (pc := 86) C 0 rfl rfl dX6_helpsItself_86 ?_
      refine rg_get (pc := 87) C 134 6 9 kd_134 (by decide) rfl inlX6 (by decide) wd_605 rfl dX6_helpsItself_87 ?_
      refine rg_iconst (pc := 90) (v := 5) C dX6_helpsItself_90 (by decide) ?_
      refine rg_iload (pc := 91) C 6 rfl dX6_helpsItself_91 ?_
      refine rg_iadd (pc := 93) C dX6_helpsItself_93 ?_
      obtain ⟨g3, hf⟩ := ra_gd hf
      refine rg_iald (pc := 94) (j := (ra_ix (5 + v6))) C 136 kd_136 rfl g3 dX6_helpsItself_94 ?_
      refine rg_iload_n (pc := 95) C 3 rfl rfl dX6_helpsItself_95 ?_
      obtain ⟨g4, hf⟩ := ra_gd hf
      refine rg_irem (pc := 96) C g4 dX6_helpsItself_96 ?_
      refine rg_aload_n (pc := 97) C 0 rfl rfl dX6_helpsItself_97 ?_
      refine rg_get (pc := 98) C 134 6 9 kd_134 (by decide) rfl inlX6 (by decide) wd_605 rfl dX6_helpsItself_98 ?_
      refine rg_iconst (pc := 101) (v := 5) C dX6_helpsItself_101 (by decide) ?_
      refine rg_iload (pc := 102) C 4 rfl dX6_helpsItself_102 ?_
      refine rg_iadd (pc := 104) C dX6_helpsItself_104 ?_
      obtain ⟨g5, hf⟩ := ra_gd hf
      refine rg_iald (pc := 105) (j := (ra_ix (5 + v4))) C 136 kd_136 rfl g5 dX6_helpsItself_105 ?_
      refine rg_iload_n (pc := 106) C 3 rfl rfl dX6_helpsItself_106 ?_
      refine rg_irem (pc := 107) C g4 dX6_helpsItself_107 ?_
      refine rg_icmp_eq (pc := 108) (tgt := 115) C dX6_helpsItself_108 (by decide) (fun c6 => ?_) (fun c6 => ?_)
      · replace hf := ra_t hf c6
        refine rg_sub [0, 1, 2, 3, 4, 6] rfl ?_
        exact ih6 _ _ _ _ _ _ _ hf
      · replace hf := ra_f hf c6
        refine rg_sub [0, 1, 2, 3, 4, 6] rfl ?_
        exact ih5 _ _ _ _ _ _ _ hf
set_option maxHeartbeats 4000000 in
theorem tX6_helpsItself_5 {Z : ra_Z} {r : Int32} {w1 : ra_W} (C : ra_C Z cX6_helpsItself 8 RX6 1 23) (hQ : ra_QV Z r w1) (hr : (zmt Z).sig.returnType = none) (k : Nat) (b1 : Nat) (h1 : ra_kd b1 = (10, 41)) (n : Nat) (ih7 : pX6_helpsItself_7 Z r w1 k b1 n) : pX6_helpsItself_5 Z r w1 k b1 (n + 1) := by
  intro v2 v3 v4 v5 v6 s0 w hf
  rw [fX6_helpsItself_5] at hf
  refine rg_iconst (pc := 111) (v := 1) C dX6_helpsItself_111 (by decide) ?_
  refine rg_goto (pc := 112) (tgt := 116) C dX6_helpsItself_112 (by decide) ?_
  exact ih7 _ _ _ _ _ _ _ hf
set_option maxHeartbeats 4000000 in
theorem tX6_helpsItself_6 {Z : ra_Z} {r : Int32} {w1 : ra_W} (C : ra_C Z cX6_helpsItself 8 RX6 1 23) (hQ : ra_QV Z r w1) (hr : (zmt Z).sig.returnType = none) (k : Nat) (b1 : Nat) (h1 : ra_kd b1 = (10, 41)) (n : Nat) (ih7 : pX6_helpsItself_7 Z r w1 k b1 n) : pX6_helpsItself_6 Z r w1 k b1 (n + 1) := by
  intro v2 v3 v4 v5 v6 s0 w hf
  rw [fX6_helpsItself_6] at hf
  refine rg_iconst (pc := 115) (v := 0) C dX6_helpsItself_115 (by decide) ?_
  exact ih7 _ _ _ _ _ _ _ hf
set_option maxHeartbeats 4000000 in
theorem tX6_helpsItself_7 {Z : ra_Z} {r : Int32} {w1 : ra_W} (C : ra_C Z cX6_helpsItself 8 RX6 1 23) (hQ : ra_QV Z r w1) (hr : (zmt Z).sig.returnType = none) (k : Nat) (b1 : Nat) (h1 : ra_kd b1 = (10, 41)) (n : Nat) (ih2 : pX6_helpsItself_2 Z r w1 k b1 n) : pX6_helpsItself_7 Z r w1 k b1 (n + 1) := by
  intro v2 v3 v4 v5 v6 s0 w hf
  rw [fX6_helpsItself_7] at hf
  refine rg_istore (pc := 116) (lv' := [(0, .ref ((zG Z).1 134)), (1, .ref ((zG Z).1 b1)), (2, .int v2), (3, .int v3), (4, .int v4), (5, .int s0), (6, .int v6)]) C [1, 2, 3, 4, 5, 0, 6] rfl (by decide) dX6_helpsItself_116 ?_
  refine rg_iinc (pc := 118) (v := (v6 + 1)) (lv' := [(0, .ref ((zG Z).1 134)), (1, .ref ((zG Z).1 b1)), (2, .int v2), (3, .int v3), (4, .int v4), (5, .int s0), (6, .int (v6 + 1))]) C 6 rfl [1, 2, 3, 4, 5, 6, 0] (ra_ii (by decide)) rfl (by decide) dX6_helpsItself_118 ?_
  refine rg_goto (pc := 121) (tgt := 36) C dX6_helpsItself_121 (by decide) ?_
  exact ih2 _ _ _ _ _ _ _ hf
set_option maxHeartbeats 4000000 in
theorem tX6_helpsItself_8 {Z : ra_Z} {r : Int32} {w1 : ra_W} (C : ra_C Z cX6_helpsItself 8 RX6 1 23) (hQ : ra_QV Z r w1) (hr : (zmt Z).sig.returnType = none) (k : Nat) (b1 : Nat) (h1 : ra_kd b1 = (10, 41)) (n : Nat) (ih1 : pX6_helpsItself_1 Z r w1 k b1 n) : pX6_helpsItself_8 Z r w1 k b1 (n + 1) := by
  intro v2 v3 v4 v5 v6 s0 w hf
  rw [fX6_helpsItself_8] at hf
  refine rg_iinc (pc := 144) (v := (v4 + 1)) (lv' := [(0, .ref ((zG Z).1 134)), (1, .ref ((zG Z).1 b1)), (2, .int v2), (3, .int v3), (4, .int (v4 + 1))]) C 4 rfl [1, 2, 3, 4, 0] (ra_ii (by decide)) rfl (by decide) dX6_helpsItself_144 ?_
  refine rg_goto (pc := 147) (tgt := 12) C dX6_helpsItself_147 (by decide) ?_
  exact ih1 _ _ _ _ _ _ _ hf
theorem tX6_helpsItself {Z : ra_Z} {r : Int32} {w1 : ra_W} (C : ra_C Z cX6_helpsItself 8 RX6 1 23) (hQ : ra_QV Z r w1) (hr : (zmt Z).sig.returnType = none) (k : Nat) (b1 : Nat) (h1 : ra_kd b1 = (10, 41)) : ∀ n : Nat, pX6_helpsItself_0 Z r w1 k b1 n ∧ pX6_helpsItself_1 Z r w1 k b1 n ∧ pX6_helpsItself_2 Z r w1 k b1 n ∧ pX6_helpsItself_3 Z r w1 k b1 n ∧ pX6_helpsItself_4 Z r w1 k b1 n ∧ pX6_helpsItself_5 Z r w1 k b1 n ∧ pX6_helpsItself_6 Z r w1 k b1 n ∧ pX6_helpsItself_7 Z r w1 k b1 n ∧ pX6_helpsItself_8 Z r w1 k b1 n := by
  intro n
  induction n with
  | zero => exact ⟨(fun _ _ _ _ _ _ _ h => by cases h), (fun _ _ _ _ _ _ _ h => by cases h), (fun _ _ _ _ _ _ _ h => by cases h), (fun _ _ _ _ _ _ _ h => by cases h), (fun _ _ _ _ _ _ _ h => by cases h), (fun _ _ _ _ _ _ _ h => by cases h), (fun _ _ _ _ _ _ _ h => by cases h), (fun _ _ _ _ _ _ _ h => by cases h), (fun _ _ _ _ _ _ _ h => by cases h)⟩
  | succ n ih =>
    obtain ⟨ih0, ih1, ih2, ih3, ih4, ih5, ih6, ih7, ih8⟩ := ih
    exact ⟨tX6_helpsItself_0 C hQ hr k b1 h1 n ih1, tX6_helpsItself_1 C hQ hr k b1 h1 n ih2, tX6_helpsItself_2 C hQ hr k b1 h1 n ih3 ih4 ih8, tX6_helpsItself_3 C hQ hr k b1 h1 n ih4, tX6_helpsItself_4 C hQ hr k b1 h1 n ih5 ih6, tX6_helpsItself_5 C hQ hr k b1 h1 n ih7, tX6_helpsItself_6 C hQ hr k b1 h1 n ih7, tX6_helpsItself_7 C hQ hr k b1 h1 n ih2, tX6_helpsItself_8 C hQ hr k b1 h1 n ih1⟩
theorem kX6_helpsItself (l : Launch) (G : ra_G) (hj : ra_inj G) (k : Nat) (b1 : Nat) (h1 : ra_kd b1 = (10, 41)) (v2 : Int32) (w : ra_W) (r : Int32) (w1 : ra_W) (h : FX6_helpsItself k b1 v2 w = some (r, w1)) : ra_MV l G yX6_helpsItself cX6_helpsItself 8 none 1 23 [.ref (G.1 134), .ref (G.1 b1), .int v2] w r w1 :=
  ra_entryV (own := RX6) (by decide) rfl (Nat.le_of_ble_eq_true rfl) hj (fun Z hl hG C hQ hr => by subst hl; subst hG; exact (tX6_helpsItself C hQ hr k b1 h1 k).1 _ _ _ _ _ _ _ h)
theorem ysX6_helpsItself : ra_YV yX6_helpsItself cX6_helpsItself 8 none 2 RX6 := ⟨⟨wd_7, wd_749, by decide, by decide, by decide⟩, wd_748, wp_33⟩
