/-- TrunkRadio$State.begin -/
def fX4_begin (k : Nat) (b0 : Nat) (b1 : Nat) : Nat → Nat → Int32 → ra_W → Option (Int32 × ra_W)
  | 0, _, _, _ => none
  | n + 1, L, v2, w => match L with
    | 0 => fX4_begin k b0 b1 n 1 0 w
    | _ => if 7 ≤ v2 then (some (0, (ra_st (ra_st (ra_st (ra_st (ra_st (ra_st w (b0 + 6) 0 (-1)) (b0 + 6) 1 (-1)) b0 6 0) b0 7 0) b0 8 0) b0 9 0))) else (if ra_in v2 7 then ra_bind (FX4_rest k b0 v2 (ra_st w (b0 + 1) (ra_ix v2) (w (b1 + 2) (ra_ix v2)))) (fun _ w4 => fX4_begin k b0 b1 n 1 (v2 + 1) w4) else none)
theorem fX4_begin_0 (k : Nat) (b0 : Nat) (b1 : Nat) (n : Nat) (v2 : Int32) (w : ra_W) : fX4_begin k b0 b1 (n + 1) 0 v2 w = (fX4_begin k b0 b1 n 1 0 w) := rfl
theorem fX4_begin_1 (k : Nat) (b0 : Nat) (b1 : Nat) (n : Nat) (v2 : Int32) (w : ra_W) : fX4_begin k b0 b1 (n + 1) 1 v2 w = (if 7 ≤ v2 then (some (0, (ra_st (ra_st (ra_st (ra_st (ra_st (ra_st w (b0 + 6) 0 (-1)) (b0 + 6) 1 (-1)) b0 6 0) b0 7 0) b0 8 0) b0 9 0))) else (if ra_in v2 7 then ra_bind (FX4_rest k b0 v2 (ra_st w (b0 + 1) (ra_ix v2) (w (b1 + 2) (ra_ix v2)))) (fun _ w4 => fX4_begin k b0 b1 n 1 (v2 + 1) w4) else none)) := rfl
def FX4_begin (k : Nat) (b0 : Nat) (b1 : Nat)  (w : ra_W) : Option (Int32 × ra_W) := fX4_begin k b0 b1 k 0 0 w
def pX4_begin_0 (Z : ra_Z) (r : Int32) (w1 : ra_W) (k : Nat) (b0 : Nat) (b1 : Nat) (n : Nat) : Prop := ∀ (v2 : Int32) (w : ra_W), fX4_begin k b0 b1 n 0 v2 w = some (r, w1) → ra_J Z 3 0 [(0, .ref ((zG Z).1 b0)), (1, .ref ((zG Z).1 b1))] [] w
def pX4_begin_1 (Z : ra_Z) (r : Int32) (w1 : ra_W) (k : Nat) (b0 : Nat) (b1 : Nat) (n : Nat) : Prop := ∀ (v2 : Int32) (w : ra_W), fX4_begin k b0 b1 n 1 v2 w = some (r, w1) → ra_J Z 3 2 [(0, .ref ((zG Z).1 b0)), (1, .ref ((zG Z).1 b1)), (2, .int v2)] [] w
set_option maxHeartbeats 4000000 in
theorem tX4_begin_0 {Z : ra_Z} {r : Int32} {w1 : ra_W} (C : ra_C Z cX4_begin 3 RX4 2 43) (hQ : ra_QV Z r w1) (hr : (zmt Z).sig.returnType = none) (k : Nat) (b0 : Nat) (b1 : Nat) (h0 : ra_S b0) (h1 : ra_N b1) (n : Nat) (ih1 : pX4_begin_1 Z r w1 k b0 b1 n) : pX4_begin_0 Z r w1 k b0 b1 (n + 1) := by
  intro v2 w hf
  rw [fX4_begin_0] at hf
  refine rg_iconst (pc := 0) (v := 0) C dX4_begin_0 (by decide) ?_
  refine rg_istore_n (pc := 1) (lv' := [(0, .ref ((zG Z).1 b0)), (1, .ref ((zG Z).1 b1)), (2, .int 0)]) C [1, 2, 0] rfl rfl (by decide) dX4_begin_1 ?_
  exact ih1 _ _ hf
set_option maxHeartbeats 4000000 in
theorem tX4_begin_1 {Z : ra_Z} {r : Int32} {w1 : ra_W} (C : ra_C Z cX4_begin 3 RX4 2 43) (hQ : ra_QV Z r w1) (hr : (zmt Z).sig.returnType = none) (k : Nat) (b0 : Nat) (b1 : Nat) (h0 : ra_S b0) (h1 : ra_N b1) (n : Nat) (ih1 : pX4_begin_1 Z r w1 k b0 b1 n) : pX4_begin_1 Z r w1 k b0 b1 (n + 1) := by
  intro v2 w hf
  rw [fX4_begin_1] at hf
  refine rg_iload_n (pc := 2) C 2 rfl rfl dX4_begin_2 ?_
  refine rg_bipush (pc := 3) (v := 7) C dX4_begin_3 (by decide) ?_
  refine rg_icmp_ge (pc := 5) (tgt := 31) C dX4_begin_5 (by decide) (fun c1 => ?_) (fun c1 => ?_)
  · replace hf := ra_t hf c1
    refine rg_aload_n (pc := 31) C 0 rfl rfl dX4_begin_31 ?_
    refine rg_get (pc := 32) C b0 4 5 h0.1 (by decide) rfl inlX4 (by decide) wd_145 rfl dX4_begin_32 ?_
    refine rg_iconst (pc := 35) (v := 0) C dX4_begin_35 (by decide) ?_
    refine rg_iconst (pc := 36) (v := (-1)) C dX4_begin_36 (by decide) ?_
    refine rg_iast (pc := 37) (j := 0) C (b0 + 6) h0.2.2.2.2.2.2 (by decide) (by decide) dX4_begin_37 ?_
    refine rg_aload_n (pc := 38) C 0 rfl rfl dX4_begin_38 ?_
    refine rg_get (pc := 39) C b0 4 5 h0.1 (by decide) rfl inlX4 (by decide) wd_145 rfl dX4_begin_39 ?_
    refine rg_iconst (pc := 42) (v := 1) C dX4_begin_42 (by decide) ?_
    refine rg_iconst (pc := 43) (v := (-1)) C dX4_begin_43 (by decide) ?_
    refine rg_iast (pc := 44) (j := 1) C (b0 + 6) h0.2.2.2.2.2.2 (by decide) (by decide) dX4_begin_44 ?_
    refine rg_aload_n (pc := 45) C 0 rfl rfl dX4_begin_45 ?_
    refine rg_iconst (pc := 46) (v := 0) C dX4_begin_46 (by decide) ?_
    refine rg_put (pc := 47) C b0 4 6 h0.1 (by decide) rfl inlX4 tyX4 tyX4_ok nmX4 (by decide) wd_148 rfl rfl rfl (Nat.le_of_ble_eq_true rfl) rfl dX4_begin_47 ?_
    refine rg_aload_n (pc := 50) C 0 rfl rfl dX4_begin_50 ?_
    refine rg_iconst (pc := 51) (v := 0) C dX4_begin_51 (by decide) ?_
    refine rg_put (pc := 52) C b0 4 7 h0.1 (by decide) rfl inlX4 tyX4 tyX4_ok nmX4 (by decide) wd_151 rfl rfl rfl (Nat.le_of_ble_eq_true rfl) rfl dX4_begin_52 ?_
    refine rg_aload_n (pc := 55) C 0 rfl rfl dX4_begin_55 ?_
    refine rg_iconst (pc := 56) (v := 0) C dX4_begin_56 (by decide) ?_
    refine rg_put (pc := 57) C b0 4 8 h0.1 (by decide) rfl inlX4 tyX4 tyX4_ok nmX4 (by decide) wd_154 rfl rfl rfl (Nat.le_of_ble_eq_true rfl) rfl dX4_begin_57 ?_
    refine rg_aload_n (pc := 60) C 0 rfl rfl dX4_begin_60 ?_
    refine rg_iconst (pc := 61) (v := 0) C dX4_begin_61 (by decide) ?_
    refine rg_put (pc := 62) C b0 4 9 h0.1 (by decide) rfl inlX4 tyX4 tyX4_ok nmX4 (by decide) wd_157 rfl rfl rfl (Nat.le_of_ble_eq_true rfl) rfl dX4_begin_62 ?_
    exact rg_vret (pc := 65) C hQ hr hf dX4_begin_65
  · replace hf := ra_f hf c1
    refine rg_aload_n (pc := 8) C 0 rfl rfl dX4_begin_8 ?_
    refine rg_get (pc := 9) C b0 4 0 h0.1 (by decide) rfl inlX4 (by decide) wd_130 rfl dX4_begin_9 ?_
    refine rg_iload_n (pc := 12) C 2 rfl rfl dX4_begin_12 ?_
    refine rg_aload_n (pc := 13) C 1 rfl rfl dX4_begin_13 ?_
    refine rg_get (pc := 14) C b1 2 4 h1.1 (by decide) rfl inlX2 (by decide) wd_84 rfl dX4_begin_14 ?_
    refine rg_iload_n (pc := 17) C 2 rfl rfl dX4_begin_17 ?_
    obtain ⟨g2, hf⟩ := ra_gd hf
    refine rg_iald (pc := 18) (j := (ra_ix v2)) C (b1 + 2) h1.2.2.1 rfl g2 dX4_begin_18 ?_
    refine rg_iast (pc := 19) (j := (ra_ix v2)) C (b0 + 1) h0.2.1 rfl g2 dX4_begin_19 ?_
    refine rg_aload_n (pc := 20) C 0 rfl rfl dX4_begin_20 ?_
    refine rg_iload_n (pc := 21) C 2 rfl rfl dX4_begin_21 ?_
    obtain ⟨r3, w4, e5, hf⟩ := ra_bd hf
    refine rg_callVV (pc := 22) (As := [.int v2]) (st := []) C (kX4_rest (zl Z) (zG Z) C.hj k b0 h0 _ _ _ _ e5) h0.1 (by decide) rfl ysX4_rest rfl wd_323 ⟨Nat.le_of_ble_eq_true rfl, Nat.le_of_ble_eq_true rfl⟩ rfl (Nat.le_of_ble_eq_true rfl) dX4_begin_22 ?_
    refine rg_iinc (pc := 25) (v := (v2 + 1)) (lv' := [(0, .ref ((zG Z).1 b0)), (1, .ref ((zG Z).1 b1)), (2, .int (v2 + 1))]) C 2 rfl [1, 2, 0] (ra_ii (by decide)) rfl (by decide) dX4_begin_25 ?_
    refine rg_goto (pc := 28) (tgt := 2) C dX4_begin_28 (by decide) ?_
    exact ih1 _ _ hf
theorem tX4_begin {Z : ra_Z} {r : Int32} {w1 : ra_W} (C : ra_C Z cX4_begin 3 RX4 2 43) (hQ : ra_QV Z r w1) (hr : (zmt Z).sig.returnType = none) (k : Nat) (b0 : Nat) (b1 : Nat) (h0 : ra_S b0) (h1 : ra_N b1) : ∀ n : Nat, pX4_begin_0 Z r w1 k b0 b1 n ∧ pX4_begin_1 Z r w1 k b0 b1 n := by
  intro n
  induction n with
  | zero => exact ⟨(fun _ _ h => by cases h), (fun _ _ h => by cases h)⟩
  | succ n ih =>
    obtain ⟨ih0, ih1⟩ := ih
    exact ⟨tX4_begin_0 C hQ hr k b0 b1 h0 h1 n ih1, tX4_begin_1 C hQ hr k b0 b1 h0 h1 n ih1⟩
theorem kX4_begin (l : Launch) (G : ra_G) (hj : ra_inj G) (k : Nat) (b0 : Nat) (b1 : Nat) (h0 : ra_S b0) (h1 : ra_N b1)  (w : ra_W) (r : Int32) (w1 : ra_W) (h : FX4_begin k b0 b1  w = some (r, w1)) : ra_MV l G yX4_begin cX4_begin 3 none 2 43 [.ref (G.1 b0), .ref (G.1 b1)] w r w1 :=
  ra_entryV (own := RX4) (by decide) rfl (Nat.le_of_ble_eq_true rfl) hj (fun Z hl hG C hQ hr => by subst hl; subst hG; exact (tX4_begin C hQ hr k b0 b1 h0 h1 k).1 _ _ h)
theorem ysX4_begin : ra_YV yX4_begin cX4_begin 3 none 1 RX4 := ⟨⟨wd_5, wd_322, by decide, by decide, by decide⟩, wd_320, wd_321⟩
/-- TrunkRadio$State.isOnAir -/
def fX4_isOnAir (k : Nat) (b0 : Nat) : Nat → Nat → Int32 → ra_W → Option (Int32 × ra_W)
  | 0, _, _, _ => none
  | n + 1, L, v1, w => match L with
    | _ => if ra_in v1 7 then if (w (b0 + 2) (ra_ix v1)) = 4 then (some (1, w)) else (if (w (b0 + 2) (ra_ix v1)) = 5 then (some (1, w)) else (some (0, w))) else none
theorem fX4_isOnAir_0 (k : Nat) (b0 : Nat) (n : Nat) (v1 : Int32) (w : ra_W) : fX4_isOnAir k b0 (n + 1) 0 v1 w = (if ra_in v1 7 then if (w (b0 + 2) (ra_ix v1)) = 4 then (some (1, w)) else (if (w (b0 + 2) (ra_ix v1)) = 5 then (some (1, w)) else (some (0, w))) else none) := rfl
def FX4_isOnAir (k : Nat) (b0 : Nat) (v1 : Int32) (w : ra_W) : Option (Int32 × ra_W) := fX4_isOnAir k b0 k 0 v1 w
def pX4_isOnAir_0 (Z : ra_Z) (r : Int32) (w1 : ra_W) (k : Nat) (b0 : Nat) (n : Nat) : Prop := ∀ (v1 : Int32) (w : ra_W), fX4_isOnAir k b0 n 0 v1 w = some (r, w1) → ra_J Z 2 0 [(0, .ref ((zG Z).1 b0)), (1, .int v1)] [] w
set_option maxHeartbeats 4000000 in
theorem tX4_isOnAir_0 {Z : ra_Z} {r : Int32} {w1 : ra_W} (C : ra_C Z cX4_isOnAir 2 RX4 0 0) (hQ : ra_QI Z r w1) (hr : (zmt Z).sig.returnType = (some .boolean)) (k : Nat) (b0 : Nat) (h0 : ra_S b0) (n : Nat) : pX4_isOnAir_0 Z r w1 k b0 (n + 1) := by
  intro v1 w hf
  rw [fX4_isOnAir_0] at hf
  refine rg_aload_n (pc := 0) C 0 rfl rfl dX4_isOnAir_0 ?_
  refine rg_get (pc := 1) C b0 4 1 h0.1 (by decide) rfl inlX4 (by decide) wd_133 rfl dX4_isOnAir_1 ?_
  refine rg_iload_n (pc := 4) C 1 rfl rfl dX4_isOnAir_4 ?_
  obtain ⟨g1, hf⟩ := ra_gd hf
  refine rg_iald (pc := 5) (j := (ra_ix v1)) C (b0 + 2) h0.2.2.1 rfl g1 dX4_isOnAir_5 ?_
  refine rg_iconst (pc := 6) (v := 4) C dX4_isOnAir_6 (by decide) ?_
  refine rg_icmp_eq (pc := 7) (tgt := 20) C dX4_isOnAir_7 (by decide) (fun c2 => ?_) (fun c2 => ?_)
  · replace hf := ra_t hf c2
    refine rg_iconst (pc := 20) (v := 1) C dX4_isOnAir_20 (by decide) ?_
    refine rg_goto (pc := 21) (tgt := 25) C dX4_isOnAir_21 (by decide) ?_
    exact rg_zret (pc := 25) C hQ hr (by decide) hf dX4_isOnAir_25
  · replace hf := ra_f hf c2
    refine rg_aload_n (pc := 10) C 0 rfl rfl dX4_isOnAir_10 ?_
    refine rg_get (pc := 11) C b0 4 1 h0.1 (by decide) rfl inlX4 (by decide) wd_133 rfl dX4_isOnAir_11 ?_
    refine rg_iload_n (pc := 14) C 1 rfl rfl dX4_isOnAir_14 ?_
    refine rg_iald (pc := 15) (j := (ra_ix v1)) C (b0 + 2) h0.2.2.1 rfl g1 dX4_isOnAir_15 ?_
    refine rg_iconst (pc := 16) (v := 5) C dX4_isOnAir_16 (by decide) ?_
    refine rg_icmp_ne (pc := 17) (tgt := 24) C dX4_isOnAir_17 (by decide) (fun c3 => ?_) (fun c3 => ?_)
    · replace hf := ra_f hf c3
      refine rg_iconst (pc := 24) (v := 0) C dX4_isOnAir_24 (by decide) ?_
      exact rg_zret (pc := 25) C hQ hr (by decide) hf dX4_isOnAir_25
    · replace hf := ra_t hf c3
      refine rg_iconst (pc := 20) (v := 1) C dX4_isOnAir_20 (by decide) ?_
      refine rg_goto (pc := 21) (tgt := 25) C dX4_isOnAir_21 (by decide) ?_
      exact rg_zret (pc := 25) C hQ hr (by decide) hf dX4_isOnAir_25
theorem tX4_isOnAir {Z : ra_Z} {r : Int32} {w1 : ra_W} (C : ra_C Z cX4_isOnAir 2 RX4 0 0) (hQ : ra_QI Z r w1) (hr : (zmt Z).sig.returnType = (some .boolean)) (k : Nat) (b0 : Nat) (h0 : ra_S b0) : ∀ n : Nat, pX4_isOnAir_0 Z r w1 k b0 n := by
  intro n
  induction n with
  | zero => exact (fun _ _ h => by cases h)
  | succ n ih => exact tX4_isOnAir_0 C hQ hr k b0 h0 n
theorem kX4_isOnAir (l : Launch) (G : ra_G) (hj : ra_inj G) (k : Nat) (b0 : Nat) (h0 : ra_S b0) (v1 : Int32) (w : ra_W) (r : Int32) (w1 : ra_W) (h : FX4_isOnAir k b0 v1 w = some (r, w1)) : ra_MI l G yX4_isOnAir cX4_isOnAir 2 (some .boolean) 0 0 [.ref (G.1 b0), .int v1] w r w1 :=
  ra_entryI (own := RX4) (by decide) rfl (Nat.le_of_ble_eq_true rfl) hj (fun Z hl hG C hQ hr => by subst hl; subst hG; exact (tX4_isOnAir C hQ hr k b0 h0 k) _ _ h)
theorem ysX4_isOnAir : ra_YV yX4_isOnAir cX4_isOnAir 2 (some .boolean) 1 RX4 := ⟨⟨wd_5, wd_420, by decide, by decide, by decide⟩, wd_418, wd_419⟩
/-- TrunkRadio$State.pressIdle -/
def fX4_pressIdle (k : Nat) (b0 : Nat) (b1 : Nat) : Nat → Nat → Int32 → Int32 → ra_W → Option (Int32 × ra_W)
  | 0, _, _, _, _ => none
  | n + 1, L, v2, v3, w => match L with
    | 0 => fX4_pressIdle k b0 b1 n 1 v2 0 w
    | 1 => if (w b1 0) ≤ v3 then (some (0, w)) else (if ((v2 >>> (v3 &&& 31)) &&& 1) = 1 then (if ra_in v3 7 then if (w (b0 + 2) (ra_ix v3)) = 0 then (ra_bind (FX4_enter k b0 v3 1 w) (fun _ w6 => fX4_pressIdle k b0 b1 n 2 v2 v3 w6)) else (fX4_pressIdle k b0 b1 n 2 v2 v3 w) else none) else (fX4_pressIdle k b0 b1 n 2 v2 v3 w))
    | _ => fX4_pressIdle k b0 b1 n 1 v2 (v3 + 1) w
theorem fX4_pressIdle_0 (k : Nat) (b0 : Nat) (b1 : Nat) (n : Nat) (v2 : Int32) (v3 : Int32) (w : ra_W) : fX4_pressIdle k b0 b1 (n + 1) 0 v2 v3 w = (fX4_pressIdle k b0 b1 n 1 v2 0 w) := rfl
theorem fX4_pressIdle_1 (k : Nat) (b0 : Nat) (b1 : Nat) (n : Nat) (v2 : Int32) (v3 : Int32) (w : ra_W) : fX4_pressIdle k b0 b1 (n + 1) 1 v2 v3 w = (if (w b1 0) ≤ v3 then (some (0, w)) else (if ((v2 >>> (v3 &&& 31)) &&& 1) = 1 then (if ra_in v3 7 then if (w (b0 + 2) (ra_ix v3)) = 0 then (ra_bind (FX4_enter k b0 v3 1 w) (fun _ w6 => fX4_pressIdle k b0 b1 n 2 v2 v3 w6)) else (fX4_pressIdle k b0 b1 n 2 v2 v3 w) else none) else (fX4_pressIdle k b0 b1 n 2 v2 v3 w))) := rfl
theorem fX4_pressIdle_2 (k : Nat) (b0 : Nat) (b1 : Nat) (n : Nat) (v2 : Int32) (v3 : Int32) (w : ra_W) : fX4_pressIdle k b0 b1 (n + 1) 2 v2 v3 w = (fX4_pressIdle k b0 b1 n 1 v2 (v3 + 1) w) := rfl
def FX4_pressIdle (k : Nat) (b0 : Nat) (b1 : Nat) (v2 : Int32) (w : ra_W) : Option (Int32 × ra_W) := fX4_pressIdle k b0 b1 k 0 v2 0 w
def pX4_pressIdle_0 (Z : ra_Z) (r : Int32) (w1 : ra_W) (k : Nat) (b0 : Nat) (b1 : Nat) (n : Nat) : Prop := ∀ (v2 : Int32) (v3 : Int32) (w : ra_W), fX4_pressIdle k b0 b1 n 0 v2 v3 w = some (r, w1) → ra_J Z 4 0 [(0, .ref ((zG Z).1 b0)), (1, .ref ((zG Z).1 b1)), (2, .int v2)] [] w
def pX4_pressIdle_1 (Z : ra_Z) (r : Int32) (w1 : ra_W) (k : Nat) (b0 : Nat) (b1 : Nat) (n : Nat) : Prop := ∀ (v2 : Int32) (v3 : Int32) (w : ra_W), fX4_pressIdle k b0 b1 n 1 v2 v3 w = some (r, w1) → ra_J Z 4 2 [(0, .ref ((zG Z).1 b0)), (1, .ref ((zG Z).1 b1)), (2, .int v2), (3, .int v3)] [] w
def pX4_pressIdle_2 (Z : ra_Z) (r : Int32) (w1 : ra_W) (k : Nat) (b0 : Nat) (b1 : Nat) (n : Nat) : Prop := ∀ (v2 : Int32) (v3 : Int32) (w : ra_W), fX4_pressIdle k b0 b1 n 2 v2 v3 w = some (r, w1) → ra_J Z 4 34 [(0, .ref ((zG Z).1 b0)), (1, .ref ((zG Z).1 b1)), (2, .int v2), (3, .int v3)] [] w
set_option maxHeartbeats 4000000 in
theorem tX4_pressIdle_0 {Z : ra_Z} {r : Int32} {w1 : ra_W} (C : ra_C Z cX4_pressIdle 4 RX4 1 22) (hQ : ra_QV Z r w1) (hr : (zmt Z).sig.returnType = none) (k : Nat) (b0 : Nat) (b1 : Nat) (h0 : ra_S b0) (h1 : ra_N b1) (n : Nat) (ih1 : pX4_pressIdle_1 Z r w1 k b0 b1 n) : pX4_pressIdle_0 Z r w1 k b0 b1 (n + 1) := by
  intro v2 v3 w hf
  rw [fX4_pressIdle_0] at hf
  refine rg_iconst (pc := 0) (v := 0) C dX4_pressIdle_0 (by decide) ?_
  refine rg_istore_n (pc := 1) (lv' := [(0, .ref ((zG Z).1 b0)), (1, .ref ((zG Z).1 b1)), (2, .int v2), (3, .int 0)]) C [1, 2, 3, 0] rfl rfl (by decide) dX4_pressIdle_1 ?_
  exact ih1 _ _ _ hf
set_option maxHeartbeats 4000000 in
theorem tX4_pressIdle_1 {Z : ra_Z} {r : Int32} {w1 : ra_W} (C : ra_C Z cX4_pressIdle 4 RX4 1 22) (hQ : ra_QV Z r w1) (hr : (zmt Z).sig.returnType = none) (k : Nat) (b0 : Nat) (b1 : Nat) (h0 : ra_S b0) (h1 : ra_N b1) (n : Nat) (ih2 : pX4_pressIdle_2 Z r w1 k b0 b1 n) : pX4_pressIdle_1 Z r w1 k b0 b1 (n + 1) := by
  intro v2 v3 w hf
  rw [fX4_pressIdle_1] at hf
  refine rg_iload_n (pc := 2) C 3 rfl rfl dX4_pressIdle_2 ?_
  refine rg_aload_n (pc := 3) C 1 rfl rfl dX4_pressIdle_3 ?_
  refine rg_get (pc := 4) C b1 2 0 h1.1 (by decide) rfl inlX2 (by decide) wd_68 rfl dX4_pressIdle_4 ?_
  refine rg_icmp_ge (pc := 7) (tgt := 40) C dX4_pressIdle_7 (by decide) (fun c1 => ?_) (fun c1 => ?_)
  · replace hf := ra_t hf c1
    exact rg_vret (pc := 40) C hQ hr hf dX4_pressIdle_40
  · replace hf := ra_f hf c1
    refine rg_iload_n (pc := 10) C 2 rfl rfl dX4_pressIdle_10 ?_
    refine rg_iload_n (pc := 11) C 3 rfl rfl dX4_pressIdle_11 ?_
    refine rg_ishr (pc := 12) C dX4_pressIdle_12 ?_
    refine rg_iconst (pc := 13) (v := 1) C dX4_pressIdle_13 (by decide) ?_
    refine rg_iand (pc := 14) C dX4_pressIdle_14 ?_
    refine rg_iconst (pc := 15) (v := 1) C dX4_pressIdle_15 (by decide) ?_
    refine rg_icmp_ne (pc := 16) (tgt := 34) C dX4_pressIdle_16 (by decide) (fun c2 => ?_) (fun c2 => ?_)
    · replace hf := ra_f hf c2
      exact ih2 _ _ _ hf
    · replace hf := ra_t hf c2
      refine rg_aload_n (pc := 19) C 0 rfl rfl dX4_pressIdle_19 ?_
      refine rg_get (pc := 20) C b0 4 1 h0.1 (by decide) rfl inlX4 (by decide) wd_133 rfl dX4_pressIdle_20 ?_
      refine rg_iload_n (pc := 23) C 3 rfl rfl dX4_pressIdle_23 ?_
      obtain ⟨g3, hf⟩ := ra_gd hf
      refine rg_iald (pc := 24) (j := (ra_ix v3)) C (b0 + 2) h0.2.2.1 rfl g3 dX4_pressIdle_24 ?_
      refine rg_if_ne (pc := 25) (tgt := 34) C dX4_pressIdle_25 (by decide) (fun c4 => ?_) (fun c4 => ?_)
      · replace hf := ra_f hf c4
        exact ih2 _ _ _ hf
      · replace hf := ra_t hf c4
        refine rg_aload_n (pc := 28) C 0 rfl rfl dX4_pressIdle_28 ?_
        refine rg_iload_n (pc := 29) C 3 rfl rfl dX4_pressIdle_29 ?_
        refine rg_iconst (pc := 30) (v := 1) C dX4_pressIdle_30 (by decide) ?_
        obtain ⟨r5, w6, e7, hf⟩ := ra_bd hf
        refine rg_callVV (pc := 31) (As := [.int v3, .int 1]) (st := []) C (kX4_enter (zl Z) (zG Z) C.hj k b0 h0 _ _ _ _ _ e7) h0.1 (by decide) rfl ysX4_enter rfl wd_327 ⟨Nat.le_of_ble_eq_true rfl, Nat.le_of_ble_eq_true rfl⟩ rfl (Nat.le_of_ble_eq_true rfl) dX4_pressIdle_31 ?_
        exact ih2 _ _ _ hf
set_option maxHeartbeats 4000000 in
theorem tX4_pressIdle_2 {Z : ra_Z} {r : Int32} {w1 : ra_W} (C : ra_C Z cX4_pressIdle 4 RX4 1 22) (hQ : ra_QV Z r w1) (hr : (zmt Z).sig.returnType = none) (k : Nat) (b0 : Nat) (b1 : Nat) (h0 : ra_S b0) (h1 : ra_N b1) (n : Nat) (ih1 : pX4_pressIdle_1 Z r w1 k b0 b1 n) : pX4_pressIdle_2 Z r w1 k b0 b1 (n + 1) := by
  intro v2 v3 w hf
  rw [fX4_pressIdle_2] at hf
  refine rg_iinc (pc := 34) (v := (v3 + 1)) (lv' := [(0, .ref ((zG Z).1 b0)), (1, .ref ((zG Z).1 b1)), (2, .int v2), (3, .int (v3 + 1))]) C 3 rfl [1, 2, 3, 0] (ra_ii (by decide)) rfl (by decide) dX4_pressIdle_34 ?_
  refine rg_goto (pc := 37) (tgt := 2) C dX4_pressIdle_37 (by decide) ?_
  exact ih1 _ _ _ hf
theorem tX4_pressIdle {Z : ra_Z} {r : Int32} {w1 : ra_W} (C : ra_C Z cX4_pressIdle 4 RX4 1 22) (hQ : ra_QV Z r w1) (hr : (zmt Z).sig.returnType = none) (k : Nat) (b0 : Nat) (b1 : Nat) (h0 : ra_S b0) (h1 : ra_N b1) : ∀ n : Nat, pX4_pressIdle_0 Z r w1 k b0 b1 n ∧ pX4_pressIdle_1 Z r w1 k b0 b1 n ∧ pX4_pressIdle_2 Z r w1 k b0 b1 n := by
  intro n
  induction n with
  | zero => exact ⟨(fun _ _ _ h => by cases h), (fun _ _ _ h => by cases h), (fun _ _ _ h => by cases h)⟩
  | succ n ih =>
    obtain ⟨ih0, ih1, ih2⟩ := ih
    exact ⟨tX4_pressIdle_0 C hQ hr k b0 b1 h0 h1 n ih1, tX4_pressIdle_1 C hQ hr k b0 b1 h0 h1 n ih2, tX4_pressIdle_2 C hQ hr k b0 b1 h0 h1 n ih1⟩
theorem kX4_pressIdle (l : Launch) (G : ra_G) (hj : ra_inj G) (k : Nat) (b0 : Nat) (b1 : Nat) (h0 : ra_S b0) (h1 : ra_N b1) (v2 : Int32) (w : ra_W) (r : Int32) (w1 : ra_W) (h : FX4_pressIdle k b0 b1 v2 w = some (r, w1)) : ra_MV l G yX4_pressIdle cX4_pressIdle 4 none 1 22 [.ref (G.1 b0), .ref (G.1 b1), .int v2] w r w1 :=
  ra_entryV (own := RX4) (by decide) rfl (Nat.le_of_ble_eq_true rfl) hj (fun Z hl hG C hQ hr => by subst hl; subst hG; exact (tX4_pressIdle C hQ hr k b0 b1 h0 h1 k).1 _ _ _ h)
theorem ysX4_pressIdle : ra_YV yX4_pressIdle cX4_pressIdle 4 none 2 RX4 := ⟨⟨wd_5, wd_501, by decide, by decide, by decide⟩, wd_499, wd_500⟩
/-- TrunkRadio$State.idleOnes -/
def fX4_idleOnes (k : Nat) (b0 : Nat) (b1 : Nat) : Nat → Nat → Int32 → Int32 → Int32 → Int32 → ra_W → Option (Int32 × ra_W)
  | 0, _, _, _, _, _, _ => none
  | n + 1, L, v2, v3, s0, s1, w => match L with
    | 0 => fX4_idleOnes k b0 b1 n 1 0 0 0 0 w
    | 1 => if (w b1 0) ≤ v3 then (some (v2, w)) else (if ra_in v3 7 then if (w (b0 + 2) (ra_ix v3)) = 0 then (fX4_idleOnes k b0 b1 n 2 0 v3 (1 <<< (v3 &&& 31)) v2 w) else (fX4_idleOnes k b0 b1 n 2 0 v3 0 v2 w) else none)
    | _ => fX4_idleOnes k b0 b1 n 1 (s1 ||| s0) (v3 + 1) 0 0 w
theorem fX4_idleOnes_0 (k : Nat) (b0 : Nat) (b1 : Nat) (n : Nat) (v2 : Int32) (v3 : Int32) (s0 : Int32) (s1 : Int32) (w : ra_W) : fX4_idleOnes k b0 b1 (n + 1) 0 v2 v3 s0 s1 w = (fX4_idleOnes k b0 b1 n 1 0 0 0 0 w) := rfl
theorem fX4_idleOnes_1 (k : Nat) (b0 : Nat) (b1 : Nat) (n : Nat) (v2 : Int32) (v3 : Int32) (s0 : Int32) (s1 : Int32) (w : ra_W) : fX4_idleOnes k b0 b1 (n + 1) 1 v2 v3 s0 s1 w = (if (w b1 0) ≤ v3 then (some (v2, w)) else (if ra_in v3 7 then if (w (b0 + 2) (ra_ix v3)) = 0 then (fX4_idleOnes k b0 b1 n 2 0 v3 (1 <<< (v3 &&& 31)) v2 w) else (fX4_idleOnes k b0 b1 n 2 0 v3 0 v2 w) else none)) := rfl
theorem fX4_idleOnes_2 (k : Nat) (b0 : Nat) (b1 : Nat) (n : Nat) (v2 : Int32) (v3 : Int32) (s0 : Int32) (s1 : Int32) (w : ra_W) : fX4_idleOnes k b0 b1 (n + 1) 2 v2 v3 s0 s1 w = (fX4_idleOnes k b0 b1 n 1 (s1 ||| s0) (v3 + 1) 0 0 w) := rfl
def FX4_idleOnes (k : Nat) (b0 : Nat) (b1 : Nat)  (w : ra_W) : Option (Int32 × ra_W) := fX4_idleOnes k b0 b1 k 0 0 0 0 0 w
def pX4_idleOnes_0 (Z : ra_Z) (r : Int32) (w1 : ra_W) (k : Nat) (b0 : Nat) (b1 : Nat) (n : Nat) : Prop := ∀ (v2 : Int32) (v3 : Int32) (s0 : Int32) (s1 : Int32) (w : ra_W), fX4_idleOnes k b0 b1 n 0 v2 v3 s0 s1 w = some (r, w1) → ra_J Z 4 0 [(0, .ref ((zG Z).1 b0)), (1, .ref ((zG Z).1 b1))] [] w
def pX4_idleOnes_1 (Z : ra_Z) (r : Int32) (w1 : ra_W) (k : Nat) (b0 : Nat) (b1 : Nat) (n : Nat) : Prop := ∀ (v2 : Int32) (v3 : Int32) (s0 : Int32) (s1 : Int32) (w : ra_W), fX4_idleOnes k b0 b1 n 1 v2 v3 s0 s1 w = some (r, w1) → ra_J Z 4 4 [(0, .ref ((zG Z).1 b0)), (1, .ref ((zG Z).1 b1)), (2, .int v2), (3, .int v3)] [] w
def pX4_idleOnes_2 (Z : ra_Z) (r : Int32) (w1 : ra_W) (k : Nat) (b0 : Nat) (b1 : Nat) (n : Nat) : Prop := ∀ (v2 : Int32) (v3 : Int32) (s0 : Int32) (s1 : Int32) (w : ra_W), fX4_idleOnes k b0 b1 n 2 v2 v3 s0 s1 w = some (r, w1) → ra_J Z 4 29 [(0, .ref ((zG Z).1 b0)), (1, .ref ((zG Z).1 b1)), (3, .int v3)] [.int s0, .int s1] w
set_option maxHeartbeats 4000000 in
theorem tX4_idleOnes_0 {Z : ra_Z} {r : Int32} {w1 : ra_W} (C : ra_C Z cX4_idleOnes 4 RX4 0 0) (hQ : ra_QI Z r w1) (hr : (zmt Z).sig.returnType = (some .int)) (k : Nat) (b0 : Nat) (b1 : Nat) (h0 : ra_S b0) (h1 : ra_N b1) (n : Nat) (ih1 : pX4_idleOnes_1 Z r w1 k b0 b1 n) : pX4_idleOnes_0 Z r w1 k b0 b1 (n + 1) := by
  intro v2 v3 s0 s1 w hf
  rw [fX4_idleOnes_0] at hf
  refine rg_iconst (pc := 0) (v := 0) C dX4_idleOnes_0 (by decide) ?_
  refine rg_istore_n (pc := 1) (lv' := [(0, .ref ((zG Z).1 b0)), (1, .ref ((zG Z).1 b1)), (2, .int 0)]) C [1, 2, 0] rfl rfl (by decide) dX4_idleOnes_1 ?_
  refine rg_iconst (pc := 2) (v := 0) C dX4_idleOnes_2 (by decide) ?_
  refine rg_istore_n (pc := 3) (lv' := [(0, .ref ((zG Z).1 b0)), (1, .ref ((zG Z).1 b1)), (2, .int 0), (3, .int 0)]) C [1, 2, 3, 0] rfl rfl (by decide) dX4_idleOnes_3 ?_
  exact ih1 _ _ _ _ _ hf
set_option maxHeartbeats 4000000 in
theorem tX4_idleOnes_1 {Z : ra_Z} {r : Int32} {w1 : ra_W} (C : ra_C Z cX4_idleOnes 4 RX4 0 0) (hQ : ra_QI Z r w1) (hr : (zmt Z).sig.returnType = (some .int)) (k : Nat) (b0 : Nat) (b1 : Nat) (h0 : ra_S b0) (h1 : ra_N b1) (n : Nat) (ih2 : pX4_idleOnes_2 Z r w1 k b0 b1 n) : pX4_idleOnes_1 Z r w1 k b0 b1 (n + 1) := by
  intro v2 v3 s0 s1 w hf
  rw [fX4_idleOnes_1] at hf
  refine rg_iload_n (pc := 4) C 3 rfl rfl dX4_idleOnes_4 ?_
  refine rg_aload_n (pc := 5) C 1 rfl rfl dX4_idleOnes_5 ?_
  refine rg_get (pc := 6) C b1 2 0 h1.1 (by decide) rfl inlX2 (by decide) wd_68 rfl dX4_idleOnes_6 ?_
  refine rg_icmp_ge (pc := 9) (tgt := 37) C dX4_idleOnes_9 (by decide) (fun c1 => ?_) (fun c1 => ?_)
  · replace hf := ra_t hf c1
    refine rg_iload_n (pc := 37) C 2 rfl rfl dX4_idleOnes_37 ?_
    exact rg_iret (pc := 38) C hQ hr hf dX4_idleOnes_38
  · replace hf := ra_f hf c1
    refine rg_iload_n (pc := 12) C 2 rfl rfl dX4_idleOnes_12 ?_
    refine rg_aload_n (pc := 13) C 0 rfl rfl dX4_idleOnes_13 ?_
    refine rg_get (pc := 14) C b0 4 1 h0.1 (by decide) rfl inlX4 (by decide) wd_133 rfl dX4_idleOnes_14 ?_
    refine rg_iload_n (pc := 17) C 3 rfl rfl dX4_idleOnes_17 ?_
    obtain ⟨g2, hf⟩ := ra_gd hf
    refine rg_iald (pc := 18) (j := (ra_ix v3)) C (b0 + 2) h0.2.2.1 rfl g2 dX4_idleOnes_18 ?_
    refine rg_if_ne (pc := 19) (tgt := 28) C dX4_idleOnes_19 (by decide) (fun c3 => ?_) (fun c3 => ?_)
    · replace hf := ra_f hf c3
      refine rg_iconst (pc := 28) (v := 0) C dX4_idleOnes_28 (by decide) ?_
      refine rg_sub [0, 1, 3] rfl ?_
      exact ih2 _ _ _ _ _ hf
    · replace hf := ra_t hf c3
      refine rg_iconst (pc := 22) (v := 1) C dX4_idleOnes_22 (by decide) ?_
      refine rg_iload_n (pc := 23) C 3 rfl rfl dX4_idleOnes_23 ?_
      refine rg_ishl (pc := 24) C dX4_idleOnes_24 ?_
      refine rg_goto (pc := 25) (tgt := 29) C dX4_idleOnes_25 (by decide) ?_
      refine rg_sub [0, 1, 3] rfl ?_
      exact ih2 _ _ _ _ _ hf
set_option maxHeartbeats 4000000 in
theorem tX4_idleOnes_2 {Z : ra_Z} {r : Int32} {w1 : ra_W} (C : ra_C Z cX4_idleOnes 4 RX4 0 0) (hQ : ra_QI Z r w1) (hr : (zmt Z).sig.returnType = (some .int)) (k : Nat) (b0 : Nat) (b1 : Nat) (h0 : ra_S b0) (h1 : ra_N b1) (n : Nat) (ih1 : pX4_idleOnes_1 Z r w1 k b0 b1 n) : pX4_idleOnes_2 Z r w1 k b0 b1 (n + 1) := by
  intro v2 v3 s0 s1 w hf
  rw [fX4_idleOnes_2] at hf
  refine rg_ior (pc := 29) C dX4_idleOnes_29 ?_
  refine rg_istore_n (pc := 30) (lv' := [(0, .ref ((zG Z).1 b0)), (1, .ref ((zG Z).1 b1)), (2, .int (s1 ||| s0)), (3, .int v3)]) C [1, 2, 0, 3] rfl rfl (by decide) dX4_idleOnes_30 ?_
  refine rg_iinc (pc := 31) (v := (v3 + 1)) (lv' := [(0, .ref ((zG Z).1 b0)), (1, .ref ((zG Z).1 b1)), (2, .int (s1 ||| s0)), (3, .int (v3 + 1))]) C 3 rfl [1, 2, 3, 0] (ra_ii (by decide)) rfl (by decide) dX4_idleOnes_31 ?_
  refine rg_goto (pc := 34) (tgt := 4) C dX4_idleOnes_34 (by decide) ?_
  exact ih1 _ _ _ _ _ hf
theorem tX4_idleOnes {Z : ra_Z} {r : Int32} {w1 : ra_W} (C : ra_C Z cX4_idleOnes 4 RX4 0 0) (hQ : ra_QI Z r w1) (hr : (zmt Z).sig.returnType = (some .int)) (k : Nat) (b0 : Nat) (b1 : Nat) (h0 : ra_S b0) (h1 : ra_N b1) : ∀ n : Nat, pX4_idleOnes_0 Z r w1 k b0 b1 n ∧ pX4_idleOnes_1 Z r w1 k b0 b1 n ∧ pX4_idleOnes_2 Z r w1 k b0 b1 n := by
  intro n
  induction n with
  | zero => exact ⟨(fun _ _ _ _ _ h => by cases h), (fun _ _ _ _ _ h => by cases h), (fun _ _ _ _ _ h => by cases h)⟩
  | succ n ih =>
    obtain ⟨ih0, ih1, ih2⟩ := ih
    exact ⟨tX4_idleOnes_0 C hQ hr k b0 b1 h0 h1 n ih1, tX4_idleOnes_1 C hQ hr k b0 b1 h0 h1 n ih2, tX4_idleOnes_2 C hQ hr k b0 b1 h0 h1 n ih1⟩
theorem kX4_idleOnes (l : Launch) (G : ra_G) (hj : ra_inj G) (k : Nat) (b0 : Nat) (b1 : Nat) (h0 : ra_S b0) (h1 : ra_N b1)  (w : ra_W) (r : Int32) (w1 : ra_W) (h : FX4_idleOnes k b0 b1  w = some (r, w1)) : ra_MI l G yX4_idleOnes cX4_idleOnes 4 (some .int) 0 0 [.ref (G.1 b0), .ref (G.1 b1)] w r w1 :=
  ra_entryI (own := RX4) (by decide) rfl (Nat.le_of_ble_eq_true rfl) hj (fun Z hl hG C hQ hr => by subst hl; subst hG; exact (tX4_idleOnes C hQ hr k b0 b1 h0 h1 k).1 _ _ _ _ _ h)
theorem ysX4_idleOnes : ra_YV yX4_idleOnes cX4_idleOnes 4 (some .int) 1 RX4 := ⟨⟨wd_5, wd_518, by decide, by decide, by decide⟩, wd_516, wd_517⟩
/-- TrunkRadio$State.isAnyWaiting -/
def fX4_isAnyWaiting (k : Nat) (b0 : Nat) (b1 : Nat) : Nat → Nat → Int32 → ra_W → Option (Int32 × ra_W)
  | 0, _, _, _ => none
  | n + 1, L, v2, w => match L with
    | 0 => fX4_isAnyWaiting k b0 b1 n 1 0 w
    | _ => if (w b1 0) ≤ v2 then (some (0, w)) else (if ra_in v2 7 then if (w (b0 + 2) (ra_ix v2)) = 1 then (some (1, w)) else (if (w (b0 + 2) (ra_ix v2)) = 2 then (some (1, w)) else (if (w (b0 + 2) (ra_ix v2)) = 3 then (some (1, w)) else (fX4_isAnyWaiting k b0 b1 n 1 (v2 + 1) w))) else none)
theorem fX4_isAnyWaiting_0 (k : Nat) (b0 : Nat) (b1 : Nat) (n : Nat) (v2 : Int32) (w : ra_W) : fX4_isAnyWaiting k b0 b1 (n + 1) 0 v2 w = (fX4_isAnyWaiting k b0 b1 n 1 0 w) := rfl
theorem fX4_isAnyWaiting_1 (k : Nat) (b0 : Nat) (b1 : Nat) (n : Nat) (v2 : Int32) (w : ra_W) : fX4_isAnyWaiting k b0 b1 (n + 1) 1 v2 w = (if (w b1 0) ≤ v2 then (some (0, w)) else (if ra_in v2 7 then if (w (b0 + 2) (ra_ix v2)) = 1 then (some (1, w)) else (if (w (b0 + 2) (ra_ix v2)) = 2 then (some (1, w)) else (if (w (b0 + 2) (ra_ix v2)) = 3 then (some (1, w)) else (fX4_isAnyWaiting k b0 b1 n 1 (v2 + 1) w))) else none)) := rfl
def FX4_isAnyWaiting (k : Nat) (b0 : Nat) (b1 : Nat)  (w : ra_W) : Option (Int32 × ra_W) := fX4_isAnyWaiting k b0 b1 k 0 0 w
def pX4_isAnyWaiting_0 (Z : ra_Z) (r : Int32) (w1 : ra_W) (k : Nat) (b0 : Nat) (b1 : Nat) (n : Nat) : Prop := ∀ (v2 : Int32) (w : ra_W), fX4_isAnyWaiting k b0 b1 n 0 v2 w = some (r, w1) → ra_J Z 3 0 [(0, .ref ((zG Z).1 b0)), (1, .ref ((zG Z).1 b1))] [] w
def pX4_isAnyWaiting_1 (Z : ra_Z) (r : Int32) (w1 : ra_W) (k : Nat) (b0 : Nat) (b1 : Nat) (n : Nat) : Prop := ∀ (v2 : Int32) (w : ra_W), fX4_isAnyWaiting k b0 b1 n 1 v2 w = some (r, w1) → ra_J Z 3 2 [(0, .ref ((zG Z).1 b0)), (1, .ref ((zG Z).1 b1)), (2, .int v2)] [] w
set_option maxHeartbeats 4000000 in
theorem tX4_isAnyWaiting_0 {Z : ra_Z} {r : Int32} {w1 : ra_W} (C : ra_C Z cX4_isAnyWaiting 3 RX4 0 0) (hQ : ra_QI Z r w1) (hr : (zmt Z).sig.returnType = (some .boolean)) (k : Nat) (b0 : Nat) (b1 : Nat) (h0 : ra_S b0) (h1 : ra_N b1) (n : Nat) (ih1 : pX4_isAnyWaiting_1 Z r w1 k b0 b1 n) : pX4_isAnyWaiting_0 Z r w1 k b0 b1 (n + 1) := by
  intro v2 w hf
  rw [fX4_isAnyWaiting_0] at hf
  refine rg_iconst (pc := 0) (v := 0) C dX4_isAnyWaiting_0 (by decide) ?_
  refine rg_istore_n (pc := 1) (lv' := [(0, .ref ((zG Z).1 b0)), (1, .ref ((zG Z).1 b1)), (2, .int 0)]) C [1, 2, 0] rfl rfl (by decide) dX4_isAnyWaiting_1 ?_
  exact ih1 _ _ hf
set_option maxHeartbeats 4000000 in
theorem tX4_isAnyWaiting_1 {Z : ra_Z} {r : Int32} {w1 : ra_W} (C : ra_C Z cX4_isAnyWaiting 3 RX4 0 0) (hQ : ra_QI Z r w1) (hr : (zmt Z).sig.returnType = (some .boolean)) (k : Nat) (b0 : Nat) (b1 : Nat) (h0 : ra_S b0) (h1 : ra_N b1) (n : Nat) (ih1 : pX4_isAnyWaiting_1 Z r w1 k b0 b1 n) : pX4_isAnyWaiting_1 Z r w1 k b0 b1 (n + 1) := by
  intro v2 w hf
  rw [fX4_isAnyWaiting_1] at hf
  refine rg_iload_n (pc := 2) C 2 rfl rfl dX4_isAnyWaiting_2 ?_
  refine rg_aload_n (pc := 3) C 1 rfl rfl dX4_isAnyWaiting_3 ?_
  refine rg_get (pc := 4) C b1 2 0 h1.1 (by decide) rfl inlX2 (by decide) wd_68 rfl dX4_isAnyWaiting_4 ?_
  refine rg_icmp_ge (pc := 7) (tgt := 48) C dX4_isAnyWaiting_7 (by decide) (fun c1 => ?_) (fun c1 => ?_)
  · replace hf := ra_t hf c1
    refine rg_iconst (pc := 48) (v := 0) C dX4_isAnyWaiting_48 (by decide) ?_
    exact rg_zret (pc := 49) C hQ hr (by decide) hf dX4_isAnyWaiting_49
  · replace hf := ra_f hf c1
    refine rg_aload_n (pc := 10) C 0 rfl rfl dX4_isAnyWaiting_10 ?_
    refine rg_get (pc := 11) C b0 4 1 h0.1 (by decide) rfl inlX4 (by decide) wd_133 rfl dX4_isAnyWaiting_11 ?_
    refine rg_iload_n (pc := 14) C 2 rfl rfl dX4_isAnyWaiting_14 ?_
    obtain ⟨g2, hf⟩ := ra_gd hf
    refine rg_iald (pc := 15) (j := (ra_ix v2)) C (b0 + 2) h0.2.2.1 rfl g2 dX4_isAnyWaiting_15 ?_
    refine rg_iconst (pc := 16) (v := 1) C dX4_isAnyWaiting_16 (by decide) ?_
    refine rg_icmp_eq (pc := 17) (tgt := 40) C dX4_isAnyWaiting_17 (by decide) (fun c3 => ?_) (fun c3 => ?_)
    · replace hf := ra_t hf c3
      refine rg_iconst (pc := 40) (v := 1) C dX4_isAnyWaiting_40 (by decide) ?_
      exact rg_zret (pc := 41) C hQ hr (by decide) hf dX4_isAnyWaiting_41
    · replace hf := ra_f hf c3
      refine rg_aload_n (pc := 20) C 0 rfl rfl dX4_isAnyWaiting_20 ?_
      refine rg_get (pc := 21) C b0 4 1 h0.1 (by decide) rfl inlX4 (by decide) wd_133 rfl dX4_isAnyWaiting_21 ?_
      refine rg_iload_n (pc := 24) C 2 rfl rfl dX4_isAnyWaiting_24 ?_
      refine rg_iald (pc := 25) (j := (ra_ix v2)) C (b0 + 2) h0.2.2.1 rfl g2 dX4_isAnyWaiting_25 ?_
      refine rg_iconst (pc := 26) (v := 2) C dX4_isAnyWaiting_26 (by decide) ?_
      refine rg_icmp_eq (pc := 27) (tgt := 40) C dX4_isAnyWaiting_27 (by decide) (fun c4 => ?_) (fun c4 => ?_)
      · replace hf := ra_t hf c4
        refine rg_iconst (pc := 40) (v := 1) C dX4_isAnyWaiting_40 (by decide) ?_
        exact rg_zret (pc := 41) C hQ hr (by decide) hf dX4_isAnyWaiting_41
      · replace hf := ra_f hf c4
        refine rg_aload_n (pc := 30) C 0 rfl rfl dX4_isAnyWaiting_30 ?_
        refine rg_get (pc := 31) C b0 4 1 h0.1 (by decide) rfl inlX4 (by decide) wd_133 rfl dX4_isAnyWaiting_31 ?_
        refine rg_iload_n (pc := 34) C 2 rfl rfl dX4_isAnyWaiting_34 ?_
        refine rg_iald (pc := 35) (j := (ra_ix v2)) C (b0 + 2) h0.2.2.1 rfl g2 dX4_isAnyWaiting_35 ?_
        refine rg_iconst (pc := 36) (v := 3) C dX4_isAnyWaiting_36 (by decide) ?_
        refine rg_icmp_ne (pc := 37) (tgt := 42) C dX4_isAnyWaiting_37 (by decide) (fun c5 => ?_) (fun c5 => ?_)
        · replace hf := ra_f hf c5
          refine rg_iinc (pc := 42) (v := (v2 + 1)) (lv' := [(0, .ref ((zG Z).1 b0)), (1, .ref ((zG Z).1 b1)), (2, .int (v2 + 1))]) C 2 rfl [1, 2, 0] (ra_ii (by decide)) rfl (by decide) dX4_isAnyWaiting_42 ?_
          refine rg_goto (pc := 45) (tgt := 2) C dX4_isAnyWaiting_45 (by decide) ?_
          exact ih1 _ _ hf
        · replace hf := ra_t hf c5
          refine rg_iconst (pc := 40) (v := 1) C dX4_isAnyWaiting_40 (by decide) ?_
          exact rg_zret (pc := 41) C hQ hr (by decide) hf dX4_isAnyWaiting_41
theorem tX4_isAnyWaiting {Z : ra_Z} {r : Int32} {w1 : ra_W} (C : ra_C Z cX4_isAnyWaiting 3 RX4 0 0) (hQ : ra_QI Z r w1) (hr : (zmt Z).sig.returnType = (some .boolean)) (k : Nat) (b0 : Nat) (b1 : Nat) (h0 : ra_S b0) (h1 : ra_N b1) : ∀ n : Nat, pX4_isAnyWaiting_0 Z r w1 k b0 b1 n ∧ pX4_isAnyWaiting_1 Z r w1 k b0 b1 n := by
  intro n
  induction n with
  | zero => exact ⟨(fun _ _ h => by cases h), (fun _ _ h => by cases h)⟩
  | succ n ih =>
    obtain ⟨ih0, ih1⟩ := ih
    exact ⟨tX4_isAnyWaiting_0 C hQ hr k b0 b1 h0 h1 n ih1, tX4_isAnyWaiting_1 C hQ hr k b0 b1 h0 h1 n ih1⟩
theorem kX4_isAnyWaiting (l : Launch) (G : ra_G) (hj : ra_inj G) (k : Nat) (b0 : Nat) (b1 : Nat) (h0 : ra_S b0) (h1 : ra_N b1)  (w : ra_W) (r : Int32) (w1 : ra_W) (h : FX4_isAnyWaiting k b0 b1  w = some (r, w1)) : ra_MI l G yX4_isAnyWaiting cX4_isAnyWaiting 3 (some .boolean) 0 0 [.ref (G.1 b0), .ref (G.1 b1)] w r w1 :=
  ra_entryI (own := RX4) (by decide) rfl (Nat.le_of_ble_eq_true rfl) hj (fun Z hl hG C hQ hr => by subst hl; subst hG; exact (tX4_isAnyWaiting C hQ hr k b0 b1 h0 h1 k).1 _ _ h)
theorem ysX4_isAnyWaiting : ra_YV yX4_isAnyWaiting cX4_isAnyWaiting 3 (some .boolean) 1 RX4 := ⟨⟨wd_5, wd_505, by decide, by decide, by decide⟩, wd_503, wd_504⟩
/-- TrunkRadio$State.free -/
def fX4_free (k : Nat) (b0 : Nat) (b1 : Nat) : Nat → Nat → Int32 → Int32 → Int32 → ra_W → Option (Int32 × ra_W)
  | 0, _, _, _, _, _ => none
  | n + 1, L, v2, v3, v4, w => match L with
    | 0 => if ra_in v2 2 then fX4_free k b0 b1 n 1 v2 (w (b1 + 1) (ra_ix v2)) 0 w else none
    | _ => if (w b1 0) ≤ v4 then (some (v3, w)) else (if ra_in v4 7 then fX4_free k b0 b1 n 1 v2 (v3 - (((w (b0 + 5) (ra_ix v4)) >>> (v2 &&& 31)) &&& 1)) (v4 + 1) w else none)
theorem fX4_free_0 (k : Nat) (b0 : Nat) (b1 : Nat) (n : Nat) (v2 : Int32) (v3 : Int32) (v4 : Int32) (w : ra_W) : fX4_free k b0 b1 (n + 1) 0 v2 v3 v4 w = (if ra_in v2 2 then fX4_free k b0 b1 n 1 v2 (w (b1 + 1) (ra_ix v2)) 0 w else none) := rfl
theorem fX4_free_1 (k : Nat) (b0 : Nat) (b1 : Nat) (n : Nat) (v2 : Int32) (v3 : Int32) (v4 : Int32) (w : ra_W) : fX4_free k b0 b1 (n + 1) 1 v2 v3 v4 w = (if (w b1 0) ≤ v4 then (some (v3, w)) else (if ra_in v4 7 then fX4_free k b0 b1 n 1 v2 (v3 - (((w (b0 + 5) (ra_ix v4)) >>> (v2 &&& 31)) &&& 1)) (v4 + 1) w else none)) := rfl
def FX4_free (k : Nat) (b0 : Nat) (b1 : Nat) (v2 : Int32) (w : ra_W) : Option (Int32 × ra_W) := fX4_free k b0 b1 k 0 v2 0 0 w
def pX4_free_0 (Z : ra_Z) (r : Int32) (w1 : ra_W) (k : Nat) (b0 : Nat) (b1 : Nat) (n : Nat) : Prop := ∀ (v2 : Int32) (v3 : Int32) (v4 : Int32) (w : ra_W), fX4_free k b0 b1 n 0 v2 v3 v4 w = some (r, w1) → ra_J Z 5 0 [(0, .ref ((zG Z).1 b0)), (1, .ref ((zG Z).1 b1)), (2, .int v2)] [] w
def pX4_free_1 (Z : ra_Z) (r : Int32) (w1 : ra_W) (k : Nat) (b0 : Nat) (b1 : Nat) (n : Nat) : Prop := ∀ (v2 : Int32) (v3 : Int32) (v4 : Int32) (w : ra_W), fX4_free k b0 b1 n 1 v2 v3 v4 w = some (r, w1) → ra_J Z 5 10 [(0, .ref ((zG Z).1 b0)), (1, .ref ((zG Z).1 b1)), (2, .int v2), (3, .int v3), (4, .int v4)] [] w
set_option maxHeartbeats 4000000 in
theorem tX4_free_0 {Z : ra_Z} {r : Int32} {w1 : ra_W} (C : ra_C Z cX4_free 5 RX4 0 0) (hQ : ra_QI Z r w1) (hr : (zmt Z).sig.returnType = (some .int)) (k : Nat) (b0 : Nat) (b1 : Nat) (h0 : ra_S b0) (h1 : ra_N b1) (n : Nat) (ih1 : pX4_free_1 Z r w1 k b0 b1 n) : pX4_free_0 Z r w1 k b0 b1 (n + 1) := by
  intro v2 v3 v4 w hf
  rw [fX4_free_0] at hf
  refine rg_aload_n (pc := 0) C 1 rfl rfl dX4_free_0 ?_
  refine rg_get (pc := 1) C b1 2 3 h1.1 (by decide) rfl inlX2 (by decide) wd_80 rfl dX4_free_1 ?_
  refine rg_iload_n (pc := 4) C 2 rfl rfl dX4_free_4 ?_
  obtain ⟨g1, hf⟩ := ra_gd hf
  refine rg_iald (pc := 5) (j := (ra_ix v2)) C (b1 + 1) h1.2.1 rfl g1 dX4_free_5 ?_
  refine rg_istore_n (pc := 6) (lv' := [(0, .ref ((zG Z).1 b0)), (1, .ref ((zG Z).1 b1)), (2, .int v2), (3, .int (w (b1 + 1) (ra_ix v2)))]) C [1, 2, 3, 0] rfl rfl (by decide) dX4_free_6 ?_
  refine rg_iconst (pc := 7) (v := 0) C dX4_free_7 (by decide) ?_
  refine rg_istore (pc := 8) (lv' := [(0, .ref ((zG Z).1 b0)), (1, .ref ((zG Z).1 b1)), (2, .int v2), (3, .int (w (b1 + 1) (ra_ix v2))), (4, .int 0)]) C [1, 2, 3, 4, 0] rfl (by decide) dX4_free_8 ?_
  exact ih1 _ _ _ _ hf
set_option maxHeartbeats 4000000 in
theorem tX4_free_1 {Z : ra_Z} {r : Int32} {w1 : ra_W} (C : ra_C Z cX4_free 5 RX4 0 0) (hQ : ra_QI Z r w1) (hr : (zmt Z).sig.returnType = (some .int)) (k : Nat) (b0 : Nat) (b1 : Nat) (h0 : ra_S b0) (h1 : ra_N b1) (n : Nat) (ih1 : pX4_free_1 Z r w1 k b0 b1 n) : pX4_free_1 Z r w1 k b0 b1 (n + 1) := by
  intro v2 v3 v4 w hf
  rw [fX4_free_1] at hf
  refine rg_iload (pc := 10) C 4 rfl dX4_free_10 ?_
  refine rg_aload_n (pc := 12) C 1 rfl rfl dX4_free_12 ?_
  refine rg_get (pc := 13) C b1 2 0 h1.1 (by decide) rfl inlX2 (by decide) wd_68 rfl dX4_free_13 ?_
  refine rg_icmp_ge (pc := 16) (tgt := 39) C dX4_free_16 (by decide) (fun c1 => ?_) (fun c1 => ?_)
  · replace hf := ra_t hf c1
    refine rg_iload_n (pc := 39) C 3 rfl rfl dX4_free_39 ?_
    exact rg_iret (pc := 40) C hQ hr hf dX4_free_40
  · replace hf := ra_f hf c1
    refine rg_iload_n (pc := 19) C 3 rfl rfl dX4_free_19 ?_
    refine rg_aload_n (pc := 20) C 0 rfl rfl dX4_free_20 ?_
    refine rg_get (pc := 21) C b0 4 4 h0.1 (by decide) rfl inlX4 (by decide) wd_142 rfl dX4_free_21 ?_
    refine rg_iload (pc := 24) C 4 rfl dX4_free_24 ?_
    obtain ⟨g2, hf⟩ := ra_gd hf
    refine rg_iald (pc := 26) (j := (ra_ix v4)) C (b0 + 5) h0.2.2.2.2.2.1 rfl g2 dX4_free_26 ?_
    refine rg_iload_n (pc := 27) C 2 rfl rfl dX4_free_27 ?_
    refine rg_ishr (pc := 28) C dX4_free_28 ?_
    refine rg_iconst (pc := 29) (v := 1) C dX4_free_29 (by decide) ?_
    refine rg_iand (pc := 30) C dX4_free_30 ?_
    refine rg_isub (pc := 31) C dX4_free_31 ?_
    refine rg_istore_n (pc := 32) (lv' := [(0, .ref ((zG Z).1 b0)), (1, .ref ((zG Z).1 b1)), (2, .int v2), (3, .int (v3 - (((w (b0 + 5) (ra_ix v4)) >>> (v2 &&& 31)) &&& 1))), (4, .int v4)]) C [1, 2, 3, 0, 4] rfl rfl (by decide) dX4_free_32 ?_
    refine rg_iinc (pc := 33) (v := (v4 + 1)) (lv' := [(0, .ref ((zG Z).1 b0)), (1, .ref ((zG Z).1 b1)), (2, .int v2), (3, .int (v3 - (((w (b0 + 5) (ra_ix v4)) >>> (v2 &&& 31)) &&& 1))), (4, .int (v4 + 1))]) C 4 rfl [1, 2, 3, 4, 0] (ra_ii (by decide)) rfl (by decide) dX4_free_33 ?_
    refine rg_goto (pc := 36) (tgt := 10) C dX4_free_36 (by decide) ?_
    exact ih1 _ _ _ _ hf
theorem tX4_free {Z : ra_Z} {r : Int32} {w1 : ra_W} (C : ra_C Z cX4_free 5 RX4 0 0) (hQ : ra_QI Z r w1) (hr : (zmt Z).sig.returnType = (some .int)) (k : Nat) (b0 : Nat) (b1 : Nat) (h0 : ra_S b0) (h1 : ra_N b1) : ∀ n : Nat, pX4_free_0 Z r w1 k b0 b1 n ∧ pX4_free_1 Z r w1 k b0 b1 n := by
  intro n
  induction n with
  | zero => exact ⟨(fun _ _ _ _ h => by cases h), (fun _ _ _ _ h => by cases h)⟩
  | succ n ih =>
    obtain ⟨ih0, ih1⟩ := ih
    exact ⟨tX4_free_0 C hQ hr k b0 b1 h0 h1 n ih1, tX4_free_1 C hQ hr k b0 b1 h0 h1 n ih1⟩
theorem kX4_free (l : Launch) (G : ra_G) (hj : ra_inj G) (k : Nat) (b0 : Nat) (b1 : Nat) (h0 : ra_S b0) (h1 : ra_N b1) (v2 : Int32) (w : ra_W) (r : Int32) (w1 : ra_W) (h : FX4_free k b0 b1 v2 w = some (r, w1)) : ra_MI l G yX4_free cX4_free 5 (some .int) 0 0 [.ref (G.1 b0), .ref (G.1 b1), .int v2] w r w1 :=
  ra_entryI (own := RX4) (by decide) rfl (Nat.le_of_ble_eq_true rfl) hj (fun Z hl hG C hQ hr => by subst hl; subst hG; exact (tX4_free C hQ hr k b0 b1 h0 h1 k).1 _ _ _ _ h)
theorem ysX4_free : ra_YV yX4_free cX4_free 5 (some .int) 2 RX4 := ⟨⟨wd_5, wd_469, by decide, by decide, by decide⟩, wd_467, wd_468⟩
/-- TrunkRadio.type -/
def fX5_type (k : Nat) : Nat → Nat → Int32 → ra_W → Option (Int32 × ra_W)
  | 0, _, _, _ => none
  | n + 1, L, v1, w => match L with
    | _ => if v1 < 0 then (some ((-1), w)) else (if v1 ≤ 255 then (ra_bind (FX3_append k v1 w) (fun r3 w4 => if r3 = 0 then (some ((-3), w4)) else (some ((w4 1 0), w4)))) else (some ((-1), w)))
theorem fX5_type_0 (k : Nat) (n : Nat) (v1 : Int32) (w : ra_W) : fX5_type k (n + 1) 0 v1 w = (if v1 < 0 then (some ((-1), w)) else (if v1 ≤ 255 then (ra_bind (FX3_append k v1 w) (fun r3 w4 => if r3 = 0 then (some ((-3), w4)) else (some ((w4 1 0), w4)))) else (some ((-1), w)))) := rfl
def FX5_type (k : Nat) (v1 : Int32) (w : ra_W) : Option (Int32 × ra_W) := fX5_type k k 0 v1 w
def pX5_type_0 (Z : ra_Z) (r : Int32) (w1 : ra_W) (k : Nat) (n : Nat) : Prop := ∀ (v1 : Int32) (w : ra_W), fX5_type k n 0 v1 w = some (r, w1) → ra_J Z 2 0 [(0, .ref ((zG Z).1 0)), (1, .int v1)] [] w
set_option maxHeartbeats 4000000 in
theorem tX5_type_0 {Z : ra_Z} {r : Int32} {w1 : ra_W} (C : ra_C Z cX5_type 2 RX5 1 21) (hQ : ra_QI Z r w1) (hr : (zmt Z).sig.returnType = (some .int)) (k : Nat) (n : Nat) : pX5_type_0 Z r w1 k (n + 1) := by
  intro v1 w hf
  rw [fX5_type_0] at hf
  refine rg_iload_n (pc := 0) C 1 rfl rfl dX5_type_0 ?_
  refine rg_if_lt (pc := 1) (tgt := 11) C dX5_type_1 (by decide) (fun c1 => ?_) (fun c1 => ?_)
  · replace hf := ra_t hf c1
    refine rg_iconst (pc := 11) (v := (-1)) C dX5_type_11 (by decide) ?_
    exact rg_iret (pc := 12) C hQ hr hf dX5_type_12
  · replace hf := ra_f hf c1
    refine rg_iload_n (pc := 4) C 1 rfl rfl dX5_type_4 ?_
    refine rg_sipush (pc := 5) (v := 255) C dX5_type_5 (by decide) ?_
    refine rg_icmp_le (pc := 8) (tgt := 13) C dX5_type_8 (by decide) (fun c2 => ?_) (fun c2 => ?_)
    · replace hf := ra_t hf c2
      refine rg_aload_n (pc := 13) C 0 rfl rfl dX5_type_13 ?_
      refine rg_get (pc := 14) C 0 5 0 kd_0 (by decide) rfl inlX5 (by decide) wd_201 rfl dX5_type_14 ?_
      refine rg_iload_n (pc := 17) C 1 rfl rfl dX5_type_17 ?_
      obtain ⟨r3, w4, e5, hf⟩ := ra_bd hf
      refine rg_callVI (pc := 18) (As := [.int v1]) (st := []) C (kX3_append (zl Z) (zG Z) C.hj k _ _ _ _ e5) kd_1 (by decide) rfl ysX3_append rfl wd_245 ⟨Nat.le_of_ble_eq_true rfl, Nat.le_of_ble_eq_true rfl⟩ rfl (Nat.le_of_ble_eq_true rfl) dX5_type_18 ?_
      refine rg_if_eq (pc := 21) (tgt := 34) C dX5_type_21 (by decide) (fun c6 => ?_) (fun c6 => ?_)
      · replace hf := ra_t hf c6
        refine rg_bipush (pc := 34) (v := (-3)) C dX5_type_34 (by decide) ?_
        exact rg_iret (pc := 36) C hQ hr hf dX5_type_36
      · replace hf := ra_f hf c6
        refine rg_aload_n (pc := 24) C 0 rfl rfl dX5_type_24 ?_
        refine rg_get (pc := 25) C 0 5 0 kd_0 (by decide) rfl inlX5 (by decide) wd_201 rfl dX5_type_25 ?_
        refine rg_get (pc := 28) C 1 3 0 kd_1 (by decide) rfl inlX3 (by decide) wd_26 rfl dX5_type_28 ?_
        refine rg_goto (pc := 31) (tgt := 36) C dX5_type_31 (by decide) ?_
        exact rg_iret (pc := 36) C hQ hr hf dX5_type_36
    · replace hf := ra_f hf c2
      refine rg_iconst (pc := 11) (v := (-1)) C dX5_type_11 (by decide) ?_
      exact rg_iret (pc := 12) C hQ hr hf dX5_type_12
theorem tX5_type {Z : ra_Z} {r : Int32} {w1 : ra_W} (C : ra_C Z cX5_type 2 RX5 1 21) (hQ : ra_QI Z r w1) (hr : (zmt Z).sig.returnType = (some .int)) (k : Nat) : ∀ n : Nat, pX5_type_0 Z r w1 k n := by
  intro n
  induction n with
  | zero => exact (fun _ _ h => by cases h)
  | succ n ih => exact tX5_type_0 C hQ hr k n
theorem kX5_type (l : Launch) (G : ra_G) (hj : ra_inj G) (k : Nat) (v1 : Int32) (w : ra_W) (r : Int32) (w1 : ra_W) (h : FX5_type k v1 w = some (r, w1)) : ra_MI l G yX5_type cX5_type 2 (some .int) 1 21 [.ref (G.1 0), .int v1] w r w1 :=
  ra_entryI (own := RX5) (by decide) rfl (Nat.le_of_ble_eq_true rfl) hj (fun Z hl hG C hQ hr => by subst hl; subst hG; exact (tX5_type C hQ hr k k) _ _ h)
theorem ysX5_type : ra_YV yX5_type cX5_type 2 (some .int) 1 RX5 := ⟨⟨wd_1, wd_244, by decide, by decide, by decide⟩, wd_242, wd_243⟩
/-- TrunkRadio.clear -/
def fX5_clear (k : Nat) : Nat → Nat → ra_W → Option (Int32 × ra_W)
  | 0, _, _ => none
  | n + 1, L, w => match L with
    | _ => ra_bind (FX3_empty k w) (fun r1 w2 => some (r1, w2))
theorem fX5_clear_0 (k : Nat) (n : Nat)  (w : ra_W) : fX5_clear k (n + 1) 0  w = (ra_bind (FX3_empty k w) (fun r1 w2 => some (r1, w2))) := rfl
def FX5_clear (k : Nat)  (w : ra_W) : Option (Int32 × ra_W) := fX5_clear k k 0  w
def pX5_clear_0 (Z : ra_Z) (r : Int32) (w1 : ra_W) (k : Nat) (n : Nat) : Prop := ∀  (w : ra_W), fX5_clear k n 0  w = some (r, w1) → ra_J Z 1 0 [(0, .ref ((zG Z).1 0))] [] w
set_option maxHeartbeats 4000000 in
theorem tX5_clear_0 {Z : ra_Z} {r : Int32} {w1 : ra_W} (C : ra_C Z cX5_clear 1 RX5 1 21) (hQ : ra_QI Z r w1) (hr : (zmt Z).sig.returnType = (some .int)) (k : Nat) (n : Nat) : pX5_clear_0 Z r w1 k (n + 1) := by
  intro w hf
  rw [fX5_clear_0] at hf
  refine rg_aload_n (pc := 0) C 0 rfl rfl dX5_clear_0 ?_
  refine rg_get (pc := 1) C 0 5 0 kd_0 (by decide) rfl inlX5 (by decide) wd_201 rfl dX5_clear_1 ?_
  obtain ⟨r1, w2, e3, hf⟩ := ra_bd hf
  refine rg_callVI (pc := 4) (As := []) (st := []) C (kX3_empty (zl Z) (zG Z) C.hj k _ _ _ e3) kd_1 (by decide) rfl ysX3_empty rfl wd_253 ⟨Nat.le_of_ble_eq_true rfl, Nat.le_of_ble_eq_true rfl⟩ rfl (Nat.le_of_ble_eq_true rfl) dX5_clear_4 ?_
  exact rg_iret (pc := 7) C hQ hr hf dX5_clear_7
theorem tX5_clear {Z : ra_Z} {r : Int32} {w1 : ra_W} (C : ra_C Z cX5_clear 1 RX5 1 21) (hQ : ra_QI Z r w1) (hr : (zmt Z).sig.returnType = (some .int)) (k : Nat) : ∀ n : Nat, pX5_clear_0 Z r w1 k n := by
  intro n
  induction n with
  | zero => exact (fun _ h => by cases h)
  | succ n ih => exact tX5_clear_0 C hQ hr k n
theorem kX5_clear (l : Launch) (G : ra_G) (hj : ra_inj G) (k : Nat)  (w : ra_W) (r : Int32) (w1 : ra_W) (h : FX5_clear k  w = some (r, w1)) : ra_MI l G yX5_clear cX5_clear 1 (some .int) 1 21 [.ref (G.1 0)] w r w1 :=
  ra_entryI (own := RX5) (by decide) rfl (Nat.le_of_ble_eq_true rfl) hj (fun Z hl hG C hQ hr => by subst hl; subst hG; exact (tX5_clear C hQ hr k k) _ h)
theorem ysX5_clear : ra_YV yX5_clear cX5_clear 1 (some .int) 0 RX5 := ⟨⟨wd_1, wd_252, by decide, by decide, by decide⟩, wd_250, wd_251⟩
/-- TrunkRadio.net -/
def fX5_net (k : Nat) : Nat → Nat → ra_W → Option (Int32 × ra_W)
  | 0, _, _ => none
  | n + 1, L, w => match L with
    | _ => ra_bind (FX3_readInto k 8 w) (fun r1 w2 => if 0 ≤ r1 then (ra_bind (FX2_copy k 3 8 w2) (fun _ w6 => ra_bind (FX4_begin k 16 3 w6) (fun _ w9 => ra_bind (FX3_empty k w9) (fun r11 w12 => ra_bind (FX1_lose k w12) (fun _ w15 => some (r1, (ra_st (ra_st w15 0 11 0) 0 8 0))))))) else (some (r1, w2)))
theorem fX5_net_0 (k : Nat) (n : Nat)  (w : ra_W) : fX5_net k (n + 1) 0  w = (ra_bind (FX3_readInto k 8 w) (fun r1 w2 => if 0 ≤ r1 then (ra_bind (FX2_copy k 3 8 w2) (fun _ w6 => ra_bind (FX4_begin k 16 3 w6) (fun _ w9 => ra_bind (FX3_empty k w9) (fun r11 w12 => ra_bind (FX1_lose k w12) (fun _ w15 => some (r1, (ra_st (ra_st w15 0 11 0) 0 8 0))))))) else (some (r1, w2)))) := rfl
def FX5_net (k : Nat)  (w : ra_W) : Option (Int32 × ra_W) := fX5_net k k 0  w
def pX5_net_0 (Z : ra_Z) (r : Int32) (w1 : ra_W) (k : Nat) (n : Nat) : Prop := ∀  (w : ra_W), fX5_net k n 0  w = some (r, w1) → ra_J Z 2 0 [(0, .ref ((zG Z).1 0))] [] w
set_option maxHeartbeats 4000000 in
theorem tX5_net_0 {Z : ra_Z} {r : Int32} {w1 : ra_W} (C : ra_C Z cX5_net 2 RX5 7 160) (hQ : ra_QI Z r w1) (hr : (zmt Z).sig.returnType = (some .int)) (k : Nat) (n : Nat) : pX5_net_0 Z r w1 k (n + 1) := by
  intro w hf
  rw [fX5_net_0] at hf
  refine rg_aload_n (pc := 0) C 0 rfl rfl dX5_net_0 ?_
  refine rg_get (pc := 1) C 0 5 0 kd_0 (by decide) rfl inlX5 (by decide) wd_201 rfl dX5_net_1 ?_
  refine rg_aload_n (pc := 4) C 0 rfl rfl dX5_net_4 ?_
  refine rg_get (pc := 5) C 0 5 2 kd_0 (by decide) rfl inlX5 (by decide) wd_203 rfl dX5_net_5 ?_
  obtain ⟨r1, w2, e3, hf⟩ := ra_bd hf
  refine rg_callVI (pc := 8) (As := [.ref ((zG Z).1 8)]) (st := []) C (kX3_readInto (zl Z) (zG Z) C.hj k 8 ra_N8 _ _ _ e3) kd_1 (by decide) rfl ysX3_readInto rfl wd_261 ⟨Nat.le_of_ble_eq_true rfl, Nat.le_of_ble_eq_true rfl⟩ rfl (Nat.le_of_ble_eq_true rfl) dX5_net_8 ?_
  refine rg_istore_n (pc := 11) (lv' := [(0, .ref ((zG Z).1 0)), (1, .int r1)]) C [1, 0] rfl rfl (by decide) dX5_net_11 ?_
  refine rg_iload_n (pc := 12) C 1 rfl rfl dX5_net_12 ?_
  refine rg_if_ge (pc := 13) (tgt := 18) C dX5_net_13 (by decide) (fun c4 => ?_) (fun c4 => ?_)
  · replace hf := ra_t hf c4
    refine rg_aload_n (pc := 18) C 0 rfl rfl dX5_net_18 ?_
    refine rg_get (pc := 19) C 0 5 1 kd_0 (by decide) rfl inlX5 (by decide) wd_202 rfl dX5_net_19 ?_
    refine rg_aload_n (pc := 22) C 0 rfl rfl dX5_net_22 ?_
    refine rg_get (pc := 23) C 0 5 2 kd_0 (by decide) rfl inlX5 (by decide) wd_203 rfl dX5_net_23 ?_
    obtain ⟨r5, w6, e7, hf⟩ := ra_bd hf
    refine rg_callVV (pc := 26) (As := [.ref ((zG Z).1 8)]) (st := []) C (kX2_copy (zl Z) (zG Z) C.hj k 3 8 ra_N3 ra_N8 _ _ _ e7) kd_3 (by decide) rfl ysX2_copy rfl wd_312 ⟨Nat.le_of_ble_eq_true rfl, Nat.le_of_ble_eq_true rfl⟩ rfl (Nat.le_of_ble_eq_true rfl) dX5_net_26 ?_
    refine rg_aload_n (pc := 29) C 0 rfl rfl dX5_net_29 ?_
    refine rg_get (pc := 30) C 0 5 4 kd_0 (by decide) rfl inlX5 (by decide) wd_205 rfl dX5_net_30 ?_
    refine rg_aload_n (pc := 33) C 0 rfl rfl dX5_net_33 ?_
    refine rg_get (pc := 34) C 0 5 1 kd_0 (by decide) rfl inlX5 (by decide) wd_202 rfl dX5_net_34 ?_
    obtain ⟨r8, w9, e10, hf⟩ := ra_bd hf
    refine rg_callVV (pc := 37) (As := [.ref ((zG Z).1 3)]) (st := []) C (kX4_begin (zl Z) (zG Z) C.hj k 16 3 ra_S16 ra_N3 _ _ _ e10) kd_16 (by decide) rfl ysX4_begin rfl wd_319 ⟨Nat.le_of_ble_eq_true rfl, Nat.le_of_ble_eq_true rfl⟩ rfl (Nat.le_of_ble_eq_true rfl) dX5_net_37 ?_
    refine rg_aload_n (pc := 40) C 0 rfl rfl dX5_net_40 ?_
    refine rg_get (pc := 41) C 0 5 0 kd_0 (by decide) rfl inlX5 (by decide) wd_201 rfl dX5_net_41 ?_
    obtain ⟨r11, w12, e13, hf⟩ := ra_bd hf
    refine rg_callVI (pc := 44) (As := []) (st := []) C (kX3_empty (zl Z) (zG Z) C.hj k _ _ _ e13) kd_1 (by decide) rfl ysX3_empty rfl wd_253 ⟨Nat.le_of_ble_eq_true rfl, Nat.le_of_ble_eq_true rfl⟩ rfl (Nat.le_of_ble_eq_true rfl) dX5_net_44 ?_
    refine rg_pop (pc := 47) C rfl dX5_net_47 ?_
    refine rg_aload_n (pc := 48) C 0 rfl rfl dX5_net_48 ?_
    refine rg_get (pc := 49) C 0 5 6 kd_0 (by decide) rfl inlX5 (by decide) wd_207 rfl dX5_net_49 ?_
    obtain ⟨r14, w15, e16, hf⟩ := ra_bd hf
    refine rg_callVV (pc := 52) (As := []) (st := []) C (kX1_lose (zl Z) (zG Z) C.hj k _ _ _ e16) kd_30 (by decide) rfl ysX1_lose rfl wd_331 ⟨Nat.le_of_ble_eq_true rfl, Nat.le_of_ble_eq_true rfl⟩ rfl (Nat.le_of_ble_eq_true rfl) dX5_net_52 ?_
    refine rg_aload_n (pc := 55) C 0 rfl rfl dX5_net_55 ?_
    refine rg_iconst (pc := 56) (v := 0) C dX5_net_56 (by decide) ?_
    refine rg_put (pc := 57) C 0 5 11 kd_0 (by decide) rfl inlX5 tyX5 tyX5_ok nmX5 (by decide) wd_212 rfl rfl rfl (Nat.le_of_ble_eq_true rfl) rfl dX5_net_57 ?_
    refine rg_aload_n (pc := 60) C 0 rfl rfl dX5_net_60 ?_
    refine rg_iconst (pc := 61) (v := 0) C dX5_net_61 (by decide) ?_
    refine rg_put (pc := 62) C 0 5 8 kd_0 (by decide) rfl inlX5 tyX5 tyX5_ok nmX5 (by decide) wd_209 rfl rfl rfl (Nat.le_of_ble_eq_true rfl) rfl dX5_net_62 ?_
    refine rg_iload_n (pc := 65) C 1 rfl rfl dX5_net_65 ?_
    exact rg_iret (pc := 66) C hQ hr hf dX5_net_66
  · replace hf := ra_f hf c4
    refine rg_iload_n (pc := 16) C 1 rfl rfl dX5_net_16 ?_
    exact rg_iret (pc := 17) C hQ hr hf dX5_net_17
theorem tX5_net {Z : ra_Z} {r : Int32} {w1 : ra_W} (C : ra_C Z cX5_net 2 RX5 7 160) (hQ : ra_QI Z r w1) (hr : (zmt Z).sig.returnType = (some .int)) (k : Nat) : ∀ n : Nat, pX5_net_0 Z r w1 k n := by
  intro n
  induction n with
  | zero => exact (fun _ h => by cases h)
  | succ n ih => exact tX5_net_0 C hQ hr k n
theorem kX5_net (l : Launch) (G : ra_G) (hj : ra_inj G) (k : Nat)  (w : ra_W) (r : Int32) (w1 : ra_W) (h : FX5_net k  w = some (r, w1)) : ra_MI l G yX5_net cX5_net 2 (some .int) 7 160 [.ref (G.1 0)] w r w1 :=
  ra_entryI (own := RX5) (by decide) rfl (Nat.le_of_ble_eq_true rfl) hj (fun Z hl hG C hQ hr => by subst hl; subst hG; exact (tX5_net C hQ hr k k) _ h)
theorem ysX5_net : ra_YV yX5_net cX5_net 2 (some .int) 0 RX5 := ⟨⟨wd_1, wd_260, by decide, by decide, by decide⟩, wd_258, wd_259⟩
/-- TrunkRadio.ticks -/
def fX5_ticks (k : Nat) : Nat → Nat → Int32 → Int32 → Int32 → Int32 → Int32 → ra_W → Option (Int32 × ra_W)
  | 0, _, _, _, _, _, _, _ => none
  | n + 1, L, v1, v2, v3, s0, s1, w => match L with
    | 0 => if v1 < 1 then (some ((-1), w)) else (if v1 ≤ 12 then (if ((w 16 6) + v1) ≤ 999 then (fX5_ticks k n 1 v1 0 0 0 0 w) else (some ((-3), w))) else (some ((-1), w)))
    | 1 => if v1 ≤ v2 then (fX5_ticks k n 2 0 0 0 0 0 w) else (ra_bind (FX1_record k 16 w) (fun _ w3 => ra_bind (FX0_pass k 3 16 w3) (fun _ w6 => fX5_ticks k n 1 v1 (v2 + 1) 0 0 0 w6)))
    | 2 => if (w 3 0) ≤ v3 then (some (v2, w)) else (ra_bind (FX4_isOnAir k 16 v3 w) (fun r2 w3 => if r2 = 0 then (fX5_ticks k n 3 0 0 v3 0 v2 w3) else (fX5_ticks k n 3 0 0 v3 1 v2 w3)))
    | _ => fX5_ticks k n 2 0 (s1 + s0) (v3 + 1) 0 0 w
theorem fX5_ticks_0 (k : Nat) (n : Nat) (v1 : Int32) (v2 : Int32) (v3 : Int32) (s0 : Int32) (s1 : Int32) (w : ra_W) : fX5_ticks k (n + 1) 0 v1 v2 v3 s0 s1 w = (if v1 < 1 then (some ((-1), w)) else (if v1 ≤ 12 then (if ((w 16 6) + v1) ≤ 999 then (fX5_ticks k n 1 v1 0 0 0 0 w) else (some ((-3), w))) else (some ((-1), w)))) := rfl
theorem fX5_ticks_1 (k : Nat) (n : Nat) (v1 : Int32) (v2 : Int32) (v3 : Int32) (s0 : Int32) (s1 : Int32) (w : ra_W) : fX5_ticks k (n + 1) 1 v1 v2 v3 s0 s1 w = (if v1 ≤ v2 then (fX5_ticks k n 2 0 0 0 0 0 w) else (ra_bind (FX1_record k 16 w) (fun _ w3 => ra_bind (FX0_pass k 3 16 w3) (fun _ w6 => fX5_ticks k n 1 v1 (v2 + 1) 0 0 0 w6)))) := rfl
theorem fX5_ticks_2 (k : Nat) (n : Nat) (v1 : Int32) (v2 : Int32) (v3 : Int32) (s0 : Int32) (s1 : Int32) (w : ra_W) : fX5_ticks k (n + 1) 2 v1 v2 v3 s0 s1 w = (if (w 3 0) ≤ v3 then (some (v2, w)) else (ra_bind (FX4_isOnAir k 16 v3 w) (fun r2 w3 => if r2 = 0 then (fX5_ticks k n 3 0 0 v3 0 v2 w3) else (fX5_ticks k n 3 0 0 v3 1 v2 w3)))) := rfl
theorem fX5_ticks_3 (k : Nat) (n : Nat) (v1 : Int32) (v2 : Int32) (v3 : Int32) (s0 : Int32) (s1 : Int32) (w : ra_W) : fX5_ticks k (n + 1) 3 v1 v2 v3 s0 s1 w = (fX5_ticks k n 2 0 (s1 + s0) (v3 + 1) 0 0 w) := rfl
def FX5_ticks (k : Nat) (v1 : Int32) (w : ra_W) : Option (Int32 × ra_W) := fX5_ticks k k 0 v1 0 0 0 0 w
def pX5_ticks_0 (Z : ra_Z) (r : Int32) (w1 : ra_W) (k : Nat) (n : Nat) : Prop := ∀ (v1 : Int32) (v2 : Int32) (v3 : Int32) (s0 : Int32) (s1 : Int32) (w : ra_W), fX5_ticks k n 0 v1 v2 v3 s0 s1 w = some (r, w1) → ra_J Z 4 0 [(0, .ref ((zG Z).1 0)), (1, .int v1)] [] w
def pX5_ticks_1 (Z : ra_Z) (r : Int32) (w1 : ra_W) (k : Nat) (n : Nat) : Prop := ∀ (v1 : Int32) (v2 : Int32) (v3 : Int32) (s0 : Int32) (s1 : Int32) (w : ra_W), fX5_ticks k n 1 v1 v2 v3 s0 s1 w = some (r, w1) → ra_J Z 4 33 [(0, .ref ((zG Z).1 0)), (1, .int v1), (2, .int v2)] [] w
def pX5_ticks_2 (Z : ra_Z) (r : Int32) (w1 : ra_W) (k : Nat) (n : Nat) : Prop := ∀ (v1 : Int32) (v2 : Int32) (v3 : Int32) (s0 : Int32) (s1 : Int32) (w : ra_W), fX5_ticks k n 2 v1 v2 v3 s0 s1 w = some (r, w1) → ra_J Z 4 74 [(0, .ref ((zG Z).1 0)), (2, .int v2), (3, .int v3)] [] w
def pX5_ticks_3 (Z : ra_Z) (r : Int32) (w1 : ra_W) (k : Nat) (n : Nat) : Prop := ∀ (v1 : Int32) (v2 : Int32) (v3 : Int32) (s0 : Int32) (s1 : Int32) (w : ra_W), fX5_ticks k n 3 v1 v2 v3 s0 s1 w = some (r, w1) → ra_J Z 4 102 [(0, .ref ((zG Z).1 0)), (3, .int v3)] [.int s0, .int s1] w
set_option maxHeartbeats 4000000 in
theorem tX5_ticks_0 {Z : ra_Z} {r : Int32} {w1 : ra_W} (C : ra_C Z cX5_ticks 4 RX5 5 117) (hQ : ra_QI Z r w1) (hr : (zmt Z).sig.returnType = (some .int)) (k : Nat) (n : Nat) (ih1 : pX5_ticks_1 Z r w1 k n) : pX5_ticks_0 Z r w1 k (n + 1) := by
  intro v1 v2 v3 s0 s1 w hf
  rw [fX5_ticks_0] at hf
  refine rg_iload_n (pc := 0) C 1 rfl rfl dX5_ticks_0 ?_
  refine rg_iconst (pc := 1) (v := 1) C dX5_ticks_1 (by decide) ?_
  refine rg_icmp_lt (pc := 2) (tgt := 11) C dX5_ticks_2 (by decide) (fun c1 => ?_) (fun c1 => ?_)
  · replace hf := ra_t hf c1
    refine rg_iconst (pc := 11) (v := (-1)) C dX5_ticks_11 (by decide) ?_
    exact rg_iret (pc := 12) C hQ hr hf dX5_ticks_12
  · replace hf := ra_f hf c1
    refine rg_iload_n (pc := 5) C 1 rfl rfl dX5_ticks_5 ?_
    refine rg_bipush (pc := 6) (v := 12) C dX5_ticks_6 (by decide) ?_
    refine rg_icmp_le (pc := 8) (tgt := 13) C dX5_ticks_8 (by decide) (fun c2 => ?_) (fun c2 => ?_)
    · replace hf := ra_t hf c2
      refine rg_aload_n (pc := 13) C 0 rfl rfl dX5_ticks_13 ?_
      refine rg_get (pc := 14) C 0 5 4 kd_0 (by decide) rfl inlX5 (by decide) wd_205 rfl dX5_ticks_14 ?_
      refine rg_get (pc := 17) C 16 4 6 kd_16 (by decide) rfl inlX4 (by decide) wd_150 rfl dX5_ticks_17 ?_
      refine rg_iload_n (pc := 20) C 1 rfl rfl dX5_ticks_20 ?_
      refine rg_iadd (pc := 21) C dX5_ticks_21 ?_
      refine rg_sipush (pc := 22) (v := 999) C dX5_ticks_22 (by decide) ?_
      refine rg_icmp_le (pc := 25) (tgt := 31) C dX5_ticks_25 (by decide) (fun c3 => ?_) (fun c3 => ?_)
      · replace hf := ra_t hf c3
        refine rg_iconst (pc := 31) (v := 0) C dX5_ticks_31 (by decide) ?_
        refine rg_istore_n (pc := 32) (lv' := [(0, .ref ((zG Z).1 0)), (1, .int v1), (2, .int 0)]) C [1, 2, 0] rfl rfl (by decide) dX5_ticks_32 ?_
        exact ih1 _ _ _ _ _ _ hf
      · replace hf := ra_f hf c3
        refine rg_bipush (pc := 28) (v := (-3)) C dX5_ticks_28 (by decide) ?_
        exact rg_iret (pc := 30) C hQ hr hf dX5_ticks_30
    · replace hf := ra_f hf c2
      refine rg_iconst (pc := 11) (v := (-1)) C dX5_ticks_11 (by decide) ?_
      exact rg_iret (pc := 12) C hQ hr hf dX5_ticks_12
set_option maxHeartbeats 4000000 in
theorem tX5_ticks_1 {Z : ra_Z} {r : Int32} {w1 : ra_W} (C : ra_C Z cX5_ticks 4 RX5 5 117) (hQ : ra_QI Z r w1) (hr : (zmt Z).sig.returnType = (some .int)) (k : Nat) (n : Nat) (ih1 : pX5_ticks_1 Z r w1 k n) (ih2 : pX5_ticks_2 Z r w1 k n) : pX5_ticks_1 Z r w1 k (n + 1) := by
  intro v1 v2 v3 s0 s1 w hf
  rw [fX5_ticks_1] at hf
  refine rg_iload_n (pc := 33) C 2 rfl rfl dX5_ticks_33 ?_
  refine rg_iload_n (pc := 34) C 1 rfl rfl dX5_ticks_34 ?_
  refine rg_icmp_ge (pc := 35) (tgt := 70) C dX5_ticks_35 (by decide) (fun c1 => ?_) (fun c1 => ?_)
  · replace hf := ra_t hf c1
    refine rg_iconst (pc := 70) (v := 0) C dX5_ticks_70 (by decide) ?_
    refine rg_istore_n (pc := 71) (lv' := [(0, .ref ((zG Z).1 0)), (1, .int v1), (2, .int 0)]) C [1, 2, 0] rfl rfl (by decide) dX5_ticks_71 ?_
    refine rg_iconst (pc := 72) (v := 0) C dX5_ticks_72 (by decide) ?_
    refine rg_istore_n (pc := 73) (lv' := [(0, .ref ((zG Z).1 0)), (1, .int v1), (2, .int 0), (3, .int 0)]) C [1, 2, 3, 0] rfl rfl (by decide) dX5_ticks_73 ?_
    refine rg_sub [0, 2, 3] rfl ?_
    exact ih2 _ _ _ _ _ _ hf
  · replace hf := ra_f hf c1
    refine rg_aload_n (pc := 38) C 0 rfl rfl dX5_ticks_38 ?_
    refine rg_get (pc := 39) C 0 5 6 kd_0 (by decide) rfl inlX5 (by decide) wd_207 rfl dX5_ticks_39 ?_
    refine rg_aload_n (pc := 42) C 0 rfl rfl dX5_ticks_42 ?_
    refine rg_get (pc := 43) C 0 5 4 kd_0 (by decide) rfl inlX5 (by decide) wd_205 rfl dX5_ticks_43 ?_
    obtain ⟨r2, w3, e4, hf⟩ := ra_bd hf
    refine rg_callVV (pc := 46) (As := [.ref ((zG Z).1 16)]) (st := []) C (kX1_record (zl Z) (zG Z) C.hj k 16 ra_S16 _ _ _ e4) kd_30 (by decide) rfl ysX1_record rfl wd_339 ⟨Nat.le_of_ble_eq_true rfl, Nat.le_of_ble_eq_true rfl⟩ rfl (Nat.le_of_ble_eq_true rfl) dX5_ticks_46 ?_
    refine rg_aload_n (pc := 49) C 0 rfl rfl dX5_ticks_49 ?_
    refine rg_get (pc := 50) C 0 5 3 kd_0 (by decide) rfl inlX5 (by decide) wd_204 rfl dX5_ticks_50 ?_
    refine rg_aload_n (pc := 53) C 0 rfl rfl dX5_ticks_53 ?_
    refine rg_get (pc := 54) C 0 5 1 kd_0 (by decide) rfl inlX5 (by decide) wd_202 rfl dX5_ticks_54 ?_
    refine rg_aload_n (pc := 57) C 0 rfl rfl dX5_ticks_57 ?_
    refine rg_get (pc := 58) C 0 5 4 kd_0 (by decide) rfl inlX5 (by decide) wd_205 rfl dX5_ticks_58 ?_
    obtain ⟨r5, w6, e7, hf⟩ := ra_bd hf
    refine rg_callVV (pc := 61) (As := [.ref ((zG Z).1 3), .ref ((zG Z).1 16)]) (st := []) C (kX0_pass (zl Z) (zG Z) C.hj k 3 16 ra_N3 ra_S16 _ _ _ e7) kd_13 (by decide) rfl ysX0_pass rfl wd_349 ⟨Nat.le_of_ble_eq_true rfl, Nat.le_of_ble_eq_true rfl⟩ rfl (Nat.le_of_ble_eq_true rfl) dX5_ticks_61 ?_
    refine rg_iinc (pc := 64) (v := (v2 + 1)) (lv' := [(0, .ref ((zG Z).1 0)), (1, .int v1), (2, .int (v2 + 1))]) C 2 rfl [1, 2, 0] (ra_ii (by decide)) rfl (by decide) dX5_ticks_64 ?_
    refine rg_goto (pc := 67) (tgt := 33) C dX5_ticks_67 (by decide) ?_
    exact ih1 _ _ _ _ _ _ hf
set_option maxHeartbeats 4000000 in
theorem tX5_ticks_2 {Z : ra_Z} {r : Int32} {w1 : ra_W} (C : ra_C Z cX5_ticks 4 RX5 5 117) (hQ : ra_QI Z r w1) (hr : (zmt Z).sig.returnType = (some .int)) (k : Nat) (n : Nat) (ih3 : pX5_ticks_3 Z r w1 k n) : pX5_ticks_2 Z r w1 k (n + 1) := by
  intro v1 v2 v3 s0 s1 w hf
  rw [fX5_ticks_2] at hf
  refine rg_iload_n (pc := 74) C 2 rfl rfl dX5_ticks_74 ?_
  refine rg_aload_n (pc := 75) C 0 rfl rfl dX5_ticks_75 ?_
  refine rg_get (pc := 76) C 0 5 1 kd_0 (by decide) rfl inlX5 (by decide) wd_202 rfl dX5_ticks_76 ?_
  refine rg_get (pc := 79) C 3 2 0 kd_3 (by decide) rfl inlX2 (by decide) wd_67 rfl dX5_ticks_79 ?_
  refine rg_icmp_ge (pc := 82) (tgt := 110) C dX5_ticks_82 (by decide) (fun c1 => ?_) (fun c1 => ?_)
  · replace hf := ra_t hf c1
    refine rg_iload_n (pc := 110) C 1 rfl rfl dX5_ticks_110 ?_
    exact rg_iret (pc := 111) C hQ hr hf dX5_ticks_111
  · replace hf := ra_f hf c1
    refine rg_iload_n (pc := 85) C 1 rfl rfl dX5_ticks_85 ?_
    refine rg_aload_n (pc := 86) C 0 rfl rfl dX5_ticks_86 ?_
    refine rg_get (pc := 87) C 0 5 4 kd_0 (by decide) rfl inlX5 (by decide) wd_205 rfl dX5_ticks_87 ?_
    refine rg_iload_n (pc := 90) C 2 rfl rfl dX5_ticks_90 ?_
    obtain ⟨r2, w3, e4, hf⟩ := ra_bd hf
    refine rg_callVI (pc := 91) (As := [.int v3]) (st := [.int v2]) C (kX4_isOnAir (zl Z) (zG Z) C.hj k 16 ra_S16 _ _ _ _ e4) kd_16 (by decide) rfl ysX4_isOnAir rfl wd_417 ⟨Nat.le_of_ble_eq_true rfl, Nat.le_of_ble_eq_true rfl⟩ rfl (Nat.le_of_ble_eq_true rfl) dX5_ticks_91 ?_
    refine rg_if_eq (pc := 94) (tgt := 101) C dX5_ticks_94 (by decide) (fun c5 => ?_) (fun c5 => ?_)
    · replace hf := ra_t hf c5
      refine rg_iconst (pc := 101) (v := 0) C dX5_ticks_101 (by decide) ?_
      refine rg_sub [0, 2] rfl ?_
      exact ih3 _ _ _ _ _ _ hf
    · replace hf := ra_f hf c5
      refine rg_iconst (pc := 97) (v := 1) C dX5_ticks_97 (by decide) ?_
      refine rg_goto (pc := 98) (tgt := 102) C dX5_ticks_98 (by decide) ?_
      refine rg_sub [0, 2] rfl ?_
      exact ih3 _ _ _ _ _ _ hf
set_option maxHeartbeats 4000000 in
theorem tX5_ticks_3 {Z : ra_Z} {r : Int32} {w1 : ra_W} (C : ra_C Z cX5_ticks 4 RX5 5 117) (hQ : ra_QI Z r w1) (hr : (zmt Z).sig.returnType = (some .int)) (k : Nat) (n : Nat) (ih2 : pX5_ticks_2 Z r w1 k n) : pX5_ticks_3 Z r w1 k (n + 1) := by
  intro v1 v2 v3 s0 s1 w hf
  rw [fX5_ticks_3] at hf
  refine rg_iadd (pc := 102) C dX5_ticks_102 ?_
  refine rg_istore_n (pc := 103) (lv' := [(0, .ref ((zG Z).1 0)), (2, .int (s1 + s0)), (3, .int v3)]) C [1, 0, 2] rfl rfl (by decide) dX5_ticks_103 ?_
  refine rg_iinc (pc := 104) (v := (v3 + 1)) (lv' := [(0, .ref ((zG Z).1 0)), (2, .int (s1 + s0)), (3, .int (v3 + 1))]) C 2 rfl [1, 2, 0] (ra_ii (by decide)) rfl (by decide) dX5_ticks_104 ?_
  refine rg_goto (pc := 107) (tgt := 74) C dX5_ticks_107 (by decide) ?_
  exact ih2 _ _ _ _ _ _ hf
theorem tX5_ticks {Z : ra_Z} {r : Int32} {w1 : ra_W} (C : ra_C Z cX5_ticks 4 RX5 5 117) (hQ : ra_QI Z r w1) (hr : (zmt Z).sig.returnType = (some .int)) (k : Nat) : ∀ n : Nat, pX5_ticks_0 Z r w1 k n ∧ pX5_ticks_1 Z r w1 k n ∧ pX5_ticks_2 Z r w1 k n ∧ pX5_ticks_3 Z r w1 k n := by
  intro n
  induction n with
  | zero => exact ⟨(fun _ _ _ _ _ _ h => by cases h), (fun _ _ _ _ _ _ h => by cases h), (fun _ _ _ _ _ _ h => by cases h), (fun _ _ _ _ _ _ h => by cases h)⟩
  | succ n ih =>
    obtain ⟨ih0, ih1, ih2, ih3⟩ := ih
    exact ⟨tX5_ticks_0 C hQ hr k n ih1, tX5_ticks_1 C hQ hr k n ih1 ih2, tX5_ticks_2 C hQ hr k n ih3, tX5_ticks_3 C hQ hr k n ih2⟩
theorem kX5_ticks (l : Launch) (G : ra_G) (hj : ra_inj G) (k : Nat) (v1 : Int32) (w : ra_W) (r : Int32) (w1 : ra_W) (h : FX5_ticks k v1 w = some (r, w1)) : ra_MI l G yX5_ticks cX5_ticks 4 (some .int) 5 117 [.ref (G.1 0), .int v1] w r w1 :=
  ra_entryI (own := RX5) (by decide) rfl (Nat.le_of_ble_eq_true rfl) hj (fun Z hl hG C hQ hr => by subst hl; subst hG; exact (tX5_ticks C hQ hr k k).1 _ _ _ _ _ _ h)
theorem ysX5_ticks : ra_YV yX5_ticks cX5_ticks 4 (some .int) 1 RX5 := ⟨⟨wd_1, wd_338, by decide, by decide, by decide⟩, wd_336, wd_337⟩
/-- TrunkRadio.isBit -/
def fX5_isBit (k : Nat) : Nat → Nat → Int32 → ra_W → Option (Int32 × ra_W)
  | 0, _, _, _ => none
  | n + 1, L, v0, w => match L with
    | _ => if v0 = 0 then (some (1, w)) else (if v0 = 1 then (some (1, w)) else (some (0, w)))
theorem fX5_isBit_0 (k : Nat) (n : Nat) (v0 : Int32) (w : ra_W) : fX5_isBit k (n + 1) 0 v0 w = (if v0 = 0 then (some (1, w)) else (if v0 = 1 then (some (1, w)) else (some (0, w)))) := rfl
def FX5_isBit (k : Nat) (v0 : Int32) (w : ra_W) : Option (Int32 × ra_W) := fX5_isBit k k 0 v0 w
def pX5_isBit_0 (Z : ra_Z) (r : Int32) (w1 : ra_W) (k : Nat) (n : Nat) : Prop := ∀ (v0 : Int32) (w : ra_W), fX5_isBit k n 0 v0 w = some (r, w1) → ra_J Z 1 0 [(0, .int v0)] [] w
set_option maxHeartbeats 4000000 in
theorem tX5_isBit_0 {Z : ra_Z} {r : Int32} {w1 : ra_W} (C : ra_C Z cX5_isBit 1 RX5 0 0) (hQ : ra_QI Z r w1) (hr : (zmt Z).sig.returnType = (some .boolean)) (k : Nat) (n : Nat) : pX5_isBit_0 Z r w1 k (n + 1) := by
  intro v0 w hf
  rw [fX5_isBit_0] at hf
  refine rg_iload_n (pc := 0) C 0 rfl rfl dX5_isBit_0 ?_
  refine rg_if_eq (pc := 1) (tgt := 9) C dX5_isBit_1 (by decide) (fun c1 => ?_) (fun c1 => ?_)
  · replace hf := ra_t hf c1
    refine rg_iconst (pc := 9) (v := 1) C dX5_isBit_9 (by decide) ?_
    refine rg_goto (pc := 10) (tgt := 14) C dX5_isBit_10 (by decide) ?_
    exact rg_zret (pc := 14) C hQ hr (by decide) hf dX5_isBit_14
  · replace hf := ra_f hf c1
    refine rg_iload_n (pc := 4) C 0 rfl rfl dX5_isBit_4 ?_
    refine rg_iconst (pc := 5) (v := 1) C dX5_isBit_5 (by decide) ?_
    refine rg_icmp_ne (pc := 6) (tgt := 13) C dX5_isBit_6 (by decide) (fun c2 => ?_) (fun c2 => ?_)
    · replace hf := ra_f hf c2
      refine rg_iconst (pc := 13) (v := 0) C dX5_isBit_13 (by decide) ?_
      exact rg_zret (pc := 14) C hQ hr (by decide) hf dX5_isBit_14
    · replace hf := ra_t hf c2
      refine rg_iconst (pc := 9) (v := 1) C dX5_isBit_9 (by decide) ?_
      refine rg_goto (pc := 10) (tgt := 14) C dX5_isBit_10 (by decide) ?_
      exact rg_zret (pc := 14) C hQ hr (by decide) hf dX5_isBit_14
theorem tX5_isBit {Z : ra_Z} {r : Int32} {w1 : ra_W} (C : ra_C Z cX5_isBit 1 RX5 0 0) (hQ : ra_QI Z r w1) (hr : (zmt Z).sig.returnType = (some .boolean)) (k : Nat) : ∀ n : Nat, pX5_isBit_0 Z r w1 k n := by
  intro n
  induction n with
  | zero => exact (fun _ _ h => by cases h)
  | succ n ih => exact tX5_isBit_0 C hQ hr k n
theorem kX5_isBit (l : Launch) (G : ra_G) (hj : ra_inj G) (k : Nat) (v0 : Int32) (w : ra_W) (r : Int32) (w1 : ra_W) (h : FX5_isBit k v0 w = some (r, w1)) : ra_MI l G yX5_isBit cX5_isBit 1 (some .boolean) 0 0 [.int v0] w r w1 :=
  ra_entryI (own := RX5) (by decide) rfl (Nat.le_of_ble_eq_true rfl) hj (fun Z hl hG C hQ hr => by subst hl; subst hG; exact (tX5_isBit C hQ hr k k) _ _ h)
theorem ysX5_isBit : ra_YS yX5_isBit cX5_isBit 1 (some .boolean) 1 := ⟨⟨wd_1, wd_431, by decide, by decide, by decide⟩, wd_430⟩
/-- TrunkRadio.presses -/
def fX5_presses (k : Nat) : Nat → Nat → Int32 → Int32 → ra_W → Option (Int32 × ra_W)
  | 0, _, _, _, _ => none
  | n + 1, L, v1, v2, w => match L with
    | _ => ra_bind (FX2_has k 3 v1 w) (fun r1 w2 => if r1 = 0 then (some ((-1), w2)) else (ra_bind (FX5_isBit k v2 w2) (fun r5 w6 => if r5 = 0 then (some ((-1), w6)) else (if ra_in v1 7 then if (w6 18 (ra_ix v1)) = 0 then (ra_bind (FX1_record k 16 w6) (fun _ w12 => ra_bind (FX4_enter k 16 v1 1 w12) (fun _ w15 => some (((ra_st w15 20 (ra_ix v1) v2) 17 (ra_ix v1)), (ra_st w15 20 (ra_ix v1) v2))))) else (some ((-2), w6)) else none))))
theorem fX5_presses_0 (k : Nat) (n : Nat) (v1 : Int32) (v2 : Int32) (w : ra_W) : fX5_presses k (n + 1) 0 v1 v2 w = (ra_bind (FX2_has k 3 v1 w) (fun r1 w2 => if r1 = 0 then (some ((-1), w2)) else (ra_bind (FX5_isBit k v2 w2) (fun r5 w6 => if r5 = 0 then (some ((-1), w6)) else (if ra_in v1 7 then if (w6 18 (ra_ix v1)) = 0 then (ra_bind (FX1_record k 16 w6) (fun _ w12 => ra_bind (FX4_enter k 16 v1 1 w12) (fun _ w15 => some (((ra_st w15 20 (ra_ix v1) v2) 17 (ra_ix v1)), (ra_st w15 20 (ra_ix v1) v2))))) else (some ((-2), w6)) else none))))) := rfl
def FX5_presses (k : Nat) (v1 : Int32) (v2 : Int32) (w : ra_W) : Option (Int32 × ra_W) := fX5_presses k k 0 v1 v2 w
def pX5_presses_0 (Z : ra_Z) (r : Int32) (w1 : ra_W) (k : Nat) (n : Nat) : Prop := ∀ (v1 : Int32) (v2 : Int32) (w : ra_W), fX5_presses k n 0 v1 v2 w = some (r, w1) → ra_J Z 3 0 [(0, .ref ((zG Z).1 0)), (1, .int v1), (2, .int v2)] [] w
set_option maxHeartbeats 4000000 in
theorem tX5_presses_0 {Z : ra_Z} {r : Int32} {w1 : ra_W} (C : ra_C Z cX5_presses 3 RX5 3 72) (hQ : ra_QI Z r w1) (hr : (zmt Z).sig.returnType = (some .int)) (k : Nat) (n : Nat) : pX5_presses_0 Z r w1 k (n + 1) := by
  intro v1 v2 w hf
  rw [fX5_presses_0] at hf
  refine rg_aload_n (pc := 0) C 0 rfl rfl dX5_presses_0 ?_
  refine rg_get (pc := 1) C 0 5 1 kd_0 (by decide) rfl inlX5 (by decide) wd_202 rfl dX5_presses_1 ?_
  refine rg_iload_n (pc := 4) C 1 rfl rfl dX5_presses_4 ?_
  obtain ⟨r1, w2, e3, hf⟩ := ra_bd hf
  refine rg_callVI (pc := 5) (As := [.int v1]) (st := []) C (kX2_has (zl Z) (zG Z) C.hj k 3 ra_N3 _ _ _ _ e3) kd_3 (by decide) rfl ysX2_has rfl wd_425 ⟨Nat.le_of_ble_eq_true rfl, Nat.le_of_ble_eq_true rfl⟩ rfl (Nat.le_of_ble_eq_true rfl) dX5_presses_5 ?_
  refine rg_if_eq (pc := 8) (tgt := 18) C dX5_presses_8 (by decide) (fun c4 => ?_) (fun c4 => ?_)
  · replace hf := ra_t hf c4
    refine rg_iconst (pc := 18) (v := (-1)) C dX5_presses_18 (by decide) ?_
    exact rg_iret (pc := 19) C hQ hr hf dX5_presses_19
  · replace hf := ra_f hf c4
    refine rg_iload_n (pc := 11) C 2 rfl rfl dX5_presses_11 ?_
    obtain ⟨r5, w6, e7, hf⟩ := ra_bd hf
    refine rg_callSI (pc := 12) (As := [.int v2]) (st := []) C (kX5_isBit (zl Z) (zG Z) C.hj k _ _ _ _ e7) ysX5_isBit rfl wd_429 ⟨Nat.le_of_ble_eq_true rfl, Nat.le_of_ble_eq_true rfl⟩ rfl (Nat.le_of_ble_eq_true rfl) dX5_presses_12 ?_
    refine rg_if_ne (pc := 15) (tgt := 20) C dX5_presses_15 (by decide) (fun c8 => ?_) (fun c8 => ?_)
    · replace hf := ra_f hf c8
      refine rg_aload_n (pc := 20) C 0 rfl rfl dX5_presses_20 ?_
      refine rg_get (pc := 21) C 0 5 4 kd_0 (by decide) rfl inlX5 (by decide) wd_205 rfl dX5_presses_21 ?_
      refine rg_get (pc := 24) C 16 4 1 kd_16 (by decide) rfl inlX4 (by decide) wd_135 rfl dX5_presses_24 ?_
      refine rg_iload_n (pc := 27) C 1 rfl rfl dX5_presses_27 ?_
      obtain ⟨g9, hf⟩ := ra_gd hf
      refine rg_iald (pc := 28) (j := (ra_ix v1)) C 18 kd_18 rfl g9 dX5_presses_28 ?_
      refine rg_if_eq (pc := 29) (tgt := 35) C dX5_presses_29 (by decide) (fun c10 => ?_) (fun c10 => ?_)
      · replace hf := ra_t hf c10
        refine rg_aload_n (pc := 35) C 0 rfl rfl dX5_presses_35 ?_
        refine rg_get (pc := 36) C 0 5 6 kd_0 (by decide) rfl inlX5 (by decide) wd_207 rfl dX5_presses_36 ?_
        refine rg_aload_n (pc := 39) C 0 rfl rfl dX5_presses_39 ?_
        refine rg_get (pc := 40) C 0 5 4 kd_0 (by decide) rfl inlX5 (by decide) wd_205 rfl dX5_presses_40 ?_
        obtain ⟨r11, w12, e13, hf⟩ := ra_bd hf
        refine rg_callVV (pc := 43) (As := [.ref ((zG Z).1 16)]) (st := []) C (kX1_record (zl Z) (zG Z) C.hj k 16 ra_S16 _ _ _ e13) kd_30 (by decide) rfl ysX1_record rfl wd_339 ⟨Nat.le_of_ble_eq_true rfl, Nat.le_of_ble_eq_true rfl⟩ rfl (Nat.le_of_ble_eq_true rfl) dX5_presses_43 ?_
        refine rg_aload_n (pc := 46) C 0 rfl rfl dX5_presses_46 ?_
        refine rg_get (pc := 47) C 0 5 4 kd_0 (by decide) rfl inlX5 (by decide) wd_205 rfl dX5_presses_47 ?_
        refine rg_iload_n (pc := 50) C 1 rfl rfl dX5_presses_50 ?_
        refine rg_iconst (pc := 51) (v := 1) C dX5_presses_51 (by decide) ?_
        obtain ⟨r14, w15, e16, hf⟩ := ra_bd hf
        refine rg_callVV (pc := 52) (As := [.int v1, .int 1]) (st := []) C (kX4_enter (zl Z) (zG Z) C.hj k 16 ra_S16 _ _ _ _ _ e16) kd_16 (by decide) rfl ysX4_enter rfl wd_432 ⟨Nat.le_of_ble_eq_true rfl, Nat.le_of_ble_eq_true rfl⟩ rfl (Nat.le_of_ble_eq_true rfl) dX5_presses_52 ?_
        refine rg_aload_n (pc := 55) C 0 rfl rfl dX5_presses_55 ?_
        refine rg_get (pc := 56) C 0 5 4 kd_0 (by decide) rfl inlX5 (by decide) wd_205 rfl dX5_presses_56 ?_
        refine rg_get (pc := 59) C 16 4 3 kd_16 (by decide) rfl inlX4 (by decide) wd_141 rfl dX5_presses_59 ?_
        refine rg_iload_n (pc := 62) C 1 rfl rfl dX5_presses_62 ?_
        refine rg_iload_n (pc := 63) C 2 rfl rfl dX5_presses_63 ?_
        refine rg_iast (pc := 64) (j := (ra_ix v1)) C 20 kd_20 rfl g9 dX5_presses_64 ?_
        refine rg_aload_n (pc := 65) C 0 rfl rfl dX5_presses_65 ?_
        refine rg_get (pc := 66) C 0 5 4 kd_0 (by decide) rfl inlX5 (by decide) wd_205 rfl dX5_presses_66 ?_
        refine rg_get (pc := 69) C 16 4 0 kd_16 (by decide) rfl inlX4 (by decide) wd_132 rfl dX5_presses_69 ?_
        refine rg_iload_n (pc := 72) C 1 rfl rfl dX5_presses_72 ?_
        refine rg_iald (pc := 73) (j := (ra_ix v1)) C 17 kd_17 rfl g9 dX5_presses_73 ?_
        exact rg_iret (pc := 74) C hQ hr hf dX5_presses_74
      · replace hf := ra_f hf c10
        refine rg_bipush (pc := 32) (v := (-2)) C dX5_presses_32 (by decide) ?_
        exact rg_iret (pc := 34) C hQ hr hf dX5_presses_34
    · replace hf := ra_t hf c8
      refine rg_iconst (pc := 18) (v := (-1)) C dX5_presses_18 (by decide) ?_
      exact rg_iret (pc := 19) C hQ hr hf dX5_presses_19
theorem tX5_presses {Z : ra_Z} {r : Int32} {w1 : ra_W} (C : ra_C Z cX5_presses 3 RX5 3 72) (hQ : ra_QI Z r w1) (hr : (zmt Z).sig.returnType = (some .int)) (k : Nat) : ∀ n : Nat, pX5_presses_0 Z r w1 k n := by
  intro n
  induction n with
  | zero => exact (fun _ _ _ h => by cases h)
  | succ n ih => exact tX5_presses_0 C hQ hr k n
theorem kX5_presses (l : Launch) (G : ra_G) (hj : ra_inj G) (k : Nat) (v1 : Int32) (v2 : Int32) (w : ra_W) (r : Int32) (w1 : ra_W) (h : FX5_presses k v1 v2 w = some (r, w1)) : ra_MI l G yX5_presses cX5_presses 3 (some .int) 3 72 [.ref (G.1 0), .int v1, .int v2] w r w1 :=
  ra_entryI (own := RX5) (by decide) rfl (Nat.le_of_ble_eq_true rfl) hj (fun Z hl hG C hQ hr => by subst hl; subst hG; exact (tX5_presses C hQ hr k k) _ _ _ h)
theorem ysX5_presses : ra_YV yX5_presses cX5_presses 3 (some .int) 2 RX5 := ⟨⟨wd_1, wd_424, by decide, by decide, by decide⟩, wd_422, wd_423⟩
/-- TrunkRadio.releases -/
def fX5_releases (k : Nat) : Nat → Nat → Int32 → ra_W → Option (Int32 × ra_W)
  | 0, _, _, _ => none
  | n + 1, L, v1, w => match L with
    | _ => ra_bind (FX2_has k 3 v1 w) (fun r1 w2 => if r1 = 0 then (some ((-1), w2)) else (if ra_in v1 7 then if (w2 18 (ra_ix v1)) = 0 then (some ((-2), w2)) else (ra_bind (FX1_record k 16 w2) (fun _ w8 => ra_bind (FX4_rest k 16 v1 w8) (fun _ w11 => some ((w2 18 (ra_ix v1)), w11)))) else none))
theorem fX5_releases_0 (k : Nat) (n : Nat) (v1 : Int32) (w : ra_W) : fX5_releases k (n + 1) 0 v1 w = (ra_bind (FX2_has k 3 v1 w) (fun r1 w2 => if r1 = 0 then (some ((-1), w2)) else (if ra_in v1 7 then if (w2 18 (ra_ix v1)) = 0 then (some ((-2), w2)) else (ra_bind (FX1_record k 16 w2) (fun _ w8 => ra_bind (FX4_rest k 16 v1 w8) (fun _ w11 => some ((w2 18 (ra_ix v1)), w11)))) else none))) := rfl
def FX5_releases (k : Nat) (v1 : Int32) (w : ra_W) : Option (Int32 × ra_W) := fX5_releases k k 0 v1 w
def pX5_releases_0 (Z : ra_Z) (r : Int32) (w1 : ra_W) (k : Nat) (n : Nat) : Prop := ∀ (v1 : Int32) (w : ra_W), fX5_releases k n 0 v1 w = some (r, w1) → ra_J Z 3 0 [(0, .ref ((zG Z).1 0)), (1, .int v1)] [] w
set_option maxHeartbeats 4000000 in
theorem tX5_releases_0 {Z : ra_Z} {r : Int32} {w1 : ra_W} (C : ra_C Z cX5_releases 3 RX5 3 72) (hQ : ra_QI Z r w1) (hr : (zmt Z).sig.returnType = (some .int)) (k : Nat) (n : Nat) : pX5_releases_0 Z r w1 k (n + 1) := by
  intro v1 w hf
  rw [fX5_releases_0] at hf
  refine rg_aload_n (pc := 0) C 0 rfl rfl dX5_releases_0 ?_
  refine rg_get (pc := 1) C 0 5 1 kd_0 (by decide) rfl inlX5 (by decide) wd_202 rfl dX5_releases_1 ?_
  refine rg_iload_n (pc := 4) C 1 rfl rfl dX5_releases_4 ?_
  obtain ⟨r1, w2, e3, hf⟩ := ra_bd hf
  refine rg_callVI (pc := 5) (As := [.int v1]) (st := []) C (kX2_has (zl Z) (zG Z) C.hj k 3 ra_N3 _ _ _ _ e3) kd_3 (by decide) rfl ysX2_has rfl wd_425 ⟨Nat.le_of_ble_eq_true rfl, Nat.le_of_ble_eq_true rfl⟩ rfl (Nat.le_of_ble_eq_true rfl) dX5_releases_5 ?_
  refine rg_if_ne (pc := 8) (tgt := 13) C dX5_releases_8 (by decide) (fun c4 => ?_) (fun c4 => ?_)
  · replace hf := ra_f hf c4
    refine rg_aload_n (pc := 13) C 0 rfl rfl dX5_releases_13 ?_
    refine rg_get (pc := 14) C 0 5 4 kd_0 (by decide) rfl inlX5 (by decide) wd_205 rfl dX5_releases_14 ?_
    refine rg_get (pc := 17) C 16 4 1 kd_16 (by decide) rfl inlX4 (by decide) wd_135 rfl dX5_releases_17 ?_
    refine rg_iload_n (pc := 20) C 1 rfl rfl dX5_releases_20 ?_
    obtain ⟨g5, hf⟩ := ra_gd hf
    refine rg_iald (pc := 21) (j := (ra_ix v1)) C 18 kd_18 rfl g5 dX5_releases_21 ?_
    refine rg_istore_n (pc := 22) (lv' := [(0, .ref ((zG Z).1 0)), (1, .int v1), (2, .int (w2 18 (ra_ix v1)))]) C [1, 2, 0] rfl rfl (by decide) dX5_releases_22 ?_
    refine rg_iload_n (pc := 23) C 2 rfl rfl dX5_releases_23 ?_
    refine rg_if_ne (pc := 24) (tgt := 30) C dX5_releases_24 (by decide) (fun c6 => ?_) (fun c6 => ?_)
    · replace hf := ra_f hf c6
      refine rg_aload_n (pc := 30) C 0 rfl rfl dX5_releases_30 ?_
      refine rg_get (pc := 31) C 0 5 6 kd_0 (by decide) rfl inlX5 (by decide) wd_207 rfl dX5_releases_31 ?_
      refine rg_aload_n (pc := 34) C 0 rfl rfl dX5_releases_34 ?_
      refine rg_get (pc := 35) C 0 5 4 kd_0 (by decide) rfl inlX5 (by decide) wd_205 rfl dX5_releases_35 ?_
      obtain ⟨r7, w8, e9, hf⟩ := ra_bd hf
      refine rg_callVV (pc := 38) (As := [.ref ((zG Z).1 16)]) (st := []) C (kX1_record (zl Z) (zG Z) C.hj k 16 ra_S16 _ _ _ e9) kd_30 (by decide) rfl ysX1_record rfl wd_339 ⟨Nat.le_of_ble_eq_true rfl, Nat.le_of_ble_eq_true rfl⟩ rfl (Nat.le_of_ble_eq_true rfl) dX5_releases_38 ?_
      refine rg_aload_n (pc := 41) C 0 rfl rfl dX5_releases_41 ?_
      refine rg_get (pc := 42) C 0 5 4 kd_0 (by decide) rfl inlX5 (by decide) wd_205 rfl dX5_releases_42 ?_
      refine rg_iload_n (pc := 45) C 1 rfl rfl dX5_releases_45 ?_
      obtain ⟨r10, w11, e12, hf⟩ := ra_bd hf
      refine rg_callVV (pc := 46) (As := [.int v1]) (st := []) C (kX4_rest (zl Z) (zG Z) C.hj k 16 ra_S16 _ _ _ _ e12) kd_16 (by decide) rfl ysX4_rest rfl wd_437 ⟨Nat.le_of_ble_eq_true rfl, Nat.le_of_ble_eq_true rfl⟩ rfl (Nat.le_of_ble_eq_true rfl) dX5_releases_46 ?_
      refine rg_iload_n (pc := 49) C 2 rfl rfl dX5_releases_49 ?_
      exact rg_iret (pc := 50) C hQ hr hf dX5_releases_50
    · replace hf := ra_t hf c6
      refine rg_bipush (pc := 27) (v := (-2)) C dX5_releases_27 (by decide) ?_
      exact rg_iret (pc := 29) C hQ hr hf dX5_releases_29
  · replace hf := ra_t hf c4
    refine rg_iconst (pc := 11) (v := (-1)) C dX5_releases_11 (by decide) ?_
    exact rg_iret (pc := 12) C hQ hr hf dX5_releases_12
theorem tX5_releases {Z : ra_Z} {r : Int32} {w1 : ra_W} (C : ra_C Z cX5_releases 3 RX5 3 72) (hQ : ra_QI Z r w1) (hr : (zmt Z).sig.returnType = (some .int)) (k : Nat) : ∀ n : Nat, pX5_releases_0 Z r w1 k n := by
  intro n
  induction n with
  | zero => exact (fun _ _ h => by cases h)
  | succ n ih => exact tX5_releases_0 C hQ hr k n
theorem kX5_releases (l : Launch) (G : ra_G) (hj : ra_inj G) (k : Nat) (v1 : Int32) (w : ra_W) (r : Int32) (w1 : ra_W) (h : FX5_releases k v1 w = some (r, w1)) : ra_MI l G yX5_releases cX5_releases 3 (some .int) 3 72 [.ref (G.1 0), .int v1] w r w1 :=
  ra_entryI (own := RX5) (by decide) rfl (Nat.le_of_ble_eq_true rfl) hj (fun Z hl hG C hQ hr => by subst hl; subst hG; exact (tX5_releases C hQ hr k k) _ _ h)
theorem ysX5_releases : ra_YV yX5_releases cX5_releases 3 (some .int) 1 RX5 := ⟨⟨wd_1, wd_436, by decide, by decide, by decide⟩, wd_434, wd_435⟩
/-- TrunkRadio.isSite -/
def fX5_isSite (k : Nat) : Nat → Nat → Int32 → ra_W → Option (Int32 × ra_W)
  | 0, _, _, _ => none
  | n + 1, L, v0, w => match L with
    | _ => if v0 < 0 then (some (0, w)) else (if 2 ≤ v0 then (some (0, w)) else (some (1, w)))
theorem fX5_isSite_0 (k : Nat) (n : Nat) (v0 : Int32) (w : ra_W) : fX5_isSite k (n + 1) 0 v0 w = (if v0 < 0 then (some (0, w)) else (if 2 ≤ v0 then (some (0, w)) else (some (1, w)))) := rfl
def FX5_isSite (k : Nat) (v0 : Int32) (w : ra_W) : Option (Int32 × ra_W) := fX5_isSite k k 0 v0 w
def pX5_isSite_0 (Z : ra_Z) (r : Int32) (w1 : ra_W) (k : Nat) (n : Nat) : Prop := ∀ (v0 : Int32) (w : ra_W), fX5_isSite k n 0 v0 w = some (r, w1) → ra_J Z 1 0 [(0, .int v0)] [] w
set_option maxHeartbeats 4000000 in
theorem tX5_isSite_0 {Z : ra_Z} {r : Int32} {w1 : ra_W} (C : ra_C Z cX5_isSite 1 RX5 0 0) (hQ : ra_QI Z r w1) (hr : (zmt Z).sig.returnType = (some .boolean)) (k : Nat) (n : Nat) : pX5_isSite_0 Z r w1 k (n + 1) := by
  intro v0 w hf
  rw [fX5_isSite_0] at hf
  refine rg_iload_n (pc := 0) C 0 rfl rfl dX5_isSite_0 ?_
  refine rg_if_lt (pc := 1) (tgt := 13) C dX5_isSite_1 (by decide) (fun c1 => ?_) (fun c1 => ?_)
  · replace hf := ra_t hf c1
    refine rg_iconst (pc := 13) (v := 0) C dX5_isSite_13 (by decide) ?_
    exact rg_zret (pc := 14) C hQ hr (by decide) hf dX5_isSite_14
  · replace hf := ra_f hf c1
    refine rg_iload_n (pc := 4) C 0 rfl rfl dX5_isSite_4 ?_
    refine rg_iconst (pc := 5) (v := 2) C dX5_isSite_5 (by decide) ?_
    refine rg_icmp_ge (pc := 6) (tgt := 13) C dX5_isSite_6 (by decide) (fun c2 => ?_) (fun c2 => ?_)
    · replace hf := ra_t hf c2
      refine rg_iconst (pc := 13) (v := 0) C dX5_isSite_13 (by decide) ?_
      exact rg_zret (pc := 14) C hQ hr (by decide) hf dX5_isSite_14
    · replace hf := ra_f hf c2
      refine rg_iconst (pc := 9) (v := 1) C dX5_isSite_9 (by decide) ?_
      refine rg_goto (pc := 10) (tgt := 14) C dX5_isSite_10 (by decide) ?_
      exact rg_zret (pc := 14) C hQ hr (by decide) hf dX5_isSite_14
theorem tX5_isSite {Z : ra_Z} {r : Int32} {w1 : ra_W} (C : ra_C Z cX5_isSite 1 RX5 0 0) (hQ : ra_QI Z r w1) (hr : (zmt Z).sig.returnType = (some .boolean)) (k : Nat) : ∀ n : Nat, pX5_isSite_0 Z r w1 k n := by
  intro n
  induction n with
  | zero => exact (fun _ _ h => by cases h)
  | succ n ih => exact tX5_isSite_0 C hQ hr k n
theorem kX5_isSite (l : Launch) (G : ra_G) (hj : ra_inj G) (k : Nat) (v0 : Int32) (w : ra_W) (r : Int32) (w1 : ra_W) (h : FX5_isSite k v0 w = some (r, w1)) : ra_MI l G yX5_isSite cX5_isSite 1 (some .boolean) 0 0 [.int v0] w r w1 :=
  ra_entryI (own := RX5) (by decide) rfl (Nat.le_of_ble_eq_true rfl) hj (fun Z hl hG C hQ hr => by subst hl; subst hG; exact (tX5_isSite C hQ hr k k) _ _ h)
theorem ysX5_isSite : ra_YS yX5_isSite cX5_isSite 1 (some .boolean) 1 := ⟨⟨wd_1, wd_444, by decide, by decide, by decide⟩, wd_443⟩
/-- TrunkRadio.controls -/
def fX5_controls (k : Nat) : Nat → Nat → Int32 → Int32 → Int32 → Int32 → Int32 → Int32 → ra_W → Option (Int32 × ra_W)
  | 0, _, _, _, _, _, _, _, _ => none
  | n + 1, L, v1, v2, v3, v4, s0, s1, w => match L with
    | 0 => ra_bind (FX5_isSite k v1 w) (fun r1 w2 => if r1 = 0 then (some ((-1), w2)) else (ra_bind (FX5_isBit k v2 w2) (fun r5 w6 => if r5 = 0 then (some ((-1), w6)) else (ra_bind (FX4_hasControl k 16 v1 w6) (fun r9 w10 => if v2 = 1 then (fX5_controls k n 1 v1 0 r9 0 1 r9 w10) else (fX5_controls k n 1 v1 0 r9 0 0 r9 w10))))))
    | 1 => if s1 = s0 then (some ((-2), w)) else (if v3 = 0 then (if ra_in v1 2 then fX5_controls k n 2 v1 0 v3 0 (w 22 (ra_ix v1)) 0 w else none) else (fX5_controls k n 2 v1 0 v3 0 0 0 w))
    | 2 => ra_bind (FX1_record k 16 w) (fun _ w2 => if v3 = 0 then (fX5_controls k n 3 0 0 0 s0 (-1) v1 w2) else (fX5_controls k n 3 0 0 0 s0 0 v1 w2))
    | _ => if ra_in s1 2 then some (v4, (ra_st w 22 (ra_ix s1) s0)) else none
theorem fX5_controls_0 (k : Nat) (n : Nat) (v1 : Int32) (v2 : Int32) (v3 : Int32) (v4 : Int32) (s0 : Int32) (s1 : Int32) (w : ra_W) : fX5_controls k (n + 1) 0 v1 v2 v3 v4 s0 s1 w = (ra_bind (FX5_isSite k v1 w) (fun r1 w2 => if r1 = 0 then (some ((-1), w2)) else (ra_bind (FX5_isBit k v2 w2) (fun r5 w6 => if r5 = 0 then (some ((-1), w6)) else (ra_bind (FX4_hasControl k 16 v1 w6) (fun r9 w10 => if v2 = 1 then (fX5_controls k n 1 v1 0 r9 0 1 r9 w10) else (fX5_controls k n 1 v1 0 r9 0 0 r9 w10))))))) := rfl
theorem fX5_controls_1 (k : Nat) (n : Nat) (v1 : Int32) (v2 : Int32) (v3 : Int32) (v4 : Int32) (s0 : Int32) (s1 : Int32) (w : ra_W) : fX5_controls k (n + 1) 1 v1 v2 v3 v4 s0 s1 w = (if s1 = s0 then (some ((-2), w)) else (if v3 = 0 then (if ra_in v1 2 then fX5_controls k n 2 v1 0 v3 0 (w 22 (ra_ix v1)) 0 w else none) else (fX5_controls k n 2 v1 0 v3 0 0 0 w))) := rfl
theorem fX5_controls_2 (k : Nat) (n : Nat) (v1 : Int32) (v2 : Int32) (v3 : Int32) (v4 : Int32) (s0 : Int32) (s1 : Int32) (w : ra_W) : fX5_controls k (n + 1) 2 v1 v2 v3 v4 s0 s1 w = (ra_bind (FX1_record k 16 w) (fun _ w2 => if v3 = 0 then (fX5_controls k n 3 0 0 0 s0 (-1) v1 w2) else (fX5_controls k n 3 0 0 0 s0 0 v1 w2))) := rfl
theorem fX5_controls_3 (k : Nat) (n : Nat) (v1 : Int32) (v2 : Int32) (v3 : Int32) (v4 : Int32) (s0 : Int32) (s1 : Int32) (w : ra_W) : fX5_controls k (n + 1) 3 v1 v2 v3 v4 s0 s1 w = (if ra_in s1 2 then some (v4, (ra_st w 22 (ra_ix s1) s0)) else none) := rfl
def FX5_controls (k : Nat) (v1 : Int32) (v2 : Int32) (w : ra_W) : Option (Int32 × ra_W) := fX5_controls k k 0 v1 v2 0 0 0 0 w
def pX5_controls_0 (Z : ra_Z) (r : Int32) (w1 : ra_W) (k : Nat) (n : Nat) : Prop := ∀ (v1 : Int32) (v2 : Int32) (v3 : Int32) (v4 : Int32) (s0 : Int32) (s1 : Int32) (w : ra_W), fX5_controls k n 0 v1 v2 v3 v4 s0 s1 w = some (r, w1) → ra_J Z 5 0 [(0, .ref ((zG Z).1 0)), (1, .int v1), (2, .int v2)] [] w
def pX5_controls_1 (Z : ra_Z) (r : Int32) (w1 : ra_W) (k : Nat) (n : Nat) : Prop := ∀ (v1 : Int32) (v2 : Int32) (v3 : Int32) (v4 : Int32) (s0 : Int32) (s1 : Int32) (w : ra_W), fX5_controls k n 1 v1 v2 v3 v4 s0 s1 w = some (r, w1) → ra_J Z 5 36 [(0, .ref ((zG Z).1 0)), (1, .int v1), (3, .int v3)] [.int s0, .int s1] w
def pX5_controls_2 (Z : ra_Z) (r : Int32) (w1 : ra_W) (k : Nat) (n : Nat) : Prop := ∀ (v1 : Int32) (v2 : Int32) (v3 : Int32) (v4 : Int32) (s0 : Int32) (s1 : Int32) (w : ra_W), fX5_controls k n 2 v1 v2 v3 v4 s0 s1 w = some (r, w1) → ra_J Z 5 59 [(0, .ref ((zG Z).1 0)), (1, .int v1), (3, .int v3)] [.int s0] w
def pX5_controls_3 (Z : ra_Z) (r : Int32) (w1 : ra_W) (k : Nat) (n : Nat) : Prop := ∀ (v1 : Int32) (v2 : Int32) (v3 : Int32) (v4 : Int32) (s0 : Int32) (s1 : Int32) (w : ra_W), fX5_controls k n 3 v1 v2 v3 v4 s0 s1 w = some (r, w1) → ra_J Z 5 89 [(0, .ref ((zG Z).1 0)), (4, .int v4)] [.int s0, .int s1, .ref ((zG Z).1 22)] w
set_option maxHeartbeats 4000000 in
theorem tX5_controls_0 {Z : ra_Z} {r : Int32} {w1 : ra_W} (C : ra_C Z cX5_controls 5 RX5 3 72) (hQ : ra_QI Z r w1) (hr : (zmt Z).sig.returnType = (some .int)) (k : Nat) (n : Nat) (ih1 : pX5_controls_1 Z r w1 k n) : pX5_controls_0 Z r w1 k (n + 1) := by
  intro v1 v2 v3 v4 s0 s1 w hf
  rw [fX5_controls_0] at hf
  refine rg_iload_n (pc := 0) C 1 rfl rfl dX5_controls_0 ?_
  obtain ⟨r1, w2, e3, hf⟩ := ra_bd hf
  refine rg_callSI (pc := 1) (As := [.int v1]) (st := []) C (kX5_isSite (zl Z) (zG Z) C.hj k _ _ _ _ e3) ysX5_isSite rfl wd_442 ⟨Nat.le_of_ble_eq_true rfl, Nat.le_of_ble_eq_true rfl⟩ rfl (Nat.le_of_ble_eq_true rfl) dX5_controls_1 ?_
  refine rg_if_eq (pc := 4) (tgt := 14) C dX5_controls_4 (by decide) (fun c4 => ?_) (fun c4 => ?_)
  · replace hf := ra_t hf c4
    refine rg_iconst (pc := 14) (v := (-1)) C dX5_controls_14 (by decide) ?_
    exact rg_iret (pc := 15) C hQ hr hf dX5_controls_15
  · replace hf := ra_f hf c4
    refine rg_iload_n (pc := 7) C 2 rfl rfl dX5_controls_7 ?_
    obtain ⟨r5, w6, e7, hf⟩ := ra_bd hf
    refine rg_callSI (pc := 8) (As := [.int v2]) (st := []) C (kX5_isBit (zl Z) (zG Z) C.hj k _ _ _ _ e7) ysX5_isBit rfl wd_429 ⟨Nat.le_of_ble_eq_true rfl, Nat.le_of_ble_eq_true rfl⟩ rfl (Nat.le_of_ble_eq_true rfl) dX5_controls_8 ?_
    refine rg_if_ne (pc := 11) (tgt := 16) C dX5_controls_11 (by decide) (fun c8 => ?_) (fun c8 => ?_)
    · replace hf := ra_f hf c8
      refine rg_aload_n (pc := 16) C 0 rfl rfl dX5_controls_16 ?_
      refine rg_get (pc := 17) C 0 5 4 kd_0 (by decide) rfl inlX5 (by decide) wd_205 rfl dX5_controls_17 ?_
      refine rg_iload_n (pc := 20) C 1 rfl rfl dX5_controls_20 ?_
      obtain ⟨r9, w10, e11, hf⟩ := ra_bd hf
      refine rg_callVI (pc := 21) (As := [.int v1]) (st := []) C (kX4_hasControl (zl Z) (zG Z) C.hj k 16 ra_S16 _ _ _ _ e11) kd_16 (by decide) rfl ysX4_hasControl rfl wd_445 ⟨Nat.le_of_ble_eq_true rfl, Nat.le_of_ble_eq_true rfl⟩ rfl (Nat.le_of_ble_eq_true rfl) dX5_controls_21 ?_
      refine rg_istore_n (pc := 24) (lv' := [(0, .ref ((zG Z).1 0)), (1, .int v1), (2, .int v2), (3, .int r9)]) C [1, 2, 3, 0] rfl rfl (by decide) dX5_controls_24 ?_
      refine rg_iload_n (pc := 25) C 3 rfl rfl dX5_controls_25 ?_
      refine rg_iload_n (pc := 26) C 2 rfl rfl dX5_controls_26 ?_
      refine rg_iconst (pc := 27) (v := 1) C dX5_controls_27 (by decide) ?_
      refine rg_icmp_ne (pc := 28) (tgt := 35) C dX5_controls_28 (by decide) (fun c12 => ?_) (fun c12 => ?_)
      · replace hf := ra_f hf c12
        refine rg_iconst (pc := 35) (v := 0) C dX5_controls_35 (by decide) ?_
        refine rg_sub [0, 1, 3] rfl ?_
        exact ih1 _ _ _ _ _ _ _ hf
      · replace hf := ra_t hf c12
        refine rg_iconst (pc := 31) (v := 1) C dX5_controls_31 (by decide) ?_
        refine rg_goto (pc := 32) (tgt := 36) C dX5_controls_32 (by decide) ?_
        refine rg_sub [0, 1, 3] rfl ?_
        exact ih1 _ _ _ _ _ _ _ hf
    · replace hf := ra_t hf c8
      refine rg_iconst (pc := 14) (v := (-1)) C dX5_controls_14 (by decide) ?_
      exact rg_iret (pc := 15) C hQ hr hf dX5_controls_15
set_option maxHeartbeats 4000000 in
theorem tX5_controls_1 {Z : ra_Z} {r : Int32} {w1 : ra_W} (C : ra_C Z cX5_controls 5 RX5 3 72) (hQ : ra_QI Z r w1) (hr : (zmt Z).sig.returnType = (some .int)) (k : Nat) (n : Nat) (ih2 : pX5_controls_2 Z r w1 k n) : pX5_controls_1 Z r w1 k (n + 1) := by
  intro v1 v2 v3 v4 s0 s1 w hf
  rw [fX5_controls_1] at hf
  refine rg_icmp_ne (pc := 36) (tgt := 42) C dX5_controls_36 (by decide) (fun c1 => ?_) (fun c1 => ?_)
  · replace hf := ra_f hf c1
    refine rg_iload_n (pc := 42) C 2 rfl rfl dX5_controls_42 ?_
    refine rg_if_eq (pc := 43) (tgt := 50) C dX5_controls_43 (by decide) (fun c2 => ?_) (fun c2 => ?_)
    · replace hf := ra_t hf c2
      refine rg_aload_n (pc := 50) C 0 rfl rfl dX5_controls_50 ?_
      refine rg_get (pc := 51) C 0 5 4 kd_0 (by decide) rfl inlX5 (by decide) wd_205 rfl dX5_controls_51 ?_
      refine rg_get (pc := 54) C 16 4 5 kd_16 (by decide) rfl inlX4 (by decide) wd_147 rfl dX5_controls_54 ?_
      refine rg_iload_n (pc := 57) C 1 rfl rfl dX5_controls_57 ?_
      obtain ⟨g3, hf⟩ := ra_gd hf
      refine rg_iald (pc := 58) (j := (ra_ix v1)) C 22 kd_22 rfl g3 dX5_controls_58 ?_
      exact ih2 _ _ _ _ _ _ _ hf
    · replace hf := ra_f hf c2
      refine rg_iconst (pc := 46) (v := 0) C dX5_controls_46 (by decide) ?_
      refine rg_goto (pc := 47) (tgt := 59) C dX5_controls_47 (by decide) ?_
      exact ih2 _ _ _ _ _ _ _ hf
  · replace hf := ra_t hf c1
    refine rg_bipush (pc := 39) (v := (-2)) C dX5_controls_39 (by decide) ?_
    exact rg_iret (pc := 41) C hQ hr hf dX5_controls_41
set_option maxHeartbeats 4000000 in
theorem tX5_controls_2 {Z : ra_Z} {r : Int32} {w1 : ra_W} (C : ra_C Z cX5_controls 5 RX5 3 72) (hQ : ra_QI Z r w1) (hr : (zmt Z).sig.returnType = (some .int)) (k : Nat) (n : Nat) (ih3 : pX5_controls_3 Z r w1 k n) : pX5_controls_2 Z r w1 k (n + 1) := by
  intro v1 v2 v3 v4 s0 s1 w hf
  rw [fX5_controls_2] at hf
  refine rg_istore (pc := 59) (lv' := [(0, .ref ((zG Z).1 0)), (1, .int v1), (3, .int v3), (4, .int s0)]) C [1, 2, 3, 0] rfl (by decide) dX5_controls_59 ?_
  refine rg_aload_n (pc := 61) C 0 rfl rfl dX5_controls_61 ?_
  refine rg_get (pc := 62) C 0 5 6 kd_0 (by decide) rfl inlX5 (by decide) wd_207 rfl dX5_controls_62 ?_
  refine rg_aload_n (pc := 65) C 0 rfl rfl dX5_controls_65 ?_
  refine rg_get (pc := 66) C 0 5 4 kd_0 (by decide) rfl inlX5 (by decide) wd_205 rfl dX5_controls_66 ?_
  obtain ⟨r1, w2, e3, hf⟩ := ra_bd hf
  refine rg_callVV (pc := 69) (As := [.ref ((zG Z).1 16)]) (st := []) C (kX1_record (zl Z) (zG Z) C.hj k 16 ra_S16 _ _ _ e3) kd_30 (by decide) rfl ysX1_record rfl wd_339 ⟨Nat.le_of_ble_eq_true rfl, Nat.le_of_ble_eq_true rfl⟩ rfl (Nat.le_of_ble_eq_true rfl) dX5_controls_69 ?_
  refine rg_aload_n (pc := 72) C 0 rfl rfl dX5_controls_72 ?_
  refine rg_get (pc := 73) C 0 5 4 kd_0 (by decide) rfl inlX5 (by decide) wd_205 rfl dX5_controls_73 ?_
  refine rg_get (pc := 76) C 16 4 5 kd_16 (by decide) rfl inlX4 (by decide) wd_147 rfl dX5_controls_76 ?_
  refine rg_iload_n (pc := 79) C 1 rfl rfl dX5_controls_79 ?_
  refine rg_iload_n (pc := 80) C 2 rfl rfl dX5_controls_80 ?_
  refine rg_if_eq (pc := 81) (tgt := 88) C dX5_controls_81 (by decide) (fun c4 => ?_) (fun c4 => ?_)
  · replace hf := ra_t hf c4
    refine rg_iconst (pc := 88) (v := (-1)) C dX5_controls_88 (by decide) ?_
    refine rg_sub [0, 3] rfl ?_
    exact ih3 _ _ _ _ _ _ _ hf
  · replace hf := ra_f hf c4
    refine rg_iconst (pc := 84) (v := 0) C dX5_controls_84 (by decide) ?_
    refine rg_goto (pc := 85) (tgt := 89) C dX5_controls_85 (by decide) ?_
    refine rg_sub [0, 3] rfl ?_
    exact ih3 _ _ _ _ _ _ _ hf
set_option maxHeartbeats 4000000 in
theorem tX5_controls_3 {Z : ra_Z} {r : Int32} {w1 : ra_W} (C : ra_C Z cX5_controls 5 RX5 3 72) (hQ : ra_QI Z r w1) (hr : (zmt Z).sig.returnType = (some .int)) (k : Nat) (n : Nat) : pX5_controls_3 Z r w1 k (n + 1) := by
  intro v1 v2 v3 v4 s0 s1 w hf
  rw [fX5_controls_3] at hf
  obtain ⟨g1, hf⟩ := ra_gd hf
  refine rg_iast (pc := 89) (j := (ra_ix s1)) C 22 kd_22 rfl g1 dX5_controls_89 ?_
  refine rg_iload (pc := 90) C 1 rfl dX5_controls_90 ?_
  exact rg_iret (pc := 92) C hQ hr hf dX5_controls_92
theorem tX5_controls {Z : ra_Z} {r : Int32} {w1 : ra_W} (C : ra_C Z cX5_controls 5 RX5 3 72) (hQ : ra_QI Z r w1) (hr : (zmt Z).sig.returnType = (some .int)) (k : Nat) : ∀ n : Nat, pX5_controls_0 Z r w1 k n ∧ pX5_controls_1 Z r w1 k n ∧ pX5_controls_2 Z r w1 k n ∧ pX5_controls_3 Z r w1 k n := by
  intro n
  induction n with
  | zero => exact ⟨(fun _ _ _ _ _ _ _ h => by cases h), (fun _ _ _ _ _ _ _ h => by cases h), (fun _ _ _ _ _ _ _ h => by cases h), (fun _ _ _ _ _ _ _ h => by cases h)⟩
  | succ n ih =>
    obtain ⟨ih0, ih1, ih2, ih3⟩ := ih
    exact ⟨tX5_controls_0 C hQ hr k n ih1, tX5_controls_1 C hQ hr k n ih2, tX5_controls_2 C hQ hr k n ih3, tX5_controls_3 C hQ hr k n⟩
theorem kX5_controls (l : Launch) (G : ra_G) (hj : ra_inj G) (k : Nat) (v1 : Int32) (v2 : Int32) (w : ra_W) (r : Int32) (w1 : ra_W) (h : FX5_controls k v1 v2 w = some (r, w1)) : ra_MI l G yX5_controls cX5_controls 5 (some .int) 3 72 [.ref (G.1 0), .int v1, .int v2] w r w1 :=
  ra_entryI (own := RX5) (by decide) rfl (Nat.le_of_ble_eq_true rfl) hj (fun Z hl hG C hQ hr => by subst hl; subst hG; exact (tX5_controls C hQ hr k k).1 _ _ _ _ _ _ _ h)
theorem ysX5_controls : ra_YV yX5_controls cX5_controls 5 (some .int) 2 RX5 := ⟨⟨wd_1, wd_441, by decide, by decide, by decide⟩, wd_439, wd_440⟩
/-- TrunkRadio.moves -/
def fX5_moves (k : Nat) : Nat → Nat → Int32 → ra_W → Option (Int32 × ra_W)
  | 0, _, _, _ => none
  | n + 1, L, v1, w => match L with
    | _ => ra_bind (FX2_has k 3 v1 w) (fun r1 w2 => if r1 = 0 then (some ((-1), w2)) else (if ra_in v1 7 then if (w2 18 (ra_ix v1)) = 0 then (ra_bind (FX1_record k 16 w2) (fun _ w8 => some (((ra_st w8 17 (ra_ix v1) (1 - (w8 17 (ra_ix v1)))) 17 (ra_ix v1)), (ra_st w8 17 (ra_ix v1) (1 - (w8 17 (ra_ix v1))))))) else (some ((-2), w2)) else none))
theorem fX5_moves_0 (k : Nat) (n : Nat) (v1 : Int32) (w : ra_W) : fX5_moves k (n + 1) 0 v1 w = (ra_bind (FX2_has k 3 v1 w) (fun r1 w2 => if r1 = 0 then (some ((-1), w2)) else (if ra_in v1 7 then if (w2 18 (ra_ix v1)) = 0 then (ra_bind (FX1_record k 16 w2) (fun _ w8 => some (((ra_st w8 17 (ra_ix v1) (1 - (w8 17 (ra_ix v1)))) 17 (ra_ix v1)), (ra_st w8 17 (ra_ix v1) (1 - (w8 17 (ra_ix v1))))))) else (some ((-2), w2)) else none))) := rfl
def FX5_moves (k : Nat) (v1 : Int32) (w : ra_W) : Option (Int32 × ra_W) := fX5_moves k k 0 v1 w
def pX5_moves_0 (Z : ra_Z) (r : Int32) (w1 : ra_W) (k : Nat) (n : Nat) : Prop := ∀ (v1 : Int32) (w : ra_W), fX5_moves k n 0 v1 w = some (r, w1) → ra_J Z 2 0 [(0, .ref ((zG Z).1 0)), (1, .int v1)] [] w
set_option maxHeartbeats 4000000 in
theorem tX5_moves_0 {Z : ra_Z} {r : Int32} {w1 : ra_W} (C : ra_C Z cX5_moves 2 RX5 3 72) (hQ : ra_QI Z r w1) (hr : (zmt Z).sig.returnType = (some .int)) (k : Nat) (n : Nat) : pX5_moves_0 Z r w1 k (n + 1) := by
  intro v1 w hf
  rw [fX5_moves_0] at hf
  refine rg_aload_n (pc := 0) C 0 rfl rfl dX5_moves_0 ?_
  refine rg_get (pc := 1) C 0 5 1 kd_0 (by decide) rfl inlX5 (by decide) wd_202 rfl dX5_moves_1 ?_
  refine rg_iload_n (pc := 4) C 1 rfl rfl dX5_moves_4 ?_
  obtain ⟨r1, w2, e3, hf⟩ := ra_bd hf
  refine rg_callVI (pc := 5) (As := [.int v1]) (st := []) C (kX2_has (zl Z) (zG Z) C.hj k 3 ra_N3 _ _ _ _ e3) kd_3 (by decide) rfl ysX2_has rfl wd_425 ⟨Nat.le_of_ble_eq_true rfl, Nat.le_of_ble_eq_true rfl⟩ rfl (Nat.le_of_ble_eq_true rfl) dX5_moves_5 ?_
  refine rg_if_ne (pc := 8) (tgt := 13) C dX5_moves_8 (by decide) (fun c4 => ?_) (fun c4 => ?_)
  · replace hf := ra_f hf c4
    refine rg_aload_n (pc := 13) C 0 rfl rfl dX5_moves_13 ?_
    refine rg_get (pc := 14) C 0 5 4 kd_0 (by decide) rfl inlX5 (by decide) wd_205 rfl dX5_moves_14 ?_
    refine rg_get (pc := 17) C 16 4 1 kd_16 (by decide) rfl inlX4 (by decide) wd_135 rfl dX5_moves_17 ?_
    refine rg_iload_n (pc := 20) C 1 rfl rfl dX5_moves_20 ?_
    obtain ⟨g5, hf⟩ := ra_gd hf
    refine rg_iald (pc := 21) (j := (ra_ix v1)) C 18 kd_18 rfl g5 dX5_moves_21 ?_
    refine rg_if_eq (pc := 22) (tgt := 28) C dX5_moves_22 (by decide) (fun c6 => ?_) (fun c6 => ?_)
    · replace hf := ra_t hf c6
      refine rg_aload_n (pc := 28) C 0 rfl rfl dX5_moves_28 ?_
      refine rg_get (pc := 29) C 0 5 6 kd_0 (by decide) rfl inlX5 (by decide) wd_207 rfl dX5_moves_29 ?_
      refine rg_aload_n (pc := 32) C 0 rfl rfl dX5_moves_32 ?_
      refine rg_get (pc := 33) C 0 5 4 kd_0 (by decide) rfl inlX5 (by decide) wd_205 rfl dX5_moves_33 ?_
      obtain ⟨r7, w8, e9, hf⟩ := ra_bd hf
      refine rg_callVV (pc := 36) (As := [.ref ((zG Z).1 16)]) (st := []) C (kX1_record (zl Z) (zG Z) C.hj k 16 ra_S16 _ _ _ e9) kd_30 (by decide) rfl ysX1_record rfl wd_339 ⟨Nat.le_of_ble_eq_true rfl, Nat.le_of_ble_eq_true rfl⟩ rfl (Nat.le_of_ble_eq_true rfl) dX5_moves_36 ?_
      refine rg_aload_n (pc := 39) C 0 rfl rfl dX5_moves_39 ?_
      refine rg_get (pc := 40) C 0 5 4 kd_0 (by decide) rfl inlX5 (by decide) wd_205 rfl dX5_moves_40 ?_
      refine rg_get (pc := 43) C 16 4 0 kd_16 (by decide) rfl inlX4 (by decide) wd_132 rfl dX5_moves_43 ?_
      refine rg_iload_n (pc := 46) C 1 rfl rfl dX5_moves_46 ?_
      refine rg_iconst (pc := 47) (v := 1) C dX5_moves_47 (by decide) ?_
      refine rg_aload_n (pc := 48) C 0 rfl rfl dX5_moves_48 ?_
      refine rg_get (pc := 49) C 0 5 4 kd_0 (by decide) rfl inlX5 (by decide) wd_205 rfl dX5_moves_49 ?_
      refine rg_get (pc := 52) C 16 4 0 kd_16 (by decide) rfl inlX4 (by decide) wd_132 rfl dX5_moves_52 ?_
      refine rg_iload_n (pc := 55) C 1 rfl rfl dX5_moves_55 ?_
      refine rg_iald (pc := 56) (j := (ra_ix v1)) C 17 kd_17 rfl g5 dX5_moves_56 ?_
      refine rg_isub (pc := 57) C dX5_moves_57 ?_
      refine rg_iast (pc := 58) (j := (ra_ix v1)) C 17 kd_17 rfl g5 dX5_moves_58 ?_
      refine rg_aload_n (pc := 59) C 0 rfl rfl dX5_moves_59 ?_
      refine rg_get (pc := 60) C 0 5 4 kd_0 (by decide) rfl inlX5 (by decide) wd_205 rfl dX5_moves_60 ?_
      refine rg_get (pc := 63) C 16 4 0 kd_16 (by decide) rfl inlX4 (by decide) wd_132 rfl dX5_moves_63 ?_
      refine rg_iload_n (pc := 66) C 1 rfl rfl dX5_moves_66 ?_
      refine rg_iald (pc := 67) (j := (ra_ix v1)) C 17 kd_17 rfl g5 dX5_moves_67 ?_
      exact rg_iret (pc := 68) C hQ hr hf dX5_moves_68
    · replace hf := ra_f hf c6
      refine rg_bipush (pc := 25) (v := (-2)) C dX5_moves_25 (by decide) ?_
      exact rg_iret (pc := 27) C hQ hr hf dX5_moves_27
  · replace hf := ra_t hf c4
    refine rg_iconst (pc := 11) (v := (-1)) C dX5_moves_11 (by decide) ?_
    exact rg_iret (pc := 12) C hQ hr hf dX5_moves_12
theorem tX5_moves {Z : ra_Z} {r : Int32} {w1 : ra_W} (C : ra_C Z cX5_moves 2 RX5 3 72) (hQ : ra_QI Z r w1) (hr : (zmt Z).sig.returnType = (some .int)) (k : Nat) : ∀ n : Nat, pX5_moves_0 Z r w1 k n := by
  intro n
  induction n with
  | zero => exact (fun _ _ h => by cases h)
  | succ n ih => exact tX5_moves_0 C hQ hr k n
theorem kX5_moves (l : Launch) (G : ra_G) (hj : ra_inj G) (k : Nat) (v1 : Int32) (w : ra_W) (r : Int32) (w1 : ra_W) (h : FX5_moves k v1 w = some (r, w1)) : ra_MI l G yX5_moves cX5_moves 2 (some .int) 3 72 [.ref (G.1 0), .int v1] w r w1 :=
  ra_entryI (own := RX5) (by decide) rfl (Nat.le_of_ble_eq_true rfl) hj (fun Z hl hG C hQ hr => by subst hl; subst hG; exact (tX5_moves C hQ hr k k) _ _ h)
theorem ysX5_moves : ra_YV yX5_moves cX5_moves 2 (some .int) 1 RX5 := ⟨⟨wd_1, wd_449, by decide, by decide, by decide⟩, wd_447, wd_448⟩
/-- TrunkRadio.undo -/
def fX5_undo (k : Nat) : Nat → Nat → ra_W → Option (Int32 × ra_W)
  | 0, _, _ => none
  | n + 1, L, w => match L with
    | _ => ra_bind (FX1_bringBack k 16 w) (fun r1 w2 => if r1 = 0 then (some ((-2), w2)) else (some ((w2 30 0), w2)))
theorem fX5_undo_0 (k : Nat) (n : Nat)  (w : ra_W) : fX5_undo k (n + 1) 0  w = (ra_bind (FX1_bringBack k 16 w) (fun r1 w2 => if r1 = 0 then (some ((-2), w2)) else (some ((w2 30 0), w2)))) := rfl
def FX5_undo (k : Nat)  (w : ra_W) : Option (Int32 × ra_W) := fX5_undo k k 0  w
def pX5_undo_0 (Z : ra_Z) (r : Int32) (w1 : ra_W) (k : Nat) (n : Nat) : Prop := ∀  (w : ra_W), fX5_undo k n 0  w = some (r, w1) → ra_J Z 1 0 [(0, .ref ((zG Z).1 0))] [] w
set_option maxHeartbeats 4000000 in
theorem tX5_undo_0 {Z : ra_Z} {r : Int32} {w1 : ra_W} (C : ra_C Z cX5_undo 1 RX5 3 72) (hQ : ra_QI Z r w1) (hr : (zmt Z).sig.returnType = (some .int)) (k : Nat) (n : Nat) : pX5_undo_0 Z r w1 k (n + 1) := by
  intro w hf
  rw [fX5_undo_0] at hf
  refine rg_aload_n (pc := 0) C 0 rfl rfl dX5_undo_0 ?_
  refine rg_get (pc := 1) C 0 5 6 kd_0 (by decide) rfl inlX5 (by decide) wd_207 rfl dX5_undo_1 ?_
  refine rg_aload_n (pc := 4) C 0 rfl rfl dX5_undo_4 ?_
  refine rg_get (pc := 5) C 0 5 4 kd_0 (by decide) rfl inlX5 (by decide) wd_205 rfl dX5_undo_5 ?_
  obtain ⟨r1, w2, e3, hf⟩ := ra_bd hf
  refine rg_callVI (pc := 8) (As := [.ref ((zG Z).1 16)]) (st := []) C (kX1_bringBack (zl Z) (zG Z) C.hj k 16 ra_S16 _ _ _ e3) kd_30 (by decide) rfl ysX1_bringBack rfl wd_454 ⟨Nat.le_of_ble_eq_true rfl, Nat.le_of_ble_eq_true rfl⟩ rfl (Nat.le_of_ble_eq_true rfl) dX5_undo_8 ?_
  refine rg_if_eq (pc := 11) (tgt := 24) C dX5_undo_11 (by decide) (fun c4 => ?_) (fun c4 => ?_)
  · replace hf := ra_t hf c4
    refine rg_bipush (pc := 24) (v := (-2)) C dX5_undo_24 (by decide) ?_
    exact rg_iret (pc := 26) C hQ hr hf dX5_undo_26
  · replace hf := ra_f hf c4
    refine rg_aload_n (pc := 14) C 0 rfl rfl dX5_undo_14 ?_
    refine rg_get (pc := 15) C 0 5 6 kd_0 (by decide) rfl inlX5 (by decide) wd_207 rfl dX5_undo_15 ?_
    refine rg_get (pc := 18) C 30 1 0 kd_30 (by decide) rfl inlX1 (by decide) wd_191 rfl dX5_undo_18 ?_
    refine rg_goto (pc := 21) (tgt := 26) C dX5_undo_21 (by decide) ?_
    exact rg_iret (pc := 26) C hQ hr hf dX5_undo_26
theorem tX5_undo {Z : ra_Z} {r : Int32} {w1 : ra_W} (C : ra_C Z cX5_undo 1 RX5 3 72) (hQ : ra_QI Z r w1) (hr : (zmt Z).sig.returnType = (some .int)) (k : Nat) : ∀ n : Nat, pX5_undo_0 Z r w1 k n := by
  intro n
  induction n with
  | zero => exact (fun _ h => by cases h)
  | succ n ih => exact tX5_undo_0 C hQ hr k n
theorem kX5_undo (l : Launch) (G : ra_G) (hj : ra_inj G) (k : Nat)  (w : ra_W) (r : Int32) (w1 : ra_W) (h : FX5_undo k  w = some (r, w1)) : ra_MI l G yX5_undo cX5_undo 1 (some .int) 3 72 [.ref (G.1 0)] w r w1 :=
  ra_entryI (own := RX5) (by decide) rfl (Nat.le_of_ble_eq_true rfl) hj (fun Z hl hG C hQ hr => by subst hl; subst hG; exact (tX5_undo C hQ hr k k) _ h)
theorem ysX5_undo : ra_YV yX5_undo cX5_undo 1 (some .int) 0 RX5 := ⟨⟨wd_1, wd_453, by decide, by decide, by decide⟩, wd_451, wd_452⟩
/-- TrunkRadio.radio -/
def fX5_radio (k : Nat) : Nat → Nat → Int32 → Int32 → ra_W → Option (Int32 × ra_W)
  | 0, _, _, _, _ => none
  | n + 1, L, v1, v2, w => match L with
    | _ => ra_bind (FX2_has k 3 v1 w) (fun r1 w2 => if r1 = 0 then (some ((-1), w2)) else (if v2 = 0 then (if ra_in v1 7 then some ((w2 17 (ra_ix v1)), w2) else none) else (if v2 = 1 then (if ra_in v1 7 then some ((w2 6 (ra_ix v1)), w2) else none) else (if v2 = 2 then (if ra_in v1 7 then some ((w2 7 (ra_ix v1)), w2) else none) else (if v2 = 3 then (if ra_in v1 7 then some ((w2 18 (ra_ix v1)), w2) else none) else (if v2 = 4 then (if ra_in v1 7 then some ((w2 19 (ra_ix v1)), w2) else none) else (if v2 = 5 then (if ra_in v1 7 then some ((w2 20 (ra_ix v1)), w2) else none) else (if v2 = 6 then (if ra_in v1 7 then some ((w2 21 (ra_ix v1)), w2) else none) else (some ((-1), w2))))))))))
theorem fX5_radio_0 (k : Nat) (n : Nat) (v1 : Int32) (v2 : Int32) (w : ra_W) : fX5_radio k (n + 1) 0 v1 v2 w = (ra_bind (FX2_has k 3 v1 w) (fun r1 w2 => if r1 = 0 then (some ((-1), w2)) else (if v2 = 0 then (if ra_in v1 7 then some ((w2 17 (ra_ix v1)), w2) else none) else (if v2 = 1 then (if ra_in v1 7 then some ((w2 6 (ra_ix v1)), w2) else none) else (if v2 = 2 then (if ra_in v1 7 then some ((w2 7 (ra_ix v1)), w2) else none) else (if v2 = 3 then (if ra_in v1 7 then some ((w2 18 (ra_ix v1)), w2) else none) else (if v2 = 4 then (if ra_in v1 7 then some ((w2 19 (ra_ix v1)), w2) else none) else (if v2 = 5 then (if ra_in v1 7 then some ((w2 20 (ra_ix v1)), w2) else none) else (if v2 = 6 then (if ra_in v1 7 then some ((w2 21 (ra_ix v1)), w2) else none) else (some ((-1), w2))))))))))) := rfl
def FX5_radio (k : Nat) (v1 : Int32) (v2 : Int32) (w : ra_W) : Option (Int32 × ra_W) := fX5_radio k k 0 v1 v2 w
def pX5_radio_0 (Z : ra_Z) (r : Int32) (w1 : ra_W) (k : Nat) (n : Nat) : Prop := ∀ (v1 : Int32) (v2 : Int32) (w : ra_W), fX5_radio k n 0 v1 v2 w = some (r, w1) → ra_J Z 3 0 [(0, .ref ((zG Z).1 0)), (1, .int v1), (2, .int v2)] [] w
set_option maxHeartbeats 4000000 in
theorem tX5_radio_0 {Z : ra_Z} {r : Int32} {w1 : ra_W} (C : ra_C Z cX5_radio 3 RX5 1 21) (hQ : ra_QI Z r w1) (hr : (zmt Z).sig.returnType = (some .int)) (k : Nat) (n : Nat) : pX5_radio_0 Z r w1 k (n + 1) := by
  intro v1 v2 w hf
  rw [fX5_radio_0] at hf
  refine rg_aload_n (pc := 0) C 0 rfl rfl dX5_radio_0 ?_
  refine rg_get (pc := 1) C 0 5 1 kd_0 (by decide) rfl inlX5 (by decide) wd_202 rfl dX5_radio_1 ?_
  refine rg_iload_n (pc := 4) C 1 rfl rfl dX5_radio_4 ?_
  obtain ⟨r1, w2, e3, hf⟩ := ra_bd hf
  refine rg_callVI (pc := 5) (As := [.int v1]) (st := []) C (kX2_has (zl Z) (zG Z) C.hj k 3 ra_N3 _ _ _ _ e3) kd_3 (by decide) rfl ysX2_has rfl wd_425 ⟨Nat.le_of_ble_eq_true rfl, Nat.le_of_ble_eq_true rfl⟩ rfl (Nat.le_of_ble_eq_true rfl) dX5_radio_5 ?_
  refine rg_if_ne (pc := 8) (tgt := 13) C dX5_radio_8 (by decide) (fun c4 => ?_) (fun c4 => ?_)
  · replace hf := ra_f hf c4
    refine rg_iload_n (pc := 13) C 2 rfl rfl dX5_radio_13 ?_
    by_cases c5 : v2 = 0
    · replace hf := ra_t hf c5
      refine rg_tableK (pc := 14) (off := 42) (tgt := 56) C 0 c5 dX5_radio_14 (by decide) (by decide) (by decide) (by decide) ?_
      refine rg_aload_n (pc := 56) C 0 rfl rfl dX5_radio_56 ?_
      refine rg_get (pc := 57) C 0 5 4 kd_0 (by decide) rfl inlX5 (by decide) wd_205 rfl dX5_radio_57 ?_
      refine rg_get (pc := 60) C 16 4 0 kd_16 (by decide) rfl inlX4 (by decide) wd_132 rfl dX5_radio_60 ?_
      refine rg_iload_n (pc := 63) C 1 rfl rfl dX5_radio_63 ?_
      obtain ⟨g6, hf⟩ := ra_gd hf
      refine rg_iald (pc := 64) (j := (ra_ix v1)) C 17 kd_17 rfl g6 dX5_radio_64 ?_
      exact rg_iret (pc := 65) C hQ hr hf dX5_radio_65
    · replace hf := ra_f hf c5
      by_cases c7 : v2 = 1
      · replace hf := ra_t hf c7
        refine rg_tableK (pc := 14) (off := 52) (tgt := 66) C 1 c7 dX5_radio_14 (by decide) (by decide) (by decide) (by decide) ?_
        refine rg_aload_n (pc := 66) C 0 rfl rfl dX5_radio_66 ?_
        refine rg_get (pc := 67) C 0 5 1 kd_0 (by decide) rfl inlX5 (by decide) wd_202 rfl dX5_radio_67 ?_
        refine rg_get (pc := 70) C 3 2 5 kd_3 (by decide) rfl inlX2 (by decide) wd_88 rfl dX5_radio_70 ?_
        refine rg_iload_n (pc := 73) C 1 rfl rfl dX5_radio_73 ?_
        obtain ⟨g8, hf⟩ := ra_gd hf
        refine rg_iald (pc := 74) (j := (ra_ix v1)) C 6 kd_6 rfl g8 dX5_radio_74 ?_
        exact rg_iret (pc := 75) C hQ hr hf dX5_radio_75
      · replace hf := ra_f hf c7
        by_cases c9 : v2 = 2
        · replace hf := ra_t hf c9
          refine rg_tableK (pc := 14) (off := 62) (tgt := 76) C 2 c9 dX5_radio_14 (by decide) (by decide) (by decide) (by decide) ?_
          refine rg_aload_n (pc := 76) C 0 rfl rfl dX5_radio_76 ?_
          refine rg_get (pc := 77) C 0 5 1 kd_0 (by decide) rfl inlX5 (by decide) wd_202 rfl dX5_radio_77 ?_
          refine rg_get (pc := 80) C 3 2 6 kd_3 (by decide) rfl inlX2 (by decide) wd_93 rfl dX5_radio_80 ?_
          refine rg_iload_n (pc := 83) C 1 rfl rfl dX5_radio_83 ?_
          obtain ⟨g10, hf⟩ := ra_gd hf
          refine rg_iald (pc := 84) (j := (ra_ix v1)) C 7 kd_7 rfl g10 dX5_radio_84 ?_
          exact rg_iret (pc := 85) C hQ hr hf dX5_radio_85
        · replace hf := ra_f hf c9
          by_cases c11 : v2 = 3
          · replace hf := ra_t hf c11
            refine rg_tableK (pc := 14) (off := 72) (tgt := 86) C 3 c11 dX5_radio_14 (by decide) (by decide) (by decide) (by decide) ?_
            refine rg_aload_n (pc := 86) C 0 rfl rfl dX5_radio_86 ?_
            refine rg_get (pc := 87) C 0 5 4 kd_0 (by decide) rfl inlX5 (by decide) wd_205 rfl dX5_radio_87 ?_
            refine rg_get (pc := 90) C 16 4 1 kd_16 (by decide) rfl inlX4 (by decide) wd_135 rfl dX5_radio_90 ?_
            refine rg_iload_n (pc := 93) C 1 rfl rfl dX5_radio_93 ?_
            obtain ⟨g12, hf⟩ := ra_gd hf
            refine rg_iald (pc := 94) (j := (ra_ix v1)) C 18 kd_18 rfl g12 dX5_radio_94 ?_
            exact rg_iret (pc := 95) C hQ hr hf dX5_radio_95
          · replace hf := ra_f hf c11
            by_cases c13 : v2 = 4
            · replace hf := ra_t hf c13
              refine rg_tableK (pc := 14) (off := 82) (tgt := 96) C 4 c13 dX5_radio_14 (by decide) (by decide) (by decide) (by decide) ?_
              refine rg_aload_n (pc := 96) C 0 rfl rfl dX5_radio_96 ?_
              refine rg_get (pc := 97) C 0 5 4 kd_0 (by decide) rfl inlX5 (by decide) wd_205 rfl dX5_radio_97 ?_
              refine rg_get (pc := 100) C 16 4 2 kd_16 (by decide) rfl inlX4 (by decide) wd_138 rfl dX5_radio_100 ?_
              refine rg_iload_n (pc := 103) C 1 rfl rfl dX5_radio_103 ?_
              obtain ⟨g14, hf⟩ := ra_gd hf
              refine rg_iald (pc := 104) (j := (ra_ix v1)) C 19 kd_19 rfl g14 dX5_radio_104 ?_
              exact rg_iret (pc := 105) C hQ hr hf dX5_radio_105
            · replace hf := ra_f hf c13
              by_cases c15 : v2 = 5
              · replace hf := ra_t hf c15
                refine rg_tableK (pc := 14) (off := 92) (tgt := 106) C 5 c15 dX5_radio_14 (by decide) (by decide) (by decide) (by decide) ?_
                refine rg_aload_n (pc := 106) C 0 rfl rfl dX5_radio_106 ?_
                refine rg_get (pc := 107) C 0 5 4 kd_0 (by decide) rfl inlX5 (by decide) wd_205 rfl dX5_radio_107 ?_
                refine rg_get (pc := 110) C 16 4 3 kd_16 (by decide) rfl inlX4 (by decide) wd_141 rfl dX5_radio_110 ?_
                refine rg_iload_n (pc := 113) C 1 rfl rfl dX5_radio_113 ?_
                obtain ⟨g16, hf⟩ := ra_gd hf
                refine rg_iald (pc := 114) (j := (ra_ix v1)) C 20 kd_20 rfl g16 dX5_radio_114 ?_
                exact rg_iret (pc := 115) C hQ hr hf dX5_radio_115
              · replace hf := ra_f hf c15
                by_cases c17 : v2 = 6
                · replace hf := ra_t hf c17
                  refine rg_tableK (pc := 14) (off := 102) (tgt := 116) C 6 c17 dX5_radio_14 (by decide) (by decide) (by decide) (by decide) ?_
                  refine rg_aload_n (pc := 116) C 0 rfl rfl dX5_radio_116 ?_
                  refine rg_get (pc := 117) C 0 5 4 kd_0 (by decide) rfl inlX5 (by decide) wd_205 rfl dX5_radio_117 ?_
                  refine rg_get (pc := 120) C 16 4 4 kd_16 (by decide) rfl inlX4 (by decide) wd_143 rfl dX5_radio_120 ?_
                  refine rg_iload_n (pc := 123) C 1 rfl rfl dX5_radio_123 ?_
                  obtain ⟨g18, hf⟩ := ra_gd hf
                  refine rg_iald (pc := 124) (j := (ra_ix v1)) C 21 kd_21 rfl g18 dX5_radio_124 ?_
                  exact rg_iret (pc := 125) C hQ hr hf dX5_radio_125
                · replace hf := ra_f hf c17
                  refine rg_tableOut (pc := 14) (tgt := 126) C dX5_radio_14 (by have nc5 := lv_neT (a := 0) c5 (by decide); have nc7 := lv_neT (a := 1) c7 (by decide); have nc9 := lv_neT (a := 2) c9 (by decide); have nc11 := lv_neT (a := 3) c11 (by decide); have nc13 := lv_neT (a := 4) c13 (by decide); have nc15 := lv_neT (a := 5) c15 (by decide); have nc17 := lv_neT (a := 6) c17 (by decide); omega) (by decide) ?_
                  refine rg_iconst (pc := 126) (v := (-1)) C dX5_radio_126 (by decide) ?_
                  exact rg_iret (pc := 127) C hQ hr hf dX5_radio_127
  · replace hf := ra_t hf c4
    refine rg_iconst (pc := 11) (v := (-1)) C dX5_radio_11 (by decide) ?_
    exact rg_iret (pc := 12) C hQ hr hf dX5_radio_12
theorem tX5_radio {Z : ra_Z} {r : Int32} {w1 : ra_W} (C : ra_C Z cX5_radio 3 RX5 1 21) (hQ : ra_QI Z r w1) (hr : (zmt Z).sig.returnType = (some .int)) (k : Nat) : ∀ n : Nat, pX5_radio_0 Z r w1 k n := by
  intro n
  induction n with
  | zero => exact (fun _ _ _ h => by cases h)
  | succ n ih => exact tX5_radio_0 C hQ hr k n
theorem kX5_radio (l : Launch) (G : ra_G) (hj : ra_inj G) (k : Nat) (v1 : Int32) (v2 : Int32) (w : ra_W) (r : Int32) (w1 : ra_W) (h : FX5_radio k v1 v2 w = some (r, w1)) : ra_MI l G yX5_radio cX5_radio 3 (some .int) 1 21 [.ref (G.1 0), .int v1, .int v2] w r w1 :=
  ra_entryI (own := RX5) (by decide) rfl (Nat.le_of_ble_eq_true rfl) hj (fun Z hl hG C hQ hr => by subst hl; subst hG; exact (tX5_radio C hQ hr k k) _ _ _ h)
theorem ysX5_radio : ra_YV yX5_radio cX5_radio 3 (some .int) 2 RX5 := ⟨⟨wd_1, wd_461, by decide, by decide, by decide⟩, wd_459, wd_460⟩
/-- TrunkRadio.site -/
def fX5_site (k : Nat) : Nat → Nat → Int32 → Int32 → ra_W → Option (Int32 × ra_W)
  | 0, _, _, _, _ => none
  | n + 1, L, v1, v2, w => match L with
    | _ => ra_bind (FX5_isSite k v1 w) (fun r1 w2 => if r1 = 0 then (some ((-1), w2)) else (if v2 = 0 then (if ra_in v1 2 then some ((w2 4 (ra_ix v1)), w2) else none) else (if v2 = 1 then (ra_bind (FX4_free k 16 3 v1 w2) (fun r8 w9 => some (r8, w9))) else (if v2 = 2 then (ra_bind (FX4_hasControl k 16 v1 w2) (fun r12 w13 => if r12 = 0 then (some (0, w13)) else (some (1, w13)))) else (if v2 = 3 then (ra_bind (FX4_hasControl k 16 v1 w2) (fun r17 w18 => if r17 = 0 then (if ra_in v1 2 then some ((w18 22 (ra_ix v1)), w18) else none) else (some (0, w18)))) else (some ((-1), w2)))))))
theorem fX5_site_0 (k : Nat) (n : Nat) (v1 : Int32) (v2 : Int32) (w : ra_W) : fX5_site k (n + 1) 0 v1 v2 w = (ra_bind (FX5_isSite k v1 w) (fun r1 w2 => if r1 = 0 then (some ((-1), w2)) else (if v2 = 0 then (if ra_in v1 2 then some ((w2 4 (ra_ix v1)), w2) else none) else (if v2 = 1 then (ra_bind (FX4_free k 16 3 v1 w2) (fun r8 w9 => some (r8, w9))) else (if v2 = 2 then (ra_bind (FX4_hasControl k 16 v1 w2) (fun r12 w13 => if r12 = 0 then (some (0, w13)) else (some (1, w13)))) else (if v2 = 3 then (ra_bind (FX4_hasControl k 16 v1 w2) (fun r17 w18 => if r17 = 0 then (if ra_in v1 2 then some ((w18 22 (ra_ix v1)), w18) else none) else (some (0, w18)))) else (some ((-1), w2)))))))) := rfl
def FX5_site (k : Nat) (v1 : Int32) (v2 : Int32) (w : ra_W) : Option (Int32 × ra_W) := fX5_site k k 0 v1 v2 w
def pX5_site_0 (Z : ra_Z) (r : Int32) (w1 : ra_W) (k : Nat) (n : Nat) : Prop := ∀ (v1 : Int32) (v2 : Int32) (w : ra_W), fX5_site k n 0 v1 v2 w = some (r, w1) → ra_J Z 3 0 [(0, .ref ((zG Z).1 0)), (1, .int v1), (2, .int v2)] [] w
set_option maxHeartbeats 4000000 in
theorem tX5_site_0 {Z : ra_Z} {r : Int32} {w1 : ra_W} (C : ra_C Z cX5_site 3 RX5 1 24) (hQ : ra_QI Z r w1) (hr : (zmt Z).sig.returnType = (some .int)) (k : Nat) (n : Nat) : pX5_site_0 Z r w1 k (n + 1) := by
  intro v1 v2 w hf
  rw [fX5_site_0] at hf
  refine rg_iload_n (pc := 0) C 1 rfl rfl dX5_site_0 ?_
  obtain ⟨r1, w2, e3, hf⟩ := ra_bd hf
  refine rg_callSI (pc := 1) (As := [.int v1]) (st := []) C (kX5_isSite (zl Z) (zG Z) C.hj k _ _ _ _ e3) ysX5_isSite rfl wd_442 ⟨Nat.le_of_ble_eq_true rfl, Nat.le_of_ble_eq_true rfl⟩ rfl (Nat.le_of_ble_eq_true rfl) dX5_site_1 ?_
  refine rg_if_ne (pc := 4) (tgt := 9) C dX5_site_4 (by decide) (fun c4 => ?_) (fun c4 => ?_)
  · replace hf := ra_f hf c4
    refine rg_iload_n (pc := 9) C 2 rfl rfl dX5_site_9 ?_
    by_cases c5 : v2 = 0
    · replace hf := ra_t hf c5
      refine rg_tableK (pc := 10) (off := 30) (tgt := 40) C 0 c5 dX5_site_10 (by decide) (by decide) (by decide) (by decide) ?_
      refine rg_aload_n (pc := 40) C 0 rfl rfl dX5_site_40 ?_
      refine rg_get (pc := 41) C 0 5 1 kd_0 (by decide) rfl inlX5 (by decide) wd_202 rfl dX5_site_41 ?_
      refine rg_get (pc := 44) C 3 2 3 kd_3 (by decide) rfl inlX2 (by decide) wd_82 rfl dX5_site_44 ?_
      refine rg_iload_n (pc := 47) C 1 rfl rfl dX5_site_47 ?_
      obtain ⟨g6, hf⟩ := ra_gd hf
      refine rg_iald (pc := 48) (j := (ra_ix v1)) C 4 kd_4 rfl g6 dX5_site_48 ?_
      exact rg_iret (pc := 49) C hQ hr hf dX5_site_49
    · replace hf := ra_f hf c5
      by_cases c7 : v2 = 1
      · replace hf := ra_t hf c7
        refine rg_tableK (pc := 10) (off := 40) (tgt := 50) C 1 c7 dX5_site_10 (by decide) (by decide) (by decide) (by decide) ?_
        refine rg_aload_n (pc := 50) C 0 rfl rfl dX5_site_50 ?_
        refine rg_get (pc := 51) C 0 5 4 kd_0 (by decide) rfl inlX5 (by decide) wd_205 rfl dX5_site_51 ?_
        refine rg_aload_n (pc := 54) C 0 rfl rfl dX5_site_54 ?_
        refine rg_get (pc := 55) C 0 5 1 kd_0 (by decide) rfl inlX5 (by decide) wd_202 rfl dX5_site_55 ?_
        refine rg_iload_n (pc := 58) C 1 rfl rfl dX5_site_58 ?_
        obtain ⟨r8, w9, e10, hf⟩ := ra_bd hf
        refine rg_callVI (pc := 59) (As := [.ref ((zG Z).1 3), .int v1]) (st := []) C (kX4_free (zl Z) (zG Z) C.hj k 16 3 ra_S16 ra_N3 _ _ _ _ e10) kd_16 (by decide) rfl ysX4_free rfl wd_466 ⟨Nat.le_of_ble_eq_true rfl, Nat.le_of_ble_eq_true rfl⟩ rfl (Nat.le_of_ble_eq_true rfl) dX5_site_59 ?_
        exact rg_iret (pc := 62) C hQ hr hf dX5_site_62
      · replace hf := ra_f hf c7
        by_cases c11 : v2 = 2
        · replace hf := ra_t hf c11
          refine rg_tableK (pc := 10) (off := 53) (tgt := 63) C 2 c11 dX5_site_10 (by decide) (by decide) (by decide) (by decide) ?_
          refine rg_aload_n (pc := 63) C 0 rfl rfl dX5_site_63 ?_
          refine rg_get (pc := 64) C 0 5 4 kd_0 (by decide) rfl inlX5 (by decide) wd_205 rfl dX5_site_64 ?_
          refine rg_iload_n (pc := 67) C 1 rfl rfl dX5_site_67 ?_
          obtain ⟨r12, w13, e14, hf⟩ := ra_bd hf
          refine rg_callVI (pc := 68) (As := [.int v1]) (st := []) C (kX4_hasControl (zl Z) (zG Z) C.hj k 16 ra_S16 _ _ _ _ e14) kd_16 (by decide) rfl ysX4_hasControl rfl wd_445 ⟨Nat.le_of_ble_eq_true rfl, Nat.le_of_ble_eq_true rfl⟩ rfl (Nat.le_of_ble_eq_true rfl) dX5_site_68 ?_
          refine rg_if_eq (pc := 71) (tgt := 78) C dX5_site_71 (by decide) (fun c15 => ?_) (fun c15 => ?_)
          · replace hf := ra_t hf c15
            refine rg_iconst (pc := 78) (v := 0) C dX5_site_78 (by decide) ?_
            exact rg_iret (pc := 79) C hQ hr hf dX5_site_79
          · replace hf := ra_f hf c15
            refine rg_iconst (pc := 74) (v := 1) C dX5_site_74 (by decide) ?_
            refine rg_goto (pc := 75) (tgt := 79) C dX5_site_75 (by decide) ?_
            exact rg_iret (pc := 79) C hQ hr hf dX5_site_79
        · replace hf := ra_f hf c11
          by_cases c16 : v2 = 3
          · replace hf := ra_t hf c16
            refine rg_tableK (pc := 10) (off := 70) (tgt := 80) C 3 c16 dX5_site_10 (by decide) (by decide) (by decide) (by decide) ?_
            refine rg_aload_n (pc := 80) C 0 rfl rfl dX5_site_80 ?_
            refine rg_get (pc := 81) C 0 5 4 kd_0 (by decide) rfl inlX5 (by decide) wd_205 rfl dX5_site_81 ?_
            refine rg_iload_n (pc := 84) C 1 rfl rfl dX5_site_84 ?_
            obtain ⟨r17, w18, e19, hf⟩ := ra_bd hf
            refine rg_callVI (pc := 85) (As := [.int v1]) (st := []) C (kX4_hasControl (zl Z) (zG Z) C.hj k 16 ra_S16 _ _ _ _ e19) kd_16 (by decide) rfl ysX4_hasControl rfl wd_445 ⟨Nat.le_of_ble_eq_true rfl, Nat.le_of_ble_eq_true rfl⟩ rfl (Nat.le_of_ble_eq_true rfl) dX5_site_85 ?_
            refine rg_if_eq (pc := 88) (tgt := 95) C dX5_site_88 (by decide) (fun c20 => ?_) (fun c20 => ?_)
            · replace hf := ra_t hf c20
              refine rg_aload_n (pc := 95) C 0 rfl rfl dX5_site_95 ?_
              refine rg_get (pc := 96) C 0 5 4 kd_0 (by decide) rfl inlX5 (by decide) wd_205 rfl dX5_site_96 ?_
              refine rg_get (pc := 99) C 16 4 5 kd_16 (by decide) rfl inlX4 (by decide) wd_147 rfl dX5_site_99 ?_
              refine rg_iload_n (pc := 102) C 1 rfl rfl dX5_site_102 ?_
              obtain ⟨g21, hf⟩ := ra_gd hf
              refine rg_iald (pc := 103) (j := (ra_ix v1)) C 22 kd_22 rfl g21 dX5_site_103 ?_
              exact rg_iret (pc := 104) C hQ hr hf dX5_site_104
            · replace hf := ra_f hf c20
              refine rg_iconst (pc := 91) (v := 0) C dX5_site_91 (by decide) ?_
              refine rg_goto (pc := 92) (tgt := 104) C dX5_site_92 (by decide) ?_
              exact rg_iret (pc := 104) C hQ hr hf dX5_site_104
          · replace hf := ra_f hf c16
            refine rg_tableOut (pc := 10) (tgt := 105) C dX5_site_10 (by have nc5 := lv_neT (a := 0) c5 (by decide); have nc7 := lv_neT (a := 1) c7 (by decide); have nc11 := lv_neT (a := 2) c11 (by decide); have nc16 := lv_neT (a := 3) c16 (by decide); omega) (by decide) ?_
            refine rg_iconst (pc := 105) (v := (-1)) C dX5_site_105 (by decide) ?_
            exact rg_iret (pc := 106) C hQ hr hf dX5_site_106
  · replace hf := ra_t hf c4
    refine rg_iconst (pc := 7) (v := (-1)) C dX5_site_7 (by decide) ?_
    exact rg_iret (pc := 8) C hQ hr hf dX5_site_8
theorem tX5_site {Z : ra_Z} {r : Int32} {w1 : ra_W} (C : ra_C Z cX5_site 3 RX5 1 24) (hQ : ra_QI Z r w1) (hr : (zmt Z).sig.returnType = (some .int)) (k : Nat) : ∀ n : Nat, pX5_site_0 Z r w1 k n := by
  intro n
  induction n with
  | zero => exact (fun _ _ _ h => by cases h)
  | succ n ih => exact tX5_site_0 C hQ hr k n
theorem kX5_site (l : Launch) (G : ra_G) (hj : ra_inj G) (k : Nat) (v1 : Int32) (v2 : Int32) (w : ra_W) (r : Int32) (w1 : ra_W) (h : FX5_site k v1 v2 w = some (r, w1)) : ra_MI l G yX5_site cX5_site 3 (some .int) 1 24 [.ref (G.1 0), .int v1, .int v2] w r w1 :=
  ra_entryI (own := RX5) (by decide) rfl (Nat.le_of_ble_eq_true rfl) hj (fun Z hl hG C hQ hr => by subst hl; subst hG; exact (tX5_site C hQ hr k k) _ _ _ h)
theorem ysX5_site : ra_YV yX5_site cX5_site 3 (some .int) 2 RX5 := ⟨⟨wd_1, wd_465, by decide, by decide, by decide⟩, wd_463, wd_464⟩
/-- TrunkRadio.talker -/
def fX5_talker (k : Nat) : Nat → Nat → Int32 → ra_W → Option (Int32 × ra_W)
  | 0, _, _, _ => none
  | n + 1, L, v1, w => match L with
    | _ => if v1 < 0 then (some ((-1), w)) else (if v1 < 6 then (ra_bind (FX4_talkerOf k 16 3 v1 w) (fun r3 w4 => some (r3, w4))) else (some ((-1), w)))
theorem fX5_talker_0 (k : Nat) (n : Nat) (v1 : Int32) (w : ra_W) : fX5_talker k (n + 1) 0 v1 w = (if v1 < 0 then (some ((-1), w)) else (if v1 < 6 then (ra_bind (FX4_talkerOf k 16 3 v1 w) (fun r3 w4 => some (r3, w4))) else (some ((-1), w)))) := rfl
def FX5_talker (k : Nat) (v1 : Int32) (w : ra_W) : Option (Int32 × ra_W) := fX5_talker k k 0 v1 w
def pX5_talker_0 (Z : ra_Z) (r : Int32) (w1 : ra_W) (k : Nat) (n : Nat) : Prop := ∀ (v1 : Int32) (w : ra_W), fX5_talker k n 0 v1 w = some (r, w1) → ra_J Z 2 0 [(0, .ref ((zG Z).1 0)), (1, .int v1)] [] w
set_option maxHeartbeats 4000000 in
theorem tX5_talker_0 {Z : ra_Z} {r : Int32} {w1 : ra_W} (C : ra_C Z cX5_talker 2 RX5 1 23) (hQ : ra_QI Z r w1) (hr : (zmt Z).sig.returnType = (some .int)) (k : Nat) (n : Nat) : pX5_talker_0 Z r w1 k (n + 1) := by
  intro v1 w hf
  rw [fX5_talker_0] at hf
  refine rg_iload_n (pc := 0) C 1 rfl rfl dX5_talker_0 ?_
  refine rg_if_lt (pc := 1) (tgt := 10) C dX5_talker_1 (by decide) (fun c1 => ?_) (fun c1 => ?_)
  · replace hf := ra_t hf c1
    refine rg_iconst (pc := 10) (v := (-1)) C dX5_talker_10 (by decide) ?_
    refine rg_goto (pc := 11) (tgt := 26) C dX5_talker_11 (by decide) ?_
    exact rg_iret (pc := 26) C hQ hr hf dX5_talker_26
  · replace hf := ra_f hf c1
    refine rg_iload_n (pc := 4) C 1 rfl rfl dX5_talker_4 ?_
    refine rg_bipush (pc := 5) (v := 6) C dX5_talker_5 (by decide) ?_
    refine rg_icmp_lt (pc := 7) (tgt := 14) C dX5_talker_7 (by decide) (fun c2 => ?_) (fun c2 => ?_)
    · replace hf := ra_t hf c2
      refine rg_aload_n (pc := 14) C 0 rfl rfl dX5_talker_14 ?_
      refine rg_get (pc := 15) C 0 5 4 kd_0 (by decide) rfl inlX5 (by decide) wd_205 rfl dX5_talker_15 ?_
      refine rg_aload_n (pc := 18) C 0 rfl rfl dX5_talker_18 ?_
      refine rg_get (pc := 19) C 0 5 1 kd_0 (by decide) rfl inlX5 (by decide) wd_202 rfl dX5_talker_19 ?_
      refine rg_iload_n (pc := 22) C 1 rfl rfl dX5_talker_22 ?_
      obtain ⟨r3, w4, e5, hf⟩ := ra_bd hf
      refine rg_callVI (pc := 23) (As := [.ref ((zG Z).1 3), .int v1]) (st := []) C (kX4_talkerOf (zl Z) (zG Z) C.hj k 16 3 ra_S16 ra_N3 _ _ _ _ e5) kd_16 (by decide) rfl ysX4_talkerOf rfl wd_474 ⟨Nat.le_of_ble_eq_true rfl, Nat.le_of_ble_eq_true rfl⟩ rfl (Nat.le_of_ble_eq_true rfl) dX5_talker_23 ?_
      exact rg_iret (pc := 26) C hQ hr hf dX5_talker_26
    · replace hf := ra_f hf c2
      refine rg_iconst (pc := 10) (v := (-1)) C dX5_talker_10 (by decide) ?_
      refine rg_goto (pc := 11) (tgt := 26) C dX5_talker_11 (by decide) ?_
      exact rg_iret (pc := 26) C hQ hr hf dX5_talker_26
theorem tX5_talker {Z : ra_Z} {r : Int32} {w1 : ra_W} (C : ra_C Z cX5_talker 2 RX5 1 23) (hQ : ra_QI Z r w1) (hr : (zmt Z).sig.returnType = (some .int)) (k : Nat) : ∀ n : Nat, pX5_talker_0 Z r w1 k n := by
  intro n
  induction n with
  | zero => exact (fun _ _ h => by cases h)
  | succ n ih => exact tX5_talker_0 C hQ hr k n
theorem kX5_talker (l : Launch) (G : ra_G) (hj : ra_inj G) (k : Nat) (v1 : Int32) (w : ra_W) (r : Int32) (w1 : ra_W) (h : FX5_talker k v1 w = some (r, w1)) : ra_MI l G yX5_talker cX5_talker 2 (some .int) 1 23 [.ref (G.1 0), .int v1] w r w1 :=
  ra_entryI (own := RX5) (by decide) rfl (Nat.le_of_ble_eq_true rfl) hj (fun Z hl hG C hQ hr => by subst hl; subst hG; exact (tX5_talker C hQ hr k k) _ _ h)
theorem ysX5_talker : ra_YV yX5_talker cX5_talker 2 (some .int) 1 RX5 := ⟨⟨wd_1, wd_473, by decide, by decide, by decide⟩, wd_471, wd_472⟩
/-- TrunkRadio.queue -/
def fX5_queue (k : Nat) : Nat → Nat → Int32 → ra_W → Option (Int32 × ra_W)
  | 0, _, _, _ => none
  | n + 1, L, v1, w => match L with
    | _ => if 0 ≤ v1 then (ra_bind (FX0_lineUp k 3 16 w) (fun r2 w3 => if r2 ≤ v1 then (some ((-9), w3)) else (if 7 ≤ v1 then (some ((-9), w3)) else (if ra_in v1 7 then some ((w3 14 (ra_ix v1)), w3) else none)))) else (some ((-1), w))
theorem fX5_queue_0 (k : Nat) (n : Nat) (v1 : Int32) (w : ra_W) : fX5_queue k (n + 1) 0 v1 w = (if 0 ≤ v1 then (ra_bind (FX0_lineUp k 3 16 w) (fun r2 w3 => if r2 ≤ v1 then (some ((-9), w3)) else (if 7 ≤ v1 then (some ((-9), w3)) else (if ra_in v1 7 then some ((w3 14 (ra_ix v1)), w3) else none)))) else (some ((-1), w))) := rfl
def FX5_queue (k : Nat) (v1 : Int32) (w : ra_W) : Option (Int32 × ra_W) := fX5_queue k k 0 v1 w
def pX5_queue_0 (Z : ra_Z) (r : Int32) (w1 : ra_W) (k : Nat) (n : Nat) : Prop := ∀ (v1 : Int32) (w : ra_W), fX5_queue k n 0 v1 w = some (r, w1) → ra_J Z 3 0 [(0, .ref ((zG Z).1 0)), (1, .int v1)] [] w
set_option maxHeartbeats 4000000 in
theorem tX5_queue_0 {Z : ra_Z} {r : Int32} {w1 : ra_W} (C : ra_C Z cX5_queue 3 RX5 2 48) (hQ : ra_QI Z r w1) (hr : (zmt Z).sig.returnType = (some .int)) (k : Nat) (n : Nat) : pX5_queue_0 Z r w1 k (n + 1) := by
  intro v1 w hf
  rw [fX5_queue_0] at hf
  refine rg_iload_n (pc := 0) C 1 rfl rfl dX5_queue_0 ?_
  refine rg_if_ge (pc := 1) (tgt := 6) C dX5_queue_1 (by decide) (fun c1 => ?_) (fun c1 => ?_)
  · replace hf := ra_t hf c1
    refine rg_aload_n (pc := 6) C 0 rfl rfl dX5_queue_6 ?_
    refine rg_get (pc := 7) C 0 5 3 kd_0 (by decide) rfl inlX5 (by decide) wd_204 rfl dX5_queue_7 ?_
    refine rg_aload_n (pc := 10) C 0 rfl rfl dX5_queue_10 ?_
    refine rg_get (pc := 11) C 0 5 1 kd_0 (by decide) rfl inlX5 (by decide) wd_202 rfl dX5_queue_11 ?_
    refine rg_aload_n (pc := 14) C 0 rfl rfl dX5_queue_14 ?_
    refine rg_get (pc := 15) C 0 5 4 kd_0 (by decide) rfl inlX5 (by decide) wd_205 rfl dX5_queue_15 ?_
    obtain ⟨r2, w3, e4, hf⟩ := ra_bd hf
    refine rg_callVI (pc := 18) (As := [.ref ((zG Z).1 3), .ref ((zG Z).1 16)]) (st := []) C (kX0_lineUp (zl Z) (zG Z) C.hj k 3 16 ra_N3 ra_S16 _ _ _ e4) kd_13 (by decide) rfl ysX0_lineUp rfl wd_479 ⟨Nat.le_of_ble_eq_true rfl, Nat.le_of_ble_eq_true rfl⟩ rfl (Nat.le_of_ble_eq_true rfl) dX5_queue_18 ?_
    refine rg_istore_n (pc := 21) (lv' := [(0, .ref ((zG Z).1 0)), (1, .int v1), (2, .int r2)]) C [1, 2, 0] rfl rfl (by decide) dX5_queue_21 ?_
    refine rg_iload_n (pc := 22) C 1 rfl rfl dX5_queue_22 ?_
    refine rg_iload_n (pc := 23) C 2 rfl rfl dX5_queue_23 ?_
    refine rg_icmp_ge (pc := 24) (tgt := 45) C dX5_queue_24 (by decide) (fun c5 => ?_) (fun c5 => ?_)
    · replace hf := ra_t hf c5
      refine rg_bipush (pc := 45) (v := (-9)) C dX5_queue_45 (by decide) ?_
      exact rg_iret (pc := 47) C hQ hr hf dX5_queue_47
    · replace hf := ra_f hf c5
      refine rg_iload_n (pc := 27) C 1 rfl rfl dX5_queue_27 ?_
      refine rg_bipush (pc := 28) (v := 7) C dX5_queue_28 (by decide) ?_
      refine rg_icmp_ge (pc := 30) (tgt := 45) C dX5_queue_30 (by decide) (fun c6 => ?_) (fun c6 => ?_)
      · replace hf := ra_t hf c6
        refine rg_bipush (pc := 45) (v := (-9)) C dX5_queue_45 (by decide) ?_
        exact rg_iret (pc := 47) C hQ hr hf dX5_queue_47
      · replace hf := ra_f hf c6
        refine rg_aload_n (pc := 33) C 0 rfl rfl dX5_queue_33 ?_
        refine rg_get (pc := 34) C 0 5 3 kd_0 (by decide) rfl inlX5 (by decide) wd_204 rfl dX5_queue_34 ?_
        refine rg_get (pc := 37) C 13 0 0 kd_13 (by decide) rfl inlX0 (by decide) wd_117 rfl dX5_queue_37 ?_
        refine rg_iload_n (pc := 40) C 1 rfl rfl dX5_queue_40 ?_
        obtain ⟨g7, hf⟩ := ra_gd hf
        refine rg_iald (pc := 41) (j := (ra_ix v1)) C 14 kd_14 rfl g7 dX5_queue_41 ?_
        refine rg_goto (pc := 42) (tgt := 47) C dX5_queue_42 (by decide) ?_
        exact rg_iret (pc := 47) C hQ hr hf dX5_queue_47
  · replace hf := ra_f hf c1
    refine rg_iconst (pc := 4) (v := (-1)) C dX5_queue_4 (by decide) ?_
    exact rg_iret (pc := 5) C hQ hr hf dX5_queue_5
theorem tX5_queue {Z : ra_Z} {r : Int32} {w1 : ra_W} (C : ra_C Z cX5_queue 3 RX5 2 48) (hQ : ra_QI Z r w1) (hr : (zmt Z).sig.returnType = (some .int)) (k : Nat) : ∀ n : Nat, pX5_queue_0 Z r w1 k n := by
  intro n
  induction n with
  | zero => exact (fun _ _ h => by cases h)
  | succ n ih => exact tX5_queue_0 C hQ hr k n
theorem kX5_queue (l : Launch) (G : ra_G) (hj : ra_inj G) (k : Nat) (v1 : Int32) (w : ra_W) (r : Int32) (w1 : ra_W) (h : FX5_queue k v1 w = some (r, w1)) : ra_MI l G yX5_queue cX5_queue 3 (some .int) 2 48 [.ref (G.1 0), .int v1] w r w1 :=
  ra_entryI (own := RX5) (by decide) rfl (Nat.le_of_ble_eq_true rfl) hj (fun Z hl hG C hQ hr => by subst hl; subst hG; exact (tX5_queue C hQ hr k k) _ _ h)
theorem ysX5_queue : ra_YV yX5_queue cX5_queue 3 (some .int) 1 RX5 := ⟨⟨wd_1, wd_478, by decide, by decide, by decide⟩, wd_476, wd_477⟩
/-- TrunkRadio.soon -/
def fX5_soon (k : Nat) : Nat → Nat → Int32 → Int32 → ra_W → Option (Int32 × ra_W)
  | 0, _, _, _, _ => none
  | n + 1, L, v1, v2, w => match L with
    | 0 => ra_bind (FX2_has k 3 v1 w) (fun r1 w2 => if r1 = 0 then (some ((-1), w2)) else (ra_bind (FX4_copy k 23 16 w2) (fun _ w6 => fX5_soon k n 1 v1 0 w6)))
    | _ => if 60 < v2 then (some ((-9), w)) else (ra_bind (FX4_isOnAir k 23 v1 w) (fun r2 w3 => if r2 = 0 then (if ra_in v1 7 then if (w3 25 (ra_ix v1)) = 0 then (some ((-9), w3)) else (ra_bind (FX0_pass k 3 23 w3) (fun _ w9 => fX5_soon k n 1 v1 (v2 + 1) w9)) else none) else (some (v2, w3))))
theorem fX5_soon_0 (k : Nat) (n : Nat) (v1 : Int32) (v2 : Int32) (w : ra_W) : fX5_soon k (n + 1) 0 v1 v2 w = (ra_bind (FX2_has k 3 v1 w) (fun r1 w2 => if r1 = 0 then (some ((-1), w2)) else (ra_bind (FX4_copy k 23 16 w2) (fun _ w6 => fX5_soon k n 1 v1 0 w6)))) := rfl
theorem fX5_soon_1 (k : Nat) (n : Nat) (v1 : Int32) (v2 : Int32) (w : ra_W) : fX5_soon k (n + 1) 1 v1 v2 w = (if 60 < v2 then (some ((-9), w)) else (ra_bind (FX4_isOnAir k 23 v1 w) (fun r2 w3 => if r2 = 0 then (if ra_in v1 7 then if (w3 25 (ra_ix v1)) = 0 then (some ((-9), w3)) else (ra_bind (FX0_pass k 3 23 w3) (fun _ w9 => fX5_soon k n 1 v1 (v2 + 1) w9)) else none) else (some (v2, w3))))) := rfl
def FX5_soon (k : Nat) (v1 : Int32) (w : ra_W) : Option (Int32 × ra_W) := fX5_soon k k 0 v1 0 w
def pX5_soon_0 (Z : ra_Z) (r : Int32) (w1 : ra_W) (k : Nat) (n : Nat) : Prop := ∀ (v1 : Int32) (v2 : Int32) (w : ra_W), fX5_soon k n 0 v1 v2 w = some (r, w1) → ra_J Z 3 0 [(0, .ref ((zG Z).1 0)), (1, .int v1)] [] w
def pX5_soon_1 (Z : ra_Z) (r : Int32) (w1 : ra_W) (k : Nat) (n : Nat) : Prop := ∀ (v1 : Int32) (v2 : Int32) (w : ra_W), fX5_soon k n 1 v1 v2 w = some (r, w1) → ra_J Z 3 26 [(0, .ref ((zG Z).1 0)), (1, .int v1), (2, .int v2)] [] w
set_option maxHeartbeats 4000000 in
theorem tX5_soon_0 {Z : ra_Z} {r : Int32} {w1 : ra_W} (C : ra_C Z cX5_soon 3 RX5 5 117) (hQ : ra_QI Z r w1) (hr : (zmt Z).sig.returnType = (some .int)) (k : Nat) (n : Nat) (ih1 : pX5_soon_1 Z r w1 k n) : pX5_soon_0 Z r w1 k (n + 1) := by
  intro v1 v2 w hf
  rw [fX5_soon_0] at hf
  refine rg_aload_n (pc := 0) C 0 rfl rfl dX5_soon_0 ?_
  refine rg_get (pc := 1) C 0 5 1 kd_0 (by decide) rfl inlX5 (by decide) wd_202 rfl dX5_soon_1 ?_
  refine rg_iload_n (pc := 4) C 1 rfl rfl dX5_soon_4 ?_
  obtain ⟨r1, w2, e3, hf⟩ := ra_bd hf
  refine rg_callVI (pc := 5) (As := [.int v1]) (st := []) C (kX2_has (zl Z) (zG Z) C.hj k 3 ra_N3 _ _ _ _ e3) kd_3 (by decide) rfl ysX2_has rfl wd_425 ⟨Nat.le_of_ble_eq_true rfl, Nat.le_of_ble_eq_true rfl⟩ rfl (Nat.le_of_ble_eq_true rfl) dX5_soon_5 ?_
  refine rg_if_ne (pc := 8) (tgt := 13) C dX5_soon_8 (by decide) (fun c4 => ?_) (fun c4 => ?_)
  · replace hf := ra_f hf c4
    refine rg_aload_n (pc := 13) C 0 rfl rfl dX5_soon_13 ?_
    refine rg_get (pc := 14) C 0 5 5 kd_0 (by decide) rfl inlX5 (by decide) wd_206 rfl dX5_soon_14 ?_
    refine rg_aload_n (pc := 17) C 0 rfl rfl dX5_soon_17 ?_
    refine rg_get (pc := 18) C 0 5 4 kd_0 (by decide) rfl inlX5 (by decide) wd_205 rfl dX5_soon_18 ?_
    obtain ⟨r5, w6, e7, hf⟩ := ra_bd hf
    refine rg_callVV (pc := 21) (As := [.ref ((zG Z).1 16)]) (st := []) C (kX4_copy (zl Z) (zG Z) C.hj k 23 16 ra_S23 ra_S16 _ _ _ e7) kd_23 (by decide) rfl ysX4_copy rfl wd_484 ⟨Nat.le_of_ble_eq_true rfl, Nat.le_of_ble_eq_true rfl⟩ rfl (Nat.le_of_ble_eq_true rfl) dX5_soon_21 ?_
    refine rg_iconst (pc := 24) (v := 0) C dX5_soon_24 (by decide) ?_
    refine rg_istore_n (pc := 25) (lv' := [(0, .ref ((zG Z).1 0)), (1, .int v1), (2, .int 0)]) C [1, 2, 0] rfl rfl (by decide) dX5_soon_25 ?_
    exact ih1 _ _ _ hf
  · replace hf := ra_t hf c4
    refine rg_iconst (pc := 11) (v := (-1)) C dX5_soon_11 (by decide) ?_
    exact rg_iret (pc := 12) C hQ hr hf dX5_soon_12
set_option maxHeartbeats 4000000 in
theorem tX5_soon_1 {Z : ra_Z} {r : Int32} {w1 : ra_W} (C : ra_C Z cX5_soon 3 RX5 5 117) (hQ : ra_QI Z r w1) (hr : (zmt Z).sig.returnType = (some .int)) (k : Nat) (n : Nat) (ih1 : pX5_soon_1 Z r w1 k n) : pX5_soon_1 Z r w1 k (n + 1) := by
  intro v1 v2 w hf
  rw [fX5_soon_1] at hf
  refine rg_iload_n (pc := 26) C 2 rfl rfl dX5_soon_26 ?_
  refine rg_bipush (pc := 27) (v := 60) C dX5_soon_27 (by decide) ?_
  refine rg_icmp_gt (pc := 29) (tgt := 81) C dX5_soon_29 (by decide) (fun c1 => ?_) (fun c1 => ?_)
  · replace hf := ra_t hf c1
    refine rg_bipush (pc := 81) (v := (-9)) C dX5_soon_81 (by decide) ?_
    exact rg_iret (pc := 83) C hQ hr hf dX5_soon_83
  · replace hf := ra_f hf c1
    refine rg_aload_n (pc := 32) C 0 rfl rfl dX5_soon_32 ?_
    refine rg_get (pc := 33) C 0 5 5 kd_0 (by decide) rfl inlX5 (by decide) wd_206 rfl dX5_soon_33 ?_
    refine rg_iload_n (pc := 36) C 1 rfl rfl dX5_soon_36 ?_
    obtain ⟨r2, w3, e4, hf⟩ := ra_bd hf
    refine rg_callVI (pc := 37) (As := [.int v1]) (st := []) C (kX4_isOnAir (zl Z) (zG Z) C.hj k 23 ra_S23 _ _ _ _ e4) kd_23 (by decide) rfl ysX4_isOnAir rfl wd_417 ⟨Nat.le_of_ble_eq_true rfl, Nat.le_of_ble_eq_true rfl⟩ rfl (Nat.le_of_ble_eq_true rfl) dX5_soon_37 ?_
    refine rg_if_eq (pc := 40) (tgt := 45) C dX5_soon_40 (by decide) (fun c5 => ?_) (fun c5 => ?_)
    · replace hf := ra_t hf c5
      refine rg_aload_n (pc := 45) C 0 rfl rfl dX5_soon_45 ?_
      refine rg_get (pc := 46) C 0 5 5 kd_0 (by decide) rfl inlX5 (by decide) wd_206 rfl dX5_soon_46 ?_
      refine rg_get (pc := 49) C 23 4 1 kd_23 (by decide) rfl inlX4 (by decide) wd_135 rfl dX5_soon_49 ?_
      refine rg_iload_n (pc := 52) C 1 rfl rfl dX5_soon_52 ?_
      obtain ⟨g6, hf⟩ := ra_gd hf
      refine rg_iald (pc := 53) (j := (ra_ix v1)) C 25 kd_25 rfl g6 dX5_soon_53 ?_
      refine rg_if_ne (pc := 54) (tgt := 60) C dX5_soon_54 (by decide) (fun c7 => ?_) (fun c7 => ?_)
      · replace hf := ra_f hf c7
        refine rg_aload_n (pc := 60) C 0 rfl rfl dX5_soon_60 ?_
        refine rg_get (pc := 61) C 0 5 3 kd_0 (by decide) rfl inlX5 (by decide) wd_204 rfl dX5_soon_61 ?_
        refine rg_aload_n (pc := 64) C 0 rfl rfl dX5_soon_64 ?_
        refine rg_get (pc := 65) C 0 5 1 kd_0 (by decide) rfl inlX5 (by decide) wd_202 rfl dX5_soon_65 ?_
        refine rg_aload_n (pc := 68) C 0 rfl rfl dX5_soon_68 ?_
        refine rg_get (pc := 69) C 0 5 5 kd_0 (by decide) rfl inlX5 (by decide) wd_206 rfl dX5_soon_69 ?_
        obtain ⟨r8, w9, e10, hf⟩ := ra_bd hf
        refine rg_callVV (pc := 72) (As := [.ref ((zG Z).1 3), .ref ((zG Z).1 23)]) (st := []) C (kX0_pass (zl Z) (zG Z) C.hj k 3 23 ra_N3 ra_S23 _ _ _ e10) kd_13 (by decide) rfl ysX0_pass rfl wd_349 ⟨Nat.le_of_ble_eq_true rfl, Nat.le_of_ble_eq_true rfl⟩ rfl (Nat.le_of_ble_eq_true rfl) dX5_soon_72 ?_
        refine rg_iinc (pc := 75) (v := (v2 + 1)) (lv' := [(0, .ref ((zG Z).1 0)), (1, .int v1), (2, .int (v2 + 1))]) C 2 rfl [1, 2, 0] (ra_ii (by decide)) rfl (by decide) dX5_soon_75 ?_
        refine rg_goto (pc := 78) (tgt := 26) C dX5_soon_78 (by decide) ?_
        exact ih1 _ _ _ hf
      · replace hf := ra_t hf c7
        refine rg_bipush (pc := 57) (v := (-9)) C dX5_soon_57 (by decide) ?_
        exact rg_iret (pc := 59) C hQ hr hf dX5_soon_59
    · replace hf := ra_f hf c5
      refine rg_iload_n (pc := 43) C 2 rfl rfl dX5_soon_43 ?_
      exact rg_iret (pc := 44) C hQ hr hf dX5_soon_44
theorem tX5_soon {Z : ra_Z} {r : Int32} {w1 : ra_W} (C : ra_C Z cX5_soon 3 RX5 5 117) (hQ : ra_QI Z r w1) (hr : (zmt Z).sig.returnType = (some .int)) (k : Nat) : ∀ n : Nat, pX5_soon_0 Z r w1 k n ∧ pX5_soon_1 Z r w1 k n := by
  intro n
  induction n with
  | zero => exact ⟨(fun _ _ _ h => by cases h), (fun _ _ _ h => by cases h)⟩
  | succ n ih =>
    obtain ⟨ih0, ih1⟩ := ih
    exact ⟨tX5_soon_0 C hQ hr k n ih1, tX5_soon_1 C hQ hr k n ih1⟩
theorem kX5_soon (l : Launch) (G : ra_G) (hj : ra_inj G) (k : Nat) (v1 : Int32) (w : ra_W) (r : Int32) (w1 : ra_W) (h : FX5_soon k v1 w = some (r, w1)) : ra_MI l G yX5_soon cX5_soon 3 (some .int) 5 117 [.ref (G.1 0), .int v1] w r w1 :=
  ra_entryI (own := RX5) (by decide) rfl (Nat.le_of_ble_eq_true rfl) hj (fun Z hl hG C hQ hr => by subst hl; subst hG; exact (tX5_soon C hQ hr k k).1 _ _ _ h)
theorem ysX5_soon : ra_YV yX5_soon cX5_soon 3 (some .int) 1 RX5 := ⟨⟨wd_1, wd_483, by decide, by decide, by decide⟩, wd_481, wd_482⟩
/-- TrunkRadio.within -/
def fX5_within (k : Nat) : Nat → Nat → Int32 → Int32 → Int32 → Int32 → ra_W → Option (Int32 × ra_W)
  | 0, _, _, _, _, _, _ => none
  | n + 1, L, v1, v2, v3, v4, w => match L with
    | 0 => if v1 < 1 then (some ((-1), w)) else (if 60 < v1 then (some ((-1), w)) else (if v2 < 0 then (some ((-1), w)) else (if v2 ≤ 3 then (ra_bind (FX4_copy k 23 16 w) (fun _ w6 => fX5_within k n 1 v1 v2 0 0 w6)) else (some ((-1), w)))))
    | 1 => if v1 ≤ v4 then (ra_bind (FX5_isSite k v2 w) (fun r2 w3 => if r2 = 0 then (if v2 = 2 then (some (((w3 23 7) - (w3 16 7)), w3)) else (some (((w3 23 9) - (w3 16 9)), w3))) else (some (v3, w3)))) else (ra_bind (FX0_pass k 3 23 w) (fun _ w8 => ra_bind (FX5_isSite k v2 w8) (fun r10 w11 => if r10 = 0 then (fX5_within k n 2 v1 v2 v3 v4 w11) else (ra_bind (FX4_fullSites k 23 3 w11) (fun r14 w15 => fX5_within k n 2 v1 v2 (v3 + ((r14 >>> (v2 &&& 31)) &&& 1)) v4 w15)))))
    | _ => fX5_within k n 1 v1 v2 v3 (v4 + 1) w
theorem fX5_within_0 (k : Nat) (n : Nat) (v1 : Int32) (v2 : Int32) (v3 : Int32) (v4 : Int32) (w : ra_W) : fX5_within k (n + 1) 0 v1 v2 v3 v4 w = (if v1 < 1 then (some ((-1), w)) else (if 60 < v1 then (some ((-1), w)) else (if v2 < 0 then (some ((-1), w)) else (if v2 ≤ 3 then (ra_bind (FX4_copy k 23 16 w) (fun _ w6 => fX5_within k n 1 v1 v2 0 0 w6)) else (some ((-1), w)))))) := rfl
theorem fX5_within_1 (k : Nat) (n : Nat) (v1 : Int32) (v2 : Int32) (v3 : Int32) (v4 : Int32) (w : ra_W) : fX5_within k (n + 1) 1 v1 v2 v3 v4 w = (if v1 ≤ v4 then (ra_bind (FX5_isSite k v2 w) (fun r2 w3 => if r2 = 0 then (if v2 = 2 then (some (((w3 23 7) - (w3 16 7)), w3)) else (some (((w3 23 9) - (w3 16 9)), w3))) else (some (v3, w3)))) else (ra_bind (FX0_pass k 3 23 w) (fun _ w8 => ra_bind (FX5_isSite k v2 w8) (fun r10 w11 => if r10 = 0 then (fX5_within k n 2 v1 v2 v3 v4 w11) else (ra_bind (FX4_fullSites k 23 3 w11) (fun r14 w15 => fX5_within k n 2 v1 v2 (v3 + ((r14 >>> (v2 &&& 31)) &&& 1)) v4 w15)))))) := rfl
theorem fX5_within_2 (k : Nat) (n : Nat) (v1 : Int32) (v2 : Int32) (v3 : Int32) (v4 : Int32) (w : ra_W) : fX5_within k (n + 1) 2 v1 v2 v3 v4 w = (fX5_within k n 1 v1 v2 v3 (v4 + 1) w) := rfl
def FX5_within (k : Nat) (v1 : Int32) (v2 : Int32) (w : ra_W) : Option (Int32 × ra_W) := fX5_within k k 0 v1 v2 0 0 w
def pX5_within_0 (Z : ra_Z) (r : Int32) (w1 : ra_W) (k : Nat) (n : Nat) : Prop := ∀ (v1 : Int32) (v2 : Int32) (v3 : Int32) (v4 : Int32) (w : ra_W), fX5_within k n 0 v1 v2 v3 v4 w = some (r, w1) → ra_J Z 5 0 [(0, .ref ((zG Z).1 0)), (1, .int v1), (2, .int v2)] [] w
def pX5_within_1 (Z : ra_Z) (r : Int32) (w1 : ra_W) (k : Nat) (n : Nat) : Prop := ∀ (v1 : Int32) (v2 : Int32) (v3 : Int32) (v4 : Int32) (w : ra_W), fX5_within k n 1 v1 v2 v3 v4 w = some (r, w1) → ra_J Z 5 38 [(0, .ref ((zG Z).1 0)), (1, .int v1), (2, .int v2), (3, .int v3), (4, .int v4)] [] w
def pX5_within_2 (Z : ra_Z) (r : Int32) (w1 : ra_W) (k : Nat) (n : Nat) : Prop := ∀ (v1 : Int32) (v2 : Int32) (v3 : Int32) (v4 : Int32) (w : ra_W), fX5_within k n 2 v1 v2 v3 v4 w = some (r, w1) → ra_J Z 5 84 [(0, .ref ((zG Z).1 0)), (1, .int v1), (2, .int v2), (3, .int v3), (4, .int v4)] [] w
set_option maxHeartbeats 4000000 in
theorem tX5_within_0 {Z : ra_Z} {r : Int32} {w1 : ra_W} (C : ra_C Z cX5_within 5 RX5 5 117) (hQ : ra_QI Z r w1) (hr : (zmt Z).sig.returnType = (some .int)) (k : Nat) (n : Nat) (ih1 : pX5_within_1 Z r w1 k n) : pX5_within_0 Z r w1 k (n + 1) := by
  intro v1 v2 v3 v4 w hf
  rw [fX5_within_0] at hf
  refine rg_iload_n (pc := 0) C 1 rfl rfl dX5_within_0 ?_
  refine rg_iconst (pc := 1) (v := 1) C dX5_within_1 (by decide) ?_
  refine rg_icmp_lt (pc := 2) (tgt := 20) C dX5_within_2 (by decide) (fun c1 => ?_) (fun c1 => ?_)
  · replace hf := ra_t hf c1
    refine rg_iconst (pc := 20) (v := (-1)) C dX5_within_20 (by decide) ?_
    exact rg_iret (pc := 21) C hQ hr hf dX5_within_21
  · replace hf := ra_f hf c1
    refine rg_iload_n (pc := 5) C 1 rfl rfl dX5_within_5 ?_
    refine rg_bipush (pc := 6) (v := 60) C dX5_within_6 (by decide) ?_
    refine rg_icmp_gt (pc := 8) (tgt := 20) C dX5_within_8 (by decide) (fun c2 => ?_) (fun c2 => ?_)
    · replace hf := ra_t hf c2
      refine rg_iconst (pc := 20) (v := (-1)) C dX5_within_20 (by decide) ?_
      exact rg_iret (pc := 21) C hQ hr hf dX5_within_21
    · replace hf := ra_f hf c2
      refine rg_iload_n (pc := 11) C 2 rfl rfl dX5_within_11 ?_
      refine rg_if_lt (pc := 12) (tgt := 20) C dX5_within_12 (by decide) (fun c3 => ?_) (fun c3 => ?_)
      · replace hf := ra_t hf c3
        refine rg_iconst (pc := 20) (v := (-1)) C dX5_within_20 (by decide) ?_
        exact rg_iret (pc := 21) C hQ hr hf dX5_within_21
      · replace hf := ra_f hf c3
        refine rg_iload_n (pc := 15) C 2 rfl rfl dX5_within_15 ?_
        refine rg_iconst (pc := 16) (v := 3) C dX5_within_16 (by decide) ?_
        refine rg_icmp_le (pc := 17) (tgt := 22) C dX5_within_17 (by decide) (fun c4 => ?_) (fun c4 => ?_)
        · replace hf := ra_t hf c4
          refine rg_iconst (pc := 22) (v := 0) C dX5_within_22 (by decide) ?_
          refine rg_istore_n (pc := 23) (lv' := [(0, .ref ((zG Z).1 0)), (1, .int v1), (2, .int v2), (3, .int 0)]) C [1, 2, 3, 0] rfl rfl (by decide) dX5_within_23 ?_
          refine rg_aload_n (pc := 24) C 0 rfl rfl dX5_within_24 ?_
          refine rg_get (pc := 25) C 0 5 5 kd_0 (by decide) rfl inlX5 (by decide) wd_206 rfl dX5_within_25 ?_
          refine rg_aload_n (pc := 28) C 0 rfl rfl dX5_within_28 ?_
          refine rg_get (pc := 29) C 0 5 4 kd_0 (by decide) rfl inlX5 (by decide) wd_205 rfl dX5_within_29 ?_
          obtain ⟨r5, w6, e7, hf⟩ := ra_bd hf
          refine rg_callVV (pc := 32) (As := [.ref ((zG Z).1 16)]) (st := []) C (kX4_copy (zl Z) (zG Z) C.hj k 23 16 ra_S23 ra_S16 _ _ _ e7) kd_23 (by decide) rfl ysX4_copy rfl wd_484 ⟨Nat.le_of_ble_eq_true rfl, Nat.le_of_ble_eq_true rfl⟩ rfl (Nat.le_of_ble_eq_true rfl) dX5_within_32 ?_
          refine rg_iconst (pc := 35) (v := 0) C dX5_within_35 (by decide) ?_
          refine rg_istore (pc := 36) (lv' := [(0, .ref ((zG Z).1 0)), (1, .int v1), (2, .int v2), (3, .int 0), (4, .int 0)]) C [1, 2, 3, 4, 0] rfl (by decide) dX5_within_36 ?_
          exact ih1 _ _ _ _ _ hf
        · replace hf := ra_f hf c4
          refine rg_iconst (pc := 20) (v := (-1)) C dX5_within_20 (by decide) ?_
          exact rg_iret (pc := 21) C hQ hr hf dX5_within_21
set_option maxHeartbeats 4000000 in
theorem tX5_within_1 {Z : ra_Z} {r : Int32} {w1 : ra_W} (C : ra_C Z cX5_within 5 RX5 5 117) (hQ : ra_QI Z r w1) (hr : (zmt Z).sig.returnType = (some .int)) (k : Nat) (n : Nat) (ih2 : pX5_within_2 Z r w1 k n) : pX5_within_1 Z r w1 k (n + 1) := by
  intro v1 v2 v3 v4 w hf
  rw [fX5_within_1] at hf
  refine rg_iload (pc := 38) C 4 rfl dX5_within_38 ?_
  refine rg_iload_n (pc := 40) C 1 rfl rfl dX5_within_40 ?_
  refine rg_icmp_ge (pc := 41) (tgt := 90) C dX5_within_41 (by decide) (fun c1 => ?_) (fun c1 => ?_)
  · replace hf := ra_t hf c1
    refine rg_iload_n (pc := 90) C 2 rfl rfl dX5_within_90 ?_
    obtain ⟨r2, w3, e4, hf⟩ := ra_bd hf
    refine rg_callSI (pc := 91) (As := [.int v2]) (st := []) C (kX5_isSite (zl Z) (zG Z) C.hj k _ _ _ _ e4) ysX5_isSite rfl wd_442 ⟨Nat.le_of_ble_eq_true rfl, Nat.le_of_ble_eq_true rfl⟩ rfl (Nat.le_of_ble_eq_true rfl) dX5_within_91 ?_
    refine rg_if_eq (pc := 94) (tgt := 99) C dX5_within_94 (by decide) (fun c5 => ?_) (fun c5 => ?_)
    · replace hf := ra_t hf c5
      refine rg_iload_n (pc := 99) C 2 rfl rfl dX5_within_99 ?_
      refine rg_iconst (pc := 100) (v := 2) C dX5_within_100 (by decide) ?_
      refine rg_icmp_ne (pc := 101) (tgt := 122) C dX5_within_101 (by decide) (fun c6 => ?_) (fun c6 => ?_)
      · replace hf := ra_f hf c6
        refine rg_aload_n (pc := 122) C 0 rfl rfl dX5_within_122 ?_
        refine rg_get (pc := 123) C 0 5 5 kd_0 (by decide) rfl inlX5 (by decide) wd_206 rfl dX5_within_123 ?_
        refine rg_get (pc := 126) C 23 4 9 kd_23 (by decide) rfl inlX4 (by decide) wd_159 rfl dX5_within_126 ?_
        refine rg_aload_n (pc := 129) C 0 rfl rfl dX5_within_129 ?_
        refine rg_get (pc := 130) C 0 5 4 kd_0 (by decide) rfl inlX5 (by decide) wd_205 rfl dX5_within_130 ?_
        refine rg_get (pc := 133) C 16 4 9 kd_16 (by decide) rfl inlX4 (by decide) wd_159 rfl dX5_within_133 ?_
        refine rg_isub (pc := 136) C dX5_within_136 ?_
        exact rg_iret (pc := 137) C hQ hr hf dX5_within_137
      · replace hf := ra_t hf c6
        refine rg_aload_n (pc := 104) C 0 rfl rfl dX5_within_104 ?_
        refine rg_get (pc := 105) C 0 5 5 kd_0 (by decide) rfl inlX5 (by decide) wd_206 rfl dX5_within_105 ?_
        refine rg_get (pc := 108) C 23 4 7 kd_23 (by decide) rfl inlX4 (by decide) wd_153 rfl dX5_within_108 ?_
        refine rg_aload_n (pc := 111) C 0 rfl rfl dX5_within_111 ?_
        refine rg_get (pc := 112) C 0 5 4 kd_0 (by decide) rfl inlX5 (by decide) wd_205 rfl dX5_within_112 ?_
        refine rg_get (pc := 115) C 16 4 7 kd_16 (by decide) rfl inlX4 (by decide) wd_153 rfl dX5_within_115 ?_
        refine rg_isub (pc := 118) C dX5_within_118 ?_
        refine rg_goto (pc := 119) (tgt := 137) C dX5_within_119 (by decide) ?_
        exact rg_iret (pc := 137) C hQ hr hf dX5_within_137
    · replace hf := ra_f hf c5
      refine rg_iload_n (pc := 97) C 3 rfl rfl dX5_within_97 ?_
      exact rg_iret (pc := 98) C hQ hr hf dX5_within_98
  · replace hf := ra_f hf c1
    refine rg_aload_n (pc := 44) C 0 rfl rfl dX5_within_44 ?_
    refine rg_get (pc := 45) C 0 5 3 kd_0 (by decide) rfl inlX5 (by decide) wd_204 rfl dX5_within_45 ?_
    refine rg_aload_n (pc := 48) C 0 rfl rfl dX5_within_48 ?_
    refine rg_get (pc := 49) C 0 5 1 kd_0 (by decide) rfl inlX5 (by decide) wd_202 rfl dX5_within_49 ?_
    refine rg_aload_n (pc := 52) C 0 rfl rfl dX5_within_52 ?_
    refine rg_get (pc := 53) C 0 5 5 kd_0 (by decide) rfl inlX5 (by decide) wd_206 rfl dX5_within_53 ?_
    obtain ⟨r7, w8, e9, hf⟩ := ra_bd hf
    refine rg_callVV (pc := 56) (As := [.ref ((zG Z).1 3), .ref ((zG Z).1 23)]) (st := []) C (kX0_pass (zl Z) (zG Z) C.hj k 3 23 ra_N3 ra_S23 _ _ _ e9) kd_13 (by decide) rfl ysX0_pass rfl wd_349 ⟨Nat.le_of_ble_eq_true rfl, Nat.le_of_ble_eq_true rfl⟩ rfl (Nat.le_of_ble_eq_true rfl) dX5_within_56 ?_
    refine rg_iload_n (pc := 59) C 2 rfl rfl dX5_within_59 ?_
    obtain ⟨r10, w11, e12, hf⟩ := ra_bd hf
    refine rg_callSI (pc := 60) (As := [.int v2]) (st := []) C (kX5_isSite (zl Z) (zG Z) C.hj k _ _ _ _ e12) ysX5_isSite rfl wd_442 ⟨Nat.le_of_ble_eq_true rfl, Nat.le_of_ble_eq_true rfl⟩ rfl (Nat.le_of_ble_eq_true rfl) dX5_within_60 ?_
    refine rg_if_eq (pc := 63) (tgt := 84) C dX5_within_63 (by decide) (fun c13 => ?_) (fun c13 => ?_)
    · replace hf := ra_t hf c13
      exact ih2 _ _ _ _ _ hf
    · replace hf := ra_f hf c13
      refine rg_iload_n (pc := 66) C 3 rfl rfl dX5_within_66 ?_
      refine rg_aload_n (pc := 67) C 0 rfl rfl dX5_within_67 ?_
      refine rg_get (pc := 68) C 0 5 5 kd_0 (by decide) rfl inlX5 (by decide) wd_206 rfl dX5_within_68 ?_
      refine rg_aload_n (pc := 71) C 0 rfl rfl dX5_within_71 ?_
      refine rg_get (pc := 72) C 0 5 1 kd_0 (by decide) rfl inlX5 (by decide) wd_202 rfl dX5_within_72 ?_
      obtain ⟨r14, w15, e16, hf⟩ := ra_bd hf
      refine rg_callVI (pc := 75) (As := [.ref ((zG Z).1 3)]) (st := [.int v3]) C (kX4_fullSites (zl Z) (zG Z) C.hj k 23 3 ra_S23 ra_N3 _ _ _ e16) kd_23 (by decide) rfl ysX4_fullSites rfl wd_489 ⟨Nat.le_of_ble_eq_true rfl, Nat.le_of_ble_eq_true rfl⟩ rfl (Nat.le_of_ble_eq_true rfl) dX5_within_75 ?_
      refine rg_iload_n (pc := 78) C 2 rfl rfl dX5_within_78 ?_
      refine rg_ishr (pc := 79) C dX5_within_79 ?_
      refine rg_iconst (pc := 80) (v := 1) C dX5_within_80 (by decide) ?_
      refine rg_iand (pc := 81) C dX5_within_81 ?_
      refine rg_iadd (pc := 82) C dX5_within_82 ?_
      refine rg_istore_n (pc := 83) (lv' := [(0, .ref ((zG Z).1 0)), (1, .int v1), (2, .int v2), (3, .int (v3 + ((r14 >>> (v2 &&& 31)) &&& 1))), (4, .int v4)]) C [1, 2, 3, 0, 4] rfl rfl (by decide) dX5_within_83 ?_
      exact ih2 _ _ _ _ _ hf
set_option maxHeartbeats 4000000 in
theorem tX5_within_2 {Z : ra_Z} {r : Int32} {w1 : ra_W} (C : ra_C Z cX5_within 5 RX5 5 117) (hQ : ra_QI Z r w1) (hr : (zmt Z).sig.returnType = (some .int)) (k : Nat) (n : Nat) (ih1 : pX5_within_1 Z r w1 k n) : pX5_within_2 Z r w1 k (n + 1) := by
  intro v1 v2 v3 v4 w hf
  rw [fX5_within_2] at hf
  refine rg_iinc (pc := 84) (v := (v4 + 1)) (lv' := [(0, .ref ((zG Z).1 0)), (1, .int v1), (2, .int v2), (3, .int v3), (4, .int (v4 + 1))]) C 4 rfl [1, 2, 3, 4, 0] (ra_ii (by decide)) rfl (by decide) dX5_within_84 ?_
  refine rg_goto (pc := 87) (tgt := 38) C dX5_within_87 (by decide) ?_
  exact ih1 _ _ _ _ _ hf
theorem tX5_within {Z : ra_Z} {r : Int32} {w1 : ra_W} (C : ra_C Z cX5_within 5 RX5 5 117) (hQ : ra_QI Z r w1) (hr : (zmt Z).sig.returnType = (some .int)) (k : Nat) : ∀ n : Nat, pX5_within_0 Z r w1 k n ∧ pX5_within_1 Z r w1 k n ∧ pX5_within_2 Z r w1 k n := by
  intro n
  induction n with
  | zero => exact ⟨(fun _ _ _ _ _ h => by cases h), (fun _ _ _ _ _ h => by cases h), (fun _ _ _ _ _ h => by cases h)⟩
  | succ n ih =>
    obtain ⟨ih0, ih1, ih2⟩ := ih
    exact ⟨tX5_within_0 C hQ hr k n ih1, tX5_within_1 C hQ hr k n ih2, tX5_within_2 C hQ hr k n ih1⟩
theorem kX5_within (l : Launch) (G : ra_G) (hj : ra_inj G) (k : Nat) (v1 : Int32) (v2 : Int32) (w : ra_W) (r : Int32) (w1 : ra_W) (h : FX5_within k v1 v2 w = some (r, w1)) : ra_MI l G yX5_within cX5_within 5 (some .int) 5 117 [.ref (G.1 0), .int v1, .int v2] w r w1 :=
  ra_entryI (own := RX5) (by decide) rfl (Nat.le_of_ble_eq_true rfl) hj (fun Z hl hG C hQ hr => by subst hl; subst hG; exact (tX5_within C hQ hr k k).1 _ _ _ _ _ h)
theorem ysX5_within : ra_YV yX5_within cX5_within 5 (some .int) 2 RX5 := ⟨⟨wd_1, wd_488, by decide, by decide, by decide⟩, wd_486, wd_487⟩
/-- TrunkRadio.waveLasts -/
def fX5_waveLasts (k : Nat) : Nat → Nat → Int32 → Int32 → ra_W → Option (Int32 × ra_W)
  | 0, _, _, _, _ => none
  | n + 1, L, v1, v2, w => match L with
    | 0 => ra_bind (FX4_copy k 23 16 w) (fun _ w2 => ra_bind (FX4_pressIdle k 23 3 v1 w2) (fun _ w5 => fX5_waveLasts k n 1 0 0 w5))
    | _ => if 60 < v2 then (some ((-9), w)) else (ra_bind (FX4_isAnyWaiting k 23 3 w) (fun r2 w3 => if r2 = 0 then (some (v2, w3)) else (ra_bind (FX0_pass k 3 23 w3) (fun _ w7 => fX5_waveLasts k n 1 0 (v2 + 1) w7))))
theorem fX5_waveLasts_0 (k : Nat) (n : Nat) (v1 : Int32) (v2 : Int32) (w : ra_W) : fX5_waveLasts k (n + 1) 0 v1 v2 w = (ra_bind (FX4_copy k 23 16 w) (fun _ w2 => ra_bind (FX4_pressIdle k 23 3 v1 w2) (fun _ w5 => fX5_waveLasts k n 1 0 0 w5))) := rfl
theorem fX5_waveLasts_1 (k : Nat) (n : Nat) (v1 : Int32) (v2 : Int32) (w : ra_W) : fX5_waveLasts k (n + 1) 1 v1 v2 w = (if 60 < v2 then (some ((-9), w)) else (ra_bind (FX4_isAnyWaiting k 23 3 w) (fun r2 w3 => if r2 = 0 then (some (v2, w3)) else (ra_bind (FX0_pass k 3 23 w3) (fun _ w7 => fX5_waveLasts k n 1 0 (v2 + 1) w7))))) := rfl
def FX5_waveLasts (k : Nat) (v1 : Int32) (w : ra_W) : Option (Int32 × ra_W) := fX5_waveLasts k k 0 v1 0 w
def pX5_waveLasts_0 (Z : ra_Z) (r : Int32) (w1 : ra_W) (k : Nat) (n : Nat) : Prop := ∀ (v1 : Int32) (v2 : Int32) (w : ra_W), fX5_waveLasts k n 0 v1 v2 w = some (r, w1) → ra_J Z 3 0 [(0, .ref ((zG Z).1 0)), (1, .int v1)] [] w
def pX5_waveLasts_1 (Z : ra_Z) (r : Int32) (w1 : ra_W) (k : Nat) (n : Nat) : Prop := ∀ (v1 : Int32) (v2 : Int32) (w : ra_W), fX5_waveLasts k n 1 v1 v2 w = some (r, w1) → ra_J Z 3 25 [(0, .ref ((zG Z).1 0)), (2, .int v2)] [] w
set_option maxHeartbeats 4000000 in
theorem tX5_waveLasts_0 {Z : ra_Z} {r : Int32} {w1 : ra_W} (C : ra_C Z cX5_waveLasts 3 RX5 5 117) (hQ : ra_QI Z r w1) (hr : (zmt Z).sig.returnType = (some .int)) (k : Nat) (n : Nat) (ih1 : pX5_waveLasts_1 Z r w1 k n) : pX5_waveLasts_0 Z r w1 k (n + 1) := by
  intro v1 v2 w hf
  rw [fX5_waveLasts_0] at hf
  refine rg_aload_n (pc := 0) C 0 rfl rfl dX5_waveLasts_0 ?_
  refine rg_get (pc := 1) C 0 5 5 kd_0 (by decide) rfl inlX5 (by decide) wd_206 rfl dX5_waveLasts_1 ?_
  refine rg_aload_n (pc := 4) C 0 rfl rfl dX5_waveLasts_4 ?_
  refine rg_get (pc := 5) C 0 5 4 kd_0 (by decide) rfl inlX5 (by decide) wd_205 rfl dX5_waveLasts_5 ?_
  obtain ⟨r1, w2, e3, hf⟩ := ra_bd hf
  refine rg_callVV (pc := 8) (As := [.ref ((zG Z).1 16)]) (st := []) C (kX4_copy (zl Z) (zG Z) C.hj k 23 16 ra_S23 ra_S16 _ _ _ e3) kd_23 (by decide) rfl ysX4_copy rfl wd_484 ⟨Nat.le_of_ble_eq_true rfl, Nat.le_of_ble_eq_true rfl⟩ rfl (Nat.le_of_ble_eq_true rfl) dX5_waveLasts_8 ?_
  refine rg_aload_n (pc := 11) C 0 rfl rfl dX5_waveLasts_11 ?_
  refine rg_get (pc := 12) C 0 5 5 kd_0 (by decide) rfl inlX5 (by decide) wd_206 rfl dX5_waveLasts_12 ?_
  refine rg_aload_n (pc := 15) C 0 rfl rfl dX5_waveLasts_15 ?_
  refine rg_get (pc := 16) C 0 5 1 kd_0 (by decide) rfl inlX5 (by decide) wd_202 rfl dX5_waveLasts_16 ?_
  refine rg_iload_n (pc := 19) C 1 rfl rfl dX5_waveLasts_19 ?_
  obtain ⟨r4, w5, e6, hf⟩ := ra_bd hf
  refine rg_callVV (pc := 20) (As := [.ref ((zG Z).1 3), .int v1]) (st := []) C (kX4_pressIdle (zl Z) (zG Z) C.hj k 23 3 ra_S23 ra_N3 _ _ _ _ e6) kd_23 (by decide) rfl ysX4_pressIdle rfl wd_498 ⟨Nat.le_of_ble_eq_true rfl, Nat.le_of_ble_eq_true rfl⟩ rfl (Nat.le_of_ble_eq_true rfl) dX5_waveLasts_20 ?_
  refine rg_iconst (pc := 23) (v := 0) C dX5_waveLasts_23 (by decide) ?_
  refine rg_istore_n (pc := 24) (lv' := [(0, .ref ((zG Z).1 0)), (1, .int v1), (2, .int 0)]) C [1, 2, 0] rfl rfl (by decide) dX5_waveLasts_24 ?_
  refine rg_sub [0, 2] rfl ?_
  exact ih1 _ _ _ hf
set_option maxHeartbeats 4000000 in
theorem tX5_waveLasts_1 {Z : ra_Z} {r : Int32} {w1 : ra_W} (C : ra_C Z cX5_waveLasts 3 RX5 5 117) (hQ : ra_QI Z r w1) (hr : (zmt Z).sig.returnType = (some .int)) (k : Nat) (n : Nat) (ih1 : pX5_waveLasts_1 Z r w1 k n) : pX5_waveLasts_1 Z r w1 k (n + 1) := by
  intro v1 v2 w hf
  rw [fX5_waveLasts_1] at hf
  refine rg_iload_n (pc := 25) C 1 rfl rfl dX5_waveLasts_25 ?_
  refine rg_bipush (pc := 26) (v := 60) C dX5_waveLasts_26 (by decide) ?_
  refine rg_icmp_gt (pc := 28) (tgt := 68) C dX5_waveLasts_28 (by decide) (fun c1 => ?_) (fun c1 => ?_)
  · replace hf := ra_t hf c1
    refine rg_bipush (pc := 68) (v := (-9)) C dX5_waveLasts_68 (by decide) ?_
    exact rg_iret (pc := 70) C hQ hr hf dX5_waveLasts_70
  · replace hf := ra_f hf c1
    refine rg_aload_n (pc := 31) C 0 rfl rfl dX5_waveLasts_31 ?_
    refine rg_get (pc := 32) C 0 5 5 kd_0 (by decide) rfl inlX5 (by decide) wd_206 rfl dX5_waveLasts_32 ?_
    refine rg_aload_n (pc := 35) C 0 rfl rfl dX5_waveLasts_35 ?_
    refine rg_get (pc := 36) C 0 5 1 kd_0 (by decide) rfl inlX5 (by decide) wd_202 rfl dX5_waveLasts_36 ?_
    obtain ⟨r2, w3, e4, hf⟩ := ra_bd hf
    refine rg_callVI (pc := 39) (As := [.ref ((zG Z).1 3)]) (st := []) C (kX4_isAnyWaiting (zl Z) (zG Z) C.hj k 23 3 ra_S23 ra_N3 _ _ _ e4) kd_23 (by decide) rfl ysX4_isAnyWaiting rfl wd_502 ⟨Nat.le_of_ble_eq_true rfl, Nat.le_of_ble_eq_true rfl⟩ rfl (Nat.le_of_ble_eq_true rfl) dX5_waveLasts_39 ?_
    refine rg_if_ne (pc := 42) (tgt := 47) C dX5_waveLasts_42 (by decide) (fun c5 => ?_) (fun c5 => ?_)
    · replace hf := ra_f hf c5
      refine rg_aload_n (pc := 47) C 0 rfl rfl dX5_waveLasts_47 ?_
      refine rg_get (pc := 48) C 0 5 3 kd_0 (by decide) rfl inlX5 (by decide) wd_204 rfl dX5_waveLasts_48 ?_
      refine rg_aload_n (pc := 51) C 0 rfl rfl dX5_waveLasts_51 ?_
      refine rg_get (pc := 52) C 0 5 1 kd_0 (by decide) rfl inlX5 (by decide) wd_202 rfl dX5_waveLasts_52 ?_
      refine rg_aload_n (pc := 55) C 0 rfl rfl dX5_waveLasts_55 ?_
      refine rg_get (pc := 56) C 0 5 5 kd_0 (by decide) rfl inlX5 (by decide) wd_206 rfl dX5_waveLasts_56 ?_
      obtain ⟨r6, w7, e8, hf⟩ := ra_bd hf
      refine rg_callVV (pc := 59) (As := [.ref ((zG Z).1 3), .ref ((zG Z).1 23)]) (st := []) C (kX0_pass (zl Z) (zG Z) C.hj k 3 23 ra_N3 ra_S23 _ _ _ e8) kd_13 (by decide) rfl ysX0_pass rfl wd_349 ⟨Nat.le_of_ble_eq_true rfl, Nat.le_of_ble_eq_true rfl⟩ rfl (Nat.le_of_ble_eq_true rfl) dX5_waveLasts_59 ?_
      refine rg_iinc (pc := 62) (v := (v2 + 1)) (lv' := [(0, .ref ((zG Z).1 0)), (2, .int (v2 + 1))]) C 1 rfl [1, 0] (ra_ii (by decide)) rfl (by decide) dX5_waveLasts_62 ?_
      refine rg_goto (pc := 65) (tgt := 25) C dX5_waveLasts_65 (by decide) ?_
      exact ih1 _ _ _ hf
    · replace hf := ra_t hf c5
      refine rg_iload_n (pc := 45) C 1 rfl rfl dX5_waveLasts_45 ?_
      exact rg_iret (pc := 46) C hQ hr hf dX5_waveLasts_46
theorem tX5_waveLasts {Z : ra_Z} {r : Int32} {w1 : ra_W} (C : ra_C Z cX5_waveLasts 3 RX5 5 117) (hQ : ra_QI Z r w1) (hr : (zmt Z).sig.returnType = (some .int)) (k : Nat) : ∀ n : Nat, pX5_waveLasts_0 Z r w1 k n ∧ pX5_waveLasts_1 Z r w1 k n := by
  intro n
  induction n with
  | zero => exact ⟨(fun _ _ _ h => by cases h), (fun _ _ _ h => by cases h)⟩
  | succ n ih =>
    obtain ⟨ih0, ih1⟩ := ih
    exact ⟨tX5_waveLasts_0 C hQ hr k n ih1, tX5_waveLasts_1 C hQ hr k n ih1⟩
theorem kX5_waveLasts (l : Launch) (G : ra_G) (hj : ra_inj G) (k : Nat) (v1 : Int32) (w : ra_W) (r : Int32) (w1 : ra_W) (h : FX5_waveLasts k v1 w = some (r, w1)) : ra_MI l G yX5_waveLasts cX5_waveLasts 3 (some .int) 5 117 [.ref (G.1 0), .int v1] w r w1 :=
  ra_entryI (own := RX5) (by decide) rfl (Nat.le_of_ble_eq_true rfl) hj (fun Z hl hG C hQ hr => by subst hl; subst hG; exact (tX5_waveLasts C hQ hr k k).1 _ _ _ h)
theorem ysX5_waveLasts : ra_YV yX5_waveLasts cX5_waveLasts 3 (some .int) 1 RX5 := ⟨⟨wd_1, wd_497, by decide, by decide, by decide⟩, wd_496, wp_12⟩
